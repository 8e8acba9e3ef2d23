theorem dc_Ma_without_0 : decode M_Ma_without.2.1 0 = .ok (.iload_n 1, 1) := by decide +kernel
theorem dc_Ma_without_1 : decode M_Ma_without.2.1 1 = .ok (.iconst 1, 1) := by decide +kernel
theorem dc_Ma_without_2 : decode M_Ma_without.2.1 2 = .ok (.if_icmp .lt 16, 3) := by decide +kernel
theorem dc_Ma_without_5 : decode M_Ma_without.2.1 5 = .ok (.iload_n 1, 1) := by decide +kernel
theorem dc_Ma_without_6 : decode M_Ma_without.2.1 6 = .ok (.iconst 5, 1) := by decide +kernel
theorem dc_Ma_without_7 : decode M_Ma_without.2.1 7 = .ok (.if_icmp .gt 11, 3) := by decide +kernel
theorem dc_Ma_without_10 : decode M_Ma_without.2.1 10 = .ok (.iload_n 2, 1) := by decide +kernel
theorem dc_Ma_without_11 : decode M_Ma_without.2.1 11 = .ok (.iconst 1, 1) := by decide +kernel
theorem dc_Ma_without_12 : decode M_Ma_without.2.1 12 = .ok (.invokestatic 148, 3) := by decide +kernel
theorem dc_Ma_without_15 : decode M_Ma_without.2.1 15 = .ok (.ifCond .ne 6, 3) := by decide +kernel
theorem dc_Ma_without_18 : decode M_Ma_without.2.1 18 = .ok (.bipush (-2), 2) := by decide +kernel
theorem dc_Ma_without_20 : decode M_Ma_without.2.1 20 = .ok (.ireturn, 1) := by decide +kernel
theorem dc_Ma_without_21 : decode M_Ma_without.2.1 21 = .ok (.aload_n 0, 1) := by decide +kernel
theorem dc_Ma_without_22 : decode M_Ma_without.2.1 22 = .ok (.getfield 53, 3) := by decide +kernel
theorem dc_Ma_without_25 : decode M_Ma_without.2.1 25 = .ok (.iload_n 1, 1) := by decide +kernel
theorem dc_Ma_without_26 : decode M_Ma_without.2.1 26 = .ok (.invokevirtual 283, 3) := by decide +kernel
theorem dc_Ma_without_29 : decode M_Ma_without.2.1 29 = .ok (.iload_n 2, 1) := by decide +kernel
theorem dc_Ma_without_30 : decode M_Ma_without.2.1 30 = .ok (.ifCond .ne 13, 3) := by decide +kernel
theorem dc_Ma_without_33 : decode M_Ma_without.2.1 33 = .ok (.aload_n 0, 1) := by decide +kernel
theorem dc_Ma_without_34 : decode M_Ma_without.2.1 34 = .ok (.getfield 53, 3) := by decide +kernel
theorem dc_Ma_without_37 : decode M_Ma_without.2.1 37 = .ok (.getfield 286, 3) := by decide +kernel
theorem dc_Ma_without_40 : decode M_Ma_without.2.1 40 = .ok (.goto 10, 3) := by decide +kernel
theorem dc_Ma_without_43 : decode M_Ma_without.2.1 43 = .ok (.aload_n 0, 1) := by decide +kernel
theorem dc_Ma_without_44 : decode M_Ma_without.2.1 44 = .ok (.getfield 53, 3) := by decide +kernel
theorem dc_Ma_without_47 : decode M_Ma_without.2.1 47 = .ok (.getfield 289, 3) := by decide +kernel
theorem dc_Ma_without_50 : decode M_Ma_without.2.1 50 = .ok (.ireturn, 1) := by decide +kernel
def f_Ma_without (a0 : Nat) (a1 : Int32) (a2 : Int32) (h : xH) : Option (Int32 × xH) := jn (fun (x9 : xH) => some ((-2 : Int32), x9)) (fun k10 => if a1 < (1 : Int32) then k10 h else if (5 : Int32) < a1 then k10 h else Option.bind (f_Ma_isWithin a2 (1 : Int32) h) (fun q13 => if q13.1 = 0 then k10 q13.2 else gd (hK q13.2 a0 = 10) (gd (hK q13.2 (hR q13.2 a0 5) = 9) (Option.bind (f_Wa_drawAll (hR q13.2 a0 5) a1 q13.2) (fun q16 => jn (fun (x18 : Int32) => some (x18, q16.2)) (fun k19 => if a2 = 0 then gd (hK q16.2 a0 = 10) (gd (hK q16.2 (hR q16.2 a0 5) = 9) (k19 (hI q16.2 (hR q16.2 a0 5) 3))) else gd (hK q16.2 a0 = 10) (gd (hK q16.2 (hR q16.2 a0 5) = 9) (k19 (hI q16.2 (hR q16.2 a0 5) 5)))))))))
theorem t_Ma_without {l : Launch} {z : xZ} {d mc ms : Nat} {Ph : Option xV → xH → Prop} {a0 : Nat} {a1 : Int32} {a2 : Int32}  {h : xH} (hd : 74 ≤ d) (hk : OK (f_Ma_without a0 a1 a2 h) (fun q => Ph (some (xI q.1)) q.2)) : Sx l z d mc ms M_Ma_without 0 (x_en [xR a0, xI a1, xI a2] 3) [] h Ph := by
  unfold f_Ma_without at hk
  refine sx_eq (lc2 := [some (xR a0), some (xI a1), some (xI a2)]) rfl rfl ?_
  refine sx_iload_n dc_Ma_without_0 rfl ?_
  refine sx_iconst (v := (1 : Int32)) dc_Ma_without_1 (by decide) ?_
  refine hk.j (X := fun x9 => Sx l z d mc ms M_Ma_without 18 [some (xR a0), some (xI a1), some (xI a2)] [] x9 Ph) (fun x9 hk => ?_) (fun k10 jk10 hk => ?_)
  · refine sx_bipush (v := (-2 : Int32)) dc_Ma_without_18 (by decide) ?_
    exact sx_retI dc_Ma_without_20 rfl hk.val
  · refine sx_icmp_lt (tgt := 18) dc_Ma_without_2 (by decide) (fun c11 => ?_) (fun c11 => ?_)
    · replace hk := hk.t c11
      exact jk10 h hk
    · replace hk := hk.f c11
      refine sx_iload_n dc_Ma_without_5 rfl ?_
      refine sx_iconst (v := (5 : Int32)) dc_Ma_without_6 (by decide) ?_
      refine sx_icmp_gt (tgt := 18) dc_Ma_without_7 (by decide) (fun c12 => ?_) (fun c12 => ?_)
      · replace hk := hk.t c12
        exact jk10 h hk
      · replace hk := hk.f c12
        refine sx_iload_n dc_Ma_without_10 rfl ?_
        refine sx_iconst (v := (1 : Int32)) dc_Ma_without_11 (by decide) ?_
        obtain ⟨q13, eq13, hk⟩ := hk.bind
        refine sx_callS (d2 := d - 1) (mc2 := 0) (ms2 := 0) (as := [xI a2, xI (1 : Int32)]) mk_Ma_isWithin rfl wM_Ma_148 mt_Ma_isWithin rfl (Nat.le_of_ble_eq_true rfl) (Nat.le_of_ble_eq_true rfl) dc_Ma_without_12 (by omega) (Nat.zero_le _) (Nat.zero_le _) ?_
        refine t_Ma_isWithin (by omega) ⟨q13, eq13, ?_⟩
        refine sx_eq0 (lc2 := [some (xR a0), some (xI a1), some (xI a2)]) (st2 := [xI q13.1]) rfl rfl ?_
        refine sx_if_ne (tgt := 21) dc_Ma_without_15 (by decide) (fun c14 => ?_) (fun c14 => ?_)
        · replace hk := hk.f c14
          refine sx_aload_n dc_Ma_without_21 rfl ?_
          obtain ⟨g15, hk⟩ := hk.g
          refine sx_get (ci := 10) (k := 5) rfl (by decide) wF_Ma_53 g15 dc_Ma_without_22 ?_
          refine sx_iload_n dc_Ma_without_25 rfl ?_
          obtain ⟨g17, hk⟩ := hk.g
          obtain ⟨q16, eq16, hk⟩ := hk.bind
          refine sx_callV (d2 := d - 1) (mc2 := 0) (ms2 := 0) (as := [xI a1]) mk_Wa_drawAll rfl (x_rk (ci := 9) g17 rfl rfl) wM_Ma_283 mi_Wa_drawAll me_Wa_drawAll rfl (Nat.le_of_ble_eq_true rfl) (Nat.le_of_ble_eq_true rfl) dc_Ma_without_26 (by omega) (Nat.zero_le _) (Nat.zero_le _) ?_
          refine t_Wa_drawAll (by omega) ⟨q16, eq16, ?_⟩
          refine sx_eq0 (lc2 := [some (xR a0), some (xI a1), some (xI a2)]) (st2 := []) rfl rfl ?_
          refine sx_iload_n dc_Ma_without_29 rfl ?_
          refine hk.j (X := fun x18 => Sx l z d mc ms M_Ma_without 50 [some (xR a0), some (xI a1), some (xI a2)] [xI x18] q16.2 Ph) (fun x18 hk => ?_) (fun k19 jk19 hk => ?_)
          · exact sx_retI dc_Ma_without_50 rfl hk.val
          · refine sx_if_ne (tgt := 43) dc_Ma_without_30 (by decide) (fun c20 => ?_) (fun c20 => ?_)
            · replace hk := hk.f c20
              refine sx_aload_n dc_Ma_without_43 rfl ?_
              obtain ⟨g21, hk⟩ := hk.g
              refine sx_get (ci := 10) (k := 5) rfl (by decide) wF_Ma_53 g21 dc_Ma_without_44 ?_
              obtain ⟨g22, hk⟩ := hk.g
              refine sx_get (ci := 9) (k := 5) rfl (by decide) wF_Ma_289 g22 dc_Ma_without_47 ?_
              exact jk19 (hI q16.2 (hR q16.2 a0 5) 5) hk
            · replace hk := hk.t c20
              refine sx_aload_n dc_Ma_without_33 rfl ?_
              obtain ⟨g23, hk⟩ := hk.g
              refine sx_get (ci := 10) (k := 5) rfl (by decide) wF_Ma_53 g23 dc_Ma_without_34 ?_
              obtain ⟨g24, hk⟩ := hk.g
              refine sx_get (ci := 9) (k := 3) rfl (by decide) wF_Ma_286 g24 dc_Ma_without_37 ?_
              refine sx_goto (tgt := 50) dc_Ma_without_40 (by decide) ?_
              exact jk19 (hI q16.2 (hR q16.2 a0 5) 3) hk
        · replace hk := hk.t c14
          exact jk10 q13.2 hk
theorem dc_Ma_unseenPairs_0 : decode M_Ma_unseenPairs.2.1 0 = .ok (.aload_n 0, 1) := by decide +kernel
theorem dc_Ma_unseenPairs_1 : decode M_Ma_unseenPairs.2.1 1 = .ok (.getfield 21, 3) := by decide +kernel
theorem dc_Ma_unseenPairs_4 : decode M_Ma_unseenPairs.2.1 4 = .ok (.invokevirtual 132, 3) := by decide +kernel
theorem dc_Ma_unseenPairs_7 : decode M_Ma_unseenPairs.2.1 7 = .ok (.aload_n 0, 1) := by decide +kernel
theorem dc_Ma_unseenPairs_8 : decode M_Ma_unseenPairs.2.1 8 = .ok (.getfield 21, 3) := by decide +kernel
theorem dc_Ma_unseenPairs_11 : decode M_Ma_unseenPairs.2.1 11 = .ok (.getfield 201, 3) := by decide +kernel
theorem dc_Ma_unseenPairs_14 : decode M_Ma_unseenPairs.2.1 14 = .ok (.aload_n 0, 1) := by decide +kernel
theorem dc_Ma_unseenPairs_15 : decode M_Ma_unseenPairs.2.1 15 = .ok (.getfield 21, 3) := by decide +kernel
theorem dc_Ma_unseenPairs_18 : decode M_Ma_unseenPairs.2.1 18 = .ok (.getfield 207, 3) := by decide +kernel
theorem dc_Ma_unseenPairs_21 : decode M_Ma_unseenPairs.2.1 21 = .ok (.ior, 1) := by decide +kernel
theorem dc_Ma_unseenPairs_22 : decode M_Ma_unseenPairs.2.1 22 = .ok (.iconst (-1), 1) := by decide +kernel
theorem dc_Ma_unseenPairs_23 : decode M_Ma_unseenPairs.2.1 23 = .ok (.ixor, 1) := by decide +kernel
theorem dc_Ma_unseenPairs_24 : decode M_Ma_unseenPairs.2.1 24 = .ok (.iand, 1) := by decide +kernel
theorem dc_Ma_unseenPairs_25 : decode M_Ma_unseenPairs.2.1 25 = .ok (.invokestatic 139, 3) := by decide +kernel
theorem dc_Ma_unseenPairs_28 : decode M_Ma_unseenPairs.2.1 28 = .ok (.ireturn, 1) := by decide +kernel
def f_Ma_unseenPairs (a0 : Nat) (h : xH) : Option (Int32 × xH) := gd (hK h a0 = 10) (gd (hK h (hR h a0 1) = 6) (Option.bind (f_Ta_everyPair (hR h a0 1) h) (fun q8 => gd (hK q8.2 a0 = 10) (gd (hK q8.2 (hR q8.2 a0 1) = 6) (Option.bind (f_In_bitCount (q8.1 &&& (((hI q8.2 (hR q8.2 a0 1) 2) ||| (hI q8.2 (hR q8.2 a0 1) 3)) ^^^ (-1 : Int32))) q8.2) (fun q12 => some (q12.1, q12.2)))))))
theorem t_Ma_unseenPairs {l : Launch} {z : xZ} {d mc ms : Nat} {Ph : Option xV → xH → Prop} {a0 : Nat}  {h : xH} (hd : 3 ≤ d) (hk : OK (f_Ma_unseenPairs a0 h) (fun q => Ph (some (xI q.1)) q.2)) : Sx l z d mc ms M_Ma_unseenPairs 0 (x_en [xR a0] 1) [] h Ph := by
  unfold f_Ma_unseenPairs at hk
  refine sx_eq (lc2 := [some (xR a0)]) rfl rfl ?_
  refine sx_aload_n dc_Ma_unseenPairs_0 rfl ?_
  obtain ⟨g7, hk⟩ := hk.g
  refine sx_get (ci := 10) (k := 1) rfl (by decide) wF_Ma_21 g7 dc_Ma_unseenPairs_1 ?_
  obtain ⟨g9, hk⟩ := hk.g
  obtain ⟨q8, eq8, hk⟩ := hk.bind
  refine sx_callV (d2 := d - 1) (mc2 := 0) (ms2 := 0) (as := []) mk_Ta_everyPair rfl (x_rk (ci := 6) g9 rfl rfl) wM_Ma_132 mi_Ta_everyPair me_Ta_everyPair rfl (Nat.le_of_ble_eq_true rfl) (Nat.le_of_ble_eq_true rfl) dc_Ma_unseenPairs_4 (by omega) (Nat.zero_le _) (Nat.zero_le _) ?_
  refine t_Ta_everyPair (by omega) ⟨q8, eq8, ?_⟩
  refine sx_eq0 (lc2 := [some (xR a0)]) (st2 := [xI q8.1]) rfl rfl ?_
  refine sx_aload_n dc_Ma_unseenPairs_7 rfl ?_
  obtain ⟨g10, hk⟩ := hk.g
  refine sx_get (ci := 10) (k := 1) rfl (by decide) wF_Ma_21 g10 dc_Ma_unseenPairs_8 ?_
  obtain ⟨g11, hk⟩ := hk.g
  refine sx_get (ci := 6) (k := 2) rfl (by decide) wF_Ma_201 g11 dc_Ma_unseenPairs_11 ?_
  refine sx_aload_n dc_Ma_unseenPairs_14 rfl ?_
  refine sx_get (ci := 10) (k := 1) rfl (by decide) wF_Ma_21 g10 dc_Ma_unseenPairs_15 ?_
  refine sx_get (ci := 6) (k := 3) rfl (by decide) wF_Ma_207 g11 dc_Ma_unseenPairs_18 ?_
  refine sx_ior dc_Ma_unseenPairs_21 ?_
  refine sx_iconst (v := (-1 : Int32)) dc_Ma_unseenPairs_22 (by decide) ?_
  refine sx_ixor dc_Ma_unseenPairs_23 ?_
  refine sx_iand dc_Ma_unseenPairs_24 ?_
  obtain ⟨q12, eq12, hk⟩ := hk.bind
  refine sx_callS (d2 := d - 1) (mc2 := 0) (ms2 := 0) (as := [xI (q8.1 &&& (((hI q8.2 (hR q8.2 a0 1) 2) ||| (hI q8.2 (hR q8.2 a0 1) 3)) ^^^ (-1 : Int32)))]) mk_In_bitCount rfl wM_Ma_139 mt_In_bitCount rfl (Nat.le_of_ble_eq_true rfl) (Nat.le_of_ble_eq_true rfl) dc_Ma_unseenPairs_25 (by omega) (Nat.zero_le _) (Nat.zero_le _) ?_
  refine t_In_bitCount (by omega) ⟨q12, eq12, ?_⟩
  refine sx_eq0 (lc2 := [some (xR a0)]) (st2 := [xI q12.1]) rfl rfl ?_
  exact sx_retI dc_Ma_unseenPairs_28 rfl hk.val
theorem dc_Ma_half_0 : decode M_Ma_half.2.1 0 = .ok (.iload_n 1, 1) := by decide +kernel
theorem dc_Ma_half_1 : decode M_Ma_half.2.1 1 = .ok (.iconst 1, 1) := by decide +kernel
theorem dc_Ma_half_2 : decode M_Ma_half.2.1 2 = .ok (.invokestatic 148, 3) := by decide +kernel
theorem dc_Ma_half_5 : decode M_Ma_half.2.1 5 = .ok (.ifCond .ne 6, 3) := by decide +kernel
theorem dc_Ma_half_8 : decode M_Ma_half.2.1 8 = .ok (.bipush (-2), 2) := by decide +kernel
theorem dc_Ma_half_10 : decode M_Ma_half.2.1 10 = .ok (.ireturn, 1) := by decide +kernel
theorem dc_Ma_half_11 : decode M_Ma_half.2.1 11 = .ok (.aload_n 0, 1) := by decide +kernel
theorem dc_Ma_half_12 : decode M_Ma_half.2.1 12 = .ok (.invokevirtual 292, 3) := by decide +kernel
theorem dc_Ma_half_15 : decode M_Ma_half.2.1 15 = .ok (.bipush 10, 2) := by decide +kernel
theorem dc_Ma_half_17 : decode M_Ma_half.2.1 17 = .ok (.if_icmp .le 6, 3) := by decide +kernel
theorem dc_Ma_half_20 : decode M_Ma_half.2.1 20 = .ok (.bipush (-3), 2) := by decide +kernel
theorem dc_Ma_half_22 : decode M_Ma_half.2.1 22 = .ok (.ireturn, 1) := by decide +kernel
theorem dc_Ma_half_23 : decode M_Ma_half.2.1 23 = .ok (.aload_n 0, 1) := by decide +kernel
theorem dc_Ma_half_24 : decode M_Ma_half.2.1 24 = .ok (.getfield 53, 3) := by decide +kernel
theorem dc_Ma_half_27 : decode M_Ma_half.2.1 27 = .ok (.aload_n 0, 1) := by decide +kernel
theorem dc_Ma_half_28 : decode M_Ma_half.2.1 28 = .ok (.getfield 21, 3) := by decide +kernel
theorem dc_Ma_half_31 : decode M_Ma_half.2.1 31 = .ok (.invokevirtual 295, 3) := by decide +kernel
theorem dc_Ma_half_34 : decode M_Ma_half.2.1 34 = .ok (.iload_n 1, 1) := by decide +kernel
theorem dc_Ma_half_35 : decode M_Ma_half.2.1 35 = .ok (.ifCond .ne 13, 3) := by decide +kernel
theorem dc_Ma_half_38 : decode M_Ma_half.2.1 38 = .ok (.aload_n 0, 1) := by decide +kernel
theorem dc_Ma_half_39 : decode M_Ma_half.2.1 39 = .ok (.getfield 53, 3) := by decide +kernel
theorem dc_Ma_half_42 : decode M_Ma_half.2.1 42 = .ok (.getfield 286, 3) := by decide +kernel
theorem dc_Ma_half_45 : decode M_Ma_half.2.1 45 = .ok (.goto 10, 3) := by decide +kernel
theorem dc_Ma_half_48 : decode M_Ma_half.2.1 48 = .ok (.aload_n 0, 1) := by decide +kernel
theorem dc_Ma_half_49 : decode M_Ma_half.2.1 49 = .ok (.getfield 53, 3) := by decide +kernel
theorem dc_Ma_half_52 : decode M_Ma_half.2.1 52 = .ok (.getfield 299, 3) := by decide +kernel
theorem dc_Ma_half_55 : decode M_Ma_half.2.1 55 = .ok (.ireturn, 1) := by decide +kernel
def f_Ma_half (a0 : Nat) (a1 : Int32) (h : xH) : Option (Int32 × xH) := Option.bind (f_Ma_isWithin a1 (1 : Int32) h) (fun q11 => if q11.1 = 0 then some ((-2 : Int32), q11.2) else gd (hK q11.2 a0 = 10) (Option.bind (f_Ma_unseenPairs a0 q11.2) (fun q13 => if q13.1 ≤ (10 : Int32) then gd (hK q13.2 a0 = 10) (gd (hK q13.2 (hR q13.2 a0 5) = 9) (Option.bind (f_Wa_fillAll (hR q13.2 a0 5) (hR q13.2 a0 1) q13.2) (fun q17 => jn (fun (x19 : Int32) => some (x19, q17.2)) (fun k20 => if a1 = 0 then gd (hK q17.2 a0 = 10) (gd (hK q17.2 (hR q17.2 a0 5) = 9) (k20 (hI q17.2 (hR q17.2 a0 5) 3))) else gd (hK q17.2 a0 = 10) (gd (hK q17.2 (hR q17.2 a0 5) = 9) (k20 (hI q17.2 (hR q17.2 a0 5) 4))))))) else some ((-3 : Int32), q13.2))))
theorem t_Ma_half {l : Launch} {z : xZ} {d mc ms : Nat} {Ph : Option xV → xH → Prop} {a0 : Nat} {a1 : Int32}  {h : xH} (hd : 98 ≤ d) (hk : OK (f_Ma_half a0 a1 h) (fun q => Ph (some (xI q.1)) q.2)) : Sx l z d mc ms M_Ma_half 0 (x_en [xR a0, xI a1] 2) [] h Ph := by
  unfold f_Ma_half at hk
  refine sx_eq (lc2 := [some (xR a0), some (xI a1)]) rfl rfl ?_
  refine sx_iload_n dc_Ma_half_0 rfl ?_
  refine sx_iconst (v := (1 : Int32)) dc_Ma_half_1 (by decide) ?_
  obtain ⟨q11, eq11, hk⟩ := hk.bind
  refine sx_callS (d2 := d - 1) (mc2 := 0) (ms2 := 0) (as := [xI a1, xI (1 : Int32)]) mk_Ma_isWithin rfl wM_Ma_148 mt_Ma_isWithin rfl (Nat.le_of_ble_eq_true rfl) (Nat.le_of_ble_eq_true rfl) dc_Ma_half_2 (by omega) (Nat.zero_le _) (Nat.zero_le _) ?_
  refine t_Ma_isWithin (by omega) ⟨q11, eq11, ?_⟩
  refine sx_eq0 (lc2 := [some (xR a0), some (xI a1)]) (st2 := [xI q11.1]) rfl rfl ?_
  refine sx_if_ne (tgt := 11) dc_Ma_half_5 (by decide) (fun c12 => ?_) (fun c12 => ?_)
  · replace hk := hk.f c12
    refine sx_aload_n dc_Ma_half_11 rfl ?_
    obtain ⟨g14, hk⟩ := hk.g
    obtain ⟨q13, eq13, hk⟩ := hk.bind
    refine sx_callV (d2 := d - 1) (mc2 := 0) (ms2 := 0) (as := []) mk_Ma_unseenPairs rfl (x_rk (ci := 10) g14 rfl rfl) wM_Ma_292 mi_Ma_unseenPairs me_Ma_unseenPairs rfl (Nat.le_of_ble_eq_true rfl) (Nat.le_of_ble_eq_true rfl) dc_Ma_half_12 (by omega) (Nat.zero_le _) (Nat.zero_le _) ?_
    refine t_Ma_unseenPairs (by omega) ⟨q13, eq13, ?_⟩
    refine sx_eq0 (lc2 := [some (xR a0), some (xI a1)]) (st2 := [xI q13.1]) rfl rfl ?_
    refine sx_bipush (v := (10 : Int32)) dc_Ma_half_15 (by decide) ?_
    refine sx_icmp_le (tgt := 23) dc_Ma_half_17 (by decide) (fun c15 => ?_) (fun c15 => ?_)
    · replace hk := hk.t c15
      refine sx_aload_n dc_Ma_half_23 rfl ?_
      obtain ⟨g16, hk⟩ := hk.g
      refine sx_get (ci := 10) (k := 5) rfl (by decide) wF_Ma_53 g16 dc_Ma_half_24 ?_
      refine sx_aload_n dc_Ma_half_27 rfl ?_
      refine sx_get (ci := 10) (k := 1) rfl (by decide) wF_Ma_21 g16 dc_Ma_half_28 ?_
      obtain ⟨g18, hk⟩ := hk.g
      obtain ⟨q17, eq17, hk⟩ := hk.bind
      refine sx_callV (d2 := d - 1) (mc2 := 0) (ms2 := 0) (as := [xR (hR q13.2 a0 1)]) mk_Wa_fillAll rfl (x_rk (ci := 9) g18 rfl rfl) wM_Ma_295 mi_Wa_fillAll me_Wa_fillAll rfl (Nat.le_of_ble_eq_true rfl) (Nat.le_of_ble_eq_true rfl) dc_Ma_half_31 (by omega) (Nat.zero_le _) (Nat.zero_le _) ?_
      refine t_Wa_fillAll (by omega) ⟨q17, eq17, ?_⟩
      refine sx_eq0 (lc2 := [some (xR a0), some (xI a1)]) (st2 := []) rfl rfl ?_
      refine sx_iload_n dc_Ma_half_34 rfl ?_
      refine hk.j (X := fun x19 => Sx l z d mc ms M_Ma_half 55 [some (xR a0), some (xI a1)] [xI x19] q17.2 Ph) (fun x19 hk => ?_) (fun k20 jk20 hk => ?_)
      · exact sx_retI dc_Ma_half_55 rfl hk.val
      · refine sx_if_ne (tgt := 48) dc_Ma_half_35 (by decide) (fun c21 => ?_) (fun c21 => ?_)
        · replace hk := hk.f c21
          refine sx_aload_n dc_Ma_half_48 rfl ?_
          obtain ⟨g22, hk⟩ := hk.g
          refine sx_get (ci := 10) (k := 5) rfl (by decide) wF_Ma_53 g22 dc_Ma_half_49 ?_
          obtain ⟨g23, hk⟩ := hk.g
          refine sx_get (ci := 9) (k := 4) rfl (by decide) wF_Ma_299 g23 dc_Ma_half_52 ?_
          exact jk20 (hI q17.2 (hR q17.2 a0 5) 4) hk
        · replace hk := hk.t c21
          refine sx_aload_n dc_Ma_half_38 rfl ?_
          obtain ⟨g24, hk⟩ := hk.g
          refine sx_get (ci := 10) (k := 5) rfl (by decide) wF_Ma_53 g24 dc_Ma_half_39 ?_
          obtain ⟨g25, hk⟩ := hk.g
          refine sx_get (ci := 9) (k := 3) rfl (by decide) wF_Ma_286 g25 dc_Ma_half_42 ?_
          refine sx_goto (tgt := 55) dc_Ma_half_45 (by decide) ?_
          exact jk20 (hI q17.2 (hR q17.2 a0 5) 3) hk
    · replace hk := hk.f c15
      refine sx_bipush (v := (-3 : Int32)) dc_Ma_half_20 (by decide) ?_
      exact sx_retI dc_Ma_half_22 rfl hk.val
  · replace hk := hk.t c12
    refine sx_bipush (v := (-2 : Int32)) dc_Ma_half_8 (by decide) ?_
    exact sx_retI dc_Ma_half_10 rfl hk.val
theorem dc_Ma_chance_0 : decode M_Ma_chance.2.1 0 = .ok (.iload_n 1, 1) := by decide +kernel
theorem dc_Ma_chance_1 : decode M_Ma_chance.2.1 1 = .ok (.iconst 1, 1) := by decide +kernel
theorem dc_Ma_chance_2 : decode M_Ma_chance.2.1 2 = .ok (.invokestatic 148, 3) := by decide +kernel
theorem dc_Ma_chance_5 : decode M_Ma_chance.2.1 5 = .ok (.ifCond .eq 12, 3) := by decide +kernel
theorem dc_Ma_chance_8 : decode M_Ma_chance.2.1 8 = .ok (.aload_n 0, 1) := by decide +kernel
theorem dc_Ma_chance_9 : decode M_Ma_chance.2.1 9 = .ok (.invokevirtual 292, 3) := by decide +kernel
theorem dc_Ma_chance_12 : decode M_Ma_chance.2.1 12 = .ok (.bipush 10, 2) := by decide +kernel
theorem dc_Ma_chance_14 : decode M_Ma_chance.2.1 14 = .ok (.if_icmp .le 7, 3) := by decide +kernel
theorem dc_Ma_chance_17 : decode M_Ma_chance.2.1 17 = .ok (.ldc2_w 302, 3) := by decide +kernel
theorem dc_Ma_chance_20 : decode M_Ma_chance.2.1 20 = .ok (.lreturn, 1) := by decide +kernel
theorem dc_Ma_chance_21 : decode M_Ma_chance.2.1 21 = .ok (.aload_n 0, 1) := by decide +kernel
theorem dc_Ma_chance_22 : decode M_Ma_chance.2.1 22 = .ok (.getfield 53, 3) := by decide +kernel
theorem dc_Ma_chance_25 : decode M_Ma_chance.2.1 25 = .ok (.aload_n 0, 1) := by decide +kernel
theorem dc_Ma_chance_26 : decode M_Ma_chance.2.1 26 = .ok (.getfield 21, 3) := by decide +kernel
theorem dc_Ma_chance_29 : decode M_Ma_chance.2.1 29 = .ok (.invokevirtual 295, 3) := by decide +kernel
theorem dc_Ma_chance_32 : decode M_Ma_chance.2.1 32 = .ok (.iconst 1, 1) := by decide +kernel
theorem dc_Ma_chance_33 : decode M_Ma_chance.2.1 33 = .ok (.aload_n 0, 1) := by decide +kernel
theorem dc_Ma_chance_34 : decode M_Ma_chance.2.1 34 = .ok (.invokevirtual 292, 3) := by decide +kernel
theorem dc_Ma_chance_37 : decode M_Ma_chance.2.1 37 = .ok (.ishl, 1) := by decide +kernel
theorem dc_Ma_chance_38 : decode M_Ma_chance.2.1 38 = .ok (.istore_n 2, 1) := by decide +kernel
theorem dc_Ma_chance_39 : decode M_Ma_chance.2.1 39 = .ok (.iload_n 2, 1) := by decide +kernel
theorem dc_Ma_chance_40 : decode M_Ma_chance.2.1 40 = .ok (.aload_n 0, 1) := by decide +kernel
theorem dc_Ma_chance_41 : decode M_Ma_chance.2.1 41 = .ok (.getfield 53, 3) := by decide +kernel
theorem dc_Ma_chance_44 : decode M_Ma_chance.2.1 44 = .ok (.getfield 286, 3) := by decide +kernel
theorem dc_Ma_chance_47 : decode M_Ma_chance.2.1 47 = .ok (.isub, 1) := by decide +kernel
theorem dc_Ma_chance_48 : decode M_Ma_chance.2.1 48 = .ok (.istore_n 3, 1) := by decide +kernel
theorem dc_Ma_chance_49 : decode M_Ma_chance.2.1 49 = .ok (.iconst 0, 1) := by decide +kernel
theorem dc_Ma_chance_50 : decode M_Ma_chance.2.1 50 = .ok (.istore 4, 2) := by decide +kernel
theorem dc_Ma_chance_52 : decode M_Ma_chance.2.1 52 = .ok (.iload 4, 2) := by decide +kernel
theorem dc_Ma_chance_54 : decode M_Ma_chance.2.1 54 = .ok (.bipush 10, 2) := by decide +kernel
theorem dc_Ma_chance_56 : decode M_Ma_chance.2.1 56 = .ok (.if_icmp .ge 28, 3) := by decide +kernel
theorem dc_Ma_chance_59 : decode M_Ma_chance.2.1 59 = .ok (.iload_n 2, 1) := by decide +kernel
theorem dc_Ma_chance_60 : decode M_Ma_chance.2.1 60 = .ok (.iconst 1, 1) := by decide +kernel
theorem dc_Ma_chance_61 : decode M_Ma_chance.2.1 61 = .ok (.if_icmp .le 23, 3) := by decide +kernel
theorem dc_Ma_chance_64 : decode M_Ma_chance.2.1 64 = .ok (.iload_n 3, 1) := by decide +kernel
theorem dc_Ma_chance_65 : decode M_Ma_chance.2.1 65 = .ok (.iconst 2, 1) := by decide +kernel
theorem dc_Ma_chance_66 : decode M_Ma_chance.2.1 66 = .ok (.irem, 1) := by decide +kernel
theorem dc_Ma_chance_67 : decode M_Ma_chance.2.1 67 = .ok (.ifCond .ne 17, 3) := by decide +kernel
theorem dc_Ma_chance_70 : decode M_Ma_chance.2.1 70 = .ok (.iload_n 3, 1) := by decide +kernel
theorem dc_Ma_chance_71 : decode M_Ma_chance.2.1 71 = .ok (.iconst 2, 1) := by decide +kernel
theorem dc_Ma_chance_72 : decode M_Ma_chance.2.1 72 = .ok (.idiv, 1) := by decide +kernel
theorem dc_Ma_chance_73 : decode M_Ma_chance.2.1 73 = .ok (.istore_n 3, 1) := by decide +kernel
theorem dc_Ma_chance_74 : decode M_Ma_chance.2.1 74 = .ok (.iload_n 2, 1) := by decide +kernel
theorem dc_Ma_chance_75 : decode M_Ma_chance.2.1 75 = .ok (.iconst 2, 1) := by decide +kernel
theorem dc_Ma_chance_76 : decode M_Ma_chance.2.1 76 = .ok (.idiv, 1) := by decide +kernel
theorem dc_Ma_chance_77 : decode M_Ma_chance.2.1 77 = .ok (.istore_n 2, 1) := by decide +kernel
theorem dc_Ma_chance_78 : decode M_Ma_chance.2.1 78 = .ok (.iinc 4 1, 3) := by decide +kernel
theorem dc_Ma_chance_81 : decode M_Ma_chance.2.1 81 = .ok (.goto (-29), 3) := by decide +kernel
theorem dc_Ma_chance_84 : decode M_Ma_chance.2.1 84 = .ok (.iload_n 1, 1) := by decide +kernel
theorem dc_Ma_chance_85 : decode M_Ma_chance.2.1 85 = .ok (.ifCond .ne 8, 3) := by decide +kernel
theorem dc_Ma_chance_88 : decode M_Ma_chance.2.1 88 = .ok (.iload_n 3, 1) := by decide +kernel
theorem dc_Ma_chance_89 : decode M_Ma_chance.2.1 89 = .ok (.i2l, 1) := by decide +kernel
theorem dc_Ma_chance_90 : decode M_Ma_chance.2.1 90 = .ok (.goto 5, 3) := by decide +kernel
theorem dc_Ma_chance_93 : decode M_Ma_chance.2.1 93 = .ok (.iload_n 2, 1) := by decide +kernel
theorem dc_Ma_chance_94 : decode M_Ma_chance.2.1 94 = .ok (.i2l, 1) := by decide +kernel
theorem dc_Ma_chance_95 : decode M_Ma_chance.2.1 95 = .ok (.lreturn, 1) := by decide +kernel
def f_Ma_chance_L52 (a0 : Nat) (a1 : Int32) : Nat → Int32 → Int32 → Int32 → xH → (Int32 → Int32 → Int32 → xH → Option (Int64 × xH)) → Option (Int64 × xH)
  | 0, _, _, _, _, _ => none
  | n + 1, a2, a3, a4, h, K => if (10 : Int32) ≤ a4 then K a2 a3 a4 h else if a2 ≤ (1 : Int32) then K a2 a3 a4 h else if (jRem a3 (2 : Int32)) = 0 then f_Ma_chance_L52 a0 a1 n (a2 / (2 : Int32)) (a3 / (2 : Int32)) (a4 + (1 : Int32)) h K else K a2 a3 a4 h
def f_Ma_chance (a0 : Nat) (a1 : Int32) (h : xH) : Option (Int64 × xH) := Option.bind (f_Ma_isWithin a1 (1 : Int32) h) (fun q11 => jn (fun (x12 : xH) => some ((-4611686018427387904 : Int64), x12)) (fun k13 => if q11.1 = 0 then k13 q11.2 else gd (hK q11.2 a0 = 10) (Option.bind (f_Ma_unseenPairs a0 q11.2) (fun q15 => if q15.1 ≤ (10 : Int32) then gd (hK q15.2 a0 = 10) (gd (hK q15.2 (hR q15.2 a0 5) = 9) (Option.bind (f_Wa_fillAll (hR q15.2 a0 5) (hR q15.2 a0 1) q15.2) (fun q19 => gd (hK q19.2 a0 = 10) (Option.bind (f_Ma_unseenPairs a0 q19.2) (fun q21 => gd (hK q21.2 a0 = 10) (gd (hK q21.2 (hR q21.2 a0 5) = 9) (f_Ma_chance_L52 a0 a1 fu (jShl (1 : Int32) q21.1) ((jShl (1 : Int32) q21.1) - (hI q21.2 (hR q21.2 a0 5) 3)) (0 : Int32) q21.2 (fun v28 v29 v30 h31 => some ((if a1 = 0 then v29.toInt64 else v28.toInt64), h31))))))))) else k13 q15.2))))
theorem t_Ma_chance_L52 {l : Launch} {z : xZ} {d mc ms : Nat} {Ph : Option xV → xH → Prop} {a0 : Nat} {a1 : Int32}  (hd : 1 ≤ d) : ∀ (n : Nat) (a2 : Int32) (a3 : Int32) (a4 : Int32) (h : xH) (K : Int32 → Int32 → Int32 → xH → Option (Int64 × xH)), OK (f_Ma_chance_L52 a0 a1 n a2 a3 a4 h K) (fun q => Ph (some (xJ q.1)) q.2) → (∀ (a2 : Int32) (a3 : Int32) (a4 : Int32) (h : xH), OK (K a2 a3 a4 h) (fun q => Ph (some (xJ q.1)) q.2) → Sx l z d mc ms M_Ma_chance 84 [some (xR a0), some (xI a1), some (xI a2), some (xI a3), some (xI a4)] [] h Ph) → Sx l z d mc ms M_Ma_chance 52 [some (xR a0), some (xI a1), some (xI a2), some (xI a3), some (xI a4)] [] h Ph := by
  intro n
  induction n with
  | zero => intro a2 a3 a4 h K hk hE; exact hk.no
  | succ n ih =>
    intro a2 a3 a4 h K hk hE
    rw [f_Ma_chance_L52] at hk
    refine sx_iload dc_Ma_chance_52 rfl ?_
    refine sx_bipush (v := (10 : Int32)) dc_Ma_chance_54 (by decide) ?_
    refine sx_icmp_ge (tgt := 84) dc_Ma_chance_56 (by decide) (fun c25 => ?_) (fun c25 => ?_)
    · replace hk := hk.t c25
      exact hE a2 a3 a4 h hk
    · replace hk := hk.f c25
      refine sx_iload_n dc_Ma_chance_59 rfl ?_
      refine sx_iconst (v := (1 : Int32)) dc_Ma_chance_60 (by decide) ?_
      refine sx_icmp_le (tgt := 84) dc_Ma_chance_61 (by decide) (fun c26 => ?_) (fun c26 => ?_)
      · replace hk := hk.t c26
        exact hE a2 a3 a4 h hk
      · replace hk := hk.f c26
        refine sx_iload_n dc_Ma_chance_64 rfl ?_
        refine sx_iconst (v := (2 : Int32)) dc_Ma_chance_65 (by decide) ?_
        refine sx_irem dc_Ma_chance_66 (by decide) ?_
        refine sx_if_ne (tgt := 84) dc_Ma_chance_67 (by decide) (fun c27 => ?_) (fun c27 => ?_)
        · replace hk := hk.f c27
          exact hE a2 a3 a4 h hk
        · replace hk := hk.t c27
          refine sx_iload_n dc_Ma_chance_70 rfl ?_
          refine sx_iconst (v := (2 : Int32)) dc_Ma_chance_71 (by decide) ?_
          refine sx_idiv dc_Ma_chance_72 (by decide) ?_
          refine sx_istore_n dc_Ma_chance_73 (by decide) (sx_eq (lc2 := [some (xR a0), some (xI a1), some (xI a2), some (xI (a3 / (2 : Int32))), some (xI a4)]) rfl rfl ?_)
          refine sx_iload_n dc_Ma_chance_74 rfl ?_
          refine sx_iconst (v := (2 : Int32)) dc_Ma_chance_75 (by decide) ?_
          refine sx_idiv dc_Ma_chance_76 (by decide) ?_
          refine sx_istore_n dc_Ma_chance_77 (by decide) (sx_eq (lc2 := [some (xR a0), some (xI a1), some (xI (a2 / (2 : Int32))), some (xI (a3 / (2 : Int32))), some (xI a4)]) rfl rfl ?_)
          refine sx_iinc (v := (1 : Int32)) dc_Ma_chance_78 rfl (by decide) (by decide) (sx_eq (lc2 := [some (xR a0), some (xI a1), some (xI (a2 / (2 : Int32))), some (xI (a3 / (2 : Int32))), some (xI (a4 + (1 : Int32)))]) rfl rfl ?_)
          refine sx_goto (tgt := 52) dc_Ma_chance_81 (by decide) ?_
          exact ih (a2 / (2 : Int32)) (a3 / (2 : Int32)) (a4 + (1 : Int32)) h _ hk hE
theorem t_Ma_chance {l : Launch} {z : xZ} {d mc ms : Nat} {Ph : Option xV → xH → Prop} {a0 : Nat} {a1 : Int32}  {h : xH} (hd : 98 ≤ d) (hk : OK (f_Ma_chance a0 a1 h) (fun q => Ph (some (xJ q.1)) q.2)) : Sx l z d mc ms M_Ma_chance 0 (x_en [xR a0, xI a1] 5) [] h Ph := by
  unfold f_Ma_chance at hk
  refine sx_eq (lc2 := [some (xR a0), some (xI a1), none, none, none]) rfl rfl ?_
  refine sx_iload_n dc_Ma_chance_0 rfl ?_
  refine sx_iconst (v := (1 : Int32)) dc_Ma_chance_1 (by decide) ?_
  obtain ⟨q11, eq11, hk⟩ := hk.bind
  refine sx_callS (d2 := d - 1) (mc2 := 0) (ms2 := 0) (as := [xI a1, xI (1 : Int32)]) mk_Ma_isWithin rfl wM_Ma_148 mt_Ma_isWithin rfl (Nat.le_of_ble_eq_true rfl) (Nat.le_of_ble_eq_true rfl) dc_Ma_chance_2 (by omega) (Nat.zero_le _) (Nat.zero_le _) ?_
  refine t_Ma_isWithin (by omega) ⟨q11, eq11, ?_⟩
  refine sx_eq0 (lc2 := [some (xR a0), some (xI a1), none, none, none]) (st2 := [xI q11.1]) rfl rfl ?_
  refine hk.j (X := fun x12 => Sx l z d mc ms M_Ma_chance 17 [some (xR a0), some (xI a1), none, none, none] [] x12 Ph) (fun x12 hk => ?_) (fun k13 jk13 hk => ?_)
  · refine sx_ldc2 (v := (-4611686018427387904)) wJ_Ma_302 dc_Ma_chance_17 ?_
    exact sx_retJ dc_Ma_chance_20 rfl hk.val
  · refine sx_if_eq (tgt := 17) dc_Ma_chance_5 (by decide) (fun c14 => ?_) (fun c14 => ?_)
    · replace hk := hk.t c14
      exact jk13 q11.2 hk
    · replace hk := hk.f c14
      refine sx_aload_n dc_Ma_chance_8 rfl ?_
      obtain ⟨g16, hk⟩ := hk.g
      obtain ⟨q15, eq15, hk⟩ := hk.bind
      refine sx_callV (d2 := d - 1) (mc2 := 0) (ms2 := 0) (as := []) mk_Ma_unseenPairs rfl (x_rk (ci := 10) g16 rfl rfl) wM_Ma_292 mi_Ma_unseenPairs me_Ma_unseenPairs rfl (Nat.le_of_ble_eq_true rfl) (Nat.le_of_ble_eq_true rfl) dc_Ma_chance_9 (by omega) (Nat.zero_le _) (Nat.zero_le _) ?_
      refine t_Ma_unseenPairs (by omega) ⟨q15, eq15, ?_⟩
      refine sx_eq0 (lc2 := [some (xR a0), some (xI a1), none, none, none]) (st2 := [xI q15.1]) rfl rfl ?_
      refine sx_bipush (v := (10 : Int32)) dc_Ma_chance_12 (by decide) ?_
      refine sx_icmp_le (tgt := 21) dc_Ma_chance_14 (by decide) (fun c17 => ?_) (fun c17 => ?_)
      · replace hk := hk.t c17
        refine sx_aload_n dc_Ma_chance_21 rfl ?_
        obtain ⟨g18, hk⟩ := hk.g
        refine sx_get (ci := 10) (k := 5) rfl (by decide) wF_Ma_53 g18 dc_Ma_chance_22 ?_
        refine sx_aload_n dc_Ma_chance_25 rfl ?_
        refine sx_get (ci := 10) (k := 1) rfl (by decide) wF_Ma_21 g18 dc_Ma_chance_26 ?_
        obtain ⟨g20, hk⟩ := hk.g
        obtain ⟨q19, eq19, hk⟩ := hk.bind
        refine sx_callV (d2 := d - 1) (mc2 := 0) (ms2 := 0) (as := [xR (hR q15.2 a0 1)]) mk_Wa_fillAll rfl (x_rk (ci := 9) g20 rfl rfl) wM_Ma_295 mi_Wa_fillAll me_Wa_fillAll rfl (Nat.le_of_ble_eq_true rfl) (Nat.le_of_ble_eq_true rfl) dc_Ma_chance_29 (by omega) (Nat.zero_le _) (Nat.zero_le _) ?_
        refine t_Wa_fillAll (by omega) ⟨q19, eq19, ?_⟩
        refine sx_eq0 (lc2 := [some (xR a0), some (xI a1), none, none, none]) (st2 := []) rfl rfl ?_
        refine sx_iconst (v := (1 : Int32)) dc_Ma_chance_32 (by decide) ?_
        refine sx_aload_n dc_Ma_chance_33 rfl ?_
        obtain ⟨g22, hk⟩ := hk.g
        obtain ⟨q21, eq21, hk⟩ := hk.bind
        refine sx_callV (d2 := d - 1) (mc2 := 0) (ms2 := 0) (as := []) mk_Ma_unseenPairs rfl (x_rk (ci := 10) g22 rfl rfl) wM_Ma_292 mi_Ma_unseenPairs me_Ma_unseenPairs rfl (Nat.le_of_ble_eq_true rfl) (Nat.le_of_ble_eq_true rfl) dc_Ma_chance_34 (by omega) (Nat.zero_le _) (Nat.zero_le _) ?_
        refine t_Ma_unseenPairs (by omega) ⟨q21, eq21, ?_⟩
        refine sx_eq0 (lc2 := [some (xR a0), some (xI a1), none, none, none]) (st2 := [xI q21.1, xI (1 : Int32)]) rfl rfl ?_
        refine sx_ishl dc_Ma_chance_37 ?_
        refine sx_istore_n dc_Ma_chance_38 (by decide) (sx_eq (lc2 := [some (xR a0), some (xI a1), some (xI (jShl (1 : Int32) q21.1)), none, none]) rfl rfl ?_)
        refine sx_iload_n dc_Ma_chance_39 rfl ?_
        refine sx_aload_n dc_Ma_chance_40 rfl ?_
        obtain ⟨g23, hk⟩ := hk.g
        refine sx_get (ci := 10) (k := 5) rfl (by decide) wF_Ma_53 g23 dc_Ma_chance_41 ?_
        obtain ⟨g24, hk⟩ := hk.g
        refine sx_get (ci := 9) (k := 3) rfl (by decide) wF_Ma_286 g24 dc_Ma_chance_44 ?_
        refine sx_isub dc_Ma_chance_47 ?_
        refine sx_istore_n dc_Ma_chance_48 (by decide) (sx_eq (lc2 := [some (xR a0), some (xI a1), some (xI (jShl (1 : Int32) q21.1)), some (xI ((jShl (1 : Int32) q21.1) - (hI q21.2 (hR q21.2 a0 5) 3))), none]) rfl rfl ?_)
        refine sx_iconst (v := (0 : Int32)) dc_Ma_chance_49 (by decide) ?_
        refine sx_istore dc_Ma_chance_50 (by decide) (sx_eq (lc2 := [some (xR a0), some (xI a1), some (xI (jShl (1 : Int32) q21.1)), some (xI ((jShl (1 : Int32) q21.1) - (hI q21.2 (hR q21.2 a0 5) 3))), some (xI (0 : Int32))]) rfl rfl ?_)
        refine t_Ma_chance_L52 (by omega) _ _ _ _ _ _ hk (fun v28 v29 v30 h31 hk => ?_)
        refine sx_iload_n dc_Ma_chance_84 rfl ?_
        refine sx_mg (pc2 := 95) (lc2 := [some (xR a0), some (xI a1), some (xI v28), some (xI v29), some (xI v30)]) (st2 := [xJ (if a1 = 0 then v29.toInt64 else v28.toInt64)]) (h2 := h31) ?_ (fun J32 => ?_)
        · exact sx_retJ dc_Ma_chance_95 rfl hk.val
        · refine sx_if_ne (tgt := 93) dc_Ma_chance_85 (by decide) (fun c33 => ?_) (fun c33 => ?_)
          · try simp only [if_neg c33] at J32
            refine sx_iload_n dc_Ma_chance_93 rfl ?_
            refine sx_i2l dc_Ma_chance_94 ?_
            exact J32
          · try simp only [if_pos c33] at J32
            refine sx_iload_n dc_Ma_chance_88 rfl ?_
            refine sx_i2l dc_Ma_chance_89 ?_
            refine sx_goto (tgt := 95) dc_Ma_chance_90 (by decide) ?_
            exact J32
      · replace hk := hk.f c17
        exact jk13 q15.2 hk
theorem dc_Ma_game_0 : decode M_Ma_game.2.1 0 = .ok (.iload_n 1, 1) := by decide +kernel
theorem dc_Ma_game_1 : decode M_Ma_game.2.1 1 = .ok (.iconst 1, 1) := by decide +kernel
theorem dc_Ma_game_2 : decode M_Ma_game.2.1 2 = .ok (.invokestatic 148, 3) := by decide +kernel
theorem dc_Ma_game_5 : decode M_Ma_game.2.1 5 = .ok (.ifCond .ne 6, 3) := by decide +kernel
theorem dc_Ma_game_8 : decode M_Ma_game.2.1 8 = .ok (.bipush (-2), 2) := by decide +kernel
theorem dc_Ma_game_10 : decode M_Ma_game.2.1 10 = .ok (.ireturn, 1) := by decide +kernel
theorem dc_Ma_game_11 : decode M_Ma_game.2.1 11 = .ok (.aload_n 0, 1) := by decide +kernel
theorem dc_Ma_game_12 : decode M_Ma_game.2.1 12 = .ok (.getfield 21, 3) := by decide +kernel
theorem dc_Ma_game_15 : decode M_Ma_game.2.1 15 = .ok (.getfield 100, 3) := by decide +kernel
theorem dc_Ma_game_18 : decode M_Ma_game.2.1 18 = .ok (.iconst 4, 1) := by decide +kernel
theorem dc_Ma_game_19 : decode M_Ma_game.2.1 19 = .ok (.if_icmp .le 6, 3) := by decide +kernel
theorem dc_Ma_game_22 : decode M_Ma_game.2.1 22 = .ok (.bipush (-3), 2) := by decide +kernel
theorem dc_Ma_game_24 : decode M_Ma_game.2.1 24 = .ok (.ireturn, 1) := by decide +kernel
theorem dc_Ma_game_25 : decode M_Ma_game.2.1 25 = .ok (.iload_n 1, 1) := by decide +kernel
theorem dc_Ma_game_26 : decode M_Ma_game.2.1 26 = .ok (.ifCond .ne 17, 3) := by decide +kernel
theorem dc_Ma_game_29 : decode M_Ma_game.2.1 29 = .ok (.aload_n 0, 1) := by decide +kernel
theorem dc_Ma_game_30 : decode M_Ma_game.2.1 30 = .ok (.getfield 10, 3) := by decide +kernel
theorem dc_Ma_game_33 : decode M_Ma_game.2.1 33 = .ok (.aload_n 0, 1) := by decide +kernel
theorem dc_Ma_game_34 : decode M_Ma_game.2.1 34 = .ok (.getfield 21, 3) := by decide +kernel
theorem dc_Ma_game_37 : decode M_Ma_game.2.1 37 = .ok (.invokestatic 306, 3) := by decide +kernel
theorem dc_Ma_game_40 : decode M_Ma_game.2.1 40 = .ok (.goto 14, 3) := by decide +kernel
theorem dc_Ma_game_43 : decode M_Ma_game.2.1 43 = .ok (.aload_n 0, 1) := by decide +kernel
theorem dc_Ma_game_44 : decode M_Ma_game.2.1 44 = .ok (.getfield 10, 3) := by decide +kernel
theorem dc_Ma_game_47 : decode M_Ma_game.2.1 47 = .ok (.aload_n 0, 1) := by decide +kernel
theorem dc_Ma_game_48 : decode M_Ma_game.2.1 48 = .ok (.getfield 21, 3) := by decide +kernel
theorem dc_Ma_game_51 : decode M_Ma_game.2.1 51 = .ok (.invokestatic 310, 3) := by decide +kernel
theorem dc_Ma_game_54 : decode M_Ma_game.2.1 54 = .ok (.ireturn, 1) := by decide +kernel
def f_Ma_game (a0 : Nat) (a1 : Int32) (h : xH) : Option (Int32 × xH) := Option.bind (f_Ma_isWithin a1 (1 : Int32) h) (fun q6 => if q6.1 = 0 then some ((-2 : Int32), q6.2) else gd (hK q6.2 a0 = 10) (gd (hK q6.2 (hR q6.2 a0 1) = 6) (if (hI q6.2 (hR q6.2 a0 1) 1) ≤ (4 : Int32) then jn (fun (x11 : Int32 × xH) => some (x11.1, x11.2)) (fun k12 => if a1 = 0 then Option.bind (f_Ga_value (hR q6.2 a0 0) (hR q6.2 a0 1) q6.2) (fun q15 => k12 (q15.1, q15.2)) else Option.bind (f_Ga_pair (hR q6.2 a0 0) (hR q6.2 a0 1) q6.2) (fun q14 => k12 (q14.1, q14.2))) else some ((-3 : Int32), q6.2))))
theorem t_Ma_game {l : Launch} {z : xZ} {d mc ms : Nat} {Ph : Option xV → xH → Prop} {a0 : Nat} {a1 : Int32}  {h : xH} (hd : 101 ≤ d) (hk : OK (f_Ma_game a0 a1 h) (fun q => Ph (some (xI q.1)) q.2)) : Sx l z d mc ms M_Ma_game 0 (x_en [xR a0, xI a1] 2) [] h Ph := by
  unfold f_Ma_game at hk
  refine sx_eq (lc2 := [some (xR a0), some (xI a1)]) rfl rfl ?_
  refine sx_iload_n dc_Ma_game_0 rfl ?_
  refine sx_iconst (v := (1 : Int32)) dc_Ma_game_1 (by decide) ?_
  obtain ⟨q6, eq6, hk⟩ := hk.bind
  refine sx_callS (d2 := d - 1) (mc2 := 0) (ms2 := 0) (as := [xI a1, xI (1 : Int32)]) mk_Ma_isWithin rfl wM_Ma_148 mt_Ma_isWithin rfl (Nat.le_of_ble_eq_true rfl) (Nat.le_of_ble_eq_true rfl) dc_Ma_game_2 (by omega) (Nat.zero_le _) (Nat.zero_le _) ?_
  refine t_Ma_isWithin (by omega) ⟨q6, eq6, ?_⟩
  refine sx_eq0 (lc2 := [some (xR a0), some (xI a1)]) (st2 := [xI q6.1]) rfl rfl ?_
  refine sx_if_ne (tgt := 11) dc_Ma_game_5 (by decide) (fun c7 => ?_) (fun c7 => ?_)
  · replace hk := hk.f c7
    refine sx_aload_n dc_Ma_game_11 rfl ?_
    obtain ⟨g8, hk⟩ := hk.g
    refine sx_get (ci := 10) (k := 1) rfl (by decide) wF_Ma_21 g8 dc_Ma_game_12 ?_
    obtain ⟨g9, hk⟩ := hk.g
    refine sx_get (ci := 6) (k := 1) rfl (by decide) wF_Ma_100 g9 dc_Ma_game_15 ?_
    refine sx_iconst (v := (4 : Int32)) dc_Ma_game_18 (by decide) ?_
    refine sx_icmp_le (tgt := 25) dc_Ma_game_19 (by decide) (fun c10 => ?_) (fun c10 => ?_)
    · replace hk := hk.t c10
      refine sx_iload_n dc_Ma_game_25 rfl ?_
      refine hk.j (X := fun x11 => Sx l z d mc ms M_Ma_game 54 [some (xR a0), some (xI a1)] [xI x11.1] x11.2 Ph) (fun x11 hk => ?_) (fun k12 jk12 hk => ?_)
      · exact sx_retI dc_Ma_game_54 rfl hk.val
      · refine sx_if_ne (tgt := 43) dc_Ma_game_26 (by decide) (fun c13 => ?_) (fun c13 => ?_)
        · replace hk := hk.f c13
          refine sx_aload_n dc_Ma_game_43 rfl ?_
          refine sx_get (ci := 10) (k := 0) rfl (by decide) wF_Ma_10 g8 dc_Ma_game_44 ?_
          refine sx_aload_n dc_Ma_game_47 rfl ?_
          refine sx_get (ci := 10) (k := 1) rfl (by decide) wF_Ma_21 g8 dc_Ma_game_48 ?_
          obtain ⟨q14, eq14, hk⟩ := hk.bind
          refine sx_callS (d2 := d - 1) (mc2 := 0) (ms2 := 0) (as := [xR (hR q6.2 a0 0), xR (hR q6.2 a0 1)]) mk_Ga_pair rfl wM_Ma_310 mt_Ga_pair rfl (Nat.le_of_ble_eq_true rfl) (Nat.le_of_ble_eq_true rfl) dc_Ma_game_51 (by omega) (Nat.zero_le _) (Nat.zero_le _) ?_
          refine t_Ga_pair (by omega) ⟨q14, eq14, ?_⟩
          refine sx_eq0 (lc2 := [some (xR a0), some (xI a1)]) (st2 := [xI q14.1]) rfl rfl ?_
          exact jk12 (q14.1, q14.2) hk
        · replace hk := hk.t c13
          refine sx_aload_n dc_Ma_game_29 rfl ?_
          refine sx_get (ci := 10) (k := 0) rfl (by decide) wF_Ma_10 g8 dc_Ma_game_30 ?_
          refine sx_aload_n dc_Ma_game_33 rfl ?_
          refine sx_get (ci := 10) (k := 1) rfl (by decide) wF_Ma_21 g8 dc_Ma_game_34 ?_
          obtain ⟨q15, eq15, hk⟩ := hk.bind
          refine sx_callS (d2 := d - 1) (mc2 := 0) (ms2 := 0) (as := [xR (hR q6.2 a0 0), xR (hR q6.2 a0 1)]) mk_Ga_value rfl wM_Ma_306 mt_Ga_value rfl (Nat.le_of_ble_eq_true rfl) (Nat.le_of_ble_eq_true rfl) dc_Ma_game_37 (by omega) (Nat.zero_le _) (Nat.zero_le _) ?_
          refine t_Ga_value (by omega) ⟨q15, eq15, ?_⟩
          refine sx_eq0 (lc2 := [some (xR a0), some (xI a1)]) (st2 := [xI q15.1]) rfl rfl ?_
          refine sx_goto (tgt := 54) dc_Ma_game_40 (by decide) ?_
          exact jk12 (q15.1, q15.2) hk
    · replace hk := hk.f c10
      refine sx_bipush (v := (-3 : Int32)) dc_Ma_game_22 (by decide) ?_
      exact sx_retI dc_Ma_game_24 rfl hk.val
  · replace hk := hk.t c7
    refine sx_bipush (v := (-2 : Int32)) dc_Ma_game_8 (by decide) ?_
    exact sx_retI dc_Ma_game_10 rfl hk.val
theorem dc_Ma_sheetAt_0 : decode M_Ma_sheetAt.2.1 0 = .ok (.iload_n 1, 1) := by decide +kernel
theorem dc_Ma_sheetAt_1 : decode M_Ma_sheetAt.2.1 1 = .ok (.ifCond .lt 17, 3) := by decide +kernel
theorem dc_Ma_sheetAt_4 : decode M_Ma_sheetAt.2.1 4 = .ok (.iload_n 1, 1) := by decide +kernel
theorem dc_Ma_sheetAt_5 : decode M_Ma_sheetAt.2.1 5 = .ok (.iconst 4, 1) := by decide +kernel
theorem dc_Ma_sheetAt_6 : decode M_Ma_sheetAt.2.1 6 = .ok (.if_icmp .ge 12, 3) := by decide +kernel
theorem dc_Ma_sheetAt_9 : decode M_Ma_sheetAt.2.1 9 = .ok (.aload_n 0, 1) := by decide +kernel
theorem dc_Ma_sheetAt_10 : decode M_Ma_sheetAt.2.1 10 = .ok (.getfield 78, 3) := by decide +kernel
theorem dc_Ma_sheetAt_13 : decode M_Ma_sheetAt.2.1 13 = .ok (.iload_n 1, 1) := by decide +kernel
theorem dc_Ma_sheetAt_14 : decode M_Ma_sheetAt.2.1 14 = .ok (.aaload, 1) := by decide +kernel
theorem dc_Ma_sheetAt_15 : decode M_Ma_sheetAt.2.1 15 = .ok (.goto 4, 3) := by decide +kernel
theorem dc_Ma_sheetAt_18 : decode M_Ma_sheetAt.2.1 18 = .ok (.aconst_null, 1) := by decide +kernel
theorem dc_Ma_sheetAt_19 : decode M_Ma_sheetAt.2.1 19 = .ok (.areturn, 1) := by decide +kernel
def f_Ma_sheetAt (a0 : Nat) (a1 : Int32) (h : xH) : Option (Nat × xH) := jn (fun (x4 : Nat) => some (x4, h)) (fun k5 => jn (fun (x6 : Unit) => k5 0) (fun k7 => if a1 < 0 then k7 () else if (4 : Int32) ≤ a1 then k7 () else gd (hK h a0 = 10) (gd (hK h (hR h a0 9) = 16) (gd (¬ (a1 < 0 ∨ hL h (hR h a0 9) ≤ a1.toNatClampNeg)) (k5 (hR h (hR h a0 9) a1.toNatClampNeg))))))
theorem t_Ma_sheetAt {l : Launch} {z : xZ} {d mc ms : Nat} {Ph : Option xV → xH → Prop} {a0 : Nat} {a1 : Int32}  {h : xH} (hd : 1 ≤ d) (hk : OK (f_Ma_sheetAt a0 a1 h) (fun q => Ph (some (xR q.1)) q.2)) : Sx l z d mc ms M_Ma_sheetAt 0 (x_en [xR a0, xI a1] 2) [] h Ph := by
  unfold f_Ma_sheetAt at hk
  refine sx_eq (lc2 := [some (xR a0), some (xI a1)]) rfl rfl ?_
  refine sx_iload_n dc_Ma_sheetAt_0 rfl ?_
  refine hk.j (X := fun x4 => Sx l z d mc ms M_Ma_sheetAt 19 [some (xR a0), some (xI a1)] [xR x4] h Ph) (fun x4 hk => ?_) (fun k5 jk5 hk => ?_)
  · exact sx_retR dc_Ma_sheetAt_19 (by first | exact Or.inl ⟨_, rfl⟩ | exact Or.inr ⟨_, rfl⟩) hk.val
  · refine hk.j (X := fun x6 => Sx l z d mc ms M_Ma_sheetAt 18 [some (xR a0), some (xI a1)] [] h Ph) (fun x6 hk => ?_) (fun k7 jk7 hk => ?_)
    · refine sx_null dc_Ma_sheetAt_18 ?_
      exact jk5 0 hk
    · refine sx_if_lt (tgt := 18) dc_Ma_sheetAt_1 (by decide) (fun c8 => ?_) (fun c8 => ?_)
      · replace hk := hk.t c8
        exact jk7 () hk
      · replace hk := hk.f c8
        refine sx_iload_n dc_Ma_sheetAt_4 rfl ?_
        refine sx_iconst (v := (4 : Int32)) dc_Ma_sheetAt_5 (by decide) ?_
        refine sx_icmp_ge (tgt := 18) dc_Ma_sheetAt_6 (by decide) (fun c9 => ?_) (fun c9 => ?_)
        · replace hk := hk.t c9
          exact jk7 () hk
        · replace hk := hk.f c9
          refine sx_aload_n dc_Ma_sheetAt_9 rfl ?_
          obtain ⟨g10, hk⟩ := hk.g
          refine sx_get (ci := 10) (k := 9) rfl (by decide) wF_Ma_78 g10 dc_Ma_sheetAt_10 ?_
          refine sx_iload_n dc_Ma_sheetAt_13 rfl ?_
          obtain ⟨g11, hk⟩ := hk.g
          obtain ⟨g12, hk⟩ := hk.g
          refine sx_aald g11 (by decide) g12 dc_Ma_sheetAt_14 ?_
          refine sx_goto (tgt := 19) dc_Ma_sheetAt_15 (by decide) ?_
          exact jk5 (hR h (hR h a0 9) a1.toNatClampNeg) hk
theorem dc_Ma_introduced_0 : decode M_Ma_introduced.2.1 0 = .ok (.iload_n 1, 1) := by decide +kernel
theorem dc_Ma_introduced_1 : decode M_Ma_introduced.2.1 1 = .ok (.ifCond .ge 7, 3) := by decide +kernel
theorem dc_Ma_introduced_4 : decode M_Ma_introduced.2.1 4 = .ok (.iconst (-1), 1) := by decide +kernel
theorem dc_Ma_introduced_5 : decode M_Ma_introduced.2.1 5 = .ok (.goto 15, 3) := by decide +kernel
theorem dc_Ma_introduced_8 : decode M_Ma_introduced.2.1 8 = .ok (.aload_n 0, 1) := by decide +kernel
theorem dc_Ma_introduced_9 : decode M_Ma_introduced.2.1 9 = .ok (.iload_n 1, 1) := by decide +kernel
theorem dc_Ma_introduced_10 : decode M_Ma_introduced.2.1 10 = .ok (.bipush 10, 2) := by decide +kernel
theorem dc_Ma_introduced_12 : decode M_Ma_introduced.2.1 12 = .ok (.idiv, 1) := by decide +kernel
theorem dc_Ma_introduced_13 : decode M_Ma_introduced.2.1 13 = .ok (.iload_n 1, 1) := by decide +kernel
theorem dc_Ma_introduced_14 : decode M_Ma_introduced.2.1 14 = .ok (.bipush 10, 2) := by decide +kernel
theorem dc_Ma_introduced_16 : decode M_Ma_introduced.2.1 16 = .ok (.irem, 1) := by decide +kernel
theorem dc_Ma_introduced_17 : decode M_Ma_introduced.2.1 17 = .ok (.invokevirtual 107, 3) := by decide +kernel
theorem dc_Ma_introduced_20 : decode M_Ma_introduced.2.1 20 = .ok (.ireturn, 1) := by decide +kernel
def f_Ma_introduced (a0 : Nat) (a1 : Int32) (h : xH) : Option (Int32 × xH) := jn (fun (x3 : Int32 × xH) => some (x3.1, x3.2)) (fun k4 => if 0 ≤ a1 then gd (hK h a0 = 10) (Option.bind (f_Ma_pairNumber a0 (a1 / (10 : Int32)) (jRem a1 (10 : Int32)) h) (fun q6 => k4 (q6.1, q6.2))) else k4 ((-1 : Int32), h))
theorem t_Ma_introduced {l : Launch} {z : xZ} {d mc ms : Nat} {Ph : Option xV → xH → Prop} {a0 : Nat} {a1 : Int32}  {h : xH} (hd : 4 ≤ d) (hk : OK (f_Ma_introduced a0 a1 h) (fun q => Ph (some (xI q.1)) q.2)) : Sx l z d mc ms M_Ma_introduced 0 (x_en [xR a0, xI a1] 2) [] h Ph := by
  unfold f_Ma_introduced at hk
  refine sx_eq (lc2 := [some (xR a0), some (xI a1)]) rfl rfl ?_
  refine sx_iload_n dc_Ma_introduced_0 rfl ?_
  refine hk.j (X := fun x3 => Sx l z d mc ms M_Ma_introduced 20 [some (xR a0), some (xI a1)] [xI x3.1] x3.2 Ph) (fun x3 hk => ?_) (fun k4 jk4 hk => ?_)
  · exact sx_retI dc_Ma_introduced_20 rfl hk.val
  · refine sx_if_ge (tgt := 8) dc_Ma_introduced_1 (by decide) (fun c5 => ?_) (fun c5 => ?_)
    · replace hk := hk.t c5
      refine sx_aload_n dc_Ma_introduced_8 rfl ?_
      refine sx_iload_n dc_Ma_introduced_9 rfl ?_
      refine sx_bipush (v := (10 : Int32)) dc_Ma_introduced_10 (by decide) ?_
      refine sx_idiv dc_Ma_introduced_12 (by decide) ?_
      refine sx_iload_n dc_Ma_introduced_13 rfl ?_
      refine sx_bipush (v := (10 : Int32)) dc_Ma_introduced_14 (by decide) ?_
      refine sx_irem dc_Ma_introduced_16 (by decide) ?_
      obtain ⟨g7, hk⟩ := hk.g
      obtain ⟨q6, eq6, hk⟩ := hk.bind
      refine sx_callV (d2 := d - 1) (mc2 := 0) (ms2 := 0) (as := [xI (a1 / (10 : Int32)), xI (jRem a1 (10 : Int32))]) mk_Ma_pairNumber rfl (x_rk (ci := 10) g7 rfl rfl) wM_Ma_107 mi_Ma_pairNumber me_Ma_pairNumber rfl (Nat.le_of_ble_eq_true rfl) (Nat.le_of_ble_eq_true rfl) dc_Ma_introduced_17 (by omega) (Nat.zero_le _) (Nat.zero_le _) ?_
      refine t_Ma_pairNumber (by omega) ⟨q6, eq6, ?_⟩
      refine sx_eq0 (lc2 := [some (xR a0), some (xI a1)]) (st2 := [xI q6.1]) rfl rfl ?_
      exact jk4 (q6.1, q6.2) hk
    · replace hk := hk.f c5
      refine sx_iconst (v := (-1 : Int32)) dc_Ma_introduced_4 (by decide) ?_
      refine sx_goto (tgt := 20) dc_Ma_introduced_5 (by decide) ?_
      exact jk4 ((-1 : Int32), h) hk
theorem dc_Ma_judge_0 : decode M_Ma_judge.2.1 0 = .ok (.aload_n 0, 1) := by decide +kernel
theorem dc_Ma_judge_1 : decode M_Ma_judge.2.1 1 = .ok (.iload_n 1, 1) := by decide +kernel
theorem dc_Ma_judge_2 : decode M_Ma_judge.2.1 2 = .ok (.invokevirtual 313, 3) := by decide +kernel
theorem dc_Ma_judge_5 : decode M_Ma_judge.2.1 5 = .ok (.astore_n 3, 1) := by decide +kernel
theorem dc_Ma_judge_6 : decode M_Ma_judge.2.1 6 = .ok (.aload_n 3, 1) := by decide +kernel
theorem dc_Ma_judge_7 : decode M_Ma_judge.2.1 7 = .ok (.ifnull 11, 3) := by decide +kernel
theorem dc_Ma_judge_10 : decode M_Ma_judge.2.1 10 = .ok (.iload_n 2, 1) := by decide +kernel
theorem dc_Ma_judge_11 : decode M_Ma_judge.2.1 11 = .ok (.iconst 1, 1) := by decide +kernel
theorem dc_Ma_judge_12 : decode M_Ma_judge.2.1 12 = .ok (.invokestatic 148, 3) := by decide +kernel
theorem dc_Ma_judge_15 : decode M_Ma_judge.2.1 15 = .ok (.ifCond .ne 6, 3) := by decide +kernel
theorem dc_Ma_judge_18 : decode M_Ma_judge.2.1 18 = .ok (.bipush (-2), 2) := by decide +kernel
theorem dc_Ma_judge_20 : decode M_Ma_judge.2.1 20 = .ok (.ireturn, 1) := by decide +kernel
theorem dc_Ma_judge_21 : decode M_Ma_judge.2.1 21 = .ok (.aload_n 3, 1) := by decide +kernel
theorem dc_Ma_judge_22 : decode M_Ma_judge.2.1 22 = .ok (.invokevirtual 317, 3) := by decide +kernel
theorem dc_Ma_judge_25 : decode M_Ma_judge.2.1 25 = .ok (.ifCond .eq 6, 3) := by decide +kernel
theorem dc_Ma_judge_28 : decode M_Ma_judge.2.1 28 = .ok (.bipush (-11), 2) := by decide +kernel
theorem dc_Ma_judge_30 : decode M_Ma_judge.2.1 30 = .ok (.ireturn, 1) := by decide +kernel
theorem dc_Ma_judge_31 : decode M_Ma_judge.2.1 31 = .ok (.aload_n 0, 1) := by decide +kernel
theorem dc_Ma_judge_32 : decode M_Ma_judge.2.1 32 = .ok (.getfield 21, 3) := by decide +kernel
theorem dc_Ma_judge_35 : decode M_Ma_judge.2.1 35 = .ok (.getfield 201, 3) := by decide +kernel
theorem dc_Ma_judge_38 : decode M_Ma_judge.2.1 38 = .ok (.istore 4, 2) := by decide +kernel
theorem dc_Ma_judge_40 : decode M_Ma_judge.2.1 40 = .ok (.iconst (-1), 1) := by decide +kernel
theorem dc_Ma_judge_41 : decode M_Ma_judge.2.1 41 = .ok (.istore 5, 2) := by decide +kernel
theorem dc_Ma_judge_43 : decode M_Ma_judge.2.1 43 = .ok (.iconst 0, 1) := by decide +kernel
theorem dc_Ma_judge_44 : decode M_Ma_judge.2.1 44 = .ok (.istore 6, 2) := by decide +kernel
theorem dc_Ma_judge_46 : decode M_Ma_judge.2.1 46 = .ok (.iload 6, 2) := by decide +kernel
theorem dc_Ma_judge_48 : decode M_Ma_judge.2.1 48 = .ok (.aload_n 3, 1) := by decide +kernel
theorem dc_Ma_judge_49 : decode M_Ma_judge.2.1 49 = .ok (.getfield 321, 3) := by decide +kernel
theorem dc_Ma_judge_52 : decode M_Ma_judge.2.1 52 = .ok (.if_icmp .ge 80, 3) := by decide +kernel
theorem dc_Ma_judge_55 : decode M_Ma_judge.2.1 55 = .ok (.aload_n 0, 1) := by decide +kernel
theorem dc_Ma_judge_56 : decode M_Ma_judge.2.1 56 = .ok (.aload_n 3, 1) := by decide +kernel
theorem dc_Ma_judge_57 : decode M_Ma_judge.2.1 57 = .ok (.iload 6, 2) := by decide +kernel
theorem dc_Ma_judge_59 : decode M_Ma_judge.2.1 59 = .ok (.invokevirtual 323, 3) := by decide +kernel
theorem dc_Ma_judge_62 : decode M_Ma_judge.2.1 62 = .ok (.invokevirtual 326, 3) := by decide +kernel
theorem dc_Ma_judge_65 : decode M_Ma_judge.2.1 65 = .ok (.istore 7, 2) := by decide +kernel
theorem dc_Ma_judge_67 : decode M_Ma_judge.2.1 67 = .ok (.iload 7, 2) := by decide +kernel
theorem dc_Ma_judge_69 : decode M_Ma_judge.2.1 69 = .ok (.ifCond .lt 14, 3) := by decide +kernel
theorem dc_Ma_judge_72 : decode M_Ma_judge.2.1 72 = .ok (.iload 4, 2) := by decide +kernel
theorem dc_Ma_judge_74 : decode M_Ma_judge.2.1 74 = .ok (.iload 7, 2) := by decide +kernel
theorem dc_Ma_judge_76 : decode M_Ma_judge.2.1 76 = .ok (.ishr, 1) := by decide +kernel
theorem dc_Ma_judge_77 : decode M_Ma_judge.2.1 77 = .ok (.iconst 1, 1) := by decide +kernel
theorem dc_Ma_judge_78 : decode M_Ma_judge.2.1 78 = .ok (.iand, 1) := by decide +kernel
theorem dc_Ma_judge_79 : decode M_Ma_judge.2.1 79 = .ok (.iconst 1, 1) := by decide +kernel
theorem dc_Ma_judge_80 : decode M_Ma_judge.2.1 80 = .ok (.if_icmp .ne 15, 3) := by decide +kernel
theorem dc_Ma_judge_83 : decode M_Ma_judge.2.1 83 = .ok (.iload_n 2, 1) := by decide +kernel
theorem dc_Ma_judge_84 : decode M_Ma_judge.2.1 84 = .ok (.ifCond .ne 8, 3) := by decide +kernel
theorem dc_Ma_judge_87 : decode M_Ma_judge.2.1 87 = .ok (.iload 6, 2) := by decide +kernel
theorem dc_Ma_judge_89 : decode M_Ma_judge.2.1 89 = .ok (.goto 5, 3) := by decide +kernel
theorem dc_Ma_judge_92 : decode M_Ma_judge.2.1 92 = .ok (.iload 5, 2) := by decide +kernel
theorem dc_Ma_judge_94 : decode M_Ma_judge.2.1 94 = .ok (.ireturn, 1) := by decide +kernel
theorem dc_Ma_judge_95 : decode M_Ma_judge.2.1 95 = .ok (.iload 4, 2) := by decide +kernel
theorem dc_Ma_judge_97 : decode M_Ma_judge.2.1 97 = .ok (.iconst 1, 1) := by decide +kernel
theorem dc_Ma_judge_98 : decode M_Ma_judge.2.1 98 = .ok (.iload 7, 2) := by decide +kernel
theorem dc_Ma_judge_100 : decode M_Ma_judge.2.1 100 = .ok (.ishl, 1) := by decide +kernel
theorem dc_Ma_judge_101 : decode M_Ma_judge.2.1 101 = .ok (.ior, 1) := by decide +kernel
theorem dc_Ma_judge_102 : decode M_Ma_judge.2.1 102 = .ok (.istore 4, 2) := by decide +kernel
theorem dc_Ma_judge_104 : decode M_Ma_judge.2.1 104 = .ok (.iload 5, 2) := by decide +kernel
theorem dc_Ma_judge_106 : decode M_Ma_judge.2.1 106 = .ok (.ifCond .ge 20, 3) := by decide +kernel
theorem dc_Ma_judge_109 : decode M_Ma_judge.2.1 109 = .ok (.aload_n 0, 1) := by decide +kernel
theorem dc_Ma_judge_110 : decode M_Ma_judge.2.1 110 = .ok (.getfield 37, 3) := by decide +kernel
theorem dc_Ma_judge_113 : decode M_Ma_judge.2.1 113 = .ok (.iload 4, 2) := by decide +kernel
theorem dc_Ma_judge_115 : decode M_Ma_judge.2.1 115 = .ok (.iconst 0, 1) := by decide +kernel
theorem dc_Ma_judge_116 : decode M_Ma_judge.2.1 116 = .ok (.invokevirtual 265, 3) := by decide +kernel
theorem dc_Ma_judge_119 : decode M_Ma_judge.2.1 119 = .ok (.ifCond .eq 7, 3) := by decide +kernel
theorem dc_Ma_judge_122 : decode M_Ma_judge.2.1 122 = .ok (.iload 6, 2) := by decide +kernel
theorem dc_Ma_judge_124 : decode M_Ma_judge.2.1 124 = .ok (.istore 5, 2) := by decide +kernel
theorem dc_Ma_judge_126 : decode M_Ma_judge.2.1 126 = .ok (.iinc 6 1, 3) := by decide +kernel
theorem dc_Ma_judge_129 : decode M_Ma_judge.2.1 129 = .ok (.goto (-83), 3) := by decide +kernel
theorem dc_Ma_judge_132 : decode M_Ma_judge.2.1 132 = .ok (.iload_n 2, 1) := by decide +kernel
theorem dc_Ma_judge_133 : decode M_Ma_judge.2.1 133 = .ok (.ifCond .ne 7, 3) := by decide +kernel
theorem dc_Ma_judge_136 : decode M_Ma_judge.2.1 136 = .ok (.iconst (-1), 1) := by decide +kernel
theorem dc_Ma_judge_137 : decode M_Ma_judge.2.1 137 = .ok (.goto 5, 3) := by decide +kernel
theorem dc_Ma_judge_140 : decode M_Ma_judge.2.1 140 = .ok (.iload 5, 2) := by decide +kernel
theorem dc_Ma_judge_142 : decode M_Ma_judge.2.1 142 = .ok (.ireturn, 1) := by decide +kernel
def f_Ma_judge_L46 (a0 : Nat) (a1 : Int32) (a2 : Int32) (a3 : Nat) : Nat → Int32 → Int32 → Int32 → xH → (Int32 → Int32 → Int32 → xH → Option (Int32 × xH)) → Option (Int32 × xH)
  | 0, _, _, _, _, _ => none
  | n + 1, a4, a5, a6, h, K => gd (hK h a3 = 4) (if (hI h a3 1) ≤ a6 then K a4 a5 a6 h else Option.bind (f_Sh_item a3 a6 h) (fun q29 => gd (hK q29.2 a0 = 10) (Option.bind (f_Ma_introduced a0 q29.1 q29.2) (fun q30 => jn (fun (x32 : Unit) => some ((if a2 = 0 then a6 else a5), q30.2)) (fun k33 => if q30.1 < 0 then k33 () else if ((jShr a4 q30.1) &&& (1 : Int32)) = (1 : Int32) then k33 () else jn (fun (x38 : Int32 × xH) => f_Ma_judge_L46 a0 a1 a2 a3 n (a4 ||| (jShl (1 : Int32) q30.1)) x38.1 (a6 + (1 : Int32)) x38.2 K) (fun k39 => if 0 ≤ a5 then k39 (a5, q30.2) else gd (hK q30.2 a0 = 10) (gd (hK q30.2 (hR q30.2 a0 3) = 5) (Option.bind (f_St_anyThree (hR q30.2 a0 3) (a4 ||| (jShl (1 : Int32) q30.1)) (0 : Int32) q30.2) (fun q42 => if q42.1 = 0 then k39 (a5, q42.2) else k39 (a6, q42.2))))))))))
def f_Ma_judge (a0 : Nat) (a1 : Int32) (a2 : Int32) (h : xH) : Option (Int32 × xH) := gd (hK h a0 = 10) (Option.bind (f_Ma_sheetAt a0 a1 h) (fun q15 => jn (fun (x17 : xH) => some ((-2 : Int32), x17)) (fun k18 => if q15.1 = 0 then k18 q15.2 else Option.bind (f_Ma_isWithin a2 (1 : Int32) q15.2) (fun q20 => if q20.1 = 0 then k18 q20.2 else gd (hK q20.2 q15.1 = 4) (Option.bind (f_Sh_isMissing q15.1 q20.2) (fun q22 => if q22.1 = 0 then gd (hK q22.2 a0 = 10) (gd (hK q22.2 (hR q22.2 a0 1) = 6) (f_Ma_judge_L46 a0 a1 a2 q15.1 fu (hI q22.2 (hR q22.2 a0 1) 2) (-1 : Int32) (0 : Int32) q22.2 (fun v45 v46 v47 h48 => some ((if a2 = 0 then (-1 : Int32) else v46), h48)))) else some ((-11 : Int32), q22.2)))))))
theorem t_Ma_judge_L46 {l : Launch} {z : xZ} {d mc ms : Nat} {Ph : Option xV → xH → Prop} {a0 : Nat} {a1 : Int32} {a2 : Int32} {a3 : Nat}  (hd : 5 ≤ d) : ∀ (n : Nat) (a4 : Int32) (a5 : Int32) (a6 : Int32) (h : xH) (K : Int32 → Int32 → Int32 → xH → Option (Int32 × xH)), OK (f_Ma_judge_L46 a0 a1 a2 a3 n a4 a5 a6 h K) (fun q => Ph (some (xI q.1)) q.2) → (∀ (a4 : Int32) (a5 : Int32) (a6 : Int32) (h : xH), OK (K a4 a5 a6 h) (fun q => Ph (some (xI q.1)) q.2) → Sx l z d mc ms M_Ma_judge 132 [some (xR a0), some (xI a1), some (xI a2), some (xR a3), some (xI a4), some (xI a5), some (xI a6), none] [] h Ph) → Sx l z d mc ms M_Ma_judge 46 [some (xR a0), some (xI a1), some (xI a2), some (xR a3), some (xI a4), some (xI a5), some (xI a6), none] [] h Ph := by
  intro n
  induction n with
  | zero => intro a4 a5 a6 h K hk hE; exact hk.no
  | succ n ih =>
    intro a4 a5 a6 h K hk hE
    rw [f_Ma_judge_L46] at hk
    refine sx_iload dc_Ma_judge_46 rfl ?_
    refine sx_aload_n dc_Ma_judge_48 rfl ?_
    obtain ⟨g27, hk⟩ := hk.g
    refine sx_get (ci := 4) (k := 1) rfl (by decide) wF_Ma_321 g27 dc_Ma_judge_49 ?_
    refine sx_icmp_ge (tgt := 132) dc_Ma_judge_52 (by decide) (fun c28 => ?_) (fun c28 => ?_)
    · replace hk := hk.t c28
      exact hE a4 a5 a6 h hk
    · replace hk := hk.f c28
      refine sx_aload_n dc_Ma_judge_55 rfl ?_
      refine sx_aload_n dc_Ma_judge_56 rfl ?_
      refine sx_iload dc_Ma_judge_57 rfl ?_
      obtain ⟨q29, eq29, hk⟩ := hk.bind
      refine sx_callV (d2 := d - 1) (mc2 := 0) (ms2 := 0) (as := [xI a6]) mk_Sh_item rfl (x_rk (ci := 4) g27 rfl rfl) wM_Ma_323 mi_Sh_item me_Sh_item rfl (Nat.le_of_ble_eq_true rfl) (Nat.le_of_ble_eq_true rfl) dc_Ma_judge_59 (by omega) (Nat.zero_le _) (Nat.zero_le _) ?_
      refine t_Sh_item (by omega) ⟨q29, eq29, ?_⟩
      refine sx_eq0 (lc2 := [some (xR a0), some (xI a1), some (xI a2), some (xR a3), some (xI a4), some (xI a5), some (xI a6), none]) (st2 := [xI q29.1, xR a0]) rfl rfl ?_
      obtain ⟨g31, hk⟩ := hk.g
      obtain ⟨q30, eq30, hk⟩ := hk.bind
      refine sx_callV (d2 := d - 1) (mc2 := 0) (ms2 := 0) (as := [xI q29.1]) mk_Ma_introduced rfl (x_rk (ci := 10) g31 rfl rfl) wM_Ma_326 mi_Ma_introduced me_Ma_introduced rfl (Nat.le_of_ble_eq_true rfl) (Nat.le_of_ble_eq_true rfl) dc_Ma_judge_62 (by omega) (Nat.zero_le _) (Nat.zero_le _) ?_
      refine t_Ma_introduced (by omega) ⟨q30, eq30, ?_⟩
      refine sx_eq0 (lc2 := [some (xR a0), some (xI a1), some (xI a2), some (xR a3), some (xI a4), some (xI a5), some (xI a6), none]) (st2 := [xI q30.1]) rfl rfl ?_
      refine sx_istore dc_Ma_judge_65 (by decide) (sx_eq (lc2 := [some (xR a0), some (xI a1), some (xI a2), some (xR a3), some (xI a4), some (xI a5), some (xI a6), some (xI q30.1)]) rfl rfl ?_)
      refine sx_iload dc_Ma_judge_67 rfl ?_
      refine hk.j (X := fun x32 => Sx l z d mc ms M_Ma_judge 83 [some (xR a0), some (xI a1), some (xI a2), some (xR a3), some (xI a4), some (xI a5), some (xI a6), some (xI q30.1)] [] q30.2 Ph) (fun x32 hk => ?_) (fun k33 jk33 hk => ?_)
      · refine sx_iload_n dc_Ma_judge_83 rfl ?_
        refine sx_mg (pc2 := 94) (lc2 := [some (xR a0), some (xI a1), some (xI a2), some (xR a3), some (xI a4), some (xI a5), some (xI a6), some (xI q30.1)]) (st2 := [xI (if a2 = 0 then a6 else a5)]) (h2 := q30.2) ?_ (fun J34 => ?_)
        · exact sx_retI dc_Ma_judge_94 rfl hk.val
        · refine sx_if_ne (tgt := 92) dc_Ma_judge_84 (by decide) (fun c35 => ?_) (fun c35 => ?_)
          · try simp only [if_neg c35] at J34
            refine sx_iload dc_Ma_judge_92 rfl ?_
            exact J34
          · try simp only [if_pos c35] at J34
            refine sx_iload dc_Ma_judge_87 rfl ?_
            refine sx_goto (tgt := 94) dc_Ma_judge_89 (by decide) ?_
            exact J34
      · refine sx_if_lt (tgt := 83) dc_Ma_judge_69 (by decide) (fun c36 => ?_) (fun c36 => ?_)
        · replace hk := hk.t c36
          exact jk33 () hk
        · replace hk := hk.f c36
          refine sx_iload dc_Ma_judge_72 rfl ?_
          refine sx_iload dc_Ma_judge_74 rfl ?_
          refine sx_ishr dc_Ma_judge_76 ?_
          refine sx_iconst (v := (1 : Int32)) dc_Ma_judge_77 (by decide) ?_
          refine sx_iand dc_Ma_judge_78 ?_
          refine sx_iconst (v := (1 : Int32)) dc_Ma_judge_79 (by decide) ?_
          refine sx_icmp_ne (tgt := 95) dc_Ma_judge_80 (by decide) (fun c37 => ?_) (fun c37 => ?_)
          · replace hk := hk.f c37
            refine sx_iload dc_Ma_judge_95 rfl ?_
            refine sx_iconst (v := (1 : Int32)) dc_Ma_judge_97 (by decide) ?_
            refine sx_iload dc_Ma_judge_98 rfl ?_
            refine sx_ishl dc_Ma_judge_100 ?_
            refine sx_ior dc_Ma_judge_101 ?_
            refine sx_istore dc_Ma_judge_102 (by decide) (sx_eq (lc2 := [some (xR a0), some (xI a1), some (xI a2), some (xR a3), some (xI (a4 ||| (jShl (1 : Int32) q30.1))), some (xI a5), some (xI a6), some (xI q30.1)]) rfl rfl ?_)
            refine sx_iload dc_Ma_judge_104 rfl ?_
            refine hk.j (X := fun x38 => Sx l z d mc ms M_Ma_judge 126 [some (xR a0), some (xI a1), some (xI a2), some (xR a3), some (xI (a4 ||| (jShl (1 : Int32) q30.1))), some (xI x38.1), some (xI a6), some (xI q30.1)] [] x38.2 Ph) (fun x38 hk => ?_) (fun k39 jk39 hk => ?_)
            · refine sx_iinc (v := (1 : Int32)) dc_Ma_judge_126 rfl (by decide) (by decide) (sx_eq (lc2 := [some (xR a0), some (xI a1), some (xI a2), some (xR a3), some (xI (a4 ||| (jShl (1 : Int32) q30.1))), some (xI x38.1), some (xI (a6 + (1 : Int32))), some (xI q30.1)]) rfl rfl ?_)
              refine sx_goto (tgt := 46) dc_Ma_judge_129 (by decide) ?_
              exact sx_less (by simp [x_le]) (ih (a4 ||| (jShl (1 : Int32) q30.1)) x38.1 (a6 + (1 : Int32)) x38.2 _ hk hE)
            · refine sx_if_ge (tgt := 126) dc_Ma_judge_106 (by decide) (fun c40 => ?_) (fun c40 => ?_)
              · replace hk := hk.t c40
                exact jk39 (a5, q30.2) hk
              · replace hk := hk.f c40
                refine sx_aload_n dc_Ma_judge_109 rfl ?_
                obtain ⟨g41, hk⟩ := hk.g
                refine sx_get (ci := 10) (k := 3) rfl (by decide) wF_Ma_37 g41 dc_Ma_judge_110 ?_
                refine sx_iload dc_Ma_judge_113 rfl ?_
                refine sx_iconst (v := (0 : Int32)) dc_Ma_judge_115 (by decide) ?_
                obtain ⟨g43, hk⟩ := hk.g
                obtain ⟨q42, eq42, hk⟩ := hk.bind
                refine sx_callV (d2 := d - 1) (mc2 := 0) (ms2 := 0) (as := [xI (a4 ||| (jShl (1 : Int32) q30.1)), xI (0 : Int32)]) mk_St_anyThree rfl (x_rk (ci := 5) g43 rfl rfl) wM_Ma_265 mi_St_anyThree me_St_anyThree rfl (Nat.le_of_ble_eq_true rfl) (Nat.le_of_ble_eq_true rfl) dc_Ma_judge_116 (by omega) (Nat.zero_le _) (Nat.zero_le _) ?_
                refine t_St_anyThree (by omega) ⟨q42, eq42, ?_⟩
                refine sx_eq0 (lc2 := [some (xR a0), some (xI a1), some (xI a2), some (xR a3), some (xI (a4 ||| (jShl (1 : Int32) q30.1))), some (xI a5), some (xI a6), some (xI q30.1)]) (st2 := [xI q42.1]) rfl rfl ?_
                refine sx_if_eq (tgt := 126) dc_Ma_judge_119 (by decide) (fun c44 => ?_) (fun c44 => ?_)
                · replace hk := hk.t c44
                  exact jk39 (a5, q42.2) hk
                · replace hk := hk.f c44
                  refine sx_iload dc_Ma_judge_122 rfl ?_
                  refine sx_istore dc_Ma_judge_124 (by decide) (sx_eq (lc2 := [some (xR a0), some (xI a1), some (xI a2), some (xR a3), some (xI (a4 ||| (jShl (1 : Int32) q30.1))), some (xI a6), some (xI a6), some (xI q30.1)]) rfl rfl ?_)
                  exact jk39 (a6, q42.2) hk
          · replace hk := hk.t c37
            exact jk33 () hk
theorem t_Ma_judge {l : Launch} {z : xZ} {d mc ms : Nat} {Ph : Option xV → xH → Prop} {a0 : Nat} {a1 : Int32} {a2 : Int32}  {h : xH} (hd : 5 ≤ d) (hk : OK (f_Ma_judge a0 a1 a2 h) (fun q => Ph (some (xI q.1)) q.2)) : Sx l z d mc ms M_Ma_judge 0 (x_en [xR a0, xI a1, xI a2] 8) [] h Ph := by
  unfold f_Ma_judge at hk
  refine sx_eq (lc2 := [some (xR a0), some (xI a1), some (xI a2), none, none, none, none, none]) rfl rfl ?_
  refine sx_aload_n dc_Ma_judge_0 rfl ?_
  refine sx_iload_n dc_Ma_judge_1 rfl ?_
  obtain ⟨g16, hk⟩ := hk.g
  obtain ⟨q15, eq15, hk⟩ := hk.bind
  refine sx_callV (d2 := d - 1) (mc2 := 0) (ms2 := 0) (as := [xI a1]) mk_Ma_sheetAt rfl (x_rk (ci := 10) g16 rfl rfl) wM_Ma_313 mi_Ma_sheetAt me_Ma_sheetAt rfl (Nat.le_of_ble_eq_true rfl) (Nat.le_of_ble_eq_true rfl) dc_Ma_judge_2 (by omega) (Nat.zero_le _) (Nat.zero_le _) ?_
  refine t_Ma_sheetAt (by omega) ⟨q15, eq15, ?_⟩
  refine sx_eq0 (lc2 := [some (xR a0), some (xI a1), some (xI a2), none, none, none, none, none]) (st2 := [xR q15.1]) rfl rfl ?_
  refine sx_astore_n dc_Ma_judge_5 (by decide) (sx_eq (lc2 := [some (xR a0), some (xI a1), some (xI a2), some (xR q15.1), none, none, none, none]) rfl rfl ?_)
  refine sx_aload_n dc_Ma_judge_6 rfl ?_
  refine hk.j (X := fun x17 => Sx l z d mc ms M_Ma_judge 18 [some (xR a0), some (xI a1), some (xI a2), some (xR q15.1), none, none, none, none] [] x17 Ph) (fun x17 hk => ?_) (fun k18 jk18 hk => ?_)
  · refine sx_bipush (v := (-2 : Int32)) dc_Ma_judge_18 (by decide) ?_
    exact sx_retI dc_Ma_judge_20 rfl hk.val
  · refine sx_ifnull (tgt := 18) dc_Ma_judge_7 (by decide) (fun c19 => ?_) (fun c19 => ?_)
    · replace hk := hk.t c19
      exact jk18 q15.2 hk
    · replace hk := hk.f c19
      refine sx_iload_n dc_Ma_judge_10 rfl ?_
      refine sx_iconst (v := (1 : Int32)) dc_Ma_judge_11 (by decide) ?_
      obtain ⟨q20, eq20, hk⟩ := hk.bind
      refine sx_callS (d2 := d - 1) (mc2 := 0) (ms2 := 0) (as := [xI a2, xI (1 : Int32)]) mk_Ma_isWithin rfl wM_Ma_148 mt_Ma_isWithin rfl (Nat.le_of_ble_eq_true rfl) (Nat.le_of_ble_eq_true rfl) dc_Ma_judge_12 (by omega) (Nat.zero_le _) (Nat.zero_le _) ?_
      refine t_Ma_isWithin (by omega) ⟨q20, eq20, ?_⟩
      refine sx_eq0 (lc2 := [some (xR a0), some (xI a1), some (xI a2), some (xR q15.1), none, none, none, none]) (st2 := [xI q20.1]) rfl rfl ?_
      refine sx_if_ne (tgt := 21) dc_Ma_judge_15 (by decide) (fun c21 => ?_) (fun c21 => ?_)
      · replace hk := hk.f c21
        refine sx_aload_n dc_Ma_judge_21 rfl ?_
        obtain ⟨g23, hk⟩ := hk.g
        obtain ⟨q22, eq22, hk⟩ := hk.bind
        refine sx_callV (d2 := d - 1) (mc2 := 0) (ms2 := 0) (as := []) mk_Sh_isMissing rfl (x_rk (ci := 4) g23 rfl rfl) wM_Ma_317 mi_Sh_isMissing me_Sh_isMissing rfl (Nat.le_of_ble_eq_true rfl) (Nat.le_of_ble_eq_true rfl) dc_Ma_judge_22 (by omega) (Nat.zero_le _) (Nat.zero_le _) ?_
        refine t_Sh_isMissing (by omega) ⟨q22, eq22, ?_⟩
        refine sx_eq0 (lc2 := [some (xR a0), some (xI a1), some (xI a2), some (xR q15.1), none, none, none, none]) (st2 := [xI q22.1]) rfl rfl ?_
        refine sx_if_eq (tgt := 31) dc_Ma_judge_25 (by decide) (fun c24 => ?_) (fun c24 => ?_)
        · replace hk := hk.t c24
          refine sx_aload_n dc_Ma_judge_31 rfl ?_
          obtain ⟨g25, hk⟩ := hk.g
          refine sx_get (ci := 10) (k := 1) rfl (by decide) wF_Ma_21 g25 dc_Ma_judge_32 ?_
          obtain ⟨g26, hk⟩ := hk.g
          refine sx_get (ci := 6) (k := 2) rfl (by decide) wF_Ma_201 g26 dc_Ma_judge_35 ?_
          refine sx_istore dc_Ma_judge_38 (by decide) (sx_eq (lc2 := [some (xR a0), some (xI a1), some (xI a2), some (xR q15.1), some (xI (hI q22.2 (hR q22.2 a0 1) 2)), none, none, none]) rfl rfl ?_)
          refine sx_iconst (v := (-1 : Int32)) dc_Ma_judge_40 (by decide) ?_
          refine sx_istore dc_Ma_judge_41 (by decide) (sx_eq (lc2 := [some (xR a0), some (xI a1), some (xI a2), some (xR q15.1), some (xI (hI q22.2 (hR q22.2 a0 1) 2)), some (xI (-1 : Int32)), none, none]) rfl rfl ?_)
          refine sx_iconst (v := (0 : Int32)) dc_Ma_judge_43 (by decide) ?_
          refine sx_istore dc_Ma_judge_44 (by decide) (sx_eq (lc2 := [some (xR a0), some (xI a1), some (xI a2), some (xR q15.1), some (xI (hI q22.2 (hR q22.2 a0 1) 2)), some (xI (-1 : Int32)), some (xI (0 : Int32)), none]) rfl rfl ?_)
          refine t_Ma_judge_L46 (by omega) _ _ _ _ _ _ hk (fun v45 v46 v47 h48 hk => ?_)
          refine sx_iload_n dc_Ma_judge_132 rfl ?_
          refine sx_mg (pc2 := 142) (lc2 := [some (xR a0), some (xI a1), some (xI a2), some (xR q15.1), some (xI v45), some (xI v46), some (xI v47), none]) (st2 := [xI (if a2 = 0 then (-1 : Int32) else v46)]) (h2 := h48) ?_ (fun J49 => ?_)
          · exact sx_retI dc_Ma_judge_142 rfl hk.val
          · refine sx_if_ne (tgt := 140) dc_Ma_judge_133 (by decide) (fun c50 => ?_) (fun c50 => ?_)
            · try simp only [if_neg c50] at J49
              refine sx_iload dc_Ma_judge_140 rfl ?_
              exact J49
            · try simp only [if_pos c50] at J49
              refine sx_iconst (v := (-1 : Int32)) dc_Ma_judge_136 (by decide) ?_
              refine sx_goto (tgt := 142) dc_Ma_judge_137 (by decide) ?_
              exact J49
        · replace hk := hk.f c24
          refine sx_bipush (v := (-11 : Int32)) dc_Ma_judge_28 (by decide) ?_
          exact sx_retI dc_Ma_judge_30 rfl hk.val
      · replace hk := hk.t c21
        exact jk18 q20.2 hk
theorem dc_Ma_drawn_0 : decode M_Ma_drawn.2.1 0 = .ok (.iconst 0, 1) := by decide +kernel
theorem dc_Ma_drawn_1 : decode M_Ma_drawn.2.1 1 = .ok (.istore_n 2, 1) := by decide +kernel
theorem dc_Ma_drawn_2 : decode M_Ma_drawn.2.1 2 = .ok (.iload_n 1, 1) := by decide +kernel
theorem dc_Ma_drawn_3 : decode M_Ma_drawn.2.1 3 = .ok (.istore_n 3, 1) := by decide +kernel
theorem dc_Ma_drawn_4 : decode M_Ma_drawn.2.1 4 = .ok (.iconst 0, 1) := by decide +kernel
theorem dc_Ma_drawn_5 : decode M_Ma_drawn.2.1 5 = .ok (.istore 4, 2) := by decide +kernel
theorem dc_Ma_drawn_7 : decode M_Ma_drawn.2.1 7 = .ok (.iload 4, 2) := by decide +kernel
theorem dc_Ma_drawn_9 : decode M_Ma_drawn.2.1 9 = .ok (.aload_n 0, 1) := by decide +kernel
theorem dc_Ma_drawn_10 : decode M_Ma_drawn.2.1 10 = .ok (.getfield 21, 3) := by decide +kernel
theorem dc_Ma_drawn_13 : decode M_Ma_drawn.2.1 13 = .ok (.getfield 100, 3) := by decide +kernel
theorem dc_Ma_drawn_16 : decode M_Ma_drawn.2.1 16 = .ok (.invokestatic 268, 3) := by decide +kernel
theorem dc_Ma_drawn_19 : decode M_Ma_drawn.2.1 19 = .ok (.if_icmp .ge 36, 3) := by decide +kernel
theorem dc_Ma_drawn_22 : decode M_Ma_drawn.2.1 22 = .ok (.iload_n 3, 1) := by decide +kernel
theorem dc_Ma_drawn_23 : decode M_Ma_drawn.2.1 23 = .ok (.ldc_w 329, 3) := by decide +kernel
theorem dc_Ma_drawn_26 : decode M_Ma_drawn.2.1 26 = .ok (.imul, 1) := by decide +kernel
theorem dc_Ma_drawn_27 : decode M_Ma_drawn.2.1 27 = .ok (.sipush 12345, 3) := by decide +kernel
theorem dc_Ma_drawn_30 : decode M_Ma_drawn.2.1 30 = .ok (.iadd, 1) := by decide +kernel
theorem dc_Ma_drawn_31 : decode M_Ma_drawn.2.1 31 = .ok (.istore_n 3, 1) := by decide +kernel
theorem dc_Ma_drawn_32 : decode M_Ma_drawn.2.1 32 = .ok (.iload_n 3, 1) := by decide +kernel
theorem dc_Ma_drawn_33 : decode M_Ma_drawn.2.1 33 = .ok (.bipush 13, 2) := by decide +kernel
theorem dc_Ma_drawn_35 : decode M_Ma_drawn.2.1 35 = .ok (.iushr, 1) := by decide +kernel
theorem dc_Ma_drawn_36 : decode M_Ma_drawn.2.1 36 = .ok (.iconst 2, 1) := by decide +kernel
theorem dc_Ma_drawn_37 : decode M_Ma_drawn.2.1 37 = .ok (.irem, 1) := by decide +kernel
theorem dc_Ma_drawn_38 : decode M_Ma_drawn.2.1 38 = .ok (.iconst 1, 1) := by decide +kernel
theorem dc_Ma_drawn_39 : decode M_Ma_drawn.2.1 39 = .ok (.if_icmp .ne 10, 3) := by decide +kernel
theorem dc_Ma_drawn_42 : decode M_Ma_drawn.2.1 42 = .ok (.iload_n 2, 1) := by decide +kernel
theorem dc_Ma_drawn_43 : decode M_Ma_drawn.2.1 43 = .ok (.iconst 1, 1) := by decide +kernel
theorem dc_Ma_drawn_44 : decode M_Ma_drawn.2.1 44 = .ok (.iload 4, 2) := by decide +kernel
theorem dc_Ma_drawn_46 : decode M_Ma_drawn.2.1 46 = .ok (.ishl, 1) := by decide +kernel
theorem dc_Ma_drawn_47 : decode M_Ma_drawn.2.1 47 = .ok (.ior, 1) := by decide +kernel
theorem dc_Ma_drawn_48 : decode M_Ma_drawn.2.1 48 = .ok (.istore_n 2, 1) := by decide +kernel
theorem dc_Ma_drawn_49 : decode M_Ma_drawn.2.1 49 = .ok (.iinc 4 1, 3) := by decide +kernel
theorem dc_Ma_drawn_52 : decode M_Ma_drawn.2.1 52 = .ok (.goto (-45), 3) := by decide +kernel
theorem dc_Ma_drawn_55 : decode M_Ma_drawn.2.1 55 = .ok (.aload_n 0, 1) := by decide +kernel
theorem dc_Ma_drawn_56 : decode M_Ma_drawn.2.1 56 = .ok (.getfield 37, 3) := by decide +kernel
theorem dc_Ma_drawn_59 : decode M_Ma_drawn.2.1 59 = .ok (.iload_n 2, 1) := by decide +kernel
theorem dc_Ma_drawn_60 : decode M_Ma_drawn.2.1 60 = .ok (.aload_n 0, 1) := by decide +kernel
theorem dc_Ma_drawn_61 : decode M_Ma_drawn.2.1 61 = .ok (.getfield 21, 3) := by decide +kernel
theorem dc_Ma_drawn_64 : decode M_Ma_drawn.2.1 64 = .ok (.invokevirtual 132, 3) := by decide +kernel
theorem dc_Ma_drawn_67 : decode M_Ma_drawn.2.1 67 = .ok (.iload_n 2, 1) := by decide +kernel
theorem dc_Ma_drawn_68 : decode M_Ma_drawn.2.1 68 = .ok (.iconst (-1), 1) := by decide +kernel
theorem dc_Ma_drawn_69 : decode M_Ma_drawn.2.1 69 = .ok (.ixor, 1) := by decide +kernel
theorem dc_Ma_drawn_70 : decode M_Ma_drawn.2.1 70 = .ok (.iand, 1) := by decide +kernel
theorem dc_Ma_drawn_71 : decode M_Ma_drawn.2.1 71 = .ok (.invokevirtual 204, 3) := by decide +kernel
theorem dc_Ma_drawn_74 : decode M_Ma_drawn.2.1 74 = .ok (.ireturn, 1) := by decide +kernel
def f_Ma_drawn_L7 (a0 : Nat) (a1 : Int32) : Nat → Int32 → Int32 → Int32 → xH → (Int32 → Int32 → Int32 → xH → Option (Int32 × xH)) → Option (Int32 × xH)
  | 0, _, _, _, _, _ => none
  | n + 1, a2, a3, a4, h, K => gd (hK h a0 = 10) (gd (hK h (hR h a0 1) = 6) (Option.bind (f_Se_pairsAmong (hI h (hR h a0 1) 1) h) (fun q11 => if q11.1 ≤ a4 then K a2 a3 a4 q11.2 else f_Ma_drawn_L7 a0 a1 n (if (jRem (jUshr ((a3 * (1103515245 : Int32)) + (12345 : Int32)) (13 : Int32)) (2 : Int32)) = (1 : Int32) then a2 ||| (jShl (1 : Int32) a4) else a2) ((a3 * (1103515245 : Int32)) + (12345 : Int32)) (a4 + (1 : Int32)) q11.2 K)))
def f_Ma_drawn (a0 : Nat) (a1 : Int32) (h : xH) : Option (Int32 × xH) := f_Ma_drawn_L7 a0 a1 fu (0 : Int32) a1 (0 : Int32) h (fun v15 v16 v17 h18 => gd (hK h18 a0 = 10) (gd (hK h18 (hR h18 a0 1) = 6) (Option.bind (f_Ta_everyPair (hR h18 a0 1) h18) (fun q20 => gd (hK q20.2 (hR h18 a0 3) = 5) (Option.bind (f_St_howMany (hR h18 a0 3) v15 (q20.1 &&& (v15 ^^^ (-1 : Int32))) q20.2) (fun q22 => some (q22.1, q22.2)))))))
theorem t_Ma_drawn_L7 {l : Launch} {z : xZ} {d mc ms : Nat} {Ph : Option xV → xH → Prop} {a0 : Nat} {a1 : Int32}  (hd : 2 ≤ d) : ∀ (n : Nat) (a2 : Int32) (a3 : Int32) (a4 : Int32) (h : xH) (K : Int32 → Int32 → Int32 → xH → Option (Int32 × xH)), OK (f_Ma_drawn_L7 a0 a1 n a2 a3 a4 h K) (fun q => Ph (some (xI q.1)) q.2) → (∀ (a2 : Int32) (a3 : Int32) (a4 : Int32) (h : xH), OK (K a2 a3 a4 h) (fun q => Ph (some (xI q.1)) q.2) → Sx l z d mc ms M_Ma_drawn 55 [some (xR a0), some (xI a1), some (xI a2), some (xI a3), some (xI a4)] [] h Ph) → Sx l z d mc ms M_Ma_drawn 7 [some (xR a0), some (xI a1), some (xI a2), some (xI a3), some (xI a4)] [] h Ph := by
  intro n
  induction n with
  | zero => intro a2 a3 a4 h K hk hE; exact hk.no
  | succ n ih =>
    intro a2 a3 a4 h K hk hE
    rw [f_Ma_drawn_L7] at hk
    refine sx_iload dc_Ma_drawn_7 rfl ?_
    refine sx_aload_n dc_Ma_drawn_9 rfl ?_
    obtain ⟨g9, hk⟩ := hk.g
    refine sx_get (ci := 10) (k := 1) rfl (by decide) wF_Ma_21 g9 dc_Ma_drawn_10 ?_
    obtain ⟨g10, hk⟩ := hk.g
    refine sx_get (ci := 6) (k := 1) rfl (by decide) wF_Ma_100 g10 dc_Ma_drawn_13 ?_
    obtain ⟨q11, eq11, hk⟩ := hk.bind
    refine sx_callS (d2 := d - 1) (mc2 := 0) (ms2 := 0) (as := [xI (hI h (hR h a0 1) 1)]) mk_Se_pairsAmong rfl wM_Ma_268 mt_Se_pairsAmong rfl (Nat.le_of_ble_eq_true rfl) (Nat.le_of_ble_eq_true rfl) dc_Ma_drawn_16 (by omega) (Nat.zero_le _) (Nat.zero_le _) ?_
    refine t_Se_pairsAmong (by omega) ⟨q11, eq11, ?_⟩
    refine sx_eq0 (lc2 := [some (xR a0), some (xI a1), some (xI a2), some (xI a3), some (xI a4)]) (st2 := [xI q11.1, xI a4]) rfl rfl ?_
    refine sx_icmp_ge (tgt := 55) dc_Ma_drawn_19 (by decide) (fun c12 => ?_) (fun c12 => ?_)
    · replace hk := hk.t c12
      exact hE a2 a3 a4 q11.2 hk
    · replace hk := hk.f c12
      refine sx_iload_n dc_Ma_drawn_22 rfl ?_
      refine sx_ldcw (v := (1103515245 : Int32)) wK_Ma_329 dc_Ma_drawn_23 ?_
      refine sx_imul dc_Ma_drawn_26 ?_
      refine sx_sipush (v := (12345 : Int32)) dc_Ma_drawn_27 (by decide) ?_
      refine sx_iadd dc_Ma_drawn_30 ?_
      refine sx_istore_n dc_Ma_drawn_31 (by decide) (sx_eq (lc2 := [some (xR a0), some (xI a1), some (xI a2), some (xI ((a3 * (1103515245 : Int32)) + (12345 : Int32))), some (xI a4)]) rfl rfl ?_)
      refine sx_iload_n dc_Ma_drawn_32 rfl ?_
      refine sx_bipush (v := (13 : Int32)) dc_Ma_drawn_33 (by decide) ?_
      refine sx_iushr dc_Ma_drawn_35 ?_
      refine sx_iconst (v := (2 : Int32)) dc_Ma_drawn_36 (by decide) ?_
      refine sx_irem dc_Ma_drawn_37 (by decide) ?_
      refine sx_iconst (v := (1 : Int32)) dc_Ma_drawn_38 (by decide) ?_
      refine sx_mg (pc2 := 49) (lc2 := [some (xR a0), some (xI a1), some (xI (if (jRem (jUshr ((a3 * (1103515245 : Int32)) + (12345 : Int32)) (13 : Int32)) (2 : Int32)) = (1 : Int32) then a2 ||| (jShl (1 : Int32) a4) else a2)), some (xI ((a3 * (1103515245 : Int32)) + (12345 : Int32))), some (xI a4)]) (st2 := []) (h2 := q11.2) ?_ (fun J13 => ?_)
      · refine sx_iinc (v := (1 : Int32)) dc_Ma_drawn_49 rfl (by decide) (by decide) (sx_eq (lc2 := [some (xR a0), some (xI a1), some (xI (if (jRem (jUshr ((a3 * (1103515245 : Int32)) + (12345 : Int32)) (13 : Int32)) (2 : Int32)) = (1 : Int32) then a2 ||| (jShl (1 : Int32) a4) else a2)), some (xI ((a3 * (1103515245 : Int32)) + (12345 : Int32))), some (xI (a4 + (1 : Int32)))]) rfl rfl ?_)
        refine sx_goto (tgt := 7) dc_Ma_drawn_52 (by decide) ?_
        exact ih (if (jRem (jUshr ((a3 * (1103515245 : Int32)) + (12345 : Int32)) (13 : Int32)) (2 : Int32)) = (1 : Int32) then a2 ||| (jShl (1 : Int32) a4) else a2) ((a3 * (1103515245 : Int32)) + (12345 : Int32)) (a4 + (1 : Int32)) q11.2 _ hk hE
      · refine sx_icmp_ne (tgt := 49) dc_Ma_drawn_39 (by decide) (fun c14 => ?_) (fun c14 => ?_)
        · try simp only [if_neg c14] at J13
          exact J13
        · try simp only [if_pos c14] at J13
          refine sx_iload_n dc_Ma_drawn_42 rfl ?_
          refine sx_iconst (v := (1 : Int32)) dc_Ma_drawn_43 (by decide) ?_
          refine sx_iload dc_Ma_drawn_44 rfl ?_
          refine sx_ishl dc_Ma_drawn_46 ?_
          refine sx_ior dc_Ma_drawn_47 ?_
          refine sx_istore_n dc_Ma_drawn_48 (by decide) (sx_eq (lc2 := [some (xR a0), some (xI a1), some (xI (a2 ||| (jShl (1 : Int32) a4))), some (xI ((a3 * (1103515245 : Int32)) + (12345 : Int32))), some (xI a4)]) rfl rfl ?_)
          exact J13
theorem t_Ma_drawn {l : Launch} {z : xZ} {d mc ms : Nat} {Ph : Option xV → xH → Prop} {a0 : Nat} {a1 : Int32}  {h : xH} (hd : 4 ≤ d) (hk : OK (f_Ma_drawn a0 a1 h) (fun q => Ph (some (xI q.1)) q.2)) : Sx l z d mc ms M_Ma_drawn 0 (x_en [xR a0, xI a1] 5) [] h Ph := by
  unfold f_Ma_drawn at hk
  refine sx_eq (lc2 := [some (xR a0), some (xI a1), none, none, none]) rfl rfl ?_
  refine sx_iconst (v := (0 : Int32)) dc_Ma_drawn_0 (by decide) ?_
  refine sx_istore_n dc_Ma_drawn_1 (by decide) (sx_eq (lc2 := [some (xR a0), some (xI a1), some (xI (0 : Int32)), none, none]) rfl rfl ?_)
  refine sx_iload_n dc_Ma_drawn_2 rfl ?_
  refine sx_istore_n dc_Ma_drawn_3 (by decide) (sx_eq (lc2 := [some (xR a0), some (xI a1), some (xI (0 : Int32)), some (xI a1), none]) rfl rfl ?_)
  refine sx_iconst (v := (0 : Int32)) dc_Ma_drawn_4 (by decide) ?_
  refine sx_istore dc_Ma_drawn_5 (by decide) (sx_eq (lc2 := [some (xR a0), some (xI a1), some (xI (0 : Int32)), some (xI a1), some (xI (0 : Int32))]) rfl rfl ?_)
  refine t_Ma_drawn_L7 (by omega) _ _ _ _ _ _ hk (fun v15 v16 v17 h18 hk => ?_)
  refine sx_aload_n dc_Ma_drawn_55 rfl ?_
  obtain ⟨g19, hk⟩ := hk.g
  refine sx_get (ci := 10) (k := 3) rfl (by decide) wF_Ma_37 g19 dc_Ma_drawn_56 ?_
  refine sx_iload_n dc_Ma_drawn_59 rfl ?_
  refine sx_aload_n dc_Ma_drawn_60 rfl ?_
  refine sx_get (ci := 10) (k := 1) rfl (by decide) wF_Ma_21 g19 dc_Ma_drawn_61 ?_
  obtain ⟨g21, hk⟩ := hk.g
  obtain ⟨q20, eq20, hk⟩ := hk.bind
  refine sx_callV (d2 := d - 1) (mc2 := 0) (ms2 := 0) (as := []) mk_Ta_everyPair rfl (x_rk (ci := 6) g21 rfl rfl) wM_Ma_132 mi_Ta_everyPair me_Ta_everyPair rfl (Nat.le_of_ble_eq_true rfl) (Nat.le_of_ble_eq_true rfl) dc_Ma_drawn_64 (by omega) (Nat.zero_le _) (Nat.zero_le _) ?_
  refine t_Ta_everyPair (by omega) ⟨q20, eq20, ?_⟩
  refine sx_eq0 (lc2 := [some (xR a0), some (xI a1), some (xI v15), some (xI v16), some (xI v17)]) (st2 := [xI q20.1, xI v15, xR (hR h18 a0 3)]) rfl rfl ?_
  refine sx_iload_n dc_Ma_drawn_67 rfl ?_
  refine sx_iconst (v := (-1 : Int32)) dc_Ma_drawn_68 (by decide) ?_
  refine sx_ixor dc_Ma_drawn_69 ?_
  refine sx_iand dc_Ma_drawn_70 ?_
  obtain ⟨g23, hk⟩ := hk.g
  obtain ⟨q22, eq22, hk⟩ := hk.bind
  refine sx_callV (d2 := d - 1) (mc2 := 0) (ms2 := 0) (as := [xI v15, xI (q20.1 &&& (v15 ^^^ (-1 : Int32)))]) mk_St_howMany rfl (x_rk (ci := 5) g23 rfl rfl) wM_Ma_204 mi_St_howMany me_St_howMany rfl (Nat.le_of_ble_eq_true rfl) (Nat.le_of_ble_eq_true rfl) dc_Ma_drawn_71 (by omega) (Nat.zero_le _) (Nat.zero_le _) ?_
  refine t_St_howMany (by omega) ⟨q22, eq22, ?_⟩
  refine sx_eq0 (lc2 := [some (xR a0), some (xI a1), some (xI v15), some (xI v16), some (xI v17)]) (st2 := [xI q22.1]) rfl rfl ?_
  exact sx_retI dc_Ma_drawn_74 rfl hk.val
theorem dc_Ma_like_0 : decode M_Ma_like.2.1 0 = .ok (.aload_n 0, 1) := by decide +kernel
theorem dc_Ma_like_1 : decode M_Ma_like.2.1 1 = .ok (.iload_n 1, 1) := by decide +kernel
theorem dc_Ma_like_2 : decode M_Ma_like.2.1 2 = .ok (.invokevirtual 124, 3) := by decide +kernel
theorem dc_Ma_like_5 : decode M_Ma_like.2.1 5 = .ok (.astore_n 2, 1) := by decide +kernel
theorem dc_Ma_like_6 : decode M_Ma_like.2.1 6 = .ok (.aload_n 2, 1) := by decide +kernel
theorem dc_Ma_like_7 : decode M_Ma_like.2.1 7 = .ok (.ifnonnull 6, 3) := by decide +kernel
theorem dc_Ma_like_10 : decode M_Ma_like.2.1 10 = .ok (.bipush (-2), 2) := by decide +kernel
theorem dc_Ma_like_12 : decode M_Ma_like.2.1 12 = .ok (.ireturn, 1) := by decide +kernel
theorem dc_Ma_like_13 : decode M_Ma_like.2.1 13 = .ok (.aload_n 0, 1) := by decide +kernel
theorem dc_Ma_like_14 : decode M_Ma_like.2.1 14 = .ok (.getfield 21, 3) := by decide +kernel
theorem dc_Ma_like_17 : decode M_Ma_like.2.1 17 = .ok (.getfield 201, 3) := by decide +kernel
theorem dc_Ma_like_20 : decode M_Ma_like.2.1 20 = .ok (.aload_n 0, 1) := by decide +kernel
theorem dc_Ma_like_21 : decode M_Ma_like.2.1 21 = .ok (.getfield 21, 3) := by decide +kernel
theorem dc_Ma_like_24 : decode M_Ma_like.2.1 24 = .ok (.getfield 207, 3) := by decide +kernel
theorem dc_Ma_like_27 : decode M_Ma_like.2.1 27 = .ok (.ior, 1) := by decide +kernel
theorem dc_Ma_like_28 : decode M_Ma_like.2.1 28 = .ok (.aload_n 0, 1) := by decide +kernel
theorem dc_Ma_like_29 : decode M_Ma_like.2.1 29 = .ok (.getfield 21, 3) := by decide +kernel
theorem dc_Ma_like_32 : decode M_Ma_like.2.1 32 = .ok (.getfield 201, 3) := by decide +kernel
theorem dc_Ma_like_35 : decode M_Ma_like.2.1 35 = .ok (.aload_n 0, 1) := by decide +kernel
theorem dc_Ma_like_36 : decode M_Ma_like.2.1 36 = .ok (.aload_n 2, 1) := by decide +kernel
theorem dc_Ma_like_37 : decode M_Ma_like.2.1 37 = .ok (.invokevirtual 128, 3) := by decide +kernel
theorem dc_Ma_like_40 : decode M_Ma_like.2.1 40 = .ok (.ixor, 1) := by decide +kernel
theorem dc_Ma_like_41 : decode M_Ma_like.2.1 41 = .ok (.iand, 1) := by decide +kernel
theorem dc_Ma_like_42 : decode M_Ma_like.2.1 42 = .ok (.istore_n 3, 1) := by decide +kernel
theorem dc_Ma_like_43 : decode M_Ma_like.2.1 43 = .ok (.iconst 0, 1) := by decide +kernel
theorem dc_Ma_like_44 : decode M_Ma_like.2.1 44 = .ok (.istore 4, 2) := by decide +kernel
theorem dc_Ma_like_46 : decode M_Ma_like.2.1 46 = .ok (.iconst 0, 1) := by decide +kernel
theorem dc_Ma_like_47 : decode M_Ma_like.2.1 47 = .ok (.istore 5, 2) := by decide +kernel
theorem dc_Ma_like_49 : decode M_Ma_like.2.1 49 = .ok (.iload 5, 2) := by decide +kernel
theorem dc_Ma_like_51 : decode M_Ma_like.2.1 51 = .ok (.aload_n 0, 1) := by decide +kernel
theorem dc_Ma_like_52 : decode M_Ma_like.2.1 52 = .ok (.getfield 21, 3) := by decide +kernel
theorem dc_Ma_like_55 : decode M_Ma_like.2.1 55 = .ok (.getfield 100, 3) := by decide +kernel
theorem dc_Ma_like_58 : decode M_Ma_like.2.1 58 = .ok (.invokestatic 268, 3) := by decide +kernel
theorem dc_Ma_like_61 : decode M_Ma_like.2.1 61 = .ok (.if_icmp .ge 46, 3) := by decide +kernel
theorem dc_Ma_like_64 : decode M_Ma_like.2.1 64 = .ok (.iload_n 3, 1) := by decide +kernel
theorem dc_Ma_like_65 : decode M_Ma_like.2.1 65 = .ok (.iload 5, 2) := by decide +kernel
theorem dc_Ma_like_67 : decode M_Ma_like.2.1 67 = .ok (.ishr, 1) := by decide +kernel
theorem dc_Ma_like_68 : decode M_Ma_like.2.1 68 = .ok (.iconst 1, 1) := by decide +kernel
theorem dc_Ma_like_69 : decode M_Ma_like.2.1 69 = .ok (.iand, 1) := by decide +kernel
theorem dc_Ma_like_70 : decode M_Ma_like.2.1 70 = .ok (.iconst 1, 1) := by decide +kernel
theorem dc_Ma_like_71 : decode M_Ma_like.2.1 71 = .ok (.if_icmp .ne 30, 3) := by decide +kernel
theorem dc_Ma_like_74 : decode M_Ma_like.2.1 74 = .ok (.iload 4, 2) := by decide +kernel
theorem dc_Ma_like_76 : decode M_Ma_like.2.1 76 = .ok (.aload_n 2, 1) := by decide +kernel
theorem dc_Ma_like_77 : decode M_Ma_like.2.1 77 = .ok (.aload_n 0, 1) := by decide +kernel
theorem dc_Ma_like_78 : decode M_Ma_like.2.1 78 = .ok (.getfield 10, 3) := by decide +kernel
theorem dc_Ma_like_81 : decode M_Ma_like.2.1 81 = .ok (.iload 5, 2) := by decide +kernel
theorem dc_Ma_like_83 : decode M_Ma_like.2.1 83 = .ok (.invokevirtual 330, 3) := by decide +kernel
theorem dc_Ma_like_86 : decode M_Ma_like.2.1 86 = .ok (.aload_n 0, 1) := by decide +kernel
theorem dc_Ma_like_87 : decode M_Ma_like.2.1 87 = .ok (.getfield 10, 3) := by decide +kernel
theorem dc_Ma_like_90 : decode M_Ma_like.2.1 90 = .ok (.iload 5, 2) := by decide +kernel
theorem dc_Ma_like_92 : decode M_Ma_like.2.1 92 = .ok (.invokevirtual 333, 3) := by decide +kernel
theorem dc_Ma_like_95 : decode M_Ma_like.2.1 95 = .ok (.invokevirtual 152, 3) := by decide +kernel
theorem dc_Ma_like_98 : decode M_Ma_like.2.1 98 = .ok (.iadd, 1) := by decide +kernel
theorem dc_Ma_like_99 : decode M_Ma_like.2.1 99 = .ok (.istore 4, 2) := by decide +kernel
theorem dc_Ma_like_101 : decode M_Ma_like.2.1 101 = .ok (.iinc 5 1, 3) := by decide +kernel
theorem dc_Ma_like_104 : decode M_Ma_like.2.1 104 = .ok (.goto (-55), 3) := by decide +kernel
theorem dc_Ma_like_107 : decode M_Ma_like.2.1 107 = .ok (.iload 4, 2) := by decide +kernel
theorem dc_Ma_like_109 : decode M_Ma_like.2.1 109 = .ok (.ireturn, 1) := by decide +kernel
def f_Ma_like_L49 (a0 : Nat) (a1 : Int32) (a2 : Nat) (a3 : Int32) : Nat → Int32 → Int32 → xH → (Int32 → Int32 → xH → Option (Int32 × xH)) → Option (Int32 × xH)
  | 0, _, _, _, _ => none
  | n + 1, a4, a5, h, K => gd (hK h a0 = 10) (gd (hK h (hR h a0 1) = 6) (Option.bind (f_Se_pairsAmong (hI h (hR h a0 1) 1) h) (fun q25 => if q25.1 ≤ a5 then K a4 a5 q25.2 else jn (fun (x27 : Int32 × xH) => f_Ma_like_L49 a0 a1 a2 a3 n x27.1 (a5 + (1 : Int32)) x27.2 K) (fun k28 => if ((jShr a3 a5) &&& (1 : Int32)) = (1 : Int32) then gd (hK q25.2 a0 = 10) (gd (hK q25.2 (hR q25.2 a0 0) = 3) (Option.bind (f_Se_lower (hR q25.2 a0 0) a5 q25.2) (fun q31 => gd (hK q31.2 a0 = 10) (gd (hK q31.2 (hR q31.2 a0 0) = 3) (Option.bind (f_Se_higher (hR q31.2 a0 0) a5 q31.2) (fun q34 => gd (hK q34.2 a2 = 8) (Option.bind (f_To_price a2 q31.1 q34.1 q34.2) (fun q36 => k28 ((a4 + q36.1), q36.2))))))))) else k28 (a4, q25.2)))))
def f_Ma_like (a0 : Nat) (a1 : Int32) (h : xH) : Option (Int32 × xH) := gd (hK h a0 = 10) (Option.bind (f_Ma_townAt a0 a1 h) (fun q17 => if q17.1 = 0 then some ((-2 : Int32), q17.2) else gd (hK q17.2 a0 = 10) (gd (hK q17.2 (hR q17.2 a0 1) = 6) (Option.bind (f_Ma_friendsIn a0 q17.1 q17.2) (fun q22 => f_Ma_like_L49 a0 a1 q17.1 (((hI q17.2 (hR q17.2 a0 1) 2) ||| (hI q17.2 (hR q17.2 a0 1) 3)) &&& ((hI q17.2 (hR q17.2 a0 1) 2) ^^^ q22.1)) fu (0 : Int32) (0 : Int32) q22.2 (fun v38 v39 h40 => some (v38, h40)))))))
theorem t_Ma_like_L49 {l : Launch} {z : xZ} {d mc ms : Nat} {Ph : Option xV → xH → Prop} {a0 : Nat} {a1 : Int32} {a2 : Nat} {a3 : Int32}  (hd : 3 ≤ d) : ∀ (n : Nat) (a4 : Int32) (a5 : Int32) (h : xH) (K : Int32 → Int32 → xH → Option (Int32 × xH)), OK (f_Ma_like_L49 a0 a1 a2 a3 n a4 a5 h K) (fun q => Ph (some (xI q.1)) q.2) → (∀ (a4 : Int32) (a5 : Int32) (h : xH), OK (K a4 a5 h) (fun q => Ph (some (xI q.1)) q.2) → Sx l z d mc ms M_Ma_like 107 [some (xR a0), some (xI a1), some (xR a2), some (xI a3), some (xI a4), some (xI a5)] [] h Ph) → Sx l z d mc ms M_Ma_like 49 [some (xR a0), some (xI a1), some (xR a2), some (xI a3), some (xI a4), some (xI a5)] [] h Ph := by
  intro n
  induction n with
  | zero => intro a4 a5 h K hk hE; exact hk.no
  | succ n ih =>
    intro a4 a5 h K hk hE
    rw [f_Ma_like_L49] at hk
    refine sx_iload dc_Ma_like_49 rfl ?_
    refine sx_aload_n dc_Ma_like_51 rfl ?_
    obtain ⟨g23, hk⟩ := hk.g
    refine sx_get (ci := 10) (k := 1) rfl (by decide) wF_Ma_21 g23 dc_Ma_like_52 ?_
    obtain ⟨g24, hk⟩ := hk.g
    refine sx_get (ci := 6) (k := 1) rfl (by decide) wF_Ma_100 g24 dc_Ma_like_55 ?_
    obtain ⟨q25, eq25, hk⟩ := hk.bind
    refine sx_callS (d2 := d - 1) (mc2 := 0) (ms2 := 0) (as := [xI (hI h (hR h a0 1) 1)]) mk_Se_pairsAmong rfl wM_Ma_268 mt_Se_pairsAmong rfl (Nat.le_of_ble_eq_true rfl) (Nat.le_of_ble_eq_true rfl) dc_Ma_like_58 (by omega) (Nat.zero_le _) (Nat.zero_le _) ?_
    refine t_Se_pairsAmong (by omega) ⟨q25, eq25, ?_⟩
    refine sx_eq0 (lc2 := [some (xR a0), some (xI a1), some (xR a2), some (xI a3), some (xI a4), some (xI a5)]) (st2 := [xI q25.1, xI a5]) rfl rfl ?_
    refine sx_icmp_ge (tgt := 107) dc_Ma_like_61 (by decide) (fun c26 => ?_) (fun c26 => ?_)
    · replace hk := hk.t c26
      exact hE a4 a5 q25.2 hk
    · replace hk := hk.f c26
      refine sx_iload_n dc_Ma_like_64 rfl ?_
      refine sx_iload dc_Ma_like_65 rfl ?_
      refine sx_ishr dc_Ma_like_67 ?_
      refine sx_iconst (v := (1 : Int32)) dc_Ma_like_68 (by decide) ?_
      refine sx_iand dc_Ma_like_69 ?_
      refine sx_iconst (v := (1 : Int32)) dc_Ma_like_70 (by decide) ?_
      refine hk.j (X := fun x27 => Sx l z d mc ms M_Ma_like 101 [some (xR a0), some (xI a1), some (xR a2), some (xI a3), some (xI x27.1), some (xI a5)] [] x27.2 Ph) (fun x27 hk => ?_) (fun k28 jk28 hk => ?_)
      · refine sx_iinc (v := (1 : Int32)) dc_Ma_like_101 rfl (by decide) (by decide) (sx_eq (lc2 := [some (xR a0), some (xI a1), some (xR a2), some (xI a3), some (xI x27.1), some (xI (a5 + (1 : Int32)))]) rfl rfl ?_)
        refine sx_goto (tgt := 49) dc_Ma_like_104 (by decide) ?_
        exact ih x27.1 (a5 + (1 : Int32)) x27.2 _ hk hE
      · refine sx_icmp_ne (tgt := 101) dc_Ma_like_71 (by decide) (fun c29 => ?_) (fun c29 => ?_)
        · replace hk := hk.f c29
          exact jk28 (a4, q25.2) hk
        · replace hk := hk.t c29
          refine sx_iload dc_Ma_like_74 rfl ?_
          refine sx_aload_n dc_Ma_like_76 rfl ?_
          refine sx_aload_n dc_Ma_like_77 rfl ?_
          obtain ⟨g30, hk⟩ := hk.g
          refine sx_get (ci := 10) (k := 0) rfl (by decide) wF_Ma_10 g30 dc_Ma_like_78 ?_
          refine sx_iload dc_Ma_like_81 rfl ?_
          obtain ⟨g32, hk⟩ := hk.g
          obtain ⟨q31, eq31, hk⟩ := hk.bind
          refine sx_callV (d2 := d - 1) (mc2 := 0) (ms2 := 0) (as := [xI a5]) mk_Se_lower rfl (x_rk (ci := 3) g32 rfl rfl) wM_Ma_330 mi_Se_lower me_Se_lower rfl (Nat.le_of_ble_eq_true rfl) (Nat.le_of_ble_eq_true rfl) dc_Ma_like_83 (by omega) (Nat.zero_le _) (Nat.zero_le _) ?_
          refine t_Se_lower (by omega) ⟨q31, eq31, ?_⟩
          refine sx_eq0 (lc2 := [some (xR a0), some (xI a1), some (xR a2), some (xI a3), some (xI a4), some (xI a5)]) (st2 := [xI q31.1, xR a2, xI a4]) rfl rfl ?_
          refine sx_aload_n dc_Ma_like_86 rfl ?_
          obtain ⟨g33, hk⟩ := hk.g
          refine sx_get (ci := 10) (k := 0) rfl (by decide) wF_Ma_10 g33 dc_Ma_like_87 ?_
          refine sx_iload dc_Ma_like_90 rfl ?_
          obtain ⟨g35, hk⟩ := hk.g
          obtain ⟨q34, eq34, hk⟩ := hk.bind
          refine sx_callV (d2 := d - 1) (mc2 := 0) (ms2 := 0) (as := [xI a5]) mk_Se_higher rfl (x_rk (ci := 3) g35 rfl rfl) wM_Ma_333 mi_Se_higher me_Se_higher rfl (Nat.le_of_ble_eq_true rfl) (Nat.le_of_ble_eq_true rfl) dc_Ma_like_92 (by omega) (Nat.zero_le _) (Nat.zero_le _) ?_
          refine t_Se_higher (by omega) ⟨q34, eq34, ?_⟩
          refine sx_eq0 (lc2 := [some (xR a0), some (xI a1), some (xR a2), some (xI a3), some (xI a4), some (xI a5)]) (st2 := [xI q34.1, xI q31.1, xR a2, xI a4]) rfl rfl ?_
          obtain ⟨g37, hk⟩ := hk.g
          obtain ⟨q36, eq36, hk⟩ := hk.bind
          refine sx_callV (d2 := d - 1) (mc2 := 0) (ms2 := 0) (as := [xI q31.1, xI q34.1]) mk_To_price rfl (x_rk (ci := 8) g37 rfl rfl) wM_Ma_152 mi_To_price me_To_price rfl (Nat.le_of_ble_eq_true rfl) (Nat.le_of_ble_eq_true rfl) dc_Ma_like_95 (by omega) (Nat.zero_le _) (Nat.zero_le _) ?_
          refine t_To_price (by omega) ⟨q36, eq36, ?_⟩
          refine sx_eq0 (lc2 := [some (xR a0), some (xI a1), some (xR a2), some (xI a3), some (xI a4), some (xI a5)]) (st2 := [xI q36.1, xI a4]) rfl rfl ?_
          refine sx_iadd dc_Ma_like_98 ?_
          refine sx_istore dc_Ma_like_99 (by decide) (sx_eq (lc2 := [some (xR a0), some (xI a1), some (xR a2), some (xI a3), some (xI (a4 + q36.1)), some (xI a5)]) rfl rfl ?_)
          exact jk28 ((a4 + q36.1), q36.2) hk
theorem t_Ma_like {l : Launch} {z : xZ} {d mc ms : Nat} {Ph : Option xV → xH → Prop} {a0 : Nat} {a1 : Int32}  {h : xH} (hd : 4 ≤ d) (hk : OK (f_Ma_like a0 a1 h) (fun q => Ph (some (xI q.1)) q.2)) : Sx l z d mc ms M_Ma_like 0 (x_en [xR a0, xI a1] 6) [] h Ph := by
  unfold f_Ma_like at hk
  refine sx_eq (lc2 := [some (xR a0), some (xI a1), none, none, none, none]) rfl rfl ?_
  refine sx_aload_n dc_Ma_like_0 rfl ?_
  refine sx_iload_n dc_Ma_like_1 rfl ?_
  obtain ⟨g18, hk⟩ := hk.g
  obtain ⟨q17, eq17, hk⟩ := hk.bind
  refine sx_callV (d2 := d - 1) (mc2 := 0) (ms2 := 0) (as := [xI a1]) mk_Ma_townAt rfl (x_rk (ci := 10) g18 rfl rfl) wM_Ma_124 mi_Ma_townAt me_Ma_townAt rfl (Nat.le_of_ble_eq_true rfl) (Nat.le_of_ble_eq_true rfl) dc_Ma_like_2 (by omega) (Nat.zero_le _) (Nat.zero_le _) ?_
  refine t_Ma_townAt (by omega) ⟨q17, eq17, ?_⟩
  refine sx_eq0 (lc2 := [some (xR a0), some (xI a1), none, none, none, none]) (st2 := [xR q17.1]) rfl rfl ?_
  refine sx_astore_n dc_Ma_like_5 (by decide) (sx_eq (lc2 := [some (xR a0), some (xI a1), some (xR q17.1), none, none, none]) rfl rfl ?_)
  refine sx_aload_n dc_Ma_like_6 rfl ?_
  refine sx_ifnonnull (tgt := 13) dc_Ma_like_7 (by decide) (fun c19 => ?_) (fun c19 => ?_)
  · replace hk := hk.f c19
    refine sx_aload_n dc_Ma_like_13 rfl ?_
    obtain ⟨g20, hk⟩ := hk.g
    refine sx_get (ci := 10) (k := 1) rfl (by decide) wF_Ma_21 g20 dc_Ma_like_14 ?_
    obtain ⟨g21, hk⟩ := hk.g
    refine sx_get (ci := 6) (k := 2) rfl (by decide) wF_Ma_201 g21 dc_Ma_like_17 ?_
    refine sx_aload_n dc_Ma_like_20 rfl ?_
    refine sx_get (ci := 10) (k := 1) rfl (by decide) wF_Ma_21 g20 dc_Ma_like_21 ?_
    refine sx_get (ci := 6) (k := 3) rfl (by decide) wF_Ma_207 g21 dc_Ma_like_24 ?_
    refine sx_ior dc_Ma_like_27 ?_
    refine sx_aload_n dc_Ma_like_28 rfl ?_
    refine sx_get (ci := 10) (k := 1) rfl (by decide) wF_Ma_21 g20 dc_Ma_like_29 ?_
    refine sx_get (ci := 6) (k := 2) rfl (by decide) wF_Ma_201 g21 dc_Ma_like_32 ?_
    refine sx_aload_n dc_Ma_like_35 rfl ?_
    refine sx_aload_n dc_Ma_like_36 rfl ?_
    obtain ⟨q22, eq22, hk⟩ := hk.bind
    refine sx_callV (d2 := d - 1) (mc2 := 0) (ms2 := 0) (as := [xR q17.1]) mk_Ma_friendsIn rfl (x_rk (ci := 10) g20 rfl rfl) wM_Ma_128 mi_Ma_friendsIn me_Ma_friendsIn rfl (Nat.le_of_ble_eq_true rfl) (Nat.le_of_ble_eq_true rfl) dc_Ma_like_37 (by omega) (Nat.zero_le _) (Nat.zero_le _) ?_
    refine t_Ma_friendsIn (by omega) ⟨q22, eq22, ?_⟩
    refine sx_eq0 (lc2 := [some (xR a0), some (xI a1), some (xR q17.1), none, none, none]) (st2 := [xI q22.1, xI (hI q17.2 (hR q17.2 a0 1) 2), xI ((hI q17.2 (hR q17.2 a0 1) 2) ||| (hI q17.2 (hR q17.2 a0 1) 3))]) rfl rfl ?_
    refine sx_ixor dc_Ma_like_40 ?_
    refine sx_iand dc_Ma_like_41 ?_
    refine sx_istore_n dc_Ma_like_42 (by decide) (sx_eq (lc2 := [some (xR a0), some (xI a1), some (xR q17.1), some (xI (((hI q17.2 (hR q17.2 a0 1) 2) ||| (hI q17.2 (hR q17.2 a0 1) 3)) &&& ((hI q17.2 (hR q17.2 a0 1) 2) ^^^ q22.1))), none, none]) rfl rfl ?_)
    refine sx_iconst (v := (0 : Int32)) dc_Ma_like_43 (by decide) ?_
    refine sx_istore dc_Ma_like_44 (by decide) (sx_eq (lc2 := [some (xR a0), some (xI a1), some (xR q17.1), some (xI (((hI q17.2 (hR q17.2 a0 1) 2) ||| (hI q17.2 (hR q17.2 a0 1) 3)) &&& ((hI q17.2 (hR q17.2 a0 1) 2) ^^^ q22.1))), some (xI (0 : Int32)), none]) rfl rfl ?_)
    refine sx_iconst (v := (0 : Int32)) dc_Ma_like_46 (by decide) ?_
    refine sx_istore dc_Ma_like_47 (by decide) (sx_eq (lc2 := [some (xR a0), some (xI a1), some (xR q17.1), some (xI (((hI q17.2 (hR q17.2 a0 1) 2) ||| (hI q17.2 (hR q17.2 a0 1) 3)) &&& ((hI q17.2 (hR q17.2 a0 1) 2) ^^^ q22.1))), some (xI (0 : Int32)), some (xI (0 : Int32))]) rfl rfl ?_)
    refine t_Ma_like_L49 (by omega) _ _ _ _ _ hk (fun v38 v39 h40 hk => ?_)
    refine sx_iload dc_Ma_like_107 rfl ?_
    exact sx_retI dc_Ma_like_109 rfl hk.val
  · replace hk := hk.t c19
    refine sx_bipush (v := (-2 : Int32)) dc_Ma_like_10 (by decide) ?_
    exact sx_retI dc_Ma_like_12 rfl hk.val
theorem dc_Ma_image_0 : decode M_Ma_image.2.1 0 = .ok (.aload_n 0, 1) := by decide +kernel
theorem dc_Ma_image_1 : decode M_Ma_image.2.1 1 = .ok (.getfield 83, 3) := by decide +kernel
theorem dc_Ma_image_4 : decode M_Ma_image.2.1 4 = .ok (.aload_n 0, 1) := by decide +kernel
theorem dc_Ma_image_5 : decode M_Ma_image.2.1 5 = .ok (.getfield 21, 3) := by decide +kernel
theorem dc_Ma_image_8 : decode M_Ma_image.2.1 8 = .ok (.invokevirtual 336, 3) := by decide +kernel
theorem dc_Ma_image_11 : decode M_Ma_image.2.1 11 = .ok (.aload_n 0, 1) := by decide +kernel
theorem dc_Ma_image_12 : decode M_Ma_image.2.1 12 = .ok (.aload_n 0, 1) := by decide +kernel
theorem dc_Ma_image_13 : decode M_Ma_image.2.1 13 = .ok (.getfield 179, 3) := by decide +kernel
theorem dc_Ma_image_16 : decode M_Ma_image.2.1 16 = .ok (.putfield 86, 3) := by decide +kernel
theorem dc_Ma_image_19 : decode M_Ma_image.2.1 19 = .ok (.aload_n 0, 1) := by decide +kernel
theorem dc_Ma_image_20 : decode M_Ma_image.2.1 20 = .ok (.getfield 21, 3) := by decide +kernel
theorem dc_Ma_image_23 : decode M_Ma_image.2.1 23 = .ok (.getfield 100, 3) := by decide +kernel
theorem dc_Ma_image_26 : decode M_Ma_image.2.1 26 = .ok (.ireturn, 1) := by decide +kernel
def f_Ma_image (a0 : Nat) (h : xH) : Option (Int32 × xH) := gd (hK h a0 = 10) (gd (hK h (hR h a0 10) = 6) (Option.bind (f_Ta_layAs (hR h a0 10) (hR h a0 1) h) (fun q7 => gd (hK q7.2 a0 = 10) (gd (hK q7.2 (hR q7.2 a0 1) = 6) (some (hI (hIu q7.2 a0 14 (hI q7.2 a0 13)) (hR q7.2 a0 1) 1, hIu q7.2 a0 14 (hI q7.2 a0 13)))))))
theorem t_Ma_image {l : Launch} {z : xZ} {d mc ms : Nat} {Ph : Option xV → xH → Prop} {a0 : Nat}  {h : xH} (hd : 3 ≤ d) (hk : OK (f_Ma_image a0 h) (fun q => Ph (some (xI q.1)) q.2)) : Sx l z d mc ms M_Ma_image 0 (x_en [xR a0] 1) [] h Ph := by
  unfold f_Ma_image at hk
  refine sx_eq (lc2 := [some (xR a0)]) rfl rfl ?_
  refine sx_aload_n dc_Ma_image_0 rfl ?_
  obtain ⟨g6, hk⟩ := hk.g
  refine sx_get (ci := 10) (k := 10) rfl (by decide) wF_Ma_83 g6 dc_Ma_image_1 ?_
  refine sx_aload_n dc_Ma_image_4 rfl ?_
  refine sx_get (ci := 10) (k := 1) rfl (by decide) wF_Ma_21 g6 dc_Ma_image_5 ?_
  obtain ⟨g8, hk⟩ := hk.g
  obtain ⟨q7, eq7, hk⟩ := hk.bind
  refine sx_callV (d2 := d - 1) (mc2 := 0) (ms2 := 0) (as := [xR (hR h a0 1)]) mk_Ta_layAs rfl (x_rk (ci := 6) g8 rfl rfl) wM_Ma_336 mi_Ta_layAs me_Ta_layAs rfl (Nat.le_of_ble_eq_true rfl) (Nat.le_of_ble_eq_true rfl) dc_Ma_image_8 (by omega) (Nat.zero_le _) (Nat.zero_le _) ?_
  refine t_Ta_layAs (by omega) ⟨q7, eq7, ?_⟩
  refine sx_eq0 (lc2 := [some (xR a0)]) (st2 := []) rfl rfl ?_
  refine sx_aload_n dc_Ma_image_11 rfl ?_
  refine sx_aload_n dc_Ma_image_12 rfl ?_
  obtain ⟨g9, hk⟩ := hk.g
  refine sx_get (ci := 10) (k := 13) rfl (by decide) wF_Ma_179 g9 dc_Ma_image_13 ?_
  refine sx_putI (ci := 10) (k := 14) rfl (by decide) wF_Ma_86 rfl g9 (Or.inl rfl) dc_Ma_image_16 ?_
  refine sx_aload_n dc_Ma_image_19 rfl ?_
  refine sx_get (ci := 10) (k := 1) rfl (by decide) wF_Ma_21 g9 dc_Ma_image_20 ?_
  obtain ⟨g10, hk⟩ := hk.g
  refine sx_get (ci := 6) (k := 1) rfl (by decide) wF_Ma_100 g10 dc_Ma_image_23 ?_
  exact sx_retI dc_Ma_image_26 rfl hk.val
theorem dc_Ma_back_0 : decode M_Ma_back.2.1 0 = .ok (.aload_n 0, 1) := by decide +kernel
theorem dc_Ma_back_1 : decode M_Ma_back.2.1 1 = .ok (.getfield 86, 3) := by decide +kernel
theorem dc_Ma_back_4 : decode M_Ma_back.2.1 4 = .ok (.ifCond .ge 6, 3) := by decide +kernel
theorem dc_Ma_back_7 : decode M_Ma_back.2.1 7 = .ok (.bipush (-3), 2) := by decide +kernel
theorem dc_Ma_back_9 : decode M_Ma_back.2.1 9 = .ok (.ireturn, 1) := by decide +kernel
theorem dc_Ma_back_10 : decode M_Ma_back.2.1 10 = .ok (.aload_n 0, 1) := by decide +kernel
theorem dc_Ma_back_11 : decode M_Ma_back.2.1 11 = .ok (.getfield 21, 3) := by decide +kernel
theorem dc_Ma_back_14 : decode M_Ma_back.2.1 14 = .ok (.aload_n 0, 1) := by decide +kernel
theorem dc_Ma_back_15 : decode M_Ma_back.2.1 15 = .ok (.getfield 83, 3) := by decide +kernel
theorem dc_Ma_back_18 : decode M_Ma_back.2.1 18 = .ok (.invokevirtual 336, 3) := by decide +kernel
theorem dc_Ma_back_21 : decode M_Ma_back.2.1 21 = .ok (.aload_n 0, 1) := by decide +kernel
theorem dc_Ma_back_22 : decode M_Ma_back.2.1 22 = .ok (.aload_n 0, 1) := by decide +kernel
theorem dc_Ma_back_23 : decode M_Ma_back.2.1 23 = .ok (.getfield 86, 3) := by decide +kernel
theorem dc_Ma_back_26 : decode M_Ma_back.2.1 26 = .ok (.invokevirtual 97, 3) := by decide +kernel
theorem dc_Ma_back_29 : decode M_Ma_back.2.1 29 = .ok (.aload_n 0, 1) := by decide +kernel
theorem dc_Ma_back_30 : decode M_Ma_back.2.1 30 = .ok (.getfield 21, 3) := by decide +kernel
theorem dc_Ma_back_33 : decode M_Ma_back.2.1 33 = .ok (.getfield 100, 3) := by decide +kernel
theorem dc_Ma_back_36 : decode M_Ma_back.2.1 36 = .ok (.ireturn, 1) := by decide +kernel
def f_Ma_back (a0 : Nat) (h : xH) : Option (Int32 × xH) := gd (hK h a0 = 10) (if 0 ≤ (hI h a0 14) then gd (hK h (hR h a0 1) = 6) (Option.bind (f_Ta_layAs (hR h a0 1) (hR h a0 10) h) (fun q10 => gd (hK q10.2 a0 = 10) (Option.bind (f_Ma_useText a0 (hI q10.2 a0 14) q10.2) (fun q13 => gd (hK q13.2 a0 = 10) (gd (hK q13.2 (hR q13.2 a0 1) = 6) (some (hI q13.2 (hR q13.2 a0 1) 1, q13.2))))))) else some ((-3 : Int32), h))
theorem t_Ma_back {l : Launch} {z : xZ} {d mc ms : Nat} {Ph : Option xV → xH → Prop} {a0 : Nat}  {h : xH} (hd : 8 ≤ d) (hk : OK (f_Ma_back a0 h) (fun q => Ph (some (xI q.1)) q.2)) : Sx l z d mc ms M_Ma_back 0 (x_en [xR a0] 1) [] h Ph := by
  unfold f_Ma_back at hk
  refine sx_eq (lc2 := [some (xR a0)]) rfl rfl ?_
  refine sx_aload_n dc_Ma_back_0 rfl ?_
  obtain ⟨g8, hk⟩ := hk.g
  refine sx_get (ci := 10) (k := 14) rfl (by decide) wF_Ma_86 g8 dc_Ma_back_1 ?_
  refine sx_if_ge (tgt := 10) dc_Ma_back_4 (by decide) (fun c9 => ?_) (fun c9 => ?_)
  · replace hk := hk.t c9
    refine sx_aload_n dc_Ma_back_10 rfl ?_
    refine sx_get (ci := 10) (k := 1) rfl (by decide) wF_Ma_21 g8 dc_Ma_back_11 ?_
    refine sx_aload_n dc_Ma_back_14 rfl ?_
    refine sx_get (ci := 10) (k := 10) rfl (by decide) wF_Ma_83 g8 dc_Ma_back_15 ?_
    obtain ⟨g11, hk⟩ := hk.g
    obtain ⟨q10, eq10, hk⟩ := hk.bind
    refine sx_callV (d2 := d - 1) (mc2 := 0) (ms2 := 0) (as := [xR (hR h a0 10)]) mk_Ta_layAs rfl (x_rk (ci := 6) g11 rfl rfl) wM_Ma_336 mi_Ta_layAs me_Ta_layAs rfl (Nat.le_of_ble_eq_true rfl) (Nat.le_of_ble_eq_true rfl) dc_Ma_back_18 (by omega) (Nat.zero_le _) (Nat.zero_le _) ?_
    refine t_Ta_layAs (by omega) ⟨q10, eq10, ?_⟩
    refine sx_eq0 (lc2 := [some (xR a0)]) (st2 := []) rfl rfl ?_
    refine sx_aload_n dc_Ma_back_21 rfl ?_
    refine sx_aload_n dc_Ma_back_22 rfl ?_
    obtain ⟨g12, hk⟩ := hk.g
    refine sx_get (ci := 10) (k := 14) rfl (by decide) wF_Ma_86 g12 dc_Ma_back_23 ?_
    obtain ⟨q13, eq13, hk⟩ := hk.bind
    refine sx_callV (d2 := d - 1) (mc2 := 0) (ms2 := 0) (as := [xI (hI q10.2 a0 14)]) mk_Ma_useText rfl (x_rk (ci := 10) g12 rfl rfl) wM_Ma_97 mi_Ma_useText me_Ma_useText rfl (Nat.le_of_ble_eq_true rfl) (Nat.le_of_ble_eq_true rfl) dc_Ma_back_26 (by omega) (Nat.zero_le _) (Nat.zero_le _) ?_
    refine t_Ma_useText (by omega) ⟨q13, eq13, ?_⟩
    refine sx_eq0 (lc2 := [some (xR a0)]) (st2 := []) rfl rfl ?_
    refine sx_aload_n dc_Ma_back_29 rfl ?_
    obtain ⟨g14, hk⟩ := hk.g
    refine sx_get (ci := 10) (k := 1) rfl (by decide) wF_Ma_21 g14 dc_Ma_back_30 ?_
    obtain ⟨g15, hk⟩ := hk.g
    refine sx_get (ci := 6) (k := 1) rfl (by decide) wF_Ma_100 g15 dc_Ma_back_33 ?_
    exact sx_retI dc_Ma_back_36 rfl hk.val
  · replace hk := hk.f c9
    refine sx_bipush (v := (-3 : Int32)) dc_Ma_back_7 (by decide) ?_
    exact sx_retI dc_Ma_back_9 rfl hk.val
theorem dc_Ma_count_0 : decode M_Ma_count.2.1 0 = .ok (.iload_n 1, 1) := by decide +kernel
theorem dc_Ma_count_1 : decode M_Ma_count.2.1 1 = .ok (.tableswitch 90 0 6 #[43, 51, 62, 67, 72, 77, 85], 43) := by decide +kernel
theorem dc_Ma_count_44 : decode M_Ma_count.2.1 44 = .ok (.aload_n 0, 1) := by decide +kernel
theorem dc_Ma_count_45 : decode M_Ma_count.2.1 45 = .ok (.getfield 21, 3) := by decide +kernel
theorem dc_Ma_count_48 : decode M_Ma_count.2.1 48 = .ok (.getfield 100, 3) := by decide +kernel
theorem dc_Ma_count_51 : decode M_Ma_count.2.1 51 = .ok (.ireturn, 1) := by decide +kernel
theorem dc_Ma_count_52 : decode M_Ma_count.2.1 52 = .ok (.aload_n 0, 1) := by decide +kernel
theorem dc_Ma_count_53 : decode M_Ma_count.2.1 53 = .ok (.getfield 21, 3) := by decide +kernel
theorem dc_Ma_count_56 : decode M_Ma_count.2.1 56 = .ok (.getfield 201, 3) := by decide +kernel
theorem dc_Ma_count_59 : decode M_Ma_count.2.1 59 = .ok (.invokestatic 139, 3) := by decide +kernel
theorem dc_Ma_count_62 : decode M_Ma_count.2.1 62 = .ok (.ireturn, 1) := by decide +kernel
theorem dc_Ma_count_63 : decode M_Ma_count.2.1 63 = .ok (.aload_n 0, 1) := by decide +kernel
theorem dc_Ma_count_64 : decode M_Ma_count.2.1 64 = .ok (.invokevirtual 292, 3) := by decide +kernel
theorem dc_Ma_count_67 : decode M_Ma_count.2.1 67 = .ok (.ireturn, 1) := by decide +kernel
theorem dc_Ma_count_68 : decode M_Ma_count.2.1 68 = .ok (.aload_n 0, 1) := by decide +kernel
theorem dc_Ma_count_69 : decode M_Ma_count.2.1 69 = .ok (.getfield 119, 3) := by decide +kernel
theorem dc_Ma_count_72 : decode M_Ma_count.2.1 72 = .ok (.ireturn, 1) := by decide +kernel
theorem dc_Ma_count_73 : decode M_Ma_count.2.1 73 = .ok (.aload_n 0, 1) := by decide +kernel
theorem dc_Ma_count_74 : decode M_Ma_count.2.1 74 = .ok (.getfield 167, 3) := by decide +kernel
theorem dc_Ma_count_77 : decode M_Ma_count.2.1 77 = .ok (.ireturn, 1) := by decide +kernel
theorem dc_Ma_count_78 : decode M_Ma_count.2.1 78 = .ok (.aload_n 0, 1) := by decide +kernel
theorem dc_Ma_count_79 : decode M_Ma_count.2.1 79 = .ok (.getfield 60, 3) := by decide +kernel
theorem dc_Ma_count_82 : decode M_Ma_count.2.1 82 = .ok (.invokevirtual 164, 3) := by decide +kernel
theorem dc_Ma_count_85 : decode M_Ma_count.2.1 85 = .ok (.ireturn, 1) := by decide +kernel
theorem dc_Ma_count_86 : decode M_Ma_count.2.1 86 = .ok (.aload_n 0, 1) := by decide +kernel
theorem dc_Ma_count_87 : decode M_Ma_count.2.1 87 = .ok (.getfield 179, 3) := by decide +kernel
theorem dc_Ma_count_90 : decode M_Ma_count.2.1 90 = .ok (.ireturn, 1) := by decide +kernel
theorem dc_Ma_count_91 : decode M_Ma_count.2.1 91 = .ok (.bipush (-2), 2) := by decide +kernel
theorem dc_Ma_count_93 : decode M_Ma_count.2.1 93 = .ok (.ireturn, 1) := by decide +kernel
def f_Ma_count (a0 : Nat) (a1 : Int32) (h : xH) : Option (Int32 × xH) := if a1 = (0 : Int32) then gd (hK h a0 = 10) (gd (hK h (hR h a0 1) = 6) (some (hI h (hR h a0 1) 1, h))) else if a1 = (1 : Int32) then gd (hK h a0 = 10) (gd (hK h (hR h a0 1) = 6) (Option.bind (f_In_bitCount (hI h (hR h a0 1) 2) h) (fun q19 => some (q19.1, q19.2)))) else if a1 = (2 : Int32) then gd (hK h a0 = 10) (Option.bind (f_Ma_unseenPairs a0 h) (fun q21 => some (q21.1, q21.2))) else if a1 = (3 : Int32) then gd (hK h a0 = 10) (some (hI h a0 12, h)) else if a1 = (4 : Int32) then gd (hK h a0 = 10) (some (hI h a0 11, h)) else if a1 = (5 : Int32) then gd (hK h a0 = 10) (gd (hK h (hR h a0 6) = 1) (Option.bind (f_Re_size (hR h a0 6) h) (fun q29 => some (q29.1, q29.2)))) else if a1 = (6 : Int32) then gd (hK h a0 = 10) (some (hI h a0 13, h)) else some ((-2 : Int32), h)
theorem t_Ma_count {l : Launch} {z : xZ} {d mc ms : Nat} {Ph : Option xV → xH → Prop} {a0 : Nat} {a1 : Int32}  {h : xH} (hd : 4 ≤ d) (hk : OK (f_Ma_count a0 a1 h) (fun q => Ph (some (xI q.1)) q.2)) : Sx l z d mc ms M_Ma_count 0 (x_en [xR a0, xI a1] 2) [] h Ph := by
  unfold f_Ma_count at hk
  refine sx_eq (lc2 := [some (xR a0), some (xI a1)]) rfl rfl ?_
  refine sx_iload_n dc_Ma_count_0 rfl ?_
  by_cases c16 : a1 = (0 : Int32)
  · replace hk := hk.t c16
    refine sx_tabIn (off := 43) (tgt := 44) dc_Ma_count_1 (by rw [c16]; decide) (by rw [c16]; decide) (by rw [c16]; rfl) (by decide) ?_
    refine sx_aload_n dc_Ma_count_44 rfl ?_
    obtain ⟨g14, hk⟩ := hk.g
    refine sx_get (ci := 10) (k := 1) rfl (by decide) wF_Ma_21 g14 dc_Ma_count_45 ?_
    obtain ⟨g15, hk⟩ := hk.g
    refine sx_get (ci := 6) (k := 1) rfl (by decide) wF_Ma_100 g15 dc_Ma_count_48 ?_
    exact sx_retI dc_Ma_count_51 rfl hk.val
  · replace hk := hk.f c16
    by_cases c20 : a1 = (1 : Int32)
    · replace hk := hk.t c20
      refine sx_tabIn (off := 51) (tgt := 52) dc_Ma_count_1 (by rw [c20]; decide) (by rw [c20]; decide) (by rw [c20]; rfl) (by decide) ?_
      refine sx_aload_n dc_Ma_count_52 rfl ?_
      obtain ⟨g17, hk⟩ := hk.g
      refine sx_get (ci := 10) (k := 1) rfl (by decide) wF_Ma_21 g17 dc_Ma_count_53 ?_
      obtain ⟨g18, hk⟩ := hk.g
      refine sx_get (ci := 6) (k := 2) rfl (by decide) wF_Ma_201 g18 dc_Ma_count_56 ?_
      obtain ⟨q19, eq19, hk⟩ := hk.bind
      refine sx_callS (d2 := d - 1) (mc2 := 0) (ms2 := 0) (as := [xI (hI h (hR h a0 1) 2)]) mk_In_bitCount rfl wM_Ma_139 mt_In_bitCount rfl (Nat.le_of_ble_eq_true rfl) (Nat.le_of_ble_eq_true rfl) dc_Ma_count_59 (by omega) (Nat.zero_le _) (Nat.zero_le _) ?_
      refine t_In_bitCount (by omega) ⟨q19, eq19, ?_⟩
      refine sx_eq0 (lc2 := [some (xR a0), some (xI a1)]) (st2 := [xI q19.1]) rfl rfl ?_
      exact sx_retI dc_Ma_count_62 rfl hk.val
    · replace hk := hk.f c20
      by_cases c23 : a1 = (2 : Int32)
      · replace hk := hk.t c23
        refine sx_tabIn (off := 62) (tgt := 63) dc_Ma_count_1 (by rw [c23]; decide) (by rw [c23]; decide) (by rw [c23]; rfl) (by decide) ?_
        refine sx_aload_n dc_Ma_count_63 rfl ?_
        obtain ⟨g22, hk⟩ := hk.g
        obtain ⟨q21, eq21, hk⟩ := hk.bind
        refine sx_callV (d2 := d - 1) (mc2 := 0) (ms2 := 0) (as := []) mk_Ma_unseenPairs rfl (x_rk (ci := 10) g22 rfl rfl) wM_Ma_292 mi_Ma_unseenPairs me_Ma_unseenPairs rfl (Nat.le_of_ble_eq_true rfl) (Nat.le_of_ble_eq_true rfl) dc_Ma_count_64 (by omega) (Nat.zero_le _) (Nat.zero_le _) ?_
        refine t_Ma_unseenPairs (by omega) ⟨q21, eq21, ?_⟩
        refine sx_eq0 (lc2 := [some (xR a0), some (xI a1)]) (st2 := [xI q21.1]) rfl rfl ?_
        exact sx_retI dc_Ma_count_67 rfl hk.val
      · replace hk := hk.f c23
        by_cases c25 : a1 = (3 : Int32)
        · replace hk := hk.t c25
          refine sx_tabIn (off := 67) (tgt := 68) dc_Ma_count_1 (by rw [c25]; decide) (by rw [c25]; decide) (by rw [c25]; rfl) (by decide) ?_
          refine sx_aload_n dc_Ma_count_68 rfl ?_
          obtain ⟨g24, hk⟩ := hk.g
          refine sx_get (ci := 10) (k := 12) rfl (by decide) wF_Ma_119 g24 dc_Ma_count_69 ?_
          exact sx_retI dc_Ma_count_72 rfl hk.val
        · replace hk := hk.f c25
          by_cases c27 : a1 = (4 : Int32)
          · replace hk := hk.t c27
            refine sx_tabIn (off := 72) (tgt := 73) dc_Ma_count_1 (by rw [c27]; decide) (by rw [c27]; decide) (by rw [c27]; rfl) (by decide) ?_
            refine sx_aload_n dc_Ma_count_73 rfl ?_
            obtain ⟨g26, hk⟩ := hk.g
            refine sx_get (ci := 10) (k := 11) rfl (by decide) wF_Ma_167 g26 dc_Ma_count_74 ?_
            exact sx_retI dc_Ma_count_77 rfl hk.val
          · replace hk := hk.f c27
            by_cases c31 : a1 = (5 : Int32)
            · replace hk := hk.t c31
              refine sx_tabIn (off := 77) (tgt := 78) dc_Ma_count_1 (by rw [c31]; decide) (by rw [c31]; decide) (by rw [c31]; rfl) (by decide) ?_
              refine sx_aload_n dc_Ma_count_78 rfl ?_
              obtain ⟨g28, hk⟩ := hk.g
              refine sx_get (ci := 10) (k := 6) rfl (by decide) wF_Ma_60 g28 dc_Ma_count_79 ?_
              obtain ⟨g30, hk⟩ := hk.g
              obtain ⟨q29, eq29, hk⟩ := hk.bind
              refine sx_callV (d2 := d - 1) (mc2 := 0) (ms2 := 0) (as := []) mk_Re_size rfl (x_rk (ci := 1) g30 rfl rfl) wM_Ma_164 mi_Re_size me_Re_size rfl (Nat.le_of_ble_eq_true rfl) (Nat.le_of_ble_eq_true rfl) dc_Ma_count_82 (by omega) (Nat.zero_le _) (Nat.zero_le _) ?_
              refine t_Re_size (by omega) ⟨q29, eq29, ?_⟩
              refine sx_eq0 (lc2 := [some (xR a0), some (xI a1)]) (st2 := [xI q29.1]) rfl rfl ?_
              exact sx_retI dc_Ma_count_85 rfl hk.val
            · replace hk := hk.f c31
              by_cases c33 : a1 = (6 : Int32)
              · replace hk := hk.t c33
                refine sx_tabIn (off := 85) (tgt := 86) dc_Ma_count_1 (by rw [c33]; decide) (by rw [c33]; decide) (by rw [c33]; rfl) (by decide) ?_
                refine sx_aload_n dc_Ma_count_86 rfl ?_
                obtain ⟨g32, hk⟩ := hk.g
                refine sx_get (ci := 10) (k := 13) rfl (by decide) wF_Ma_179 g32 dc_Ma_count_87 ?_
                exact sx_retI dc_Ma_count_90 rfl hk.val
              · replace hk := hk.f c33
                refine sx_tabOut (tgt := 91) dc_Ma_count_1 (sw_out (fun k h1 h2 => ?_)) (by decide) ?_
                · have h3 : k = 0 ∨ k = 1 ∨ k = 2 ∨ k = 3 ∨ k = 4 ∨ k = 5 ∨ k = 6 := by omega
                  rcases h3 with rfl | rfl | rfl | rfl | rfl | rfl | rfl
                  · exact c16
                  · exact c20
                  · exact c23
                  · exact c25
                  · exact c27
                  · exact c31
                  · exact c33
                · refine sx_bipush (v := (-2 : Int32)) dc_Ma_count_91 (by decide) ?_
                  exact sx_retI dc_Ma_count_93 rfl hk.val
theorem dc_Ma_sheet_0 : decode M_Ma_sheet.2.1 0 = .ok (.aload_n 0, 1) := by decide +kernel
theorem dc_Ma_sheet_1 : decode M_Ma_sheet.2.1 1 = .ok (.iload_n 1, 1) := by decide +kernel
theorem dc_Ma_sheet_2 : decode M_Ma_sheet.2.1 2 = .ok (.invokevirtual 313, 3) := by decide +kernel
theorem dc_Ma_sheet_5 : decode M_Ma_sheet.2.1 5 = .ok (.astore 4, 2) := by decide +kernel
theorem dc_Ma_sheet_7 : decode M_Ma_sheet.2.1 7 = .ok (.aload 4, 2) := by decide +kernel
theorem dc_Ma_sheet_9 : decode M_Ma_sheet.2.1 9 = .ok (.ifnull 13, 3) := by decide +kernel
theorem dc_Ma_sheet_12 : decode M_Ma_sheet.2.1 12 = .ok (.iload_n 2, 1) := by decide +kernel
theorem dc_Ma_sheet_13 : decode M_Ma_sheet.2.1 13 = .ok (.iconst (-1), 1) := by decide +kernel
theorem dc_Ma_sheet_14 : decode M_Ma_sheet.2.1 14 = .ok (.if_icmp .lt 8, 3) := by decide +kernel
theorem dc_Ma_sheet_17 : decode M_Ma_sheet.2.1 17 = .ok (.iload_n 2, 1) := by decide +kernel
theorem dc_Ma_sheet_18 : decode M_Ma_sheet.2.1 18 = .ok (.iconst 3, 1) := by decide +kernel
theorem dc_Ma_sheet_19 : decode M_Ma_sheet.2.1 19 = .ok (.if_icmp .lt 6, 3) := by decide +kernel
theorem dc_Ma_sheet_22 : decode M_Ma_sheet.2.1 22 = .ok (.bipush (-2), 2) := by decide +kernel
theorem dc_Ma_sheet_24 : decode M_Ma_sheet.2.1 24 = .ok (.ireturn, 1) := by decide +kernel
theorem dc_Ma_sheet_25 : decode M_Ma_sheet.2.1 25 = .ok (.iload_n 2, 1) := by decide +kernel
theorem dc_Ma_sheet_26 : decode M_Ma_sheet.2.1 26 = .ok (.iconst (-1), 1) := by decide +kernel
theorem dc_Ma_sheet_27 : decode M_Ma_sheet.2.1 27 = .ok (.if_icmp .ne 12, 3) := by decide +kernel
theorem dc_Ma_sheet_30 : decode M_Ma_sheet.2.1 30 = .ok (.aload 4, 2) := by decide +kernel
theorem dc_Ma_sheet_32 : decode M_Ma_sheet.2.1 32 = .ok (.iload_n 2, 1) := by decide +kernel
theorem dc_Ma_sheet_33 : decode M_Ma_sheet.2.1 33 = .ok (.iconst 0, 1) := by decide +kernel
theorem dc_Ma_sheet_34 : decode M_Ma_sheet.2.1 34 = .ok (.invokevirtual 339, 3) := by decide +kernel
theorem dc_Ma_sheet_37 : decode M_Ma_sheet.2.1 37 = .ok (.iconst 1, 1) := by decide +kernel
theorem dc_Ma_sheet_38 : decode M_Ma_sheet.2.1 38 = .ok (.ireturn, 1) := by decide +kernel
theorem dc_Ma_sheet_39 : decode M_Ma_sheet.2.1 39 = .ok (.iload_n 3, 1) := by decide +kernel
theorem dc_Ma_sheet_40 : decode M_Ma_sheet.2.1 40 = .ok (.bipush 40, 2) := by decide +kernel
theorem dc_Ma_sheet_42 : decode M_Ma_sheet.2.1 42 = .ok (.if_icmp .le 6, 3) := by decide +kernel
theorem dc_Ma_sheet_45 : decode M_Ma_sheet.2.1 45 = .ok (.bipush (-2), 2) := by decide +kernel
theorem dc_Ma_sheet_47 : decode M_Ma_sheet.2.1 47 = .ok (.ireturn, 1) := by decide +kernel
theorem dc_Ma_sheet_48 : decode M_Ma_sheet.2.1 48 = .ok (.iload_n 3, 1) := by decide +kernel
theorem dc_Ma_sheet_49 : decode M_Ma_sheet.2.1 49 = .ok (.ifCond .ge 6, 3) := by decide +kernel
theorem dc_Ma_sheet_52 : decode M_Ma_sheet.2.1 52 = .ok (.bipush (-14), 2) := by decide +kernel
theorem dc_Ma_sheet_54 : decode M_Ma_sheet.2.1 54 = .ok (.ireturn, 1) := by decide +kernel
theorem dc_Ma_sheet_55 : decode M_Ma_sheet.2.1 55 = .ok (.aload 4, 2) := by decide +kernel
theorem dc_Ma_sheet_57 : decode M_Ma_sheet.2.1 57 = .ok (.iload_n 2, 1) := by decide +kernel
theorem dc_Ma_sheet_58 : decode M_Ma_sheet.2.1 58 = .ok (.iload_n 3, 1) := by decide +kernel
theorem dc_Ma_sheet_59 : decode M_Ma_sheet.2.1 59 = .ok (.invokevirtual 339, 3) := by decide +kernel
theorem dc_Ma_sheet_62 : decode M_Ma_sheet.2.1 62 = .ok (.iconst 1, 1) := by decide +kernel
theorem dc_Ma_sheet_63 : decode M_Ma_sheet.2.1 63 = .ok (.ireturn, 1) := by decide +kernel
def f_Ma_sheet (a0 : Nat) (a1 : Int32) (a2 : Int32) (a3 : Int32) (h : xH) : Option (Int32 × xH) := gd (hK h a0 = 10) (Option.bind (f_Ma_sheetAt a0 a1 h) (fun q7 => jn (fun (x9 : Unit) => some ((-2 : Int32), q7.2)) (fun k10 => if q7.1 = 0 then k10 () else if a2 < (-1 : Int32) then k10 () else if a2 < (3 : Int32) then if a2 = (-1 : Int32) then gd (hK q7.2 q7.1 = 4) (Option.bind (f_Sh_become q7.1 a2 (0 : Int32) q7.2) (fun q19 => some ((1 : Int32), q19.2))) else if a3 ≤ (40 : Int32) then if 0 ≤ a3 then gd (hK q7.2 q7.1 = 4) (Option.bind (f_Sh_become q7.1 a2 a3 q7.2) (fun q17 => some ((1 : Int32), q17.2))) else some ((-14 : Int32), q7.2) else some ((-2 : Int32), q7.2) else k10 ())))
theorem t_Ma_sheet {l : Launch} {z : xZ} {d mc ms : Nat} {Ph : Option xV → xH → Prop} {a0 : Nat} {a1 : Int32} {a2 : Int32} {a3 : Int32}  {h : xH} (hd : 3 ≤ d) (hk : OK (f_Ma_sheet a0 a1 a2 a3 h) (fun q => Ph (some (xI q.1)) q.2)) : Sx l z d mc ms M_Ma_sheet 0 (x_en [xR a0, xI a1, xI a2, xI a3] 5) [] h Ph := by
  unfold f_Ma_sheet at hk
  refine sx_eq (lc2 := [some (xR a0), some (xI a1), some (xI a2), some (xI a3), none]) rfl rfl ?_
  refine sx_aload_n dc_Ma_sheet_0 rfl ?_
  refine sx_iload_n dc_Ma_sheet_1 rfl ?_
  obtain ⟨g8, hk⟩ := hk.g
  obtain ⟨q7, eq7, hk⟩ := hk.bind
  refine sx_callV (d2 := d - 1) (mc2 := 0) (ms2 := 0) (as := [xI a1]) mk_Ma_sheetAt rfl (x_rk (ci := 10) g8 rfl rfl) wM_Ma_313 mi_Ma_sheetAt me_Ma_sheetAt rfl (Nat.le_of_ble_eq_true rfl) (Nat.le_of_ble_eq_true rfl) dc_Ma_sheet_2 (by omega) (Nat.zero_le _) (Nat.zero_le _) ?_
  refine t_Ma_sheetAt (by omega) ⟨q7, eq7, ?_⟩
  refine sx_eq0 (lc2 := [some (xR a0), some (xI a1), some (xI a2), some (xI a3), none]) (st2 := [xR q7.1]) rfl rfl ?_
  refine sx_astore dc_Ma_sheet_5 (by decide) (sx_eq (lc2 := [some (xR a0), some (xI a1), some (xI a2), some (xI a3), some (xR q7.1)]) rfl rfl ?_)
  refine sx_aload dc_Ma_sheet_7 rfl ?_
  refine hk.j (X := fun x9 => Sx l z d mc ms M_Ma_sheet 22 [some (xR a0), some (xI a1), some (xI a2), some (xI a3), some (xR q7.1)] [] q7.2 Ph) (fun x9 hk => ?_) (fun k10 jk10 hk => ?_)
  · refine sx_bipush (v := (-2 : Int32)) dc_Ma_sheet_22 (by decide) ?_
    exact sx_retI dc_Ma_sheet_24 rfl hk.val
  · refine sx_ifnull (tgt := 22) dc_Ma_sheet_9 (by decide) (fun c11 => ?_) (fun c11 => ?_)
    · replace hk := hk.t c11
      exact jk10 () hk
    · replace hk := hk.f c11
      refine sx_iload_n dc_Ma_sheet_12 rfl ?_
      refine sx_iconst (v := (-1 : Int32)) dc_Ma_sheet_13 (by decide) ?_
      refine sx_icmp_lt (tgt := 22) dc_Ma_sheet_14 (by decide) (fun c12 => ?_) (fun c12 => ?_)
      · replace hk := hk.t c12
        exact jk10 () hk
      · replace hk := hk.f c12
        refine sx_iload_n dc_Ma_sheet_17 rfl ?_
        refine sx_iconst (v := (3 : Int32)) dc_Ma_sheet_18 (by decide) ?_
        refine sx_icmp_lt (tgt := 25) dc_Ma_sheet_19 (by decide) (fun c13 => ?_) (fun c13 => ?_)
        · replace hk := hk.t c13
          refine sx_iload_n dc_Ma_sheet_25 rfl ?_
          refine sx_iconst (v := (-1 : Int32)) dc_Ma_sheet_26 (by decide) ?_
          refine sx_icmp_ne (tgt := 39) dc_Ma_sheet_27 (by decide) (fun c14 => ?_) (fun c14 => ?_)
          · replace hk := hk.f c14
            refine sx_iload_n dc_Ma_sheet_39 rfl ?_
            refine sx_bipush (v := (40 : Int32)) dc_Ma_sheet_40 (by decide) ?_
            refine sx_icmp_le (tgt := 48) dc_Ma_sheet_42 (by decide) (fun c15 => ?_) (fun c15 => ?_)
            · replace hk := hk.t c15
              refine sx_iload_n dc_Ma_sheet_48 rfl ?_
              refine sx_if_ge (tgt := 55) dc_Ma_sheet_49 (by decide) (fun c16 => ?_) (fun c16 => ?_)
              · replace hk := hk.t c16
                refine sx_aload dc_Ma_sheet_55 rfl ?_
                refine sx_iload_n dc_Ma_sheet_57 rfl ?_
                refine sx_iload_n dc_Ma_sheet_58 rfl ?_
                obtain ⟨g18, hk⟩ := hk.g
                obtain ⟨q17, eq17, hk⟩ := hk.bind
                refine sx_callV (d2 := d - 1) (mc2 := 0) (ms2 := 0) (as := [xI a2, xI a3]) mk_Sh_become rfl (x_rk (ci := 4) g18 rfl rfl) wM_Ma_339 mi_Sh_become me_Sh_become rfl (Nat.le_of_ble_eq_true rfl) (Nat.le_of_ble_eq_true rfl) dc_Ma_sheet_59 (by omega) (Nat.zero_le _) (Nat.zero_le _) ?_
                refine t_Sh_become (by omega) ⟨q17, eq17, ?_⟩
                refine sx_eq0 (lc2 := [some (xR a0), some (xI a1), some (xI a2), some (xI a3), some (xR q7.1)]) (st2 := []) rfl rfl ?_
                refine sx_iconst (v := (1 : Int32)) dc_Ma_sheet_62 (by decide) ?_
                exact sx_retI dc_Ma_sheet_63 rfl hk.val
              · replace hk := hk.f c16
                refine sx_bipush (v := (-14 : Int32)) dc_Ma_sheet_52 (by decide) ?_
                exact sx_retI dc_Ma_sheet_54 rfl hk.val
            · replace hk := hk.f c15
              refine sx_bipush (v := (-2 : Int32)) dc_Ma_sheet_45 (by decide) ?_
              exact sx_retI dc_Ma_sheet_47 rfl hk.val
          · replace hk := hk.t c14
            refine sx_aload dc_Ma_sheet_30 rfl ?_
            refine sx_iload_n dc_Ma_sheet_32 rfl ?_
            refine sx_iconst (v := (0 : Int32)) dc_Ma_sheet_33 (by decide) ?_
            obtain ⟨g20, hk⟩ := hk.g
            obtain ⟨q19, eq19, hk⟩ := hk.bind
            refine sx_callV (d2 := d - 1) (mc2 := 0) (ms2 := 0) (as := [xI a2, xI (0 : Int32)]) mk_Sh_become rfl (x_rk (ci := 4) g20 rfl rfl) wM_Ma_339 mi_Sh_become me_Sh_become rfl (Nat.le_of_ble_eq_true rfl) (Nat.le_of_ble_eq_true rfl) dc_Ma_sheet_34 (by omega) (Nat.zero_le _) (Nat.zero_le _) ?_
            refine t_Sh_become (by omega) ⟨q19, eq19, ?_⟩
            refine sx_eq0 (lc2 := [some (xR a0), some (xI a1), some (xI a2), some (xI a3), some (xR q7.1)]) (st2 := []) rfl rfl ?_
            refine sx_iconst (v := (1 : Int32)) dc_Ma_sheet_37 (by decide) ?_
            exact sx_retI dc_Ma_sheet_38 rfl hk.val
        · replace hk := hk.f c13
          exact jk10 () hk
theorem dc_Ma_cell_0 : decode M_Ma_cell.2.1 0 = .ok (.aload_n 0, 1) := by decide +kernel
theorem dc_Ma_cell_1 : decode M_Ma_cell.2.1 1 = .ok (.iload_n 1, 1) := by decide +kernel
theorem dc_Ma_cell_2 : decode M_Ma_cell.2.1 2 = .ok (.invokevirtual 313, 3) := by decide +kernel
theorem dc_Ma_cell_5 : decode M_Ma_cell.2.1 5 = .ok (.astore 4, 2) := by decide +kernel
theorem dc_Ma_cell_7 : decode M_Ma_cell.2.1 7 = .ok (.aload 4, 2) := by decide +kernel
theorem dc_Ma_cell_9 : decode M_Ma_cell.2.1 9 = .ok (.ifnonnull 6, 3) := by decide +kernel
theorem dc_Ma_cell_12 : decode M_Ma_cell.2.1 12 = .ok (.bipush (-2), 2) := by decide +kernel
theorem dc_Ma_cell_14 : decode M_Ma_cell.2.1 14 = .ok (.ireturn, 1) := by decide +kernel
theorem dc_Ma_cell_15 : decode M_Ma_cell.2.1 15 = .ok (.aload 4, 2) := by decide +kernel
theorem dc_Ma_cell_17 : decode M_Ma_cell.2.1 17 = .ok (.invokevirtual 317, 3) := by decide +kernel
theorem dc_Ma_cell_20 : decode M_Ma_cell.2.1 20 = .ok (.ifCond .eq 6, 3) := by decide +kernel
theorem dc_Ma_cell_23 : decode M_Ma_cell.2.1 23 = .ok (.bipush (-11), 2) := by decide +kernel
theorem dc_Ma_cell_25 : decode M_Ma_cell.2.1 25 = .ok (.ireturn, 1) := by decide +kernel
theorem dc_Ma_cell_26 : decode M_Ma_cell.2.1 26 = .ok (.aload 4, 2) := by decide +kernel
theorem dc_Ma_cell_28 : decode M_Ma_cell.2.1 28 = .ok (.iload_n 2, 1) := by decide +kernel
theorem dc_Ma_cell_29 : decode M_Ma_cell.2.1 29 = .ok (.iload_n 3, 1) := by decide +kernel
theorem dc_Ma_cell_30 : decode M_Ma_cell.2.1 30 = .ok (.invokevirtual 342, 3) := by decide +kernel
theorem dc_Ma_cell_33 : decode M_Ma_cell.2.1 33 = .ok (.ifCond .eq 7, 3) := by decide +kernel
theorem dc_Ma_cell_36 : decode M_Ma_cell.2.1 36 = .ok (.iconst 1, 1) := by decide +kernel
theorem dc_Ma_cell_37 : decode M_Ma_cell.2.1 37 = .ok (.goto 5, 3) := by decide +kernel
theorem dc_Ma_cell_40 : decode M_Ma_cell.2.1 40 = .ok (.bipush (-12), 2) := by decide +kernel
theorem dc_Ma_cell_42 : decode M_Ma_cell.2.1 42 = .ok (.ireturn, 1) := by decide +kernel
def f_Ma_cell (a0 : Nat) (a1 : Int32) (a2 : Int32) (a3 : Int32) (h : xH) : Option (Int32 × xH) := gd (hK h a0 = 10) (Option.bind (f_Ma_sheetAt a0 a1 h) (fun q7 => if q7.1 = 0 then some ((-2 : Int32), q7.2) else gd (hK q7.2 q7.1 = 4) (Option.bind (f_Sh_isMissing q7.1 q7.2) (fun q10 => if q10.1 = 0 then gd (hK q10.2 q7.1 = 4) (Option.bind (f_Sh_write q7.1 a2 a3 q10.2) (fun q13 => some ((if q13.1 = 0 then (-12 : Int32) else (1 : Int32)), q13.2))) else some ((-11 : Int32), q10.2)))))
theorem t_Ma_cell {l : Launch} {z : xZ} {d mc ms : Nat} {Ph : Option xV → xH → Prop} {a0 : Nat} {a1 : Int32} {a2 : Int32} {a3 : Int32}  {h : xH} (hd : 2 ≤ d) (hk : OK (f_Ma_cell a0 a1 a2 a3 h) (fun q => Ph (some (xI q.1)) q.2)) : Sx l z d mc ms M_Ma_cell 0 (x_en [xR a0, xI a1, xI a2, xI a3] 5) [] h Ph := by
  unfold f_Ma_cell at hk
  refine sx_eq (lc2 := [some (xR a0), some (xI a1), some (xI a2), some (xI a3), none]) rfl rfl ?_
  refine sx_aload_n dc_Ma_cell_0 rfl ?_
  refine sx_iload_n dc_Ma_cell_1 rfl ?_
  obtain ⟨g8, hk⟩ := hk.g
  obtain ⟨q7, eq7, hk⟩ := hk.bind
  refine sx_callV (d2 := d - 1) (mc2 := 0) (ms2 := 0) (as := [xI a1]) mk_Ma_sheetAt rfl (x_rk (ci := 10) g8 rfl rfl) wM_Ma_313 mi_Ma_sheetAt me_Ma_sheetAt rfl (Nat.le_of_ble_eq_true rfl) (Nat.le_of_ble_eq_true rfl) dc_Ma_cell_2 (by omega) (Nat.zero_le _) (Nat.zero_le _) ?_
  refine t_Ma_sheetAt (by omega) ⟨q7, eq7, ?_⟩
  refine sx_eq0 (lc2 := [some (xR a0), some (xI a1), some (xI a2), some (xI a3), none]) (st2 := [xR q7.1]) rfl rfl ?_
  refine sx_astore dc_Ma_cell_5 (by decide) (sx_eq (lc2 := [some (xR a0), some (xI a1), some (xI a2), some (xI a3), some (xR q7.1)]) rfl rfl ?_)
  refine sx_aload dc_Ma_cell_7 rfl ?_
  refine sx_ifnonnull (tgt := 15) dc_Ma_cell_9 (by decide) (fun c9 => ?_) (fun c9 => ?_)
  · replace hk := hk.f c9
    refine sx_aload dc_Ma_cell_15 rfl ?_
    obtain ⟨g11, hk⟩ := hk.g
    obtain ⟨q10, eq10, hk⟩ := hk.bind
    refine sx_callV (d2 := d - 1) (mc2 := 0) (ms2 := 0) (as := []) mk_Sh_isMissing rfl (x_rk (ci := 4) g11 rfl rfl) wM_Ma_317 mi_Sh_isMissing me_Sh_isMissing rfl (Nat.le_of_ble_eq_true rfl) (Nat.le_of_ble_eq_true rfl) dc_Ma_cell_17 (by omega) (Nat.zero_le _) (Nat.zero_le _) ?_
    refine t_Sh_isMissing (by omega) ⟨q10, eq10, ?_⟩
    refine sx_eq0 (lc2 := [some (xR a0), some (xI a1), some (xI a2), some (xI a3), some (xR q7.1)]) (st2 := [xI q10.1]) rfl rfl ?_
    refine sx_if_eq (tgt := 26) dc_Ma_cell_20 (by decide) (fun c12 => ?_) (fun c12 => ?_)
    · replace hk := hk.t c12
      refine sx_aload dc_Ma_cell_26 rfl ?_
      refine sx_iload_n dc_Ma_cell_28 rfl ?_
      refine sx_iload_n dc_Ma_cell_29 rfl ?_
      obtain ⟨g14, hk⟩ := hk.g
      obtain ⟨q13, eq13, hk⟩ := hk.bind
      refine sx_callV (d2 := d - 1) (mc2 := 0) (ms2 := 0) (as := [xI a2, xI a3]) mk_Sh_write rfl (x_rk (ci := 4) g14 rfl rfl) wM_Ma_342 mi_Sh_write me_Sh_write rfl (Nat.le_of_ble_eq_true rfl) (Nat.le_of_ble_eq_true rfl) dc_Ma_cell_30 (by omega) (Nat.zero_le _) (Nat.zero_le _) ?_
      refine t_Sh_write (by omega) ⟨q13, eq13, ?_⟩
      refine sx_eq0 (lc2 := [some (xR a0), some (xI a1), some (xI a2), some (xI a3), some (xR q7.1)]) (st2 := [xI q13.1]) rfl rfl ?_
      refine sx_mg (pc2 := 42) (lc2 := [some (xR a0), some (xI a1), some (xI a2), some (xI a3), some (xR q7.1)]) (st2 := [xI (if q13.1 = 0 then (-12 : Int32) else (1 : Int32))]) (h2 := q13.2) ?_ (fun J15 => ?_)
      · exact sx_retI dc_Ma_cell_42 rfl hk.val
      · refine sx_if_eq (tgt := 40) dc_Ma_cell_33 (by decide) (fun c16 => ?_) (fun c16 => ?_)
        · try simp only [if_pos c16] at J15
          refine sx_bipush (v := (-12 : Int32)) dc_Ma_cell_40 (by decide) ?_
          exact J15
        · try simp only [if_neg c16] at J15
          refine sx_iconst (v := (1 : Int32)) dc_Ma_cell_36 (by decide) ?_
          refine sx_goto (tgt := 42) dc_Ma_cell_37 (by decide) ?_
          exact J15
    · replace hk := hk.f c12
      refine sx_bipush (v := (-11 : Int32)) dc_Ma_cell_23 (by decide) ?_
      exact sx_retI dc_Ma_cell_25 rfl hk.val
  · replace hk := hk.t c9
    refine sx_bipush (v := (-2 : Int32)) dc_Ma_cell_12 (by decide) ?_
    exact sx_retI dc_Ma_cell_14 rfl hk.val
theorem dc_Ma_copy_0 : decode M_Ma_copy.2.1 0 = .ok (.aload_n 0, 1) := by decide +kernel
theorem dc_Ma_copy_1 : decode M_Ma_copy.2.1 1 = .ok (.iload_n 1, 1) := by decide +kernel
theorem dc_Ma_copy_2 : decode M_Ma_copy.2.1 2 = .ok (.invokevirtual 313, 3) := by decide +kernel
theorem dc_Ma_copy_5 : decode M_Ma_copy.2.1 5 = .ok (.astore 6, 2) := by decide +kernel
theorem dc_Ma_copy_7 : decode M_Ma_copy.2.1 7 = .ok (.aload_n 0, 1) := by decide +kernel
theorem dc_Ma_copy_8 : decode M_Ma_copy.2.1 8 = .ok (.iload_n 3, 1) := by decide +kernel
theorem dc_Ma_copy_9 : decode M_Ma_copy.2.1 9 = .ok (.invokevirtual 313, 3) := by decide +kernel
theorem dc_Ma_copy_12 : decode M_Ma_copy.2.1 12 = .ok (.astore 7, 2) := by decide +kernel
theorem dc_Ma_copy_14 : decode M_Ma_copy.2.1 14 = .ok (.aload 6, 2) := by decide +kernel
theorem dc_Ma_copy_16 : decode M_Ma_copy.2.1 16 = .ok (.ifnull 8, 3) := by decide +kernel
theorem dc_Ma_copy_19 : decode M_Ma_copy.2.1 19 = .ok (.aload 7, 2) := by decide +kernel
theorem dc_Ma_copy_21 : decode M_Ma_copy.2.1 21 = .ok (.ifnonnull 6, 3) := by decide +kernel
theorem dc_Ma_copy_24 : decode M_Ma_copy.2.1 24 = .ok (.bipush (-2), 2) := by decide +kernel
theorem dc_Ma_copy_26 : decode M_Ma_copy.2.1 26 = .ok (.ireturn, 1) := by decide +kernel
theorem dc_Ma_copy_27 : decode M_Ma_copy.2.1 27 = .ok (.aload 6, 2) := by decide +kernel
theorem dc_Ma_copy_29 : decode M_Ma_copy.2.1 29 = .ok (.invokevirtual 317, 3) := by decide +kernel
theorem dc_Ma_copy_32 : decode M_Ma_copy.2.1 32 = .ok (.ifCond .ne 11, 3) := by decide +kernel
theorem dc_Ma_copy_35 : decode M_Ma_copy.2.1 35 = .ok (.aload 7, 2) := by decide +kernel
theorem dc_Ma_copy_37 : decode M_Ma_copy.2.1 37 = .ok (.invokevirtual 317, 3) := by decide +kernel
theorem dc_Ma_copy_40 : decode M_Ma_copy.2.1 40 = .ok (.ifCond .eq 6, 3) := by decide +kernel
theorem dc_Ma_copy_43 : decode M_Ma_copy.2.1 43 = .ok (.bipush (-11), 2) := by decide +kernel
theorem dc_Ma_copy_45 : decode M_Ma_copy.2.1 45 = .ok (.ireturn, 1) := by decide +kernel
theorem dc_Ma_copy_46 : decode M_Ma_copy.2.1 46 = .ok (.aload 6, 2) := by decide +kernel
theorem dc_Ma_copy_48 : decode M_Ma_copy.2.1 48 = .ok (.getfield 345, 3) := by decide +kernel
theorem dc_Ma_copy_51 : decode M_Ma_copy.2.1 51 = .ok (.aload 7, 2) := by decide +kernel
theorem dc_Ma_copy_53 : decode M_Ma_copy.2.1 53 = .ok (.getfield 345, 3) := by decide +kernel
theorem dc_Ma_copy_56 : decode M_Ma_copy.2.1 56 = .ok (.if_icmp .eq 6, 3) := by decide +kernel
theorem dc_Ma_copy_59 : decode M_Ma_copy.2.1 59 = .ok (.bipush (-13), 2) := by decide +kernel
theorem dc_Ma_copy_61 : decode M_Ma_copy.2.1 61 = .ok (.ireturn, 1) := by decide +kernel
theorem dc_Ma_copy_62 : decode M_Ma_copy.2.1 62 = .ok (.aload 6, 2) := by decide +kernel
theorem dc_Ma_copy_64 : decode M_Ma_copy.2.1 64 = .ok (.iload_n 2, 1) := by decide +kernel
theorem dc_Ma_copy_65 : decode M_Ma_copy.2.1 65 = .ok (.iload 5, 2) := by decide +kernel
theorem dc_Ma_copy_67 : decode M_Ma_copy.2.1 67 = .ok (.invokevirtual 348, 3) := by decide +kernel
theorem dc_Ma_copy_70 : decode M_Ma_copy.2.1 70 = .ok (.ifCond .eq 15, 3) := by decide +kernel
theorem dc_Ma_copy_73 : decode M_Ma_copy.2.1 73 = .ok (.aload 7, 2) := by decide +kernel
theorem dc_Ma_copy_75 : decode M_Ma_copy.2.1 75 = .ok (.iload 4, 2) := by decide +kernel
theorem dc_Ma_copy_77 : decode M_Ma_copy.2.1 77 = .ok (.iload 5, 2) := by decide +kernel
theorem dc_Ma_copy_79 : decode M_Ma_copy.2.1 79 = .ok (.invokevirtual 348, 3) := by decide +kernel
theorem dc_Ma_copy_82 : decode M_Ma_copy.2.1 82 = .ok (.ifCond .ne 6, 3) := by decide +kernel
theorem dc_Ma_copy_85 : decode M_Ma_copy.2.1 85 = .ok (.bipush (-12), 2) := by decide +kernel
theorem dc_Ma_copy_87 : decode M_Ma_copy.2.1 87 = .ok (.ireturn, 1) := by decide +kernel
theorem dc_Ma_copy_88 : decode M_Ma_copy.2.1 88 = .ok (.aload 6, 2) := by decide +kernel
theorem dc_Ma_copy_90 : decode M_Ma_copy.2.1 90 = .ok (.getfield 351, 3) := by decide +kernel
theorem dc_Ma_copy_93 : decode M_Ma_copy.2.1 93 = .ok (.iload_n 2, 1) := by decide +kernel
theorem dc_Ma_copy_94 : decode M_Ma_copy.2.1 94 = .ok (.aload 7, 2) := by decide +kernel
theorem dc_Ma_copy_96 : decode M_Ma_copy.2.1 96 = .ok (.getfield 351, 3) := by decide +kernel
theorem dc_Ma_copy_99 : decode M_Ma_copy.2.1 99 = .ok (.iload 4, 2) := by decide +kernel
theorem dc_Ma_copy_101 : decode M_Ma_copy.2.1 101 = .ok (.iload 5, 2) := by decide +kernel
theorem dc_Ma_copy_103 : decode M_Ma_copy.2.1 103 = .ok (.invokestatic 355, 3) := by decide +kernel
theorem dc_Ma_copy_106 : decode M_Ma_copy.2.1 106 = .ok (.iload 5, 2) := by decide +kernel
theorem dc_Ma_copy_108 : decode M_Ma_copy.2.1 108 = .ok (.ireturn, 1) := by decide +kernel
def f_Ma_copy (a0 : Nat) (a1 : Int32) (a2 : Int32) (a3 : Int32) (a4 : Int32) (a5 : Int32) (h : xH) : Option (Int32 × xH) := gd (hK h a0 = 10) (Option.bind (f_Ma_sheetAt a0 a1 h) (fun q23 => gd (hK q23.2 a0 = 10) (Option.bind (f_Ma_sheetAt a0 a3 q23.2) (fun q25 => jn (fun (x27 : Unit) => some ((-2 : Int32), q25.2)) (fun k28 => if q23.1 = 0 then k28 () else if q25.1 = 0 then k28 () else gd (hK q25.2 q23.1 = 4) (Option.bind (f_Sh_isMissing q23.1 q25.2) (fun q31 => jn (fun (x33 : xH) => some ((-11 : Int32), x33)) (fun k34 => if q31.1 = 0 then gd (hK q31.2 q25.1 = 4) (Option.bind (f_Sh_isMissing q25.1 q31.2) (fun q36 => if q36.1 = 0 then gd (hK q36.2 q23.1 = 4) (gd (hK q36.2 q25.1 = 4) (if (hI q36.2 q23.1 0) = (hI q36.2 q25.1 0) then Option.bind (f_Sh_hasRun q23.1 a2 a5 q36.2) (fun q42 => jn (fun (x43 : xH) => some ((-12 : Int32), x43)) (fun k44 => if q42.1 = 0 then k44 q42.2 else gd (hK q42.2 q25.1 = 4) (Option.bind (f_Sh_hasRun q25.1 a4 a5 q42.2) (fun q46 => if q46.1 = 0 then k44 q46.2 else gd (hK q46.2 q23.1 = 4) (gd (hK q46.2 q25.1 = 4) (gd (hK q46.2 (hR q46.2 q23.1 2) = 12) (gd (hK q46.2 (hR q46.2 q25.1 2) = 12) (gd (¬ a2 < 0) (gd (¬ a4 < 0) (gd (¬ a5 < 0) (gd (a2.toNatClampNeg + a5.toNatClampNeg ≤ hL q46.2 (hR q46.2 q23.1 2)) (gd (a4.toNatClampNeg + a5.toNatClampNeg ≤ hL q46.2 (hR q46.2 q25.1 2)) (hp (hIr q46.2 (hR q46.2 q25.1 2) (va_cpy (hI q46.2 (hR q46.2 q23.1 2)) (hI q46.2 (hR q46.2 q25.1 2)) a2.toNatClampNeg a4.toNatClampNeg a5.toNatClampNeg)) (fun h58 => some (a5, h58))))))))))))))) else some ((-13 : Int32), q36.2))) else k34 q36.2)) else k34 q31.2))))))))
theorem t_Ma_copy {l : Launch} {z : xZ} {d mc ms : Nat} {Ph : Option xV → xH → Prop} {a0 : Nat} {a1 : Int32} {a2 : Int32} {a3 : Int32} {a4 : Int32} {a5 : Int32}  {h : xH} (hd : 2 ≤ d) (hk : OK (f_Ma_copy a0 a1 a2 a3 a4 a5 h) (fun q => Ph (some (xI q.1)) q.2)) : Sx l z d mc ms M_Ma_copy 0 (x_en [xR a0, xI a1, xI a2, xI a3, xI a4, xI a5] 8) [] h Ph := by
  unfold f_Ma_copy at hk
  refine sx_eq (lc2 := [some (xR a0), some (xI a1), some (xI a2), some (xI a3), some (xI a4), some (xI a5), none, none]) rfl rfl ?_
  refine sx_aload_n dc_Ma_copy_0 rfl ?_
  refine sx_iload_n dc_Ma_copy_1 rfl ?_
  obtain ⟨g24, hk⟩ := hk.g
  obtain ⟨q23, eq23, hk⟩ := hk.bind
  refine sx_callV (d2 := d - 1) (mc2 := 0) (ms2 := 0) (as := [xI a1]) mk_Ma_sheetAt rfl (x_rk (ci := 10) g24 rfl rfl) wM_Ma_313 mi_Ma_sheetAt me_Ma_sheetAt rfl (Nat.le_of_ble_eq_true rfl) (Nat.le_of_ble_eq_true rfl) dc_Ma_copy_2 (by omega) (Nat.zero_le _) (Nat.zero_le _) ?_
  refine t_Ma_sheetAt (by omega) ⟨q23, eq23, ?_⟩
  refine sx_eq0 (lc2 := [some (xR a0), some (xI a1), some (xI a2), some (xI a3), some (xI a4), some (xI a5), none, none]) (st2 := [xR q23.1]) rfl rfl ?_
  refine sx_astore dc_Ma_copy_5 (by decide) (sx_eq (lc2 := [some (xR a0), some (xI a1), some (xI a2), some (xI a3), some (xI a4), some (xI a5), some (xR q23.1), none]) rfl rfl ?_)
  refine sx_aload_n dc_Ma_copy_7 rfl ?_
  refine sx_iload_n dc_Ma_copy_8 rfl ?_
  obtain ⟨g26, hk⟩ := hk.g
  obtain ⟨q25, eq25, hk⟩ := hk.bind
  refine sx_callV (d2 := d - 1) (mc2 := 0) (ms2 := 0) (as := [xI a3]) mk_Ma_sheetAt rfl (x_rk (ci := 10) g26 rfl rfl) wM_Ma_313 mi_Ma_sheetAt me_Ma_sheetAt rfl (Nat.le_of_ble_eq_true rfl) (Nat.le_of_ble_eq_true rfl) dc_Ma_copy_9 (by omega) (Nat.zero_le _) (Nat.zero_le _) ?_
  refine t_Ma_sheetAt (by omega) ⟨q25, eq25, ?_⟩
  refine sx_eq0 (lc2 := [some (xR a0), some (xI a1), some (xI a2), some (xI a3), some (xI a4), some (xI a5), some (xR q23.1), none]) (st2 := [xR q25.1]) rfl rfl ?_
  refine sx_astore dc_Ma_copy_12 (by decide) (sx_eq (lc2 := [some (xR a0), some (xI a1), some (xI a2), some (xI a3), some (xI a4), some (xI a5), some (xR q23.1), some (xR q25.1)]) rfl rfl ?_)
  refine sx_aload dc_Ma_copy_14 rfl ?_
  refine hk.j (X := fun x27 => Sx l z d mc ms M_Ma_copy 24 [some (xR a0), some (xI a1), some (xI a2), some (xI a3), some (xI a4), some (xI a5), some (xR q23.1), some (xR q25.1)] [] q25.2 Ph) (fun x27 hk => ?_) (fun k28 jk28 hk => ?_)
  · refine sx_bipush (v := (-2 : Int32)) dc_Ma_copy_24 (by decide) ?_
    exact sx_retI dc_Ma_copy_26 rfl hk.val
  · refine sx_ifnull (tgt := 24) dc_Ma_copy_16 (by decide) (fun c29 => ?_) (fun c29 => ?_)
    · replace hk := hk.t c29
      exact jk28 () hk
    · replace hk := hk.f c29
      refine sx_aload dc_Ma_copy_19 rfl ?_
      refine sx_ifnonnull (tgt := 27) dc_Ma_copy_21 (by decide) (fun c30 => ?_) (fun c30 => ?_)
      · replace hk := hk.f c30
        refine sx_aload dc_Ma_copy_27 rfl ?_
        obtain ⟨g32, hk⟩ := hk.g
        obtain ⟨q31, eq31, hk⟩ := hk.bind
        refine sx_callV (d2 := d - 1) (mc2 := 0) (ms2 := 0) (as := []) mk_Sh_isMissing rfl (x_rk (ci := 4) g32 rfl rfl) wM_Ma_317 mi_Sh_isMissing me_Sh_isMissing rfl (Nat.le_of_ble_eq_true rfl) (Nat.le_of_ble_eq_true rfl) dc_Ma_copy_29 (by omega) (Nat.zero_le _) (Nat.zero_le _) ?_
        refine t_Sh_isMissing (by omega) ⟨q31, eq31, ?_⟩
        refine sx_eq0 (lc2 := [some (xR a0), some (xI a1), some (xI a2), some (xI a3), some (xI a4), some (xI a5), some (xR q23.1), some (xR q25.1)]) (st2 := [xI q31.1]) rfl rfl ?_
        refine hk.j (X := fun x33 => Sx l z d mc ms M_Ma_copy 43 [some (xR a0), some (xI a1), some (xI a2), some (xI a3), some (xI a4), some (xI a5), some (xR q23.1), some (xR q25.1)] [] x33 Ph) (fun x33 hk => ?_) (fun k34 jk34 hk => ?_)
        · refine sx_bipush (v := (-11 : Int32)) dc_Ma_copy_43 (by decide) ?_
          exact sx_retI dc_Ma_copy_45 rfl hk.val
        · refine sx_if_ne (tgt := 43) dc_Ma_copy_32 (by decide) (fun c35 => ?_) (fun c35 => ?_)
          · replace hk := hk.f c35
            exact jk34 q31.2 hk
          · replace hk := hk.t c35
            refine sx_aload dc_Ma_copy_35 rfl ?_
            obtain ⟨g37, hk⟩ := hk.g
            obtain ⟨q36, eq36, hk⟩ := hk.bind
            refine sx_callV (d2 := d - 1) (mc2 := 0) (ms2 := 0) (as := []) mk_Sh_isMissing rfl (x_rk (ci := 4) g37 rfl rfl) wM_Ma_317 mi_Sh_isMissing me_Sh_isMissing rfl (Nat.le_of_ble_eq_true rfl) (Nat.le_of_ble_eq_true rfl) dc_Ma_copy_37 (by omega) (Nat.zero_le _) (Nat.zero_le _) ?_
            refine t_Sh_isMissing (by omega) ⟨q36, eq36, ?_⟩
            refine sx_eq0 (lc2 := [some (xR a0), some (xI a1), some (xI a2), some (xI a3), some (xI a4), some (xI a5), some (xR q23.1), some (xR q25.1)]) (st2 := [xI q36.1]) rfl rfl ?_
            refine sx_if_eq (tgt := 46) dc_Ma_copy_40 (by decide) (fun c38 => ?_) (fun c38 => ?_)
            · replace hk := hk.t c38
              refine sx_aload dc_Ma_copy_46 rfl ?_
              obtain ⟨g39, hk⟩ := hk.g
              refine sx_get (ci := 4) (k := 0) rfl (by decide) wF_Ma_345 g39 dc_Ma_copy_48 ?_
              refine sx_aload dc_Ma_copy_51 rfl ?_
              obtain ⟨g40, hk⟩ := hk.g
              refine sx_get (ci := 4) (k := 0) rfl (by decide) wF_Ma_345 g40 dc_Ma_copy_53 ?_
              refine sx_icmp_eq (tgt := 62) dc_Ma_copy_56 (by decide) (fun c41 => ?_) (fun c41 => ?_)
              · replace hk := hk.t c41
                refine sx_aload dc_Ma_copy_62 rfl ?_
                refine sx_iload_n dc_Ma_copy_64 rfl ?_
                refine sx_iload dc_Ma_copy_65 rfl ?_
                obtain ⟨q42, eq42, hk⟩ := hk.bind
                refine sx_callV (d2 := d - 1) (mc2 := 0) (ms2 := 0) (as := [xI a2, xI a5]) mk_Sh_hasRun rfl (x_rk (ci := 4) g39 rfl rfl) wM_Ma_348 mi_Sh_hasRun me_Sh_hasRun rfl (Nat.le_of_ble_eq_true rfl) (Nat.le_of_ble_eq_true rfl) dc_Ma_copy_67 (by omega) (Nat.zero_le _) (Nat.zero_le _) ?_
                refine t_Sh_hasRun (by omega) ⟨q42, eq42, ?_⟩
                refine sx_eq0 (lc2 := [some (xR a0), some (xI a1), some (xI a2), some (xI a3), some (xI a4), some (xI a5), some (xR q23.1), some (xR q25.1)]) (st2 := [xI q42.1]) rfl rfl ?_
                refine hk.j (X := fun x43 => Sx l z d mc ms M_Ma_copy 85 [some (xR a0), some (xI a1), some (xI a2), some (xI a3), some (xI a4), some (xI a5), some (xR q23.1), some (xR q25.1)] [] x43 Ph) (fun x43 hk => ?_) (fun k44 jk44 hk => ?_)
                · refine sx_bipush (v := (-12 : Int32)) dc_Ma_copy_85 (by decide) ?_
                  exact sx_retI dc_Ma_copy_87 rfl hk.val
                · refine sx_if_eq (tgt := 85) dc_Ma_copy_70 (by decide) (fun c45 => ?_) (fun c45 => ?_)
                  · replace hk := hk.t c45
                    exact jk44 q42.2 hk
                  · replace hk := hk.f c45
                    refine sx_aload dc_Ma_copy_73 rfl ?_
                    refine sx_iload dc_Ma_copy_75 rfl ?_
                    refine sx_iload dc_Ma_copy_77 rfl ?_
                    obtain ⟨g47, hk⟩ := hk.g
                    obtain ⟨q46, eq46, hk⟩ := hk.bind
                    refine sx_callV (d2 := d - 1) (mc2 := 0) (ms2 := 0) (as := [xI a4, xI a5]) mk_Sh_hasRun rfl (x_rk (ci := 4) g47 rfl rfl) wM_Ma_348 mi_Sh_hasRun me_Sh_hasRun rfl (Nat.le_of_ble_eq_true rfl) (Nat.le_of_ble_eq_true rfl) dc_Ma_copy_79 (by omega) (Nat.zero_le _) (Nat.zero_le _) ?_
                    refine t_Sh_hasRun (by omega) ⟨q46, eq46, ?_⟩
                    refine sx_eq0 (lc2 := [some (xR a0), some (xI a1), some (xI a2), some (xI a3), some (xI a4), some (xI a5), some (xR q23.1), some (xR q25.1)]) (st2 := [xI q46.1]) rfl rfl ?_
                    refine sx_if_ne (tgt := 88) dc_Ma_copy_82 (by decide) (fun c48 => ?_) (fun c48 => ?_)
                    · replace hk := hk.f c48
                      refine sx_aload dc_Ma_copy_88 rfl ?_
                      obtain ⟨g49, hk⟩ := hk.g
                      refine sx_get (ci := 4) (k := 2) rfl (by decide) wF_Ma_351 g49 dc_Ma_copy_90 ?_
                      refine sx_iload_n dc_Ma_copy_93 rfl ?_
                      refine sx_aload dc_Ma_copy_94 rfl ?_
                      obtain ⟨g50, hk⟩ := hk.g
                      refine sx_get (ci := 4) (k := 2) rfl (by decide) wF_Ma_351 g50 dc_Ma_copy_96 ?_
                      refine sx_iload dc_Ma_copy_99 rfl ?_
                      refine sx_iload dc_Ma_copy_101 rfl ?_
                      obtain ⟨g51, hk⟩ := hk.g
                      obtain ⟨g52, hk⟩ := hk.g
                      obtain ⟨g53, hk⟩ := hk.g
                      obtain ⟨g54, hk⟩ := hk.g
                      obtain ⟨g55, hk⟩ := hk.g
                      obtain ⟨g56, hk⟩ := hk.g
                      obtain ⟨g57, hk⟩ := hk.g
                      refine sx_copy g51 g52 g53 g54 g55 g56 g57 wM_Ma_355 wQ wR wS (Nat.le_of_ble_eq_true rfl) (by omega) dc_Ma_copy_103 ?_
                      obtain ⟨h58, eh58, hk⟩ := hk.h
                      refine sx_hp eh58 ?_
                      have g59 : hK h58 q23.1 = 4 := by rw [eh58]; exact g49
                      have g60 : hK h58 q25.1 = 4 := by rw [eh58]; exact g50
                      have g61 : hK h58 (hR q46.2 q23.1 2) = 12 := by rw [eh58]; exact g51
                      have g62 : hK h58 (hR q46.2 q25.1 2) = 12 := by rw [eh58]; exact g52
                      refine sx_iload dc_Ma_copy_106 rfl ?_
                      exact sx_retI dc_Ma_copy_108 rfl hk.val
                    · replace hk := hk.t c48
                      exact jk44 q46.2 hk
              · replace hk := hk.f c41
                refine sx_bipush (v := (-13 : Int32)) dc_Ma_copy_59 (by decide) ?_
                exact sx_retI dc_Ma_copy_61 rfl hk.val
            · replace hk := hk.f c38
              exact jk34 q36.2 hk
      · replace hk := hk.t c30
        exact jk28 () hk
theorem dc_Ma_pairs_0 : decode M_Ma_pairs.2.1 0 = .ok (.aload_n 0, 1) := by decide +kernel
theorem dc_Ma_pairs_1 : decode M_Ma_pairs.2.1 1 = .ok (.iload_n 1, 1) := by decide +kernel
theorem dc_Ma_pairs_2 : decode M_Ma_pairs.2.1 2 = .ok (.invokevirtual 313, 3) := by decide +kernel
theorem dc_Ma_pairs_5 : decode M_Ma_pairs.2.1 5 = .ok (.astore 5, 2) := by decide +kernel
theorem dc_Ma_pairs_7 : decode M_Ma_pairs.2.1 7 = .ok (.aload 5, 2) := by decide +kernel
theorem dc_Ma_pairs_9 : decode M_Ma_pairs.2.1 9 = .ok (.ifnull 24, 3) := by decide +kernel
theorem dc_Ma_pairs_12 : decode M_Ma_pairs.2.1 12 = .ok (.iload_n 2, 1) := by decide +kernel
theorem dc_Ma_pairs_13 : decode M_Ma_pairs.2.1 13 = .ok (.ifCond .lt 20, 3) := by decide +kernel
theorem dc_Ma_pairs_16 : decode M_Ma_pairs.2.1 16 = .ok (.iload_n 2, 1) := by decide +kernel
theorem dc_Ma_pairs_17 : decode M_Ma_pairs.2.1 17 = .ok (.iconst 3, 1) := by decide +kernel
theorem dc_Ma_pairs_18 : decode M_Ma_pairs.2.1 18 = .ok (.if_icmp .ge 15, 3) := by decide +kernel
theorem dc_Ma_pairs_21 : decode M_Ma_pairs.2.1 21 = .ok (.iload 4, 2) := by decide +kernel
theorem dc_Ma_pairs_23 : decode M_Ma_pairs.2.1 23 = .ok (.ifCond .lt 10, 3) := by decide +kernel
theorem dc_Ma_pairs_26 : decode M_Ma_pairs.2.1 26 = .ok (.iload 4, 2) := by decide +kernel
theorem dc_Ma_pairs_28 : decode M_Ma_pairs.2.1 28 = .ok (.bipush 13, 2) := by decide +kernel
theorem dc_Ma_pairs_30 : decode M_Ma_pairs.2.1 30 = .ok (.if_icmp .le 6, 3) := by decide +kernel
theorem dc_Ma_pairs_33 : decode M_Ma_pairs.2.1 33 = .ok (.bipush (-2), 2) := by decide +kernel
theorem dc_Ma_pairs_35 : decode M_Ma_pairs.2.1 35 = .ok (.ireturn, 1) := by decide +kernel
theorem dc_Ma_pairs_36 : decode M_Ma_pairs.2.1 36 = .ok (.aload 5, 2) := by decide +kernel
theorem dc_Ma_pairs_38 : decode M_Ma_pairs.2.1 38 = .ok (.invokevirtual 317, 3) := by decide +kernel
theorem dc_Ma_pairs_41 : decode M_Ma_pairs.2.1 41 = .ok (.ifCond .eq 6, 3) := by decide +kernel
theorem dc_Ma_pairs_44 : decode M_Ma_pairs.2.1 44 = .ok (.bipush (-11), 2) := by decide +kernel
theorem dc_Ma_pairs_46 : decode M_Ma_pairs.2.1 46 = .ok (.ireturn, 1) := by decide +kernel
theorem dc_Ma_pairs_47 : decode M_Ma_pairs.2.1 47 = .ok (.aload 5, 2) := by decide +kernel
theorem dc_Ma_pairs_49 : decode M_Ma_pairs.2.1 49 = .ok (.getfield 345, 3) := by decide +kernel
theorem dc_Ma_pairs_52 : decode M_Ma_pairs.2.1 52 = .ok (.iload_n 2, 1) := by decide +kernel
theorem dc_Ma_pairs_53 : decode M_Ma_pairs.2.1 53 = .ok (.if_icmp .eq 6, 3) := by decide +kernel
theorem dc_Ma_pairs_56 : decode M_Ma_pairs.2.1 56 = .ok (.bipush (-13), 2) := by decide +kernel
theorem dc_Ma_pairs_58 : decode M_Ma_pairs.2.1 58 = .ok (.ireturn, 1) := by decide +kernel
theorem dc_Ma_pairs_59 : decode M_Ma_pairs.2.1 59 = .ok (.iconst 0, 1) := by decide +kernel
theorem dc_Ma_pairs_60 : decode M_Ma_pairs.2.1 60 = .ok (.istore 6, 2) := by decide +kernel
theorem dc_Ma_pairs_62 : decode M_Ma_pairs.2.1 62 = .ok (.iconst 0, 1) := by decide +kernel
theorem dc_Ma_pairs_63 : decode M_Ma_pairs.2.1 63 = .ok (.istore 7, 2) := by decide +kernel
theorem dc_Ma_pairs_65 : decode M_Ma_pairs.2.1 65 = .ok (.iload 7, 2) := by decide +kernel
theorem dc_Ma_pairs_67 : decode M_Ma_pairs.2.1 67 = .ok (.iload 4, 2) := by decide +kernel
theorem dc_Ma_pairs_69 : decode M_Ma_pairs.2.1 69 = .ok (.if_icmp .ge 66, 3) := by decide +kernel
theorem dc_Ma_pairs_72 : decode M_Ma_pairs.2.1 72 = .ok (.iload_n 3, 1) := by decide +kernel
theorem dc_Ma_pairs_73 : decode M_Ma_pairs.2.1 73 = .ok (.iconst 3, 1) := by decide +kernel
theorem dc_Ma_pairs_74 : decode M_Ma_pairs.2.1 74 = .ok (.iload 7, 2) := by decide +kernel
theorem dc_Ma_pairs_76 : decode M_Ma_pairs.2.1 76 = .ok (.imul, 1) := by decide +kernel
theorem dc_Ma_pairs_77 : decode M_Ma_pairs.2.1 77 = .ok (.iadd, 1) := by decide +kernel
theorem dc_Ma_pairs_78 : decode M_Ma_pairs.2.1 78 = .ok (.istore 8, 2) := by decide +kernel
theorem dc_Ma_pairs_80 : decode M_Ma_pairs.2.1 80 = .ok (.aload 5, 2) := by decide +kernel
theorem dc_Ma_pairs_82 : decode M_Ma_pairs.2.1 82 = .ok (.iload 8, 2) := by decide +kernel
theorem dc_Ma_pairs_84 : decode M_Ma_pairs.2.1 84 = .ok (.iconst 3, 1) := by decide +kernel
theorem dc_Ma_pairs_85 : decode M_Ma_pairs.2.1 85 = .ok (.invokevirtual 348, 3) := by decide +kernel
theorem dc_Ma_pairs_88 : decode M_Ma_pairs.2.1 88 = .ok (.ifCond .ne 6, 3) := by decide +kernel
theorem dc_Ma_pairs_91 : decode M_Ma_pairs.2.1 91 = .ok (.bipush (-12), 2) := by decide +kernel
theorem dc_Ma_pairs_93 : decode M_Ma_pairs.2.1 93 = .ok (.ireturn, 1) := by decide +kernel
theorem dc_Ma_pairs_94 : decode M_Ma_pairs.2.1 94 = .ok (.aload_n 0, 1) := by decide +kernel
theorem dc_Ma_pairs_95 : decode M_Ma_pairs.2.1 95 = .ok (.aload 5, 2) := by decide +kernel
theorem dc_Ma_pairs_97 : decode M_Ma_pairs.2.1 97 = .ok (.iload 8, 2) := by decide +kernel
theorem dc_Ma_pairs_99 : decode M_Ma_pairs.2.1 99 = .ok (.invokevirtual 323, 3) := by decide +kernel
theorem dc_Ma_pairs_102 : decode M_Ma_pairs.2.1 102 = .ok (.aload 5, 2) := by decide +kernel
theorem dc_Ma_pairs_104 : decode M_Ma_pairs.2.1 104 = .ok (.iload 8, 2) := by decide +kernel
theorem dc_Ma_pairs_106 : decode M_Ma_pairs.2.1 106 = .ok (.iconst 1, 1) := by decide +kernel
theorem dc_Ma_pairs_107 : decode M_Ma_pairs.2.1 107 = .ok (.iadd, 1) := by decide +kernel
theorem dc_Ma_pairs_108 : decode M_Ma_pairs.2.1 108 = .ok (.invokevirtual 323, 3) := by decide +kernel
theorem dc_Ma_pairs_111 : decode M_Ma_pairs.2.1 111 = .ok (.aload 5, 2) := by decide +kernel
theorem dc_Ma_pairs_113 : decode M_Ma_pairs.2.1 113 = .ok (.iload 8, 2) := by decide +kernel
theorem dc_Ma_pairs_115 : decode M_Ma_pairs.2.1 115 = .ok (.iconst 2, 1) := by decide +kernel
theorem dc_Ma_pairs_116 : decode M_Ma_pairs.2.1 116 = .ok (.iadd, 1) := by decide +kernel
theorem dc_Ma_pairs_117 : decode M_Ma_pairs.2.1 117 = .ok (.invokevirtual 323, 3) := by decide +kernel
theorem dc_Ma_pairs_120 : decode M_Ma_pairs.2.1 120 = .ok (.invokevirtual 361, 3) := by decide +kernel
theorem dc_Ma_pairs_123 : decode M_Ma_pairs.2.1 123 = .ok (.ifCond .lt 6, 3) := by decide +kernel
theorem dc_Ma_pairs_126 : decode M_Ma_pairs.2.1 126 = .ok (.iinc 6 1, 3) := by decide +kernel
theorem dc_Ma_pairs_129 : decode M_Ma_pairs.2.1 129 = .ok (.iinc 7 1, 3) := by decide +kernel
theorem dc_Ma_pairs_132 : decode M_Ma_pairs.2.1 132 = .ok (.goto (-67), 3) := by decide +kernel
theorem dc_Ma_pairs_135 : decode M_Ma_pairs.2.1 135 = .ok (.iload 6, 2) := by decide +kernel
theorem dc_Ma_pairs_137 : decode M_Ma_pairs.2.1 137 = .ok (.ireturn, 1) := by decide +kernel
def f_Ma_pairs_L65 (a0 : Nat) (a1 : Int32) (a2 : Int32) (a3 : Int32) (a4 : Int32) (a5 : Nat) : Nat → Int32 → Int32 → xH → (Int32 → Int32 → xH → Option (Int32 × xH)) → Option (Int32 × xH)
  | 0, _, _, _, _ => none
  | n + 1, a6, a7, h, K => if a4 ≤ a7 then K a6 a7 h else gd (hK h a5 = 4) (Option.bind (f_Sh_hasRun a5 (a3 + ((3 : Int32) * a7)) (3 : Int32) h) (fun q30 => if q30.1 = 0 then some ((-12 : Int32), q30.2) else gd (hK q30.2 a5 = 4) (Option.bind (f_Sh_item a5 (a3 + ((3 : Int32) * a7)) q30.2) (fun q33 => gd (hK q33.2 a5 = 4) (Option.bind (f_Sh_item a5 ((a3 + ((3 : Int32) * a7)) + (1 : Int32)) q33.2) (fun q35 => gd (hK q35.2 a5 = 4) (Option.bind (f_Sh_item a5 ((a3 + ((3 : Int32) * a7)) + (2 : Int32)) q35.2) (fun q37 => gd (hK q37.2 a0 = 10) (Option.bind (f_Ma_meet a0 q33.1 q35.1 q37.1 q37.2) (fun q39 => f_Ma_pairs_L65 a0 a1 a2 a3 a4 a5 n (if q39.1 < 0 then a6 else a6 + (1 : Int32)) (a7 + (1 : Int32)) q39.2 K))))))))))
def f_Ma_pairs (a0 : Nat) (a1 : Int32) (a2 : Int32) (a3 : Int32) (a4 : Int32) (h : xH) : Option (Int32 × xH) := gd (hK h a0 = 10) (Option.bind (f_Ma_sheetAt a0 a1 h) (fun q15 => jn (fun (x17 : Unit) => some ((-2 : Int32), q15.2)) (fun k18 => if q15.1 = 0 then k18 () else if a2 < 0 then k18 () else if (3 : Int32) ≤ a2 then k18 () else if a4 < 0 then k18 () else if a4 ≤ (13 : Int32) then gd (hK q15.2 q15.1 = 4) (Option.bind (f_Sh_isMissing q15.1 q15.2) (fun q24 => if q24.1 = 0 then gd (hK q24.2 q15.1 = 4) (if (hI q24.2 q15.1 0) = a2 then f_Ma_pairs_L65 a0 a1 a2 a3 a4 q15.1 fu (0 : Int32) (0 : Int32) q24.2 (fun v43 v44 h45 => some (v43, h45)) else some ((-13 : Int32), q24.2)) else some ((-11 : Int32), q24.2))) else k18 ())))
theorem t_Ma_pairs_L65 {l : Launch} {z : xZ} {d mc ms : Nat} {Ph : Option xV → xH → Prop} {a0 : Nat} {a1 : Int32} {a2 : Int32} {a3 : Int32} {a4 : Int32} {a5 : Nat}  (hd : 5 ≤ d) : ∀ (n : Nat) (a6 : Int32) (a7 : Int32) (h : xH) (K : Int32 → Int32 → xH → Option (Int32 × xH)), OK (f_Ma_pairs_L65 a0 a1 a2 a3 a4 a5 n a6 a7 h K) (fun q => Ph (some (xI q.1)) q.2) → (∀ (a6 : Int32) (a7 : Int32) (h : xH), OK (K a6 a7 h) (fun q => Ph (some (xI q.1)) q.2) → Sx l z d mc ms M_Ma_pairs 135 [some (xR a0), some (xI a1), some (xI a2), some (xI a3), some (xI a4), some (xR a5), some (xI a6), some (xI a7), none] [] h Ph) → Sx l z d mc ms M_Ma_pairs 65 [some (xR a0), some (xI a1), some (xI a2), some (xI a3), some (xI a4), some (xR a5), some (xI a6), some (xI a7), none] [] h Ph := by
  intro n
  induction n with
  | zero => intro a6 a7 h K hk hE; exact hk.no
  | succ n ih =>
    intro a6 a7 h K hk hE
    rw [f_Ma_pairs_L65] at hk
    refine sx_iload dc_Ma_pairs_65 rfl ?_
    refine sx_iload dc_Ma_pairs_67 rfl ?_
    refine sx_icmp_ge (tgt := 135) dc_Ma_pairs_69 (by decide) (fun c29 => ?_) (fun c29 => ?_)
    · replace hk := hk.t c29
      exact hE a6 a7 h hk
    · replace hk := hk.f c29
      refine sx_iload_n dc_Ma_pairs_72 rfl ?_
      refine sx_iconst (v := (3 : Int32)) dc_Ma_pairs_73 (by decide) ?_
      refine sx_iload dc_Ma_pairs_74 rfl ?_
      refine sx_imul dc_Ma_pairs_76 ?_
      refine sx_iadd dc_Ma_pairs_77 ?_
      refine sx_istore dc_Ma_pairs_78 (by decide) (sx_eq (lc2 := [some (xR a0), some (xI a1), some (xI a2), some (xI a3), some (xI a4), some (xR a5), some (xI a6), some (xI a7), some (xI (a3 + ((3 : Int32) * a7)))]) rfl rfl ?_)
      refine sx_aload dc_Ma_pairs_80 rfl ?_
      refine sx_iload dc_Ma_pairs_82 rfl ?_
      refine sx_iconst (v := (3 : Int32)) dc_Ma_pairs_84 (by decide) ?_
      obtain ⟨g31, hk⟩ := hk.g
      obtain ⟨q30, eq30, hk⟩ := hk.bind
      refine sx_callV (d2 := d - 1) (mc2 := 0) (ms2 := 0) (as := [xI (a3 + ((3 : Int32) * a7)), xI (3 : Int32)]) mk_Sh_hasRun rfl (x_rk (ci := 4) g31 rfl rfl) wM_Ma_348 mi_Sh_hasRun me_Sh_hasRun rfl (Nat.le_of_ble_eq_true rfl) (Nat.le_of_ble_eq_true rfl) dc_Ma_pairs_85 (by omega) (Nat.zero_le _) (Nat.zero_le _) ?_
      refine t_Sh_hasRun (by omega) ⟨q30, eq30, ?_⟩
      refine sx_eq0 (lc2 := [some (xR a0), some (xI a1), some (xI a2), some (xI a3), some (xI a4), some (xR a5), some (xI a6), some (xI a7), some (xI (a3 + ((3 : Int32) * a7)))]) (st2 := [xI q30.1]) rfl rfl ?_
      refine sx_if_ne (tgt := 94) dc_Ma_pairs_88 (by decide) (fun c32 => ?_) (fun c32 => ?_)
      · replace hk := hk.f c32
        refine sx_aload_n dc_Ma_pairs_94 rfl ?_
        refine sx_aload dc_Ma_pairs_95 rfl ?_
        refine sx_iload dc_Ma_pairs_97 rfl ?_
        obtain ⟨g34, hk⟩ := hk.g
        obtain ⟨q33, eq33, hk⟩ := hk.bind
        refine sx_callV (d2 := d - 1) (mc2 := 0) (ms2 := 0) (as := [xI (a3 + ((3 : Int32) * a7))]) mk_Sh_item rfl (x_rk (ci := 4) g34 rfl rfl) wM_Ma_323 mi_Sh_item me_Sh_item rfl (Nat.le_of_ble_eq_true rfl) (Nat.le_of_ble_eq_true rfl) dc_Ma_pairs_99 (by omega) (Nat.zero_le _) (Nat.zero_le _) ?_
        refine t_Sh_item (by omega) ⟨q33, eq33, ?_⟩
        refine sx_eq0 (lc2 := [some (xR a0), some (xI a1), some (xI a2), some (xI a3), some (xI a4), some (xR a5), some (xI a6), some (xI a7), some (xI (a3 + ((3 : Int32) * a7)))]) (st2 := [xI q33.1, xR a0]) rfl rfl ?_
        refine sx_aload dc_Ma_pairs_102 rfl ?_
        refine sx_iload dc_Ma_pairs_104 rfl ?_
        refine sx_iconst (v := (1 : Int32)) dc_Ma_pairs_106 (by decide) ?_
        refine sx_iadd dc_Ma_pairs_107 ?_
        obtain ⟨g36, hk⟩ := hk.g
        obtain ⟨q35, eq35, hk⟩ := hk.bind
        refine sx_callV (d2 := d - 1) (mc2 := 0) (ms2 := 0) (as := [xI ((a3 + ((3 : Int32) * a7)) + (1 : Int32))]) mk_Sh_item rfl (x_rk (ci := 4) g36 rfl rfl) wM_Ma_323 mi_Sh_item me_Sh_item rfl (Nat.le_of_ble_eq_true rfl) (Nat.le_of_ble_eq_true rfl) dc_Ma_pairs_108 (by omega) (Nat.zero_le _) (Nat.zero_le _) ?_
        refine t_Sh_item (by omega) ⟨q35, eq35, ?_⟩
        refine sx_eq0 (lc2 := [some (xR a0), some (xI a1), some (xI a2), some (xI a3), some (xI a4), some (xR a5), some (xI a6), some (xI a7), some (xI (a3 + ((3 : Int32) * a7)))]) (st2 := [xI q35.1, xI q33.1, xR a0]) rfl rfl ?_
        refine sx_aload dc_Ma_pairs_111 rfl ?_
        refine sx_iload dc_Ma_pairs_113 rfl ?_
        refine sx_iconst (v := (2 : Int32)) dc_Ma_pairs_115 (by decide) ?_
        refine sx_iadd dc_Ma_pairs_116 ?_
        obtain ⟨g38, hk⟩ := hk.g
        obtain ⟨q37, eq37, hk⟩ := hk.bind
        refine sx_callV (d2 := d - 1) (mc2 := 0) (ms2 := 0) (as := [xI ((a3 + ((3 : Int32) * a7)) + (2 : Int32))]) mk_Sh_item rfl (x_rk (ci := 4) g38 rfl rfl) wM_Ma_323 mi_Sh_item me_Sh_item rfl (Nat.le_of_ble_eq_true rfl) (Nat.le_of_ble_eq_true rfl) dc_Ma_pairs_117 (by omega) (Nat.zero_le _) (Nat.zero_le _) ?_
        refine t_Sh_item (by omega) ⟨q37, eq37, ?_⟩
        refine sx_eq0 (lc2 := [some (xR a0), some (xI a1), some (xI a2), some (xI a3), some (xI a4), some (xR a5), some (xI a6), some (xI a7), some (xI (a3 + ((3 : Int32) * a7)))]) (st2 := [xI q37.1, xI q35.1, xI q33.1, xR a0]) rfl rfl ?_
        obtain ⟨g40, hk⟩ := hk.g
        obtain ⟨q39, eq39, hk⟩ := hk.bind
        refine sx_callV (d2 := d - 1) (mc2 := 0) (ms2 := 0) (as := [xI q33.1, xI q35.1, xI q37.1]) mk_Ma_meet rfl (x_rk (ci := 10) g40 rfl rfl) wM_Ma_361 mi_Ma_meet me_Ma_meet rfl (Nat.le_of_ble_eq_true rfl) (Nat.le_of_ble_eq_true rfl) dc_Ma_pairs_120 (by omega) (Nat.zero_le _) (Nat.zero_le _) ?_
        refine t_Ma_meet (by omega) ⟨q39, eq39, ?_⟩
        refine sx_eq0 (lc2 := [some (xR a0), some (xI a1), some (xI a2), some (xI a3), some (xI a4), some (xR a5), some (xI a6), some (xI a7), some (xI (a3 + ((3 : Int32) * a7)))]) (st2 := [xI q39.1]) rfl rfl ?_
        refine sx_mg (pc2 := 129) (lc2 := [some (xR a0), some (xI a1), some (xI a2), some (xI a3), some (xI a4), some (xR a5), some (xI (if q39.1 < 0 then a6 else a6 + (1 : Int32))), some (xI a7), some (xI (a3 + ((3 : Int32) * a7)))]) (st2 := []) (h2 := q39.2) ?_ (fun J41 => ?_)
        · refine sx_iinc (v := (1 : Int32)) dc_Ma_pairs_129 rfl (by decide) (by decide) (sx_eq (lc2 := [some (xR a0), some (xI a1), some (xI a2), some (xI a3), some (xI a4), some (xR a5), some (xI (if q39.1 < 0 then a6 else a6 + (1 : Int32))), some (xI (a7 + (1 : Int32))), some (xI (a3 + ((3 : Int32) * a7)))]) rfl rfl ?_)
          refine sx_goto (tgt := 65) dc_Ma_pairs_132 (by decide) ?_
          exact sx_less (by simp [x_le]) (ih (if q39.1 < 0 then a6 else a6 + (1 : Int32)) (a7 + (1 : Int32)) q39.2 _ hk hE)
        · refine sx_if_lt (tgt := 129) dc_Ma_pairs_123 (by decide) (fun c42 => ?_) (fun c42 => ?_)
          · try simp only [if_pos c42] at J41
            exact J41
          · try simp only [if_neg c42] at J41
            refine sx_iinc (v := (1 : Int32)) dc_Ma_pairs_126 rfl (by decide) (by decide) (sx_eq (lc2 := [some (xR a0), some (xI a1), some (xI a2), some (xI a3), some (xI a4), some (xR a5), some (xI (a6 + (1 : Int32))), some (xI a7), some (xI (a3 + ((3 : Int32) * a7)))]) rfl rfl ?_)
            exact J41
      · replace hk := hk.t c32
        refine sx_bipush (v := (-12 : Int32)) dc_Ma_pairs_91 (by decide) ?_
        exact sx_retI dc_Ma_pairs_93 rfl hk.val
theorem t_Ma_pairs {l : Launch} {z : xZ} {d mc ms : Nat} {Ph : Option xV → xH → Prop} {a0 : Nat} {a1 : Int32} {a2 : Int32} {a3 : Int32} {a4 : Int32}  {h : xH} (hd : 5 ≤ d) (hk : OK (f_Ma_pairs a0 a1 a2 a3 a4 h) (fun q => Ph (some (xI q.1)) q.2)) : Sx l z d mc ms M_Ma_pairs 0 (x_en [xR a0, xI a1, xI a2, xI a3, xI a4] 9) [] h Ph := by
  unfold f_Ma_pairs at hk
  refine sx_eq (lc2 := [some (xR a0), some (xI a1), some (xI a2), some (xI a3), some (xI a4), none, none, none, none]) rfl rfl ?_
  refine sx_aload_n dc_Ma_pairs_0 rfl ?_
  refine sx_iload_n dc_Ma_pairs_1 rfl ?_
  obtain ⟨g16, hk⟩ := hk.g
  obtain ⟨q15, eq15, hk⟩ := hk.bind
  refine sx_callV (d2 := d - 1) (mc2 := 0) (ms2 := 0) (as := [xI a1]) mk_Ma_sheetAt rfl (x_rk (ci := 10) g16 rfl rfl) wM_Ma_313 mi_Ma_sheetAt me_Ma_sheetAt rfl (Nat.le_of_ble_eq_true rfl) (Nat.le_of_ble_eq_true rfl) dc_Ma_pairs_2 (by omega) (Nat.zero_le _) (Nat.zero_le _) ?_
  refine t_Ma_sheetAt (by omega) ⟨q15, eq15, ?_⟩
  refine sx_eq0 (lc2 := [some (xR a0), some (xI a1), some (xI a2), some (xI a3), some (xI a4), none, none, none, none]) (st2 := [xR q15.1]) rfl rfl ?_
  refine sx_astore dc_Ma_pairs_5 (by decide) (sx_eq (lc2 := [some (xR a0), some (xI a1), some (xI a2), some (xI a3), some (xI a4), some (xR q15.1), none, none, none]) rfl rfl ?_)
  refine sx_aload dc_Ma_pairs_7 rfl ?_
  refine hk.j (X := fun x17 => Sx l z d mc ms M_Ma_pairs 33 [some (xR a0), some (xI a1), some (xI a2), some (xI a3), some (xI a4), some (xR q15.1), none, none, none] [] q15.2 Ph) (fun x17 hk => ?_) (fun k18 jk18 hk => ?_)
  · refine sx_bipush (v := (-2 : Int32)) dc_Ma_pairs_33 (by decide) ?_
    exact sx_retI dc_Ma_pairs_35 rfl hk.val
  · refine sx_ifnull (tgt := 33) dc_Ma_pairs_9 (by decide) (fun c19 => ?_) (fun c19 => ?_)
    · replace hk := hk.t c19
      exact jk18 () hk
    · replace hk := hk.f c19
      refine sx_iload_n dc_Ma_pairs_12 rfl ?_
      refine sx_if_lt (tgt := 33) dc_Ma_pairs_13 (by decide) (fun c20 => ?_) (fun c20 => ?_)
      · replace hk := hk.t c20
        exact jk18 () hk
      · replace hk := hk.f c20
        refine sx_iload_n dc_Ma_pairs_16 rfl ?_
        refine sx_iconst (v := (3 : Int32)) dc_Ma_pairs_17 (by decide) ?_
        refine sx_icmp_ge (tgt := 33) dc_Ma_pairs_18 (by decide) (fun c21 => ?_) (fun c21 => ?_)
        · replace hk := hk.t c21
          exact jk18 () hk
        · replace hk := hk.f c21
          refine sx_iload dc_Ma_pairs_21 rfl ?_
          refine sx_if_lt (tgt := 33) dc_Ma_pairs_23 (by decide) (fun c22 => ?_) (fun c22 => ?_)
          · replace hk := hk.t c22
            exact jk18 () hk
          · replace hk := hk.f c22
            refine sx_iload dc_Ma_pairs_26 rfl ?_
            refine sx_bipush (v := (13 : Int32)) dc_Ma_pairs_28 (by decide) ?_
            refine sx_icmp_le (tgt := 36) dc_Ma_pairs_30 (by decide) (fun c23 => ?_) (fun c23 => ?_)
            · replace hk := hk.t c23
              refine sx_aload dc_Ma_pairs_36 rfl ?_
              obtain ⟨g25, hk⟩ := hk.g
              obtain ⟨q24, eq24, hk⟩ := hk.bind
              refine sx_callV (d2 := d - 1) (mc2 := 0) (ms2 := 0) (as := []) mk_Sh_isMissing rfl (x_rk (ci := 4) g25 rfl rfl) wM_Ma_317 mi_Sh_isMissing me_Sh_isMissing rfl (Nat.le_of_ble_eq_true rfl) (Nat.le_of_ble_eq_true rfl) dc_Ma_pairs_38 (by omega) (Nat.zero_le _) (Nat.zero_le _) ?_
              refine t_Sh_isMissing (by omega) ⟨q24, eq24, ?_⟩
              refine sx_eq0 (lc2 := [some (xR a0), some (xI a1), some (xI a2), some (xI a3), some (xI a4), some (xR q15.1), none, none, none]) (st2 := [xI q24.1]) rfl rfl ?_
              refine sx_if_eq (tgt := 47) dc_Ma_pairs_41 (by decide) (fun c26 => ?_) (fun c26 => ?_)
              · replace hk := hk.t c26
                refine sx_aload dc_Ma_pairs_47 rfl ?_
                obtain ⟨g27, hk⟩ := hk.g
                refine sx_get (ci := 4) (k := 0) rfl (by decide) wF_Ma_345 g27 dc_Ma_pairs_49 ?_
                refine sx_iload_n dc_Ma_pairs_52 rfl ?_
                refine sx_icmp_eq (tgt := 59) dc_Ma_pairs_53 (by decide) (fun c28 => ?_) (fun c28 => ?_)
                · replace hk := hk.t c28
                  refine sx_iconst (v := (0 : Int32)) dc_Ma_pairs_59 (by decide) ?_
                  refine sx_istore dc_Ma_pairs_60 (by decide) (sx_eq (lc2 := [some (xR a0), some (xI a1), some (xI a2), some (xI a3), some (xI a4), some (xR q15.1), some (xI (0 : Int32)), none, none]) rfl rfl ?_)
                  refine sx_iconst (v := (0 : Int32)) dc_Ma_pairs_62 (by decide) ?_
                  refine sx_istore dc_Ma_pairs_63 (by decide) (sx_eq (lc2 := [some (xR a0), some (xI a1), some (xI a2), some (xI a3), some (xI a4), some (xR q15.1), some (xI (0 : Int32)), some (xI (0 : Int32)), none]) rfl rfl ?_)
                  refine t_Ma_pairs_L65 (by omega) _ _ _ _ _ hk (fun v43 v44 h45 hk => ?_)
                  refine sx_iload dc_Ma_pairs_135 rfl ?_
                  exact sx_retI dc_Ma_pairs_137 rfl hk.val
                · replace hk := hk.f c28
                  refine sx_bipush (v := (-13 : Int32)) dc_Ma_pairs_56 (by decide) ?_
                  exact sx_retI dc_Ma_pairs_58 rfl hk.val
              · replace hk := hk.f c26
                refine sx_bipush (v := (-11 : Int32)) dc_Ma_pairs_44 (by decide) ?_
                exact sx_retI dc_Ma_pairs_46 rfl hk.val
            · replace hk := hk.f c23
              exact jk18 () hk
theorem dc_Ma_taken_0 : decode M_Ma_taken.2.1 0 = .ok (.iload_n 2, 1) := by decide +kernel
theorem dc_Ma_taken_1 : decode M_Ma_taken.2.1 1 = .ok (.ifCond .lt 9, 3) := by decide +kernel
theorem dc_Ma_taken_4 : decode M_Ma_taken.2.1 4 = .ok (.iload_n 2, 1) := by decide +kernel
theorem dc_Ma_taken_5 : decode M_Ma_taken.2.1 5 = .ok (.bipush 6, 2) := by decide +kernel
theorem dc_Ma_taken_7 : decode M_Ma_taken.2.1 7 = .ok (.if_icmp .lt 6, 3) := by decide +kernel
theorem dc_Ma_taken_10 : decode M_Ma_taken.2.1 10 = .ok (.bipush (-2), 2) := by decide +kernel
theorem dc_Ma_taken_12 : decode M_Ma_taken.2.1 12 = .ok (.ireturn, 1) := by decide +kernel
theorem dc_Ma_taken_13 : decode M_Ma_taken.2.1 13 = .ok (.aload_n 0, 1) := by decide +kernel
theorem dc_Ma_taken_14 : decode M_Ma_taken.2.1 14 = .ok (.iload_n 1, 1) := by decide +kernel
theorem dc_Ma_taken_15 : decode M_Ma_taken.2.1 15 = .ok (.invokevirtual 124, 3) := by decide +kernel
theorem dc_Ma_taken_18 : decode M_Ma_taken.2.1 18 = .ok (.astore_n 3, 1) := by decide +kernel
theorem dc_Ma_taken_19 : decode M_Ma_taken.2.1 19 = .ok (.aload_n 3, 1) := by decide +kernel
theorem dc_Ma_taken_20 : decode M_Ma_taken.2.1 20 = .ok (.ifnonnull 6, 3) := by decide +kernel
theorem dc_Ma_taken_23 : decode M_Ma_taken.2.1 23 = .ok (.bipush (-11), 2) := by decide +kernel
theorem dc_Ma_taken_25 : decode M_Ma_taken.2.1 25 = .ok (.ireturn, 1) := by decide +kernel
theorem dc_Ma_taken_26 : decode M_Ma_taken.2.1 26 = .ok (.aload_n 3, 1) := by decide +kernel
theorem dc_Ma_taken_27 : decode M_Ma_taken.2.1 27 = .ok (.iload_n 2, 1) := by decide +kernel
theorem dc_Ma_taken_28 : decode M_Ma_taken.2.1 28 = .ok (.invokevirtual 365, 3) := by decide +kernel
theorem dc_Ma_taken_31 : decode M_Ma_taken.2.1 31 = .ok (.ifCond .eq 10, 3) := by decide +kernel
theorem dc_Ma_taken_34 : decode M_Ma_taken.2.1 34 = .ok (.aload_n 3, 1) := by decide +kernel
theorem dc_Ma_taken_35 : decode M_Ma_taken.2.1 35 = .ok (.getfield 368, 3) := by decide +kernel
theorem dc_Ma_taken_38 : decode M_Ma_taken.2.1 38 = .ok (.goto 5, 3) := by decide +kernel
theorem dc_Ma_taken_41 : decode M_Ma_taken.2.1 41 = .ok (.bipush (-13), 2) := by decide +kernel
theorem dc_Ma_taken_43 : decode M_Ma_taken.2.1 43 = .ok (.ireturn, 1) := by decide +kernel
def f_Ma_taken (a0 : Nat) (a1 : Int32) (a2 : Int32) (h : xH) : Option (Int32 × xH) := jn (fun (x6 : Unit) => some ((-2 : Int32), h)) (fun k7 => if a2 < 0 then k7 () else if a2 < (6 : Int32) then gd (hK h a0 = 10) (Option.bind (f_Ma_townAt a0 a1 h) (fun q10 => if q10.1 = 0 then some ((-11 : Int32), q10.2) else gd (hK q10.2 q10.1 = 8) (Option.bind (f_To_isOf q10.1 a2 q10.2) (fun q13 => jn (fun (x15 : Int32) => some (x15, q13.2)) (fun k16 => if q13.1 = 0 then k16 (-13 : Int32) else gd (hK q13.2 q10.1 = 8) (k16 (hI q13.2 q10.1 1))))))) else k7 ())
theorem t_Ma_taken {l : Launch} {z : xZ} {d mc ms : Nat} {Ph : Option xV → xH → Prop} {a0 : Nat} {a1 : Int32} {a2 : Int32}  {h : xH} (hd : 2 ≤ d) (hk : OK (f_Ma_taken a0 a1 a2 h) (fun q => Ph (some (xI q.1)) q.2)) : Sx l z d mc ms M_Ma_taken 0 (x_en [xR a0, xI a1, xI a2] 4) [] h Ph := by
  unfold f_Ma_taken at hk
  refine sx_eq (lc2 := [some (xR a0), some (xI a1), some (xI a2), none]) rfl rfl ?_
  refine sx_iload_n dc_Ma_taken_0 rfl ?_
  refine hk.j (X := fun x6 => Sx l z d mc ms M_Ma_taken 10 [some (xR a0), some (xI a1), some (xI a2), none] [] h Ph) (fun x6 hk => ?_) (fun k7 jk7 hk => ?_)
  · refine sx_bipush (v := (-2 : Int32)) dc_Ma_taken_10 (by decide) ?_
    exact sx_retI dc_Ma_taken_12 rfl hk.val
  · refine sx_if_lt (tgt := 10) dc_Ma_taken_1 (by decide) (fun c8 => ?_) (fun c8 => ?_)
    · replace hk := hk.t c8
      exact jk7 () hk
    · replace hk := hk.f c8
      refine sx_iload_n dc_Ma_taken_4 rfl ?_
      refine sx_bipush (v := (6 : Int32)) dc_Ma_taken_5 (by decide) ?_
      refine sx_icmp_lt (tgt := 13) dc_Ma_taken_7 (by decide) (fun c9 => ?_) (fun c9 => ?_)
      · replace hk := hk.t c9
        refine sx_aload_n dc_Ma_taken_13 rfl ?_
        refine sx_iload_n dc_Ma_taken_14 rfl ?_
        obtain ⟨g11, hk⟩ := hk.g
        obtain ⟨q10, eq10, hk⟩ := hk.bind
        refine sx_callV (d2 := d - 1) (mc2 := 0) (ms2 := 0) (as := [xI a1]) mk_Ma_townAt rfl (x_rk (ci := 10) g11 rfl rfl) wM_Ma_124 mi_Ma_townAt me_Ma_townAt rfl (Nat.le_of_ble_eq_true rfl) (Nat.le_of_ble_eq_true rfl) dc_Ma_taken_15 (by omega) (Nat.zero_le _) (Nat.zero_le _) ?_
        refine t_Ma_townAt (by omega) ⟨q10, eq10, ?_⟩
        refine sx_eq0 (lc2 := [some (xR a0), some (xI a1), some (xI a2), none]) (st2 := [xR q10.1]) rfl rfl ?_
        refine sx_astore_n dc_Ma_taken_18 (by decide) (sx_eq (lc2 := [some (xR a0), some (xI a1), some (xI a2), some (xR q10.1)]) rfl rfl ?_)
        refine sx_aload_n dc_Ma_taken_19 rfl ?_
        refine sx_ifnonnull (tgt := 26) dc_Ma_taken_20 (by decide) (fun c12 => ?_) (fun c12 => ?_)
        · replace hk := hk.f c12
          refine sx_aload_n dc_Ma_taken_26 rfl ?_
          refine sx_iload_n dc_Ma_taken_27 rfl ?_
          obtain ⟨g14, hk⟩ := hk.g
          obtain ⟨q13, eq13, hk⟩ := hk.bind
          refine sx_callV (d2 := d - 1) (mc2 := 0) (ms2 := 0) (as := [xI a2]) mk_To_isOf rfl (x_rk (ci := 8) g14 rfl rfl) wM_Ma_365 mi_To_isOf me_To_isOf rfl (Nat.le_of_ble_eq_true rfl) (Nat.le_of_ble_eq_true rfl) dc_Ma_taken_28 (by omega) (Nat.zero_le _) (Nat.zero_le _) ?_
          refine t_To_isOf (by omega) ⟨q13, eq13, ?_⟩
          refine sx_eq0 (lc2 := [some (xR a0), some (xI a1), some (xI a2), some (xR q10.1)]) (st2 := [xI q13.1]) rfl rfl ?_
          refine hk.j (X := fun x15 => Sx l z d mc ms M_Ma_taken 43 [some (xR a0), some (xI a1), some (xI a2), some (xR q10.1)] [xI x15] q13.2 Ph) (fun x15 hk => ?_) (fun k16 jk16 hk => ?_)
          · exact sx_retI dc_Ma_taken_43 rfl hk.val
          · refine sx_if_eq (tgt := 41) dc_Ma_taken_31 (by decide) (fun c17 => ?_) (fun c17 => ?_)
            · replace hk := hk.t c17
              refine sx_bipush (v := (-13 : Int32)) dc_Ma_taken_41 (by decide) ?_
              exact jk16 (-13 : Int32) hk
            · replace hk := hk.f c17
              refine sx_aload_n dc_Ma_taken_34 rfl ?_
              obtain ⟨g18, hk⟩ := hk.g
              refine sx_get (ci := 8) (k := 1) rfl (by decide) wF_Ma_368 g18 dc_Ma_taken_35 ?_
              refine sx_goto (tgt := 43) dc_Ma_taken_38 (by decide) ?_
              exact jk16 (hI q13.2 q10.1 1) hk
        · replace hk := hk.t c12
          refine sx_bipush (v := (-11 : Int32)) dc_Ma_taken_23 (by decide) ?_
          exact sx_retI dc_Ma_taken_25 rfl hk.val
      · replace hk := hk.f c9
        exact jk7 () hk
theorem dc_Mo_in_0 : decode M_Mo_in.2.1 0 = .ok (.lload_n 0, 1) := by decide +kernel
theorem dc_Mo_in_1 : decode M_Mo_in.2.1 1 = .ok (.lload_n 2, 1) := by decide +kernel
theorem dc_Mo_in_2 : decode M_Mo_in.2.1 2 = .ok (.lcmp, 1) := by decide +kernel
theorem dc_Mo_in_3 : decode M_Mo_in.2.1 3 = .ok (.ifCond .lt 14, 3) := by decide +kernel
theorem dc_Mo_in_6 : decode M_Mo_in.2.1 6 = .ok (.lload_n 0, 1) := by decide +kernel
theorem dc_Mo_in_7 : decode M_Mo_in.2.1 7 = .ok (.lload 4, 2) := by decide +kernel
theorem dc_Mo_in_9 : decode M_Mo_in.2.1 9 = .ok (.lcmp, 1) := by decide +kernel
theorem dc_Mo_in_10 : decode M_Mo_in.2.1 10 = .ok (.ifCond .gt 7, 3) := by decide +kernel
theorem dc_Mo_in_13 : decode M_Mo_in.2.1 13 = .ok (.iconst 1, 1) := by decide +kernel
theorem dc_Mo_in_14 : decode M_Mo_in.2.1 14 = .ok (.goto 4, 3) := by decide +kernel
theorem dc_Mo_in_17 : decode M_Mo_in.2.1 17 = .ok (.iconst 0, 1) := by decide +kernel
theorem dc_Mo_in_18 : decode M_Mo_in.2.1 18 = .ok (.ireturn, 1) := by decide +kernel
def f_Mo_in (a0 : Int64) (a2 : Int64) (a4 : Int64) (h : xH) : Option (Int32 × xH) := jn (fun (x1 : Int32) => some (nb x1, h)) (fun k2 => jn (fun (x3 : Unit) => k2 (0 : Int32)) (fun k4 => if (jCmpL a0 a2) < 0 then k4 () else if 0 < (jCmpL a0 a4) then k4 () else k2 (1 : Int32)))
theorem t_Mo_in {l : Launch} {z : xZ} {d mc ms : Nat} {Ph : Option xV → xH → Prop} {a0 : Int64} {a2 : Int64} {a4 : Int64}  {h : xH} (hd : 1 ≤ d) (hk : OK (f_Mo_in a0 a2 a4 h) (fun q => Ph (some (xI q.1)) q.2)) : Sx l z d mc ms M_Mo_in 0 (x_en [xJ a0, xJ a2, xJ a4] 6) [] h Ph := by
  unfold f_Mo_in at hk
  refine sx_eq (lc2 := [some (xJ a0), none, some (xJ a2), none, some (xJ a4), none]) rfl rfl ?_
  refine sx_lload_n dc_Mo_in_0 rfl ?_
  refine sx_lload_n dc_Mo_in_1 rfl ?_
  refine sx_lcmp dc_Mo_in_2 ?_
  refine hk.j (X := fun x1 => Sx l z d mc ms M_Mo_in 18 [some (xJ a0), none, some (xJ a2), none, some (xJ a4), none] [xI x1] h Ph) (fun x1 hk => ?_) (fun k2 jk2 hk => ?_)
  · exact sx_retT dc_Mo_in_18 (Or.inl ⟨rfl, rfl⟩) rfl hk.val
  · refine hk.j (X := fun x3 => Sx l z d mc ms M_Mo_in 17 [some (xJ a0), none, some (xJ a2), none, some (xJ a4), none] [] h Ph) (fun x3 hk => ?_) (fun k4 jk4 hk => ?_)
    · refine sx_iconst (v := (0 : Int32)) dc_Mo_in_17 (by decide) ?_
      exact jk2 (0 : Int32) hk
    · refine sx_if_lt (tgt := 17) dc_Mo_in_3 (by decide) (fun c5 => ?_) (fun c5 => ?_)
      · replace hk := hk.t c5
        exact jk4 () hk
      · replace hk := hk.f c5
        refine sx_lload_n dc_Mo_in_6 rfl ?_
        refine sx_lload dc_Mo_in_7 rfl ?_
        refine sx_lcmp dc_Mo_in_9 ?_
        refine sx_if_gt (tgt := 17) dc_Mo_in_10 (by decide) (fun c6 => ?_) (fun c6 => ?_)
        · replace hk := hk.t c6
          exact jk4 () hk
        · replace hk := hk.f c6
          refine sx_iconst (v := (1 : Int32)) dc_Mo_in_13 (by decide) ?_
          refine sx_goto (tgt := 18) dc_Mo_in_14 (by decide) ?_
          exact jk2 (1 : Int32) hk
theorem dc_Mo_within_0 : decode M_Mo_within.2.1 0 = .ok (.iload_n 0, 1) := by decide +kernel
theorem dc_Mo_within_1 : decode M_Mo_within.2.1 1 = .ok (.iload_n 1, 1) := by decide +kernel
theorem dc_Mo_within_2 : decode M_Mo_within.2.1 2 = .ok (.if_icmp .ge 7, 3) := by decide +kernel
theorem dc_Mo_within_5 : decode M_Mo_within.2.1 5 = .ok (.iload_n 1, 1) := by decide +kernel
theorem dc_Mo_within_6 : decode M_Mo_within.2.1 6 = .ok (.goto 13, 3) := by decide +kernel
theorem dc_Mo_within_9 : decode M_Mo_within.2.1 9 = .ok (.iload_n 0, 1) := by decide +kernel
theorem dc_Mo_within_10 : decode M_Mo_within.2.1 10 = .ok (.iload_n 2, 1) := by decide +kernel
theorem dc_Mo_within_11 : decode M_Mo_within.2.1 11 = .ok (.if_icmp .le 7, 3) := by decide +kernel
theorem dc_Mo_within_14 : decode M_Mo_within.2.1 14 = .ok (.iload_n 2, 1) := by decide +kernel
theorem dc_Mo_within_15 : decode M_Mo_within.2.1 15 = .ok (.goto 4, 3) := by decide +kernel
theorem dc_Mo_within_18 : decode M_Mo_within.2.1 18 = .ok (.iload_n 0, 1) := by decide +kernel
theorem dc_Mo_within_19 : decode M_Mo_within.2.1 19 = .ok (.ireturn, 1) := by decide +kernel
def f_Mo_within (a0 : Int32) (a1 : Int32) (a2 : Int32) (h : xH) : Option (Int32 × xH) := some ((if a1 ≤ a0 then if a0 ≤ a2 then a0 else a2 else a1), h)
theorem t_Mo_within {l : Launch} {z : xZ} {d mc ms : Nat} {Ph : Option xV → xH → Prop} {a0 : Int32} {a1 : Int32} {a2 : Int32}  {h : xH} (hd : 1 ≤ d) (hk : OK (f_Mo_within a0 a1 a2 h) (fun q => Ph (some (xI q.1)) q.2)) : Sx l z d mc ms M_Mo_within 0 (x_en [xI a0, xI a1, xI a2] 3) [] h Ph := by
  unfold f_Mo_within at hk
  refine sx_eq (lc2 := [some (xI a0), some (xI a1), some (xI a2)]) rfl rfl ?_
  refine sx_iload_n dc_Mo_within_0 rfl ?_
  refine sx_iload_n dc_Mo_within_1 rfl ?_
  refine sx_mg (pc2 := 19) (lc2 := [some (xI a0), some (xI a1), some (xI a2)]) (st2 := [xI (if a1 ≤ a0 then if a0 ≤ a2 then a0 else a2 else a1)]) (h2 := h) ?_ (fun J1 => ?_)
  · exact sx_retI dc_Mo_within_19 rfl hk.val
  · refine sx_icmp_ge (tgt := 9) dc_Mo_within_2 (by decide) (fun c2 => ?_) (fun c2 => ?_)
    · try simp only [if_pos c2] at J1
      refine sx_iload_n dc_Mo_within_9 rfl ?_
      refine sx_iload_n dc_Mo_within_10 rfl ?_
      refine sx_icmp_le (tgt := 18) dc_Mo_within_11 (by decide) (fun c3 => ?_) (fun c3 => ?_)
      · try simp only [if_pos c3] at J1
        refine sx_iload_n dc_Mo_within_18 rfl ?_
        exact J1
      · try simp only [if_neg c3] at J1
        refine sx_iload_n dc_Mo_within_14 rfl ?_
        refine sx_goto (tgt := 19) dc_Mo_within_15 (by decide) ?_
        exact J1
    · try simp only [if_neg c2] at J1
      refine sx_iload_n dc_Mo_within_5 rfl ?_
      refine sx_goto (tgt := 19) dc_Mo_within_6 (by decide) ?_
      exact J1
theorem dc_Mo_bitsOf_0 : decode M_Mo_bitsOf.2.1 0 = .ok (.iconst 0, 1) := by decide +kernel
theorem dc_Mo_bitsOf_1 : decode M_Mo_bitsOf.2.1 1 = .ok (.istore_n 1, 1) := by decide +kernel
theorem dc_Mo_bitsOf_2 : decode M_Mo_bitsOf.2.1 2 = .ok (.iload_n 0, 1) := by decide +kernel
theorem dc_Mo_bitsOf_3 : decode M_Mo_bitsOf.2.1 3 = .ok (.istore_n 2, 1) := by decide +kernel
theorem dc_Mo_bitsOf_4 : decode M_Mo_bitsOf.2.1 4 = .ok (.iload_n 2, 1) := by decide +kernel
theorem dc_Mo_bitsOf_5 : decode M_Mo_bitsOf.2.1 5 = .ok (.ifCond .eq 15, 3) := by decide +kernel
theorem dc_Mo_bitsOf_8 : decode M_Mo_bitsOf.2.1 8 = .ok (.iinc 1 1, 3) := by decide +kernel
theorem dc_Mo_bitsOf_11 : decode M_Mo_bitsOf.2.1 11 = .ok (.iload_n 2, 1) := by decide +kernel
theorem dc_Mo_bitsOf_12 : decode M_Mo_bitsOf.2.1 12 = .ok (.iload_n 2, 1) := by decide +kernel
theorem dc_Mo_bitsOf_13 : decode M_Mo_bitsOf.2.1 13 = .ok (.iconst 1, 1) := by decide +kernel
theorem dc_Mo_bitsOf_14 : decode M_Mo_bitsOf.2.1 14 = .ok (.isub, 1) := by decide +kernel
theorem dc_Mo_bitsOf_15 : decode M_Mo_bitsOf.2.1 15 = .ok (.iand, 1) := by decide +kernel
theorem dc_Mo_bitsOf_16 : decode M_Mo_bitsOf.2.1 16 = .ok (.istore_n 2, 1) := by decide +kernel
theorem dc_Mo_bitsOf_17 : decode M_Mo_bitsOf.2.1 17 = .ok (.goto (-13), 3) := by decide +kernel
theorem dc_Mo_bitsOf_20 : decode M_Mo_bitsOf.2.1 20 = .ok (.iload_n 1, 1) := by decide +kernel
theorem dc_Mo_bitsOf_21 : decode M_Mo_bitsOf.2.1 21 = .ok (.ireturn, 1) := by decide +kernel
def f_Mo_bitsOf_L4 (a0 : Int32) : Nat → Int32 → Int32 → xH → (Int32 → Int32 → xH → Option (Int32 × xH)) → Option (Int32 × xH)
  | 0, _, _, _, _ => none
  | n + 1, a1, a2, h, K => if a2 = 0 then K a1 a2 h else f_Mo_bitsOf_L4 a0 n (a1 + (1 : Int32)) (a2 &&& (a2 - (1 : Int32))) h K
def f_Mo_bitsOf (a0 : Int32) (h : xH) : Option (Int32 × xH) := f_Mo_bitsOf_L4 a0 fu (0 : Int32) a0 h (fun v2 v3 h4 => some (v2, h4))
theorem t_Mo_bitsOf_L4 {l : Launch} {z : xZ} {d mc ms : Nat} {Ph : Option xV → xH → Prop} {a0 : Int32}  (hd : 1 ≤ d) : ∀ (n : Nat) (a1 : Int32) (a2 : Int32) (h : xH) (K : Int32 → Int32 → xH → Option (Int32 × xH)), OK (f_Mo_bitsOf_L4 a0 n a1 a2 h K) (fun q => Ph (some (xI q.1)) q.2) → (∀ (a1 : Int32) (a2 : Int32) (h : xH), OK (K a1 a2 h) (fun q => Ph (some (xI q.1)) q.2) → Sx l z d mc ms M_Mo_bitsOf 20 [some (xI a0), some (xI a1), some (xI a2)] [] h Ph) → Sx l z d mc ms M_Mo_bitsOf 4 [some (xI a0), some (xI a1), some (xI a2)] [] h Ph := by
  intro n
  induction n with
  | zero => intro a1 a2 h K hk hE; exact hk.no
  | succ n ih =>
    intro a1 a2 h K hk hE
    rw [f_Mo_bitsOf_L4] at hk
    refine sx_iload_n dc_Mo_bitsOf_4 rfl ?_
    refine sx_if_eq (tgt := 20) dc_Mo_bitsOf_5 (by decide) (fun c1 => ?_) (fun c1 => ?_)
    · replace hk := hk.t c1
      exact hE a1 a2 h hk
    · replace hk := hk.f c1
      refine sx_iinc (v := (1 : Int32)) dc_Mo_bitsOf_8 rfl (by decide) (by decide) (sx_eq (lc2 := [some (xI a0), some (xI (a1 + (1 : Int32))), some (xI a2)]) rfl rfl ?_)
      refine sx_iload_n dc_Mo_bitsOf_11 rfl ?_
      refine sx_iload_n dc_Mo_bitsOf_12 rfl ?_
      refine sx_iconst (v := (1 : Int32)) dc_Mo_bitsOf_13 (by decide) ?_
      refine sx_isub dc_Mo_bitsOf_14 ?_
      refine sx_iand dc_Mo_bitsOf_15 ?_
      refine sx_istore_n dc_Mo_bitsOf_16 (by decide) (sx_eq (lc2 := [some (xI a0), some (xI (a1 + (1 : Int32))), some (xI (a2 &&& (a2 - (1 : Int32))))]) rfl rfl ?_)
      refine sx_goto (tgt := 4) dc_Mo_bitsOf_17 (by decide) ?_
      exact ih (a1 + (1 : Int32)) (a2 &&& (a2 - (1 : Int32))) h _ hk hE
theorem t_Mo_bitsOf {l : Launch} {z : xZ} {d mc ms : Nat} {Ph : Option xV → xH → Prop} {a0 : Int32}  {h : xH} (hd : 1 ≤ d) (hk : OK (f_Mo_bitsOf a0 h) (fun q => Ph (some (xI q.1)) q.2)) : Sx l z d mc ms M_Mo_bitsOf 0 (x_en [xI a0] 3) [] h Ph := by
  unfold f_Mo_bitsOf at hk
  refine sx_eq (lc2 := [some (xI a0), none, none]) rfl rfl ?_
  refine sx_iconst (v := (0 : Int32)) dc_Mo_bitsOf_0 (by decide) ?_
  refine sx_istore_n dc_Mo_bitsOf_1 (by decide) (sx_eq (lc2 := [some (xI a0), some (xI (0 : Int32)), none]) rfl rfl ?_)
  refine sx_iload_n dc_Mo_bitsOf_2 rfl ?_
  refine sx_istore_n dc_Mo_bitsOf_3 (by decide) (sx_eq (lc2 := [some (xI a0), some (xI (0 : Int32)), some (xI a0)]) rfl rfl ?_)
  refine t_Mo_bitsOf_L4 (by omega) _ _ _ _ _ hk (fun v2 v3 h4 hk => ?_)
  refine sx_iload_n dc_Mo_bitsOf_20 rfl ?_
  exact sx_retI dc_Mo_bitsOf_21 rfl hk.val
theorem dc_Mo_spell_0 : decode M_Mo_spell.2.1 0 = .ok (.aload_n 0, 1) := by decide +kernel
theorem dc_Mo_spell_1 : decode M_Mo_spell.2.1 1 = .ok (.getfield 13, 3) := by decide +kernel
theorem dc_Mo_spell_4 : decode M_Mo_spell.2.1 4 = .ok (.iload_n 1, 1) := by decide +kernel
theorem dc_Mo_spell_5 : decode M_Mo_spell.2.1 5 = .ok (.iload_n 2, 1) := by decide +kernel
theorem dc_Mo_spell_6 : decode M_Mo_spell.2.1 6 = .ok (.iastore, 1) := by decide +kernel
theorem dc_Mo_spell_7 : decode M_Mo_spell.2.1 7 = .ok (.aload_n 0, 1) := by decide +kernel
theorem dc_Mo_spell_8 : decode M_Mo_spell.2.1 8 = .ok (.getfield 13, 3) := by decide +kernel
theorem dc_Mo_spell_11 : decode M_Mo_spell.2.1 11 = .ok (.iload_n 1, 1) := by decide +kernel
theorem dc_Mo_spell_12 : decode M_Mo_spell.2.1 12 = .ok (.iconst 1, 1) := by decide +kernel
theorem dc_Mo_spell_13 : decode M_Mo_spell.2.1 13 = .ok (.iadd, 1) := by decide +kernel
theorem dc_Mo_spell_14 : decode M_Mo_spell.2.1 14 = .ok (.iload_n 3, 1) := by decide +kernel
theorem dc_Mo_spell_15 : decode M_Mo_spell.2.1 15 = .ok (.iastore, 1) := by decide +kernel
theorem dc_Mo_spell_16 : decode M_Mo_spell.2.1 16 = .ok (.aload_n 0, 1) := by decide +kernel
theorem dc_Mo_spell_17 : decode M_Mo_spell.2.1 17 = .ok (.getfield 13, 3) := by decide +kernel
theorem dc_Mo_spell_20 : decode M_Mo_spell.2.1 20 = .ok (.iload_n 1, 1) := by decide +kernel
theorem dc_Mo_spell_21 : decode M_Mo_spell.2.1 21 = .ok (.iconst 2, 1) := by decide +kernel
theorem dc_Mo_spell_22 : decode M_Mo_spell.2.1 22 = .ok (.iadd, 1) := by decide +kernel
theorem dc_Mo_spell_23 : decode M_Mo_spell.2.1 23 = .ok (.iload 4, 2) := by decide +kernel
theorem dc_Mo_spell_25 : decode M_Mo_spell.2.1 25 = .ok (.iastore, 1) := by decide +kernel
theorem dc_Mo_spell_26 : decode M_Mo_spell.2.1 26 = .ok (.aload_n 0, 1) := by decide +kernel
theorem dc_Mo_spell_27 : decode M_Mo_spell.2.1 27 = .ok (.getfield 13, 3) := by decide +kernel
theorem dc_Mo_spell_30 : decode M_Mo_spell.2.1 30 = .ok (.iload_n 1, 1) := by decide +kernel
theorem dc_Mo_spell_31 : decode M_Mo_spell.2.1 31 = .ok (.iconst 3, 1) := by decide +kernel
theorem dc_Mo_spell_32 : decode M_Mo_spell.2.1 32 = .ok (.iadd, 1) := by decide +kernel
theorem dc_Mo_spell_33 : decode M_Mo_spell.2.1 33 = .ok (.iload 5, 2) := by decide +kernel
theorem dc_Mo_spell_35 : decode M_Mo_spell.2.1 35 = .ok (.iastore, 1) := by decide +kernel
theorem dc_Mo_spell_36 : decode M_Mo_spell.2.1 36 = .ok (.aload_n 0, 1) := by decide +kernel
theorem dc_Mo_spell_37 : decode M_Mo_spell.2.1 37 = .ok (.getfield 13, 3) := by decide +kernel
theorem dc_Mo_spell_40 : decode M_Mo_spell.2.1 40 = .ok (.iload_n 1, 1) := by decide +kernel
theorem dc_Mo_spell_41 : decode M_Mo_spell.2.1 41 = .ok (.iconst 4, 1) := by decide +kernel
theorem dc_Mo_spell_42 : decode M_Mo_spell.2.1 42 = .ok (.iadd, 1) := by decide +kernel
theorem dc_Mo_spell_43 : decode M_Mo_spell.2.1 43 = .ok (.iload 6, 2) := by decide +kernel
theorem dc_Mo_spell_45 : decode M_Mo_spell.2.1 45 = .ok (.iastore, 1) := by decide +kernel
theorem dc_Mo_spell_46 : decode M_Mo_spell.2.1 46 = .ok (.aload_n 0, 1) := by decide +kernel
theorem dc_Mo_spell_47 : decode M_Mo_spell.2.1 47 = .ok (.getfield 13, 3) := by decide +kernel
theorem dc_Mo_spell_50 : decode M_Mo_spell.2.1 50 = .ok (.iload_n 1, 1) := by decide +kernel
theorem dc_Mo_spell_51 : decode M_Mo_spell.2.1 51 = .ok (.iconst 5, 1) := by decide +kernel
theorem dc_Mo_spell_52 : decode M_Mo_spell.2.1 52 = .ok (.iadd, 1) := by decide +kernel
theorem dc_Mo_spell_53 : decode M_Mo_spell.2.1 53 = .ok (.iload 7, 2) := by decide +kernel
theorem dc_Mo_spell_55 : decode M_Mo_spell.2.1 55 = .ok (.iastore, 1) := by decide +kernel
theorem dc_Mo_spell_56 : decode M_Mo_spell.2.1 56 = .ok (.aload_n 0, 1) := by decide +kernel
theorem dc_Mo_spell_57 : decode M_Mo_spell.2.1 57 = .ok (.getfield 13, 3) := by decide +kernel
theorem dc_Mo_spell_60 : decode M_Mo_spell.2.1 60 = .ok (.iload_n 1, 1) := by decide +kernel
theorem dc_Mo_spell_61 : decode M_Mo_spell.2.1 61 = .ok (.bipush 6, 2) := by decide +kernel
theorem dc_Mo_spell_63 : decode M_Mo_spell.2.1 63 = .ok (.iadd, 1) := by decide +kernel
theorem dc_Mo_spell_64 : decode M_Mo_spell.2.1 64 = .ok (.iload 8, 2) := by decide +kernel
theorem dc_Mo_spell_66 : decode M_Mo_spell.2.1 66 = .ok (.iastore, 1) := by decide +kernel
theorem dc_Mo_spell_67 : decode M_Mo_spell.2.1 67 = .ok (.aload_n 0, 1) := by decide +kernel
theorem dc_Mo_spell_68 : decode M_Mo_spell.2.1 68 = .ok (.getfield 13, 3) := by decide +kernel
theorem dc_Mo_spell_71 : decode M_Mo_spell.2.1 71 = .ok (.iload_n 1, 1) := by decide +kernel
theorem dc_Mo_spell_72 : decode M_Mo_spell.2.1 72 = .ok (.bipush 7, 2) := by decide +kernel
theorem dc_Mo_spell_74 : decode M_Mo_spell.2.1 74 = .ok (.iadd, 1) := by decide +kernel
theorem dc_Mo_spell_75 : decode M_Mo_spell.2.1 75 = .ok (.iload 9, 2) := by decide +kernel
theorem dc_Mo_spell_77 : decode M_Mo_spell.2.1 77 = .ok (.iastore, 1) := by decide +kernel
theorem dc_Mo_spell_78 : decode M_Mo_spell.2.1 78 = .ok (.return_, 1) := by decide +kernel
def f_Mo_spell (a0 : Nat) (a1 : Int32) (a2 : Int32) (a3 : Int32) (a4 : Int32) (a5 : Int32) (a6 : Int32) (a7 : Int32) (a8 : Int32) (a9 : Int32) (h : xH) : Option (Unit × xH) := gd (hK h a0 = 11) (gd (hK h (hR h a0 1) = 12) (gd (¬ (a1 < 0 ∨ hL h (hR h a0 1) ≤ a1.toNatClampNeg)) (gd (¬ ((a1 + (1 : Int32)) < 0 ∨ hL h (hR h a0 1) ≤ (a1 + (1 : Int32)).toNatClampNeg)) (gd (¬ ((a1 + (2 : Int32)) < 0 ∨ hL h (hR h a0 1) ≤ (a1 + (2 : Int32)).toNatClampNeg)) (hp (hIu (hIu (hIu h (hR h a0 1) a1.toNatClampNeg a2) (hR h a0 1) (a1 + (1 : Int32)).toNatClampNeg a3) (hR h a0 1) (a1 + (2 : Int32)).toNatClampNeg a4) (fun h16 => gd (hK h16 (hR h16 a0 1) = 12) (gd (¬ ((a1 + (3 : Int32)) < 0 ∨ hL h16 (hR h16 a0 1) ≤ (a1 + (3 : Int32)).toNatClampNeg)) (gd (¬ ((a1 + (4 : Int32)) < 0 ∨ hL h16 (hR h16 a0 1) ≤ (a1 + (4 : Int32)).toNatClampNeg)) (gd (¬ ((a1 + (5 : Int32)) < 0 ∨ hL h16 (hR h16 a0 1) ≤ (a1 + (5 : Int32)).toNatClampNeg)) (hp (hIu (hIu (hIu h16 (hR h16 a0 1) (a1 + (3 : Int32)).toNatClampNeg a5) (hR h16 a0 1) (a1 + (4 : Int32)).toNatClampNeg a6) (hR h16 a0 1) (a1 + (5 : Int32)).toNatClampNeg a7) (fun h23 => gd (hK h23 (hR h23 a0 1) = 12) (gd (¬ ((a1 + (6 : Int32)) < 0 ∨ hL h23 (hR h23 a0 1) ≤ (a1 + (6 : Int32)).toNatClampNeg)) (gd (¬ ((a1 + (7 : Int32)) < 0 ∨ hL h23 (hR h23 a0 1) ≤ (a1 + (7 : Int32)).toNatClampNeg)) (some ((), hIu (hIu h23 (hR h23 a0 1) (a1 + (6 : Int32)).toNatClampNeg a8) (hR h23 a0 1) (a1 + (7 : Int32)).toNatClampNeg a9)))))))))))))))
theorem t_Mo_spell {l : Launch} {z : xZ} {d mc ms : Nat} {Ph : Option xV → xH → Prop} {a0 : Nat} {a1 : Int32} {a2 : Int32} {a3 : Int32} {a4 : Int32} {a5 : Int32} {a6 : Int32} {a7 : Int32} {a8 : Int32} {a9 : Int32}  {h : xH} (hd : 1 ≤ d) (hk : OK (f_Mo_spell a0 a1 a2 a3 a4 a5 a6 a7 a8 a9 h) (fun q => Ph (none) q.2)) : Sx l z d mc ms M_Mo_spell 0 (x_en [xR a0, xI a1, xI a2, xI a3, xI a4, xI a5, xI a6, xI a7, xI a8, xI a9] 10) [] h Ph := by
  unfold f_Mo_spell at hk
  refine sx_eq (lc2 := [some (xR a0), some (xI a1), some (xI a2), some (xI a3), some (xI a4), some (xI a5), some (xI a6), some (xI a7), some (xI a8), some (xI a9)]) rfl rfl ?_
  refine sx_aload_n dc_Mo_spell_0 rfl ?_
  obtain ⟨g11, hk⟩ := hk.g
  refine sx_get (ci := 11) (k := 1) rfl (by decide) wF_Mo_13 g11 dc_Mo_spell_1 ?_
  refine sx_iload_n dc_Mo_spell_4 rfl ?_
  refine sx_iload_n dc_Mo_spell_5 rfl ?_
  obtain ⟨g12, hk⟩ := hk.g
  obtain ⟨g13, hk⟩ := hk.g
  refine sx_iast g12 g13 dc_Mo_spell_6 ?_
  refine sx_aload_n dc_Mo_spell_7 rfl ?_
  refine sx_get (ci := 11) (k := 1) rfl (by decide) wF_Mo_13 g11 dc_Mo_spell_8 ?_
  refine sx_iload_n dc_Mo_spell_11 rfl ?_
  refine sx_iconst (v := (1 : Int32)) dc_Mo_spell_12 (by decide) ?_
  refine sx_iadd dc_Mo_spell_13 ?_
  refine sx_iload_n dc_Mo_spell_14 rfl ?_
  obtain ⟨g14, hk⟩ := hk.g
  refine sx_iast g12 g14 dc_Mo_spell_15 ?_
  refine sx_aload_n dc_Mo_spell_16 rfl ?_
  refine sx_get (ci := 11) (k := 1) rfl (by decide) wF_Mo_13 g11 dc_Mo_spell_17 ?_
  refine sx_iload_n dc_Mo_spell_20 rfl ?_
  refine sx_iconst (v := (2 : Int32)) dc_Mo_spell_21 (by decide) ?_
  refine sx_iadd dc_Mo_spell_22 ?_
  refine sx_iload dc_Mo_spell_23 rfl ?_
  obtain ⟨g15, hk⟩ := hk.g
  refine sx_iast g12 g15 dc_Mo_spell_25 ?_
  obtain ⟨h16, eh16, hk⟩ := hk.h
  refine sx_hp eh16 ?_
  have g17 : hK h16 a0 = 11 := by rw [eh16]; exact g11
  have g18 : hK h16 (hR h a0 1) = 12 := by rw [eh16]; exact g12
  refine sx_aload_n dc_Mo_spell_26 rfl ?_
  refine sx_get (ci := 11) (k := 1) rfl (by decide) wF_Mo_13 g17 dc_Mo_spell_27 ?_
  refine sx_iload_n dc_Mo_spell_30 rfl ?_
  refine sx_iconst (v := (3 : Int32)) dc_Mo_spell_31 (by decide) ?_
  refine sx_iadd dc_Mo_spell_32 ?_
  refine sx_iload dc_Mo_spell_33 rfl ?_
  obtain ⟨g19, hk⟩ := hk.g
  obtain ⟨g20, hk⟩ := hk.g
  refine sx_iast g19 g20 dc_Mo_spell_35 ?_
  refine sx_aload_n dc_Mo_spell_36 rfl ?_
  refine sx_get (ci := 11) (k := 1) rfl (by decide) wF_Mo_13 g17 dc_Mo_spell_37 ?_
  refine sx_iload_n dc_Mo_spell_40 rfl ?_
  refine sx_iconst (v := (4 : Int32)) dc_Mo_spell_41 (by decide) ?_
  refine sx_iadd dc_Mo_spell_42 ?_
  refine sx_iload dc_Mo_spell_43 rfl ?_
  obtain ⟨g21, hk⟩ := hk.g
  refine sx_iast g19 g21 dc_Mo_spell_45 ?_
  refine sx_aload_n dc_Mo_spell_46 rfl ?_
  refine sx_get (ci := 11) (k := 1) rfl (by decide) wF_Mo_13 g17 dc_Mo_spell_47 ?_
  refine sx_iload_n dc_Mo_spell_50 rfl ?_
  refine sx_iconst (v := (5 : Int32)) dc_Mo_spell_51 (by decide) ?_
  refine sx_iadd dc_Mo_spell_52 ?_
  refine sx_iload dc_Mo_spell_53 rfl ?_
  obtain ⟨g22, hk⟩ := hk.g
  refine sx_iast g19 g22 dc_Mo_spell_55 ?_
  obtain ⟨h23, eh23, hk⟩ := hk.h
  refine sx_hp eh23 ?_
  have g24 : hK h23 a0 = 11 := by rw [eh23]; exact g17
  have g25 : hK h23 (hR h a0 1) = 12 := by rw [eh23]; exact g18
  have g26 : hK h23 (hR h16 a0 1) = 12 := by rw [eh23]; exact g19
  refine sx_aload_n dc_Mo_spell_56 rfl ?_
  refine sx_get (ci := 11) (k := 1) rfl (by decide) wF_Mo_13 g24 dc_Mo_spell_57 ?_
  refine sx_iload_n dc_Mo_spell_60 rfl ?_
  refine sx_bipush (v := (6 : Int32)) dc_Mo_spell_61 (by decide) ?_
  refine sx_iadd dc_Mo_spell_63 ?_
  refine sx_iload dc_Mo_spell_64 rfl ?_
  obtain ⟨g27, hk⟩ := hk.g
  obtain ⟨g28, hk⟩ := hk.g
  refine sx_iast g27 g28 dc_Mo_spell_66 ?_
  refine sx_aload_n dc_Mo_spell_67 rfl ?_
  refine sx_get (ci := 11) (k := 1) rfl (by decide) wF_Mo_13 g24 dc_Mo_spell_68 ?_
  refine sx_iload_n dc_Mo_spell_71 rfl ?_
  refine sx_bipush (v := (7 : Int32)) dc_Mo_spell_72 (by decide) ?_
  refine sx_iadd dc_Mo_spell_74 ?_
  refine sx_iload dc_Mo_spell_75 rfl ?_
  obtain ⟨g29, hk⟩ := hk.g
  refine sx_iast g27 g29 dc_Mo_spell_77 ?_
  exact sx_retV dc_Mo_spell_78 rfl hk.val

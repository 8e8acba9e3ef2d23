theorem dc_Ch_init_0 : decode M_Ch_init.2.1 0 = .ok (.aload_n 0, 1) := by decide +kernel
theorem dc_Ch_init_1 : decode M_Ch_init.2.1 1 = .ok (.invokespecial 1, 3) := by decide +kernel
theorem dc_Ch_init_4 : decode M_Ch_init.2.1 4 = .ok (.aload_n 0, 1) := by decide +kernel
theorem dc_Ch_init_5 : decode M_Ch_init.2.1 5 = .ok (.bipush 21, 2) := by decide +kernel
theorem dc_Ch_init_7 : decode M_Ch_init.2.1 7 = .ok (.newarray .int, 2) := by decide +kernel
theorem dc_Ch_init_9 : decode M_Ch_init.2.1 9 = .ok (.putfield 9, 3) := by decide +kernel
theorem dc_Ch_init_12 : decode M_Ch_init.2.1 12 = .ok (.aload_n 0, 1) := by decide +kernel
theorem dc_Ch_init_13 : decode M_Ch_init.2.1 13 = .ok (.aload_n 1, 1) := by decide +kernel
theorem dc_Ch_init_14 : decode M_Ch_init.2.1 14 = .ok (.putfield 15, 3) := by decide +kernel
theorem dc_Ch_init_17 : decode M_Ch_init.2.1 17 = .ok (.aload_n 0, 1) := by decide +kernel
theorem dc_Ch_init_18 : decode M_Ch_init.2.1 18 = .ok (.aload_n 2, 1) := by decide +kernel
theorem dc_Ch_init_19 : decode M_Ch_init.2.1 19 = .ok (.putfield 19, 3) := by decide +kernel
theorem dc_Ch_init_22 : decode M_Ch_init.2.1 22 = .ok (.return_, 1) := by decide +kernel
def f_Ch_init (a0 : Nat) (a1 : Nat) (a2 : Nat) (h : xH) : Option (Unit × xH) := gd (hK h a0 = 0) (hp (hNw h 12 21) (fun h4 => gd (hK h4 a0 = 0) (some ((), hRu (hRu (hRu h4 a0 2 (hN h)) a0 0 a1) a0 1 a2))))
theorem t_Ch_init {l : Launch} {z : xZ} {d mc ms : Nat} {Ph : Option xV → xH → Prop} {a0 : Nat} {a1 : Nat} {a2 : Nat}  {h : xH} (hd : 2 ≤ d) (hmc : 1 ≤ mc) (hms : 21 ≤ ms) (hk : OK (f_Ch_init a0 a1 a2 h) (fun q => Ph (none) q.2)) : Sx l z d mc ms M_Ch_init 0 (x_en [xR a0, xR a1, xR a2] 3) [] h Ph := by
  unfold f_Ch_init at hk
  refine sx_eq (lc2 := [some (xR a0), some (xR a1), some (xR a2)]) rfl rfl ?_
  refine sx_aload_n dc_Ch_init_0 rfl ?_
  obtain ⟨g3, hk⟩ := hk.g
  refine sx_objInit g3 (by decide) wM_Ch_1 wO wP (Nat.le_of_ble_eq_true rfl) (by omega) dc_Ch_init_1 ?_
  refine sx_aload_n dc_Ch_init_4 rfl ?_
  refine sx_bipush (v := (21 : Int32)) dc_Ch_init_5 (by decide) ?_
  refine sx_newI (N := 21) (by decide) (by decide) (by decide) wA_int dc_Ch_init_7 (by omega) (by omega) ?_
  obtain ⟨h4, eh4, hk⟩ := hk.h
  refine sx_hp eh4 ?_
  have g5 : hK h4 (hN h) = 12 := by rw [eh4]; exact (show hK (hNw h 12 21) (hN h) = 12 from if_pos rfl)
  obtain ⟨g6, hk⟩ := hk.g
  refine sx_putRF (ci := 0) (k := 2) rfl (by decide) wF_Ch_9 rfl (by rfl) rfl g6 rfl dc_Ch_init_9 ?_
  refine sx_aload_n dc_Ch_init_12 rfl ?_
  refine sx_aload_n dc_Ch_init_13 rfl ?_
  refine sx_putRF (ci := 0) (k := 0) rfl (by decide) wF_Ch_15 rfl (by rfl) rfl g6 rfl dc_Ch_init_14 ?_
  refine sx_aload_n dc_Ch_init_17 rfl ?_
  refine sx_aload_n dc_Ch_init_18 rfl ?_
  refine sx_putRF (ci := 0) (k := 1) rfl (by decide) wF_Ch_19 rfl (by rfl) rfl g6 rfl dc_Ch_init_19 ?_
  exact sx_retV dc_Ch_init_22 rfl hk.val
theorem dc_Ta_look_0 : decode M_Ta_look.2.1 0 = .ok (.aload_n 0, 1) := by decide +kernel
theorem dc_Ta_look_1 : decode M_Ta_look.2.1 1 = .ok (.getfield 25, 3) := by decide +kernel
theorem dc_Ta_look_4 : decode M_Ta_look.2.1 4 = .ok (.iload_n 1, 1) := by decide +kernel
theorem dc_Ta_look_5 : decode M_Ta_look.2.1 5 = .ok (.ishr, 1) := by decide +kernel
theorem dc_Ta_look_6 : decode M_Ta_look.2.1 6 = .ok (.iconst 1, 1) := by decide +kernel
theorem dc_Ta_look_7 : decode M_Ta_look.2.1 7 = .ok (.iand, 1) := by decide +kernel
theorem dc_Ta_look_8 : decode M_Ta_look.2.1 8 = .ok (.iconst 1, 1) := by decide +kernel
theorem dc_Ta_look_9 : decode M_Ta_look.2.1 9 = .ok (.if_icmp .ne 5, 3) := by decide +kernel
theorem dc_Ta_look_12 : decode M_Ta_look.2.1 12 = .ok (.iconst 1, 1) := by decide +kernel
theorem dc_Ta_look_13 : decode M_Ta_look.2.1 13 = .ok (.ireturn, 1) := by decide +kernel
theorem dc_Ta_look_14 : decode M_Ta_look.2.1 14 = .ok (.aload_n 0, 1) := by decide +kernel
theorem dc_Ta_look_15 : decode M_Ta_look.2.1 15 = .ok (.getfield 28, 3) := by decide +kernel
theorem dc_Ta_look_18 : decode M_Ta_look.2.1 18 = .ok (.iload_n 1, 1) := by decide +kernel
theorem dc_Ta_look_19 : decode M_Ta_look.2.1 19 = .ok (.ishr, 1) := by decide +kernel
theorem dc_Ta_look_20 : decode M_Ta_look.2.1 20 = .ok (.iconst 1, 1) := by decide +kernel
theorem dc_Ta_look_21 : decode M_Ta_look.2.1 21 = .ok (.iand, 1) := by decide +kernel
theorem dc_Ta_look_22 : decode M_Ta_look.2.1 22 = .ok (.iconst 1, 1) := by decide +kernel
theorem dc_Ta_look_23 : decode M_Ta_look.2.1 23 = .ok (.if_icmp .ne 7, 3) := by decide +kernel
theorem dc_Ta_look_26 : decode M_Ta_look.2.1 26 = .ok (.iconst 0, 1) := by decide +kernel
theorem dc_Ta_look_27 : decode M_Ta_look.2.1 27 = .ok (.goto 4, 3) := by decide +kernel
theorem dc_Ta_look_30 : decode M_Ta_look.2.1 30 = .ok (.iconst 2, 1) := by decide +kernel
theorem dc_Ta_look_31 : decode M_Ta_look.2.1 31 = .ok (.ireturn, 1) := by decide +kernel
def f_Ta_look (a0 : Nat) (a1 : Int32) (h : xH) : Option (Int32 × xH) := gd (hK h a0 = 6) (if ((jShr (hI h a0 2) a1) &&& (1 : Int32)) = (1 : Int32) then some ((1 : Int32), h) else some ((if ((jShr (hI h a0 3) a1) &&& (1 : Int32)) = (1 : Int32) then (0 : Int32) else (2 : Int32)), h))
theorem t_Ta_look {l : Launch} {z : xZ} {d mc ms : Nat} {Ph : Option xV → xH → Prop} {a0 : Nat} {a1 : Int32}  {h : xH} (hd : 1 ≤ d) (hk : OK (f_Ta_look a0 a1 h) (fun q => Ph (some (xI q.1)) q.2)) : Sx l z d mc ms M_Ta_look 0 (x_en [xR a0, xI a1] 2) [] h Ph := by
  unfold f_Ta_look at hk
  refine sx_eq (lc2 := [some (xR a0), some (xI a1)]) rfl rfl ?_
  refine sx_aload_n dc_Ta_look_0 rfl ?_
  obtain ⟨g2, hk⟩ := hk.g
  refine sx_get (ci := 6) (k := 2) rfl (by decide) wF_Ta_25 g2 dc_Ta_look_1 ?_
  refine sx_iload_n dc_Ta_look_4 rfl ?_
  refine sx_ishr dc_Ta_look_5 ?_
  refine sx_iconst (v := (1 : Int32)) dc_Ta_look_6 (by decide) ?_
  refine sx_iand dc_Ta_look_7 ?_
  refine sx_iconst (v := (1 : Int32)) dc_Ta_look_8 (by decide) ?_
  refine sx_icmp_ne (tgt := 14) dc_Ta_look_9 (by decide) (fun c3 => ?_) (fun c3 => ?_)
  · replace hk := hk.f c3
    refine sx_aload_n dc_Ta_look_14 rfl ?_
    refine sx_get (ci := 6) (k := 3) rfl (by decide) wF_Ta_28 g2 dc_Ta_look_15 ?_
    refine sx_iload_n dc_Ta_look_18 rfl ?_
    refine sx_ishr dc_Ta_look_19 ?_
    refine sx_iconst (v := (1 : Int32)) dc_Ta_look_20 (by decide) ?_
    refine sx_iand dc_Ta_look_21 ?_
    refine sx_iconst (v := (1 : Int32)) dc_Ta_look_22 (by decide) ?_
    refine sx_mg (pc2 := 31) (lc2 := [some (xR a0), some (xI a1)]) (st2 := [xI (if ((jShr (hI h a0 3) a1) &&& (1 : Int32)) = (1 : Int32) then (0 : Int32) else (2 : Int32))]) (h2 := h) ?_ (fun J4 => ?_)
    · exact sx_retI dc_Ta_look_31 rfl hk.val
    · refine sx_icmp_ne (tgt := 30) dc_Ta_look_23 (by decide) (fun c5 => ?_) (fun c5 => ?_)
      · try simp only [if_neg c5] at J4
        refine sx_iconst (v := (2 : Int32)) dc_Ta_look_30 (by decide) ?_
        exact J4
      · try simp only [if_pos c5] at J4
        refine sx_iconst (v := (0 : Int32)) dc_Ta_look_26 (by decide) ?_
        refine sx_goto (tgt := 31) dc_Ta_look_27 (by decide) ?_
        exact J4
  · replace hk := hk.t c3
    refine sx_iconst (v := (1 : Int32)) dc_Ta_look_12 (by decide) ?_
    exact sx_retI dc_Ta_look_13 rfl hk.val
theorem dc_Se_lower_0 : decode M_Se_lower.2.1 0 = .ok (.iload_n 1, 1) := by decide +kernel
theorem dc_Se_lower_1 : decode M_Se_lower.2.1 1 = .ok (.ifCond .lt 18, 3) := by decide +kernel
theorem dc_Se_lower_4 : decode M_Se_lower.2.1 4 = .ok (.iload_n 1, 1) := by decide +kernel
theorem dc_Se_lower_5 : decode M_Se_lower.2.1 5 = .ok (.bipush 21, 2) := by decide +kernel
theorem dc_Se_lower_7 : decode M_Se_lower.2.1 7 = .ok (.if_icmp .ge 12, 3) := by decide +kernel
theorem dc_Se_lower_10 : decode M_Se_lower.2.1 10 = .ok (.aload_n 0, 1) := by decide +kernel
theorem dc_Se_lower_11 : decode M_Se_lower.2.1 11 = .ok (.getfield 13, 3) := by decide +kernel
theorem dc_Se_lower_14 : decode M_Se_lower.2.1 14 = .ok (.iload_n 1, 1) := by decide +kernel
theorem dc_Se_lower_15 : decode M_Se_lower.2.1 15 = .ok (.iaload, 1) := by decide +kernel
theorem dc_Se_lower_16 : decode M_Se_lower.2.1 16 = .ok (.goto 4, 3) := by decide +kernel
theorem dc_Se_lower_19 : decode M_Se_lower.2.1 19 = .ok (.iconst 0, 1) := by decide +kernel
theorem dc_Se_lower_20 : decode M_Se_lower.2.1 20 = .ok (.ireturn, 1) := by decide +kernel
def f_Se_lower (a0 : Nat) (a1 : Int32) (h : xH) : Option (Int32 × xH) := jn (fun (x4 : Int32) => some (x4, h)) (fun k5 => jn (fun (x6 : Unit) => k5 (0 : Int32)) (fun k7 => if a1 < 0 then k7 () else if (21 : Int32) ≤ a1 then k7 () else gd (hK h a0 = 3) (gd (hK h (hR h a0 1) = 12) (gd (¬ (a1 < 0 ∨ hL h (hR h a0 1) ≤ a1.toNatClampNeg)) (k5 (hI h (hR h a0 1) a1.toNatClampNeg))))))
theorem t_Se_lower {l : Launch} {z : xZ} {d mc ms : Nat} {Ph : Option xV → xH → Prop} {a0 : Nat} {a1 : Int32}  {h : xH} (hd : 1 ≤ d) (hk : OK (f_Se_lower a0 a1 h) (fun q => Ph (some (xI q.1)) q.2)) : Sx l z d mc ms M_Se_lower 0 (x_en [xR a0, xI a1] 2) [] h Ph := by
  unfold f_Se_lower at hk
  refine sx_eq (lc2 := [some (xR a0), some (xI a1)]) rfl rfl ?_
  refine sx_iload_n dc_Se_lower_0 rfl ?_
  refine hk.j (X := fun x4 => Sx l z d mc ms M_Se_lower 20 [some (xR a0), some (xI a1)] [xI x4] h Ph) (fun x4 hk => ?_) (fun k5 jk5 hk => ?_)
  · exact sx_retI dc_Se_lower_20 rfl hk.val
  · refine hk.j (X := fun x6 => Sx l z d mc ms M_Se_lower 19 [some (xR a0), some (xI a1)] [] h Ph) (fun x6 hk => ?_) (fun k7 jk7 hk => ?_)
    · refine sx_iconst (v := (0 : Int32)) dc_Se_lower_19 (by decide) ?_
      exact jk5 (0 : Int32) hk
    · refine sx_if_lt (tgt := 19) dc_Se_lower_1 (by decide) (fun c8 => ?_) (fun c8 => ?_)
      · replace hk := hk.t c8
        exact jk7 () hk
      · replace hk := hk.f c8
        refine sx_iload_n dc_Se_lower_4 rfl ?_
        refine sx_bipush (v := (21 : Int32)) dc_Se_lower_5 (by decide) ?_
        refine sx_icmp_ge (tgt := 19) dc_Se_lower_7 (by decide) (fun c9 => ?_) (fun c9 => ?_)
        · replace hk := hk.t c9
          exact jk7 () hk
        · replace hk := hk.f c9
          refine sx_aload_n dc_Se_lower_10 rfl ?_
          obtain ⟨g10, hk⟩ := hk.g
          refine sx_get (ci := 3) (k := 1) rfl (by decide) wF_Se_13 g10 dc_Se_lower_11 ?_
          refine sx_iload_n dc_Se_lower_14 rfl ?_
          obtain ⟨g11, hk⟩ := hk.g
          obtain ⟨g12, hk⟩ := hk.g
          refine sx_iald g11 g12 dc_Se_lower_15 ?_
          refine sx_goto (tgt := 20) dc_Se_lower_16 (by decide) ?_
          exact jk5 (hI h (hR h a0 1) a1.toNatClampNeg) hk
theorem dc_Se_higher_0 : decode M_Se_higher.2.1 0 = .ok (.iload_n 1, 1) := by decide +kernel
theorem dc_Se_higher_1 : decode M_Se_higher.2.1 1 = .ok (.ifCond .lt 18, 3) := by decide +kernel
theorem dc_Se_higher_4 : decode M_Se_higher.2.1 4 = .ok (.iload_n 1, 1) := by decide +kernel
theorem dc_Se_higher_5 : decode M_Se_higher.2.1 5 = .ok (.bipush 21, 2) := by decide +kernel
theorem dc_Se_higher_7 : decode M_Se_higher.2.1 7 = .ok (.if_icmp .ge 12, 3) := by decide +kernel
theorem dc_Se_higher_10 : decode M_Se_higher.2.1 10 = .ok (.aload_n 0, 1) := by decide +kernel
theorem dc_Se_higher_11 : decode M_Se_higher.2.1 11 = .ok (.getfield 16, 3) := by decide +kernel
theorem dc_Se_higher_14 : decode M_Se_higher.2.1 14 = .ok (.iload_n 1, 1) := by decide +kernel
theorem dc_Se_higher_15 : decode M_Se_higher.2.1 15 = .ok (.iaload, 1) := by decide +kernel
theorem dc_Se_higher_16 : decode M_Se_higher.2.1 16 = .ok (.goto 4, 3) := by decide +kernel
theorem dc_Se_higher_19 : decode M_Se_higher.2.1 19 = .ok (.iconst 0, 1) := by decide +kernel
theorem dc_Se_higher_20 : decode M_Se_higher.2.1 20 = .ok (.ireturn, 1) := by decide +kernel
def f_Se_higher (a0 : Nat) (a1 : Int32) (h : xH) : Option (Int32 × xH) := jn (fun (x4 : Int32) => some (x4, h)) (fun k5 => jn (fun (x6 : Unit) => k5 (0 : Int32)) (fun k7 => if a1 < 0 then k7 () else if (21 : Int32) ≤ a1 then k7 () else gd (hK h a0 = 3) (gd (hK h (hR h a0 2) = 12) (gd (¬ (a1 < 0 ∨ hL h (hR h a0 2) ≤ a1.toNatClampNeg)) (k5 (hI h (hR h a0 2) a1.toNatClampNeg))))))
theorem t_Se_higher {l : Launch} {z : xZ} {d mc ms : Nat} {Ph : Option xV → xH → Prop} {a0 : Nat} {a1 : Int32}  {h : xH} (hd : 1 ≤ d) (hk : OK (f_Se_higher a0 a1 h) (fun q => Ph (some (xI q.1)) q.2)) : Sx l z d mc ms M_Se_higher 0 (x_en [xR a0, xI a1] 2) [] h Ph := by
  unfold f_Se_higher at hk
  refine sx_eq (lc2 := [some (xR a0), some (xI a1)]) rfl rfl ?_
  refine sx_iload_n dc_Se_higher_0 rfl ?_
  refine hk.j (X := fun x4 => Sx l z d mc ms M_Se_higher 20 [some (xR a0), some (xI a1)] [xI x4] h Ph) (fun x4 hk => ?_) (fun k5 jk5 hk => ?_)
  · exact sx_retI dc_Se_higher_20 rfl hk.val
  · refine hk.j (X := fun x6 => Sx l z d mc ms M_Se_higher 19 [some (xR a0), some (xI a1)] [] h Ph) (fun x6 hk => ?_) (fun k7 jk7 hk => ?_)
    · refine sx_iconst (v := (0 : Int32)) dc_Se_higher_19 (by decide) ?_
      exact jk5 (0 : Int32) hk
    · refine sx_if_lt (tgt := 19) dc_Se_higher_1 (by decide) (fun c8 => ?_) (fun c8 => ?_)
      · replace hk := hk.t c8
        exact jk7 () hk
      · replace hk := hk.f c8
        refine sx_iload_n dc_Se_higher_4 rfl ?_
        refine sx_bipush (v := (21 : Int32)) dc_Se_higher_5 (by decide) ?_
        refine sx_icmp_ge (tgt := 19) dc_Se_higher_7 (by decide) (fun c9 => ?_) (fun c9 => ?_)
        · replace hk := hk.t c9
          exact jk7 () hk
        · replace hk := hk.f c9
          refine sx_aload_n dc_Se_higher_10 rfl ?_
          obtain ⟨g10, hk⟩ := hk.g
          refine sx_get (ci := 3) (k := 2) rfl (by decide) wF_Se_16 g10 dc_Se_higher_11 ?_
          refine sx_iload_n dc_Se_higher_14 rfl ?_
          obtain ⟨g11, hk⟩ := hk.g
          obtain ⟨g12, hk⟩ := hk.g
          refine sx_iald g11 g12 dc_Se_higher_15 ?_
          refine sx_goto (tgt := 20) dc_Se_higher_16 (by decide) ?_
          exact jk5 (hI h (hR h a0 2) a1.toNatClampNeg) hk
theorem dc_Ru_name_0 : decode M_Ru_name.2.1 0 = .ok (.aload_n 0, 1) := by decide +kernel
theorem dc_Ru_name_1 : decode M_Ru_name.2.1 1 = .ok (.getfield 9, 3) := by decide +kernel
theorem dc_Ru_name_4 : decode M_Ru_name.2.1 4 = .ok (.iconst 0, 1) := by decide +kernel
theorem dc_Ru_name_5 : decode M_Ru_name.2.1 5 = .ok (.iload_n 1, 1) := by decide +kernel
theorem dc_Ru_name_6 : decode M_Ru_name.2.1 6 = .ok (.iastore, 1) := by decide +kernel
theorem dc_Ru_name_7 : decode M_Ru_name.2.1 7 = .ok (.aload_n 0, 1) := by decide +kernel
theorem dc_Ru_name_8 : decode M_Ru_name.2.1 8 = .ok (.getfield 9, 3) := by decide +kernel
theorem dc_Ru_name_11 : decode M_Ru_name.2.1 11 = .ok (.iconst 1, 1) := by decide +kernel
theorem dc_Ru_name_12 : decode M_Ru_name.2.1 12 = .ok (.iload_n 2, 1) := by decide +kernel
theorem dc_Ru_name_13 : decode M_Ru_name.2.1 13 = .ok (.iastore, 1) := by decide +kernel
theorem dc_Ru_name_14 : decode M_Ru_name.2.1 14 = .ok (.aload_n 0, 1) := by decide +kernel
theorem dc_Ru_name_15 : decode M_Ru_name.2.1 15 = .ok (.getfield 9, 3) := by decide +kernel
theorem dc_Ru_name_18 : decode M_Ru_name.2.1 18 = .ok (.iconst 2, 1) := by decide +kernel
theorem dc_Ru_name_19 : decode M_Ru_name.2.1 19 = .ok (.iload_n 3, 1) := by decide +kernel
theorem dc_Ru_name_20 : decode M_Ru_name.2.1 20 = .ok (.iastore, 1) := by decide +kernel
theorem dc_Ru_name_21 : decode M_Ru_name.2.1 21 = .ok (.aload_n 0, 1) := by decide +kernel
theorem dc_Ru_name_22 : decode M_Ru_name.2.1 22 = .ok (.getfield 9, 3) := by decide +kernel
theorem dc_Ru_name_25 : decode M_Ru_name.2.1 25 = .ok (.iconst 3, 1) := by decide +kernel
theorem dc_Ru_name_26 : decode M_Ru_name.2.1 26 = .ok (.iload 4, 2) := by decide +kernel
theorem dc_Ru_name_28 : decode M_Ru_name.2.1 28 = .ok (.iastore, 1) := by decide +kernel
theorem dc_Ru_name_29 : decode M_Ru_name.2.1 29 = .ok (.aload_n 0, 1) := by decide +kernel
theorem dc_Ru_name_30 : decode M_Ru_name.2.1 30 = .ok (.getfield 9, 3) := by decide +kernel
theorem dc_Ru_name_33 : decode M_Ru_name.2.1 33 = .ok (.iconst 4, 1) := by decide +kernel
theorem dc_Ru_name_34 : decode M_Ru_name.2.1 34 = .ok (.iload 5, 2) := by decide +kernel
theorem dc_Ru_name_36 : decode M_Ru_name.2.1 36 = .ok (.iastore, 1) := by decide +kernel
theorem dc_Ru_name_37 : decode M_Ru_name.2.1 37 = .ok (.aload_n 0, 1) := by decide +kernel
theorem dc_Ru_name_38 : decode M_Ru_name.2.1 38 = .ok (.getfield 9, 3) := by decide +kernel
theorem dc_Ru_name_41 : decode M_Ru_name.2.1 41 = .ok (.iconst 5, 1) := by decide +kernel
theorem dc_Ru_name_42 : decode M_Ru_name.2.1 42 = .ok (.aload_n 0, 1) := by decide +kernel
theorem dc_Ru_name_43 : decode M_Ru_name.2.1 43 = .ok (.getfield 20, 3) := by decide +kernel
theorem dc_Ru_name_46 : decode M_Ru_name.2.1 46 = .ok (.getfield 71, 3) := by decide +kernel
theorem dc_Ru_name_49 : decode M_Ru_name.2.1 49 = .ok (.iastore, 1) := by decide +kernel
theorem dc_Ru_name_50 : decode M_Ru_name.2.1 50 = .ok (.return_, 1) := by decide +kernel
def f_Ru_name (a0 : Nat) (a1 : Int32) (a2 : Int32) (a3 : Int32) (a4 : Int32) (a5 : Int32) (h : xH) : Option (Unit × xH) := gd (hK h a0 = 2) (gd (hK h (hR h a0 2) = 12) (gd (¬ ((0 : Int32) < 0 ∨ hL h (hR h a0 2) ≤ (0 : Int32).toNatClampNeg)) (gd (¬ ((1 : Int32) < 0 ∨ hL h (hR h a0 2) ≤ (1 : Int32).toNatClampNeg)) (gd (¬ ((2 : Int32) < 0 ∨ hL h (hR h a0 2) ≤ (2 : Int32).toNatClampNeg)) (gd (¬ ((3 : Int32) < 0 ∨ hL h (hR h a0 2) ≤ (3 : Int32).toNatClampNeg)) (hp (hIu (hIu (hIu (hIu h (hR h a0 2) (0 : Int32).toNatClampNeg a1) (hR h a0 2) (1 : Int32).toNatClampNeg a2) (hR h a0 2) (2 : Int32).toNatClampNeg a3) (hR h a0 2) (3 : Int32).toNatClampNeg a4) (fun h16 => gd (hK h16 (hR h16 a0 2) = 12) (gd (¬ ((4 : Int32) < 0 ∨ hL h16 (hR h16 a0 2) ≤ (4 : Int32).toNatClampNeg)) (gd (hK h16 (hR h16 a0 1) = 6) (gd (¬ ((5 : Int32) < 0 ∨ hL h16 (hR h16 a0 2) ≤ (5 : Int32).toNatClampNeg)) (hp (hIu (hIu h16 (hR h16 a0 2) (4 : Int32).toNatClampNeg a5) (hR h16 a0 2) (5 : Int32).toNatClampNeg (hI (hIu h16 (hR h16 a0 2) (4 : Int32).toNatClampNeg a5) (hR h16 a0 1) 1)) (fun h23 => some ((), h23)))))))))))))
theorem t_Ru_name {l : Launch} {z : xZ} {d mc ms : Nat} {Ph : Option xV → xH → Prop} {a0 : Nat} {a1 : Int32} {a2 : Int32} {a3 : Int32} {a4 : Int32} {a5 : Int32}  {h : xH} (hd : 1 ≤ d) (hk : OK (f_Ru_name a0 a1 a2 a3 a4 a5 h) (fun q => Ph (none) q.2)) : Sx l z d mc ms M_Ru_name 0 (x_en [xR a0, xI a1, xI a2, xI a3, xI a4, xI a5] 6) [] h Ph := by
  unfold f_Ru_name at hk
  refine sx_eq (lc2 := [some (xR a0), some (xI a1), some (xI a2), some (xI a3), some (xI a4), some (xI a5)]) rfl rfl ?_
  refine sx_aload_n dc_Ru_name_0 rfl ?_
  obtain ⟨g10, hk⟩ := hk.g
  refine sx_get (ci := 2) (k := 2) rfl (by decide) wF_Ru_9 g10 dc_Ru_name_1 ?_
  refine sx_iconst (v := (0 : Int32)) dc_Ru_name_4 (by decide) ?_
  refine sx_iload_n dc_Ru_name_5 rfl ?_
  obtain ⟨g11, hk⟩ := hk.g
  obtain ⟨g12, hk⟩ := hk.g
  refine sx_iast g11 g12 dc_Ru_name_6 ?_
  refine sx_aload_n dc_Ru_name_7 rfl ?_
  refine sx_get (ci := 2) (k := 2) rfl (by decide) wF_Ru_9 g10 dc_Ru_name_8 ?_
  refine sx_iconst (v := (1 : Int32)) dc_Ru_name_11 (by decide) ?_
  refine sx_iload_n dc_Ru_name_12 rfl ?_
  obtain ⟨g13, hk⟩ := hk.g
  refine sx_iast g11 g13 dc_Ru_name_13 ?_
  refine sx_aload_n dc_Ru_name_14 rfl ?_
  refine sx_get (ci := 2) (k := 2) rfl (by decide) wF_Ru_9 g10 dc_Ru_name_15 ?_
  refine sx_iconst (v := (2 : Int32)) dc_Ru_name_18 (by decide) ?_
  refine sx_iload_n dc_Ru_name_19 rfl ?_
  obtain ⟨g14, hk⟩ := hk.g
  refine sx_iast g11 g14 dc_Ru_name_20 ?_
  refine sx_aload_n dc_Ru_name_21 rfl ?_
  refine sx_get (ci := 2) (k := 2) rfl (by decide) wF_Ru_9 g10 dc_Ru_name_22 ?_
  refine sx_iconst (v := (3 : Int32)) dc_Ru_name_25 (by decide) ?_
  refine sx_iload dc_Ru_name_26 rfl ?_
  obtain ⟨g15, hk⟩ := hk.g
  refine sx_iast g11 g15 dc_Ru_name_28 ?_
  obtain ⟨h16, eh16, hk⟩ := hk.h
  refine sx_hp eh16 ?_
  have g17 : hK h16 a0 = 2 := by rw [eh16]; exact g10
  have g18 : hK h16 (hR h a0 2) = 12 := by rw [eh16]; exact g11
  refine sx_aload_n dc_Ru_name_29 rfl ?_
  refine sx_get (ci := 2) (k := 2) rfl (by decide) wF_Ru_9 g17 dc_Ru_name_30 ?_
  refine sx_iconst (v := (4 : Int32)) dc_Ru_name_33 (by decide) ?_
  refine sx_iload dc_Ru_name_34 rfl ?_
  obtain ⟨g19, hk⟩ := hk.g
  obtain ⟨g20, hk⟩ := hk.g
  refine sx_iast g19 g20 dc_Ru_name_36 ?_
  refine sx_aload_n dc_Ru_name_37 rfl ?_
  refine sx_get (ci := 2) (k := 2) rfl (by decide) wF_Ru_9 g17 dc_Ru_name_38 ?_
  refine sx_iconst (v := (5 : Int32)) dc_Ru_name_41 (by decide) ?_
  refine sx_aload_n dc_Ru_name_42 rfl ?_
  refine sx_get (ci := 2) (k := 1) rfl (by decide) wF_Ru_20 g17 dc_Ru_name_43 ?_
  obtain ⟨g21, hk⟩ := hk.g
  refine sx_get (ci := 6) (k := 1) rfl (by decide) wF_Ru_71 g21 dc_Ru_name_46 ?_
  obtain ⟨g22, hk⟩ := hk.g
  refine sx_iast g19 g22 dc_Ru_name_49 ?_
  obtain ⟨h23, eh23, hk⟩ := hk.h
  refine sx_hp eh23 ?_
  have g24 : hK h23 a0 = 2 := by rw [eh23]; exact g17
  have g25 : hK h23 (hR h a0 2) = 12 := by rw [eh23]; exact g18
  have g26 : hK h23 (hR h16 a0 2) = 12 := by rw [eh23]; exact g19
  have g27 : hK h23 (hR h16 a0 1) = 6 := by rw [eh23]; exact g21
  exact sx_retV dc_Ru_name_50 rfl hk.val
theorem dc_Te_end_0 : decode M_Te_end.2.1 0 = .ok (.iload_n 1, 1) := by decide +kernel
theorem dc_Te_end_1 : decode M_Te_end.2.1 1 = .ok (.ifCond .lt 21, 3) := by decide +kernel
theorem dc_Te_end_4 : decode M_Te_end.2.1 4 = .ok (.iload_n 1, 1) := by decide +kernel
theorem dc_Te_end_5 : decode M_Te_end.2.1 5 = .ok (.aload_n 0, 1) := by decide +kernel
theorem dc_Te_end_6 : decode M_Te_end.2.1 6 = .ok (.getfield 13, 3) := by decide +kernel
theorem dc_Te_end_9 : decode M_Te_end.2.1 9 = .ok (.arraylength, 1) := by decide +kernel
theorem dc_Te_end_10 : decode M_Te_end.2.1 10 = .ok (.if_icmp .ge 12, 3) := by decide +kernel
theorem dc_Te_end_13 : decode M_Te_end.2.1 13 = .ok (.aload_n 0, 1) := by decide +kernel
theorem dc_Te_end_14 : decode M_Te_end.2.1 14 = .ok (.getfield 13, 3) := by decide +kernel
theorem dc_Te_end_17 : decode M_Te_end.2.1 17 = .ok (.iload_n 1, 1) := by decide +kernel
theorem dc_Te_end_18 : decode M_Te_end.2.1 18 = .ok (.iaload, 1) := by decide +kernel
theorem dc_Te_end_19 : decode M_Te_end.2.1 19 = .ok (.goto 4, 3) := by decide +kernel
theorem dc_Te_end_22 : decode M_Te_end.2.1 22 = .ok (.iconst 0, 1) := by decide +kernel
theorem dc_Te_end_23 : decode M_Te_end.2.1 23 = .ok (.ireturn, 1) := by decide +kernel
def f_Te_end (a0 : Nat) (a1 : Int32) (h : xH) : Option (Int32 × xH) := jn (fun (x4 : Int32) => some (x4, h)) (fun k5 => jn (fun (x6 : Unit) => k5 (0 : Int32)) (fun k7 => if a1 < 0 then k7 () else gd (hK h a0 = 7) (gd (hK h (hR h a0 1) = 12) (if (Int32.ofNat (hL h (hR h a0 1))) ≤ a1 then k7 () else gd (¬ (a1 < 0 ∨ hL h (hR h a0 1) ≤ a1.toNatClampNeg)) (k5 (hI h (hR h a0 1) a1.toNatClampNeg))))))
theorem t_Te_end {l : Launch} {z : xZ} {d mc ms : Nat} {Ph : Option xV → xH → Prop} {a0 : Nat} {a1 : Int32}  {h : xH} (hd : 1 ≤ d) (hk : OK (f_Te_end a0 a1 h) (fun q => Ph (some (xI q.1)) q.2)) : Sx l z d mc ms M_Te_end 0 (x_en [xR a0, xI a1] 2) [] h Ph := by
  unfold f_Te_end at hk
  refine sx_eq (lc2 := [some (xR a0), some (xI a1)]) rfl rfl ?_
  refine sx_iload_n dc_Te_end_0 rfl ?_
  refine hk.j (X := fun x4 => Sx l z d mc ms M_Te_end 23 [some (xR a0), some (xI a1)] [xI x4] h Ph) (fun x4 hk => ?_) (fun k5 jk5 hk => ?_)
  · exact sx_retI dc_Te_end_23 rfl hk.val
  · refine hk.j (X := fun x6 => Sx l z d mc ms M_Te_end 22 [some (xR a0), some (xI a1)] [] h Ph) (fun x6 hk => ?_) (fun k7 jk7 hk => ?_)
    · refine sx_iconst (v := (0 : Int32)) dc_Te_end_22 (by decide) ?_
      exact jk5 (0 : Int32) hk
    · refine sx_if_lt (tgt := 22) dc_Te_end_1 (by decide) (fun c8 => ?_) (fun c8 => ?_)
      · replace hk := hk.t c8
        exact jk7 () hk
      · replace hk := hk.f c8
        refine sx_iload_n dc_Te_end_4 rfl ?_
        refine sx_aload_n dc_Te_end_5 rfl ?_
        obtain ⟨g9, hk⟩ := hk.g
        refine sx_get (ci := 7) (k := 1) rfl (by decide) wF_Te_13 g9 dc_Te_end_6 ?_
        obtain ⟨g10, hk⟩ := hk.g
        refine sx_alen g10 (by decide) dc_Te_end_9 ?_
        refine sx_icmp_ge (tgt := 22) dc_Te_end_10 (by decide) (fun c11 => ?_) (fun c11 => ?_)
        · replace hk := hk.t c11
          exact jk7 () hk
        · replace hk := hk.f c11
          refine sx_aload_n dc_Te_end_13 rfl ?_
          refine sx_get (ci := 7) (k := 1) rfl (by decide) wF_Te_13 g9 dc_Te_end_14 ?_
          refine sx_iload_n dc_Te_end_17 rfl ?_
          obtain ⟨g12, hk⟩ := hk.g
          refine sx_iald g10 g12 dc_Te_end_18 ?_
          refine sx_goto (tgt := 23) dc_Te_end_19 (by decide) ?_
          exact jk5 (hI h (hR h a0 1) a1.toNatClampNeg) hk
theorem dc_Te_begin_0 : decode M_Te_begin.2.1 0 = .ok (.iload_n 1, 1) := by decide +kernel
theorem dc_Te_begin_1 : decode M_Te_begin.2.1 1 = .ok (.ifCond .le 13, 3) := by decide +kernel
theorem dc_Te_begin_4 : decode M_Te_begin.2.1 4 = .ok (.aload_n 0, 1) := by decide +kernel
theorem dc_Te_begin_5 : decode M_Te_begin.2.1 5 = .ok (.iload_n 1, 1) := by decide +kernel
theorem dc_Te_begin_6 : decode M_Te_begin.2.1 6 = .ok (.iconst 1, 1) := by decide +kernel
theorem dc_Te_begin_7 : decode M_Te_begin.2.1 7 = .ok (.isub, 1) := by decide +kernel
theorem dc_Te_begin_8 : decode M_Te_begin.2.1 8 = .ok (.invokevirtual 16, 3) := by decide +kernel
theorem dc_Te_begin_11 : decode M_Te_begin.2.1 11 = .ok (.goto 4, 3) := by decide +kernel
theorem dc_Te_begin_14 : decode M_Te_begin.2.1 14 = .ok (.iconst 0, 1) := by decide +kernel
theorem dc_Te_begin_15 : decode M_Te_begin.2.1 15 = .ok (.ireturn, 1) := by decide +kernel
def f_Te_begin (a0 : Nat) (a1 : Int32) (h : xH) : Option (Int32 × xH) := jn (fun (x3 : Int32 × xH) => some (x3.1, x3.2)) (fun k4 => if a1 ≤ 0 then k4 ((0 : Int32), h) else gd (hK h a0 = 7) (Option.bind (f_Te_end a0 (a1 - (1 : Int32)) h) (fun q6 => k4 (q6.1, q6.2))))
theorem t_Te_begin {l : Launch} {z : xZ} {d mc ms : Nat} {Ph : Option xV → xH → Prop} {a0 : Nat} {a1 : Int32}  {h : xH} (hd : 2 ≤ d) (hk : OK (f_Te_begin a0 a1 h) (fun q => Ph (some (xI q.1)) q.2)) : Sx l z d mc ms M_Te_begin 0 (x_en [xR a0, xI a1] 2) [] h Ph := by
  unfold f_Te_begin at hk
  refine sx_eq (lc2 := [some (xR a0), some (xI a1)]) rfl rfl ?_
  refine sx_iload_n dc_Te_begin_0 rfl ?_
  refine hk.j (X := fun x3 => Sx l z d mc ms M_Te_begin 15 [some (xR a0), some (xI a1)] [xI x3.1] x3.2 Ph) (fun x3 hk => ?_) (fun k4 jk4 hk => ?_)
  · exact sx_retI dc_Te_begin_15 rfl hk.val
  · refine sx_if_le (tgt := 14) dc_Te_begin_1 (by decide) (fun c5 => ?_) (fun c5 => ?_)
    · replace hk := hk.t c5
      refine sx_iconst (v := (0 : Int32)) dc_Te_begin_14 (by decide) ?_
      exact jk4 ((0 : Int32), h) hk
    · replace hk := hk.f c5
      refine sx_aload_n dc_Te_begin_4 rfl ?_
      refine sx_iload_n dc_Te_begin_5 rfl ?_
      refine sx_iconst (v := (1 : Int32)) dc_Te_begin_6 (by decide) ?_
      refine sx_isub dc_Te_begin_7 ?_
      obtain ⟨g7, hk⟩ := hk.g
      obtain ⟨q6, eq6, hk⟩ := hk.bind
      refine sx_callV (d2 := d - 1) (mc2 := 0) (ms2 := 0) (as := [xI (a1 - (1 : Int32))]) mk_Te_end rfl (x_rk (ci := 7) g7 rfl rfl) wM_Te_16 mi_Te_end me_Te_end rfl (Nat.le_of_ble_eq_true rfl) (Nat.le_of_ble_eq_true rfl) dc_Te_begin_8 (by omega) (Nat.zero_le _) (Nat.zero_le _) ?_
      refine t_Te_end (by omega) ⟨q6, eq6, ?_⟩
      refine sx_eq0 (lc2 := [some (xR a0), some (xI a1)]) (st2 := [xI q6.1]) rfl rfl ?_
      refine sx_goto (tgt := 15) dc_Te_begin_11 (by decide) ?_
      exact jk4 (q6.1, q6.2) hk
theorem dc_Te_code_0 : decode M_Te_code.2.1 0 = .ok (.iload_n 1, 1) := by decide +kernel
theorem dc_Te_code_1 : decode M_Te_code.2.1 1 = .ok (.ifCond .lt 21, 3) := by decide +kernel
theorem dc_Te_code_4 : decode M_Te_code.2.1 4 = .ok (.iload_n 1, 1) := by decide +kernel
theorem dc_Te_code_5 : decode M_Te_code.2.1 5 = .ok (.aload_n 0, 1) := by decide +kernel
theorem dc_Te_code_6 : decode M_Te_code.2.1 6 = .ok (.getfield 7, 3) := by decide +kernel
theorem dc_Te_code_9 : decode M_Te_code.2.1 9 = .ok (.arraylength, 1) := by decide +kernel
theorem dc_Te_code_10 : decode M_Te_code.2.1 10 = .ok (.if_icmp .ge 12, 3) := by decide +kernel
theorem dc_Te_code_13 : decode M_Te_code.2.1 13 = .ok (.aload_n 0, 1) := by decide +kernel
theorem dc_Te_code_14 : decode M_Te_code.2.1 14 = .ok (.getfield 7, 3) := by decide +kernel
theorem dc_Te_code_17 : decode M_Te_code.2.1 17 = .ok (.iload_n 1, 1) := by decide +kernel
theorem dc_Te_code_18 : decode M_Te_code.2.1 18 = .ok (.iaload, 1) := by decide +kernel
theorem dc_Te_code_19 : decode M_Te_code.2.1 19 = .ok (.goto 4, 3) := by decide +kernel
theorem dc_Te_code_22 : decode M_Te_code.2.1 22 = .ok (.iconst 0, 1) := by decide +kernel
theorem dc_Te_code_23 : decode M_Te_code.2.1 23 = .ok (.ireturn, 1) := by decide +kernel
def f_Te_code (a0 : Nat) (a1 : Int32) (h : xH) : Option (Int32 × xH) := jn (fun (x4 : Int32) => some (x4, h)) (fun k5 => jn (fun (x6 : Unit) => k5 (0 : Int32)) (fun k7 => if a1 < 0 then k7 () else gd (hK h a0 = 7) (gd (hK h (hR h a0 0) = 12) (if (Int32.ofNat (hL h (hR h a0 0))) ≤ a1 then k7 () else gd (¬ (a1 < 0 ∨ hL h (hR h a0 0) ≤ a1.toNatClampNeg)) (k5 (hI h (hR h a0 0) a1.toNatClampNeg))))))
theorem t_Te_code {l : Launch} {z : xZ} {d mc ms : Nat} {Ph : Option xV → xH → Prop} {a0 : Nat} {a1 : Int32}  {h : xH} (hd : 1 ≤ d) (hk : OK (f_Te_code a0 a1 h) (fun q => Ph (some (xI q.1)) q.2)) : Sx l z d mc ms M_Te_code 0 (x_en [xR a0, xI a1] 2) [] h Ph := by
  unfold f_Te_code at hk
  refine sx_eq (lc2 := [some (xR a0), some (xI a1)]) rfl rfl ?_
  refine sx_iload_n dc_Te_code_0 rfl ?_
  refine hk.j (X := fun x4 => Sx l z d mc ms M_Te_code 23 [some (xR a0), some (xI a1)] [xI x4] h Ph) (fun x4 hk => ?_) (fun k5 jk5 hk => ?_)
  · exact sx_retI dc_Te_code_23 rfl hk.val
  · refine hk.j (X := fun x6 => Sx l z d mc ms M_Te_code 22 [some (xR a0), some (xI a1)] [] h Ph) (fun x6 hk => ?_) (fun k7 jk7 hk => ?_)
    · refine sx_iconst (v := (0 : Int32)) dc_Te_code_22 (by decide) ?_
      exact jk5 (0 : Int32) hk
    · refine sx_if_lt (tgt := 22) dc_Te_code_1 (by decide) (fun c8 => ?_) (fun c8 => ?_)
      · replace hk := hk.t c8
        exact jk7 () hk
      · replace hk := hk.f c8
        refine sx_iload_n dc_Te_code_4 rfl ?_
        refine sx_aload_n dc_Te_code_5 rfl ?_
        obtain ⟨g9, hk⟩ := hk.g
        refine sx_get (ci := 7) (k := 0) rfl (by decide) wF_Te_7 g9 dc_Te_code_6 ?_
        obtain ⟨g10, hk⟩ := hk.g
        refine sx_alen g10 (by decide) dc_Te_code_9 ?_
        refine sx_icmp_ge (tgt := 22) dc_Te_code_10 (by decide) (fun c11 => ?_) (fun c11 => ?_)
        · replace hk := hk.t c11
          exact jk7 () hk
        · replace hk := hk.f c11
          refine sx_aload_n dc_Te_code_13 rfl ?_
          refine sx_get (ci := 7) (k := 0) rfl (by decide) wF_Te_7 g9 dc_Te_code_14 ?_
          refine sx_iload_n dc_Te_code_17 rfl ?_
          obtain ⟨g12, hk⟩ := hk.g
          refine sx_iald g10 g12 dc_Te_code_18 ?_
          refine sx_goto (tgt := 23) dc_Te_code_19 (by decide) ?_
          exact jk5 (hI h (hR h a0 0) a1.toNatClampNeg) hk
theorem dc_Ru_push_0 : decode M_Ru_push.2.1 0 = .ok (.aload_n 0, 1) := by decide +kernel
theorem dc_Ru_push_1 : decode M_Ru_push.2.1 1 = .ok (.getfield 75, 3) := by decide +kernel
theorem dc_Ru_push_4 : decode M_Ru_push.2.1 4 = .ok (.ifCond .lt 29, 3) := by decide +kernel
theorem dc_Ru_push_7 : decode M_Ru_push.2.1 7 = .ok (.aload_n 0, 1) := by decide +kernel
theorem dc_Ru_push_8 : decode M_Ru_push.2.1 8 = .ok (.getfield 75, 3) := by decide +kernel
theorem dc_Ru_push_11 : decode M_Ru_push.2.1 11 = .ok (.bipush 40, 2) := by decide +kernel
theorem dc_Ru_push_13 : decode M_Ru_push.2.1 13 = .ok (.if_icmp .ge 20, 3) := by decide +kernel
theorem dc_Ru_push_16 : decode M_Ru_push.2.1 16 = .ok (.aload_n 0, 1) := by decide +kernel
theorem dc_Ru_push_17 : decode M_Ru_push.2.1 17 = .ok (.getfield 13, 3) := by decide +kernel
theorem dc_Ru_push_20 : decode M_Ru_push.2.1 20 = .ok (.aload_n 0, 1) := by decide +kernel
theorem dc_Ru_push_21 : decode M_Ru_push.2.1 21 = .ok (.dup, 1) := by decide +kernel
theorem dc_Ru_push_22 : decode M_Ru_push.2.1 22 = .ok (.getfield 75, 3) := by decide +kernel
theorem dc_Ru_push_25 : decode M_Ru_push.2.1 25 = .ok (.dup_x1, 1) := by decide +kernel
theorem dc_Ru_push_26 : decode M_Ru_push.2.1 26 = .ok (.iconst 1, 1) := by decide +kernel
theorem dc_Ru_push_27 : decode M_Ru_push.2.1 27 = .ok (.iadd, 1) := by decide +kernel
theorem dc_Ru_push_28 : decode M_Ru_push.2.1 28 = .ok (.putfield 75, 3) := by decide +kernel
theorem dc_Ru_push_31 : decode M_Ru_push.2.1 31 = .ok (.iload_n 1, 1) := by decide +kernel
theorem dc_Ru_push_32 : decode M_Ru_push.2.1 32 = .ok (.iastore, 1) := by decide +kernel
theorem dc_Ru_push_33 : decode M_Ru_push.2.1 33 = .ok (.return_, 1) := by decide +kernel
def f_Ru_push (a0 : Nat) (a1 : Int32) (h : xH) : Option (Unit × xH) := gd (hK h a0 = 2) (jn (fun (x5 : xH) => some ((), x5)) (fun k6 => if (hI h a0 4) < 0 then k6 h else if (40 : Int32) ≤ (hI h a0 4) then k6 h else gd (hK h (hR h a0 3) = 12) (gd (¬ ((hI h a0 4) < 0 ∨ hL h (hR h a0 3) ≤ (hI h a0 4).toNatClampNeg)) (k6 (hIu (hIu h a0 4 ((hI h a0 4) + (1 : Int32))) (hR h a0 3) (hI h a0 4).toNatClampNeg a1)))))
theorem t_Ru_push {l : Launch} {z : xZ} {d mc ms : Nat} {Ph : Option xV → xH → Prop} {a0 : Nat} {a1 : Int32}  {h : xH} (hd : 1 ≤ d) (hk : OK (f_Ru_push a0 a1 h) (fun q => Ph (none) q.2)) : Sx l z d mc ms M_Ru_push 0 (x_en [xR a0, xI a1] 2) [] h Ph := by
  unfold f_Ru_push at hk
  refine sx_eq (lc2 := [some (xR a0), some (xI a1)]) rfl rfl ?_
  refine sx_aload_n dc_Ru_push_0 rfl ?_
  obtain ⟨g4, hk⟩ := hk.g
  refine sx_get (ci := 2) (k := 4) rfl (by decide) wF_Ru_75 g4 dc_Ru_push_1 ?_
  refine hk.j (X := fun x5 => Sx l z d mc ms M_Ru_push 33 [some (xR a0), some (xI a1)] [] x5 Ph) (fun x5 hk => ?_) (fun k6 jk6 hk => ?_)
  · exact sx_retV dc_Ru_push_33 rfl hk.val
  · refine sx_if_lt (tgt := 33) dc_Ru_push_4 (by decide) (fun c7 => ?_) (fun c7 => ?_)
    · replace hk := hk.t c7
      exact jk6 h hk
    · replace hk := hk.f c7
      refine sx_aload_n dc_Ru_push_7 rfl ?_
      refine sx_get (ci := 2) (k := 4) rfl (by decide) wF_Ru_75 g4 dc_Ru_push_8 ?_
      refine sx_bipush (v := (40 : Int32)) dc_Ru_push_11 (by decide) ?_
      refine sx_icmp_ge (tgt := 33) dc_Ru_push_13 (by decide) (fun c8 => ?_) (fun c8 => ?_)
      · replace hk := hk.t c8
        exact jk6 h hk
      · replace hk := hk.f c8
        refine sx_aload_n dc_Ru_push_16 rfl ?_
        refine sx_get (ci := 2) (k := 3) rfl (by decide) wF_Ru_13 g4 dc_Ru_push_17 ?_
        refine sx_aload_n dc_Ru_push_20 rfl ?_
        refine sx_dup dc_Ru_push_21 rfl ?_
        refine sx_get (ci := 2) (k := 4) rfl (by decide) wF_Ru_75 g4 dc_Ru_push_22 ?_
        refine sx_dup_x1 dc_Ru_push_25 rfl rfl ?_
        refine sx_iconst (v := (1 : Int32)) dc_Ru_push_26 (by decide) ?_
        refine sx_iadd dc_Ru_push_27 ?_
        refine sx_putI (ci := 2) (k := 4) rfl (by decide) wF_Ru_75 rfl g4 (Or.inl rfl) dc_Ru_push_28 ?_
        refine sx_iload_n dc_Ru_push_31 rfl ?_
        obtain ⟨g9, hk⟩ := hk.g
        obtain ⟨g10, hk⟩ := hk.g
        refine sx_iast g9 g10 dc_Ru_push_32 ?_
        exact jk6 (hIu (hIu h a0 4 ((hI h a0 4) + (1 : Int32))) (hR h a0 3) (hI h a0 4).toNatClampNeg a1) hk
theorem dc_Ru_pop_0 : decode M_Ru_pop.2.1 0 = .ok (.aload_n 0, 1) := by decide +kernel
theorem dc_Ru_pop_1 : decode M_Ru_pop.2.1 1 = .ok (.getfield 75, 3) := by decide +kernel
theorem dc_Ru_pop_4 : decode M_Ru_pop.2.1 4 = .ok (.ifCond .le 31, 3) := by decide +kernel
theorem dc_Ru_pop_7 : decode M_Ru_pop.2.1 7 = .ok (.aload_n 0, 1) := by decide +kernel
theorem dc_Ru_pop_8 : decode M_Ru_pop.2.1 8 = .ok (.getfield 75, 3) := by decide +kernel
theorem dc_Ru_pop_11 : decode M_Ru_pop.2.1 11 = .ok (.bipush 40, 2) := by decide +kernel
theorem dc_Ru_pop_13 : decode M_Ru_pop.2.1 13 = .ok (.if_icmp .gt 22, 3) := by decide +kernel
theorem dc_Ru_pop_16 : decode M_Ru_pop.2.1 16 = .ok (.aload_n 0, 1) := by decide +kernel
theorem dc_Ru_pop_17 : decode M_Ru_pop.2.1 17 = .ok (.getfield 13, 3) := by decide +kernel
theorem dc_Ru_pop_20 : decode M_Ru_pop.2.1 20 = .ok (.aload_n 0, 1) := by decide +kernel
theorem dc_Ru_pop_21 : decode M_Ru_pop.2.1 21 = .ok (.dup, 1) := by decide +kernel
theorem dc_Ru_pop_22 : decode M_Ru_pop.2.1 22 = .ok (.getfield 75, 3) := by decide +kernel
theorem dc_Ru_pop_25 : decode M_Ru_pop.2.1 25 = .ok (.iconst 1, 1) := by decide +kernel
theorem dc_Ru_pop_26 : decode M_Ru_pop.2.1 26 = .ok (.isub, 1) := by decide +kernel
theorem dc_Ru_pop_27 : decode M_Ru_pop.2.1 27 = .ok (.dup_x1, 1) := by decide +kernel
theorem dc_Ru_pop_28 : decode M_Ru_pop.2.1 28 = .ok (.putfield 75, 3) := by decide +kernel
theorem dc_Ru_pop_31 : decode M_Ru_pop.2.1 31 = .ok (.iaload, 1) := by decide +kernel
theorem dc_Ru_pop_32 : decode M_Ru_pop.2.1 32 = .ok (.goto 4, 3) := by decide +kernel
theorem dc_Ru_pop_35 : decode M_Ru_pop.2.1 35 = .ok (.iconst 0, 1) := by decide +kernel
theorem dc_Ru_pop_36 : decode M_Ru_pop.2.1 36 = .ok (.ireturn, 1) := by decide +kernel
def f_Ru_pop (a0 : Nat) (h : xH) : Option (Int32 × xH) := gd (hK h a0 = 2) (jn (fun (x5 : Int32 × xH) => some (x5.1, x5.2)) (fun k6 => jn (fun (x7 : Unit) => k6 ((0 : Int32), h)) (fun k8 => if (hI h a0 4) ≤ 0 then k8 () else if (40 : Int32) < (hI h a0 4) then k8 () else gd (hK h (hR h a0 3) = 12) (gd (¬ (((hI h a0 4) - (1 : Int32)) < 0 ∨ hL h (hR h a0 3) ≤ ((hI h a0 4) - (1 : Int32)).toNatClampNeg)) (k6 ((hI (hIu h a0 4 ((hI h a0 4) - (1 : Int32))) (hR h a0 3) ((hI h a0 4) - (1 : Int32)).toNatClampNeg), (hIu h a0 4 ((hI h a0 4) - (1 : Int32)))))))))
theorem t_Ru_pop {l : Launch} {z : xZ} {d mc ms : Nat} {Ph : Option xV → xH → Prop} {a0 : Nat}  {h : xH} (hd : 1 ≤ d) (hk : OK (f_Ru_pop a0 h) (fun q => Ph (some (xI q.1)) q.2)) : Sx l z d mc ms M_Ru_pop 0 (x_en [xR a0] 1) [] h Ph := by
  unfold f_Ru_pop at hk
  refine sx_eq (lc2 := [some (xR a0)]) rfl rfl ?_
  refine sx_aload_n dc_Ru_pop_0 rfl ?_
  obtain ⟨g4, hk⟩ := hk.g
  refine sx_get (ci := 2) (k := 4) rfl (by decide) wF_Ru_75 g4 dc_Ru_pop_1 ?_
  refine hk.j (X := fun x5 => Sx l z d mc ms M_Ru_pop 36 [some (xR a0)] [xI x5.1] x5.2 Ph) (fun x5 hk => ?_) (fun k6 jk6 hk => ?_)
  · exact sx_retI dc_Ru_pop_36 rfl hk.val
  · refine hk.j (X := fun x7 => Sx l z d mc ms M_Ru_pop 35 [some (xR a0)] [] h Ph) (fun x7 hk => ?_) (fun k8 jk8 hk => ?_)
    · refine sx_iconst (v := (0 : Int32)) dc_Ru_pop_35 (by decide) ?_
      exact jk6 ((0 : Int32), h) hk
    · refine sx_if_le (tgt := 35) dc_Ru_pop_4 (by decide) (fun c9 => ?_) (fun c9 => ?_)
      · replace hk := hk.t c9
        exact jk8 () hk
      · replace hk := hk.f c9
        refine sx_aload_n dc_Ru_pop_7 rfl ?_
        refine sx_get (ci := 2) (k := 4) rfl (by decide) wF_Ru_75 g4 dc_Ru_pop_8 ?_
        refine sx_bipush (v := (40 : Int32)) dc_Ru_pop_11 (by decide) ?_
        refine sx_icmp_gt (tgt := 35) dc_Ru_pop_13 (by decide) (fun c10 => ?_) (fun c10 => ?_)
        · replace hk := hk.t c10
          exact jk8 () hk
        · replace hk := hk.f c10
          refine sx_aload_n dc_Ru_pop_16 rfl ?_
          refine sx_get (ci := 2) (k := 3) rfl (by decide) wF_Ru_13 g4 dc_Ru_pop_17 ?_
          refine sx_aload_n dc_Ru_pop_20 rfl ?_
          refine sx_dup dc_Ru_pop_21 rfl ?_
          refine sx_get (ci := 2) (k := 4) rfl (by decide) wF_Ru_75 g4 dc_Ru_pop_22 ?_
          refine sx_iconst (v := (1 : Int32)) dc_Ru_pop_25 (by decide) ?_
          refine sx_isub dc_Ru_pop_26 ?_
          refine sx_dup_x1 dc_Ru_pop_27 rfl rfl ?_
          refine sx_putI (ci := 2) (k := 4) rfl (by decide) wF_Ru_75 rfl g4 (Or.inl rfl) dc_Ru_pop_28 ?_
          obtain ⟨g11, hk⟩ := hk.g
          obtain ⟨g12, hk⟩ := hk.g
          refine sx_iald g11 g12 dc_Ru_pop_31 ?_
          refine sx_goto (tgt := 36) dc_Ru_pop_32 (by decide) ?_
          exact jk6 ((hI (hIu h a0 4 ((hI h a0 4) - (1 : Int32))) (hR h a0 3) ((hI h a0 4) - (1 : Int32)).toNatClampNeg), (hIu h a0 4 ((hI h a0 4) - (1 : Int32)))) hk
theorem dc_Ru_joined_0 : decode M_Ru_joined.2.1 0 = .ok (.iload_n 0, 1) := by decide +kernel
theorem dc_Ru_joined_1 : decode M_Ru_joined.2.1 1 = .ok (.tableswitch 105 (-7) (-1) #[91, 77, 66, 55, 51, 47, 43], 43) := by decide +kernel
theorem dc_Ru_joined_44 : decode M_Ru_joined.2.1 44 = .ok (.iload_n 1, 1) := by decide +kernel
theorem dc_Ru_joined_45 : decode M_Ru_joined.2.1 45 = .ok (.iload_n 2, 1) := by decide +kernel
theorem dc_Ru_joined_46 : decode M_Ru_joined.2.1 46 = .ok (.iadd, 1) := by decide +kernel
theorem dc_Ru_joined_47 : decode M_Ru_joined.2.1 47 = .ok (.ireturn, 1) := by decide +kernel
theorem dc_Ru_joined_48 : decode M_Ru_joined.2.1 48 = .ok (.iload_n 1, 1) := by decide +kernel
theorem dc_Ru_joined_49 : decode M_Ru_joined.2.1 49 = .ok (.iload_n 2, 1) := by decide +kernel
theorem dc_Ru_joined_50 : decode M_Ru_joined.2.1 50 = .ok (.isub, 1) := by decide +kernel
theorem dc_Ru_joined_51 : decode M_Ru_joined.2.1 51 = .ok (.ireturn, 1) := by decide +kernel
theorem dc_Ru_joined_52 : decode M_Ru_joined.2.1 52 = .ok (.iload_n 1, 1) := by decide +kernel
theorem dc_Ru_joined_53 : decode M_Ru_joined.2.1 53 = .ok (.iload_n 2, 1) := by decide +kernel
theorem dc_Ru_joined_54 : decode M_Ru_joined.2.1 54 = .ok (.imul, 1) := by decide +kernel
theorem dc_Ru_joined_55 : decode M_Ru_joined.2.1 55 = .ok (.ireturn, 1) := by decide +kernel
theorem dc_Ru_joined_56 : decode M_Ru_joined.2.1 56 = .ok (.iload_n 1, 1) := by decide +kernel
theorem dc_Ru_joined_57 : decode M_Ru_joined.2.1 57 = .ok (.iload_n 2, 1) := by decide +kernel
theorem dc_Ru_joined_58 : decode M_Ru_joined.2.1 58 = .ok (.if_icmp .ge 7, 3) := by decide +kernel
theorem dc_Ru_joined_61 : decode M_Ru_joined.2.1 61 = .ok (.iconst 1, 1) := by decide +kernel
theorem dc_Ru_joined_62 : decode M_Ru_joined.2.1 62 = .ok (.goto 4, 3) := by decide +kernel
theorem dc_Ru_joined_65 : decode M_Ru_joined.2.1 65 = .ok (.iconst 0, 1) := by decide +kernel
theorem dc_Ru_joined_66 : decode M_Ru_joined.2.1 66 = .ok (.ireturn, 1) := by decide +kernel
theorem dc_Ru_joined_67 : decode M_Ru_joined.2.1 67 = .ok (.iload_n 1, 1) := by decide +kernel
theorem dc_Ru_joined_68 : decode M_Ru_joined.2.1 68 = .ok (.iload_n 2, 1) := by decide +kernel
theorem dc_Ru_joined_69 : decode M_Ru_joined.2.1 69 = .ok (.if_icmp .ne 7, 3) := by decide +kernel
theorem dc_Ru_joined_72 : decode M_Ru_joined.2.1 72 = .ok (.iconst 1, 1) := by decide +kernel
theorem dc_Ru_joined_73 : decode M_Ru_joined.2.1 73 = .ok (.goto 4, 3) := by decide +kernel
theorem dc_Ru_joined_76 : decode M_Ru_joined.2.1 76 = .ok (.iconst 0, 1) := by decide +kernel
theorem dc_Ru_joined_77 : decode M_Ru_joined.2.1 77 = .ok (.ireturn, 1) := by decide +kernel
theorem dc_Ru_joined_78 : decode M_Ru_joined.2.1 78 = .ok (.iload_n 1, 1) := by decide +kernel
theorem dc_Ru_joined_79 : decode M_Ru_joined.2.1 79 = .ok (.ifCond .ne 7, 3) := by decide +kernel
theorem dc_Ru_joined_82 : decode M_Ru_joined.2.1 82 = .ok (.iload_n 2, 1) := by decide +kernel
theorem dc_Ru_joined_83 : decode M_Ru_joined.2.1 83 = .ok (.ifCond .eq 7, 3) := by decide +kernel
theorem dc_Ru_joined_86 : decode M_Ru_joined.2.1 86 = .ok (.iconst 1, 1) := by decide +kernel
theorem dc_Ru_joined_87 : decode M_Ru_joined.2.1 87 = .ok (.goto 4, 3) := by decide +kernel
theorem dc_Ru_joined_90 : decode M_Ru_joined.2.1 90 = .ok (.iconst 0, 1) := by decide +kernel
theorem dc_Ru_joined_91 : decode M_Ru_joined.2.1 91 = .ok (.ireturn, 1) := by decide +kernel
theorem dc_Ru_joined_92 : decode M_Ru_joined.2.1 92 = .ok (.iload_n 1, 1) := by decide +kernel
theorem dc_Ru_joined_93 : decode M_Ru_joined.2.1 93 = .ok (.ifCond .eq 11, 3) := by decide +kernel
theorem dc_Ru_joined_96 : decode M_Ru_joined.2.1 96 = .ok (.iload_n 2, 1) := by decide +kernel
theorem dc_Ru_joined_97 : decode M_Ru_joined.2.1 97 = .ok (.ifCond .eq 7, 3) := by decide +kernel
theorem dc_Ru_joined_100 : decode M_Ru_joined.2.1 100 = .ok (.iconst 1, 1) := by decide +kernel
theorem dc_Ru_joined_101 : decode M_Ru_joined.2.1 101 = .ok (.goto 4, 3) := by decide +kernel
theorem dc_Ru_joined_104 : decode M_Ru_joined.2.1 104 = .ok (.iconst 0, 1) := by decide +kernel
theorem dc_Ru_joined_105 : decode M_Ru_joined.2.1 105 = .ok (.ireturn, 1) := by decide +kernel
theorem dc_Ru_joined_106 : decode M_Ru_joined.2.1 106 = .ok (.iconst 0, 1) := by decide +kernel
theorem dc_Ru_joined_107 : decode M_Ru_joined.2.1 107 = .ok (.ireturn, 1) := by decide +kernel
def f_Ru_joined (a0 : Int32) (a1 : Int32) (a2 : Int32) (h : xH) : Option (Int32 × xH) := if a0 = (-7 : Int32) then jn (fun (x1 : Int32) => some (x1, h)) (fun k2 => jn (fun (x3 : Unit) => k2 (0 : Int32)) (fun k4 => if a1 = 0 then k4 () else if a2 = 0 then k4 () else k2 (1 : Int32))) else if a0 = (-6 : Int32) then jn (fun (x8 : Int32) => some (x8, h)) (fun k9 => jn (fun (x10 : Unit) => k9 (1 : Int32)) (fun k11 => if a1 = 0 then if a2 = 0 then k9 (0 : Int32) else k11 () else k11 ())) else if a0 = (-5 : Int32) then some ((if a1 = a2 then (1 : Int32) else (0 : Int32)), h) else if a0 = (-4 : Int32) then some ((if a2 ≤ a1 then (0 : Int32) else (1 : Int32)), h) else if a0 = (-3 : Int32) then some (a1 * a2, h) else if a0 = (-2 : Int32) then some (a1 - a2, h) else if a0 = (-1 : Int32) then some (a1 + a2, h) else some ((0 : Int32), h)
theorem t_Ru_joined {l : Launch} {z : xZ} {d mc ms : Nat} {Ph : Option xV → xH → Prop} {a0 : Int32} {a1 : Int32} {a2 : Int32}  {h : xH} (hd : 1 ≤ d) (hk : OK (f_Ru_joined a0 a1 a2 h) (fun q => Ph (some (xI q.1)) q.2)) : Sx l z d mc ms M_Ru_joined 0 (x_en [xI a0, xI a1, xI a2] 3) [] h Ph := by
  unfold f_Ru_joined at hk
  refine sx_eq (lc2 := [some (xI a0), some (xI a1), some (xI a2)]) rfl rfl ?_
  refine sx_iload_n dc_Ru_joined_0 rfl ?_
  by_cases c7 : a0 = (-7 : Int32)
  · replace hk := hk.t c7
    refine sx_tabIn (off := 91) (tgt := 92) dc_Ru_joined_1 (by rw [c7]; decide) (by rw [c7]; decide) (by rw [c7]; rfl) (by decide) ?_
    refine sx_iload_n dc_Ru_joined_92 rfl ?_
    refine hk.j (X := fun x1 => Sx l z d mc ms M_Ru_joined 105 [some (xI a0), some (xI a1), some (xI a2)] [xI x1] h Ph) (fun x1 hk => ?_) (fun k2 jk2 hk => ?_)
    · exact sx_retI dc_Ru_joined_105 rfl hk.val
    · refine hk.j (X := fun x3 => Sx l z d mc ms M_Ru_joined 104 [some (xI a0), some (xI a1), some (xI a2)] [] h Ph) (fun x3 hk => ?_) (fun k4 jk4 hk => ?_)
      · refine sx_iconst (v := (0 : Int32)) dc_Ru_joined_104 (by decide) ?_
        exact jk2 (0 : Int32) hk
      · refine sx_if_eq (tgt := 104) dc_Ru_joined_93 (by decide) (fun c5 => ?_) (fun c5 => ?_)
        · replace hk := hk.t c5
          exact jk4 () hk
        · replace hk := hk.f c5
          refine sx_iload_n dc_Ru_joined_96 rfl ?_
          refine sx_if_eq (tgt := 104) dc_Ru_joined_97 (by decide) (fun c6 => ?_) (fun c6 => ?_)
          · replace hk := hk.t c6
            exact jk4 () hk
          · replace hk := hk.f c6
            refine sx_iconst (v := (1 : Int32)) dc_Ru_joined_100 (by decide) ?_
            refine sx_goto (tgt := 105) dc_Ru_joined_101 (by decide) ?_
            exact jk2 (1 : Int32) hk
  · replace hk := hk.f c7
    by_cases c14 : a0 = (-6 : Int32)
    · replace hk := hk.t c14
      refine sx_tabIn (off := 77) (tgt := 78) dc_Ru_joined_1 (by rw [c14]; decide) (by rw [c14]; decide) (by rw [c14]; rfl) (by decide) ?_
      refine sx_iload_n dc_Ru_joined_78 rfl ?_
      refine hk.j (X := fun x8 => Sx l z d mc ms M_Ru_joined 91 [some (xI a0), some (xI a1), some (xI a2)] [xI x8] h Ph) (fun x8 hk => ?_) (fun k9 jk9 hk => ?_)
      · exact sx_retI dc_Ru_joined_91 rfl hk.val
      · refine hk.j (X := fun x10 => Sx l z d mc ms M_Ru_joined 86 [some (xI a0), some (xI a1), some (xI a2)] [] h Ph) (fun x10 hk => ?_) (fun k11 jk11 hk => ?_)
        · refine sx_iconst (v := (1 : Int32)) dc_Ru_joined_86 (by decide) ?_
          refine sx_goto (tgt := 91) dc_Ru_joined_87 (by decide) ?_
          exact jk9 (1 : Int32) hk
        · refine sx_if_ne (tgt := 86) dc_Ru_joined_79 (by decide) (fun c12 => ?_) (fun c12 => ?_)
          · replace hk := hk.f c12
            exact jk11 () hk
          · replace hk := hk.t c12
            refine sx_iload_n dc_Ru_joined_82 rfl ?_
            refine sx_if_eq (tgt := 90) dc_Ru_joined_83 (by decide) (fun c13 => ?_) (fun c13 => ?_)
            · replace hk := hk.t c13
              refine sx_iconst (v := (0 : Int32)) dc_Ru_joined_90 (by decide) ?_
              exact jk9 (0 : Int32) hk
            · replace hk := hk.f c13
              exact jk11 () hk
    · replace hk := hk.f c14
      by_cases c17 : a0 = (-5 : Int32)
      · replace hk := hk.t c17
        refine sx_tabIn (off := 66) (tgt := 67) dc_Ru_joined_1 (by rw [c17]; decide) (by rw [c17]; decide) (by rw [c17]; rfl) (by decide) ?_
        refine sx_iload_n dc_Ru_joined_67 rfl ?_
        refine sx_iload_n dc_Ru_joined_68 rfl ?_
        refine sx_mg (pc2 := 77) (lc2 := [some (xI a0), some (xI a1), some (xI a2)]) (st2 := [xI (if a1 = a2 then (1 : Int32) else (0 : Int32))]) (h2 := h) ?_ (fun J15 => ?_)
        · exact sx_retI dc_Ru_joined_77 rfl hk.val
        · refine sx_icmp_ne (tgt := 76) dc_Ru_joined_69 (by decide) (fun c16 => ?_) (fun c16 => ?_)
          · try simp only [if_neg c16] at J15
            refine sx_iconst (v := (0 : Int32)) dc_Ru_joined_76 (by decide) ?_
            exact J15
          · try simp only [if_pos c16] at J15
            refine sx_iconst (v := (1 : Int32)) dc_Ru_joined_72 (by decide) ?_
            refine sx_goto (tgt := 77) dc_Ru_joined_73 (by decide) ?_
            exact J15
      · replace hk := hk.f c17
        by_cases c20 : a0 = (-4 : Int32)
        · replace hk := hk.t c20
          refine sx_tabIn (off := 55) (tgt := 56) dc_Ru_joined_1 (by rw [c20]; decide) (by rw [c20]; decide) (by rw [c20]; rfl) (by decide) ?_
          refine sx_iload_n dc_Ru_joined_56 rfl ?_
          refine sx_iload_n dc_Ru_joined_57 rfl ?_
          refine sx_mg (pc2 := 66) (lc2 := [some (xI a0), some (xI a1), some (xI a2)]) (st2 := [xI (if a2 ≤ a1 then (0 : Int32) else (1 : Int32))]) (h2 := h) ?_ (fun J18 => ?_)
          · exact sx_retI dc_Ru_joined_66 rfl hk.val
          · refine sx_icmp_ge (tgt := 65) dc_Ru_joined_58 (by decide) (fun c19 => ?_) (fun c19 => ?_)
            · try simp only [if_pos c19] at J18
              refine sx_iconst (v := (0 : Int32)) dc_Ru_joined_65 (by decide) ?_
              exact J18
            · try simp only [if_neg c19] at J18
              refine sx_iconst (v := (1 : Int32)) dc_Ru_joined_61 (by decide) ?_
              refine sx_goto (tgt := 66) dc_Ru_joined_62 (by decide) ?_
              exact J18
        · replace hk := hk.f c20
          by_cases c21 : a0 = (-3 : Int32)
          · replace hk := hk.t c21
            refine sx_tabIn (off := 51) (tgt := 52) dc_Ru_joined_1 (by rw [c21]; decide) (by rw [c21]; decide) (by rw [c21]; rfl) (by decide) ?_
            refine sx_iload_n dc_Ru_joined_52 rfl ?_
            refine sx_iload_n dc_Ru_joined_53 rfl ?_
            refine sx_imul dc_Ru_joined_54 ?_
            exact sx_retI dc_Ru_joined_55 rfl hk.val
          · replace hk := hk.f c21
            by_cases c22 : a0 = (-2 : Int32)
            · replace hk := hk.t c22
              refine sx_tabIn (off := 47) (tgt := 48) dc_Ru_joined_1 (by rw [c22]; decide) (by rw [c22]; decide) (by rw [c22]; rfl) (by decide) ?_
              refine sx_iload_n dc_Ru_joined_48 rfl ?_
              refine sx_iload_n dc_Ru_joined_49 rfl ?_
              refine sx_isub dc_Ru_joined_50 ?_
              exact sx_retI dc_Ru_joined_51 rfl hk.val
            · replace hk := hk.f c22
              by_cases c23 : a0 = (-1 : Int32)
              · replace hk := hk.t c23
                refine sx_tabIn (off := 43) (tgt := 44) dc_Ru_joined_1 (by rw [c23]; decide) (by rw [c23]; decide) (by rw [c23]; rfl) (by decide) ?_
                refine sx_iload_n dc_Ru_joined_44 rfl ?_
                refine sx_iload_n dc_Ru_joined_45 rfl ?_
                refine sx_iadd dc_Ru_joined_46 ?_
                exact sx_retI dc_Ru_joined_47 rfl hk.val
              · replace hk := hk.f c23
                refine sx_tabOut (tgt := 106) dc_Ru_joined_1 (sw_out (fun k h1 h2 => ?_)) (by decide) ?_
                · have h3 : k = -7 ∨ k = -6 ∨ k = -5 ∨ k = -4 ∨ k = -3 ∨ k = -2 ∨ k = -1 := by omega
                  rcases h3 with rfl | rfl | rfl | rfl | rfl | rfl | rfl
                  · exact c7
                  · exact c14
                  · exact c17
                  · exact c20
                  · exact c21
                  · exact c22
                  · exact c23
                · refine sx_iconst (v := (0 : Int32)) dc_Ru_joined_106 (by decide) ?_
                  exact sx_retI dc_Ru_joined_107 rfl hk.val
theorem dc_Ru_step_0 : decode M_Ru_step.2.1 0 = .ok (.iload_n 1, 1) := by decide +kernel
theorem dc_Ru_step_1 : decode M_Ru_step.2.1 1 = .ok (.sipush 10000, 3) := by decide +kernel
theorem dc_Ru_step_4 : decode M_Ru_step.2.1 4 = .ok (.if_icmp .lt 34, 3) := by decide +kernel
theorem dc_Ru_step_7 : decode M_Ru_step.2.1 7 = .ok (.aload_n 0, 1) := by decide +kernel
theorem dc_Ru_step_8 : decode M_Ru_step.2.1 8 = .ok (.iload_n 1, 1) := by decide +kernel
theorem dc_Ru_step_9 : decode M_Ru_step.2.1 9 = .ok (.sipush 10000, 3) := by decide +kernel
theorem dc_Ru_step_12 : decode M_Ru_step.2.1 12 = .ok (.isub, 1) := by decide +kernel
theorem dc_Ru_step_13 : decode M_Ru_step.2.1 13 = .ok (.bipush 6, 2) := by decide +kernel
theorem dc_Ru_step_15 : decode M_Ru_step.2.1 15 = .ok (.if_icmp .ge 16, 3) := by decide +kernel
theorem dc_Ru_step_18 : decode M_Ru_step.2.1 18 = .ok (.aload_n 0, 1) := by decide +kernel
theorem dc_Ru_step_19 : decode M_Ru_step.2.1 19 = .ok (.getfield 9, 3) := by decide +kernel
theorem dc_Ru_step_22 : decode M_Ru_step.2.1 22 = .ok (.iload_n 1, 1) := by decide +kernel
theorem dc_Ru_step_23 : decode M_Ru_step.2.1 23 = .ok (.sipush 10000, 3) := by decide +kernel
theorem dc_Ru_step_26 : decode M_Ru_step.2.1 26 = .ok (.isub, 1) := by decide +kernel
theorem dc_Ru_step_27 : decode M_Ru_step.2.1 27 = .ok (.iaload, 1) := by decide +kernel
theorem dc_Ru_step_28 : decode M_Ru_step.2.1 28 = .ok (.goto 4, 3) := by decide +kernel
theorem dc_Ru_step_31 : decode M_Ru_step.2.1 31 = .ok (.iconst 0, 1) := by decide +kernel
theorem dc_Ru_step_32 : decode M_Ru_step.2.1 32 = .ok (.invokevirtual 95, 3) := by decide +kernel
theorem dc_Ru_step_35 : decode M_Ru_step.2.1 35 = .ok (.goto 70, 3) := by decide +kernel
theorem dc_Ru_step_38 : decode M_Ru_step.2.1 38 = .ok (.iload_n 1, 1) := by decide +kernel
theorem dc_Ru_step_39 : decode M_Ru_step.2.1 39 = .ok (.ifCond .lt 11, 3) := by decide +kernel
theorem dc_Ru_step_42 : decode M_Ru_step.2.1 42 = .ok (.aload_n 0, 1) := by decide +kernel
theorem dc_Ru_step_43 : decode M_Ru_step.2.1 43 = .ok (.iload_n 1, 1) := by decide +kernel
theorem dc_Ru_step_44 : decode M_Ru_step.2.1 44 = .ok (.invokevirtual 95, 3) := by decide +kernel
theorem dc_Ru_step_47 : decode M_Ru_step.2.1 47 = .ok (.goto 58, 3) := by decide +kernel
theorem dc_Ru_step_50 : decode M_Ru_step.2.1 50 = .ok (.aload_n 0, 1) := by decide +kernel
theorem dc_Ru_step_51 : decode M_Ru_step.2.1 51 = .ok (.invokevirtual 91, 3) := by decide +kernel
theorem dc_Ru_step_54 : decode M_Ru_step.2.1 54 = .ok (.istore_n 2, 1) := by decide +kernel
theorem dc_Ru_step_55 : decode M_Ru_step.2.1 55 = .ok (.iload_n 1, 1) := by decide +kernel
theorem dc_Ru_step_56 : decode M_Ru_step.2.1 56 = .ok (.bipush (-8), 2) := by decide +kernel
theorem dc_Ru_step_58 : decode M_Ru_step.2.1 58 = .ok (.if_icmp .ne 19, 3) := by decide +kernel
theorem dc_Ru_step_61 : decode M_Ru_step.2.1 61 = .ok (.aload_n 0, 1) := by decide +kernel
theorem dc_Ru_step_62 : decode M_Ru_step.2.1 62 = .ok (.iload_n 2, 1) := by decide +kernel
theorem dc_Ru_step_63 : decode M_Ru_step.2.1 63 = .ok (.ifCond .ne 7, 3) := by decide +kernel
theorem dc_Ru_step_66 : decode M_Ru_step.2.1 66 = .ok (.iconst 1, 1) := by decide +kernel
theorem dc_Ru_step_67 : decode M_Ru_step.2.1 67 = .ok (.goto 4, 3) := by decide +kernel
theorem dc_Ru_step_70 : decode M_Ru_step.2.1 70 = .ok (.iconst 0, 1) := by decide +kernel
theorem dc_Ru_step_71 : decode M_Ru_step.2.1 71 = .ok (.invokevirtual 95, 3) := by decide +kernel
theorem dc_Ru_step_74 : decode M_Ru_step.2.1 74 = .ok (.goto 31, 3) := by decide +kernel
theorem dc_Ru_step_77 : decode M_Ru_step.2.1 77 = .ok (.iload_n 1, 1) := by decide +kernel
theorem dc_Ru_step_78 : decode M_Ru_step.2.1 78 = .ok (.bipush (-9), 2) := by decide +kernel
theorem dc_Ru_step_80 : decode M_Ru_step.2.1 80 = .ok (.if_icmp .ne 12, 3) := by decide +kernel
theorem dc_Ru_step_83 : decode M_Ru_step.2.1 83 = .ok (.aload_n 0, 1) := by decide +kernel
theorem dc_Ru_step_84 : decode M_Ru_step.2.1 84 = .ok (.iload_n 2, 1) := by decide +kernel
theorem dc_Ru_step_85 : decode M_Ru_step.2.1 85 = .ok (.ineg, 1) := by decide +kernel
theorem dc_Ru_step_86 : decode M_Ru_step.2.1 86 = .ok (.invokevirtual 95, 3) := by decide +kernel
theorem dc_Ru_step_89 : decode M_Ru_step.2.1 89 = .ok (.goto 16, 3) := by decide +kernel
theorem dc_Ru_step_92 : decode M_Ru_step.2.1 92 = .ok (.aload_n 0, 1) := by decide +kernel
theorem dc_Ru_step_93 : decode M_Ru_step.2.1 93 = .ok (.iload_n 1, 1) := by decide +kernel
theorem dc_Ru_step_94 : decode M_Ru_step.2.1 94 = .ok (.aload_n 0, 1) := by decide +kernel
theorem dc_Ru_step_95 : decode M_Ru_step.2.1 95 = .ok (.invokevirtual 91, 3) := by decide +kernel
theorem dc_Ru_step_98 : decode M_Ru_step.2.1 98 = .ok (.iload_n 2, 1) := by decide +kernel
theorem dc_Ru_step_99 : decode M_Ru_step.2.1 99 = .ok (.invokestatic 98, 3) := by decide +kernel
theorem dc_Ru_step_102 : decode M_Ru_step.2.1 102 = .ok (.invokevirtual 95, 3) := by decide +kernel
theorem dc_Ru_step_105 : decode M_Ru_step.2.1 105 = .ok (.return_, 1) := by decide +kernel
def f_Ru_step (a0 : Nat) (a1 : Int32) (h : xH) : Option (Unit × xH) := jn (fun (x19 : xH) => some ((), x19)) (fun k20 => if a1 < (10000 : Int32) then if a1 < 0 then gd (hK h a0 = 2) (Option.bind (f_Ru_pop a0 h) (fun q23 => if a1 = (-8 : Int32) then gd (hK q23.2 a0 = 2) (Option.bind (f_Ru_push a0 (if q23.1 = 0 then (1 : Int32) else (0 : Int32)) q23.2) (fun q36 => k20 q36.2)) else if a1 = (-9 : Int32) then gd (hK q23.2 a0 = 2) (Option.bind (f_Ru_push a0 (-q23.1) q23.2) (fun q32 => k20 q32.2)) else gd (hK q23.2 a0 = 2) (Option.bind (f_Ru_pop a0 q23.2) (fun q27 => Option.bind (f_Ru_joined a1 q27.1 q23.1 q27.2) (fun q29 => gd (hK q29.2 a0 = 2) (Option.bind (f_Ru_push a0 q29.1 q29.2) (fun q30 => k20 q30.2))))))) else gd (hK h a0 = 2) (Option.bind (f_Ru_push a0 a1 h) (fun q38 => k20 q38.2)) else jn (fun (x40 : Int32) => gd (hK h a0 = 2) (Option.bind (f_Ru_push a0 x40 h) (fun q42 => k20 q42.2))) (fun k41 => if (6 : Int32) ≤ (a1 - (10000 : Int32)) then k41 (0 : Int32) else gd (hK h a0 = 2) (gd (hK h (hR h a0 2) = 12) (gd (¬ ((a1 - (10000 : Int32)) < 0 ∨ hL h (hR h a0 2) ≤ (a1 - (10000 : Int32)).toNatClampNeg)) (k41 (hI h (hR h a0 2) (a1 - (10000 : Int32)).toNatClampNeg))))))
theorem t_Ru_step {l : Launch} {z : xZ} {d mc ms : Nat} {Ph : Option xV → xH → Prop} {a0 : Nat} {a1 : Int32}  {h : xH} (hd : 2 ≤ d) (hk : OK (f_Ru_step a0 a1 h) (fun q => Ph (none) q.2)) : Sx l z d mc ms M_Ru_step 0 (x_en [xR a0, xI a1] 3) [] h Ph := by
  unfold f_Ru_step at hk
  refine sx_eq (lc2 := [some (xR a0), some (xI a1), none]) rfl rfl ?_
  refine sx_iload_n dc_Ru_step_0 rfl ?_
  refine sx_sipush (v := (10000 : Int32)) dc_Ru_step_1 (by decide) ?_
  refine hk.j (X := fun x19 => Sx l z d mc ms M_Ru_step 105 [some (xR a0), some (xI a1), none] [] x19 Ph) (fun x19 hk => ?_) (fun k20 jk20 hk => ?_)
  · exact sx_retV dc_Ru_step_105 rfl hk.val
  · refine sx_icmp_lt (tgt := 38) dc_Ru_step_4 (by decide) (fun c21 => ?_) (fun c21 => ?_)
    · replace hk := hk.t c21
      refine sx_iload_n dc_Ru_step_38 rfl ?_
      refine sx_if_lt (tgt := 50) dc_Ru_step_39 (by decide) (fun c22 => ?_) (fun c22 => ?_)
      · replace hk := hk.t c22
        refine sx_aload_n dc_Ru_step_50 rfl ?_
        obtain ⟨g24, hk⟩ := hk.g
        obtain ⟨q23, eq23, hk⟩ := hk.bind
        refine sx_callV (d2 := d - 1) (mc2 := 0) (ms2 := 0) (as := []) mk_Ru_pop rfl (x_rk (ci := 2) g24 rfl rfl) wM_Ru_91 mi_Ru_pop me_Ru_pop rfl (Nat.le_of_ble_eq_true rfl) (Nat.le_of_ble_eq_true rfl) dc_Ru_step_51 (by omega) (Nat.zero_le _) (Nat.zero_le _) ?_
        refine t_Ru_pop (by omega) ⟨q23, eq23, ?_⟩
        refine sx_eq0 (lc2 := [some (xR a0), some (xI a1), none]) (st2 := [xI q23.1]) rfl rfl ?_
        refine sx_istore_n dc_Ru_step_54 (by decide) (sx_eq (lc2 := [some (xR a0), some (xI a1), some (xI q23.1)]) rfl rfl ?_)
        refine sx_iload_n dc_Ru_step_55 rfl ?_
        refine sx_bipush (v := (-8 : Int32)) dc_Ru_step_56 (by decide) ?_
        refine sx_icmp_ne (tgt := 77) dc_Ru_step_58 (by decide) (fun c25 => ?_) (fun c25 => ?_)
        · replace hk := hk.f c25
          refine sx_iload_n dc_Ru_step_77 rfl ?_
          refine sx_bipush (v := (-9 : Int32)) dc_Ru_step_78 (by decide) ?_
          refine sx_icmp_ne (tgt := 92) dc_Ru_step_80 (by decide) (fun c26 => ?_) (fun c26 => ?_)
          · replace hk := hk.f c26
            refine sx_aload_n dc_Ru_step_92 rfl ?_
            refine sx_iload_n dc_Ru_step_93 rfl ?_
            refine sx_aload_n dc_Ru_step_94 rfl ?_
            obtain ⟨g28, hk⟩ := hk.g
            obtain ⟨q27, eq27, hk⟩ := hk.bind
            refine sx_callV (d2 := d - 1) (mc2 := 0) (ms2 := 0) (as := []) mk_Ru_pop rfl (x_rk (ci := 2) g28 rfl rfl) wM_Ru_91 mi_Ru_pop me_Ru_pop rfl (Nat.le_of_ble_eq_true rfl) (Nat.le_of_ble_eq_true rfl) dc_Ru_step_95 (by omega) (Nat.zero_le _) (Nat.zero_le _) ?_
            refine t_Ru_pop (by omega) ⟨q27, eq27, ?_⟩
            refine sx_eq0 (lc2 := [some (xR a0), some (xI a1), some (xI q23.1)]) (st2 := [xI q27.1, xI a1, xR a0]) rfl rfl ?_
            refine sx_iload_n dc_Ru_step_98 rfl ?_
            obtain ⟨q29, eq29, hk⟩ := hk.bind
            refine sx_callS (d2 := d - 1) (mc2 := 0) (ms2 := 0) (as := [xI a1, xI q27.1, xI q23.1]) mk_Ru_joined rfl wM_Ru_98 mt_Ru_joined rfl (Nat.le_of_ble_eq_true rfl) (Nat.le_of_ble_eq_true rfl) dc_Ru_step_99 (by omega) (Nat.zero_le _) (Nat.zero_le _) ?_
            refine t_Ru_joined (by omega) ⟨q29, eq29, ?_⟩
            refine sx_eq0 (lc2 := [some (xR a0), some (xI a1), some (xI q23.1)]) (st2 := [xI q29.1, xR a0]) rfl rfl ?_
            obtain ⟨g31, hk⟩ := hk.g
            obtain ⟨q30, eq30, hk⟩ := hk.bind
            refine sx_callV (d2 := d - 1) (mc2 := 0) (ms2 := 0) (as := [xI q29.1]) mk_Ru_push rfl (x_rk (ci := 2) g31 rfl rfl) wM_Ru_95 mi_Ru_push me_Ru_push rfl (Nat.le_of_ble_eq_true rfl) (Nat.le_of_ble_eq_true rfl) dc_Ru_step_102 (by omega) (Nat.zero_le _) (Nat.zero_le _) ?_
            refine t_Ru_push (by omega) ⟨q30, eq30, ?_⟩
            refine sx_eq0 (lc2 := [some (xR a0), some (xI a1), some (xI q23.1)]) (st2 := []) rfl rfl ?_
            exact sx_less (by simp [x_le]) (jk20 q30.2 hk)
          · replace hk := hk.t c26
            refine sx_aload_n dc_Ru_step_83 rfl ?_
            refine sx_iload_n dc_Ru_step_84 rfl ?_
            refine sx_ineg dc_Ru_step_85 ?_
            obtain ⟨g33, hk⟩ := hk.g
            obtain ⟨q32, eq32, hk⟩ := hk.bind
            refine sx_callV (d2 := d - 1) (mc2 := 0) (ms2 := 0) (as := [xI (-q23.1)]) mk_Ru_push rfl (x_rk (ci := 2) g33 rfl rfl) wM_Ru_95 mi_Ru_push me_Ru_push rfl (Nat.le_of_ble_eq_true rfl) (Nat.le_of_ble_eq_true rfl) dc_Ru_step_86 (by omega) (Nat.zero_le _) (Nat.zero_le _) ?_
            refine t_Ru_push (by omega) ⟨q32, eq32, ?_⟩
            refine sx_eq0 (lc2 := [some (xR a0), some (xI a1), some (xI q23.1)]) (st2 := []) rfl rfl ?_
            refine sx_goto (tgt := 105) dc_Ru_step_89 (by decide) ?_
            exact sx_less (by simp [x_le]) (jk20 q32.2 hk)
        · replace hk := hk.t c25
          refine sx_aload_n dc_Ru_step_61 rfl ?_
          refine sx_iload_n dc_Ru_step_62 rfl ?_
          refine sx_mg (pc2 := 71) (lc2 := [some (xR a0), some (xI a1), some (xI q23.1)]) (st2 := [xI (if q23.1 = 0 then (1 : Int32) else (0 : Int32)), xR a0]) (h2 := q23.2) ?_ (fun J34 => ?_)
          · obtain ⟨g37, hk⟩ := hk.g
            obtain ⟨q36, eq36, hk⟩ := hk.bind
            refine sx_callV (d2 := d - 1) (mc2 := 0) (ms2 := 0) (as := [xI (if q23.1 = 0 then (1 : Int32) else (0 : Int32))]) mk_Ru_push rfl (x_rk (ci := 2) g37 rfl rfl) wM_Ru_95 mi_Ru_push me_Ru_push rfl (Nat.le_of_ble_eq_true rfl) (Nat.le_of_ble_eq_true rfl) dc_Ru_step_71 (by omega) (Nat.zero_le _) (Nat.zero_le _) ?_
            refine t_Ru_push (by omega) ⟨q36, eq36, ?_⟩
            refine sx_eq0 (lc2 := [some (xR a0), some (xI a1), some (xI q23.1)]) (st2 := []) rfl rfl ?_
            refine sx_goto (tgt := 105) dc_Ru_step_74 (by decide) ?_
            exact sx_less (by simp [x_le]) (jk20 q36.2 hk)
          · refine sx_if_ne (tgt := 70) dc_Ru_step_63 (by decide) (fun c35 => ?_) (fun c35 => ?_)
            · try simp only [if_neg c35] at J34
              refine sx_iconst (v := (0 : Int32)) dc_Ru_step_70 (by decide) ?_
              exact J34
            · try simp only [if_pos c35] at J34
              refine sx_iconst (v := (1 : Int32)) dc_Ru_step_66 (by decide) ?_
              refine sx_goto (tgt := 71) dc_Ru_step_67 (by decide) ?_
              exact J34
      · replace hk := hk.f c22
        refine sx_aload_n dc_Ru_step_42 rfl ?_
        refine sx_iload_n dc_Ru_step_43 rfl ?_
        obtain ⟨g39, hk⟩ := hk.g
        obtain ⟨q38, eq38, hk⟩ := hk.bind
        refine sx_callV (d2 := d - 1) (mc2 := 0) (ms2 := 0) (as := [xI a1]) mk_Ru_push rfl (x_rk (ci := 2) g39 rfl rfl) wM_Ru_95 mi_Ru_push me_Ru_push rfl (Nat.le_of_ble_eq_true rfl) (Nat.le_of_ble_eq_true rfl) dc_Ru_step_44 (by omega) (Nat.zero_le _) (Nat.zero_le _) ?_
        refine t_Ru_push (by omega) ⟨q38, eq38, ?_⟩
        refine sx_eq0 (lc2 := [some (xR a0), some (xI a1), none]) (st2 := []) rfl rfl ?_
        refine sx_goto (tgt := 105) dc_Ru_step_47 (by decide) ?_
        exact jk20 q38.2 hk
    · replace hk := hk.f c21
      refine sx_aload_n dc_Ru_step_7 rfl ?_
      refine sx_iload_n dc_Ru_step_8 rfl ?_
      refine sx_sipush (v := (10000 : Int32)) dc_Ru_step_9 (by decide) ?_
      refine sx_isub dc_Ru_step_12 ?_
      refine sx_bipush (v := (6 : Int32)) dc_Ru_step_13 (by decide) ?_
      refine hk.j (X := fun x40 => Sx l z d mc ms M_Ru_step 32 [some (xR a0), some (xI a1), none] [xI x40, xR a0] h Ph) (fun x40 hk => ?_) (fun k41 jk41 hk => ?_)
      · obtain ⟨g43, hk⟩ := hk.g
        obtain ⟨q42, eq42, hk⟩ := hk.bind
        refine sx_callV (d2 := d - 1) (mc2 := 0) (ms2 := 0) (as := [xI x40]) mk_Ru_push rfl (x_rk (ci := 2) g43 rfl rfl) wM_Ru_95 mi_Ru_push me_Ru_push rfl (Nat.le_of_ble_eq_true rfl) (Nat.le_of_ble_eq_true rfl) dc_Ru_step_32 (by omega) (Nat.zero_le _) (Nat.zero_le _) ?_
        refine t_Ru_push (by omega) ⟨q42, eq42, ?_⟩
        refine sx_eq0 (lc2 := [some (xR a0), some (xI a1), none]) (st2 := []) rfl rfl ?_
        refine sx_goto (tgt := 105) dc_Ru_step_35 (by decide) ?_
        exact jk20 q42.2 hk
      · refine sx_icmp_ge (tgt := 31) dc_Ru_step_15 (by decide) (fun c44 => ?_) (fun c44 => ?_)
        · replace hk := hk.t c44
          refine sx_iconst (v := (0 : Int32)) dc_Ru_step_31 (by decide) ?_
          exact jk41 (0 : Int32) hk
        · replace hk := hk.f c44
          refine sx_aload_n dc_Ru_step_18 rfl ?_
          obtain ⟨g45, hk⟩ := hk.g
          refine sx_get (ci := 2) (k := 2) rfl (by decide) wF_Ru_9 g45 dc_Ru_step_19 ?_
          refine sx_iload_n dc_Ru_step_22 rfl ?_
          refine sx_sipush (v := (10000 : Int32)) dc_Ru_step_23 (by decide) ?_
          refine sx_isub dc_Ru_step_26 ?_
          obtain ⟨g46, hk⟩ := hk.g
          obtain ⟨g47, hk⟩ := hk.g
          refine sx_iald g46 g47 dc_Ru_step_27 ?_
          refine sx_goto (tgt := 32) dc_Ru_step_28 (by decide) ?_
          exact jk41 (hI h (hR h a0 2) (a1 - (10000 : Int32)).toNatClampNeg) hk
theorem dc_Ru_answer_0 : decode M_Ru_answer.2.1 0 = .ok (.aload_n 0, 1) := by decide +kernel
theorem dc_Ru_answer_1 : decode M_Ru_answer.2.1 1 = .ok (.getfield 24, 3) := by decide +kernel
theorem dc_Ru_answer_4 : decode M_Ru_answer.2.1 4 = .ok (.ifnonnull 5, 3) := by decide +kernel
theorem dc_Ru_answer_7 : decode M_Ru_answer.2.1 7 = .ok (.iconst 0, 1) := by decide +kernel
theorem dc_Ru_answer_8 : decode M_Ru_answer.2.1 8 = .ok (.ireturn, 1) := by decide +kernel
theorem dc_Ru_answer_9 : decode M_Ru_answer.2.1 9 = .ok (.aload_n 0, 1) := by decide +kernel
theorem dc_Ru_answer_10 : decode M_Ru_answer.2.1 10 = .ok (.iconst 0, 1) := by decide +kernel
theorem dc_Ru_answer_11 : decode M_Ru_answer.2.1 11 = .ok (.putfield 75, 3) := by decide +kernel
theorem dc_Ru_answer_14 : decode M_Ru_answer.2.1 14 = .ok (.aload_n 0, 1) := by decide +kernel
theorem dc_Ru_answer_15 : decode M_Ru_answer.2.1 15 = .ok (.getfield 24, 3) := by decide +kernel
theorem dc_Ru_answer_18 : decode M_Ru_answer.2.1 18 = .ok (.iload_n 1, 1) := by decide +kernel
theorem dc_Ru_answer_19 : decode M_Ru_answer.2.1 19 = .ok (.invokevirtual 78, 3) := by decide +kernel
theorem dc_Ru_answer_22 : decode M_Ru_answer.2.1 22 = .ok (.istore_n 2, 1) := by decide +kernel
theorem dc_Ru_answer_23 : decode M_Ru_answer.2.1 23 = .ok (.iload_n 2, 1) := by decide +kernel
theorem dc_Ru_answer_24 : decode M_Ru_answer.2.1 24 = .ok (.aload_n 0, 1) := by decide +kernel
theorem dc_Ru_answer_25 : decode M_Ru_answer.2.1 25 = .ok (.getfield 24, 3) := by decide +kernel
theorem dc_Ru_answer_28 : decode M_Ru_answer.2.1 28 = .ok (.iload_n 1, 1) := by decide +kernel
theorem dc_Ru_answer_29 : decode M_Ru_answer.2.1 29 = .ok (.invokevirtual 81, 3) := by decide +kernel
theorem dc_Ru_answer_32 : decode M_Ru_answer.2.1 32 = .ok (.if_icmp .ge 21, 3) := by decide +kernel
theorem dc_Ru_answer_35 : decode M_Ru_answer.2.1 35 = .ok (.aload_n 0, 1) := by decide +kernel
theorem dc_Ru_answer_36 : decode M_Ru_answer.2.1 36 = .ok (.aload_n 0, 1) := by decide +kernel
theorem dc_Ru_answer_37 : decode M_Ru_answer.2.1 37 = .ok (.getfield 24, 3) := by decide +kernel
theorem dc_Ru_answer_40 : decode M_Ru_answer.2.1 40 = .ok (.iload_n 2, 1) := by decide +kernel
theorem dc_Ru_answer_41 : decode M_Ru_answer.2.1 41 = .ok (.invokevirtual 84, 3) := by decide +kernel
theorem dc_Ru_answer_44 : decode M_Ru_answer.2.1 44 = .ok (.invokevirtual 87, 3) := by decide +kernel
theorem dc_Ru_answer_47 : decode M_Ru_answer.2.1 47 = .ok (.iinc 2 1, 3) := by decide +kernel
theorem dc_Ru_answer_50 : decode M_Ru_answer.2.1 50 = .ok (.goto (-27), 3) := by decide +kernel
theorem dc_Ru_answer_53 : decode M_Ru_answer.2.1 53 = .ok (.aload_n 0, 1) := by decide +kernel
theorem dc_Ru_answer_54 : decode M_Ru_answer.2.1 54 = .ok (.invokevirtual 91, 3) := by decide +kernel
theorem dc_Ru_answer_57 : decode M_Ru_answer.2.1 57 = .ok (.ireturn, 1) := by decide +kernel
def f_Ru_answer_L23 (a0 : Nat) (a1 : Int32) : Nat → Int32 → xH → (Int32 → xH → Option (Int32 × xH)) → Option (Int32 × xH)
  | 0, _, _, _ => none
  | n + 1, a2, h, K => gd (hK h a0 = 2) (gd (hK h (hR h a0 5) = 7) (Option.bind (f_Te_end (hR h a0 5) a1 h) (fun q19 => if q19.1 ≤ a2 then K a2 q19.2 else gd (hK q19.2 a0 = 2) (gd (hK q19.2 (hR q19.2 a0 5) = 7) (Option.bind (f_Te_code (hR q19.2 a0 5) a2 q19.2) (fun q23 => gd (hK q23.2 a0 = 2) (Option.bind (f_Ru_step a0 q23.1 q23.2) (fun q25 => f_Ru_answer_L23 a0 a1 n (a2 + (1 : Int32)) q25.2 K))))))))
def f_Ru_answer (a0 : Nat) (a1 : Int32) (h : xH) : Option (Int32 × xH) := gd (hK h a0 = 2) (if (hR h a0 5) = 0 then some ((0 : Int32), h) else gd (hK h (hR h a0 5) = 7) (Option.bind (f_Te_begin (hR h a0 5) a1 (hIu h a0 4 (0 : Int32))) (fun q16 => f_Ru_answer_L23 a0 a1 fu q16.1 q16.2 (fun v27 h28 => gd (hK h28 a0 = 2) (Option.bind (f_Ru_pop a0 h28) (fun q29 => some (q29.1, q29.2)))))))
theorem t_Ru_answer_L23 {l : Launch} {z : xZ} {d mc ms : Nat} {Ph : Option xV → xH → Prop} {a0 : Nat} {a1 : Int32}  (hd : 3 ≤ d) : ∀ (n : Nat) (a2 : Int32) (h : xH) (K : Int32 → xH → Option (Int32 × xH)), OK (f_Ru_answer_L23 a0 a1 n a2 h K) (fun q => Ph (some (xI q.1)) q.2) → (∀ (a2 : Int32) (h : xH), OK (K a2 h) (fun q => Ph (some (xI q.1)) q.2) → Sx l z d mc ms M_Ru_answer 53 [some (xR a0), some (xI a1), some (xI a2)] [] h Ph) → Sx l z d mc ms M_Ru_answer 23 [some (xR a0), some (xI a1), some (xI a2)] [] h Ph := by
  intro n
  induction n with
  | zero => intro a2 h K hk hE; exact hk.no
  | succ n ih =>
    intro a2 h K hk hE
    rw [f_Ru_answer_L23] at hk
    refine sx_iload_n dc_Ru_answer_23 rfl ?_
    refine sx_aload_n dc_Ru_answer_24 rfl ?_
    obtain ⟨g18, hk⟩ := hk.g
    refine sx_get (ci := 2) (k := 5) rfl (by decide) wF_Ru_24 g18 dc_Ru_answer_25 ?_
    refine sx_iload_n dc_Ru_answer_28 rfl ?_
    obtain ⟨g20, hk⟩ := hk.g
    obtain ⟨q19, eq19, hk⟩ := hk.bind
    refine sx_callV (d2 := d - 1) (mc2 := 0) (ms2 := 0) (as := [xI a1]) mk_Te_end rfl (x_rk (ci := 7) g20 rfl rfl) wM_Ru_81 mi_Te_end me_Te_end rfl (Nat.le_of_ble_eq_true rfl) (Nat.le_of_ble_eq_true rfl) dc_Ru_answer_29 (by omega) (Nat.zero_le _) (Nat.zero_le _) ?_
    refine t_Te_end (by omega) ⟨q19, eq19, ?_⟩
    refine sx_eq0 (lc2 := [some (xR a0), some (xI a1), some (xI a2)]) (st2 := [xI q19.1, xI a2]) rfl rfl ?_
    refine sx_icmp_ge (tgt := 53) dc_Ru_answer_32 (by decide) (fun c21 => ?_) (fun c21 => ?_)
    · replace hk := hk.t c21
      exact hE a2 q19.2 hk
    · replace hk := hk.f c21
      refine sx_aload_n dc_Ru_answer_35 rfl ?_
      refine sx_aload_n dc_Ru_answer_36 rfl ?_
      obtain ⟨g22, hk⟩ := hk.g
      refine sx_get (ci := 2) (k := 5) rfl (by decide) wF_Ru_24 g22 dc_Ru_answer_37 ?_
      refine sx_iload_n dc_Ru_answer_40 rfl ?_
      obtain ⟨g24, hk⟩ := hk.g
      obtain ⟨q23, eq23, hk⟩ := hk.bind
      refine sx_callV (d2 := d - 1) (mc2 := 0) (ms2 := 0) (as := [xI a2]) mk_Te_code rfl (x_rk (ci := 7) g24 rfl rfl) wM_Ru_84 mi_Te_code me_Te_code rfl (Nat.le_of_ble_eq_true rfl) (Nat.le_of_ble_eq_true rfl) dc_Ru_answer_41 (by omega) (Nat.zero_le _) (Nat.zero_le _) ?_
      refine t_Te_code (by omega) ⟨q23, eq23, ?_⟩
      refine sx_eq0 (lc2 := [some (xR a0), some (xI a1), some (xI a2)]) (st2 := [xI q23.1, xR a0]) rfl rfl ?_
      obtain ⟨g26, hk⟩ := hk.g
      obtain ⟨q25, eq25, hk⟩ := hk.bind
      refine sx_callV (d2 := d - 1) (mc2 := 0) (ms2 := 0) (as := [xI q23.1]) mk_Ru_step rfl (x_rk (ci := 2) g26 rfl rfl) wM_Ru_87 mi_Ru_step me_Ru_step rfl (Nat.le_of_ble_eq_true rfl) (Nat.le_of_ble_eq_true rfl) dc_Ru_answer_44 (by omega) (Nat.zero_le _) (Nat.zero_le _) ?_
      refine t_Ru_step (by omega) ⟨q25, eq25, ?_⟩
      refine sx_eq0 (lc2 := [some (xR a0), some (xI a1), some (xI a2)]) (st2 := []) rfl rfl ?_
      refine sx_iinc (v := (1 : Int32)) dc_Ru_answer_47 rfl (by decide) (by decide) (sx_eq (lc2 := [some (xR a0), some (xI a1), some (xI (a2 + (1 : Int32)))]) rfl rfl ?_)
      refine sx_goto (tgt := 23) dc_Ru_answer_50 (by decide) ?_
      exact ih (a2 + (1 : Int32)) q25.2 _ hk hE
theorem t_Ru_answer {l : Launch} {z : xZ} {d mc ms : Nat} {Ph : Option xV → xH → Prop} {a0 : Nat} {a1 : Int32}  {h : xH} (hd : 3 ≤ d) (hk : OK (f_Ru_answer a0 a1 h) (fun q => Ph (some (xI q.1)) q.2)) : Sx l z d mc ms M_Ru_answer 0 (x_en [xR a0, xI a1] 3) [] h Ph := by
  unfold f_Ru_answer at hk
  refine sx_eq (lc2 := [some (xR a0), some (xI a1), none]) rfl rfl ?_
  refine sx_aload_n dc_Ru_answer_0 rfl ?_
  obtain ⟨g14, hk⟩ := hk.g
  refine sx_get (ci := 2) (k := 5) rfl (by decide) wF_Ru_24 g14 dc_Ru_answer_1 ?_
  refine sx_ifnonnull (tgt := 9) dc_Ru_answer_4 (by decide) (fun c15 => ?_) (fun c15 => ?_)
  · replace hk := hk.f c15
    refine sx_aload_n dc_Ru_answer_9 rfl ?_
    refine sx_iconst (v := (0 : Int32)) dc_Ru_answer_10 (by decide) ?_
    refine sx_putI (ci := 2) (k := 4) rfl (by decide) wF_Ru_75 rfl g14 (Or.inl rfl) dc_Ru_answer_11 ?_
    refine sx_aload_n dc_Ru_answer_14 rfl ?_
    refine sx_get (ci := 2) (k := 5) rfl (by decide) wF_Ru_24 g14 dc_Ru_answer_15 ?_
    refine sx_iload_n dc_Ru_answer_18 rfl ?_
    obtain ⟨g17, hk⟩ := hk.g
    obtain ⟨q16, eq16, hk⟩ := hk.bind
    refine sx_callV (d2 := d - 1) (mc2 := 0) (ms2 := 0) (as := [xI a1]) mk_Te_begin rfl (x_rk (ci := 7) g17 rfl rfl) wM_Ru_78 mi_Te_begin me_Te_begin rfl (Nat.le_of_ble_eq_true rfl) (Nat.le_of_ble_eq_true rfl) dc_Ru_answer_19 (by omega) (Nat.zero_le _) (Nat.zero_le _) ?_
    refine t_Te_begin (by omega) ⟨q16, eq16, ?_⟩
    refine sx_eq0 (lc2 := [some (xR a0), some (xI a1), none]) (st2 := [xI q16.1]) rfl rfl ?_
    refine sx_istore_n dc_Ru_answer_22 (by decide) (sx_eq (lc2 := [some (xR a0), some (xI a1), some (xI q16.1)]) rfl rfl ?_)
    refine t_Ru_answer_L23 (by omega) _ _ _ _ hk (fun v27 h28 hk => ?_)
    refine sx_aload_n dc_Ru_answer_53 rfl ?_
    obtain ⟨g30, hk⟩ := hk.g
    obtain ⟨q29, eq29, hk⟩ := hk.bind
    refine sx_callV (d2 := d - 1) (mc2 := 0) (ms2 := 0) (as := []) mk_Ru_pop rfl (x_rk (ci := 2) g30 rfl rfl) wM_Ru_91 mi_Ru_pop me_Ru_pop rfl (Nat.le_of_ble_eq_true rfl) (Nat.le_of_ble_eq_true rfl) dc_Ru_answer_54 (by omega) (Nat.zero_le _) (Nat.zero_le _) ?_
    refine t_Ru_pop (by omega) ⟨q29, eq29, ?_⟩
    refine sx_eq0 (lc2 := [some (xR a0), some (xI a1), some (xI v27)]) (st2 := [xI q29.1]) rfl rfl ?_
    exact sx_retI dc_Ru_answer_57 rfl hk.val
  · replace hk := hk.t c15
    refine sx_iconst (v := (0 : Int32)) dc_Ru_answer_7 (by decide) ?_
    exact sx_retI dc_Ru_answer_8 rfl hk.val
theorem dc_Ru_bounded_0 : decode M_Ru_bounded.2.1 0 = .ok (.iconst 0, 1) := by decide +kernel
theorem dc_Ru_bounded_1 : decode M_Ru_bounded.2.1 1 = .ok (.bipush 99, 2) := by decide +kernel
theorem dc_Ru_bounded_3 : decode M_Ru_bounded.2.1 3 = .ok (.iload_n 0, 1) := by decide +kernel
theorem dc_Ru_bounded_4 : decode M_Ru_bounded.2.1 4 = .ok (.invokestatic 62, 3) := by decide +kernel
theorem dc_Ru_bounded_7 : decode M_Ru_bounded.2.1 7 = .ok (.invokestatic 68, 3) := by decide +kernel
theorem dc_Ru_bounded_10 : decode M_Ru_bounded.2.1 10 = .ok (.ireturn, 1) := by decide +kernel
def f_Ru_bounded (a0 : Int32) (h : xH) : Option (Int32 × xH) := some (jMax (0 : Int32) (jMin (99 : Int32) a0), h)
theorem t_Ru_bounded {l : Launch} {z : xZ} {d mc ms : Nat} {Ph : Option xV → xH → Prop} {a0 : Int32}  {h : xH} (hd : 2 ≤ d) (hk : OK (f_Ru_bounded a0 h) (fun q => Ph (some (xI q.1)) q.2)) : Sx l z d mc ms M_Ru_bounded 0 (x_en [xI a0] 1) [] h Ph := by
  unfold f_Ru_bounded at hk
  refine sx_eq (lc2 := [some (xI a0)]) rfl rfl ?_
  refine sx_iconst (v := (0 : Int32)) dc_Ru_bounded_0 (by decide) ?_
  refine sx_bipush (v := (99 : Int32)) dc_Ru_bounded_1 (by decide) ?_
  refine sx_iload_n dc_Ru_bounded_3 rfl ?_
  refine sx_min wM_Ru_62 mt_Mt_min wT_Mt wV_min (Nat.le_of_ble_eq_true rfl) (by omega) dc_Ru_bounded_4 ?_
  refine sx_max wM_Ru_68 mt_Mt_max wT_Mt wV_max (Nat.le_of_ble_eq_true rfl) (by omega) dc_Ru_bounded_7 ?_
  exact sx_retI dc_Ru_bounded_10 rfl hk.val
theorem dc_Ru_costs_0 : decode M_Ru_costs.2.1 0 = .ok (.aload_n 0, 1) := by decide +kernel
theorem dc_Ru_costs_1 : decode M_Ru_costs.2.1 1 = .ok (.getfield 20, 3) := by decide +kernel
theorem dc_Ru_costs_4 : decode M_Ru_costs.2.1 4 = .ok (.iload_n 1, 1) := by decide +kernel
theorem dc_Ru_costs_5 : decode M_Ru_costs.2.1 5 = .ok (.invokevirtual 38, 3) := by decide +kernel
theorem dc_Ru_costs_8 : decode M_Ru_costs.2.1 8 = .ok (.istore_n 2, 1) := by decide +kernel
theorem dc_Ru_costs_9 : decode M_Ru_costs.2.1 9 = .ok (.aload_n 0, 1) := by decide +kernel
theorem dc_Ru_costs_10 : decode M_Ru_costs.2.1 10 = .ok (.aload_n 0, 1) := by decide +kernel
theorem dc_Ru_costs_11 : decode M_Ru_costs.2.1 11 = .ok (.getfield 16, 3) := by decide +kernel
theorem dc_Ru_costs_14 : decode M_Ru_costs.2.1 14 = .ok (.iload_n 1, 1) := by decide +kernel
theorem dc_Ru_costs_15 : decode M_Ru_costs.2.1 15 = .ok (.invokevirtual 43, 3) := by decide +kernel
theorem dc_Ru_costs_18 : decode M_Ru_costs.2.1 18 = .ok (.aload_n 0, 1) := by decide +kernel
theorem dc_Ru_costs_19 : decode M_Ru_costs.2.1 19 = .ok (.getfield 16, 3) := by decide +kernel
theorem dc_Ru_costs_22 : decode M_Ru_costs.2.1 22 = .ok (.iload_n 1, 1) := by decide +kernel
theorem dc_Ru_costs_23 : decode M_Ru_costs.2.1 23 = .ok (.invokevirtual 48, 3) := by decide +kernel
theorem dc_Ru_costs_26 : decode M_Ru_costs.2.1 26 = .ok (.iconst 0, 1) := by decide +kernel
theorem dc_Ru_costs_27 : decode M_Ru_costs.2.1 27 = .ok (.iload_n 2, 1) := by decide +kernel
theorem dc_Ru_costs_28 : decode M_Ru_costs.2.1 28 = .ok (.iconst 1, 1) := by decide +kernel
theorem dc_Ru_costs_29 : decode M_Ru_costs.2.1 29 = .ok (.if_icmp .ne 7, 3) := by decide +kernel
theorem dc_Ru_costs_32 : decode M_Ru_costs.2.1 32 = .ok (.iconst 1, 1) := by decide +kernel
theorem dc_Ru_costs_33 : decode M_Ru_costs.2.1 33 = .ok (.goto 4, 3) := by decide +kernel
theorem dc_Ru_costs_36 : decode M_Ru_costs.2.1 36 = .ok (.iconst 0, 1) := by decide +kernel
theorem dc_Ru_costs_37 : decode M_Ru_costs.2.1 37 = .ok (.iload_n 2, 1) := by decide +kernel
theorem dc_Ru_costs_38 : decode M_Ru_costs.2.1 38 = .ok (.iconst 2, 1) := by decide +kernel
theorem dc_Ru_costs_39 : decode M_Ru_costs.2.1 39 = .ok (.if_icmp .ne 7, 3) := by decide +kernel
theorem dc_Ru_costs_42 : decode M_Ru_costs.2.1 42 = .ok (.iconst 0, 1) := by decide +kernel
theorem dc_Ru_costs_43 : decode M_Ru_costs.2.1 43 = .ok (.goto 4, 3) := by decide +kernel
theorem dc_Ru_costs_46 : decode M_Ru_costs.2.1 46 = .ok (.iconst 1, 1) := by decide +kernel
theorem dc_Ru_costs_47 : decode M_Ru_costs.2.1 47 = .ok (.invokevirtual 28, 3) := by decide +kernel
theorem dc_Ru_costs_50 : decode M_Ru_costs.2.1 50 = .ok (.aload_n 0, 1) := by decide +kernel
theorem dc_Ru_costs_51 : decode M_Ru_costs.2.1 51 = .ok (.iconst 1, 1) := by decide +kernel
theorem dc_Ru_costs_52 : decode M_Ru_costs.2.1 52 = .ok (.invokevirtual 34, 3) := by decide +kernel
theorem dc_Ru_costs_55 : decode M_Ru_costs.2.1 55 = .ok (.invokestatic 51, 3) := by decide +kernel
theorem dc_Ru_costs_58 : decode M_Ru_costs.2.1 58 = .ok (.ireturn, 1) := by decide +kernel
def f_Ru_costs (a0 : Nat) (a1 : Int32) (h : xH) : Option (Int32 × xH) := gd (hK h a0 = 2) (gd (hK h (hR h a0 1) = 6) (Option.bind (f_Ta_look (hR h a0 1) a1 h) (fun q16 => gd (hK q16.2 a0 = 2) (gd (hK q16.2 (hR q16.2 a0 0) = 3) (Option.bind (f_Se_lower (hR q16.2 a0 0) a1 q16.2) (fun q19 => gd (hK q19.2 a0 = 2) (gd (hK q19.2 (hR q19.2 a0 0) = 3) (Option.bind (f_Se_higher (hR q19.2 a0 0) a1 q19.2) (fun q22 => gd (hK q22.2 a0 = 2) (Option.bind (f_Ru_name a0 q19.1 q22.1 (0 : Int32) (if q16.1 = (1 : Int32) then (1 : Int32) else (0 : Int32)) (if q16.1 = (2 : Int32) then (0 : Int32) else (1 : Int32)) q22.2) (fun q28 => gd (hK q28.2 a0 = 2) (Option.bind (f_Ru_answer a0 (1 : Int32) q28.2) (fun q30 => Option.bind (f_Ru_bounded q30.1 q30.2) (fun q32 => some (q32.1, q32.2)))))))))))))))
theorem t_Ru_costs {l : Launch} {z : xZ} {d mc ms : Nat} {Ph : Option xV → xH → Prop} {a0 : Nat} {a1 : Int32}  {h : xH} (hd : 4 ≤ d) (hk : OK (f_Ru_costs a0 a1 h) (fun q => Ph (some (xI q.1)) q.2)) : Sx l z d mc ms M_Ru_costs 0 (x_en [xR a0, xI a1] 3) [] h Ph := by
  unfold f_Ru_costs at hk
  refine sx_eq (lc2 := [some (xR a0), some (xI a1), none]) rfl rfl ?_
  refine sx_aload_n dc_Ru_costs_0 rfl ?_
  obtain ⟨g15, hk⟩ := hk.g
  refine sx_get (ci := 2) (k := 1) rfl (by decide) wF_Ru_20 g15 dc_Ru_costs_1 ?_
  refine sx_iload_n dc_Ru_costs_4 rfl ?_
  obtain ⟨g17, hk⟩ := hk.g
  obtain ⟨q16, eq16, hk⟩ := hk.bind
  refine sx_callV (d2 := d - 1) (mc2 := 0) (ms2 := 0) (as := [xI a1]) mk_Ta_look rfl (x_rk (ci := 6) g17 rfl rfl) wM_Ru_38 mi_Ta_look me_Ta_look rfl (Nat.le_of_ble_eq_true rfl) (Nat.le_of_ble_eq_true rfl) dc_Ru_costs_5 (by omega) (Nat.zero_le _) (Nat.zero_le _) ?_
  refine t_Ta_look (by omega) ⟨q16, eq16, ?_⟩
  refine sx_eq0 (lc2 := [some (xR a0), some (xI a1), none]) (st2 := [xI q16.1]) rfl rfl ?_
  refine sx_istore_n dc_Ru_costs_8 (by decide) (sx_eq (lc2 := [some (xR a0), some (xI a1), some (xI q16.1)]) rfl rfl ?_)
  refine sx_aload_n dc_Ru_costs_9 rfl ?_
  refine sx_aload_n dc_Ru_costs_10 rfl ?_
  obtain ⟨g18, hk⟩ := hk.g
  refine sx_get (ci := 2) (k := 0) rfl (by decide) wF_Ru_16 g18 dc_Ru_costs_11 ?_
  refine sx_iload_n dc_Ru_costs_14 rfl ?_
  obtain ⟨g20, hk⟩ := hk.g
  obtain ⟨q19, eq19, hk⟩ := hk.bind
  refine sx_callV (d2 := d - 1) (mc2 := 0) (ms2 := 0) (as := [xI a1]) mk_Se_lower rfl (x_rk (ci := 3) g20 rfl rfl) wM_Ru_43 mi_Se_lower me_Se_lower rfl (Nat.le_of_ble_eq_true rfl) (Nat.le_of_ble_eq_true rfl) dc_Ru_costs_15 (by omega) (Nat.zero_le _) (Nat.zero_le _) ?_
  refine t_Se_lower (by omega) ⟨q19, eq19, ?_⟩
  refine sx_eq0 (lc2 := [some (xR a0), some (xI a1), some (xI q16.1)]) (st2 := [xI q19.1, xR a0]) rfl rfl ?_
  refine sx_aload_n dc_Ru_costs_18 rfl ?_
  obtain ⟨g21, hk⟩ := hk.g
  refine sx_get (ci := 2) (k := 0) rfl (by decide) wF_Ru_16 g21 dc_Ru_costs_19 ?_
  refine sx_iload_n dc_Ru_costs_22 rfl ?_
  obtain ⟨g23, hk⟩ := hk.g
  obtain ⟨q22, eq22, hk⟩ := hk.bind
  refine sx_callV (d2 := d - 1) (mc2 := 0) (ms2 := 0) (as := [xI a1]) mk_Se_higher rfl (x_rk (ci := 3) g23 rfl rfl) wM_Ru_48 mi_Se_higher me_Se_higher rfl (Nat.le_of_ble_eq_true rfl) (Nat.le_of_ble_eq_true rfl) dc_Ru_costs_23 (by omega) (Nat.zero_le _) (Nat.zero_le _) ?_
  refine t_Se_higher (by omega) ⟨q22, eq22, ?_⟩
  refine sx_eq0 (lc2 := [some (xR a0), some (xI a1), some (xI q16.1)]) (st2 := [xI q22.1, xI q19.1, xR a0]) rfl rfl ?_
  refine sx_iconst (v := (0 : Int32)) dc_Ru_costs_26 (by decide) ?_
  refine sx_iload_n dc_Ru_costs_27 rfl ?_
  refine sx_iconst (v := (1 : Int32)) dc_Ru_costs_28 (by decide) ?_
  refine sx_mg (pc2 := 37) (lc2 := [some (xR a0), some (xI a1), some (xI q16.1)]) (st2 := [xI (if q16.1 = (1 : Int32) then (1 : Int32) else (0 : Int32)), xI (0 : Int32), xI q22.1, xI q19.1, xR a0]) (h2 := q22.2) ?_ (fun J24 => ?_)
  · refine sx_iload_n dc_Ru_costs_37 rfl ?_
    refine sx_iconst (v := (2 : Int32)) dc_Ru_costs_38 (by decide) ?_
    refine sx_mg (pc2 := 47) (lc2 := [some (xR a0), some (xI a1), some (xI q16.1)]) (st2 := [xI (if q16.1 = (2 : Int32) then (0 : Int32) else (1 : Int32)), xI (if q16.1 = (1 : Int32) then (1 : Int32) else (0 : Int32)), xI (0 : Int32), xI q22.1, xI q19.1, xR a0]) (h2 := q22.2) ?_ (fun J26 => ?_)
    · obtain ⟨g29, hk⟩ := hk.g
      obtain ⟨q28, eq28, hk⟩ := hk.bind
      refine sx_callV (d2 := d - 1) (mc2 := 0) (ms2 := 0) (as := [xI q19.1, xI q22.1, xI (0 : Int32), xI (if q16.1 = (1 : Int32) then (1 : Int32) else (0 : Int32)), xI (if q16.1 = (2 : Int32) then (0 : Int32) else (1 : Int32))]) mk_Ru_name rfl (x_rk (ci := 2) g29 rfl rfl) wM_Ru_28 mi_Ru_name me_Ru_name rfl (Nat.le_of_ble_eq_true rfl) (Nat.le_of_ble_eq_true rfl) dc_Ru_costs_47 (by omega) (Nat.zero_le _) (Nat.zero_le _) ?_
      refine t_Ru_name (by omega) ⟨q28, eq28, ?_⟩
      refine sx_eq0 (lc2 := [some (xR a0), some (xI a1), some (xI q16.1)]) (st2 := []) rfl rfl ?_
      refine sx_aload_n dc_Ru_costs_50 rfl ?_
      refine sx_iconst (v := (1 : Int32)) dc_Ru_costs_51 (by decide) ?_
      obtain ⟨g31, hk⟩ := hk.g
      obtain ⟨q30, eq30, hk⟩ := hk.bind
      refine sx_callV (d2 := d - 1) (mc2 := 0) (ms2 := 0) (as := [xI (1 : Int32)]) mk_Ru_answer rfl (x_rk (ci := 2) g31 rfl rfl) wM_Ru_34 mi_Ru_answer me_Ru_answer rfl (Nat.le_of_ble_eq_true rfl) (Nat.le_of_ble_eq_true rfl) dc_Ru_costs_52 (by omega) (Nat.zero_le _) (Nat.zero_le _) ?_
      refine t_Ru_answer (by omega) ⟨q30, eq30, ?_⟩
      refine sx_eq0 (lc2 := [some (xR a0), some (xI a1), some (xI q16.1)]) (st2 := [xI q30.1]) rfl rfl ?_
      obtain ⟨q32, eq32, hk⟩ := hk.bind
      refine sx_callS (d2 := d - 1) (mc2 := 0) (ms2 := 0) (as := [xI q30.1]) mk_Ru_bounded rfl wM_Ru_51 mt_Ru_bounded rfl (Nat.le_of_ble_eq_true rfl) (Nat.le_of_ble_eq_true rfl) dc_Ru_costs_55 (by omega) (Nat.zero_le _) (Nat.zero_le _) ?_
      refine t_Ru_bounded (by omega) ⟨q32, eq32, ?_⟩
      refine sx_eq0 (lc2 := [some (xR a0), some (xI a1), some (xI q16.1)]) (st2 := [xI q32.1]) rfl rfl ?_
      exact sx_retI dc_Ru_costs_58 rfl hk.val
    · refine sx_icmp_ne (tgt := 46) dc_Ru_costs_39 (by decide) (fun c27 => ?_) (fun c27 => ?_)
      · try simp only [if_neg c27] at J26
        refine sx_iconst (v := (1 : Int32)) dc_Ru_costs_46 (by decide) ?_
        exact J26
      · try simp only [if_pos c27] at J26
        refine sx_iconst (v := (0 : Int32)) dc_Ru_costs_42 (by decide) ?_
        refine sx_goto (tgt := 47) dc_Ru_costs_43 (by decide) ?_
        exact J26
  · refine sx_icmp_ne (tgt := 36) dc_Ru_costs_29 (by decide) (fun c25 => ?_) (fun c25 => ?_)
    · try simp only [if_neg c25] at J24
      refine sx_iconst (v := (0 : Int32)) dc_Ru_costs_36 (by decide) ?_
      exact J24
    · try simp only [if_pos c25] at J24
      refine sx_iconst (v := (1 : Int32)) dc_Ru_costs_32 (by decide) ?_
      refine sx_goto (tgt := 37) dc_Ru_costs_33 (by decide) ?_
      exact J24
theorem dc_Se_three_0 : decode M_Se_three.2.1 0 = .ok (.iload_n 1, 1) := by decide +kernel
theorem dc_Se_three_1 : decode M_Se_three.2.1 1 = .ok (.ifCond .lt 18, 3) := by decide +kernel
theorem dc_Se_three_4 : decode M_Se_three.2.1 4 = .ok (.iload_n 1, 1) := by decide +kernel
theorem dc_Se_three_5 : decode M_Se_three.2.1 5 = .ok (.bipush 35, 2) := by decide +kernel
theorem dc_Se_three_7 : decode M_Se_three.2.1 7 = .ok (.if_icmp .ge 12, 3) := by decide +kernel
theorem dc_Se_three_10 : decode M_Se_three.2.1 10 = .ok (.aload_n 0, 1) := by decide +kernel
theorem dc_Se_three_11 : decode M_Se_three.2.1 11 = .ok (.getfield 19, 3) := by decide +kernel
theorem dc_Se_three_14 : decode M_Se_three.2.1 14 = .ok (.iload_n 1, 1) := by decide +kernel
theorem dc_Se_three_15 : decode M_Se_three.2.1 15 = .ok (.iaload, 1) := by decide +kernel
theorem dc_Se_three_16 : decode M_Se_three.2.1 16 = .ok (.goto 4, 3) := by decide +kernel
theorem dc_Se_three_19 : decode M_Se_three.2.1 19 = .ok (.iconst 0, 1) := by decide +kernel
theorem dc_Se_three_20 : decode M_Se_three.2.1 20 = .ok (.ireturn, 1) := by decide +kernel
def f_Se_three (a0 : Nat) (a1 : Int32) (h : xH) : Option (Int32 × xH) := jn (fun (x4 : Int32) => some (x4, h)) (fun k5 => jn (fun (x6 : Unit) => k5 (0 : Int32)) (fun k7 => if a1 < 0 then k7 () else if (35 : Int32) ≤ a1 then k7 () else gd (hK h a0 = 3) (gd (hK h (hR h a0 3) = 12) (gd (¬ (a1 < 0 ∨ hL h (hR h a0 3) ≤ a1.toNatClampNeg)) (k5 (hI h (hR h a0 3) a1.toNatClampNeg))))))
theorem t_Se_three {l : Launch} {z : xZ} {d mc ms : Nat} {Ph : Option xV → xH → Prop} {a0 : Nat} {a1 : Int32}  {h : xH} (hd : 1 ≤ d) (hk : OK (f_Se_three a0 a1 h) (fun q => Ph (some (xI q.1)) q.2)) : Sx l z d mc ms M_Se_three 0 (x_en [xR a0, xI a1] 2) [] h Ph := by
  unfold f_Se_three at hk
  refine sx_eq (lc2 := [some (xR a0), some (xI a1)]) rfl rfl ?_
  refine sx_iload_n dc_Se_three_0 rfl ?_
  refine hk.j (X := fun x4 => Sx l z d mc ms M_Se_three 20 [some (xR a0), some (xI a1)] [xI x4] h Ph) (fun x4 hk => ?_) (fun k5 jk5 hk => ?_)
  · exact sx_retI dc_Se_three_20 rfl hk.val
  · refine hk.j (X := fun x6 => Sx l z d mc ms M_Se_three 19 [some (xR a0), some (xI a1)] [] h Ph) (fun x6 hk => ?_) (fun k7 jk7 hk => ?_)
    · refine sx_iconst (v := (0 : Int32)) dc_Se_three_19 (by decide) ?_
      exact jk5 (0 : Int32) hk
    · refine sx_if_lt (tgt := 19) dc_Se_three_1 (by decide) (fun c8 => ?_) (fun c8 => ?_)
      · replace hk := hk.t c8
        exact jk7 () hk
      · replace hk := hk.f c8
        refine sx_iload_n dc_Se_three_4 rfl ?_
        refine sx_bipush (v := (35 : Int32)) dc_Se_three_5 (by decide) ?_
        refine sx_icmp_ge (tgt := 19) dc_Se_three_7 (by decide) (fun c9 => ?_) (fun c9 => ?_)
        · replace hk := hk.t c9
          exact jk7 () hk
        · replace hk := hk.f c9
          refine sx_aload_n dc_Se_three_10 rfl ?_
          obtain ⟨g10, hk⟩ := hk.g
          refine sx_get (ci := 3) (k := 3) rfl (by decide) wF_Se_19 g10 dc_Se_three_11 ?_
          refine sx_iload_n dc_Se_three_14 rfl ?_
          obtain ⟨g11, hk⟩ := hk.g
          obtain ⟨g12, hk⟩ := hk.g
          refine sx_iald g11 g12 dc_Se_three_15 ?_
          refine sx_goto (tgt := 20) dc_Se_three_16 (by decide) ?_
          exact jk5 (hI h (hR h a0 3) a1.toNatClampNeg) hk
theorem dc_Se_within_0 : decode M_Se_within.2.1 0 = .ok (.iload_n 1, 1) := by decide +kernel
theorem dc_Se_within_1 : decode M_Se_within.2.1 1 = .ok (.ifCond .lt 19, 3) := by decide +kernel
theorem dc_Se_within_4 : decode M_Se_within.2.1 4 = .ok (.iload_n 1, 1) := by decide +kernel
theorem dc_Se_within_5 : decode M_Se_within.2.1 5 = .ok (.sipush 128, 3) := by decide +kernel
theorem dc_Se_within_8 : decode M_Se_within.2.1 8 = .ok (.if_icmp .ge 12, 3) := by decide +kernel
theorem dc_Se_within_11 : decode M_Se_within.2.1 11 = .ok (.aload_n 0, 1) := by decide +kernel
theorem dc_Se_within_12 : decode M_Se_within.2.1 12 = .ok (.getfield 9, 3) := by decide +kernel
theorem dc_Se_within_15 : decode M_Se_within.2.1 15 = .ok (.iload_n 1, 1) := by decide +kernel
theorem dc_Se_within_16 : decode M_Se_within.2.1 16 = .ok (.iaload, 1) := by decide +kernel
theorem dc_Se_within_17 : decode M_Se_within.2.1 17 = .ok (.goto 4, 3) := by decide +kernel
theorem dc_Se_within_20 : decode M_Se_within.2.1 20 = .ok (.iconst 0, 1) := by decide +kernel
theorem dc_Se_within_21 : decode M_Se_within.2.1 21 = .ok (.ireturn, 1) := by decide +kernel
def f_Se_within (a0 : Nat) (a1 : Int32) (h : xH) : Option (Int32 × xH) := jn (fun (x4 : Int32) => some (x4, h)) (fun k5 => jn (fun (x6 : Unit) => k5 (0 : Int32)) (fun k7 => if a1 < 0 then k7 () else if (128 : Int32) ≤ a1 then k7 () else gd (hK h a0 = 3) (gd (hK h (hR h a0 0) = 12) (gd (¬ (a1 < 0 ∨ hL h (hR h a0 0) ≤ a1.toNatClampNeg)) (k5 (hI h (hR h a0 0) a1.toNatClampNeg))))))
theorem t_Se_within {l : Launch} {z : xZ} {d mc ms : Nat} {Ph : Option xV → xH → Prop} {a0 : Nat} {a1 : Int32}  {h : xH} (hd : 1 ≤ d) (hk : OK (f_Se_within a0 a1 h) (fun q => Ph (some (xI q.1)) q.2)) : Sx l z d mc ms M_Se_within 0 (x_en [xR a0, xI a1] 2) [] h Ph := by
  unfold f_Se_within at hk
  refine sx_eq (lc2 := [some (xR a0), some (xI a1)]) rfl rfl ?_
  refine sx_iload_n dc_Se_within_0 rfl ?_
  refine hk.j (X := fun x4 => Sx l z d mc ms M_Se_within 21 [some (xR a0), some (xI a1)] [xI x4] h Ph) (fun x4 hk => ?_) (fun k5 jk5 hk => ?_)
  · exact sx_retI dc_Se_within_21 rfl hk.val
  · refine hk.j (X := fun x6 => Sx l z d mc ms M_Se_within 20 [some (xR a0), some (xI a1)] [] h Ph) (fun x6 hk => ?_) (fun k7 jk7 hk => ?_)
    · refine sx_iconst (v := (0 : Int32)) dc_Se_within_20 (by decide) ?_
      exact jk5 (0 : Int32) hk
    · refine sx_if_lt (tgt := 20) dc_Se_within_1 (by decide) (fun c8 => ?_) (fun c8 => ?_)
      · replace hk := hk.t c8
        exact jk7 () hk
      · replace hk := hk.f c8
        refine sx_iload_n dc_Se_within_4 rfl ?_
        refine sx_sipush (v := (128 : Int32)) dc_Se_within_5 (by decide) ?_
        refine sx_icmp_ge (tgt := 20) dc_Se_within_8 (by decide) (fun c9 => ?_) (fun c9 => ?_)
        · replace hk := hk.t c9
          exact jk7 () hk
        · replace hk := hk.f c9
          refine sx_aload_n dc_Se_within_11 rfl ?_
          obtain ⟨g10, hk⟩ := hk.g
          refine sx_get (ci := 3) (k := 0) rfl (by decide) wF_Se_9 g10 dc_Se_within_12 ?_
          refine sx_iload_n dc_Se_within_15 rfl ?_
          obtain ⟨g11, hk⟩ := hk.g
          obtain ⟨g12, hk⟩ := hk.g
          refine sx_iald g11 g12 dc_Se_within_16 ?_
          refine sx_goto (tgt := 21) dc_Se_within_17 (by decide) ?_
          exact jk5 (hI h (hR h a0 0) a1.toNatClampNeg) hk
theorem dc_St_stands_0 : decode M_St_stands.2.1 0 = .ok (.iload_n 1, 1) := by decide +kernel
theorem dc_St_stands_1 : decode M_St_stands.2.1 1 = .ok (.ifCond .lt 10, 3) := by decide +kernel
theorem dc_St_stands_4 : decode M_St_stands.2.1 4 = .ok (.iload_n 1, 1) := by decide +kernel
theorem dc_St_stands_5 : decode M_St_stands.2.1 5 = .ok (.sipush 128, 3) := by decide +kernel
theorem dc_St_stands_8 : decode M_St_stands.2.1 8 = .ok (.if_icmp .lt 5, 3) := by decide +kernel
theorem dc_St_stands_11 : decode M_St_stands.2.1 11 = .ok (.iconst 0, 1) := by decide +kernel
theorem dc_St_stands_12 : decode M_St_stands.2.1 12 = .ok (.ireturn, 1) := by decide +kernel
theorem dc_St_stands_13 : decode M_St_stands.2.1 13 = .ok (.aload_n 0, 1) := by decide +kernel
theorem dc_St_stands_14 : decode M_St_stands.2.1 14 = .ok (.getfield 18, 3) := by decide +kernel
theorem dc_St_stands_17 : decode M_St_stands.2.1 17 = .ok (.iload_n 1, 1) := by decide +kernel
theorem dc_St_stands_18 : decode M_St_stands.2.1 18 = .ok (.invokevirtual 40, 3) := by decide +kernel
theorem dc_St_stands_21 : decode M_St_stands.2.1 21 = .ok (.istore 4, 2) := by decide +kernel
theorem dc_St_stands_23 : decode M_St_stands.2.1 23 = .ok (.iload_n 2, 1) := by decide +kernel
theorem dc_St_stands_24 : decode M_St_stands.2.1 24 = .ok (.iload 4, 2) := by decide +kernel
theorem dc_St_stands_26 : decode M_St_stands.2.1 26 = .ok (.iand, 1) := by decide +kernel
theorem dc_St_stands_27 : decode M_St_stands.2.1 27 = .ok (.iload 4, 2) := by decide +kernel
theorem dc_St_stands_29 : decode M_St_stands.2.1 29 = .ok (.if_icmp .ne 12, 3) := by decide +kernel
theorem dc_St_stands_32 : decode M_St_stands.2.1 32 = .ok (.aload_n 0, 1) := by decide +kernel
theorem dc_St_stands_33 : decode M_St_stands.2.1 33 = .ok (.getfield 9, 3) := by decide +kernel
theorem dc_St_stands_36 : decode M_St_stands.2.1 36 = .ok (.iload_n 1, 1) := by decide +kernel
theorem dc_St_stands_37 : decode M_St_stands.2.1 37 = .ok (.baload, 1) := by decide +kernel
theorem dc_St_stands_38 : decode M_St_stands.2.1 38 = .ok (.ifCond .ne 21, 3) := by decide +kernel
theorem dc_St_stands_41 : decode M_St_stands.2.1 41 = .ok (.iload_n 3, 1) := by decide +kernel
theorem dc_St_stands_42 : decode M_St_stands.2.1 42 = .ok (.iload 4, 2) := by decide +kernel
theorem dc_St_stands_44 : decode M_St_stands.2.1 44 = .ok (.iand, 1) := by decide +kernel
theorem dc_St_stands_45 : decode M_St_stands.2.1 45 = .ok (.iload 4, 2) := by decide +kernel
theorem dc_St_stands_47 : decode M_St_stands.2.1 47 = .ok (.if_icmp .ne 16, 3) := by decide +kernel
theorem dc_St_stands_50 : decode M_St_stands.2.1 50 = .ok (.aload_n 0, 1) := by decide +kernel
theorem dc_St_stands_51 : decode M_St_stands.2.1 51 = .ok (.getfield 15, 3) := by decide +kernel
theorem dc_St_stands_54 : decode M_St_stands.2.1 54 = .ok (.iload_n 1, 1) := by decide +kernel
theorem dc_St_stands_55 : decode M_St_stands.2.1 55 = .ok (.baload, 1) := by decide +kernel
theorem dc_St_stands_56 : decode M_St_stands.2.1 56 = .ok (.ifCond .eq 7, 3) := by decide +kernel
theorem dc_St_stands_59 : decode M_St_stands.2.1 59 = .ok (.iconst 1, 1) := by decide +kernel
theorem dc_St_stands_60 : decode M_St_stands.2.1 60 = .ok (.goto 4, 3) := by decide +kernel
theorem dc_St_stands_63 : decode M_St_stands.2.1 63 = .ok (.iconst 0, 1) := by decide +kernel
theorem dc_St_stands_64 : decode M_St_stands.2.1 64 = .ok (.ireturn, 1) := by decide +kernel
def f_St_stands (a0 : Nat) (a1 : Int32) (a2 : Int32) (a3 : Int32) (h : xH) : Option (Int32 × xH) := jn (fun (x10 : Unit) => some ((0 : Int32), h)) (fun k11 => if a1 < 0 then k11 () else if a1 < (128 : Int32) then gd (hK h a0 = 5) (gd (hK h (hR h a0 0) = 3) (Option.bind (f_Se_within (hR h a0 0) a1 h) (fun q15 => jn (fun (x17 : Int32) => some (nb x17, q15.2)) (fun k18 => jn (fun (x19 : Unit) => k18 (1 : Int32)) (fun k20 => jn (fun (x21 : Unit) => jn (fun (x23 : Unit) => k18 (0 : Int32)) (fun k24 => if (a3 &&& q15.1) = q15.1 then gd (hK q15.2 a0 = 5) (gd (hK q15.2 (hR q15.2 a0 2) = 13) (gd (¬ (a1 < 0 ∨ hL q15.2 (hR q15.2 a0 2) ≤ a1.toNatClampNeg)) (if (hI q15.2 (hR q15.2 a0 2) a1.toNatClampNeg) = 0 then k24 () else k20 ()))) else k24 ())) (fun k22 => if (a2 &&& q15.1) = q15.1 then gd (hK q15.2 a0 = 5) (gd (hK q15.2 (hR q15.2 a0 1) = 13) (gd (¬ (a1 < 0 ∨ hL q15.2 (hR q15.2 a0 1) ≤ a1.toNatClampNeg)) (if (hI q15.2 (hR q15.2 a0 1) a1.toNatClampNeg) = 0 then k22 () else k20 ()))) else k22 ())))))) else k11 ())
theorem t_St_stands {l : Launch} {z : xZ} {d mc ms : Nat} {Ph : Option xV → xH → Prop} {a0 : Nat} {a1 : Int32} {a2 : Int32} {a3 : Int32}  {h : xH} (hd : 2 ≤ d) (hk : OK (f_St_stands a0 a1 a2 a3 h) (fun q => Ph (some (xI q.1)) q.2)) : Sx l z d mc ms M_St_stands 0 (x_en [xR a0, xI a1, xI a2, xI a3] 5) [] h Ph := by
  unfold f_St_stands at hk
  refine sx_eq (lc2 := [some (xR a0), some (xI a1), some (xI a2), some (xI a3), none]) rfl rfl ?_
  refine sx_iload_n dc_St_stands_0 rfl ?_
  refine hk.j (X := fun x10 => Sx l z d mc ms M_St_stands 11 [some (xR a0), some (xI a1), some (xI a2), some (xI a3), none] [] h Ph) (fun x10 hk => ?_) (fun k11 jk11 hk => ?_)
  · refine sx_iconst (v := (0 : Int32)) dc_St_stands_11 (by decide) ?_
    exact sx_retT (v := (0 : Int32)) dc_St_stands_12 (Or.inl ⟨rfl, rfl⟩) (by decide) hk.val
  · refine sx_if_lt (tgt := 11) dc_St_stands_1 (by decide) (fun c12 => ?_) (fun c12 => ?_)
    · replace hk := hk.t c12
      exact jk11 () hk
    · replace hk := hk.f c12
      refine sx_iload_n dc_St_stands_4 rfl ?_
      refine sx_sipush (v := (128 : Int32)) dc_St_stands_5 (by decide) ?_
      refine sx_icmp_lt (tgt := 13) dc_St_stands_8 (by decide) (fun c13 => ?_) (fun c13 => ?_)
      · replace hk := hk.t c13
        refine sx_aload_n dc_St_stands_13 rfl ?_
        obtain ⟨g14, hk⟩ := hk.g
        refine sx_get (ci := 5) (k := 0) rfl (by decide) wF_St_18 g14 dc_St_stands_14 ?_
        refine sx_iload_n dc_St_stands_17 rfl ?_
        obtain ⟨g16, hk⟩ := hk.g
        obtain ⟨q15, eq15, hk⟩ := hk.bind
        refine sx_callV (d2 := d - 1) (mc2 := 0) (ms2 := 0) (as := [xI a1]) mk_Se_within rfl (x_rk (ci := 3) g16 rfl rfl) wM_St_40 mi_Se_within me_Se_within rfl (Nat.le_of_ble_eq_true rfl) (Nat.le_of_ble_eq_true rfl) dc_St_stands_18 (by omega) (Nat.zero_le _) (Nat.zero_le _) ?_
        refine t_Se_within (by omega) ⟨q15, eq15, ?_⟩
        refine sx_eq0 (lc2 := [some (xR a0), some (xI a1), some (xI a2), some (xI a3), none]) (st2 := [xI q15.1]) rfl rfl ?_
        refine sx_istore dc_St_stands_21 (by decide) (sx_eq (lc2 := [some (xR a0), some (xI a1), some (xI a2), some (xI a3), some (xI q15.1)]) rfl rfl ?_)
        refine sx_iload_n dc_St_stands_23 rfl ?_
        refine sx_iload dc_St_stands_24 rfl ?_
        refine sx_iand dc_St_stands_26 ?_
        refine sx_iload dc_St_stands_27 rfl ?_
        refine hk.j (X := fun x17 => Sx l z d mc ms M_St_stands 64 [some (xR a0), some (xI a1), some (xI a2), some (xI a3), some (xI q15.1)] [xI x17] q15.2 Ph) (fun x17 hk => ?_) (fun k18 jk18 hk => ?_)
        · exact sx_retT dc_St_stands_64 (Or.inl ⟨rfl, rfl⟩) rfl hk.val
        · refine hk.j (X := fun x19 => Sx l z d mc ms M_St_stands 59 [some (xR a0), some (xI a1), some (xI a2), some (xI a3), some (xI q15.1)] [] q15.2 Ph) (fun x19 hk => ?_) (fun k20 jk20 hk => ?_)
          · refine sx_iconst (v := (1 : Int32)) dc_St_stands_59 (by decide) ?_
            refine sx_goto (tgt := 64) dc_St_stands_60 (by decide) ?_
            exact jk18 (1 : Int32) hk
          · refine hk.j (X := fun x21 => Sx l z d mc ms M_St_stands 41 [some (xR a0), some (xI a1), some (xI a2), some (xI a3), some (xI q15.1)] [] q15.2 Ph) (fun x21 hk => ?_) (fun k22 jk22 hk => ?_)
            · refine sx_iload_n dc_St_stands_41 rfl ?_
              refine sx_iload dc_St_stands_42 rfl ?_
              refine sx_iand dc_St_stands_44 ?_
              refine sx_iload dc_St_stands_45 rfl ?_
              refine hk.j (X := fun x23 => Sx l z d mc ms M_St_stands 63 [some (xR a0), some (xI a1), some (xI a2), some (xI a3), some (xI q15.1)] [] q15.2 Ph) (fun x23 hk => ?_) (fun k24 jk24 hk => ?_)
              · refine sx_iconst (v := (0 : Int32)) dc_St_stands_63 (by decide) ?_
                exact jk18 (0 : Int32) hk
              · refine sx_icmp_ne (tgt := 63) dc_St_stands_47 (by decide) (fun c25 => ?_) (fun c25 => ?_)
                · replace hk := hk.f c25
                  exact jk24 () hk
                · replace hk := hk.t c25
                  refine sx_aload_n dc_St_stands_50 rfl ?_
                  obtain ⟨g26, hk⟩ := hk.g
                  refine sx_get (ci := 5) (k := 2) rfl (by decide) wF_St_15 g26 dc_St_stands_51 ?_
                  refine sx_iload_n dc_St_stands_54 rfl ?_
                  obtain ⟨g27, hk⟩ := hk.g
                  obtain ⟨g28, hk⟩ := hk.g
                  refine sx_zald g27 g28 dc_St_stands_55 ?_
                  refine sx_if_eq (tgt := 63) dc_St_stands_56 (by decide) (fun c29 => ?_) (fun c29 => ?_)
                  · replace hk := hk.t c29
                    exact jk24 () hk
                  · replace hk := hk.f c29
                    exact jk20 () hk
            · refine sx_icmp_ne (tgt := 41) dc_St_stands_29 (by decide) (fun c30 => ?_) (fun c30 => ?_)
              · replace hk := hk.f c30
                exact jk22 () hk
              · replace hk := hk.t c30
                refine sx_aload_n dc_St_stands_32 rfl ?_
                obtain ⟨g31, hk⟩ := hk.g
                refine sx_get (ci := 5) (k := 1) rfl (by decide) wF_St_9 g31 dc_St_stands_33 ?_
                refine sx_iload_n dc_St_stands_36 rfl ?_
                obtain ⟨g32, hk⟩ := hk.g
                obtain ⟨g33, hk⟩ := hk.g
                refine sx_zald g32 g33 dc_St_stands_37 ?_
                refine sx_if_ne (tgt := 59) dc_St_stands_38 (by decide) (fun c34 => ?_) (fun c34 => ?_)
                · replace hk := hk.f c34
                  exact jk20 () hk
                · replace hk := hk.t c34
                  exact jk22 () hk
      · replace hk := hk.f c13
        exact jk11 () hk
theorem dc_St_anyThree_0 : decode M_St_anyThree.2.1 0 = .ok (.iconst 0, 1) := by decide +kernel
theorem dc_St_anyThree_1 : decode M_St_anyThree.2.1 1 = .ok (.istore_n 3, 1) := by decide +kernel
theorem dc_St_anyThree_2 : decode M_St_anyThree.2.1 2 = .ok (.iload_n 3, 1) := by decide +kernel
theorem dc_St_anyThree_3 : decode M_St_anyThree.2.1 3 = .ok (.aload_n 0, 1) := by decide +kernel
theorem dc_St_anyThree_4 : decode M_St_anyThree.2.1 4 = .ok (.getfield 26, 3) := by decide +kernel
theorem dc_St_anyThree_7 : decode M_St_anyThree.2.1 7 = .ok (.if_icmp .ge 33, 3) := by decide +kernel
theorem dc_St_anyThree_10 : decode M_St_anyThree.2.1 10 = .ok (.aload_n 0, 1) := by decide +kernel
theorem dc_St_anyThree_11 : decode M_St_anyThree.2.1 11 = .ok (.getfield 18, 3) := by decide +kernel
theorem dc_St_anyThree_14 : decode M_St_anyThree.2.1 14 = .ok (.iload_n 3, 1) := by decide +kernel
theorem dc_St_anyThree_15 : decode M_St_anyThree.2.1 15 = .ok (.invokevirtual 43, 3) := by decide +kernel
theorem dc_St_anyThree_18 : decode M_St_anyThree.2.1 18 = .ok (.istore 4, 2) := by decide +kernel
theorem dc_St_anyThree_20 : decode M_St_anyThree.2.1 20 = .ok (.aload_n 0, 1) := by decide +kernel
theorem dc_St_anyThree_21 : decode M_St_anyThree.2.1 21 = .ok (.iload 4, 2) := by decide +kernel
theorem dc_St_anyThree_23 : decode M_St_anyThree.2.1 23 = .ok (.iload_n 1, 1) := by decide +kernel
theorem dc_St_anyThree_24 : decode M_St_anyThree.2.1 24 = .ok (.iload_n 2, 1) := by decide +kernel
theorem dc_St_anyThree_25 : decode M_St_anyThree.2.1 25 = .ok (.invokevirtual 46, 3) := by decide +kernel
theorem dc_St_anyThree_28 : decode M_St_anyThree.2.1 28 = .ok (.ifCond .eq 6, 3) := by decide +kernel
theorem dc_St_anyThree_31 : decode M_St_anyThree.2.1 31 = .ok (.iload 4, 2) := by decide +kernel
theorem dc_St_anyThree_33 : decode M_St_anyThree.2.1 33 = .ok (.ireturn, 1) := by decide +kernel
theorem dc_St_anyThree_34 : decode M_St_anyThree.2.1 34 = .ok (.iinc 3 1, 3) := by decide +kernel
theorem dc_St_anyThree_37 : decode M_St_anyThree.2.1 37 = .ok (.goto (-35), 3) := by decide +kernel
theorem dc_St_anyThree_40 : decode M_St_anyThree.2.1 40 = .ok (.iconst 0, 1) := by decide +kernel
theorem dc_St_anyThree_41 : decode M_St_anyThree.2.1 41 = .ok (.ireturn, 1) := by decide +kernel
def f_St_anyThree_L2 (a0 : Nat) (a1 : Int32) (a2 : Int32) : Nat → Int32 → xH → (Int32 → xH → Option (Int32 × xH)) → Option (Int32 × xH)
  | 0, _, _, _ => none
  | n + 1, a3, h, K => gd (hK h a0 = 5) (if (hI h a0 3) ≤ a3 then K a3 h else gd (hK h (hR h a0 0) = 3) (Option.bind (f_Se_three (hR h a0 0) a3 h) (fun q8 => gd (hK q8.2 a0 = 5) (Option.bind (f_St_stands a0 q8.1 a1 a2 q8.2) (fun q10 => if q10.1 = 0 then f_St_anyThree_L2 a0 a1 a2 n (a3 + (1 : Int32)) q10.2 K else some (q8.1, q10.2))))))
def f_St_anyThree (a0 : Nat) (a1 : Int32) (a2 : Int32) (h : xH) : Option (Int32 × xH) := f_St_anyThree_L2 a0 a1 a2 fu (0 : Int32) h (fun v13 h14 => some ((0 : Int32), h14))
theorem t_St_anyThree_L2 {l : Launch} {z : xZ} {d mc ms : Nat} {Ph : Option xV → xH → Prop} {a0 : Nat} {a1 : Int32} {a2 : Int32}  (hd : 3 ≤ d) : ∀ (n : Nat) (a3 : Int32) (h : xH) (K : Int32 → xH → Option (Int32 × xH)), OK (f_St_anyThree_L2 a0 a1 a2 n a3 h K) (fun q => Ph (some (xI q.1)) q.2) → (∀ (a3 : Int32) (h : xH), OK (K a3 h) (fun q => Ph (some (xI q.1)) q.2) → Sx l z d mc ms M_St_anyThree 40 [some (xR a0), some (xI a1), some (xI a2), some (xI a3), none] [] h Ph) → Sx l z d mc ms M_St_anyThree 2 [some (xR a0), some (xI a1), some (xI a2), some (xI a3), none] [] h Ph := by
  intro n
  induction n with
  | zero => intro a3 h K hk hE; exact hk.no
  | succ n ih =>
    intro a3 h K hk hE
    rw [f_St_anyThree_L2] at hk
    refine sx_iload_n dc_St_anyThree_2 rfl ?_
    refine sx_aload_n dc_St_anyThree_3 rfl ?_
    obtain ⟨g6, hk⟩ := hk.g
    refine sx_get (ci := 5) (k := 3) rfl (by decide) wF_St_26 g6 dc_St_anyThree_4 ?_
    refine sx_icmp_ge (tgt := 40) dc_St_anyThree_7 (by decide) (fun c7 => ?_) (fun c7 => ?_)
    · replace hk := hk.t c7
      exact hE a3 h hk
    · replace hk := hk.f c7
      refine sx_aload_n dc_St_anyThree_10 rfl ?_
      refine sx_get (ci := 5) (k := 0) rfl (by decide) wF_St_18 g6 dc_St_anyThree_11 ?_
      refine sx_iload_n dc_St_anyThree_14 rfl ?_
      obtain ⟨g9, hk⟩ := hk.g
      obtain ⟨q8, eq8, hk⟩ := hk.bind
      refine sx_callV (d2 := d - 1) (mc2 := 0) (ms2 := 0) (as := [xI a3]) mk_Se_three rfl (x_rk (ci := 3) g9 rfl rfl) wM_St_43 mi_Se_three me_Se_three rfl (Nat.le_of_ble_eq_true rfl) (Nat.le_of_ble_eq_true rfl) dc_St_anyThree_15 (by omega) (Nat.zero_le _) (Nat.zero_le _) ?_
      refine t_Se_three (by omega) ⟨q8, eq8, ?_⟩
      refine sx_eq0 (lc2 := [some (xR a0), some (xI a1), some (xI a2), some (xI a3), none]) (st2 := [xI q8.1]) rfl rfl ?_
      refine sx_istore dc_St_anyThree_18 (by decide) (sx_eq (lc2 := [some (xR a0), some (xI a1), some (xI a2), some (xI a3), some (xI q8.1)]) rfl rfl ?_)
      refine sx_aload_n dc_St_anyThree_20 rfl ?_
      refine sx_iload dc_St_anyThree_21 rfl ?_
      refine sx_iload_n dc_St_anyThree_23 rfl ?_
      refine sx_iload_n dc_St_anyThree_24 rfl ?_
      obtain ⟨g11, hk⟩ := hk.g
      obtain ⟨q10, eq10, hk⟩ := hk.bind
      refine sx_callV (d2 := d - 1) (mc2 := 0) (ms2 := 0) (as := [xI q8.1, xI a1, xI a2]) mk_St_stands rfl (x_rk (ci := 5) g11 rfl rfl) wM_St_46 mi_St_stands me_St_stands rfl (Nat.le_of_ble_eq_true rfl) (Nat.le_of_ble_eq_true rfl) dc_St_anyThree_25 (by omega) (Nat.zero_le _) (Nat.zero_le _) ?_
      refine t_St_stands (by omega) ⟨q10, eq10, ?_⟩
      refine sx_eq0 (lc2 := [some (xR a0), some (xI a1), some (xI a2), some (xI a3), some (xI q8.1)]) (st2 := [xI q10.1]) rfl rfl ?_
      refine sx_if_eq (tgt := 34) dc_St_anyThree_28 (by decide) (fun c12 => ?_) (fun c12 => ?_)
      · replace hk := hk.t c12
        refine sx_iinc (v := (1 : Int32)) dc_St_anyThree_34 rfl (by decide) (by decide) (sx_eq (lc2 := [some (xR a0), some (xI a1), some (xI a2), some (xI (a3 + (1 : Int32))), some (xI q8.1)]) rfl rfl ?_)
        refine sx_goto (tgt := 2) dc_St_anyThree_37 (by decide) ?_
        exact sx_less (by simp [x_le]) (ih (a3 + (1 : Int32)) q10.2 _ hk hE)
      · replace hk := hk.f c12
        refine sx_iload dc_St_anyThree_31 rfl ?_
        exact sx_retI dc_St_anyThree_33 rfl hk.val
theorem t_St_anyThree {l : Launch} {z : xZ} {d mc ms : Nat} {Ph : Option xV → xH → Prop} {a0 : Nat} {a1 : Int32} {a2 : Int32}  {h : xH} (hd : 3 ≤ d) (hk : OK (f_St_anyThree a0 a1 a2 h) (fun q => Ph (some (xI q.1)) q.2)) : Sx l z d mc ms M_St_anyThree 0 (x_en [xR a0, xI a1, xI a2] 5) [] h Ph := by
  unfold f_St_anyThree at hk
  refine sx_eq (lc2 := [some (xR a0), some (xI a1), some (xI a2), none, none]) rfl rfl ?_
  refine sx_iconst (v := (0 : Int32)) dc_St_anyThree_0 (by decide) ?_
  refine sx_istore_n dc_St_anyThree_1 (by decide) (sx_eq (lc2 := [some (xR a0), some (xI a1), some (xI a2), some (xI (0 : Int32)), none]) rfl rfl ?_)
  refine t_St_anyThree_L2 (by omega) _ _ _ _ hk (fun v13 h14 hk => ?_)
  refine sx_iconst (v := (0 : Int32)) dc_St_anyThree_40 (by decide) ?_
  exact sx_retI dc_St_anyThree_41 rfl hk.val
theorem dc_Ch_keepBest_0 : decode M_Ch_keepBest.2.1 0 = .ok (.iconst 0, 1) := by decide +kernel
theorem dc_Ch_keepBest_1 : decode M_Ch_keepBest.2.1 1 = .ok (.istore_n 2, 1) := by decide +kernel
theorem dc_Ch_keepBest_2 : decode M_Ch_keepBest.2.1 2 = .ok (.iconst 0, 1) := by decide +kernel
theorem dc_Ch_keepBest_3 : decode M_Ch_keepBest.2.1 3 = .ok (.istore_n 3, 1) := by decide +kernel
theorem dc_Ch_keepBest_4 : decode M_Ch_keepBest.2.1 4 = .ok (.iload_n 3, 1) := by decide +kernel
theorem dc_Ch_keepBest_5 : decode M_Ch_keepBest.2.1 5 = .ok (.bipush 21, 2) := by decide +kernel
theorem dc_Ch_keepBest_7 : decode M_Ch_keepBest.2.1 7 = .ok (.if_icmp .ge 27, 3) := by decide +kernel
theorem dc_Ch_keepBest_10 : decode M_Ch_keepBest.2.1 10 = .ok (.iload_n 1, 1) := by decide +kernel
theorem dc_Ch_keepBest_11 : decode M_Ch_keepBest.2.1 11 = .ok (.iload_n 3, 1) := by decide +kernel
theorem dc_Ch_keepBest_12 : decode M_Ch_keepBest.2.1 12 = .ok (.ishr, 1) := by decide +kernel
theorem dc_Ch_keepBest_13 : decode M_Ch_keepBest.2.1 13 = .ok (.iconst 1, 1) := by decide +kernel
theorem dc_Ch_keepBest_14 : decode M_Ch_keepBest.2.1 14 = .ok (.iand, 1) := by decide +kernel
theorem dc_Ch_keepBest_15 : decode M_Ch_keepBest.2.1 15 = .ok (.iconst 1, 1) := by decide +kernel
theorem dc_Ch_keepBest_16 : decode M_Ch_keepBest.2.1 16 = .ok (.if_icmp .ne 12, 3) := by decide +kernel
theorem dc_Ch_keepBest_19 : decode M_Ch_keepBest.2.1 19 = .ok (.iload_n 2, 1) := by decide +kernel
theorem dc_Ch_keepBest_20 : decode M_Ch_keepBest.2.1 20 = .ok (.aload_n 0, 1) := by decide +kernel
theorem dc_Ch_keepBest_21 : decode M_Ch_keepBest.2.1 21 = .ok (.getfield 9, 3) := by decide +kernel
theorem dc_Ch_keepBest_24 : decode M_Ch_keepBest.2.1 24 = .ok (.iload_n 3, 1) := by decide +kernel
theorem dc_Ch_keepBest_25 : decode M_Ch_keepBest.2.1 25 = .ok (.iaload, 1) := by decide +kernel
theorem dc_Ch_keepBest_26 : decode M_Ch_keepBest.2.1 26 = .ok (.iadd, 1) := by decide +kernel
theorem dc_Ch_keepBest_27 : decode M_Ch_keepBest.2.1 27 = .ok (.istore_n 2, 1) := by decide +kernel
theorem dc_Ch_keepBest_28 : decode M_Ch_keepBest.2.1 28 = .ok (.iinc 3 1, 3) := by decide +kernel
theorem dc_Ch_keepBest_31 : decode M_Ch_keepBest.2.1 31 = .ok (.goto (-27), 3) := by decide +kernel
theorem dc_Ch_keepBest_34 : decode M_Ch_keepBest.2.1 34 = .ok (.aload_n 0, 1) := by decide +kernel
theorem dc_Ch_keepBest_35 : decode M_Ch_keepBest.2.1 35 = .ok (.getfield 28, 3) := by decide +kernel
theorem dc_Ch_keepBest_38 : decode M_Ch_keepBest.2.1 38 = .ok (.ifCond .eq 28, 3) := by decide +kernel
theorem dc_Ch_keepBest_41 : decode M_Ch_keepBest.2.1 41 = .ok (.iload_n 2, 1) := by decide +kernel
theorem dc_Ch_keepBest_42 : decode M_Ch_keepBest.2.1 42 = .ok (.aload_n 0, 1) := by decide +kernel
theorem dc_Ch_keepBest_43 : decode M_Ch_keepBest.2.1 43 = .ok (.getfield 58, 3) := by decide +kernel
theorem dc_Ch_keepBest_46 : decode M_Ch_keepBest.2.1 46 = .ok (.if_icmp .gt 19, 3) := by decide +kernel
theorem dc_Ch_keepBest_49 : decode M_Ch_keepBest.2.1 49 = .ok (.iload_n 2, 1) := by decide +kernel
theorem dc_Ch_keepBest_50 : decode M_Ch_keepBest.2.1 50 = .ok (.aload_n 0, 1) := by decide +kernel
theorem dc_Ch_keepBest_51 : decode M_Ch_keepBest.2.1 51 = .ok (.getfield 58, 3) := by decide +kernel
theorem dc_Ch_keepBest_54 : decode M_Ch_keepBest.2.1 54 = .ok (.if_icmp .ne 12, 3) := by decide +kernel
theorem dc_Ch_keepBest_57 : decode M_Ch_keepBest.2.1 57 = .ok (.iload_n 1, 1) := by decide +kernel
theorem dc_Ch_keepBest_58 : decode M_Ch_keepBest.2.1 58 = .ok (.aload_n 0, 1) := by decide +kernel
theorem dc_Ch_keepBest_59 : decode M_Ch_keepBest.2.1 59 = .ok (.getfield 61, 3) := by decide +kernel
theorem dc_Ch_keepBest_62 : decode M_Ch_keepBest.2.1 62 = .ok (.if_icmp .le 4, 3) := by decide +kernel
theorem dc_Ch_keepBest_65 : decode M_Ch_keepBest.2.1 65 = .ok (.return_, 1) := by decide +kernel
theorem dc_Ch_keepBest_66 : decode M_Ch_keepBest.2.1 66 = .ok (.aload_n 0, 1) := by decide +kernel
theorem dc_Ch_keepBest_67 : decode M_Ch_keepBest.2.1 67 = .ok (.iconst 1, 1) := by decide +kernel
theorem dc_Ch_keepBest_68 : decode M_Ch_keepBest.2.1 68 = .ok (.putfield 28, 3) := by decide +kernel
theorem dc_Ch_keepBest_71 : decode M_Ch_keepBest.2.1 71 = .ok (.aload_n 0, 1) := by decide +kernel
theorem dc_Ch_keepBest_72 : decode M_Ch_keepBest.2.1 72 = .ok (.iload_n 1, 1) := by decide +kernel
theorem dc_Ch_keepBest_73 : decode M_Ch_keepBest.2.1 73 = .ok (.putfield 61, 3) := by decide +kernel
theorem dc_Ch_keepBest_76 : decode M_Ch_keepBest.2.1 76 = .ok (.aload_n 0, 1) := by decide +kernel
theorem dc_Ch_keepBest_77 : decode M_Ch_keepBest.2.1 77 = .ok (.iload_n 2, 1) := by decide +kernel
theorem dc_Ch_keepBest_78 : decode M_Ch_keepBest.2.1 78 = .ok (.putfield 58, 3) := by decide +kernel
theorem dc_Ch_keepBest_81 : decode M_Ch_keepBest.2.1 81 = .ok (.return_, 1) := by decide +kernel
def f_Ch_keepBest_L4 (a0 : Nat) (a1 : Int32) : Nat → Int32 → Int32 → xH → (Int32 → Int32 → xH → Option (Unit × xH)) → Option (Unit × xH)
  | 0, _, _, _, _ => none
  | n + 1, a2, a3, h, K => if (21 : Int32) ≤ a3 then K a2 a3 h else jn (fun (x6 : Int32) => f_Ch_keepBest_L4 a0 a1 n x6 (a3 + (1 : Int32)) h K) (fun k7 => if ((jShr a1 a3) &&& (1 : Int32)) = (1 : Int32) then gd (hK h a0 = 0) (gd (hK h (hR h a0 2) = 12) (gd (¬ (a3 < 0 ∨ hL h (hR h a0 2) ≤ a3.toNatClampNeg)) (k7 (a2 + (hI h (hR h a0 2) a3.toNatClampNeg))))) else k7 a2)
def f_Ch_keepBest (a0 : Nat) (a1 : Int32) (h : xH) : Option (Unit × xH) := f_Ch_keepBest_L4 a0 a1 fu (0 : Int32) (0 : Int32) h (fun v12 v13 h14 => gd (hK h14 a0 = 0) (jn (fun (x16 : Unit) => some ((), hIu (hIu (hIu h14 a0 3 (1 : Int32)) a0 4 a1) a0 5 v12)) (fun k17 => if (hI h14 a0 3) = 0 then k17 () else jn (fun (x19 : Unit) => some ((), h14)) (fun k20 => if (hI h14 a0 5) < v12 then k20 () else if v12 = (hI h14 a0 5) then if a1 ≤ (hI h14 a0 4) then k17 () else k20 () else k17 ()))))
theorem t_Ch_keepBest_L4 {l : Launch} {z : xZ} {d mc ms : Nat} {Ph : Option xV → xH → Prop} {a0 : Nat} {a1 : Int32}  (hd : 1 ≤ d) : ∀ (n : Nat) (a2 : Int32) (a3 : Int32) (h : xH) (K : Int32 → Int32 → xH → Option (Unit × xH)), OK (f_Ch_keepBest_L4 a0 a1 n a2 a3 h K) (fun q => Ph (none) q.2) → (∀ (a2 : Int32) (a3 : Int32) (h : xH), OK (K a2 a3 h) (fun q => Ph (none) q.2) → Sx l z d mc ms M_Ch_keepBest 34 [some (xR a0), some (xI a1), some (xI a2), some (xI a3)] [] h Ph) → Sx l z d mc ms M_Ch_keepBest 4 [some (xR a0), some (xI a1), some (xI a2), some (xI a3)] [] h Ph := by
  intro n
  induction n with
  | zero => intro a2 a3 h K hk hE; exact hk.no
  | succ n ih =>
    intro a2 a3 h K hk hE
    rw [f_Ch_keepBest_L4] at hk
    refine sx_iload_n dc_Ch_keepBest_4 rfl ?_
    refine sx_bipush (v := (21 : Int32)) dc_Ch_keepBest_5 (by decide) ?_
    refine sx_icmp_ge (tgt := 34) dc_Ch_keepBest_7 (by decide) (fun c5 => ?_) (fun c5 => ?_)
    · replace hk := hk.t c5
      exact hE a2 a3 h hk
    · replace hk := hk.f c5
      refine sx_iload_n dc_Ch_keepBest_10 rfl ?_
      refine sx_iload_n dc_Ch_keepBest_11 rfl ?_
      refine sx_ishr dc_Ch_keepBest_12 ?_
      refine sx_iconst (v := (1 : Int32)) dc_Ch_keepBest_13 (by decide) ?_
      refine sx_iand dc_Ch_keepBest_14 ?_
      refine sx_iconst (v := (1 : Int32)) dc_Ch_keepBest_15 (by decide) ?_
      refine hk.j (X := fun x6 => Sx l z d mc ms M_Ch_keepBest 28 [some (xR a0), some (xI a1), some (xI x6), some (xI a3)] [] h Ph) (fun x6 hk => ?_) (fun k7 jk7 hk => ?_)
      · refine sx_iinc (v := (1 : Int32)) dc_Ch_keepBest_28 rfl (by decide) (by decide) (sx_eq (lc2 := [some (xR a0), some (xI a1), some (xI x6), some (xI (a3 + (1 : Int32)))]) rfl rfl ?_)
        refine sx_goto (tgt := 4) dc_Ch_keepBest_31 (by decide) ?_
        exact ih x6 (a3 + (1 : Int32)) h _ hk hE
      · refine sx_icmp_ne (tgt := 28) dc_Ch_keepBest_16 (by decide) (fun c8 => ?_) (fun c8 => ?_)
        · replace hk := hk.f c8
          exact jk7 a2 hk
        · replace hk := hk.t c8
          refine sx_iload_n dc_Ch_keepBest_19 rfl ?_
          refine sx_aload_n dc_Ch_keepBest_20 rfl ?_
          obtain ⟨g9, hk⟩ := hk.g
          refine sx_get (ci := 0) (k := 2) rfl (by decide) wF_Ch_9 g9 dc_Ch_keepBest_21 ?_
          refine sx_iload_n dc_Ch_keepBest_24 rfl ?_
          obtain ⟨g10, hk⟩ := hk.g
          obtain ⟨g11, hk⟩ := hk.g
          refine sx_iald g10 g11 dc_Ch_keepBest_25 ?_
          refine sx_iadd dc_Ch_keepBest_26 ?_
          refine sx_istore_n dc_Ch_keepBest_27 (by decide) (sx_eq (lc2 := [some (xR a0), some (xI a1), some (xI (a2 + (hI h (hR h a0 2) a3.toNatClampNeg))), some (xI a3)]) rfl rfl ?_)
          exact jk7 (a2 + (hI h (hR h a0 2) a3.toNatClampNeg)) hk
theorem t_Ch_keepBest {l : Launch} {z : xZ} {d mc ms : Nat} {Ph : Option xV → xH → Prop} {a0 : Nat} {a1 : Int32}  {h : xH} (hd : 1 ≤ d) (hk : OK (f_Ch_keepBest a0 a1 h) (fun q => Ph (none) q.2)) : Sx l z d mc ms M_Ch_keepBest 0 (x_en [xR a0, xI a1] 4) [] h Ph := by
  unfold f_Ch_keepBest at hk
  refine sx_eq (lc2 := [some (xR a0), some (xI a1), none, none]) rfl rfl ?_
  refine sx_iconst (v := (0 : Int32)) dc_Ch_keepBest_0 (by decide) ?_
  refine sx_istore_n dc_Ch_keepBest_1 (by decide) (sx_eq (lc2 := [some (xR a0), some (xI a1), some (xI (0 : Int32)), none]) rfl rfl ?_)
  refine sx_iconst (v := (0 : Int32)) dc_Ch_keepBest_2 (by decide) ?_
  refine sx_istore_n dc_Ch_keepBest_3 (by decide) (sx_eq (lc2 := [some (xR a0), some (xI a1), some (xI (0 : Int32)), some (xI (0 : Int32))]) rfl rfl ?_)
  refine t_Ch_keepBest_L4 (by omega) _ _ _ _ _ hk (fun v12 v13 h14 hk => ?_)
  refine sx_aload_n dc_Ch_keepBest_34 rfl ?_
  obtain ⟨g15, hk⟩ := hk.g
  refine sx_get (ci := 0) (k := 3) rfl (by decide) wF_Ch_28 g15 dc_Ch_keepBest_35 ?_
  refine hk.j (X := fun x16 => Sx l z d mc ms M_Ch_keepBest 66 [some (xR a0), some (xI a1), some (xI v12), some (xI v13)] [] h14 Ph) (fun x16 hk => ?_) (fun k17 jk17 hk => ?_)
  · refine sx_aload_n dc_Ch_keepBest_66 rfl ?_
    refine sx_iconst (v := (1 : Int32)) dc_Ch_keepBest_67 (by decide) ?_
    refine sx_putI (ci := 0) (k := 3) rfl (by decide) wF_Ch_28 rfl g15 (Or.inr ⟨rfl, Or.inr rfl⟩) dc_Ch_keepBest_68 ?_
    refine sx_aload_n dc_Ch_keepBest_71 rfl ?_
    refine sx_iload_n dc_Ch_keepBest_72 rfl ?_
    refine sx_putI (ci := 0) (k := 4) rfl (by decide) wF_Ch_61 rfl g15 (Or.inl rfl) dc_Ch_keepBest_73 ?_
    refine sx_aload_n dc_Ch_keepBest_76 rfl ?_
    refine sx_iload_n dc_Ch_keepBest_77 rfl ?_
    refine sx_putI (ci := 0) (k := 5) rfl (by decide) wF_Ch_58 rfl g15 (Or.inl rfl) dc_Ch_keepBest_78 ?_
    exact sx_retV dc_Ch_keepBest_81 rfl hk.val
  · refine sx_if_eq (tgt := 66) dc_Ch_keepBest_38 (by decide) (fun c18 => ?_) (fun c18 => ?_)
    · replace hk := hk.t c18
      exact jk17 () hk
    · replace hk := hk.f c18
      refine sx_iload_n dc_Ch_keepBest_41 rfl ?_
      refine sx_aload_n dc_Ch_keepBest_42 rfl ?_
      refine sx_get (ci := 0) (k := 5) rfl (by decide) wF_Ch_58 g15 dc_Ch_keepBest_43 ?_
      refine hk.j (X := fun x19 => Sx l z d mc ms M_Ch_keepBest 65 [some (xR a0), some (xI a1), some (xI v12), some (xI v13)] [] h14 Ph) (fun x19 hk => ?_) (fun k20 jk20 hk => ?_)
      · exact sx_retV dc_Ch_keepBest_65 rfl hk.val
      · refine sx_icmp_gt (tgt := 65) dc_Ch_keepBest_46 (by decide) (fun c21 => ?_) (fun c21 => ?_)
        · replace hk := hk.t c21
          exact jk20 () hk
        · replace hk := hk.f c21
          refine sx_iload_n dc_Ch_keepBest_49 rfl ?_
          refine sx_aload_n dc_Ch_keepBest_50 rfl ?_
          refine sx_get (ci := 0) (k := 5) rfl (by decide) wF_Ch_58 g15 dc_Ch_keepBest_51 ?_
          refine sx_icmp_ne (tgt := 66) dc_Ch_keepBest_54 (by decide) (fun c22 => ?_) (fun c22 => ?_)
          · replace hk := hk.f c22
            exact jk17 () hk
          · replace hk := hk.t c22
            refine sx_iload_n dc_Ch_keepBest_57 rfl ?_
            refine sx_aload_n dc_Ch_keepBest_58 rfl ?_
            refine sx_get (ci := 0) (k := 4) rfl (by decide) wF_Ch_61 g15 dc_Ch_keepBest_59 ?_
            refine sx_icmp_le (tgt := 66) dc_Ch_keepBest_62 (by decide) (fun c23 => ?_) (fun c23 => ?_)
            · replace hk := hk.t c23
              exact jk17 () hk
            · replace hk := hk.f c23
              exact jk20 () hk
theorem dc_Ch_tryChanges_0 : decode M_Ch_tryChanges.2.1 0 = .ok (.aload_n 0, 1) := by decide +kernel
theorem dc_Ch_tryChanges_1 : decode M_Ch_tryChanges.2.1 1 = .ok (.getfield 19, 3) := by decide +kernel
theorem dc_Ch_tryChanges_4 : decode M_Ch_tryChanges.2.1 4 = .ok (.iload_n 1, 1) := by decide +kernel
theorem dc_Ch_tryChanges_5 : decode M_Ch_tryChanges.2.1 5 = .ok (.iload_n 2, 1) := by decide +kernel
theorem dc_Ch_tryChanges_6 : decode M_Ch_tryChanges.2.1 6 = .ok (.invokevirtual 45, 3) := by decide +kernel
theorem dc_Ch_tryChanges_9 : decode M_Ch_tryChanges.2.1 9 = .ok (.istore 5, 2) := by decide +kernel
theorem dc_Ch_tryChanges_11 : decode M_Ch_tryChanges.2.1 11 = .ok (.iload 5, 2) := by decide +kernel
theorem dc_Ch_tryChanges_13 : decode M_Ch_tryChanges.2.1 13 = .ok (.ifCond .ne 9, 3) := by decide +kernel
theorem dc_Ch_tryChanges_16 : decode M_Ch_tryChanges.2.1 16 = .ok (.aload_n 0, 1) := by decide +kernel
theorem dc_Ch_tryChanges_17 : decode M_Ch_tryChanges.2.1 17 = .ok (.iload_n 3, 1) := by decide +kernel
theorem dc_Ch_tryChanges_18 : decode M_Ch_tryChanges.2.1 18 = .ok (.invokevirtual 51, 3) := by decide +kernel
theorem dc_Ch_tryChanges_21 : decode M_Ch_tryChanges.2.1 21 = .ok (.return_, 1) := by decide +kernel
theorem dc_Ch_tryChanges_22 : decode M_Ch_tryChanges.2.1 22 = .ok (.iload 4, 2) := by decide +kernel
theorem dc_Ch_tryChanges_24 : decode M_Ch_tryChanges.2.1 24 = .ok (.ifCond .gt 4, 3) := by decide +kernel
theorem dc_Ch_tryChanges_27 : decode M_Ch_tryChanges.2.1 27 = .ok (.return_, 1) := by decide +kernel
theorem dc_Ch_tryChanges_28 : decode M_Ch_tryChanges.2.1 28 = .ok (.aload_n 0, 1) := by decide +kernel
theorem dc_Ch_tryChanges_29 : decode M_Ch_tryChanges.2.1 29 = .ok (.getfield 15, 3) := by decide +kernel
theorem dc_Ch_tryChanges_32 : decode M_Ch_tryChanges.2.1 32 = .ok (.iload 5, 2) := by decide +kernel
theorem dc_Ch_tryChanges_34 : decode M_Ch_tryChanges.2.1 34 = .ok (.invokevirtual 55, 3) := by decide +kernel
theorem dc_Ch_tryChanges_37 : decode M_Ch_tryChanges.2.1 37 = .ok (.iload_n 3, 1) := by decide +kernel
theorem dc_Ch_tryChanges_38 : decode M_Ch_tryChanges.2.1 38 = .ok (.iconst (-1), 1) := by decide +kernel
theorem dc_Ch_tryChanges_39 : decode M_Ch_tryChanges.2.1 39 = .ok (.ixor, 1) := by decide +kernel
theorem dc_Ch_tryChanges_40 : decode M_Ch_tryChanges.2.1 40 = .ok (.iand, 1) := by decide +kernel
theorem dc_Ch_tryChanges_41 : decode M_Ch_tryChanges.2.1 41 = .ok (.istore 6, 2) := by decide +kernel
theorem dc_Ch_tryChanges_43 : decode M_Ch_tryChanges.2.1 43 = .ok (.iconst 0, 1) := by decide +kernel
theorem dc_Ch_tryChanges_44 : decode M_Ch_tryChanges.2.1 44 = .ok (.istore 7, 2) := by decide +kernel
theorem dc_Ch_tryChanges_46 : decode M_Ch_tryChanges.2.1 46 = .ok (.iload 7, 2) := by decide +kernel
theorem dc_Ch_tryChanges_48 : decode M_Ch_tryChanges.2.1 48 = .ok (.bipush 21, 2) := by decide +kernel
theorem dc_Ch_tryChanges_50 : decode M_Ch_tryChanges.2.1 50 = .ok (.if_icmp .ge 43, 3) := by decide +kernel
theorem dc_Ch_tryChanges_53 : decode M_Ch_tryChanges.2.1 53 = .ok (.iconst 1, 1) := by decide +kernel
theorem dc_Ch_tryChanges_54 : decode M_Ch_tryChanges.2.1 54 = .ok (.iload 7, 2) := by decide +kernel
theorem dc_Ch_tryChanges_56 : decode M_Ch_tryChanges.2.1 56 = .ok (.ishl, 1) := by decide +kernel
theorem dc_Ch_tryChanges_57 : decode M_Ch_tryChanges.2.1 57 = .ok (.istore 8, 2) := by decide +kernel
theorem dc_Ch_tryChanges_59 : decode M_Ch_tryChanges.2.1 59 = .ok (.iload 6, 2) := by decide +kernel
theorem dc_Ch_tryChanges_61 : decode M_Ch_tryChanges.2.1 61 = .ok (.iload 8, 2) := by decide +kernel
theorem dc_Ch_tryChanges_63 : decode M_Ch_tryChanges.2.1 63 = .ok (.iand, 1) := by decide +kernel
theorem dc_Ch_tryChanges_64 : decode M_Ch_tryChanges.2.1 64 = .ok (.ifCond .eq 23, 3) := by decide +kernel
theorem dc_Ch_tryChanges_67 : decode M_Ch_tryChanges.2.1 67 = .ok (.aload_n 0, 1) := by decide +kernel
theorem dc_Ch_tryChanges_68 : decode M_Ch_tryChanges.2.1 68 = .ok (.iload_n 1, 1) := by decide +kernel
theorem dc_Ch_tryChanges_69 : decode M_Ch_tryChanges.2.1 69 = .ok (.iload 8, 2) := by decide +kernel
theorem dc_Ch_tryChanges_71 : decode M_Ch_tryChanges.2.1 71 = .ok (.ixor, 1) := by decide +kernel
theorem dc_Ch_tryChanges_72 : decode M_Ch_tryChanges.2.1 72 = .ok (.iload_n 2, 1) := by decide +kernel
theorem dc_Ch_tryChanges_73 : decode M_Ch_tryChanges.2.1 73 = .ok (.iload 8, 2) := by decide +kernel
theorem dc_Ch_tryChanges_75 : decode M_Ch_tryChanges.2.1 75 = .ok (.ixor, 1) := by decide +kernel
theorem dc_Ch_tryChanges_76 : decode M_Ch_tryChanges.2.1 76 = .ok (.iload_n 3, 1) := by decide +kernel
theorem dc_Ch_tryChanges_77 : decode M_Ch_tryChanges.2.1 77 = .ok (.iload 8, 2) := by decide +kernel
theorem dc_Ch_tryChanges_79 : decode M_Ch_tryChanges.2.1 79 = .ok (.ior, 1) := by decide +kernel
theorem dc_Ch_tryChanges_80 : decode M_Ch_tryChanges.2.1 80 = .ok (.iload 4, 2) := by decide +kernel
theorem dc_Ch_tryChanges_82 : decode M_Ch_tryChanges.2.1 82 = .ok (.iconst 1, 1) := by decide +kernel
theorem dc_Ch_tryChanges_83 : decode M_Ch_tryChanges.2.1 83 = .ok (.isub, 1) := by decide +kernel
theorem dc_Ch_tryChanges_84 : decode M_Ch_tryChanges.2.1 84 = .ok (.invokestatic 41, 3) := by decide +kernel
theorem dc_Ch_tryChanges_87 : decode M_Ch_tryChanges.2.1 87 = .ok (.iinc 7 1, 3) := by decide +kernel
theorem dc_Ch_tryChanges_90 : decode M_Ch_tryChanges.2.1 90 = .ok (.goto (-44), 3) := by decide +kernel
theorem dc_Ch_tryChanges_93 : decode M_Ch_tryChanges.2.1 93 = .ok (.return_, 1) := by decide +kernel
def f_Ch_tryChanges_L46 (R0 : Nat → Int32 → Int32 → Int32 → Int32 → xH → Option (Unit × xH)) (a0 : Nat) (a1 : Int32) (a2 : Int32) (a3 : Int32) (a4 : Int32) (a5 : Int32) (a6 : Int32) : Nat → Int32 → xH → (Int32 → xH → Option (Unit × xH)) → Option (Unit × xH)
  | 0, _, _, _ => none
  | n + 1, a7, h, K => if (21 : Int32) ≤ a7 then K a7 h else jn (fun (x19 : xH) => f_Ch_tryChanges_L46 R0 a0 a1 a2 a3 a4 a5 a6 n (a7 + (1 : Int32)) x19 K) (fun k20 => if (a6 &&& (jShl (1 : Int32) a7)) = 0 then k20 h else Option.bind (R0 a0 (a1 ^^^ (jShl (1 : Int32) a7)) (a2 ^^^ (jShl (1 : Int32) a7)) (a3 ||| (jShl (1 : Int32) a7)) (a4 - (1 : Int32)) h) (fun q22 => k20 q22.2))
def fb_Ch_tryChanges (R0 : Nat → Int32 → Int32 → Int32 → Int32 → xH → Option (Unit × xH)) (a0 : Nat) (a1 : Int32) (a2 : Int32) (a3 : Int32) (a4 : Int32) (h : xH) : Option (Unit × xH) := gd (hK h a0 = 0) (gd (hK h (hR h a0 1) = 5) (Option.bind (f_St_anyThree (hR h a0 1) a1 a2 h) (fun q11 => if q11.1 = 0 then gd (hK q11.2 a0 = 0) (Option.bind (f_Ch_keepBest a0 a3 q11.2) (fun q25 => some ((), q25.2))) else if 0 < a4 then gd (hK q11.2 a0 = 0) (gd (hK q11.2 (hR q11.2 a0 0) = 3) (Option.bind (f_Se_within (hR q11.2 a0 0) q11.1 q11.2) (fun q16 => f_Ch_tryChanges_L46 R0 a0 a1 a2 a3 a4 q11.1 (q16.1 &&& (a3 ^^^ (-1 : Int32))) fu (0 : Int32) q16.2 (fun v23 h24 => some ((), h24))))) else some ((), q11.2))))
def G_Ch_tryChanges : Nat → Nat → Int32 → Int32 → Int32 → Int32 → xH → Option (Unit × xH)
  | 0 => fun _ _ _ _ _ _ => none
  | g + 1 => fun a0 a1 a2 a3 a4 h => fb_Ch_tryChanges (G_Ch_tryChanges g) a0 a1 a2 a3 a4 h
def f_Ch_tryChanges (a0 : Nat) (a1 : Int32) (a2 : Int32) (a3 : Int32) (a4 : Int32) (h : xH) : Option (Unit × xH) := G_Ch_tryChanges 24 a0 a1 a2 a3 a4 h
theorem t_Ch_tryChanges_L46 {l : Launch} {z : xZ} {d mc ms : Nat} {Ph : Option xV → xH → Prop} {R0 : Nat → Int32 → Int32 → Int32 → Int32 → xH → Option (Unit × xH)} {a0 : Nat} {a1 : Int32} {a2 : Int32} {a3 : Int32} {a4 : Int32} {a5 : Int32} {a6 : Int32} {B : Nat} (hR0 : ∀ {d mc ms : Nat} {Ph : Option xV → xH → Prop} {a0 : Nat} {a1 : Int32} {a2 : Int32} {a3 : Int32} {a4 : Int32} {h : xH}, B ≤ d → OK (R0 a0 a1 a2 a3 a4 h) (fun q => Ph (none) q.2) → Sx l z d mc ms M_Ch_tryChanges 0 (x_en [xR a0, xI a1, xI a2, xI a3, xI a4] 9) [] h Ph) (hd : B + 1 ≤ d) : ∀ (n : Nat) (a7 : Int32) (h : xH) (K : Int32 → xH → Option (Unit × xH)), OK (f_Ch_tryChanges_L46 R0 a0 a1 a2 a3 a4 a5 a6 n a7 h K) (fun q => Ph (none) q.2) → (∀ (a7 : Int32) (h : xH), OK (K a7 h) (fun q => Ph (none) q.2) → Sx l z d mc ms M_Ch_tryChanges 93 [some (xR a0), some (xI a1), some (xI a2), some (xI a3), some (xI a4), some (xI a5), some (xI a6), some (xI a7), none] [] h Ph) → Sx l z d mc ms M_Ch_tryChanges 46 [some (xR a0), some (xI a1), some (xI a2), some (xI a3), some (xI a4), some (xI a5), some (xI a6), some (xI a7), none] [] h Ph := by
  intro n
  induction n with
  | zero => intro a7 h K hk hE; exact hk.no
  | succ n ih =>
    intro a7 h K hk hE
    rw [f_Ch_tryChanges_L46] at hk
    refine sx_iload dc_Ch_tryChanges_46 rfl ?_
    refine sx_bipush (v := (21 : Int32)) dc_Ch_tryChanges_48 (by decide) ?_
    refine sx_icmp_ge (tgt := 93) dc_Ch_tryChanges_50 (by decide) (fun c18 => ?_) (fun c18 => ?_)
    · replace hk := hk.t c18
      exact hE a7 h hk
    · replace hk := hk.f c18
      refine sx_iconst (v := (1 : Int32)) dc_Ch_tryChanges_53 (by decide) ?_
      refine sx_iload dc_Ch_tryChanges_54 rfl ?_
      refine sx_ishl dc_Ch_tryChanges_56 ?_
      refine sx_istore dc_Ch_tryChanges_57 (by decide) (sx_eq (lc2 := [some (xR a0), some (xI a1), some (xI a2), some (xI a3), some (xI a4), some (xI a5), some (xI a6), some (xI a7), some (xI (jShl (1 : Int32) a7))]) rfl rfl ?_)
      refine sx_iload dc_Ch_tryChanges_59 rfl ?_
      refine sx_iload dc_Ch_tryChanges_61 rfl ?_
      refine sx_iand dc_Ch_tryChanges_63 ?_
      refine hk.j (X := fun x19 => Sx l z d mc ms M_Ch_tryChanges 87 [some (xR a0), some (xI a1), some (xI a2), some (xI a3), some (xI a4), some (xI a5), some (xI a6), some (xI a7), some (xI (jShl (1 : Int32) a7))] [] x19 Ph) (fun x19 hk => ?_) (fun k20 jk20 hk => ?_)
      · refine sx_iinc (v := (1 : Int32)) dc_Ch_tryChanges_87 rfl (by decide) (by decide) (sx_eq (lc2 := [some (xR a0), some (xI a1), some (xI a2), some (xI a3), some (xI a4), some (xI a5), some (xI a6), some (xI (a7 + (1 : Int32))), some (xI (jShl (1 : Int32) a7))]) rfl rfl ?_)
        refine sx_goto (tgt := 46) dc_Ch_tryChanges_90 (by decide) ?_
        exact sx_less (by simp [x_le]) (ih (a7 + (1 : Int32)) x19 _ hk hE)
      · refine sx_if_eq (tgt := 87) dc_Ch_tryChanges_64 (by decide) (fun c21 => ?_) (fun c21 => ?_)
        · replace hk := hk.t c21
          exact jk20 h hk
        · replace hk := hk.f c21
          refine sx_aload_n dc_Ch_tryChanges_67 rfl ?_
          refine sx_iload_n dc_Ch_tryChanges_68 rfl ?_
          refine sx_iload dc_Ch_tryChanges_69 rfl ?_
          refine sx_ixor dc_Ch_tryChanges_71 ?_
          refine sx_iload_n dc_Ch_tryChanges_72 rfl ?_
          refine sx_iload dc_Ch_tryChanges_73 rfl ?_
          refine sx_ixor dc_Ch_tryChanges_75 ?_
          refine sx_iload_n dc_Ch_tryChanges_76 rfl ?_
          refine sx_iload dc_Ch_tryChanges_77 rfl ?_
          refine sx_ior dc_Ch_tryChanges_79 ?_
          refine sx_iload dc_Ch_tryChanges_80 rfl ?_
          refine sx_iconst (v := (1 : Int32)) dc_Ch_tryChanges_82 (by decide) ?_
          refine sx_isub dc_Ch_tryChanges_83 ?_
          obtain ⟨q22, eq22, hk⟩ := hk.bind
          refine sx_callS (d2 := d - 1) (mc2 := 0) (ms2 := 0) (as := [xR a0, xI (a1 ^^^ (jShl (1 : Int32) a7)), xI (a2 ^^^ (jShl (1 : Int32) a7)), xI (a3 ||| (jShl (1 : Int32) a7)), xI (a4 - (1 : Int32))]) mk_Ch_tryChanges rfl wM_Ch_41 mt_Ch_tryChanges rfl (Nat.le_of_ble_eq_true rfl) (Nat.le_of_ble_eq_true rfl) dc_Ch_tryChanges_84 (by omega) (Nat.zero_le _) (Nat.zero_le _) ?_
          refine hR0 (by omega) ⟨q22, eq22, ?_⟩
          refine sx_eq0 (lc2 := [some (xR a0), some (xI a1), some (xI a2), some (xI a3), some (xI a4), some (xI a5), some (xI a6), some (xI a7), some (xI (jShl (1 : Int32) a7))]) (st2 := []) rfl rfl ?_
          exact jk20 q22.2 hk
theorem tb_Ch_tryChanges {l : Launch} {z : xZ} {d mc ms : Nat} {Ph : Option xV → xH → Prop} {R0 : Nat → Int32 → Int32 → Int32 → Int32 → xH → Option (Unit × xH)} {B : Nat} (hR0 : ∀ {d mc ms : Nat} {Ph : Option xV → xH → Prop} {a0 : Nat} {a1 : Int32} {a2 : Int32} {a3 : Int32} {a4 : Int32} {h : xH}, B ≤ d → OK (R0 a0 a1 a2 a3 a4 h) (fun q => Ph (none) q.2) → Sx l z d mc ms M_Ch_tryChanges 0 (x_en [xR a0, xI a1, xI a2, xI a3, xI a4] 9) [] h Ph) {a0 : Nat} {a1 : Int32} {a2 : Int32} {a3 : Int32} {a4 : Int32}  {h : xH} (hd : B + 4 ≤ d) (hk : OK (fb_Ch_tryChanges R0 a0 a1 a2 a3 a4 h) (fun q => Ph (none) q.2)) : Sx l z d mc ms M_Ch_tryChanges 0 (x_en [xR a0, xI a1, xI a2, xI a3, xI a4] 9) [] h Ph := by
  unfold fb_Ch_tryChanges at hk
  refine sx_eq (lc2 := [some (xR a0), some (xI a1), some (xI a2), some (xI a3), some (xI a4), none, none, none, none]) rfl rfl ?_
  refine sx_aload_n dc_Ch_tryChanges_0 rfl ?_
  obtain ⟨g10, hk⟩ := hk.g
  refine sx_get (ci := 0) (k := 1) rfl (by decide) wF_Ch_19 g10 dc_Ch_tryChanges_1 ?_
  refine sx_iload_n dc_Ch_tryChanges_4 rfl ?_
  refine sx_iload_n dc_Ch_tryChanges_5 rfl ?_
  obtain ⟨g12, hk⟩ := hk.g
  obtain ⟨q11, eq11, hk⟩ := hk.bind
  refine sx_callV (d2 := d - 1) (mc2 := 0) (ms2 := 0) (as := [xI a1, xI a2]) mk_St_anyThree rfl (x_rk (ci := 5) g12 rfl rfl) wM_Ch_45 mi_St_anyThree me_St_anyThree rfl (Nat.le_of_ble_eq_true rfl) (Nat.le_of_ble_eq_true rfl) dc_Ch_tryChanges_6 (by omega) (Nat.zero_le _) (Nat.zero_le _) ?_
  refine t_St_anyThree (by omega) ⟨q11, eq11, ?_⟩
  refine sx_eq0 (lc2 := [some (xR a0), some (xI a1), some (xI a2), some (xI a3), some (xI a4), none, none, none, none]) (st2 := [xI q11.1]) rfl rfl ?_
  refine sx_istore dc_Ch_tryChanges_9 (by decide) (sx_eq (lc2 := [some (xR a0), some (xI a1), some (xI a2), some (xI a3), some (xI a4), some (xI q11.1), none, none, none]) rfl rfl ?_)
  refine sx_iload dc_Ch_tryChanges_11 rfl ?_
  refine sx_if_ne (tgt := 22) dc_Ch_tryChanges_13 (by decide) (fun c13 => ?_) (fun c13 => ?_)
  · replace hk := hk.f c13
    refine sx_iload dc_Ch_tryChanges_22 rfl ?_
    refine sx_if_gt (tgt := 28) dc_Ch_tryChanges_24 (by decide) (fun c14 => ?_) (fun c14 => ?_)
    · replace hk := hk.t c14
      refine sx_aload_n dc_Ch_tryChanges_28 rfl ?_
      obtain ⟨g15, hk⟩ := hk.g
      refine sx_get (ci := 0) (k := 0) rfl (by decide) wF_Ch_15 g15 dc_Ch_tryChanges_29 ?_
      refine sx_iload dc_Ch_tryChanges_32 rfl ?_
      obtain ⟨g17, hk⟩ := hk.g
      obtain ⟨q16, eq16, hk⟩ := hk.bind
      refine sx_callV (d2 := d - 1) (mc2 := 0) (ms2 := 0) (as := [xI q11.1]) mk_Se_within rfl (x_rk (ci := 3) g17 rfl rfl) wM_Ch_55 mi_Se_within me_Se_within rfl (Nat.le_of_ble_eq_true rfl) (Nat.le_of_ble_eq_true rfl) dc_Ch_tryChanges_34 (by omega) (Nat.zero_le _) (Nat.zero_le _) ?_
      refine t_Se_within (by omega) ⟨q16, eq16, ?_⟩
      refine sx_eq0 (lc2 := [some (xR a0), some (xI a1), some (xI a2), some (xI a3), some (xI a4), some (xI q11.1), none, none, none]) (st2 := [xI q16.1]) rfl rfl ?_
      refine sx_iload_n dc_Ch_tryChanges_37 rfl ?_
      refine sx_iconst (v := (-1 : Int32)) dc_Ch_tryChanges_38 (by decide) ?_
      refine sx_ixor dc_Ch_tryChanges_39 ?_
      refine sx_iand dc_Ch_tryChanges_40 ?_
      refine sx_istore dc_Ch_tryChanges_41 (by decide) (sx_eq (lc2 := [some (xR a0), some (xI a1), some (xI a2), some (xI a3), some (xI a4), some (xI q11.1), some (xI (q16.1 &&& (a3 ^^^ (-1 : Int32)))), none, none]) rfl rfl ?_)
      refine sx_iconst (v := (0 : Int32)) dc_Ch_tryChanges_43 (by decide) ?_
      refine sx_istore dc_Ch_tryChanges_44 (by decide) (sx_eq (lc2 := [some (xR a0), some (xI a1), some (xI a2), some (xI a3), some (xI a4), some (xI q11.1), some (xI (q16.1 &&& (a3 ^^^ (-1 : Int32)))), some (xI (0 : Int32)), none]) rfl rfl ?_)
      refine t_Ch_tryChanges_L46 hR0 (by omega) _ _ _ _ hk (fun v23 h24 hk => ?_)
      exact sx_retV dc_Ch_tryChanges_93 rfl hk.val
    · replace hk := hk.f c14
      exact sx_retV dc_Ch_tryChanges_27 rfl hk.val
  · replace hk := hk.t c13
    refine sx_aload_n dc_Ch_tryChanges_16 rfl ?_
    refine sx_iload_n dc_Ch_tryChanges_17 rfl ?_
    obtain ⟨g26, hk⟩ := hk.g
    obtain ⟨q25, eq25, hk⟩ := hk.bind
    refine sx_callV (d2 := d - 1) (mc2 := 0) (ms2 := 0) (as := [xI a3]) mk_Ch_keepBest rfl (x_rk (ci := 0) g26 rfl rfl) wM_Ch_51 mi_Ch_keepBest me_Ch_keepBest rfl (Nat.le_of_ble_eq_true rfl) (Nat.le_of_ble_eq_true rfl) dc_Ch_tryChanges_18 (by omega) (Nat.zero_le _) (Nat.zero_le _) ?_
    refine t_Ch_keepBest (by omega) ⟨q25, eq25, ?_⟩
    refine sx_eq0 (lc2 := [some (xR a0), some (xI a1), some (xI a2), some (xI a3), some (xI a4), some (xI q11.1), none, none, none]) (st2 := []) rfl rfl ?_
    exact sx_retV dc_Ch_tryChanges_21 rfl hk.val
theorem tg_Ch_tryChanges {l : Launch} {z : xZ} : ∀ (g : Nat) {d mc ms : Nat} {Ph : Option xV → xH → Prop} {a0 : Nat} {a1 : Int32} {a2 : Int32} {a3 : Int32} {a4 : Int32} {h : xH}, 4 * g ≤ d → OK (G_Ch_tryChanges g a0 a1 a2 a3 a4 h) (fun q => Ph (none) q.2) → Sx l z d mc ms M_Ch_tryChanges 0 (x_en [xR a0, xI a1, xI a2, xI a3, xI a4] 9) [] h Ph
  | 0 => fun _ hk => hk.no
  | g + 1 => fun hd hk => tb_Ch_tryChanges (R0 := G_Ch_tryChanges g) (B := 4 * g) (fun hd hk => tg_Ch_tryChanges g hd hk) (by omega) hk
theorem t_Ch_tryChanges {l : Launch} {z : xZ} {d mc ms : Nat} {Ph : Option xV → xH → Prop} {a0 : Nat} {a1 : Int32} {a2 : Int32} {a3 : Int32} {a4 : Int32} {h : xH} (hd : 96 ≤ d) (hk : OK (f_Ch_tryChanges a0 a1 a2 a3 a4 h) (fun q => Ph (none) q.2)) : Sx l z d mc ms M_Ch_tryChanges 0 (x_en [xR a0, xI a1, xI a2, xI a3, xI a4] 9) [] h Ph := tg_Ch_tryChanges 24 (by omega) hk
theorem dc_Ch_seek_0 : decode M_Ch_seek.2.1 0 = .ok (.iconst 0, 1) := by decide +kernel
theorem dc_Ch_seek_1 : decode M_Ch_seek.2.1 1 = .ok (.istore_n 3, 1) := by decide +kernel
theorem dc_Ch_seek_2 : decode M_Ch_seek.2.1 2 = .ok (.iload_n 3, 1) := by decide +kernel
theorem dc_Ch_seek_3 : decode M_Ch_seek.2.1 3 = .ok (.bipush 21, 2) := by decide +kernel
theorem dc_Ch_seek_5 : decode M_Ch_seek.2.1 5 = .ok (.if_icmp .ge 20, 3) := by decide +kernel
theorem dc_Ch_seek_8 : decode M_Ch_seek.2.1 8 = .ok (.aload_n 0, 1) := by decide +kernel
theorem dc_Ch_seek_9 : decode M_Ch_seek.2.1 9 = .ok (.getfield 9, 3) := by decide +kernel
theorem dc_Ch_seek_12 : decode M_Ch_seek.2.1 12 = .ok (.iload_n 3, 1) := by decide +kernel
theorem dc_Ch_seek_13 : decode M_Ch_seek.2.1 13 = .ok (.aload_n 2, 1) := by decide +kernel
theorem dc_Ch_seek_14 : decode M_Ch_seek.2.1 14 = .ok (.iload_n 3, 1) := by decide +kernel
theorem dc_Ch_seek_15 : decode M_Ch_seek.2.1 15 = .ok (.invokevirtual 23, 3) := by decide +kernel
theorem dc_Ch_seek_18 : decode M_Ch_seek.2.1 18 = .ok (.iastore, 1) := by decide +kernel
theorem dc_Ch_seek_19 : decode M_Ch_seek.2.1 19 = .ok (.iinc 3 1, 3) := by decide +kernel
theorem dc_Ch_seek_22 : decode M_Ch_seek.2.1 22 = .ok (.goto (-20), 3) := by decide +kernel
theorem dc_Ch_seek_25 : decode M_Ch_seek.2.1 25 = .ok (.aload_n 0, 1) := by decide +kernel
theorem dc_Ch_seek_26 : decode M_Ch_seek.2.1 26 = .ok (.iconst 0, 1) := by decide +kernel
theorem dc_Ch_seek_27 : decode M_Ch_seek.2.1 27 = .ok (.putfield 28, 3) := by decide +kernel
theorem dc_Ch_seek_30 : decode M_Ch_seek.2.1 30 = .ok (.iconst 0, 1) := by decide +kernel
theorem dc_Ch_seek_31 : decode M_Ch_seek.2.1 31 = .ok (.istore_n 3, 1) := by decide +kernel
theorem dc_Ch_seek_32 : decode M_Ch_seek.2.1 32 = .ok (.iload_n 3, 1) := by decide +kernel
theorem dc_Ch_seek_33 : decode M_Ch_seek.2.1 33 = .ok (.iconst 3, 1) := by decide +kernel
theorem dc_Ch_seek_34 : decode M_Ch_seek.2.1 34 = .ok (.if_icmp .gt 30, 3) := by decide +kernel
theorem dc_Ch_seek_37 : decode M_Ch_seek.2.1 37 = .ok (.aload_n 0, 1) := by decide +kernel
theorem dc_Ch_seek_38 : decode M_Ch_seek.2.1 38 = .ok (.getfield 28, 3) := by decide +kernel
theorem dc_Ch_seek_41 : decode M_Ch_seek.2.1 41 = .ok (.ifCond .ne 23, 3) := by decide +kernel
theorem dc_Ch_seek_44 : decode M_Ch_seek.2.1 44 = .ok (.aload_n 0, 1) := by decide +kernel
theorem dc_Ch_seek_45 : decode M_Ch_seek.2.1 45 = .ok (.aload_n 1, 1) := by decide +kernel
theorem dc_Ch_seek_46 : decode M_Ch_seek.2.1 46 = .ok (.getfield 32, 3) := by decide +kernel
theorem dc_Ch_seek_49 : decode M_Ch_seek.2.1 49 = .ok (.aload_n 1, 1) := by decide +kernel
theorem dc_Ch_seek_50 : decode M_Ch_seek.2.1 50 = .ok (.getfield 38, 3) := by decide +kernel
theorem dc_Ch_seek_53 : decode M_Ch_seek.2.1 53 = .ok (.iconst 0, 1) := by decide +kernel
theorem dc_Ch_seek_54 : decode M_Ch_seek.2.1 54 = .ok (.iload_n 3, 1) := by decide +kernel
theorem dc_Ch_seek_55 : decode M_Ch_seek.2.1 55 = .ok (.invokestatic 41, 3) := by decide +kernel
theorem dc_Ch_seek_58 : decode M_Ch_seek.2.1 58 = .ok (.iinc 3 1, 3) := by decide +kernel
theorem dc_Ch_seek_61 : decode M_Ch_seek.2.1 61 = .ok (.goto (-29), 3) := by decide +kernel
theorem dc_Ch_seek_64 : decode M_Ch_seek.2.1 64 = .ok (.aload_n 0, 1) := by decide +kernel
theorem dc_Ch_seek_65 : decode M_Ch_seek.2.1 65 = .ok (.getfield 28, 3) := by decide +kernel
theorem dc_Ch_seek_68 : decode M_Ch_seek.2.1 68 = .ok (.ireturn, 1) := by decide +kernel
def f_Ch_seek_L2 (a0 : Nat) (a1 : Nat) (a2 : Nat) : Nat → Int32 → xH → (Int32 → xH → Option (Int32 × xH)) → Option (Int32 × xH)
  | 0, _, _, _ => none
  | n + 1, a3, h, K => if (21 : Int32) ≤ a3 then K a3 h else gd (hK h a0 = 0) (gd (hK h a2 = 2) (Option.bind (f_Ru_costs a2 a3 h) (fun q11 => gd (hK q11.2 (hR h a0 2) = 12) (gd (¬ (a3 < 0 ∨ hL q11.2 (hR h a0 2) ≤ a3.toNatClampNeg)) (f_Ch_seek_L2 a0 a1 a2 n (a3 + (1 : Int32)) (hIu q11.2 (hR h a0 2) a3.toNatClampNeg q11.1) K)))))
def f_Ch_seek_L32 (a0 : Nat) (a1 : Nat) (a2 : Nat) : Nat → Int32 → xH → (Int32 → xH → Option (Int32 × xH)) → Option (Int32 × xH)
  | 0, _, _, _ => none
  | n + 1, a3, h, K => if (3 : Int32) < a3 then K a3 h else gd (hK h a0 = 0) (if (hI h a0 3) = 0 then gd (hK h a1 = 6) (Option.bind (f_Ch_tryChanges a0 (hI h a1 2) (hI h a1 3) (0 : Int32) a3 h) (fun q22 => f_Ch_seek_L32 a0 a1 a2 n (a3 + (1 : Int32)) q22.2 K)) else K a3 h)
def f_Ch_seek (a0 : Nat) (a1 : Nat) (a2 : Nat) (h : xH) : Option (Int32 × xH) := f_Ch_seek_L2 a0 a1 a2 fu (0 : Int32) h (fun v15 h16 => gd (hK h16 a0 = 0) (f_Ch_seek_L32 a0 a1 a2 fu (0 : Int32) (hIu h16 a0 3 (0 : Int32)) (fun v23 h24 => gd (hK h24 a0 = 0) (some (nb (hI h24 a0 3), h24)))))
theorem t_Ch_seek_L2 {l : Launch} {z : xZ} {d mc ms : Nat} {Ph : Option xV → xH → Prop} {a0 : Nat} {a1 : Nat} {a2 : Nat}  (hd : 5 ≤ d) : ∀ (n : Nat) (a3 : Int32) (h : xH) (K : Int32 → xH → Option (Int32 × xH)), OK (f_Ch_seek_L2 a0 a1 a2 n a3 h K) (fun q => Ph (some (xI q.1)) q.2) → (∀ (a3 : Int32) (h : xH), OK (K a3 h) (fun q => Ph (some (xI q.1)) q.2) → Sx l z d mc ms M_Ch_seek 25 [some (xR a0), some (xR a1), some (xR a2), some (xI a3)] [] h Ph) → Sx l z d mc ms M_Ch_seek 2 [some (xR a0), some (xR a1), some (xR a2), some (xI a3)] [] h Ph := by
  intro n
  induction n with
  | zero => intro a3 h K hk hE; exact hk.no
  | succ n ih =>
    intro a3 h K hk hE
    rw [f_Ch_seek_L2] at hk
    refine sx_iload_n dc_Ch_seek_2 rfl ?_
    refine sx_bipush (v := (21 : Int32)) dc_Ch_seek_3 (by decide) ?_
    refine sx_icmp_ge (tgt := 25) dc_Ch_seek_5 (by decide) (fun c9 => ?_) (fun c9 => ?_)
    · replace hk := hk.t c9
      exact hE a3 h hk
    · replace hk := hk.f c9
      refine sx_aload_n dc_Ch_seek_8 rfl ?_
      obtain ⟨g10, hk⟩ := hk.g
      refine sx_get (ci := 0) (k := 2) rfl (by decide) wF_Ch_9 g10 dc_Ch_seek_9 ?_
      refine sx_iload_n dc_Ch_seek_12 rfl ?_
      refine sx_aload_n dc_Ch_seek_13 rfl ?_
      refine sx_iload_n dc_Ch_seek_14 rfl ?_
      obtain ⟨g12, hk⟩ := hk.g
      obtain ⟨q11, eq11, hk⟩ := hk.bind
      refine sx_callV (d2 := d - 1) (mc2 := 0) (ms2 := 0) (as := [xI a3]) mk_Ru_costs rfl (x_rk (ci := 2) g12 rfl rfl) wM_Ch_23 mi_Ru_costs me_Ru_costs rfl (Nat.le_of_ble_eq_true rfl) (Nat.le_of_ble_eq_true rfl) dc_Ch_seek_15 (by omega) (Nat.zero_le _) (Nat.zero_le _) ?_
      refine t_Ru_costs (by omega) ⟨q11, eq11, ?_⟩
      refine sx_eq0 (lc2 := [some (xR a0), some (xR a1), some (xR a2), some (xI a3)]) (st2 := [xI q11.1, xI a3, xR (hR h a0 2)]) rfl rfl ?_
      obtain ⟨g13, hk⟩ := hk.g
      obtain ⟨g14, hk⟩ := hk.g
      refine sx_iast g13 g14 dc_Ch_seek_18 ?_
      refine sx_iinc (v := (1 : Int32)) dc_Ch_seek_19 rfl (by decide) (by decide) (sx_eq (lc2 := [some (xR a0), some (xR a1), some (xR a2), some (xI (a3 + (1 : Int32)))]) rfl rfl ?_)
      refine sx_goto (tgt := 2) dc_Ch_seek_22 (by decide) ?_
      exact ih (a3 + (1 : Int32)) (hIu q11.2 (hR h a0 2) a3.toNatClampNeg q11.1) _ hk hE
theorem t_Ch_seek_L32 {l : Launch} {z : xZ} {d mc ms : Nat} {Ph : Option xV → xH → Prop} {a0 : Nat} {a1 : Nat} {a2 : Nat}  (hd : 97 ≤ d) : ∀ (n : Nat) (a3 : Int32) (h : xH) (K : Int32 → xH → Option (Int32 × xH)), OK (f_Ch_seek_L32 a0 a1 a2 n a3 h K) (fun q => Ph (some (xI q.1)) q.2) → (∀ (a3 : Int32) (h : xH), OK (K a3 h) (fun q => Ph (some (xI q.1)) q.2) → Sx l z d mc ms M_Ch_seek 64 [some (xR a0), some (xR a1), some (xR a2), some (xI a3)] [] h Ph) → Sx l z d mc ms M_Ch_seek 32 [some (xR a0), some (xR a1), some (xR a2), some (xI a3)] [] h Ph := by
  intro n
  induction n with
  | zero => intro a3 h K hk hE; exact hk.no
  | succ n ih =>
    intro a3 h K hk hE
    rw [f_Ch_seek_L32] at hk
    refine sx_iload_n dc_Ch_seek_32 rfl ?_
    refine sx_iconst (v := (3 : Int32)) dc_Ch_seek_33 (by decide) ?_
    refine sx_icmp_gt (tgt := 64) dc_Ch_seek_34 (by decide) (fun c18 => ?_) (fun c18 => ?_)
    · replace hk := hk.t c18
      exact hE a3 h hk
    · replace hk := hk.f c18
      refine sx_aload_n dc_Ch_seek_37 rfl ?_
      obtain ⟨g19, hk⟩ := hk.g
      refine sx_get (ci := 0) (k := 3) rfl (by decide) wF_Ch_28 g19 dc_Ch_seek_38 ?_
      refine sx_if_ne (tgt := 64) dc_Ch_seek_41 (by decide) (fun c20 => ?_) (fun c20 => ?_)
      · replace hk := hk.f c20
        exact hE a3 h hk
      · replace hk := hk.t c20
        refine sx_aload_n dc_Ch_seek_44 rfl ?_
        refine sx_aload_n dc_Ch_seek_45 rfl ?_
        obtain ⟨g21, hk⟩ := hk.g
        refine sx_get (ci := 6) (k := 2) rfl (by decide) wF_Ch_32 g21 dc_Ch_seek_46 ?_
        refine sx_aload_n dc_Ch_seek_49 rfl ?_
        refine sx_get (ci := 6) (k := 3) rfl (by decide) wF_Ch_38 g21 dc_Ch_seek_50 ?_
        refine sx_iconst (v := (0 : Int32)) dc_Ch_seek_53 (by decide) ?_
        refine sx_iload_n dc_Ch_seek_54 rfl ?_
        obtain ⟨q22, eq22, hk⟩ := hk.bind
        refine sx_callS (d2 := d - 1) (mc2 := 0) (ms2 := 0) (as := [xR a0, xI (hI h a1 2), xI (hI h a1 3), xI (0 : Int32), xI a3]) mk_Ch_tryChanges rfl wM_Ch_41 mt_Ch_tryChanges rfl (Nat.le_of_ble_eq_true rfl) (Nat.le_of_ble_eq_true rfl) dc_Ch_seek_55 (by omega) (Nat.zero_le _) (Nat.zero_le _) ?_
        refine t_Ch_tryChanges (by omega) ⟨q22, eq22, ?_⟩
        refine sx_eq0 (lc2 := [some (xR a0), some (xR a1), some (xR a2), some (xI a3)]) (st2 := []) rfl rfl ?_
        refine sx_iinc (v := (1 : Int32)) dc_Ch_seek_58 rfl (by decide) (by decide) (sx_eq (lc2 := [some (xR a0), some (xR a1), some (xR a2), some (xI (a3 + (1 : Int32)))]) rfl rfl ?_)
        refine sx_goto (tgt := 32) dc_Ch_seek_61 (by decide) ?_
        exact ih (a3 + (1 : Int32)) q22.2 _ hk hE
theorem t_Ch_seek {l : Launch} {z : xZ} {d mc ms : Nat} {Ph : Option xV → xH → Prop} {a0 : Nat} {a1 : Nat} {a2 : Nat}  {h : xH} (hd : 97 ≤ d) (hk : OK (f_Ch_seek a0 a1 a2 h) (fun q => Ph (some (xI q.1)) q.2)) : Sx l z d mc ms M_Ch_seek 0 (x_en [xR a0, xR a1, xR a2] 4) [] h Ph := by
  unfold f_Ch_seek at hk
  refine sx_eq (lc2 := [some (xR a0), some (xR a1), some (xR a2), none]) rfl rfl ?_
  refine sx_iconst (v := (0 : Int32)) dc_Ch_seek_0 (by decide) ?_
  refine sx_istore_n dc_Ch_seek_1 (by decide) (sx_eq (lc2 := [some (xR a0), some (xR a1), some (xR a2), some (xI (0 : Int32))]) rfl rfl ?_)
  refine t_Ch_seek_L2 (by omega) _ _ _ _ hk (fun v15 h16 hk => ?_)
  refine sx_aload_n dc_Ch_seek_25 rfl ?_
  refine sx_iconst (v := (0 : Int32)) dc_Ch_seek_26 (by decide) ?_
  obtain ⟨g17, hk⟩ := hk.g
  refine sx_putI (ci := 0) (k := 3) rfl (by decide) wF_Ch_28 rfl g17 (Or.inr ⟨rfl, Or.inl rfl⟩) dc_Ch_seek_27 ?_
  refine sx_iconst (v := (0 : Int32)) dc_Ch_seek_30 (by decide) ?_
  refine sx_istore_n dc_Ch_seek_31 (by decide) (sx_eq (lc2 := [some (xR a0), some (xR a1), some (xR a2), some (xI (0 : Int32))]) rfl rfl ?_)
  refine t_Ch_seek_L32 (by omega) _ _ _ _ hk (fun v23 h24 hk => ?_)
  refine sx_aload_n dc_Ch_seek_64 rfl ?_
  obtain ⟨g25, hk⟩ := hk.g
  refine sx_get (ci := 0) (k := 3) rfl (by decide) wF_Ch_28 g25 dc_Ch_seek_65 ?_
  exact sx_retT dc_Ch_seek_68 (Or.inl ⟨rfl, rfl⟩) rfl hk.val
theorem dc_Ta_everyone_0 : decode M_Ta_everyone.2.1 0 = .ok (.iconst 1, 1) := by decide +kernel
theorem dc_Ta_everyone_1 : decode M_Ta_everyone.2.1 1 = .ok (.aload_n 0, 1) := by decide +kernel
theorem dc_Ta_everyone_2 : decode M_Ta_everyone.2.1 2 = .ok (.getfield 13, 3) := by decide +kernel
theorem dc_Ta_everyone_5 : decode M_Ta_everyone.2.1 5 = .ok (.ishl, 1) := by decide +kernel
theorem dc_Ta_everyone_6 : decode M_Ta_everyone.2.1 6 = .ok (.iconst 1, 1) := by decide +kernel
theorem dc_Ta_everyone_7 : decode M_Ta_everyone.2.1 7 = .ok (.isub, 1) := by decide +kernel
theorem dc_Ta_everyone_8 : decode M_Ta_everyone.2.1 8 = .ok (.ireturn, 1) := by decide +kernel
def f_Ta_everyone (a0 : Nat) (h : xH) : Option (Int32 × xH) := gd (hK h a0 = 6) (some ((jShl (1 : Int32) (hI h a0 1)) - (1 : Int32), h))
theorem t_Ta_everyone {l : Launch} {z : xZ} {d mc ms : Nat} {Ph : Option xV → xH → Prop} {a0 : Nat}  {h : xH} (hd : 1 ≤ d) (hk : OK (f_Ta_everyone a0 h) (fun q => Ph (some (xI q.1)) q.2)) : Sx l z d mc ms M_Ta_everyone 0 (x_en [xR a0] 1) [] h Ph := by
  unfold f_Ta_everyone at hk
  refine sx_eq (lc2 := [some (xR a0)]) rfl rfl ?_
  refine sx_iconst (v := (1 : Int32)) dc_Ta_everyone_0 (by decide) ?_
  refine sx_aload_n dc_Ta_everyone_1 rfl ?_
  obtain ⟨g2, hk⟩ := hk.g
  refine sx_get (ci := 6) (k := 1) rfl (by decide) wF_Ta_13 g2 dc_Ta_everyone_2 ?_
  refine sx_ishl dc_Ta_everyone_5 ?_
  refine sx_iconst (v := (1 : Int32)) dc_Ta_everyone_6 (by decide) ?_
  refine sx_isub dc_Ta_everyone_7 ?_
  exact sx_retI dc_Ta_everyone_8 rfl hk.val
theorem dc_Ta_everyPair_0 : decode M_Ta_everyPair.2.1 0 = .ok (.aload_n 0, 1) := by decide +kernel
theorem dc_Ta_everyPair_1 : decode M_Ta_everyPair.2.1 1 = .ok (.getfield 7, 3) := by decide +kernel
theorem dc_Ta_everyPair_4 : decode M_Ta_everyPair.2.1 4 = .ok (.aload_n 0, 1) := by decide +kernel
theorem dc_Ta_everyPair_5 : decode M_Ta_everyPair.2.1 5 = .ok (.invokevirtual 31, 3) := by decide +kernel
theorem dc_Ta_everyPair_8 : decode M_Ta_everyPair.2.1 8 = .ok (.invokevirtual 34, 3) := by decide +kernel
theorem dc_Ta_everyPair_11 : decode M_Ta_everyPair.2.1 11 = .ok (.ireturn, 1) := by decide +kernel
def f_Ta_everyPair (a0 : Nat) (h : xH) : Option (Int32 × xH) := gd (hK h a0 = 6) (Option.bind (f_Ta_everyone a0 h) (fun q6 => gd (hK q6.2 (hR h a0 0) = 3) (Option.bind (f_Se_within (hR h a0 0) q6.1 q6.2) (fun q7 => some (q7.1, q7.2)))))
theorem t_Ta_everyPair {l : Launch} {z : xZ} {d mc ms : Nat} {Ph : Option xV → xH → Prop} {a0 : Nat}  {h : xH} (hd : 2 ≤ d) (hk : OK (f_Ta_everyPair a0 h) (fun q => Ph (some (xI q.1)) q.2)) : Sx l z d mc ms M_Ta_everyPair 0 (x_en [xR a0] 1) [] h Ph := by
  unfold f_Ta_everyPair at hk
  refine sx_eq (lc2 := [some (xR a0)]) rfl rfl ?_
  refine sx_aload_n dc_Ta_everyPair_0 rfl ?_
  obtain ⟨g5, hk⟩ := hk.g
  refine sx_get (ci := 6) (k := 0) rfl (by decide) wF_Ta_7 g5 dc_Ta_everyPair_1 ?_
  refine sx_aload_n dc_Ta_everyPair_4 rfl ?_
  obtain ⟨q6, eq6, hk⟩ := hk.bind
  refine sx_callV (d2 := d - 1) (mc2 := 0) (ms2 := 0) (as := []) mk_Ta_everyone rfl (x_rk (ci := 6) g5 rfl rfl) wM_Ta_31 mi_Ta_everyone me_Ta_everyone rfl (Nat.le_of_ble_eq_true rfl) (Nat.le_of_ble_eq_true rfl) dc_Ta_everyPair_5 (by omega) (Nat.zero_le _) (Nat.zero_le _) ?_
  refine t_Ta_everyone (by omega) ⟨q6, eq6, ?_⟩
  refine sx_eq0 (lc2 := [some (xR a0)]) (st2 := [xI q6.1, xR (hR h a0 0)]) rfl rfl ?_
  obtain ⟨g8, hk⟩ := hk.g
  obtain ⟨q7, eq7, hk⟩ := hk.bind
  refine sx_callV (d2 := d - 1) (mc2 := 0) (ms2 := 0) (as := [xI q6.1]) mk_Se_within rfl (x_rk (ci := 3) g8 rfl rfl) wM_Ta_34 mi_Se_within me_Se_within rfl (Nat.le_of_ble_eq_true rfl) (Nat.le_of_ble_eq_true rfl) dc_Ta_everyPair_8 (by omega) (Nat.zero_le _) (Nat.zero_le _) ?_
  refine t_Se_within (by omega) ⟨q7, eq7, ?_⟩
  refine sx_eq0 (lc2 := [some (xR a0)]) (st2 := [xI q7.1]) rfl rfl ?_
  exact sx_retI dc_Ta_everyPair_11 rfl hk.val
theorem dc_Se_closes_0 : decode M_Se_closes.2.1 0 = .ok (.iconst 1, 1) := by decide +kernel
theorem dc_Se_closes_1 : decode M_Se_closes.2.1 1 = .ok (.aload_n 0, 1) := by decide +kernel
theorem dc_Se_closes_2 : decode M_Se_closes.2.1 2 = .ok (.iload_n 1, 1) := by decide +kernel
theorem dc_Se_closes_3 : decode M_Se_closes.2.1 3 = .ok (.invokevirtual 43, 3) := by decide +kernel
theorem dc_Se_closes_6 : decode M_Se_closes.2.1 6 = .ok (.ishl, 1) := by decide +kernel
theorem dc_Se_closes_7 : decode M_Se_closes.2.1 7 = .ok (.iconst 1, 1) := by decide +kernel
theorem dc_Se_closes_8 : decode M_Se_closes.2.1 8 = .ok (.aload_n 0, 1) := by decide +kernel
theorem dc_Se_closes_9 : decode M_Se_closes.2.1 9 = .ok (.iload_n 1, 1) := by decide +kernel
theorem dc_Se_closes_10 : decode M_Se_closes.2.1 10 = .ok (.invokevirtual 45, 3) := by decide +kernel
theorem dc_Se_closes_13 : decode M_Se_closes.2.1 13 = .ok (.ishl, 1) := by decide +kernel
theorem dc_Se_closes_14 : decode M_Se_closes.2.1 14 = .ok (.ior, 1) := by decide +kernel
theorem dc_Se_closes_15 : decode M_Se_closes.2.1 15 = .ok (.istore_n 3, 1) := by decide +kernel
theorem dc_Se_closes_16 : decode M_Se_closes.2.1 16 = .ok (.iconst 0, 1) := by decide +kernel
theorem dc_Se_closes_17 : decode M_Se_closes.2.1 17 = .ok (.istore 4, 2) := by decide +kernel
theorem dc_Se_closes_19 : decode M_Se_closes.2.1 19 = .ok (.iload 4, 2) := by decide +kernel
theorem dc_Se_closes_21 : decode M_Se_closes.2.1 21 = .ok (.bipush 7, 2) := by decide +kernel
theorem dc_Se_closes_23 : decode M_Se_closes.2.1 23 = .ok (.if_icmp .ge 41, 3) := by decide +kernel
theorem dc_Se_closes_26 : decode M_Se_closes.2.1 26 = .ok (.aload_n 0, 1) := by decide +kernel
theorem dc_Se_closes_27 : decode M_Se_closes.2.1 27 = .ok (.iload_n 3, 1) := by decide +kernel
theorem dc_Se_closes_28 : decode M_Se_closes.2.1 28 = .ok (.iconst 1, 1) := by decide +kernel
theorem dc_Se_closes_29 : decode M_Se_closes.2.1 29 = .ok (.iload 4, 2) := by decide +kernel
theorem dc_Se_closes_31 : decode M_Se_closes.2.1 31 = .ok (.ishl, 1) := by decide +kernel
theorem dc_Se_closes_32 : decode M_Se_closes.2.1 32 = .ok (.ior, 1) := by decide +kernel
theorem dc_Se_closes_33 : decode M_Se_closes.2.1 33 = .ok (.invokevirtual 47, 3) := by decide +kernel
theorem dc_Se_closes_36 : decode M_Se_closes.2.1 36 = .ok (.istore 5, 2) := by decide +kernel
theorem dc_Se_closes_38 : decode M_Se_closes.2.1 38 = .ok (.iload_n 3, 1) := by decide +kernel
theorem dc_Se_closes_39 : decode M_Se_closes.2.1 39 = .ok (.iload 4, 2) := by decide +kernel
theorem dc_Se_closes_41 : decode M_Se_closes.2.1 41 = .ok (.ishr, 1) := by decide +kernel
theorem dc_Se_closes_42 : decode M_Se_closes.2.1 42 = .ok (.iconst 1, 1) := by decide +kernel
theorem dc_Se_closes_43 : decode M_Se_closes.2.1 43 = .ok (.iand, 1) := by decide +kernel
theorem dc_Se_closes_44 : decode M_Se_closes.2.1 44 = .ok (.ifCond .ne 14, 3) := by decide +kernel
theorem dc_Se_closes_47 : decode M_Se_closes.2.1 47 = .ok (.iload_n 2, 1) := by decide +kernel
theorem dc_Se_closes_48 : decode M_Se_closes.2.1 48 = .ok (.iload 5, 2) := by decide +kernel
theorem dc_Se_closes_50 : decode M_Se_closes.2.1 50 = .ok (.iand, 1) := by decide +kernel
theorem dc_Se_closes_51 : decode M_Se_closes.2.1 51 = .ok (.iload 5, 2) := by decide +kernel
theorem dc_Se_closes_53 : decode M_Se_closes.2.1 53 = .ok (.if_icmp .ne 5, 3) := by decide +kernel
theorem dc_Se_closes_56 : decode M_Se_closes.2.1 56 = .ok (.iconst 1, 1) := by decide +kernel
theorem dc_Se_closes_57 : decode M_Se_closes.2.1 57 = .ok (.ireturn, 1) := by decide +kernel
theorem dc_Se_closes_58 : decode M_Se_closes.2.1 58 = .ok (.iinc 4 1, 3) := by decide +kernel
theorem dc_Se_closes_61 : decode M_Se_closes.2.1 61 = .ok (.goto (-42), 3) := by decide +kernel
theorem dc_Se_closes_64 : decode M_Se_closes.2.1 64 = .ok (.iconst 0, 1) := by decide +kernel
theorem dc_Se_closes_65 : decode M_Se_closes.2.1 65 = .ok (.ireturn, 1) := by decide +kernel
def f_Se_closes_L19 (a0 : Nat) (a1 : Int32) (a2 : Int32) (a3 : Int32) : Nat → Int32 → xH → (Int32 → xH → Option (Int32 × xH)) → Option (Int32 × xH)
  | 0, _, _, _ => none
  | n + 1, a4, h, K => if (7 : Int32) ≤ a4 then K a4 h else gd (hK h a0 = 3) (Option.bind (f_Se_within a0 (a3 ||| (jShl (1 : Int32) a4)) h) (fun q12 => jn (fun (x14 : Unit) => f_Se_closes_L19 a0 a1 a2 a3 n (a4 + (1 : Int32)) q12.2 K) (fun k15 => if ((jShr a3 a4) &&& (1 : Int32)) = 0 then if (a2 &&& q12.1) = q12.1 then some ((1 : Int32), q12.2) else k15 () else k15 ())))
def f_Se_closes (a0 : Nat) (a1 : Int32) (a2 : Int32) (h : xH) : Option (Int32 × xH) := gd (hK h a0 = 3) (Option.bind (f_Se_lower a0 a1 h) (fun q7 => gd (hK q7.2 a0 = 3) (Option.bind (f_Se_higher a0 a1 q7.2) (fun q9 => f_Se_closes_L19 a0 a1 a2 ((jShl (1 : Int32) q7.1) ||| (jShl (1 : Int32) q9.1)) fu (0 : Int32) q9.2 (fun v18 h19 => some ((0 : Int32), h19))))))
theorem t_Se_closes_L19 {l : Launch} {z : xZ} {d mc ms : Nat} {Ph : Option xV → xH → Prop} {a0 : Nat} {a1 : Int32} {a2 : Int32} {a3 : Int32}  (hd : 2 ≤ d) : ∀ (n : Nat) (a4 : Int32) (h : xH) (K : Int32 → xH → Option (Int32 × xH)), OK (f_Se_closes_L19 a0 a1 a2 a3 n a4 h K) (fun q => Ph (some (xI q.1)) q.2) → (∀ (a4 : Int32) (h : xH), OK (K a4 h) (fun q => Ph (some (xI q.1)) q.2) → Sx l z d mc ms M_Se_closes 64 [some (xR a0), some (xI a1), some (xI a2), some (xI a3), some (xI a4), none] [] h Ph) → Sx l z d mc ms M_Se_closes 19 [some (xR a0), some (xI a1), some (xI a2), some (xI a3), some (xI a4), none] [] h Ph := by
  intro n
  induction n with
  | zero => intro a4 h K hk hE; exact hk.no
  | succ n ih =>
    intro a4 h K hk hE
    rw [f_Se_closes_L19] at hk
    refine sx_iload dc_Se_closes_19 rfl ?_
    refine sx_bipush (v := (7 : Int32)) dc_Se_closes_21 (by decide) ?_
    refine sx_icmp_ge (tgt := 64) dc_Se_closes_23 (by decide) (fun c11 => ?_) (fun c11 => ?_)
    · replace hk := hk.t c11
      exact hE a4 h hk
    · replace hk := hk.f c11
      refine sx_aload_n dc_Se_closes_26 rfl ?_
      refine sx_iload_n dc_Se_closes_27 rfl ?_
      refine sx_iconst (v := (1 : Int32)) dc_Se_closes_28 (by decide) ?_
      refine sx_iload dc_Se_closes_29 rfl ?_
      refine sx_ishl dc_Se_closes_31 ?_
      refine sx_ior dc_Se_closes_32 ?_
      obtain ⟨g13, hk⟩ := hk.g
      obtain ⟨q12, eq12, hk⟩ := hk.bind
      refine sx_callV (d2 := d - 1) (mc2 := 0) (ms2 := 0) (as := [xI (a3 ||| (jShl (1 : Int32) a4))]) mk_Se_within rfl (x_rk (ci := 3) g13 rfl rfl) wM_Se_47 mi_Se_within me_Se_within rfl (Nat.le_of_ble_eq_true rfl) (Nat.le_of_ble_eq_true rfl) dc_Se_closes_33 (by omega) (Nat.zero_le _) (Nat.zero_le _) ?_
      refine t_Se_within (by omega) ⟨q12, eq12, ?_⟩
      refine sx_eq0 (lc2 := [some (xR a0), some (xI a1), some (xI a2), some (xI a3), some (xI a4), none]) (st2 := [xI q12.1]) rfl rfl ?_
      refine sx_istore dc_Se_closes_36 (by decide) (sx_eq (lc2 := [some (xR a0), some (xI a1), some (xI a2), some (xI a3), some (xI a4), some (xI q12.1)]) rfl rfl ?_)
      refine sx_iload_n dc_Se_closes_38 rfl ?_
      refine sx_iload dc_Se_closes_39 rfl ?_
      refine sx_ishr dc_Se_closes_41 ?_
      refine sx_iconst (v := (1 : Int32)) dc_Se_closes_42 (by decide) ?_
      refine sx_iand dc_Se_closes_43 ?_
      refine hk.j (X := fun x14 => Sx l z d mc ms M_Se_closes 58 [some (xR a0), some (xI a1), some (xI a2), some (xI a3), some (xI a4), some (xI q12.1)] [] q12.2 Ph) (fun x14 hk => ?_) (fun k15 jk15 hk => ?_)
      · refine sx_iinc (v := (1 : Int32)) dc_Se_closes_58 rfl (by decide) (by decide) (sx_eq (lc2 := [some (xR a0), some (xI a1), some (xI a2), some (xI a3), some (xI (a4 + (1 : Int32))), some (xI q12.1)]) rfl rfl ?_)
        refine sx_goto (tgt := 19) dc_Se_closes_61 (by decide) ?_
        exact sx_less (by simp [x_le]) (ih (a4 + (1 : Int32)) q12.2 _ hk hE)
      · refine sx_if_ne (tgt := 58) dc_Se_closes_44 (by decide) (fun c16 => ?_) (fun c16 => ?_)
        · replace hk := hk.f c16
          exact jk15 () hk
        · replace hk := hk.t c16
          refine sx_iload_n dc_Se_closes_47 rfl ?_
          refine sx_iload dc_Se_closes_48 rfl ?_
          refine sx_iand dc_Se_closes_50 ?_
          refine sx_iload dc_Se_closes_51 rfl ?_
          refine sx_icmp_ne (tgt := 58) dc_Se_closes_53 (by decide) (fun c17 => ?_) (fun c17 => ?_)
          · replace hk := hk.f c17
            exact jk15 () hk
          · replace hk := hk.t c17
            refine sx_iconst (v := (1 : Int32)) dc_Se_closes_56 (by decide) ?_
            exact sx_retT (v := (1 : Int32)) dc_Se_closes_57 (Or.inl ⟨rfl, rfl⟩) (by decide) hk.val
theorem t_Se_closes {l : Launch} {z : xZ} {d mc ms : Nat} {Ph : Option xV → xH → Prop} {a0 : Nat} {a1 : Int32} {a2 : Int32}  {h : xH} (hd : 2 ≤ d) (hk : OK (f_Se_closes a0 a1 a2 h) (fun q => Ph (some (xI q.1)) q.2)) : Sx l z d mc ms M_Se_closes 0 (x_en [xR a0, xI a1, xI a2] 6) [] h Ph := by
  unfold f_Se_closes at hk
  refine sx_eq (lc2 := [some (xR a0), some (xI a1), some (xI a2), none, none, none]) rfl rfl ?_
  refine sx_iconst (v := (1 : Int32)) dc_Se_closes_0 (by decide) ?_
  refine sx_aload_n dc_Se_closes_1 rfl ?_
  refine sx_iload_n dc_Se_closes_2 rfl ?_
  obtain ⟨g8, hk⟩ := hk.g
  obtain ⟨q7, eq7, hk⟩ := hk.bind
  refine sx_callV (d2 := d - 1) (mc2 := 0) (ms2 := 0) (as := [xI a1]) mk_Se_lower rfl (x_rk (ci := 3) g8 rfl rfl) wM_Se_43 mi_Se_lower me_Se_lower rfl (Nat.le_of_ble_eq_true rfl) (Nat.le_of_ble_eq_true rfl) dc_Se_closes_3 (by omega) (Nat.zero_le _) (Nat.zero_le _) ?_
  refine t_Se_lower (by omega) ⟨q7, eq7, ?_⟩
  refine sx_eq0 (lc2 := [some (xR a0), some (xI a1), some (xI a2), none, none, none]) (st2 := [xI q7.1, xI (1 : Int32)]) rfl rfl ?_
  refine sx_ishl dc_Se_closes_6 ?_
  refine sx_iconst (v := (1 : Int32)) dc_Se_closes_7 (by decide) ?_
  refine sx_aload_n dc_Se_closes_8 rfl ?_
  refine sx_iload_n dc_Se_closes_9 rfl ?_
  obtain ⟨g10, hk⟩ := hk.g
  obtain ⟨q9, eq9, hk⟩ := hk.bind
  refine sx_callV (d2 := d - 1) (mc2 := 0) (ms2 := 0) (as := [xI a1]) mk_Se_higher rfl (x_rk (ci := 3) g10 rfl rfl) wM_Se_45 mi_Se_higher me_Se_higher rfl (Nat.le_of_ble_eq_true rfl) (Nat.le_of_ble_eq_true rfl) dc_Se_closes_10 (by omega) (Nat.zero_le _) (Nat.zero_le _) ?_
  refine t_Se_higher (by omega) ⟨q9, eq9, ?_⟩
  refine sx_eq0 (lc2 := [some (xR a0), some (xI a1), some (xI a2), none, none, none]) (st2 := [xI q9.1, xI (1 : Int32), xI (jShl (1 : Int32) q7.1)]) rfl rfl ?_
  refine sx_ishl dc_Se_closes_13 ?_
  refine sx_ior dc_Se_closes_14 ?_
  refine sx_istore_n dc_Se_closes_15 (by decide) (sx_eq (lc2 := [some (xR a0), some (xI a1), some (xI a2), some (xI ((jShl (1 : Int32) q7.1) ||| (jShl (1 : Int32) q9.1))), none, none]) rfl rfl ?_)
  refine sx_iconst (v := (0 : Int32)) dc_Se_closes_16 (by decide) ?_
  refine sx_istore dc_Se_closes_17 (by decide) (sx_eq (lc2 := [some (xR a0), some (xI a1), some (xI a2), some (xI ((jShl (1 : Int32) q7.1) ||| (jShl (1 : Int32) q9.1))), some (xI (0 : Int32)), none]) rfl rfl ?_)
  refine t_Se_closes_L19 (by omega) _ _ _ _ hk (fun v18 h19 hk => ?_)
  refine sx_iconst (v := (0 : Int32)) dc_Se_closes_64 (by decide) ?_
  exact sx_retT (v := (0 : Int32)) dc_Se_closes_65 (Or.inl ⟨rfl, rfl⟩) (by decide) hk.val
theorem dc_Ga_worth_0 : decode M_Ga_worth.2.1 0 = .ok (.iload_n 3, 1) := by decide +kernel
theorem dc_Ga_worth_1 : decode M_Ga_worth.2.1 1 = .ok (.iload_n 1, 1) := by decide +kernel
theorem dc_Ga_worth_2 : decode M_Ga_worth.2.1 2 = .ok (.iload_n 2, 1) := by decide +kernel
theorem dc_Ga_worth_3 : decode M_Ga_worth.2.1 3 = .ok (.ior, 1) := by decide +kernel
theorem dc_Ga_worth_4 : decode M_Ga_worth.2.1 4 = .ok (.iconst (-1), 1) := by decide +kernel
theorem dc_Ga_worth_5 : decode M_Ga_worth.2.1 5 = .ok (.ixor, 1) := by decide +kernel
theorem dc_Ga_worth_6 : decode M_Ga_worth.2.1 6 = .ok (.iand, 1) := by decide +kernel
theorem dc_Ga_worth_7 : decode M_Ga_worth.2.1 7 = .ok (.istore 5, 2) := by decide +kernel
theorem dc_Ga_worth_9 : decode M_Ga_worth.2.1 9 = .ok (.iload 5, 2) := by decide +kernel
theorem dc_Ga_worth_11 : decode M_Ga_worth.2.1 11 = .ok (.ifCond .eq 8, 3) := by decide +kernel
theorem dc_Ga_worth_14 : decode M_Ga_worth.2.1 14 = .ok (.iload 4, 2) := by decide +kernel
theorem dc_Ga_worth_16 : decode M_Ga_worth.2.1 16 = .ok (.ifCond .gt 5, 3) := by decide +kernel
theorem dc_Ga_worth_19 : decode M_Ga_worth.2.1 19 = .ok (.iconst 0, 1) := by decide +kernel
theorem dc_Ga_worth_20 : decode M_Ga_worth.2.1 20 = .ok (.ireturn, 1) := by decide +kernel
theorem dc_Ga_worth_21 : decode M_Ga_worth.2.1 21 = .ok (.iconst (-1), 1) := by decide +kernel
theorem dc_Ga_worth_22 : decode M_Ga_worth.2.1 22 = .ok (.istore 6, 2) := by decide +kernel
theorem dc_Ga_worth_24 : decode M_Ga_worth.2.1 24 = .ok (.iconst 0, 1) := by decide +kernel
theorem dc_Ga_worth_25 : decode M_Ga_worth.2.1 25 = .ok (.istore 7, 2) := by decide +kernel
theorem dc_Ga_worth_27 : decode M_Ga_worth.2.1 27 = .ok (.iload 7, 2) := by decide +kernel
theorem dc_Ga_worth_29 : decode M_Ga_worth.2.1 29 = .ok (.bipush 6, 2) := by decide +kernel
theorem dc_Ga_worth_31 : decode M_Ga_worth.2.1 31 = .ok (.if_icmp .ge 51, 3) := by decide +kernel
theorem dc_Ga_worth_34 : decode M_Ga_worth.2.1 34 = .ok (.iload 6, 2) := by decide +kernel
theorem dc_Ga_worth_36 : decode M_Ga_worth.2.1 36 = .ok (.iconst 1, 1) := by decide +kernel
theorem dc_Ga_worth_37 : decode M_Ga_worth.2.1 37 = .ok (.if_icmp .ge 45, 3) := by decide +kernel
theorem dc_Ga_worth_40 : decode M_Ga_worth.2.1 40 = .ok (.iload 5, 2) := by decide +kernel
theorem dc_Ga_worth_42 : decode M_Ga_worth.2.1 42 = .ok (.iload 7, 2) := by decide +kernel
theorem dc_Ga_worth_44 : decode M_Ga_worth.2.1 44 = .ok (.ishr, 1) := by decide +kernel
theorem dc_Ga_worth_45 : decode M_Ga_worth.2.1 45 = .ok (.iconst 1, 1) := by decide +kernel
theorem dc_Ga_worth_46 : decode M_Ga_worth.2.1 46 = .ok (.iand, 1) := by decide +kernel
theorem dc_Ga_worth_47 : decode M_Ga_worth.2.1 47 = .ok (.ifCond .ne 6, 3) := by decide +kernel
theorem dc_Ga_worth_50 : decode M_Ga_worth.2.1 50 = .ok (.goto 26, 3) := by decide +kernel
theorem dc_Ga_worth_53 : decode M_Ga_worth.2.1 53 = .ok (.iload 6, 2) := by decide +kernel
theorem dc_Ga_worth_55 : decode M_Ga_worth.2.1 55 = .ok (.aload_n 0, 1) := by decide +kernel
theorem dc_Ga_worth_56 : decode M_Ga_worth.2.1 56 = .ok (.iload 7, 2) := by decide +kernel
theorem dc_Ga_worth_58 : decode M_Ga_worth.2.1 58 = .ok (.iload_n 1, 1) := by decide +kernel
theorem dc_Ga_worth_59 : decode M_Ga_worth.2.1 59 = .ok (.iconst 1, 1) := by decide +kernel
theorem dc_Ga_worth_60 : decode M_Ga_worth.2.1 60 = .ok (.iload 7, 2) := by decide +kernel
theorem dc_Ga_worth_62 : decode M_Ga_worth.2.1 62 = .ok (.ishl, 1) := by decide +kernel
theorem dc_Ga_worth_63 : decode M_Ga_worth.2.1 63 = .ok (.ior, 1) := by decide +kernel
theorem dc_Ga_worth_64 : decode M_Ga_worth.2.1 64 = .ok (.iload_n 2, 1) := by decide +kernel
theorem dc_Ga_worth_65 : decode M_Ga_worth.2.1 65 = .ok (.iload_n 3, 1) := by decide +kernel
theorem dc_Ga_worth_66 : decode M_Ga_worth.2.1 66 = .ok (.iload 4, 2) := by decide +kernel
theorem dc_Ga_worth_68 : decode M_Ga_worth.2.1 68 = .ok (.invokestatic 32, 3) := by decide +kernel
theorem dc_Ga_worth_71 : decode M_Ga_worth.2.1 71 = .ok (.invokestatic 36, 3) := by decide +kernel
theorem dc_Ga_worth_74 : decode M_Ga_worth.2.1 74 = .ok (.istore 6, 2) := by decide +kernel
theorem dc_Ga_worth_76 : decode M_Ga_worth.2.1 76 = .ok (.iinc 7 1, 3) := by decide +kernel
theorem dc_Ga_worth_79 : decode M_Ga_worth.2.1 79 = .ok (.goto (-52), 3) := by decide +kernel
theorem dc_Ga_worth_82 : decode M_Ga_worth.2.1 82 = .ok (.iload 6, 2) := by decide +kernel
theorem dc_Ga_worth_84 : decode M_Ga_worth.2.1 84 = .ok (.ireturn, 1) := by decide +kernel
theorem dc_Ga_worthOfTurn_0 : decode M_Ga_worthOfTurn.2.1 0 = .ok (.aload_n 0, 1) := by decide +kernel
theorem dc_Ga_worthOfTurn_1 : decode M_Ga_worthOfTurn.2.1 1 = .ok (.iload_n 1, 1) := by decide +kernel
theorem dc_Ga_worthOfTurn_2 : decode M_Ga_worthOfTurn.2.1 2 = .ok (.iload_n 2, 1) := by decide +kernel
theorem dc_Ga_worthOfTurn_3 : decode M_Ga_worthOfTurn.2.1 3 = .ok (.invokevirtual 42, 3) := by decide +kernel
theorem dc_Ga_worthOfTurn_6 : decode M_Ga_worthOfTurn.2.1 6 = .ok (.ifCond .eq 7, 3) := by decide +kernel
theorem dc_Ga_worthOfTurn_9 : decode M_Ga_worthOfTurn.2.1 9 = .ok (.iconst (-1), 1) := by decide +kernel
theorem dc_Ga_worthOfTurn_10 : decode M_Ga_worthOfTurn.2.1 10 = .ok (.goto 16, 3) := by decide +kernel
theorem dc_Ga_worthOfTurn_13 : decode M_Ga_worthOfTurn.2.1 13 = .ok (.aload_n 0, 1) := by decide +kernel
theorem dc_Ga_worthOfTurn_14 : decode M_Ga_worthOfTurn.2.1 14 = .ok (.iload_n 3, 1) := by decide +kernel
theorem dc_Ga_worthOfTurn_15 : decode M_Ga_worthOfTurn.2.1 15 = .ok (.iload_n 2, 1) := by decide +kernel
theorem dc_Ga_worthOfTurn_16 : decode M_Ga_worthOfTurn.2.1 16 = .ok (.iload 4, 2) := by decide +kernel
theorem dc_Ga_worthOfTurn_18 : decode M_Ga_worthOfTurn.2.1 18 = .ok (.iload 5, 2) := by decide +kernel
theorem dc_Ga_worthOfTurn_20 : decode M_Ga_worthOfTurn.2.1 20 = .ok (.iconst 1, 1) := by decide +kernel
theorem dc_Ga_worthOfTurn_21 : decode M_Ga_worthOfTurn.2.1 21 = .ok (.isub, 1) := by decide +kernel
theorem dc_Ga_worthOfTurn_22 : decode M_Ga_worthOfTurn.2.1 22 = .ok (.invokestatic 24, 3) := by decide +kernel
theorem dc_Ga_worthOfTurn_25 : decode M_Ga_worthOfTurn.2.1 25 = .ok (.ineg, 1) := by decide +kernel
theorem dc_Ga_worthOfTurn_26 : decode M_Ga_worthOfTurn.2.1 26 = .ok (.ireturn, 1) := by decide +kernel
def f_Ga_worthOfTurn (R0 : Nat → Int32 → Int32 → Int32 → Int32 → xH → Option (Int32 × xH)) (a0 : Nat) (a1 : Int32) (a2 : Int32) (a3 : Int32) (a4 : Int32) (a5 : Int32) (h : xH) : Option (Int32 × xH) := gd (hK h a0 = 3) (Option.bind (f_Se_closes a0 a1 a2 h) (fun q4 => jn (fun (x6 : Int32 × xH) => some (x6.1, x6.2)) (fun k7 => if q4.1 = 0 then Option.bind (R0 a0 a3 a2 a4 (a5 - (1 : Int32)) q4.2) (fun q9 => k7 ((-q9.1), q9.2)) else k7 ((-1 : Int32), q4.2))))
def f_Ga_worth_L27 (R0 : Nat → Int32 → Int32 → Int32 → Int32 → xH → Option (Int32 × xH)) (a0 : Nat) (a1 : Int32) (a2 : Int32) (a3 : Int32) (a4 : Int32) (a5 : Int32) : Nat → Int32 → Int32 → xH → (Int32 → Int32 → xH → Option (Int32 × xH)) → Option (Int32 × xH)
  | 0, _, _, _, _ => none
  | n + 1, a6, a7, h, K => if (6 : Int32) ≤ a7 then K a6 a7 h else if (1 : Int32) ≤ a6 then K a6 a7 h else jn (fun (x8 : Int32 × xH) => f_Ga_worth_L27 R0 a0 a1 a2 a3 a4 a5 n x8.1 (a7 + (1 : Int32)) x8.2 K) (fun k9 => if ((jShr a5 a7) &&& (1 : Int32)) = 0 then k9 (a6, h) else Option.bind (f_Ga_worthOfTurn R0 a0 a7 (a1 ||| (jShl (1 : Int32) a7)) a2 a3 a4 h) (fun q11 => k9 ((jMax a6 q11.1), q11.2)))
def fb_Ga_worth (R0 : Nat → Int32 → Int32 → Int32 → Int32 → xH → Option (Int32 × xH)) (a0 : Nat) (a1 : Int32) (a2 : Int32) (a3 : Int32) (a4 : Int32) (h : xH) : Option (Int32 × xH) := jn (fun (x2 : Unit) => some ((0 : Int32), h)) (fun k3 => if (a3 &&& ((a1 ||| a2) ^^^ (-1 : Int32))) = 0 then k3 () else if 0 < a4 then f_Ga_worth_L27 R0 a0 a1 a2 a3 a4 (a3 &&& ((a1 ||| a2) ^^^ (-1 : Int32))) fu (-1 : Int32) (0 : Int32) h (fun v12 v13 h14 => some (v12, h14)) else k3 ())
def G_Ga : Nat → Nat → Int32 → Int32 → Int32 → Int32 → xH → Option (Int32 × xH)
  | 0 => fun _ _ _ _ _ _ => none
  | g + 1 => fun a0 a1 a2 a3 a4 h => fb_Ga_worth (G_Ga g) a0 a1 a2 a3 a4 h
def f_Ga_worth (a0 : Nat) (a1 : Int32) (a2 : Int32) (a3 : Int32) (a4 : Int32) (h : xH) : Option (Int32 × xH) := G_Ga 24 a0 a1 a2 a3 a4 h
def fo_Ga_worthOfTurn (a0 : Nat) (a1 : Int32) (a2 : Int32) (a3 : Int32) (a4 : Int32) (a5 : Int32) (h : xH) : Option (Int32 × xH) := f_Ga_worthOfTurn (G_Ga 24) a0 a1 a2 a3 a4 a5 h
theorem t_Ga_worthOfTurn {l : Launch} {z : xZ} {d mc ms : Nat} {Ph : Option xV → xH → Prop} {R0 : Nat → Int32 → Int32 → Int32 → Int32 → xH → Option (Int32 × xH)} {B : Nat} (hR0 : ∀ {d mc ms : Nat} {Ph : Option xV → xH → Prop} {a0 : Nat} {a1 : Int32} {a2 : Int32} {a3 : Int32} {a4 : Int32} {h : xH}, B ≤ d → OK (R0 a0 a1 a2 a3 a4 h) (fun q => Ph (some (xI q.1)) q.2) → Sx l z d mc ms M_Ga_worth 0 (x_en [xR a0, xI a1, xI a2, xI a3, xI a4] 8) [] h Ph) {a0 : Nat} {a1 : Int32} {a2 : Int32} {a3 : Int32} {a4 : Int32} {a5 : Int32}  {h : xH} (hd : B + 3 ≤ d) (hk : OK (f_Ga_worthOfTurn R0 a0 a1 a2 a3 a4 a5 h) (fun q => Ph (some (xI q.1)) q.2)) : Sx l z d mc ms M_Ga_worthOfTurn 0 (x_en [xR a0, xI a1, xI a2, xI a3, xI a4, xI a5] 6) [] h Ph := by
  unfold f_Ga_worthOfTurn at hk
  refine sx_eq (lc2 := [some (xR a0), some (xI a1), some (xI a2), some (xI a3), some (xI a4), some (xI a5)]) rfl rfl ?_
  refine sx_aload_n dc_Ga_worthOfTurn_0 rfl ?_
  refine sx_iload_n dc_Ga_worthOfTurn_1 rfl ?_
  refine sx_iload_n dc_Ga_worthOfTurn_2 rfl ?_
  obtain ⟨g5, hk⟩ := hk.g
  obtain ⟨q4, eq4, hk⟩ := hk.bind
  refine sx_callV (d2 := d - 1) (mc2 := 0) (ms2 := 0) (as := [xI a1, xI a2]) mk_Se_closes rfl (x_rk (ci := 3) g5 rfl rfl) wM_Ga_42 mi_Se_closes me_Se_closes rfl (Nat.le_of_ble_eq_true rfl) (Nat.le_of_ble_eq_true rfl) dc_Ga_worthOfTurn_3 (by omega) (Nat.zero_le _) (Nat.zero_le _) ?_
  refine t_Se_closes (by omega) ⟨q4, eq4, ?_⟩
  refine sx_eq0 (lc2 := [some (xR a0), some (xI a1), some (xI a2), some (xI a3), some (xI a4), some (xI a5)]) (st2 := [xI q4.1]) rfl rfl ?_
  refine hk.j (X := fun x6 => Sx l z d mc ms M_Ga_worthOfTurn 26 [some (xR a0), some (xI a1), some (xI a2), some (xI a3), some (xI a4), some (xI a5)] [xI x6.1] x6.2 Ph) (fun x6 hk => ?_) (fun k7 jk7 hk => ?_)
  · exact sx_retI dc_Ga_worthOfTurn_26 rfl hk.val
  · refine sx_if_eq (tgt := 13) dc_Ga_worthOfTurn_6 (by decide) (fun c8 => ?_) (fun c8 => ?_)
    · replace hk := hk.t c8
      refine sx_aload_n dc_Ga_worthOfTurn_13 rfl ?_
      refine sx_iload_n dc_Ga_worthOfTurn_14 rfl ?_
      refine sx_iload_n dc_Ga_worthOfTurn_15 rfl ?_
      refine sx_iload dc_Ga_worthOfTurn_16 rfl ?_
      refine sx_iload dc_Ga_worthOfTurn_18 rfl ?_
      refine sx_iconst (v := (1 : Int32)) dc_Ga_worthOfTurn_20 (by decide) ?_
      refine sx_isub dc_Ga_worthOfTurn_21 ?_
      obtain ⟨q9, eq9, hk⟩ := hk.bind
      refine sx_callS (d2 := d - 1) (mc2 := 0) (ms2 := 0) (as := [xR a0, xI a3, xI a2, xI a4, xI (a5 - (1 : Int32))]) mk_Ga_worth rfl wM_Ga_24 mt_Ga_worth rfl (Nat.le_of_ble_eq_true rfl) (Nat.le_of_ble_eq_true rfl) dc_Ga_worthOfTurn_22 (by omega) (Nat.zero_le _) (Nat.zero_le _) ?_
      refine hR0 (by omega) ⟨q9, eq9, ?_⟩
      refine sx_eq0 (lc2 := [some (xR a0), some (xI a1), some (xI a2), some (xI a3), some (xI a4), some (xI a5)]) (st2 := [xI q9.1]) rfl rfl ?_
      refine sx_ineg dc_Ga_worthOfTurn_25 ?_
      exact jk7 ((-q9.1), q9.2) hk
    · replace hk := hk.f c8
      refine sx_iconst (v := (-1 : Int32)) dc_Ga_worthOfTurn_9 (by decide) ?_
      refine sx_goto (tgt := 26) dc_Ga_worthOfTurn_10 (by decide) ?_
      exact jk7 ((-1 : Int32), q4.2) hk
theorem t_Ga_worth_L27 {l : Launch} {z : xZ} {d mc ms : Nat} {Ph : Option xV → xH → Prop} {R0 : Nat → Int32 → Int32 → Int32 → Int32 → xH → Option (Int32 × xH)} {a0 : Nat} {a1 : Int32} {a2 : Int32} {a3 : Int32} {a4 : Int32} {a5 : Int32} {B : Nat} (hR0 : ∀ {d mc ms : Nat} {Ph : Option xV → xH → Prop} {a0 : Nat} {a1 : Int32} {a2 : Int32} {a3 : Int32} {a4 : Int32} {h : xH}, B ≤ d → OK (R0 a0 a1 a2 a3 a4 h) (fun q => Ph (some (xI q.1)) q.2) → Sx l z d mc ms M_Ga_worth 0 (x_en [xR a0, xI a1, xI a2, xI a3, xI a4] 8) [] h Ph) (hd : B + 4 ≤ d) : ∀ (n : Nat) (a6 : Int32) (a7 : Int32) (h : xH) (K : Int32 → Int32 → xH → Option (Int32 × xH)), OK (f_Ga_worth_L27 R0 a0 a1 a2 a3 a4 a5 n a6 a7 h K) (fun q => Ph (some (xI q.1)) q.2) → (∀ (a6 : Int32) (a7 : Int32) (h : xH), OK (K a6 a7 h) (fun q => Ph (some (xI q.1)) q.2) → Sx l z d mc ms M_Ga_worth 82 [some (xR a0), some (xI a1), some (xI a2), some (xI a3), some (xI a4), some (xI a5), some (xI a6), some (xI a7)] [] h Ph) → Sx l z d mc ms M_Ga_worth 27 [some (xR a0), some (xI a1), some (xI a2), some (xI a3), some (xI a4), some (xI a5), some (xI a6), some (xI a7)] [] h Ph := by
  intro n
  induction n with
  | zero => intro a6 a7 h K hk hE; exact hk.no
  | succ n ih =>
    intro a6 a7 h K hk hE
    rw [f_Ga_worth_L27] at hk
    refine sx_iload dc_Ga_worth_27 rfl ?_
    refine sx_bipush (v := (6 : Int32)) dc_Ga_worth_29 (by decide) ?_
    refine sx_icmp_ge (tgt := 82) dc_Ga_worth_31 (by decide) (fun c6 => ?_) (fun c6 => ?_)
    · replace hk := hk.t c6
      exact hE a6 a7 h hk
    · replace hk := hk.f c6
      refine sx_iload dc_Ga_worth_34 rfl ?_
      refine sx_iconst (v := (1 : Int32)) dc_Ga_worth_36 (by decide) ?_
      refine sx_icmp_ge (tgt := 82) dc_Ga_worth_37 (by decide) (fun c7 => ?_) (fun c7 => ?_)
      · replace hk := hk.t c7
        exact hE a6 a7 h hk
      · replace hk := hk.f c7
        refine sx_iload dc_Ga_worth_40 rfl ?_
        refine sx_iload dc_Ga_worth_42 rfl ?_
        refine sx_ishr dc_Ga_worth_44 ?_
        refine sx_iconst (v := (1 : Int32)) dc_Ga_worth_45 (by decide) ?_
        refine sx_iand dc_Ga_worth_46 ?_
        refine hk.j (X := fun x8 => Sx l z d mc ms M_Ga_worth 76 [some (xR a0), some (xI a1), some (xI a2), some (xI a3), some (xI a4), some (xI a5), some (xI x8.1), some (xI a7)] [] x8.2 Ph) (fun x8 hk => ?_) (fun k9 jk9 hk => ?_)
        · refine sx_iinc (v := (1 : Int32)) dc_Ga_worth_76 rfl (by decide) (by decide) (sx_eq (lc2 := [some (xR a0), some (xI a1), some (xI a2), some (xI a3), some (xI a4), some (xI a5), some (xI x8.1), some (xI (a7 + (1 : Int32)))]) rfl rfl ?_)
          refine sx_goto (tgt := 27) dc_Ga_worth_79 (by decide) ?_
          exact ih x8.1 (a7 + (1 : Int32)) x8.2 _ hk hE
        · refine sx_if_ne (tgt := 53) dc_Ga_worth_47 (by decide) (fun c10 => ?_) (fun c10 => ?_)
          · replace hk := hk.f c10
            refine sx_iload dc_Ga_worth_53 rfl ?_
            refine sx_aload_n dc_Ga_worth_55 rfl ?_
            refine sx_iload dc_Ga_worth_56 rfl ?_
            refine sx_iload_n dc_Ga_worth_58 rfl ?_
            refine sx_iconst (v := (1 : Int32)) dc_Ga_worth_59 (by decide) ?_
            refine sx_iload dc_Ga_worth_60 rfl ?_
            refine sx_ishl dc_Ga_worth_62 ?_
            refine sx_ior dc_Ga_worth_63 ?_
            refine sx_iload_n dc_Ga_worth_64 rfl ?_
            refine sx_iload_n dc_Ga_worth_65 rfl ?_
            refine sx_iload dc_Ga_worth_66 rfl ?_
            obtain ⟨q11, eq11, hk⟩ := hk.bind
            refine sx_callS (d2 := d - 1) (mc2 := 0) (ms2 := 0) (as := [xR a0, xI a7, xI (a1 ||| (jShl (1 : Int32) a7)), xI a2, xI a3, xI a4]) mk_Ga_worthOfTurn rfl wM_Ga_32 mt_Ga_worthOfTurn rfl (Nat.le_of_ble_eq_true rfl) (Nat.le_of_ble_eq_true rfl) dc_Ga_worth_68 (by omega) (Nat.zero_le _) (Nat.zero_le _) ?_
            refine t_Ga_worthOfTurn hR0 (by omega) ⟨q11, eq11, ?_⟩
            refine sx_eq0 (lc2 := [some (xR a0), some (xI a1), some (xI a2), some (xI a3), some (xI a4), some (xI a5), some (xI a6), some (xI a7)]) (st2 := [xI q11.1, xI a6]) rfl rfl ?_
            refine sx_max wM_Ga_36 mt_Mt_max wT_Mt wV_max (Nat.le_of_ble_eq_true rfl) (by omega) dc_Ga_worth_71 ?_
            refine sx_istore dc_Ga_worth_74 (by decide) (sx_eq (lc2 := [some (xR a0), some (xI a1), some (xI a2), some (xI a3), some (xI a4), some (xI a5), some (xI (jMax a6 q11.1)), some (xI a7)]) rfl rfl ?_)
            exact jk9 ((jMax a6 q11.1), q11.2) hk
          · replace hk := hk.t c10
            refine sx_goto (tgt := 76) dc_Ga_worth_50 (by decide) ?_
            exact jk9 (a6, h) hk
theorem tb_Ga_worth {l : Launch} {z : xZ} {d mc ms : Nat} {Ph : Option xV → xH → Prop} {R0 : Nat → Int32 → Int32 → Int32 → Int32 → xH → Option (Int32 × xH)} {B : Nat} (hR0 : ∀ {d mc ms : Nat} {Ph : Option xV → xH → Prop} {a0 : Nat} {a1 : Int32} {a2 : Int32} {a3 : Int32} {a4 : Int32} {h : xH}, B ≤ d → OK (R0 a0 a1 a2 a3 a4 h) (fun q => Ph (some (xI q.1)) q.2) → Sx l z d mc ms M_Ga_worth 0 (x_en [xR a0, xI a1, xI a2, xI a3, xI a4] 8) [] h Ph) {a0 : Nat} {a1 : Int32} {a2 : Int32} {a3 : Int32} {a4 : Int32}  {h : xH} (hd : B + 4 ≤ d) (hk : OK (fb_Ga_worth R0 a0 a1 a2 a3 a4 h) (fun q => Ph (some (xI q.1)) q.2)) : Sx l z d mc ms M_Ga_worth 0 (x_en [xR a0, xI a1, xI a2, xI a3, xI a4] 8) [] h Ph := by
  unfold fb_Ga_worth at hk
  refine sx_eq (lc2 := [some (xR a0), some (xI a1), some (xI a2), some (xI a3), some (xI a4), none, none, none]) rfl rfl ?_
  refine sx_iload_n dc_Ga_worth_0 rfl ?_
  refine sx_iload_n dc_Ga_worth_1 rfl ?_
  refine sx_iload_n dc_Ga_worth_2 rfl ?_
  refine sx_ior dc_Ga_worth_3 ?_
  refine sx_iconst (v := (-1 : Int32)) dc_Ga_worth_4 (by decide) ?_
  refine sx_ixor dc_Ga_worth_5 ?_
  refine sx_iand dc_Ga_worth_6 ?_
  refine sx_istore dc_Ga_worth_7 (by decide) (sx_eq (lc2 := [some (xR a0), some (xI a1), some (xI a2), some (xI a3), some (xI a4), some (xI (a3 &&& ((a1 ||| a2) ^^^ (-1 : Int32)))), none, none]) rfl rfl ?_)
  refine sx_iload dc_Ga_worth_9 rfl ?_
  refine hk.j (X := fun x2 => Sx l z d mc ms M_Ga_worth 19 [some (xR a0), some (xI a1), some (xI a2), some (xI a3), some (xI a4), some (xI (a3 &&& ((a1 ||| a2) ^^^ (-1 : Int32)))), none, none] [] h Ph) (fun x2 hk => ?_) (fun k3 jk3 hk => ?_)
  · refine sx_iconst (v := (0 : Int32)) dc_Ga_worth_19 (by decide) ?_
    exact sx_retI dc_Ga_worth_20 rfl hk.val
  · refine sx_if_eq (tgt := 19) dc_Ga_worth_11 (by decide) (fun c4 => ?_) (fun c4 => ?_)
    · replace hk := hk.t c4
      exact jk3 () hk
    · replace hk := hk.f c4
      refine sx_iload dc_Ga_worth_14 rfl ?_
      refine sx_if_gt (tgt := 21) dc_Ga_worth_16 (by decide) (fun c5 => ?_) (fun c5 => ?_)
      · replace hk := hk.t c5
        refine sx_iconst (v := (-1 : Int32)) dc_Ga_worth_21 (by decide) ?_
        refine sx_istore dc_Ga_worth_22 (by decide) (sx_eq (lc2 := [some (xR a0), some (xI a1), some (xI a2), some (xI a3), some (xI a4), some (xI (a3 &&& ((a1 ||| a2) ^^^ (-1 : Int32)))), some (xI (-1 : Int32)), none]) rfl rfl ?_)
        refine sx_iconst (v := (0 : Int32)) dc_Ga_worth_24 (by decide) ?_
        refine sx_istore dc_Ga_worth_25 (by decide) (sx_eq (lc2 := [some (xR a0), some (xI a1), some (xI a2), some (xI a3), some (xI a4), some (xI (a3 &&& ((a1 ||| a2) ^^^ (-1 : Int32)))), some (xI (-1 : Int32)), some (xI (0 : Int32))]) rfl rfl ?_)
        refine t_Ga_worth_L27 hR0 (by omega) _ _ _ _ _ hk (fun v12 v13 h14 hk => ?_)
        refine sx_iload dc_Ga_worth_82 rfl ?_
        exact sx_retI dc_Ga_worth_84 rfl hk.val
      · replace hk := hk.f c5
        exact jk3 () hk
theorem tg_Ga_worth {l : Launch} {z : xZ} : ∀ (g : Nat) {d mc ms : Nat} {Ph : Option xV → xH → Prop} {a0 : Nat} {a1 : Int32} {a2 : Int32} {a3 : Int32} {a4 : Int32} {h : xH}, 4 * g ≤ d → OK (G_Ga g a0 a1 a2 a3 a4 h) (fun q => Ph (some (xI q.1)) q.2) → Sx l z d mc ms M_Ga_worth 0 (x_en [xR a0, xI a1, xI a2, xI a3, xI a4] 8) [] h Ph
  | 0 => fun _ hk => hk.no
  | g + 1 => fun hd hk => tb_Ga_worth (R0 := G_Ga g) (B := 4 * g) (fun hd hk => tg_Ga_worth g hd hk) (by omega) hk
theorem t_Ga_worth {l : Launch} {z : xZ} {d mc ms : Nat} {Ph : Option xV → xH → Prop} {a0 : Nat} {a1 : Int32} {a2 : Int32} {a3 : Int32} {a4 : Int32} {h : xH} (hd : 96 ≤ d) (hk : OK (f_Ga_worth a0 a1 a2 a3 a4 h) (fun q => Ph (some (xI q.1)) q.2)) : Sx l z d mc ms M_Ga_worth 0 (x_en [xR a0, xI a1, xI a2, xI a3, xI a4] 8) [] h Ph := tg_Ga_worth 24 (by omega) hk
theorem to_Ga_worthOfTurn {l : Launch} {z : xZ} {d mc ms : Nat} {Ph : Option xV → xH → Prop} {a0 : Nat} {a1 : Int32} {a2 : Int32} {a3 : Int32} {a4 : Int32} {a5 : Int32} {h : xH} (hd : 99 ≤ d) (hk : OK (fo_Ga_worthOfTurn a0 a1 a2 a3 a4 a5 h) (fun q => Ph (some (xI q.1)) q.2)) : Sx l z d mc ms M_Ga_worthOfTurn 0 (x_en [xR a0, xI a1, xI a2, xI a3, xI a4, xI a5] 6) [] h Ph := t_Ga_worthOfTurn (B := 96) (fun hd hk => tg_Ga_worth 24 hd hk) (by omega) hk
theorem dc_Ga_value_0 : decode M_Ga_value.2.1 0 = .ok (.aload_n 0, 1) := by decide +kernel
theorem dc_Ga_value_1 : decode M_Ga_value.2.1 1 = .ok (.aload_n 1, 1) := by decide +kernel
theorem dc_Ga_value_2 : decode M_Ga_value.2.1 2 = .ok (.getfield 9, 3) := by decide +kernel
theorem dc_Ga_value_5 : decode M_Ga_value.2.1 5 = .ok (.aload_n 1, 1) := by decide +kernel
theorem dc_Ga_value_6 : decode M_Ga_value.2.1 6 = .ok (.getfield 15, 3) := by decide +kernel
theorem dc_Ga_value_9 : decode M_Ga_value.2.1 9 = .ok (.aload_n 1, 1) := by decide +kernel
theorem dc_Ga_value_10 : decode M_Ga_value.2.1 10 = .ok (.invokevirtual 18, 3) := by decide +kernel
theorem dc_Ga_value_13 : decode M_Ga_value.2.1 13 = .ok (.bipush 6, 2) := by decide +kernel
theorem dc_Ga_value_15 : decode M_Ga_value.2.1 15 = .ok (.invokestatic 24, 3) := by decide +kernel
theorem dc_Ga_value_18 : decode M_Ga_value.2.1 18 = .ok (.ireturn, 1) := by decide +kernel
def f_Ga_value (a0 : Nat) (a1 : Nat) (h : xH) : Option (Int32 × xH) := gd (hK h a1 = 6) (Option.bind (f_Ta_everyPair a1 h) (fun q5 => Option.bind (f_Ga_worth a0 (hI h a1 2) (hI h a1 3) q5.1 (6 : Int32) q5.2) (fun q6 => some (q6.1, q6.2))))
theorem t_Ga_value {l : Launch} {z : xZ} {d mc ms : Nat} {Ph : Option xV → xH → Prop} {a0 : Nat} {a1 : Nat}  {h : xH} (hd : 97 ≤ d) (hk : OK (f_Ga_value a0 a1 h) (fun q => Ph (some (xI q.1)) q.2)) : Sx l z d mc ms M_Ga_value 0 (x_en [xR a0, xR a1] 2) [] h Ph := by
  unfold f_Ga_value at hk
  refine sx_eq (lc2 := [some (xR a0), some (xR a1)]) rfl rfl ?_
  refine sx_aload_n dc_Ga_value_0 rfl ?_
  refine sx_aload_n dc_Ga_value_1 rfl ?_
  obtain ⟨g4, hk⟩ := hk.g
  refine sx_get (ci := 6) (k := 2) rfl (by decide) wF_Ga_9 g4 dc_Ga_value_2 ?_
  refine sx_aload_n dc_Ga_value_5 rfl ?_
  refine sx_get (ci := 6) (k := 3) rfl (by decide) wF_Ga_15 g4 dc_Ga_value_6 ?_
  refine sx_aload_n dc_Ga_value_9 rfl ?_
  obtain ⟨q5, eq5, hk⟩ := hk.bind
  refine sx_callV (d2 := d - 1) (mc2 := 0) (ms2 := 0) (as := []) mk_Ta_everyPair rfl (x_rk (ci := 6) g4 rfl rfl) wM_Ga_18 mi_Ta_everyPair me_Ta_everyPair rfl (Nat.le_of_ble_eq_true rfl) (Nat.le_of_ble_eq_true rfl) dc_Ga_value_10 (by omega) (Nat.zero_le _) (Nat.zero_le _) ?_
  refine t_Ta_everyPair (by omega) ⟨q5, eq5, ?_⟩
  refine sx_eq0 (lc2 := [some (xR a0), some (xR a1)]) (st2 := [xI q5.1, xI (hI h a1 3), xI (hI h a1 2), xR a0]) rfl rfl ?_
  refine sx_bipush (v := (6 : Int32)) dc_Ga_value_13 (by decide) ?_
  obtain ⟨q6, eq6, hk⟩ := hk.bind
  refine sx_callS (d2 := d - 1) (mc2 := 0) (ms2 := 0) (as := [xR a0, xI (hI h a1 2), xI (hI h a1 3), xI q5.1, xI (6 : Int32)]) mk_Ga_worth rfl wM_Ga_24 mt_Ga_worth rfl (Nat.le_of_ble_eq_true rfl) (Nat.le_of_ble_eq_true rfl) dc_Ga_value_15 (by omega) (Nat.zero_le _) (Nat.zero_le _) ?_
  refine t_Ga_worth (by omega) ⟨q6, eq6, ?_⟩
  refine sx_eq0 (lc2 := [some (xR a0), some (xR a1)]) (st2 := [xI q6.1]) rfl rfl ?_
  exact sx_retI dc_Ga_value_18 rfl hk.val
theorem dc_Ga_pair_0 : decode M_Ga_pair.2.1 0 = .ok (.aload_n 0, 1) := by decide +kernel
theorem dc_Ga_pair_1 : decode M_Ga_pair.2.1 1 = .ok (.aload_n 1, 1) := by decide +kernel
theorem dc_Ga_pair_2 : decode M_Ga_pair.2.1 2 = .ok (.invokestatic 28, 3) := by decide +kernel
theorem dc_Ga_pair_5 : decode M_Ga_pair.2.1 5 = .ok (.istore_n 2, 1) := by decide +kernel
theorem dc_Ga_pair_6 : decode M_Ga_pair.2.1 6 = .ok (.aload_n 1, 1) := by decide +kernel
theorem dc_Ga_pair_7 : decode M_Ga_pair.2.1 7 = .ok (.invokevirtual 18, 3) := by decide +kernel
theorem dc_Ga_pair_10 : decode M_Ga_pair.2.1 10 = .ok (.aload_n 1, 1) := by decide +kernel
theorem dc_Ga_pair_11 : decode M_Ga_pair.2.1 11 = .ok (.getfield 9, 3) := by decide +kernel
theorem dc_Ga_pair_14 : decode M_Ga_pair.2.1 14 = .ok (.aload_n 1, 1) := by decide +kernel
theorem dc_Ga_pair_15 : decode M_Ga_pair.2.1 15 = .ok (.getfield 15, 3) := by decide +kernel
theorem dc_Ga_pair_18 : decode M_Ga_pair.2.1 18 = .ok (.ior, 1) := by decide +kernel
theorem dc_Ga_pair_19 : decode M_Ga_pair.2.1 19 = .ok (.iconst (-1), 1) := by decide +kernel
theorem dc_Ga_pair_20 : decode M_Ga_pair.2.1 20 = .ok (.ixor, 1) := by decide +kernel
theorem dc_Ga_pair_21 : decode M_Ga_pair.2.1 21 = .ok (.iand, 1) := by decide +kernel
theorem dc_Ga_pair_22 : decode M_Ga_pair.2.1 22 = .ok (.istore_n 3, 1) := by decide +kernel
theorem dc_Ga_pair_23 : decode M_Ga_pair.2.1 23 = .ok (.iconst 0, 1) := by decide +kernel
theorem dc_Ga_pair_24 : decode M_Ga_pair.2.1 24 = .ok (.istore 4, 2) := by decide +kernel
theorem dc_Ga_pair_26 : decode M_Ga_pair.2.1 26 = .ok (.iload 4, 2) := by decide +kernel
theorem dc_Ga_pair_28 : decode M_Ga_pair.2.1 28 = .ok (.bipush 6, 2) := by decide +kernel
theorem dc_Ga_pair_30 : decode M_Ga_pair.2.1 30 = .ok (.if_icmp .ge 57, 3) := by decide +kernel
theorem dc_Ga_pair_33 : decode M_Ga_pair.2.1 33 = .ok (.iload_n 3, 1) := by decide +kernel
theorem dc_Ga_pair_34 : decode M_Ga_pair.2.1 34 = .ok (.iload 4, 2) := by decide +kernel
theorem dc_Ga_pair_36 : decode M_Ga_pair.2.1 36 = .ok (.ishr, 1) := by decide +kernel
theorem dc_Ga_pair_37 : decode M_Ga_pair.2.1 37 = .ok (.iconst 1, 1) := by decide +kernel
theorem dc_Ga_pair_38 : decode M_Ga_pair.2.1 38 = .ok (.iand, 1) := by decide +kernel
theorem dc_Ga_pair_39 : decode M_Ga_pair.2.1 39 = .ok (.ifCond .ne 6, 3) := by decide +kernel
theorem dc_Ga_pair_42 : decode M_Ga_pair.2.1 42 = .ok (.goto 39, 3) := by decide +kernel
theorem dc_Ga_pair_45 : decode M_Ga_pair.2.1 45 = .ok (.aload_n 1, 1) := by decide +kernel
theorem dc_Ga_pair_46 : decode M_Ga_pair.2.1 46 = .ok (.getfield 9, 3) := by decide +kernel
theorem dc_Ga_pair_49 : decode M_Ga_pair.2.1 49 = .ok (.iconst 1, 1) := by decide +kernel
theorem dc_Ga_pair_50 : decode M_Ga_pair.2.1 50 = .ok (.iload 4, 2) := by decide +kernel
theorem dc_Ga_pair_52 : decode M_Ga_pair.2.1 52 = .ok (.ishl, 1) := by decide +kernel
theorem dc_Ga_pair_53 : decode M_Ga_pair.2.1 53 = .ok (.ior, 1) := by decide +kernel
theorem dc_Ga_pair_54 : decode M_Ga_pair.2.1 54 = .ok (.istore 5, 2) := by decide +kernel
theorem dc_Ga_pair_56 : decode M_Ga_pair.2.1 56 = .ok (.aload_n 0, 1) := by decide +kernel
theorem dc_Ga_pair_57 : decode M_Ga_pair.2.1 57 = .ok (.iload 4, 2) := by decide +kernel
theorem dc_Ga_pair_59 : decode M_Ga_pair.2.1 59 = .ok (.iload 5, 2) := by decide +kernel
theorem dc_Ga_pair_61 : decode M_Ga_pair.2.1 61 = .ok (.aload_n 1, 1) := by decide +kernel
theorem dc_Ga_pair_62 : decode M_Ga_pair.2.1 62 = .ok (.getfield 15, 3) := by decide +kernel
theorem dc_Ga_pair_65 : decode M_Ga_pair.2.1 65 = .ok (.aload_n 1, 1) := by decide +kernel
theorem dc_Ga_pair_66 : decode M_Ga_pair.2.1 66 = .ok (.invokevirtual 18, 3) := by decide +kernel
theorem dc_Ga_pair_69 : decode M_Ga_pair.2.1 69 = .ok (.bipush 6, 2) := by decide +kernel
theorem dc_Ga_pair_71 : decode M_Ga_pair.2.1 71 = .ok (.invokestatic 32, 3) := by decide +kernel
theorem dc_Ga_pair_74 : decode M_Ga_pair.2.1 74 = .ok (.iload_n 2, 1) := by decide +kernel
theorem dc_Ga_pair_75 : decode M_Ga_pair.2.1 75 = .ok (.if_icmp .ne 6, 3) := by decide +kernel
theorem dc_Ga_pair_78 : decode M_Ga_pair.2.1 78 = .ok (.iload 4, 2) := by decide +kernel
theorem dc_Ga_pair_80 : decode M_Ga_pair.2.1 80 = .ok (.ireturn, 1) := by decide +kernel
theorem dc_Ga_pair_81 : decode M_Ga_pair.2.1 81 = .ok (.iinc 4 1, 3) := by decide +kernel
theorem dc_Ga_pair_84 : decode M_Ga_pair.2.1 84 = .ok (.goto (-58), 3) := by decide +kernel
theorem dc_Ga_pair_87 : decode M_Ga_pair.2.1 87 = .ok (.iconst (-1), 1) := by decide +kernel
theorem dc_Ga_pair_88 : decode M_Ga_pair.2.1 88 = .ok (.ireturn, 1) := by decide +kernel
def f_Ga_pair_L26 (a0 : Nat) (a1 : Nat) (a2 : Int32) (a3 : Int32) : Nat → Int32 → xH → (Int32 → xH → Option (Int32 × xH)) → Option (Int32 × xH)
  | 0, _, _, _ => none
  | n + 1, a4, h, K => if (6 : Int32) ≤ a4 then K a4 h else jn (fun (x12 : xH) => f_Ga_pair_L26 a0 a1 a2 a3 n (a4 + (1 : Int32)) x12 K) (fun k13 => if ((jShr a3 a4) &&& (1 : Int32)) = 0 then k13 h else gd (hK h a1 = 6) (Option.bind (f_Ta_everyPair a1 h) (fun q16 => Option.bind (fo_Ga_worthOfTurn a0 a4 ((hI h a1 2) ||| (jShl (1 : Int32) a4)) (hI h a1 3) q16.1 (6 : Int32) q16.2) (fun q17 => if q17.1 = a2 then some (a4, q17.2) else k13 q17.2))))
def f_Ga_pair (a0 : Nat) (a1 : Nat) (h : xH) : Option (Int32 × xH) := Option.bind (f_Ga_value a0 a1 h) (fun q7 => gd (hK q7.2 a1 = 6) (Option.bind (f_Ta_everyPair a1 q7.2) (fun q8 => gd (hK q8.2 a1 = 6) (f_Ga_pair_L26 a0 a1 q7.1 (q8.1 &&& (((hI q8.2 a1 2) ||| (hI q8.2 a1 3)) ^^^ (-1 : Int32))) fu (0 : Int32) q8.2 (fun v19 h20 => some ((-1 : Int32), h20))))))
theorem t_Ga_pair_L26 {l : Launch} {z : xZ} {d mc ms : Nat} {Ph : Option xV → xH → Prop} {a0 : Nat} {a1 : Nat} {a2 : Int32} {a3 : Int32}  (hd : 100 ≤ d) : ∀ (n : Nat) (a4 : Int32) (h : xH) (K : Int32 → xH → Option (Int32 × xH)), OK (f_Ga_pair_L26 a0 a1 a2 a3 n a4 h K) (fun q => Ph (some (xI q.1)) q.2) → (∀ (a4 : Int32) (h : xH), OK (K a4 h) (fun q => Ph (some (xI q.1)) q.2) → Sx l z d mc ms M_Ga_pair 87 [some (xR a0), some (xR a1), some (xI a2), some (xI a3), some (xI a4), none] [] h Ph) → Sx l z d mc ms M_Ga_pair 26 [some (xR a0), some (xR a1), some (xI a2), some (xI a3), some (xI a4), none] [] h Ph := by
  intro n
  induction n with
  | zero => intro a4 h K hk hE; exact hk.no
  | succ n ih =>
    intro a4 h K hk hE
    rw [f_Ga_pair_L26] at hk
    refine sx_iload dc_Ga_pair_26 rfl ?_
    refine sx_bipush (v := (6 : Int32)) dc_Ga_pair_28 (by decide) ?_
    refine sx_icmp_ge (tgt := 87) dc_Ga_pair_30 (by decide) (fun c11 => ?_) (fun c11 => ?_)
    · replace hk := hk.t c11
      exact hE a4 h hk
    · replace hk := hk.f c11
      refine sx_iload_n dc_Ga_pair_33 rfl ?_
      refine sx_iload dc_Ga_pair_34 rfl ?_
      refine sx_ishr dc_Ga_pair_36 ?_
      refine sx_iconst (v := (1 : Int32)) dc_Ga_pair_37 (by decide) ?_
      refine sx_iand dc_Ga_pair_38 ?_
      refine hk.j (X := fun x12 => Sx l z d mc ms M_Ga_pair 81 [some (xR a0), some (xR a1), some (xI a2), some (xI a3), some (xI a4), none] [] x12 Ph) (fun x12 hk => ?_) (fun k13 jk13 hk => ?_)
      · refine sx_iinc (v := (1 : Int32)) dc_Ga_pair_81 rfl (by decide) (by decide) (sx_eq (lc2 := [some (xR a0), some (xR a1), some (xI a2), some (xI a3), some (xI (a4 + (1 : Int32))), none]) rfl rfl ?_)
        refine sx_goto (tgt := 26) dc_Ga_pair_84 (by decide) ?_
        exact ih (a4 + (1 : Int32)) x12 _ hk hE
      · refine sx_if_ne (tgt := 45) dc_Ga_pair_39 (by decide) (fun c14 => ?_) (fun c14 => ?_)
        · replace hk := hk.f c14
          refine sx_aload_n dc_Ga_pair_45 rfl ?_
          obtain ⟨g15, hk⟩ := hk.g
          refine sx_get (ci := 6) (k := 2) rfl (by decide) wF_Ga_9 g15 dc_Ga_pair_46 ?_
          refine sx_iconst (v := (1 : Int32)) dc_Ga_pair_49 (by decide) ?_
          refine sx_iload dc_Ga_pair_50 rfl ?_
          refine sx_ishl dc_Ga_pair_52 ?_
          refine sx_ior dc_Ga_pair_53 ?_
          refine sx_istore dc_Ga_pair_54 (by decide) (sx_eq (lc2 := [some (xR a0), some (xR a1), some (xI a2), some (xI a3), some (xI a4), some (xI ((hI h a1 2) ||| (jShl (1 : Int32) a4)))]) rfl rfl ?_)
          refine sx_aload_n dc_Ga_pair_56 rfl ?_
          refine sx_iload dc_Ga_pair_57 rfl ?_
          refine sx_iload dc_Ga_pair_59 rfl ?_
          refine sx_aload_n dc_Ga_pair_61 rfl ?_
          refine sx_get (ci := 6) (k := 3) rfl (by decide) wF_Ga_15 g15 dc_Ga_pair_62 ?_
          refine sx_aload_n dc_Ga_pair_65 rfl ?_
          obtain ⟨q16, eq16, hk⟩ := hk.bind
          refine sx_callV (d2 := d - 1) (mc2 := 0) (ms2 := 0) (as := []) mk_Ta_everyPair rfl (x_rk (ci := 6) g15 rfl rfl) wM_Ga_18 mi_Ta_everyPair me_Ta_everyPair rfl (Nat.le_of_ble_eq_true rfl) (Nat.le_of_ble_eq_true rfl) dc_Ga_pair_66 (by omega) (Nat.zero_le _) (Nat.zero_le _) ?_
          refine t_Ta_everyPair (by omega) ⟨q16, eq16, ?_⟩
          refine sx_eq0 (lc2 := [some (xR a0), some (xR a1), some (xI a2), some (xI a3), some (xI a4), some (xI ((hI h a1 2) ||| (jShl (1 : Int32) a4)))]) (st2 := [xI q16.1, xI (hI h a1 3), xI ((hI h a1 2) ||| (jShl (1 : Int32) a4)), xI a4, xR a0]) rfl rfl ?_
          refine sx_bipush (v := (6 : Int32)) dc_Ga_pair_69 (by decide) ?_
          obtain ⟨q17, eq17, hk⟩ := hk.bind
          refine sx_callS (d2 := d - 1) (mc2 := 0) (ms2 := 0) (as := [xR a0, xI a4, xI ((hI h a1 2) ||| (jShl (1 : Int32) a4)), xI (hI h a1 3), xI q16.1, xI (6 : Int32)]) mk_Ga_worthOfTurn rfl wM_Ga_32 mt_Ga_worthOfTurn rfl (Nat.le_of_ble_eq_true rfl) (Nat.le_of_ble_eq_true rfl) dc_Ga_pair_71 (by omega) (Nat.zero_le _) (Nat.zero_le _) ?_
          refine to_Ga_worthOfTurn (by omega) ⟨q17, eq17, ?_⟩
          refine sx_eq0 (lc2 := [some (xR a0), some (xR a1), some (xI a2), some (xI a3), some (xI a4), some (xI ((hI h a1 2) ||| (jShl (1 : Int32) a4)))]) (st2 := [xI q17.1]) rfl rfl ?_
          refine sx_iload_n dc_Ga_pair_74 rfl ?_
          refine sx_icmp_ne (tgt := 81) dc_Ga_pair_75 (by decide) (fun c18 => ?_) (fun c18 => ?_)
          · replace hk := hk.f c18
            exact sx_less (by simp [x_le]) (jk13 q17.2 hk)
          · replace hk := hk.t c18
            refine sx_iload dc_Ga_pair_78 rfl ?_
            exact sx_retI dc_Ga_pair_80 rfl hk.val
        · replace hk := hk.t c14
          refine sx_goto (tgt := 81) dc_Ga_pair_42 (by decide) ?_
          exact jk13 h hk
theorem t_Ga_pair {l : Launch} {z : xZ} {d mc ms : Nat} {Ph : Option xV → xH → Prop} {a0 : Nat} {a1 : Nat}  {h : xH} (hd : 100 ≤ d) (hk : OK (f_Ga_pair a0 a1 h) (fun q => Ph (some (xI q.1)) q.2)) : Sx l z d mc ms M_Ga_pair 0 (x_en [xR a0, xR a1] 6) [] h Ph := by
  unfold f_Ga_pair at hk
  refine sx_eq (lc2 := [some (xR a0), some (xR a1), none, none, none, none]) rfl rfl ?_
  refine sx_aload_n dc_Ga_pair_0 rfl ?_
  refine sx_aload_n dc_Ga_pair_1 rfl ?_
  obtain ⟨q7, eq7, hk⟩ := hk.bind
  refine sx_callS (d2 := d - 1) (mc2 := 0) (ms2 := 0) (as := [xR a0, xR a1]) mk_Ga_value rfl wM_Ga_28 mt_Ga_value rfl (Nat.le_of_ble_eq_true rfl) (Nat.le_of_ble_eq_true rfl) dc_Ga_pair_2 (by omega) (Nat.zero_le _) (Nat.zero_le _) ?_
  refine t_Ga_value (by omega) ⟨q7, eq7, ?_⟩
  refine sx_eq0 (lc2 := [some (xR a0), some (xR a1), none, none, none, none]) (st2 := [xI q7.1]) rfl rfl ?_
  refine sx_istore_n dc_Ga_pair_5 (by decide) (sx_eq (lc2 := [some (xR a0), some (xR a1), some (xI q7.1), none, none, none]) rfl rfl ?_)
  refine sx_aload_n dc_Ga_pair_6 rfl ?_
  obtain ⟨g9, hk⟩ := hk.g
  obtain ⟨q8, eq8, hk⟩ := hk.bind
  refine sx_callV (d2 := d - 1) (mc2 := 0) (ms2 := 0) (as := []) mk_Ta_everyPair rfl (x_rk (ci := 6) g9 rfl rfl) wM_Ga_18 mi_Ta_everyPair me_Ta_everyPair rfl (Nat.le_of_ble_eq_true rfl) (Nat.le_of_ble_eq_true rfl) dc_Ga_pair_7 (by omega) (Nat.zero_le _) (Nat.zero_le _) ?_
  refine t_Ta_everyPair (by omega) ⟨q8, eq8, ?_⟩
  refine sx_eq0 (lc2 := [some (xR a0), some (xR a1), some (xI q7.1), none, none, none]) (st2 := [xI q8.1]) rfl rfl ?_
  refine sx_aload_n dc_Ga_pair_10 rfl ?_
  obtain ⟨g10, hk⟩ := hk.g
  refine sx_get (ci := 6) (k := 2) rfl (by decide) wF_Ga_9 g10 dc_Ga_pair_11 ?_
  refine sx_aload_n dc_Ga_pair_14 rfl ?_
  refine sx_get (ci := 6) (k := 3) rfl (by decide) wF_Ga_15 g10 dc_Ga_pair_15 ?_
  refine sx_ior dc_Ga_pair_18 ?_
  refine sx_iconst (v := (-1 : Int32)) dc_Ga_pair_19 (by decide) ?_
  refine sx_ixor dc_Ga_pair_20 ?_
  refine sx_iand dc_Ga_pair_21 ?_
  refine sx_istore_n dc_Ga_pair_22 (by decide) (sx_eq (lc2 := [some (xR a0), some (xR a1), some (xI q7.1), some (xI (q8.1 &&& (((hI q8.2 a1 2) ||| (hI q8.2 a1 3)) ^^^ (-1 : Int32)))), none, none]) rfl rfl ?_)
  refine sx_iconst (v := (0 : Int32)) dc_Ga_pair_23 (by decide) ?_
  refine sx_istore dc_Ga_pair_24 (by decide) (sx_eq (lc2 := [some (xR a0), some (xR a1), some (xI q7.1), some (xI (q8.1 &&& (((hI q8.2 a1 2) ||| (hI q8.2 a1 3)) ^^^ (-1 : Int32)))), some (xI (0 : Int32)), none]) rfl rfl ?_)
  refine t_Ga_pair_L26 (by omega) _ _ _ _ hk (fun v19 h20 hk => ?_)
  refine sx_iconst (v := (-1 : Int32)) dc_Ga_pair_87 (by decide) ?_
  exact sx_retI dc_Ga_pair_88 rfl hk.val

theorem dc_Ma_force_0 : decode M_Ma_force.2.1 0 = .ok (.iload_n 1, 1) := by decide +kernel
theorem dc_Ma_force_1 : decode M_Ma_force.2.1 1 = .ok (.ifCond .lt 11, 3) := by decide +kernel
theorem dc_Ma_force_4 : decode M_Ma_force.2.1 4 = .ok (.iload_n 1, 1) := by decide +kernel
theorem dc_Ma_force_5 : decode M_Ma_force.2.1 5 = .ok (.aload_n 0, 1) := by decide +kernel
theorem dc_Ma_force_6 : decode M_Ma_force.2.1 6 = .ok (.getfield 167, 3) := by decide +kernel
theorem dc_Ma_force_9 : decode M_Ma_force.2.1 9 = .ok (.if_icmp .lt 6, 3) := by decide +kernel
theorem dc_Ma_force_12 : decode M_Ma_force.2.1 12 = .ok (.bipush (-2), 2) := by decide +kernel
theorem dc_Ma_force_14 : decode M_Ma_force.2.1 14 = .ok (.ireturn, 1) := by decide +kernel
theorem dc_Ma_force_15 : decode M_Ma_force.2.1 15 = .ok (.aload_n 0, 1) := by decide +kernel
theorem dc_Ma_force_16 : decode M_Ma_force.2.1 16 = .ok (.getfield 179, 3) := by decide +kernel
theorem dc_Ma_force_19 : decode M_Ma_force.2.1 19 = .ok (.istore_n 2, 1) := by decide +kernel
theorem dc_Ma_force_20 : decode M_Ma_force.2.1 20 = .ok (.aload_n 0, 1) := by decide +kernel
theorem dc_Ma_force_21 : decode M_Ma_force.2.1 21 = .ok (.iload_n 1, 1) := by decide +kernel
theorem dc_Ma_force_22 : decode M_Ma_force.2.1 22 = .ok (.invokevirtual 97, 3) := by decide +kernel
theorem dc_Ma_force_25 : decode M_Ma_force.2.1 25 = .ok (.iload_n 2, 1) := by decide +kernel
theorem dc_Ma_force_26 : decode M_Ma_force.2.1 26 = .ok (.ireturn, 1) := by decide +kernel
def f_Ma_force (a0 : Nat) (a1 : Int32) (h : xH) : Option (Int32 × xH) := jn (fun (x3 : Unit) => some ((-2 : Int32), h)) (fun k4 => if a1 < 0 then k4 () else gd (hK h a0 = 10) (if a1 < (hI h a0 11) then Option.bind (f_Ma_useText a0 a1 h) (fun q8 => some (hI h a0 13, q8.2)) else k4 ()))
theorem t_Ma_force {l : Launch} {z : xZ} {d mc ms : Nat} {Ph : Option xV → xH → Prop} {a0 : Nat} {a1 : Int32}  {h : xH} (hd : 8 ≤ d) (hk : OK (f_Ma_force a0 a1 h) (fun q => Ph (some (xI q.1)) q.2)) : Sx l z d mc ms M_Ma_force 0 (x_en [xR a0, xI a1] 3) [] h Ph := by
  unfold f_Ma_force at hk
  refine sx_eq (lc2 := [some (xR a0), some (xI a1), none]) rfl rfl ?_
  refine sx_iload_n dc_Ma_force_0 rfl ?_
  refine hk.j (X := fun x3 => Sx l z d mc ms M_Ma_force 12 [some (xR a0), some (xI a1), none] [] h Ph) (fun x3 hk => ?_) (fun k4 jk4 hk => ?_)
  · refine sx_bipush (v := (-2 : Int32)) dc_Ma_force_12 (by decide) ?_
    exact sx_retI dc_Ma_force_14 rfl hk.val
  · refine sx_if_lt (tgt := 12) dc_Ma_force_1 (by decide) (fun c5 => ?_) (fun c5 => ?_)
    · replace hk := hk.t c5
      exact jk4 () hk
    · replace hk := hk.f c5
      refine sx_iload_n dc_Ma_force_4 rfl ?_
      refine sx_aload_n dc_Ma_force_5 rfl ?_
      obtain ⟨g6, hk⟩ := hk.g
      refine sx_get (ci := 10) (k := 11) rfl (by decide) wF_Ma_167 g6 dc_Ma_force_6 ?_
      refine sx_icmp_lt (tgt := 15) dc_Ma_force_9 (by decide) (fun c7 => ?_) (fun c7 => ?_)
      · replace hk := hk.t c7
        refine sx_aload_n dc_Ma_force_15 rfl ?_
        refine sx_get (ci := 10) (k := 13) rfl (by decide) wF_Ma_179 g6 dc_Ma_force_16 ?_
        refine sx_istore_n dc_Ma_force_19 (by decide) (sx_eq (lc2 := [some (xR a0), some (xI a1), some (xI (hI h a0 13))]) rfl rfl ?_)
        refine sx_aload_n dc_Ma_force_20 rfl ?_
        refine sx_iload_n dc_Ma_force_21 rfl ?_
        obtain ⟨q8, eq8, hk⟩ := hk.bind
        refine sx_callV (d2 := d - 1) (mc2 := 0) (ms2 := 0) (as := [xI a1]) mk_Ma_useText rfl (x_rk (ci := 10) g6 rfl rfl) wM_Ma_97 mi_Ma_useText me_Ma_useText rfl (Nat.le_of_ble_eq_true rfl) (Nat.le_of_ble_eq_true rfl) dc_Ma_force_22 (by omega) (Nat.zero_le _) (Nat.zero_le _) ?_
        refine t_Ma_useText (by omega) ⟨q8, eq8, ?_⟩
        refine sx_eq0 (lc2 := [some (xR a0), some (xI a1), some (xI (hI h a0 13))]) (st2 := []) rfl rfl ?_
        refine sx_iload_n dc_Ma_force_25 rfl ?_
        exact sx_retI dc_Ma_force_26 rfl hk.val
      · replace hk := hk.f c7
        exact jk4 () hk
theorem dc_Ma_threesNow_0 : decode M_Ma_threesNow.2.1 0 = .ok (.aload_n 0, 1) := by decide +kernel
theorem dc_Ma_threesNow_1 : decode M_Ma_threesNow.2.1 1 = .ok (.getfield 37, 3) := by decide +kernel
theorem dc_Ma_threesNow_4 : decode M_Ma_threesNow.2.1 4 = .ok (.aload_n 0, 1) := by decide +kernel
theorem dc_Ma_threesNow_5 : decode M_Ma_threesNow.2.1 5 = .ok (.getfield 21, 3) := by decide +kernel
theorem dc_Ma_threesNow_8 : decode M_Ma_threesNow.2.1 8 = .ok (.getfield 201, 3) := by decide +kernel
theorem dc_Ma_threesNow_11 : decode M_Ma_threesNow.2.1 11 = .ok (.aload_n 0, 1) := by decide +kernel
theorem dc_Ma_threesNow_12 : decode M_Ma_threesNow.2.1 12 = .ok (.getfield 21, 3) := by decide +kernel
theorem dc_Ma_threesNow_15 : decode M_Ma_threesNow.2.1 15 = .ok (.getfield 207, 3) := by decide +kernel
theorem dc_Ma_threesNow_18 : decode M_Ma_threesNow.2.1 18 = .ok (.invokevirtual 204, 3) := by decide +kernel
theorem dc_Ma_threesNow_21 : decode M_Ma_threesNow.2.1 21 = .ok (.ireturn, 1) := by decide +kernel
def f_Ma_threesNow (a0 : Nat) (h : xH) : Option (Int32 × xH) := gd (hK h a0 = 10) (gd (hK h (hR h a0 1) = 6) (gd (hK h (hR h a0 3) = 5) (Option.bind (f_St_howMany (hR h a0 3) (hI h (hR h a0 1) 2) (hI h (hR h a0 1) 3) h) (fun q7 => some (q7.1, q7.2)))))
theorem t_Ma_threesNow {l : Launch} {z : xZ} {d mc ms : Nat} {Ph : Option xV → xH → Prop} {a0 : Nat}  {h : xH} (hd : 4 ≤ d) (hk : OK (f_Ma_threesNow a0 h) (fun q => Ph (some (xI q.1)) q.2)) : Sx l z d mc ms M_Ma_threesNow 0 (x_en [xR a0] 1) [] h Ph := by
  unfold f_Ma_threesNow at hk
  refine sx_eq (lc2 := [some (xR a0)]) rfl rfl ?_
  refine sx_aload_n dc_Ma_threesNow_0 rfl ?_
  obtain ⟨g5, hk⟩ := hk.g
  refine sx_get (ci := 10) (k := 3) rfl (by decide) wF_Ma_37 g5 dc_Ma_threesNow_1 ?_
  refine sx_aload_n dc_Ma_threesNow_4 rfl ?_
  refine sx_get (ci := 10) (k := 1) rfl (by decide) wF_Ma_21 g5 dc_Ma_threesNow_5 ?_
  obtain ⟨g6, hk⟩ := hk.g
  refine sx_get (ci := 6) (k := 2) rfl (by decide) wF_Ma_201 g6 dc_Ma_threesNow_8 ?_
  refine sx_aload_n dc_Ma_threesNow_11 rfl ?_
  refine sx_get (ci := 10) (k := 1) rfl (by decide) wF_Ma_21 g5 dc_Ma_threesNow_12 ?_
  refine sx_get (ci := 6) (k := 3) rfl (by decide) wF_Ma_207 g6 dc_Ma_threesNow_15 ?_
  obtain ⟨g8, hk⟩ := hk.g
  obtain ⟨q7, eq7, hk⟩ := hk.bind
  refine sx_callV (d2 := d - 1) (mc2 := 0) (ms2 := 0) (as := [xI (hI h (hR h a0 1) 2), xI (hI h (hR h a0 1) 3)]) mk_St_howMany rfl (x_rk (ci := 5) g8 rfl rfl) wM_Ma_204 mi_St_howMany me_St_howMany rfl (Nat.le_of_ble_eq_true rfl) (Nat.le_of_ble_eq_true rfl) dc_Ma_threesNow_18 (by omega) (Nat.zero_le _) (Nat.zero_le _) ?_
  refine t_St_howMany (by omega) ⟨q7, eq7, ?_⟩
  refine sx_eq0 (lc2 := [some (xR a0)]) (st2 := [xI q7.1]) rfl rfl ?_
  exact sx_retI dc_Ma_threesNow_21 rfl hk.val
theorem dc_Ma_firstThree_0 : decode M_Ma_firstThree.2.1 0 = .ok (.iconst 0, 1) := by decide +kernel
theorem dc_Ma_firstThree_1 : decode M_Ma_firstThree.2.1 1 = .ok (.istore_n 1, 1) := by decide +kernel
theorem dc_Ma_firstThree_2 : decode M_Ma_firstThree.2.1 2 = .ok (.iload_n 1, 1) := by decide +kernel
theorem dc_Ma_firstThree_3 : decode M_Ma_firstThree.2.1 3 = .ok (.aload_n 0, 1) := by decide +kernel
theorem dc_Ma_firstThree_4 : decode M_Ma_firstThree.2.1 4 = .ok (.getfield 21, 3) := by decide +kernel
theorem dc_Ma_firstThree_7 : decode M_Ma_firstThree.2.1 7 = .ok (.getfield 100, 3) := by decide +kernel
theorem dc_Ma_firstThree_10 : decode M_Ma_firstThree.2.1 10 = .ok (.if_icmp .ge 102, 3) := by decide +kernel
theorem dc_Ma_firstThree_13 : decode M_Ma_firstThree.2.1 13 = .ok (.iload_n 1, 1) := by decide +kernel
theorem dc_Ma_firstThree_14 : decode M_Ma_firstThree.2.1 14 = .ok (.iconst 1, 1) := by decide +kernel
theorem dc_Ma_firstThree_15 : decode M_Ma_firstThree.2.1 15 = .ok (.iadd, 1) := by decide +kernel
theorem dc_Ma_firstThree_16 : decode M_Ma_firstThree.2.1 16 = .ok (.istore_n 2, 1) := by decide +kernel
theorem dc_Ma_firstThree_17 : decode M_Ma_firstThree.2.1 17 = .ok (.iload_n 2, 1) := by decide +kernel
theorem dc_Ma_firstThree_18 : decode M_Ma_firstThree.2.1 18 = .ok (.aload_n 0, 1) := by decide +kernel
theorem dc_Ma_firstThree_19 : decode M_Ma_firstThree.2.1 19 = .ok (.getfield 21, 3) := by decide +kernel
theorem dc_Ma_firstThree_22 : decode M_Ma_firstThree.2.1 22 = .ok (.getfield 100, 3) := by decide +kernel
theorem dc_Ma_firstThree_25 : decode M_Ma_firstThree.2.1 25 = .ok (.if_icmp .ge 81, 3) := by decide +kernel
theorem dc_Ma_firstThree_28 : decode M_Ma_firstThree.2.1 28 = .ok (.iload_n 2, 1) := by decide +kernel
theorem dc_Ma_firstThree_29 : decode M_Ma_firstThree.2.1 29 = .ok (.iconst 1, 1) := by decide +kernel
theorem dc_Ma_firstThree_30 : decode M_Ma_firstThree.2.1 30 = .ok (.iadd, 1) := by decide +kernel
theorem dc_Ma_firstThree_31 : decode M_Ma_firstThree.2.1 31 = .ok (.istore_n 3, 1) := by decide +kernel
theorem dc_Ma_firstThree_32 : decode M_Ma_firstThree.2.1 32 = .ok (.iload_n 3, 1) := by decide +kernel
theorem dc_Ma_firstThree_33 : decode M_Ma_firstThree.2.1 33 = .ok (.aload_n 0, 1) := by decide +kernel
theorem dc_Ma_firstThree_34 : decode M_Ma_firstThree.2.1 34 = .ok (.getfield 21, 3) := by decide +kernel
theorem dc_Ma_firstThree_37 : decode M_Ma_firstThree.2.1 37 = .ok (.getfield 100, 3) := by decide +kernel
theorem dc_Ma_firstThree_40 : decode M_Ma_firstThree.2.1 40 = .ok (.if_icmp .ge 60, 3) := by decide +kernel
theorem dc_Ma_firstThree_43 : decode M_Ma_firstThree.2.1 43 = .ok (.iconst 1, 1) := by decide +kernel
theorem dc_Ma_firstThree_44 : decode M_Ma_firstThree.2.1 44 = .ok (.iload_n 1, 1) := by decide +kernel
theorem dc_Ma_firstThree_45 : decode M_Ma_firstThree.2.1 45 = .ok (.ishl, 1) := by decide +kernel
theorem dc_Ma_firstThree_46 : decode M_Ma_firstThree.2.1 46 = .ok (.iconst 1, 1) := by decide +kernel
theorem dc_Ma_firstThree_47 : decode M_Ma_firstThree.2.1 47 = .ok (.iload_n 2, 1) := by decide +kernel
theorem dc_Ma_firstThree_48 : decode M_Ma_firstThree.2.1 48 = .ok (.ishl, 1) := by decide +kernel
theorem dc_Ma_firstThree_49 : decode M_Ma_firstThree.2.1 49 = .ok (.ior, 1) := by decide +kernel
theorem dc_Ma_firstThree_50 : decode M_Ma_firstThree.2.1 50 = .ok (.iconst 1, 1) := by decide +kernel
theorem dc_Ma_firstThree_51 : decode M_Ma_firstThree.2.1 51 = .ok (.iload_n 3, 1) := by decide +kernel
theorem dc_Ma_firstThree_52 : decode M_Ma_firstThree.2.1 52 = .ok (.ishl, 1) := by decide +kernel
theorem dc_Ma_firstThree_53 : decode M_Ma_firstThree.2.1 53 = .ok (.ior, 1) := by decide +kernel
theorem dc_Ma_firstThree_54 : decode M_Ma_firstThree.2.1 54 = .ok (.istore 4, 2) := by decide +kernel
theorem dc_Ma_firstThree_56 : decode M_Ma_firstThree.2.1 56 = .ok (.aload_n 0, 1) := by decide +kernel
theorem dc_Ma_firstThree_57 : decode M_Ma_firstThree.2.1 57 = .ok (.getfield 37, 3) := by decide +kernel
theorem dc_Ma_firstThree_60 : decode M_Ma_firstThree.2.1 60 = .ok (.iload 4, 2) := by decide +kernel
theorem dc_Ma_firstThree_62 : decode M_Ma_firstThree.2.1 62 = .ok (.aload_n 0, 1) := by decide +kernel
theorem dc_Ma_firstThree_63 : decode M_Ma_firstThree.2.1 63 = .ok (.getfield 21, 3) := by decide +kernel
theorem dc_Ma_firstThree_66 : decode M_Ma_firstThree.2.1 66 = .ok (.getfield 201, 3) := by decide +kernel
theorem dc_Ma_firstThree_69 : decode M_Ma_firstThree.2.1 69 = .ok (.aload_n 0, 1) := by decide +kernel
theorem dc_Ma_firstThree_70 : decode M_Ma_firstThree.2.1 70 = .ok (.getfield 21, 3) := by decide +kernel
theorem dc_Ma_firstThree_73 : decode M_Ma_firstThree.2.1 73 = .ok (.getfield 207, 3) := by decide +kernel
theorem dc_Ma_firstThree_76 : decode M_Ma_firstThree.2.1 76 = .ok (.invokevirtual 228, 3) := by decide +kernel
theorem dc_Ma_firstThree_79 : decode M_Ma_firstThree.2.1 79 = .ok (.ifCond .eq 15, 3) := by decide +kernel
theorem dc_Ma_firstThree_82 : decode M_Ma_firstThree.2.1 82 = .ok (.bipush 100, 2) := by decide +kernel
theorem dc_Ma_firstThree_84 : decode M_Ma_firstThree.2.1 84 = .ok (.iload_n 1, 1) := by decide +kernel
theorem dc_Ma_firstThree_85 : decode M_Ma_firstThree.2.1 85 = .ok (.imul, 1) := by decide +kernel
theorem dc_Ma_firstThree_86 : decode M_Ma_firstThree.2.1 86 = .ok (.bipush 10, 2) := by decide +kernel
theorem dc_Ma_firstThree_88 : decode M_Ma_firstThree.2.1 88 = .ok (.iload_n 2, 1) := by decide +kernel
theorem dc_Ma_firstThree_89 : decode M_Ma_firstThree.2.1 89 = .ok (.imul, 1) := by decide +kernel
theorem dc_Ma_firstThree_90 : decode M_Ma_firstThree.2.1 90 = .ok (.iadd, 1) := by decide +kernel
theorem dc_Ma_firstThree_91 : decode M_Ma_firstThree.2.1 91 = .ok (.iload_n 3, 1) := by decide +kernel
theorem dc_Ma_firstThree_92 : decode M_Ma_firstThree.2.1 92 = .ok (.iadd, 1) := by decide +kernel
theorem dc_Ma_firstThree_93 : decode M_Ma_firstThree.2.1 93 = .ok (.ireturn, 1) := by decide +kernel
theorem dc_Ma_firstThree_94 : decode M_Ma_firstThree.2.1 94 = .ok (.iinc 3 1, 3) := by decide +kernel
theorem dc_Ma_firstThree_97 : decode M_Ma_firstThree.2.1 97 = .ok (.goto (-65), 3) := by decide +kernel
theorem dc_Ma_firstThree_100 : decode M_Ma_firstThree.2.1 100 = .ok (.iinc 2 1, 3) := by decide +kernel
theorem dc_Ma_firstThree_103 : decode M_Ma_firstThree.2.1 103 = .ok (.goto (-86), 3) := by decide +kernel
theorem dc_Ma_firstThree_106 : decode M_Ma_firstThree.2.1 106 = .ok (.iinc 1 1, 3) := by decide +kernel
theorem dc_Ma_firstThree_109 : decode M_Ma_firstThree.2.1 109 = .ok (.goto (-107), 3) := by decide +kernel
theorem dc_Ma_firstThree_112 : decode M_Ma_firstThree.2.1 112 = .ok (.iconst (-1), 1) := by decide +kernel
theorem dc_Ma_firstThree_113 : decode M_Ma_firstThree.2.1 113 = .ok (.ireturn, 1) := by decide +kernel
def f_Ma_firstThree_L32 (a0 : Nat) (a1 : Int32) (a2 : Int32) : Nat → Int32 → xH → (Int32 → xH → Option (Int32 × xH)) → Option (Int32 × xH)
  | 0, _, _, _ => none
  | n + 1, a3, h, K => gd (hK h a0 = 10) (gd (hK h (hR h a0 1) = 6) (if (hI h (hR h a0 1) 1) ≤ a3 then K a3 h else gd (hK h (hR h a0 3) = 5) (Option.bind (f_St_stands (hR h a0 3) (((jShl (1 : Int32) a1) ||| (jShl (1 : Int32) a2)) ||| (jShl (1 : Int32) a3)) (hI h (hR h a0 1) 2) (hI h (hR h a0 1) 3) h) (fun q14 => if q14.1 = 0 then f_Ma_firstThree_L32 a0 a1 a2 n (a3 + (1 : Int32)) q14.2 K else some ((((100 : Int32) * a1) + ((10 : Int32) * a2)) + a3, q14.2)))))
def f_Ma_firstThree_L17 (a0 : Nat) (a1 : Int32) : Nat → Int32 → xH → (Int32 → xH → Option (Int32 × xH)) → Option (Int32 × xH)
  | 0, _, _, _ => none
  | n + 1, a2, h, K => gd (hK h a0 = 10) (gd (hK h (hR h a0 1) = 6) (if (hI h (hR h a0 1) 1) ≤ a2 then K a2 h else f_Ma_firstThree_L32 a0 a1 a2 fu (a2 + (1 : Int32)) h (fun v17 h18 => f_Ma_firstThree_L17 a0 a1 n (a2 + (1 : Int32)) h18 K)))
def f_Ma_firstThree_L2 (a0 : Nat) : Nat → Int32 → xH → (Int32 → xH → Option (Int32 × xH)) → Option (Int32 × xH)
  | 0, _, _, _ => none
  | n + 1, a1, h, K => gd (hK h a0 = 10) (gd (hK h (hR h a0 1) = 6) (if (hI h (hR h a0 1) 1) ≤ a1 then K a1 h else f_Ma_firstThree_L17 a0 a1 fu (a1 + (1 : Int32)) h (fun v19 h20 => f_Ma_firstThree_L2 a0 n (a1 + (1 : Int32)) h20 K)))
def f_Ma_firstThree (a0 : Nat) (h : xH) : Option (Int32 × xH) := f_Ma_firstThree_L2 a0 fu (0 : Int32) h (fun v21 h22 => some ((-1 : Int32), h22))
theorem t_Ma_firstThree_L32 {l : Launch} {z : xZ} {d mc ms : Nat} {Ph : Option xV → xH → Prop} {a0 : Nat} {a1 : Int32} {a2 : Int32}  (hd : 3 ≤ d) : ∀ (n : Nat) (a3 : Int32) (h : xH) (K : Int32 → xH → Option (Int32 × xH)), OK (f_Ma_firstThree_L32 a0 a1 a2 n a3 h K) (fun q => Ph (some (xI q.1)) q.2) → (∀ (a3 : Int32) (h : xH), OK (K a3 h) (fun q => Ph (some (xI q.1)) q.2) → Sx l z d mc ms M_Ma_firstThree 100 [some (xR a0), some (xI a1), some (xI a2), some (xI a3), none] [] h Ph) → Sx l z d mc ms M_Ma_firstThree 32 [some (xR a0), some (xI a1), some (xI a2), some (xI a3), none] [] h Ph := by
  intro n
  induction n with
  | zero => intro a3 h K hk hE; exact hk.no
  | succ n ih =>
    intro a3 h K hk hE
    rw [f_Ma_firstThree_L32] at hk
    refine sx_iload_n dc_Ma_firstThree_32 rfl ?_
    refine sx_aload_n dc_Ma_firstThree_33 rfl ?_
    obtain ⟨g11, hk⟩ := hk.g
    refine sx_get (ci := 10) (k := 1) rfl (by decide) wF_Ma_21 g11 dc_Ma_firstThree_34 ?_
    obtain ⟨g12, hk⟩ := hk.g
    refine sx_get (ci := 6) (k := 1) rfl (by decide) wF_Ma_100 g12 dc_Ma_firstThree_37 ?_
    refine sx_icmp_ge (tgt := 100) dc_Ma_firstThree_40 (by decide) (fun c13 => ?_) (fun c13 => ?_)
    · replace hk := hk.t c13
      exact hE a3 h hk
    · replace hk := hk.f c13
      refine sx_iconst (v := (1 : Int32)) dc_Ma_firstThree_43 (by decide) ?_
      refine sx_iload_n dc_Ma_firstThree_44 rfl ?_
      refine sx_ishl dc_Ma_firstThree_45 ?_
      refine sx_iconst (v := (1 : Int32)) dc_Ma_firstThree_46 (by decide) ?_
      refine sx_iload_n dc_Ma_firstThree_47 rfl ?_
      refine sx_ishl dc_Ma_firstThree_48 ?_
      refine sx_ior dc_Ma_firstThree_49 ?_
      refine sx_iconst (v := (1 : Int32)) dc_Ma_firstThree_50 (by decide) ?_
      refine sx_iload_n dc_Ma_firstThree_51 rfl ?_
      refine sx_ishl dc_Ma_firstThree_52 ?_
      refine sx_ior dc_Ma_firstThree_53 ?_
      refine sx_istore dc_Ma_firstThree_54 (by decide) (sx_eq (lc2 := [some (xR a0), some (xI a1), some (xI a2), some (xI a3), some (xI (((jShl (1 : Int32) a1) ||| (jShl (1 : Int32) a2)) ||| (jShl (1 : Int32) a3)))]) rfl rfl ?_)
      refine sx_aload_n dc_Ma_firstThree_56 rfl ?_
      refine sx_get (ci := 10) (k := 3) rfl (by decide) wF_Ma_37 g11 dc_Ma_firstThree_57 ?_
      refine sx_iload dc_Ma_firstThree_60 rfl ?_
      refine sx_aload_n dc_Ma_firstThree_62 rfl ?_
      refine sx_get (ci := 10) (k := 1) rfl (by decide) wF_Ma_21 g11 dc_Ma_firstThree_63 ?_
      refine sx_get (ci := 6) (k := 2) rfl (by decide) wF_Ma_201 g12 dc_Ma_firstThree_66 ?_
      refine sx_aload_n dc_Ma_firstThree_69 rfl ?_
      refine sx_get (ci := 10) (k := 1) rfl (by decide) wF_Ma_21 g11 dc_Ma_firstThree_70 ?_
      refine sx_get (ci := 6) (k := 3) rfl (by decide) wF_Ma_207 g12 dc_Ma_firstThree_73 ?_
      obtain ⟨g15, hk⟩ := hk.g
      obtain ⟨q14, eq14, hk⟩ := hk.bind
      refine sx_callV (d2 := d - 1) (mc2 := 0) (ms2 := 0) (as := [xI (((jShl (1 : Int32) a1) ||| (jShl (1 : Int32) a2)) ||| (jShl (1 : Int32) a3)), xI (hI h (hR h a0 1) 2), xI (hI h (hR h a0 1) 3)]) mk_St_stands rfl (x_rk (ci := 5) g15 rfl rfl) wM_Ma_228 mi_St_stands me_St_stands rfl (Nat.le_of_ble_eq_true rfl) (Nat.le_of_ble_eq_true rfl) dc_Ma_firstThree_76 (by omega) (Nat.zero_le _) (Nat.zero_le _) ?_
      refine t_St_stands (by omega) ⟨q14, eq14, ?_⟩
      refine sx_eq0 (lc2 := [some (xR a0), some (xI a1), some (xI a2), some (xI a3), some (xI (((jShl (1 : Int32) a1) ||| (jShl (1 : Int32) a2)) ||| (jShl (1 : Int32) a3)))]) (st2 := [xI q14.1]) rfl rfl ?_
      refine sx_if_eq (tgt := 94) dc_Ma_firstThree_79 (by decide) (fun c16 => ?_) (fun c16 => ?_)
      · replace hk := hk.t c16
        refine sx_iinc (v := (1 : Int32)) dc_Ma_firstThree_94 rfl (by decide) (by decide) (sx_eq (lc2 := [some (xR a0), some (xI a1), some (xI a2), some (xI (a3 + (1 : Int32))), some (xI (((jShl (1 : Int32) a1) ||| (jShl (1 : Int32) a2)) ||| (jShl (1 : Int32) a3)))]) rfl rfl ?_)
        refine sx_goto (tgt := 32) dc_Ma_firstThree_97 (by decide) ?_
        exact sx_less (by simp [x_le]) (ih (a3 + (1 : Int32)) q14.2 _ hk hE)
      · replace hk := hk.f c16
        refine sx_bipush (v := (100 : Int32)) dc_Ma_firstThree_82 (by decide) ?_
        refine sx_iload_n dc_Ma_firstThree_84 rfl ?_
        refine sx_imul dc_Ma_firstThree_85 ?_
        refine sx_bipush (v := (10 : Int32)) dc_Ma_firstThree_86 (by decide) ?_
        refine sx_iload_n dc_Ma_firstThree_88 rfl ?_
        refine sx_imul dc_Ma_firstThree_89 ?_
        refine sx_iadd dc_Ma_firstThree_90 ?_
        refine sx_iload_n dc_Ma_firstThree_91 rfl ?_
        refine sx_iadd dc_Ma_firstThree_92 ?_
        exact sx_retI dc_Ma_firstThree_93 rfl hk.val
theorem t_Ma_firstThree_L17 {l : Launch} {z : xZ} {d mc ms : Nat} {Ph : Option xV → xH → Prop} {a0 : Nat} {a1 : Int32}  (hd : 3 ≤ d) : ∀ (n : Nat) (a2 : Int32) (h : xH) (K : Int32 → xH → Option (Int32 × xH)), OK (f_Ma_firstThree_L17 a0 a1 n a2 h K) (fun q => Ph (some (xI q.1)) q.2) → (∀ (a2 : Int32) (h : xH), OK (K a2 h) (fun q => Ph (some (xI q.1)) q.2) → Sx l z d mc ms M_Ma_firstThree 106 [some (xR a0), some (xI a1), some (xI a2), none, none] [] h Ph) → Sx l z d mc ms M_Ma_firstThree 17 [some (xR a0), some (xI a1), some (xI a2), none, none] [] h Ph := by
  intro n
  induction n with
  | zero => intro a2 h K hk hE; exact hk.no
  | succ n ih =>
    intro a2 h K hk hE
    rw [f_Ma_firstThree_L17] at hk
    refine sx_iload_n dc_Ma_firstThree_17 rfl ?_
    refine sx_aload_n dc_Ma_firstThree_18 rfl ?_
    obtain ⟨g8, hk⟩ := hk.g
    refine sx_get (ci := 10) (k := 1) rfl (by decide) wF_Ma_21 g8 dc_Ma_firstThree_19 ?_
    obtain ⟨g9, hk⟩ := hk.g
    refine sx_get (ci := 6) (k := 1) rfl (by decide) wF_Ma_100 g9 dc_Ma_firstThree_22 ?_
    refine sx_icmp_ge (tgt := 106) dc_Ma_firstThree_25 (by decide) (fun c10 => ?_) (fun c10 => ?_)
    · replace hk := hk.t c10
      exact hE a2 h hk
    · replace hk := hk.f c10
      refine sx_iload_n dc_Ma_firstThree_28 rfl ?_
      refine sx_iconst (v := (1 : Int32)) dc_Ma_firstThree_29 (by decide) ?_
      refine sx_iadd dc_Ma_firstThree_30 ?_
      refine sx_istore_n dc_Ma_firstThree_31 (by decide) (sx_eq (lc2 := [some (xR a0), some (xI a1), some (xI a2), some (xI (a2 + (1 : Int32))), none]) rfl rfl ?_)
      refine t_Ma_firstThree_L32 (by omega) _ _ _ _ hk (fun v17 h18 hk => ?_)
      refine sx_iinc (v := (1 : Int32)) dc_Ma_firstThree_100 rfl (by decide) (by decide) (sx_eq (lc2 := [some (xR a0), some (xI a1), some (xI (a2 + (1 : Int32))), some (xI v17), none]) rfl rfl ?_)
      refine sx_goto (tgt := 17) dc_Ma_firstThree_103 (by decide) ?_
      exact sx_less (by simp [x_le]) (ih (a2 + (1 : Int32)) h18 _ hk hE)
theorem t_Ma_firstThree_L2 {l : Launch} {z : xZ} {d mc ms : Nat} {Ph : Option xV → xH → Prop} {a0 : Nat}  (hd : 3 ≤ d) : ∀ (n : Nat) (a1 : Int32) (h : xH) (K : Int32 → xH → Option (Int32 × xH)), OK (f_Ma_firstThree_L2 a0 n a1 h K) (fun q => Ph (some (xI q.1)) q.2) → (∀ (a1 : Int32) (h : xH), OK (K a1 h) (fun q => Ph (some (xI q.1)) q.2) → Sx l z d mc ms M_Ma_firstThree 112 [some (xR a0), some (xI a1), none, none, none] [] h Ph) → Sx l z d mc ms M_Ma_firstThree 2 [some (xR a0), some (xI a1), none, none, none] [] h Ph := by
  intro n
  induction n with
  | zero => intro a1 h K hk hE; exact hk.no
  | succ n ih =>
    intro a1 h K hk hE
    rw [f_Ma_firstThree_L2] at hk
    refine sx_iload_n dc_Ma_firstThree_2 rfl ?_
    refine sx_aload_n dc_Ma_firstThree_3 rfl ?_
    obtain ⟨g5, hk⟩ := hk.g
    refine sx_get (ci := 10) (k := 1) rfl (by decide) wF_Ma_21 g5 dc_Ma_firstThree_4 ?_
    obtain ⟨g6, hk⟩ := hk.g
    refine sx_get (ci := 6) (k := 1) rfl (by decide) wF_Ma_100 g6 dc_Ma_firstThree_7 ?_
    refine sx_icmp_ge (tgt := 112) dc_Ma_firstThree_10 (by decide) (fun c7 => ?_) (fun c7 => ?_)
    · replace hk := hk.t c7
      exact hE a1 h hk
    · replace hk := hk.f c7
      refine sx_iload_n dc_Ma_firstThree_13 rfl ?_
      refine sx_iconst (v := (1 : Int32)) dc_Ma_firstThree_14 (by decide) ?_
      refine sx_iadd dc_Ma_firstThree_15 ?_
      refine sx_istore_n dc_Ma_firstThree_16 (by decide) (sx_eq (lc2 := [some (xR a0), some (xI a1), some (xI (a1 + (1 : Int32))), none, none]) rfl rfl ?_)
      refine t_Ma_firstThree_L17 (by omega) _ _ _ _ hk (fun v19 h20 hk => ?_)
      refine sx_iinc (v := (1 : Int32)) dc_Ma_firstThree_106 rfl (by decide) (by decide) (sx_eq (lc2 := [some (xR a0), some (xI (a1 + (1 : Int32))), some (xI v19), none, none]) rfl rfl ?_)
      refine sx_goto (tgt := 2) dc_Ma_firstThree_109 (by decide) ?_
      exact sx_less (by simp [x_le]) (ih (a1 + (1 : Int32)) h20 _ hk hE)
theorem t_Ma_firstThree {l : Launch} {z : xZ} {d mc ms : Nat} {Ph : Option xV → xH → Prop} {a0 : Nat}  {h : xH} (hd : 3 ≤ d) (hk : OK (f_Ma_firstThree a0 h) (fun q => Ph (some (xI q.1)) q.2)) : Sx l z d mc ms M_Ma_firstThree 0 (x_en [xR a0] 5) [] h Ph := by
  unfold f_Ma_firstThree at hk
  refine sx_eq (lc2 := [some (xR a0), none, none, none, none]) rfl rfl ?_
  refine sx_iconst (v := (0 : Int32)) dc_Ma_firstThree_0 (by decide) ?_
  refine sx_istore_n dc_Ma_firstThree_1 (by decide) (sx_eq (lc2 := [some (xR a0), some (xI (0 : Int32)), none, none, none]) rfl rfl ?_)
  refine t_Ma_firstThree_L2 (by omega) _ _ _ _ hk (fun v21 h22 hk => ?_)
  refine sx_iconst (v := (-1 : Int32)) dc_Ma_firstThree_112 (by decide) ?_
  exact sx_retI dc_Ma_firstThree_113 rfl hk.val
theorem dc_Ma_byDegrees_0 : decode M_Ma_byDegrees.2.1 0 = .ok (.iconst 0, 1) := by decide +kernel
theorem dc_Ma_byDegrees_1 : decode M_Ma_byDegrees.2.1 1 = .ok (.istore_n 1, 1) := by decide +kernel
theorem dc_Ma_byDegrees_2 : decode M_Ma_byDegrees.2.1 2 = .ok (.iconst 0, 1) := by decide +kernel
theorem dc_Ma_byDegrees_3 : decode M_Ma_byDegrees.2.1 3 = .ok (.istore_n 2, 1) := by decide +kernel
theorem dc_Ma_byDegrees_4 : decode M_Ma_byDegrees.2.1 4 = .ok (.iload_n 2, 1) := by decide +kernel
theorem dc_Ma_byDegrees_5 : decode M_Ma_byDegrees.2.1 5 = .ok (.aload_n 0, 1) := by decide +kernel
theorem dc_Ma_byDegrees_6 : decode M_Ma_byDegrees.2.1 6 = .ok (.getfield 21, 3) := by decide +kernel
theorem dc_Ma_byDegrees_9 : decode M_Ma_byDegrees.2.1 9 = .ok (.getfield 100, 3) := by decide +kernel
theorem dc_Ma_byDegrees_12 : decode M_Ma_byDegrees.2.1 12 = .ok (.if_icmp .ge 37, 3) := by decide +kernel
theorem dc_Ma_byDegrees_15 : decode M_Ma_byDegrees.2.1 15 = .ok (.aload_n 0, 1) := by decide +kernel
theorem dc_Ma_byDegrees_16 : decode M_Ma_byDegrees.2.1 16 = .ok (.getfield 21, 3) := by decide +kernel
theorem dc_Ma_byDegrees_19 : decode M_Ma_byDegrees.2.1 19 = .ok (.iload_n 2, 1) := by decide +kernel
theorem dc_Ma_byDegrees_20 : decode M_Ma_byDegrees.2.1 20 = .ok (.invokevirtual 219, 3) := by decide +kernel
theorem dc_Ma_byDegrees_23 : decode M_Ma_byDegrees.2.1 23 = .ok (.invokestatic 139, 3) := by decide +kernel
theorem dc_Ma_byDegrees_26 : decode M_Ma_byDegrees.2.1 26 = .ok (.istore_n 3, 1) := by decide +kernel
theorem dc_Ma_byDegrees_27 : decode M_Ma_byDegrees.2.1 27 = .ok (.iload_n 1, 1) := by decide +kernel
theorem dc_Ma_byDegrees_28 : decode M_Ma_byDegrees.2.1 28 = .ok (.iload_n 3, 1) := by decide +kernel
theorem dc_Ma_byDegrees_29 : decode M_Ma_byDegrees.2.1 29 = .ok (.aload_n 0, 1) := by decide +kernel
theorem dc_Ma_byDegrees_30 : decode M_Ma_byDegrees.2.1 30 = .ok (.getfield 21, 3) := by decide +kernel
theorem dc_Ma_byDegrees_33 : decode M_Ma_byDegrees.2.1 33 = .ok (.getfield 100, 3) := by decide +kernel
theorem dc_Ma_byDegrees_36 : decode M_Ma_byDegrees.2.1 36 = .ok (.iconst 1, 1) := by decide +kernel
theorem dc_Ma_byDegrees_37 : decode M_Ma_byDegrees.2.1 37 = .ok (.isub, 1) := by decide +kernel
theorem dc_Ma_byDegrees_38 : decode M_Ma_byDegrees.2.1 38 = .ok (.iload_n 3, 1) := by decide +kernel
theorem dc_Ma_byDegrees_39 : decode M_Ma_byDegrees.2.1 39 = .ok (.isub, 1) := by decide +kernel
theorem dc_Ma_byDegrees_40 : decode M_Ma_byDegrees.2.1 40 = .ok (.imul, 1) := by decide +kernel
theorem dc_Ma_byDegrees_41 : decode M_Ma_byDegrees.2.1 41 = .ok (.iadd, 1) := by decide +kernel
theorem dc_Ma_byDegrees_42 : decode M_Ma_byDegrees.2.1 42 = .ok (.istore_n 1, 1) := by decide +kernel
theorem dc_Ma_byDegrees_43 : decode M_Ma_byDegrees.2.1 43 = .ok (.iinc 2 1, 3) := by decide +kernel
theorem dc_Ma_byDegrees_46 : decode M_Ma_byDegrees.2.1 46 = .ok (.goto (-42), 3) := by decide +kernel
theorem dc_Ma_byDegrees_49 : decode M_Ma_byDegrees.2.1 49 = .ok (.aload_n 0, 1) := by decide +kernel
theorem dc_Ma_byDegrees_50 : decode M_Ma_byDegrees.2.1 50 = .ok (.getfield 21, 3) := by decide +kernel
theorem dc_Ma_byDegrees_53 : decode M_Ma_byDegrees.2.1 53 = .ok (.getfield 100, 3) := by decide +kernel
theorem dc_Ma_byDegrees_56 : decode M_Ma_byDegrees.2.1 56 = .ok (.invokestatic 231, 3) := by decide +kernel
theorem dc_Ma_byDegrees_59 : decode M_Ma_byDegrees.2.1 59 = .ok (.iload_n 1, 1) := by decide +kernel
theorem dc_Ma_byDegrees_60 : decode M_Ma_byDegrees.2.1 60 = .ok (.iconst 2, 1) := by decide +kernel
theorem dc_Ma_byDegrees_61 : decode M_Ma_byDegrees.2.1 61 = .ok (.idiv, 1) := by decide +kernel
theorem dc_Ma_byDegrees_62 : decode M_Ma_byDegrees.2.1 62 = .ok (.isub, 1) := by decide +kernel
theorem dc_Ma_byDegrees_63 : decode M_Ma_byDegrees.2.1 63 = .ok (.ireturn, 1) := by decide +kernel
def f_Ma_byDegrees_L4 (a0 : Nat) : Nat → Int32 → Int32 → xH → (Int32 → Int32 → xH → Option (Int32 × xH)) → Option (Int32 × xH)
  | 0, _, _, _, _ => none
  | n + 1, a1, a2, h, K => gd (hK h a0 = 10) (gd (hK h (hR h a0 1) = 6) (if (hI h (hR h a0 1) 1) ≤ a2 then K a1 a2 h else Option.bind (f_Ta_knownBy (hR h a0 1) a2 h) (fun q11 => Option.bind (f_In_bitCount q11.1 q11.2) (fun q12 => gd (hK q12.2 a0 = 10) (gd (hK q12.2 (hR q12.2 a0 1) = 6) (f_Ma_byDegrees_L4 a0 n (a1 + (q12.1 * (((hI q12.2 (hR q12.2 a0 1) 1) - (1 : Int32)) - q12.1))) (a2 + (1 : Int32)) q12.2 K))))))
def f_Ma_byDegrees (a0 : Nat) (h : xH) : Option (Int32 × xH) := f_Ma_byDegrees_L4 a0 fu (0 : Int32) (0 : Int32) h (fun v15 v16 h17 => gd (hK h17 a0 = 10) (gd (hK h17 (hR h17 a0 1) = 6) (Option.bind (f_Se_threesAmong (hI h17 (hR h17 a0 1) 1) h17) (fun q20 => some (q20.1 - (v15 / (2 : Int32)), q20.2)))))
theorem t_Ma_byDegrees_L4 {l : Launch} {z : xZ} {d mc ms : Nat} {Ph : Option xV → xH → Prop} {a0 : Nat}  (hd : 4 ≤ d) : ∀ (n : Nat) (a1 : Int32) (a2 : Int32) (h : xH) (K : Int32 → Int32 → xH → Option (Int32 × xH)), OK (f_Ma_byDegrees_L4 a0 n a1 a2 h K) (fun q => Ph (some (xI q.1)) q.2) → (∀ (a1 : Int32) (a2 : Int32) (h : xH), OK (K a1 a2 h) (fun q => Ph (some (xI q.1)) q.2) → Sx l z d mc ms M_Ma_byDegrees 49 [some (xR a0), some (xI a1), some (xI a2), none] [] h Ph) → Sx l z d mc ms M_Ma_byDegrees 4 [some (xR a0), some (xI a1), some (xI a2), none] [] h Ph := by
  intro n
  induction n with
  | zero => intro a1 a2 h K hk hE; exact hk.no
  | succ n ih =>
    intro a1 a2 h K hk hE
    rw [f_Ma_byDegrees_L4] at hk
    refine sx_iload_n dc_Ma_byDegrees_4 rfl ?_
    refine sx_aload_n dc_Ma_byDegrees_5 rfl ?_
    obtain ⟨g8, hk⟩ := hk.g
    refine sx_get (ci := 10) (k := 1) rfl (by decide) wF_Ma_21 g8 dc_Ma_byDegrees_6 ?_
    obtain ⟨g9, hk⟩ := hk.g
    refine sx_get (ci := 6) (k := 1) rfl (by decide) wF_Ma_100 g9 dc_Ma_byDegrees_9 ?_
    refine sx_icmp_ge (tgt := 49) dc_Ma_byDegrees_12 (by decide) (fun c10 => ?_) (fun c10 => ?_)
    · replace hk := hk.t c10
      exact hE a1 a2 h hk
    · replace hk := hk.f c10
      refine sx_aload_n dc_Ma_byDegrees_15 rfl ?_
      refine sx_get (ci := 10) (k := 1) rfl (by decide) wF_Ma_21 g8 dc_Ma_byDegrees_16 ?_
      refine sx_iload_n dc_Ma_byDegrees_19 rfl ?_
      obtain ⟨q11, eq11, hk⟩ := hk.bind
      refine sx_callV (d2 := d - 1) (mc2 := 0) (ms2 := 0) (as := [xI a2]) mk_Ta_knownBy rfl (x_rk (ci := 6) g9 rfl rfl) wM_Ma_219 mi_Ta_knownBy me_Ta_knownBy rfl (Nat.le_of_ble_eq_true rfl) (Nat.le_of_ble_eq_true rfl) dc_Ma_byDegrees_20 (by omega) (Nat.zero_le _) (Nat.zero_le _) ?_
      refine t_Ta_knownBy (by omega) ⟨q11, eq11, ?_⟩
      refine sx_eq0 (lc2 := [some (xR a0), some (xI a1), some (xI a2), none]) (st2 := [xI q11.1]) rfl rfl ?_
      obtain ⟨q12, eq12, hk⟩ := hk.bind
      refine sx_callS (d2 := d - 1) (mc2 := 0) (ms2 := 0) (as := [xI q11.1]) mk_In_bitCount rfl wM_Ma_139 mt_In_bitCount rfl (Nat.le_of_ble_eq_true rfl) (Nat.le_of_ble_eq_true rfl) dc_Ma_byDegrees_23 (by omega) (Nat.zero_le _) (Nat.zero_le _) ?_
      refine t_In_bitCount (by omega) ⟨q12, eq12, ?_⟩
      refine sx_eq0 (lc2 := [some (xR a0), some (xI a1), some (xI a2), none]) (st2 := [xI q12.1]) rfl rfl ?_
      refine sx_istore_n dc_Ma_byDegrees_26 (by decide) (sx_eq (lc2 := [some (xR a0), some (xI a1), some (xI a2), some (xI q12.1)]) rfl rfl ?_)
      refine sx_iload_n dc_Ma_byDegrees_27 rfl ?_
      refine sx_iload_n dc_Ma_byDegrees_28 rfl ?_
      refine sx_aload_n dc_Ma_byDegrees_29 rfl ?_
      obtain ⟨g13, hk⟩ := hk.g
      refine sx_get (ci := 10) (k := 1) rfl (by decide) wF_Ma_21 g13 dc_Ma_byDegrees_30 ?_
      obtain ⟨g14, hk⟩ := hk.g
      refine sx_get (ci := 6) (k := 1) rfl (by decide) wF_Ma_100 g14 dc_Ma_byDegrees_33 ?_
      refine sx_iconst (v := (1 : Int32)) dc_Ma_byDegrees_36 (by decide) ?_
      refine sx_isub dc_Ma_byDegrees_37 ?_
      refine sx_iload_n dc_Ma_byDegrees_38 rfl ?_
      refine sx_isub dc_Ma_byDegrees_39 ?_
      refine sx_imul dc_Ma_byDegrees_40 ?_
      refine sx_iadd dc_Ma_byDegrees_41 ?_
      refine sx_istore_n dc_Ma_byDegrees_42 (by decide) (sx_eq (lc2 := [some (xR a0), some (xI (a1 + (q12.1 * (((hI q12.2 (hR q12.2 a0 1) 1) - (1 : Int32)) - q12.1)))), some (xI a2), some (xI q12.1)]) rfl rfl ?_)
      refine sx_iinc (v := (1 : Int32)) dc_Ma_byDegrees_43 rfl (by decide) (by decide) (sx_eq (lc2 := [some (xR a0), some (xI (a1 + (q12.1 * (((hI q12.2 (hR q12.2 a0 1) 1) - (1 : Int32)) - q12.1)))), some (xI (a2 + (1 : Int32))), some (xI q12.1)]) rfl rfl ?_)
      refine sx_goto (tgt := 4) dc_Ma_byDegrees_46 (by decide) ?_
      exact sx_less (by simp [x_le]) (ih (a1 + (q12.1 * (((hI q12.2 (hR q12.2 a0 1) 1) - (1 : Int32)) - q12.1))) (a2 + (1 : Int32)) q12.2 _ hk hE)
theorem t_Ma_byDegrees {l : Launch} {z : xZ} {d mc ms : Nat} {Ph : Option xV → xH → Prop} {a0 : Nat}  {h : xH} (hd : 4 ≤ d) (hk : OK (f_Ma_byDegrees a0 h) (fun q => Ph (some (xI q.1)) q.2)) : Sx l z d mc ms M_Ma_byDegrees 0 (x_en [xR a0] 4) [] h Ph := by
  unfold f_Ma_byDegrees at hk
  refine sx_eq (lc2 := [some (xR a0), none, none, none]) rfl rfl ?_
  refine sx_iconst (v := (0 : Int32)) dc_Ma_byDegrees_0 (by decide) ?_
  refine sx_istore_n dc_Ma_byDegrees_1 (by decide) (sx_eq (lc2 := [some (xR a0), some (xI (0 : Int32)), none, none]) rfl rfl ?_)
  refine sx_iconst (v := (0 : Int32)) dc_Ma_byDegrees_2 (by decide) ?_
  refine sx_istore_n dc_Ma_byDegrees_3 (by decide) (sx_eq (lc2 := [some (xR a0), some (xI (0 : Int32)), some (xI (0 : Int32)), none]) rfl rfl ?_)
  refine t_Ma_byDegrees_L4 (by omega) _ _ _ _ _ hk (fun v15 v16 h17 hk => ?_)
  refine sx_aload_n dc_Ma_byDegrees_49 rfl ?_
  obtain ⟨g18, hk⟩ := hk.g
  refine sx_get (ci := 10) (k := 1) rfl (by decide) wF_Ma_21 g18 dc_Ma_byDegrees_50 ?_
  obtain ⟨g19, hk⟩ := hk.g
  refine sx_get (ci := 6) (k := 1) rfl (by decide) wF_Ma_100 g19 dc_Ma_byDegrees_53 ?_
  obtain ⟨q20, eq20, hk⟩ := hk.bind
  refine sx_callS (d2 := d - 1) (mc2 := 0) (ms2 := 0) (as := [xI (hI h17 (hR h17 a0 1) 1)]) mk_Se_threesAmong rfl wM_Ma_231 mt_Se_threesAmong rfl (Nat.le_of_ble_eq_true rfl) (Nat.le_of_ble_eq_true rfl) dc_Ma_byDegrees_56 (by omega) (Nat.zero_le _) (Nat.zero_le _) ?_
  refine t_Se_threesAmong (by omega) ⟨q20, eq20, ?_⟩
  refine sx_eq0 (lc2 := [some (xR a0), some (xI v15), some (xI v16), none]) (st2 := [xI q20.1]) rfl rfl ?_
  refine sx_iload_n dc_Ma_byDegrees_59 rfl ?_
  refine sx_iconst (v := (2 : Int32)) dc_Ma_byDegrees_60 (by decide) ?_
  refine sx_idiv dc_Ma_byDegrees_61 (by decide) ?_
  refine sx_isub dc_Ma_byDegrees_62 ?_
  exact sx_retI dc_Ma_byDegrees_63 rfl hk.val
theorem dc_Ma_threes_0 : decode M_Ma_threes.2.1 0 = .ok (.iload_n 1, 1) := by decide +kernel
theorem dc_Ma_threes_1 : decode M_Ma_threes.2.1 1 = .ok (.tableswitch 82 0 4 #[35, 51, 67, 72, 77], 35) := by decide +kernel
theorem dc_Ma_threes_36 : decode M_Ma_threes.2.1 36 = .ok (.aload_n 0, 1) := by decide +kernel
theorem dc_Ma_threes_37 : decode M_Ma_threes.2.1 37 = .ok (.getfield 37, 3) := by decide +kernel
theorem dc_Ma_threes_40 : decode M_Ma_threes.2.1 40 = .ok (.aload_n 0, 1) := by decide +kernel
theorem dc_Ma_threes_41 : decode M_Ma_threes.2.1 41 = .ok (.getfield 21, 3) := by decide +kernel
theorem dc_Ma_threes_44 : decode M_Ma_threes.2.1 44 = .ok (.getfield 201, 3) := by decide +kernel
theorem dc_Ma_threes_47 : decode M_Ma_threes.2.1 47 = .ok (.iconst 0, 1) := by decide +kernel
theorem dc_Ma_threes_48 : decode M_Ma_threes.2.1 48 = .ok (.invokevirtual 204, 3) := by decide +kernel
theorem dc_Ma_threes_51 : decode M_Ma_threes.2.1 51 = .ok (.ireturn, 1) := by decide +kernel
theorem dc_Ma_threes_52 : decode M_Ma_threes.2.1 52 = .ok (.aload_n 0, 1) := by decide +kernel
theorem dc_Ma_threes_53 : decode M_Ma_threes.2.1 53 = .ok (.getfield 37, 3) := by decide +kernel
theorem dc_Ma_threes_56 : decode M_Ma_threes.2.1 56 = .ok (.iconst 0, 1) := by decide +kernel
theorem dc_Ma_threes_57 : decode M_Ma_threes.2.1 57 = .ok (.aload_n 0, 1) := by decide +kernel
theorem dc_Ma_threes_58 : decode M_Ma_threes.2.1 58 = .ok (.getfield 21, 3) := by decide +kernel
theorem dc_Ma_threes_61 : decode M_Ma_threes.2.1 61 = .ok (.getfield 207, 3) := by decide +kernel
theorem dc_Ma_threes_64 : decode M_Ma_threes.2.1 64 = .ok (.invokevirtual 204, 3) := by decide +kernel
theorem dc_Ma_threes_67 : decode M_Ma_threes.2.1 67 = .ok (.ireturn, 1) := by decide +kernel
theorem dc_Ma_threes_68 : decode M_Ma_threes.2.1 68 = .ok (.aload_n 0, 1) := by decide +kernel
theorem dc_Ma_threes_69 : decode M_Ma_threes.2.1 69 = .ok (.invokevirtual 210, 3) := by decide +kernel
theorem dc_Ma_threes_72 : decode M_Ma_threes.2.1 72 = .ok (.ireturn, 1) := by decide +kernel
theorem dc_Ma_threes_73 : decode M_Ma_threes.2.1 73 = .ok (.aload_n 0, 1) := by decide +kernel
theorem dc_Ma_threes_74 : decode M_Ma_threes.2.1 74 = .ok (.invokevirtual 213, 3) := by decide +kernel
theorem dc_Ma_threes_77 : decode M_Ma_threes.2.1 77 = .ok (.ireturn, 1) := by decide +kernel
theorem dc_Ma_threes_78 : decode M_Ma_threes.2.1 78 = .ok (.aload_n 0, 1) := by decide +kernel
theorem dc_Ma_threes_79 : decode M_Ma_threes.2.1 79 = .ok (.invokevirtual 216, 3) := by decide +kernel
theorem dc_Ma_threes_82 : decode M_Ma_threes.2.1 82 = .ok (.ireturn, 1) := by decide +kernel
theorem dc_Ma_threes_83 : decode M_Ma_threes.2.1 83 = .ok (.bipush (-2), 2) := by decide +kernel
theorem dc_Ma_threes_85 : decode M_Ma_threes.2.1 85 = .ok (.ireturn, 1) := by decide +kernel
def f_Ma_threes (a0 : Nat) (a1 : Int32) (h : xH) : Option (Int32 × xH) := if a1 = (0 : Int32) then gd (hK h a0 = 10) (gd (hK h (hR h a0 1) = 6) (gd (hK h (hR h a0 3) = 5) (Option.bind (f_St_howMany (hR h a0 3) (hI h (hR h a0 1) 2) (0 : Int32) h) (fun q17 => some (q17.1, q17.2))))) else if a1 = (1 : Int32) then gd (hK h a0 = 10) (gd (hK h (hR h a0 1) = 6) (gd (hK h (hR h a0 3) = 5) (Option.bind (f_St_howMany (hR h a0 3) (0 : Int32) (hI h (hR h a0 1) 3) h) (fun q22 => some (q22.1, q22.2))))) else if a1 = (2 : Int32) then gd (hK h a0 = 10) (Option.bind (f_Ma_threesNow a0 h) (fun q25 => some (q25.1, q25.2))) else if a1 = (3 : Int32) then gd (hK h a0 = 10) (Option.bind (f_Ma_firstThree a0 h) (fun q28 => some (q28.1, q28.2))) else if a1 = (4 : Int32) then gd (hK h a0 = 10) (Option.bind (f_Ma_byDegrees a0 h) (fun q31 => some (q31.1, q31.2))) else some ((-2 : Int32), h)
theorem t_Ma_threes {l : Launch} {z : xZ} {d mc ms : Nat} {Ph : Option xV → xH → Prop} {a0 : Nat} {a1 : Int32}  {h : xH} (hd : 5 ≤ d) (hk : OK (f_Ma_threes a0 a1 h) (fun q => Ph (some (xI q.1)) q.2)) : Sx l z d mc ms M_Ma_threes 0 (x_en [xR a0, xI a1] 2) [] h Ph := by
  unfold f_Ma_threes at hk
  refine sx_eq (lc2 := [some (xR a0), some (xI a1)]) rfl rfl ?_
  refine sx_iload_n dc_Ma_threes_0 rfl ?_
  by_cases c19 : a1 = (0 : Int32)
  · replace hk := hk.t c19
    refine sx_tabIn (off := 35) (tgt := 36) dc_Ma_threes_1 (by rw [c19]; decide) (by rw [c19]; decide) (by rw [c19]; rfl) (by decide) ?_
    refine sx_aload_n dc_Ma_threes_36 rfl ?_
    obtain ⟨g15, hk⟩ := hk.g
    refine sx_get (ci := 10) (k := 3) rfl (by decide) wF_Ma_37 g15 dc_Ma_threes_37 ?_
    refine sx_aload_n dc_Ma_threes_40 rfl ?_
    refine sx_get (ci := 10) (k := 1) rfl (by decide) wF_Ma_21 g15 dc_Ma_threes_41 ?_
    obtain ⟨g16, hk⟩ := hk.g
    refine sx_get (ci := 6) (k := 2) rfl (by decide) wF_Ma_201 g16 dc_Ma_threes_44 ?_
    refine sx_iconst (v := (0 : Int32)) dc_Ma_threes_47 (by decide) ?_
    obtain ⟨g18, hk⟩ := hk.g
    obtain ⟨q17, eq17, hk⟩ := hk.bind
    refine sx_callV (d2 := d - 1) (mc2 := 0) (ms2 := 0) (as := [xI (hI h (hR h a0 1) 2), xI (0 : Int32)]) mk_St_howMany rfl (x_rk (ci := 5) g18 rfl rfl) wM_Ma_204 mi_St_howMany me_St_howMany rfl (Nat.le_of_ble_eq_true rfl) (Nat.le_of_ble_eq_true rfl) dc_Ma_threes_48 (by omega) (Nat.zero_le _) (Nat.zero_le _) ?_
    refine t_St_howMany (by omega) ⟨q17, eq17, ?_⟩
    refine sx_eq0 (lc2 := [some (xR a0), some (xI a1)]) (st2 := [xI q17.1]) rfl rfl ?_
    exact sx_retI dc_Ma_threes_51 rfl hk.val
  · replace hk := hk.f c19
    by_cases c24 : a1 = (1 : Int32)
    · replace hk := hk.t c24
      refine sx_tabIn (off := 51) (tgt := 52) dc_Ma_threes_1 (by rw [c24]; decide) (by rw [c24]; decide) (by rw [c24]; rfl) (by decide) ?_
      refine sx_aload_n dc_Ma_threes_52 rfl ?_
      obtain ⟨g20, hk⟩ := hk.g
      refine sx_get (ci := 10) (k := 3) rfl (by decide) wF_Ma_37 g20 dc_Ma_threes_53 ?_
      refine sx_iconst (v := (0 : Int32)) dc_Ma_threes_56 (by decide) ?_
      refine sx_aload_n dc_Ma_threes_57 rfl ?_
      refine sx_get (ci := 10) (k := 1) rfl (by decide) wF_Ma_21 g20 dc_Ma_threes_58 ?_
      obtain ⟨g21, hk⟩ := hk.g
      refine sx_get (ci := 6) (k := 3) rfl (by decide) wF_Ma_207 g21 dc_Ma_threes_61 ?_
      obtain ⟨g23, hk⟩ := hk.g
      obtain ⟨q22, eq22, hk⟩ := hk.bind
      refine sx_callV (d2 := d - 1) (mc2 := 0) (ms2 := 0) (as := [xI (0 : Int32), xI (hI h (hR h a0 1) 3)]) mk_St_howMany rfl (x_rk (ci := 5) g23 rfl rfl) wM_Ma_204 mi_St_howMany me_St_howMany rfl (Nat.le_of_ble_eq_true rfl) (Nat.le_of_ble_eq_true rfl) dc_Ma_threes_64 (by omega) (Nat.zero_le _) (Nat.zero_le _) ?_
      refine t_St_howMany (by omega) ⟨q22, eq22, ?_⟩
      refine sx_eq0 (lc2 := [some (xR a0), some (xI a1)]) (st2 := [xI q22.1]) rfl rfl ?_
      exact sx_retI dc_Ma_threes_67 rfl hk.val
    · replace hk := hk.f c24
      by_cases c27 : a1 = (2 : Int32)
      · replace hk := hk.t c27
        refine sx_tabIn (off := 67) (tgt := 68) dc_Ma_threes_1 (by rw [c27]; decide) (by rw [c27]; decide) (by rw [c27]; rfl) (by decide) ?_
        refine sx_aload_n dc_Ma_threes_68 rfl ?_
        obtain ⟨g26, hk⟩ := hk.g
        obtain ⟨q25, eq25, hk⟩ := hk.bind
        refine sx_callV (d2 := d - 1) (mc2 := 0) (ms2 := 0) (as := []) mk_Ma_threesNow rfl (x_rk (ci := 10) g26 rfl rfl) wM_Ma_210 mi_Ma_threesNow me_Ma_threesNow rfl (Nat.le_of_ble_eq_true rfl) (Nat.le_of_ble_eq_true rfl) dc_Ma_threes_69 (by omega) (Nat.zero_le _) (Nat.zero_le _) ?_
        refine t_Ma_threesNow (by omega) ⟨q25, eq25, ?_⟩
        refine sx_eq0 (lc2 := [some (xR a0), some (xI a1)]) (st2 := [xI q25.1]) rfl rfl ?_
        exact sx_retI dc_Ma_threes_72 rfl hk.val
      · replace hk := hk.f c27
        by_cases c30 : a1 = (3 : Int32)
        · replace hk := hk.t c30
          refine sx_tabIn (off := 72) (tgt := 73) dc_Ma_threes_1 (by rw [c30]; decide) (by rw [c30]; decide) (by rw [c30]; rfl) (by decide) ?_
          refine sx_aload_n dc_Ma_threes_73 rfl ?_
          obtain ⟨g29, hk⟩ := hk.g
          obtain ⟨q28, eq28, hk⟩ := hk.bind
          refine sx_callV (d2 := d - 1) (mc2 := 0) (ms2 := 0) (as := []) mk_Ma_firstThree rfl (x_rk (ci := 10) g29 rfl rfl) wM_Ma_213 mi_Ma_firstThree me_Ma_firstThree rfl (Nat.le_of_ble_eq_true rfl) (Nat.le_of_ble_eq_true rfl) dc_Ma_threes_74 (by omega) (Nat.zero_le _) (Nat.zero_le _) ?_
          refine t_Ma_firstThree (by omega) ⟨q28, eq28, ?_⟩
          refine sx_eq0 (lc2 := [some (xR a0), some (xI a1)]) (st2 := [xI q28.1]) rfl rfl ?_
          exact sx_retI dc_Ma_threes_77 rfl hk.val
        · replace hk := hk.f c30
          by_cases c33 : a1 = (4 : Int32)
          · replace hk := hk.t c33
            refine sx_tabIn (off := 77) (tgt := 78) dc_Ma_threes_1 (by rw [c33]; decide) (by rw [c33]; decide) (by rw [c33]; rfl) (by decide) ?_
            refine sx_aload_n dc_Ma_threes_78 rfl ?_
            obtain ⟨g32, hk⟩ := hk.g
            obtain ⟨q31, eq31, hk⟩ := hk.bind
            refine sx_callV (d2 := d - 1) (mc2 := 0) (ms2 := 0) (as := []) mk_Ma_byDegrees rfl (x_rk (ci := 10) g32 rfl rfl) wM_Ma_216 mi_Ma_byDegrees me_Ma_byDegrees rfl (Nat.le_of_ble_eq_true rfl) (Nat.le_of_ble_eq_true rfl) dc_Ma_threes_79 (by omega) (Nat.zero_le _) (Nat.zero_le _) ?_
            refine t_Ma_byDegrees (by omega) ⟨q31, eq31, ?_⟩
            refine sx_eq0 (lc2 := [some (xR a0), some (xI a1)]) (st2 := [xI q31.1]) rfl rfl ?_
            exact sx_retI dc_Ma_threes_82 rfl hk.val
          · replace hk := hk.f c33
            refine sx_tabOut (tgt := 83) dc_Ma_threes_1 (sw_out (fun k h1 h2 => ?_)) (by decide) ?_
            · have h3 : k = 0 ∨ k = 1 ∨ k = 2 ∨ k = 3 ∨ k = 4 := by omega
              rcases h3 with rfl | rfl | rfl | rfl | rfl
              · exact c19
              · exact c24
              · exact c27
              · exact c30
              · exact c33
            · refine sx_bipush (v := (-2 : Int32)) dc_Ma_threes_83 (by decide) ?_
              exact sx_retI dc_Ma_threes_85 rfl hk.val
theorem dc_Ma_threesOf_0 : decode M_Ma_threesOf.2.1 0 = .ok (.aload_n 0, 1) := by decide +kernel
theorem dc_Ma_threesOf_1 : decode M_Ma_threesOf.2.1 1 = .ok (.getfield 10, 3) := by decide +kernel
theorem dc_Ma_threesOf_4 : decode M_Ma_threesOf.2.1 4 = .ok (.aload_n 0, 1) := by decide +kernel
theorem dc_Ma_threesOf_5 : decode M_Ma_threesOf.2.1 5 = .ok (.getfield 21, 3) := by decide +kernel
theorem dc_Ma_threesOf_8 : decode M_Ma_threesOf.2.1 8 = .ok (.invokevirtual 234, 3) := by decide +kernel
theorem dc_Ma_threesOf_11 : decode M_Ma_threesOf.2.1 11 = .ok (.iconst 1, 1) := by decide +kernel
theorem dc_Ma_threesOf_12 : decode M_Ma_threesOf.2.1 12 = .ok (.iload_n 1, 1) := by decide +kernel
theorem dc_Ma_threesOf_13 : decode M_Ma_threesOf.2.1 13 = .ok (.ishl, 1) := by decide +kernel
theorem dc_Ma_threesOf_14 : decode M_Ma_threesOf.2.1 14 = .ok (.iconst (-1), 1) := by decide +kernel
theorem dc_Ma_threesOf_15 : decode M_Ma_threesOf.2.1 15 = .ok (.ixor, 1) := by decide +kernel
theorem dc_Ma_threesOf_16 : decode M_Ma_threesOf.2.1 16 = .ok (.iand, 1) := by decide +kernel
theorem dc_Ma_threesOf_17 : decode M_Ma_threesOf.2.1 17 = .ok (.invokevirtual 237, 3) := by decide +kernel
theorem dc_Ma_threesOf_20 : decode M_Ma_threesOf.2.1 20 = .ok (.istore_n 2, 1) := by decide +kernel
theorem dc_Ma_threesOf_21 : decode M_Ma_threesOf.2.1 21 = .ok (.aload_n 0, 1) := by decide +kernel
theorem dc_Ma_threesOf_22 : decode M_Ma_threesOf.2.1 22 = .ok (.invokevirtual 210, 3) := by decide +kernel
theorem dc_Ma_threesOf_25 : decode M_Ma_threesOf.2.1 25 = .ok (.aload_n 0, 1) := by decide +kernel
theorem dc_Ma_threesOf_26 : decode M_Ma_threesOf.2.1 26 = .ok (.getfield 37, 3) := by decide +kernel
theorem dc_Ma_threesOf_29 : decode M_Ma_threesOf.2.1 29 = .ok (.aload_n 0, 1) := by decide +kernel
theorem dc_Ma_threesOf_30 : decode M_Ma_threesOf.2.1 30 = .ok (.getfield 21, 3) := by decide +kernel
theorem dc_Ma_threesOf_33 : decode M_Ma_threesOf.2.1 33 = .ok (.getfield 201, 3) := by decide +kernel
theorem dc_Ma_threesOf_36 : decode M_Ma_threesOf.2.1 36 = .ok (.iload_n 2, 1) := by decide +kernel
theorem dc_Ma_threesOf_37 : decode M_Ma_threesOf.2.1 37 = .ok (.iand, 1) := by decide +kernel
theorem dc_Ma_threesOf_38 : decode M_Ma_threesOf.2.1 38 = .ok (.aload_n 0, 1) := by decide +kernel
theorem dc_Ma_threesOf_39 : decode M_Ma_threesOf.2.1 39 = .ok (.getfield 21, 3) := by decide +kernel
theorem dc_Ma_threesOf_42 : decode M_Ma_threesOf.2.1 42 = .ok (.getfield 207, 3) := by decide +kernel
theorem dc_Ma_threesOf_45 : decode M_Ma_threesOf.2.1 45 = .ok (.iload_n 2, 1) := by decide +kernel
theorem dc_Ma_threesOf_46 : decode M_Ma_threesOf.2.1 46 = .ok (.iand, 1) := by decide +kernel
theorem dc_Ma_threesOf_47 : decode M_Ma_threesOf.2.1 47 = .ok (.invokevirtual 204, 3) := by decide +kernel
theorem dc_Ma_threesOf_50 : decode M_Ma_threesOf.2.1 50 = .ok (.isub, 1) := by decide +kernel
theorem dc_Ma_threesOf_51 : decode M_Ma_threesOf.2.1 51 = .ok (.ireturn, 1) := by decide +kernel
def f_Ma_threesOf (a0 : Nat) (a1 : Int32) (h : xH) : Option (Int32 × xH) := gd (hK h a0 = 10) (gd (hK h (hR h a0 1) = 6) (Option.bind (f_Ta_everyone (hR h a0 1) h) (fun q13 => gd (hK q13.2 (hR h a0 0) = 3) (Option.bind (f_Se_within (hR h a0 0) (q13.1 &&& ((jShl (1 : Int32) a1) ^^^ (-1 : Int32))) q13.2) (fun q15 => gd (hK q15.2 a0 = 10) (Option.bind (f_Ma_threesNow a0 q15.2) (fun q17 => gd (hK q17.2 a0 = 10) (gd (hK q17.2 (hR q17.2 a0 1) = 6) (gd (hK q17.2 (hR q17.2 a0 3) = 5) (Option.bind (f_St_howMany (hR q17.2 a0 3) ((hI q17.2 (hR q17.2 a0 1) 2) &&& q15.1) ((hI q17.2 (hR q17.2 a0 1) 3) &&& q15.1) q17.2) (fun q21 => some (q17.1 - q21.1, q21.2))))))))))))
theorem t_Ma_threesOf {l : Launch} {z : xZ} {d mc ms : Nat} {Ph : Option xV → xH → Prop} {a0 : Nat} {a1 : Int32}  {h : xH} (hd : 5 ≤ d) (hk : OK (f_Ma_threesOf a0 a1 h) (fun q => Ph (some (xI q.1)) q.2)) : Sx l z d mc ms M_Ma_threesOf 0 (x_en [xR a0, xI a1] 3) [] h Ph := by
  unfold f_Ma_threesOf at hk
  refine sx_eq (lc2 := [some (xR a0), some (xI a1), none]) rfl rfl ?_
  refine sx_aload_n dc_Ma_threesOf_0 rfl ?_
  obtain ⟨g12, hk⟩ := hk.g
  refine sx_get (ci := 10) (k := 0) rfl (by decide) wF_Ma_10 g12 dc_Ma_threesOf_1 ?_
  refine sx_aload_n dc_Ma_threesOf_4 rfl ?_
  refine sx_get (ci := 10) (k := 1) rfl (by decide) wF_Ma_21 g12 dc_Ma_threesOf_5 ?_
  obtain ⟨g14, hk⟩ := hk.g
  obtain ⟨q13, eq13, hk⟩ := hk.bind
  refine sx_callV (d2 := d - 1) (mc2 := 0) (ms2 := 0) (as := []) mk_Ta_everyone rfl (x_rk (ci := 6) g14 rfl rfl) wM_Ma_234 mi_Ta_everyone me_Ta_everyone rfl (Nat.le_of_ble_eq_true rfl) (Nat.le_of_ble_eq_true rfl) dc_Ma_threesOf_8 (by omega) (Nat.zero_le _) (Nat.zero_le _) ?_
  refine t_Ta_everyone (by omega) ⟨q13, eq13, ?_⟩
  refine sx_eq0 (lc2 := [some (xR a0), some (xI a1), none]) (st2 := [xI q13.1, xR (hR h a0 0)]) rfl rfl ?_
  refine sx_iconst (v := (1 : Int32)) dc_Ma_threesOf_11 (by decide) ?_
  refine sx_iload_n dc_Ma_threesOf_12 rfl ?_
  refine sx_ishl dc_Ma_threesOf_13 ?_
  refine sx_iconst (v := (-1 : Int32)) dc_Ma_threesOf_14 (by decide) ?_
  refine sx_ixor dc_Ma_threesOf_15 ?_
  refine sx_iand dc_Ma_threesOf_16 ?_
  obtain ⟨g16, hk⟩ := hk.g
  obtain ⟨q15, eq15, hk⟩ := hk.bind
  refine sx_callV (d2 := d - 1) (mc2 := 0) (ms2 := 0) (as := [xI (q13.1 &&& ((jShl (1 : Int32) a1) ^^^ (-1 : Int32)))]) mk_Se_within rfl (x_rk (ci := 3) g16 rfl rfl) wM_Ma_237 mi_Se_within me_Se_within rfl (Nat.le_of_ble_eq_true rfl) (Nat.le_of_ble_eq_true rfl) dc_Ma_threesOf_17 (by omega) (Nat.zero_le _) (Nat.zero_le _) ?_
  refine t_Se_within (by omega) ⟨q15, eq15, ?_⟩
  refine sx_eq0 (lc2 := [some (xR a0), some (xI a1), none]) (st2 := [xI q15.1]) rfl rfl ?_
  refine sx_istore_n dc_Ma_threesOf_20 (by decide) (sx_eq (lc2 := [some (xR a0), some (xI a1), some (xI q15.1)]) rfl rfl ?_)
  refine sx_aload_n dc_Ma_threesOf_21 rfl ?_
  obtain ⟨g18, hk⟩ := hk.g
  obtain ⟨q17, eq17, hk⟩ := hk.bind
  refine sx_callV (d2 := d - 1) (mc2 := 0) (ms2 := 0) (as := []) mk_Ma_threesNow rfl (x_rk (ci := 10) g18 rfl rfl) wM_Ma_210 mi_Ma_threesNow me_Ma_threesNow rfl (Nat.le_of_ble_eq_true rfl) (Nat.le_of_ble_eq_true rfl) dc_Ma_threesOf_22 (by omega) (Nat.zero_le _) (Nat.zero_le _) ?_
  refine t_Ma_threesNow (by omega) ⟨q17, eq17, ?_⟩
  refine sx_eq0 (lc2 := [some (xR a0), some (xI a1), some (xI q15.1)]) (st2 := [xI q17.1]) rfl rfl ?_
  refine sx_aload_n dc_Ma_threesOf_25 rfl ?_
  obtain ⟨g19, hk⟩ := hk.g
  refine sx_get (ci := 10) (k := 3) rfl (by decide) wF_Ma_37 g19 dc_Ma_threesOf_26 ?_
  refine sx_aload_n dc_Ma_threesOf_29 rfl ?_
  refine sx_get (ci := 10) (k := 1) rfl (by decide) wF_Ma_21 g19 dc_Ma_threesOf_30 ?_
  obtain ⟨g20, hk⟩ := hk.g
  refine sx_get (ci := 6) (k := 2) rfl (by decide) wF_Ma_201 g20 dc_Ma_threesOf_33 ?_
  refine sx_iload_n dc_Ma_threesOf_36 rfl ?_
  refine sx_iand dc_Ma_threesOf_37 ?_
  refine sx_aload_n dc_Ma_threesOf_38 rfl ?_
  refine sx_get (ci := 10) (k := 1) rfl (by decide) wF_Ma_21 g19 dc_Ma_threesOf_39 ?_
  refine sx_get (ci := 6) (k := 3) rfl (by decide) wF_Ma_207 g20 dc_Ma_threesOf_42 ?_
  refine sx_iload_n dc_Ma_threesOf_45 rfl ?_
  refine sx_iand dc_Ma_threesOf_46 ?_
  obtain ⟨g22, hk⟩ := hk.g
  obtain ⟨q21, eq21, hk⟩ := hk.bind
  refine sx_callV (d2 := d - 1) (mc2 := 0) (ms2 := 0) (as := [xI ((hI q17.2 (hR q17.2 a0 1) 2) &&& q15.1), xI ((hI q17.2 (hR q17.2 a0 1) 3) &&& q15.1)]) mk_St_howMany rfl (x_rk (ci := 5) g22 rfl rfl) wM_Ma_204 mi_St_howMany me_St_howMany rfl (Nat.le_of_ble_eq_true rfl) (Nat.le_of_ble_eq_true rfl) dc_Ma_threesOf_47 (by omega) (Nat.zero_le _) (Nat.zero_le _) ?_
  refine t_St_howMany (by omega) ⟨q21, eq21, ?_⟩
  refine sx_eq0 (lc2 := [some (xR a0), some (xI a1), some (xI q15.1)]) (st2 := [xI q21.1, xI q17.1]) rfl rfl ?_
  refine sx_isub dc_Ma_threesOf_50 ?_
  exact sx_retI dc_Ma_threesOf_51 rfl hk.val
theorem dc_Ma_guest_0 : decode M_Ma_guest.2.1 0 = .ok (.aload_n 0, 1) := by decide +kernel
theorem dc_Ma_guest_1 : decode M_Ma_guest.2.1 1 = .ok (.iload_n 1, 1) := by decide +kernel
theorem dc_Ma_guest_2 : decode M_Ma_guest.2.1 2 = .ok (.invokevirtual 144, 3) := by decide +kernel
theorem dc_Ma_guest_5 : decode M_Ma_guest.2.1 5 = .ok (.ifCond .eq 11, 3) := by decide +kernel
theorem dc_Ma_guest_8 : decode M_Ma_guest.2.1 8 = .ok (.iload_n 2, 1) := by decide +kernel
theorem dc_Ma_guest_9 : decode M_Ma_guest.2.1 9 = .ok (.iconst 2, 1) := by decide +kernel
theorem dc_Ma_guest_10 : decode M_Ma_guest.2.1 10 = .ok (.invokestatic 148, 3) := by decide +kernel
theorem dc_Ma_guest_13 : decode M_Ma_guest.2.1 13 = .ok (.ifCond .ne 6, 3) := by decide +kernel
theorem dc_Ma_guest_16 : decode M_Ma_guest.2.1 16 = .ok (.bipush (-2), 2) := by decide +kernel
theorem dc_Ma_guest_18 : decode M_Ma_guest.2.1 18 = .ok (.ireturn, 1) := by decide +kernel
theorem dc_Ma_guest_19 : decode M_Ma_guest.2.1 19 = .ok (.iload_n 2, 1) := by decide +kernel
theorem dc_Ma_guest_20 : decode M_Ma_guest.2.1 20 = .ok (.ifCond .ne 15, 3) := by decide +kernel
theorem dc_Ma_guest_23 : decode M_Ma_guest.2.1 23 = .ok (.aload_n 0, 1) := by decide +kernel
theorem dc_Ma_guest_24 : decode M_Ma_guest.2.1 24 = .ok (.getfield 21, 3) := by decide +kernel
theorem dc_Ma_guest_27 : decode M_Ma_guest.2.1 27 = .ok (.iload_n 1, 1) := by decide +kernel
theorem dc_Ma_guest_28 : decode M_Ma_guest.2.1 28 = .ok (.invokevirtual 219, 3) := by decide +kernel
theorem dc_Ma_guest_31 : decode M_Ma_guest.2.1 31 = .ok (.invokestatic 139, 3) := by decide +kernel
theorem dc_Ma_guest_34 : decode M_Ma_guest.2.1 34 = .ok (.ireturn, 1) := by decide +kernel
theorem dc_Ma_guest_35 : decode M_Ma_guest.2.1 35 = .ok (.iload_n 2, 1) := by decide +kernel
theorem dc_Ma_guest_36 : decode M_Ma_guest.2.1 36 = .ok (.iconst 1, 1) := by decide +kernel
theorem dc_Ma_guest_37 : decode M_Ma_guest.2.1 37 = .ok (.if_icmp .ne 11, 3) := by decide +kernel
theorem dc_Ma_guest_40 : decode M_Ma_guest.2.1 40 = .ok (.aload_n 0, 1) := by decide +kernel
theorem dc_Ma_guest_41 : decode M_Ma_guest.2.1 41 = .ok (.iload_n 1, 1) := by decide +kernel
theorem dc_Ma_guest_42 : decode M_Ma_guest.2.1 42 = .ok (.invokevirtual 222, 3) := by decide +kernel
theorem dc_Ma_guest_45 : decode M_Ma_guest.2.1 45 = .ok (.goto 11, 3) := by decide +kernel
theorem dc_Ma_guest_48 : decode M_Ma_guest.2.1 48 = .ok (.aload_n 0, 1) := by decide +kernel
theorem dc_Ma_guest_49 : decode M_Ma_guest.2.1 49 = .ok (.getfield 30, 3) := by decide +kernel
theorem dc_Ma_guest_52 : decode M_Ma_guest.2.1 52 = .ok (.iload_n 1, 1) := by decide +kernel
theorem dc_Ma_guest_53 : decode M_Ma_guest.2.1 53 = .ok (.invokevirtual 225, 3) := by decide +kernel
theorem dc_Ma_guest_56 : decode M_Ma_guest.2.1 56 = .ok (.ireturn, 1) := by decide +kernel
def f_Ma_guest (a0 : Nat) (a1 : Int32) (a2 : Int32) (h : xH) : Option (Int32 × xH) := gd (hK h a0 = 10) (Option.bind (f_Ma_isGuest a0 a1 h) (fun q13 => jn (fun (x15 : xH) => some ((-2 : Int32), x15)) (fun k16 => if q13.1 = 0 then k16 q13.2 else Option.bind (f_Ma_isWithin a2 (2 : Int32) q13.2) (fun q18 => if q18.1 = 0 then k16 q18.2 else if a2 = 0 then gd (hK q18.2 a0 = 10) (gd (hK q18.2 (hR q18.2 a0 1) = 6) (Option.bind (f_Ta_knownBy (hR q18.2 a0 1) a1 q18.2) (fun q30 => Option.bind (f_In_bitCount q30.1 q30.2) (fun q32 => some (q32.1, q32.2))))) else jn (fun (x21 : Int32 × xH) => some (x21.1, x21.2)) (fun k22 => if a2 = (1 : Int32) then gd (hK q18.2 a0 = 10) (Option.bind (f_Ma_threesOf a0 a1 q18.2) (fun q27 => k22 (q27.1, q27.2))) else gd (hK q18.2 a0 = 10) (gd (hK q18.2 (hR q18.2 a0 2) = 2) (Option.bind (f_Ru_joy (hR q18.2 a0 2) a1 q18.2) (fun q25 => k22 (q25.1, q25.2)))))))))
theorem t_Ma_guest {l : Launch} {z : xZ} {d mc ms : Nat} {Ph : Option xV → xH → Prop} {a0 : Nat} {a1 : Int32} {a2 : Int32}  {h : xH} (hd : 6 ≤ d) (hk : OK (f_Ma_guest a0 a1 a2 h) (fun q => Ph (some (xI q.1)) q.2)) : Sx l z d mc ms M_Ma_guest 0 (x_en [xR a0, xI a1, xI a2] 3) [] h Ph := by
  unfold f_Ma_guest at hk
  refine sx_eq (lc2 := [some (xR a0), some (xI a1), some (xI a2)]) rfl rfl ?_
  refine sx_aload_n dc_Ma_guest_0 rfl ?_
  refine sx_iload_n dc_Ma_guest_1 rfl ?_
  obtain ⟨g14, hk⟩ := hk.g
  obtain ⟨q13, eq13, hk⟩ := hk.bind
  refine sx_callV (d2 := d - 1) (mc2 := 0) (ms2 := 0) (as := [xI a1]) mk_Ma_isGuest rfl (x_rk (ci := 10) g14 rfl rfl) wM_Ma_144 mi_Ma_isGuest me_Ma_isGuest rfl (Nat.le_of_ble_eq_true rfl) (Nat.le_of_ble_eq_true rfl) dc_Ma_guest_2 (by omega) (Nat.zero_le _) (Nat.zero_le _) ?_
  refine t_Ma_isGuest (by omega) ⟨q13, eq13, ?_⟩
  refine sx_eq0 (lc2 := [some (xR a0), some (xI a1), some (xI a2)]) (st2 := [xI q13.1]) rfl rfl ?_
  refine hk.j (X := fun x15 => Sx l z d mc ms M_Ma_guest 16 [some (xR a0), some (xI a1), some (xI a2)] [] x15 Ph) (fun x15 hk => ?_) (fun k16 jk16 hk => ?_)
  · refine sx_bipush (v := (-2 : Int32)) dc_Ma_guest_16 (by decide) ?_
    exact sx_retI dc_Ma_guest_18 rfl hk.val
  · refine sx_if_eq (tgt := 16) dc_Ma_guest_5 (by decide) (fun c17 => ?_) (fun c17 => ?_)
    · replace hk := hk.t c17
      exact jk16 q13.2 hk
    · replace hk := hk.f c17
      refine sx_iload_n dc_Ma_guest_8 rfl ?_
      refine sx_iconst (v := (2 : Int32)) dc_Ma_guest_9 (by decide) ?_
      obtain ⟨q18, eq18, hk⟩ := hk.bind
      refine sx_callS (d2 := d - 1) (mc2 := 0) (ms2 := 0) (as := [xI a2, xI (2 : Int32)]) mk_Ma_isWithin rfl wM_Ma_148 mt_Ma_isWithin rfl (Nat.le_of_ble_eq_true rfl) (Nat.le_of_ble_eq_true rfl) dc_Ma_guest_10 (by omega) (Nat.zero_le _) (Nat.zero_le _) ?_
      refine t_Ma_isWithin (by omega) ⟨q18, eq18, ?_⟩
      refine sx_eq0 (lc2 := [some (xR a0), some (xI a1), some (xI a2)]) (st2 := [xI q18.1]) rfl rfl ?_
      refine sx_if_ne (tgt := 19) dc_Ma_guest_13 (by decide) (fun c19 => ?_) (fun c19 => ?_)
      · replace hk := hk.f c19
        refine sx_iload_n dc_Ma_guest_19 rfl ?_
        refine sx_if_ne (tgt := 35) dc_Ma_guest_20 (by decide) (fun c20 => ?_) (fun c20 => ?_)
        · replace hk := hk.f c20
          refine sx_iload_n dc_Ma_guest_35 rfl ?_
          refine sx_iconst (v := (1 : Int32)) dc_Ma_guest_36 (by decide) ?_
          refine hk.j (X := fun x21 => Sx l z d mc ms M_Ma_guest 56 [some (xR a0), some (xI a1), some (xI a2)] [xI x21.1] x21.2 Ph) (fun x21 hk => ?_) (fun k22 jk22 hk => ?_)
          · exact sx_retI dc_Ma_guest_56 rfl hk.val
          · refine sx_icmp_ne (tgt := 48) dc_Ma_guest_37 (by decide) (fun c23 => ?_) (fun c23 => ?_)
            · replace hk := hk.f c23
              refine sx_aload_n dc_Ma_guest_48 rfl ?_
              obtain ⟨g24, hk⟩ := hk.g
              refine sx_get (ci := 10) (k := 2) rfl (by decide) wF_Ma_30 g24 dc_Ma_guest_49 ?_
              refine sx_iload_n dc_Ma_guest_52 rfl ?_
              obtain ⟨g26, hk⟩ := hk.g
              obtain ⟨q25, eq25, hk⟩ := hk.bind
              refine sx_callV (d2 := d - 1) (mc2 := 0) (ms2 := 0) (as := [xI a1]) mk_Ru_joy rfl (x_rk (ci := 2) g26 rfl rfl) wM_Ma_225 mi_Ru_joy me_Ru_joy rfl (Nat.le_of_ble_eq_true rfl) (Nat.le_of_ble_eq_true rfl) dc_Ma_guest_53 (by omega) (Nat.zero_le _) (Nat.zero_le _) ?_
              refine t_Ru_joy (by omega) ⟨q25, eq25, ?_⟩
              refine sx_eq0 (lc2 := [some (xR a0), some (xI a1), some (xI a2)]) (st2 := [xI q25.1]) rfl rfl ?_
              exact jk22 (q25.1, q25.2) hk
            · replace hk := hk.t c23
              refine sx_aload_n dc_Ma_guest_40 rfl ?_
              refine sx_iload_n dc_Ma_guest_41 rfl ?_
              obtain ⟨g28, hk⟩ := hk.g
              obtain ⟨q27, eq27, hk⟩ := hk.bind
              refine sx_callV (d2 := d - 1) (mc2 := 0) (ms2 := 0) (as := [xI a1]) mk_Ma_threesOf rfl (x_rk (ci := 10) g28 rfl rfl) wM_Ma_222 mi_Ma_threesOf me_Ma_threesOf rfl (Nat.le_of_ble_eq_true rfl) (Nat.le_of_ble_eq_true rfl) dc_Ma_guest_42 (by omega) (Nat.zero_le _) (Nat.zero_le _) ?_
              refine t_Ma_threesOf (by omega) ⟨q27, eq27, ?_⟩
              refine sx_eq0 (lc2 := [some (xR a0), some (xI a1), some (xI a2)]) (st2 := [xI q27.1]) rfl rfl ?_
              refine sx_goto (tgt := 56) dc_Ma_guest_45 (by decide) ?_
              exact jk22 (q27.1, q27.2) hk
        · replace hk := hk.t c20
          refine sx_aload_n dc_Ma_guest_23 rfl ?_
          obtain ⟨g29, hk⟩ := hk.g
          refine sx_get (ci := 10) (k := 1) rfl (by decide) wF_Ma_21 g29 dc_Ma_guest_24 ?_
          refine sx_iload_n dc_Ma_guest_27 rfl ?_
          obtain ⟨g31, hk⟩ := hk.g
          obtain ⟨q30, eq30, hk⟩ := hk.bind
          refine sx_callV (d2 := d - 1) (mc2 := 0) (ms2 := 0) (as := [xI a1]) mk_Ta_knownBy rfl (x_rk (ci := 6) g31 rfl rfl) wM_Ma_219 mi_Ta_knownBy me_Ta_knownBy rfl (Nat.le_of_ble_eq_true rfl) (Nat.le_of_ble_eq_true rfl) dc_Ma_guest_28 (by omega) (Nat.zero_le _) (Nat.zero_le _) ?_
          refine t_Ta_knownBy (by omega) ⟨q30, eq30, ?_⟩
          refine sx_eq0 (lc2 := [some (xR a0), some (xI a1), some (xI a2)]) (st2 := [xI q30.1]) rfl rfl ?_
          obtain ⟨q32, eq32, hk⟩ := hk.bind
          refine sx_callS (d2 := d - 1) (mc2 := 0) (ms2 := 0) (as := [xI q30.1]) mk_In_bitCount rfl wM_Ma_139 mt_In_bitCount rfl (Nat.le_of_ble_eq_true rfl) (Nat.le_of_ble_eq_true rfl) dc_Ma_guest_31 (by omega) (Nat.zero_le _) (Nat.zero_le _) ?_
          refine t_In_bitCount (by omega) ⟨q32, eq32, ?_⟩
          refine sx_eq0 (lc2 := [some (xR a0), some (xI a1), some (xI a2)]) (st2 := [xI q32.1]) rfl rfl ?_
          exact sx_retI dc_Ma_guest_34 rfl hk.val
      · replace hk := hk.t c19
        exact jk16 q18.2 hk
theorem dc_Ma_most_0 : decode M_Ma_most.2.1 0 = .ok (.iconst (-1), 1) := by decide +kernel
theorem dc_Ma_most_1 : decode M_Ma_most.2.1 1 = .ok (.istore_n 1, 1) := by decide +kernel
theorem dc_Ma_most_2 : decode M_Ma_most.2.1 2 = .ok (.iconst 0, 1) := by decide +kernel
theorem dc_Ma_most_3 : decode M_Ma_most.2.1 3 = .ok (.istore_n 2, 1) := by decide +kernel
theorem dc_Ma_most_4 : decode M_Ma_most.2.1 4 = .ok (.iconst 0, 1) := by decide +kernel
theorem dc_Ma_most_5 : decode M_Ma_most.2.1 5 = .ok (.istore_n 3, 1) := by decide +kernel
theorem dc_Ma_most_6 : decode M_Ma_most.2.1 6 = .ok (.iload_n 3, 1) := by decide +kernel
theorem dc_Ma_most_7 : decode M_Ma_most.2.1 7 = .ok (.aload_n 0, 1) := by decide +kernel
theorem dc_Ma_most_8 : decode M_Ma_most.2.1 8 = .ok (.getfield 21, 3) := by decide +kernel
theorem dc_Ma_most_11 : decode M_Ma_most.2.1 11 = .ok (.getfield 100, 3) := by decide +kernel
theorem dc_Ma_most_14 : decode M_Ma_most.2.1 14 = .ok (.if_icmp .ge 27, 3) := by decide +kernel
theorem dc_Ma_most_17 : decode M_Ma_most.2.1 17 = .ok (.aload_n 0, 1) := by decide +kernel
theorem dc_Ma_most_18 : decode M_Ma_most.2.1 18 = .ok (.iload_n 3, 1) := by decide +kernel
theorem dc_Ma_most_19 : decode M_Ma_most.2.1 19 = .ok (.invokevirtual 222, 3) := by decide +kernel
theorem dc_Ma_most_22 : decode M_Ma_most.2.1 22 = .ok (.istore 4, 2) := by decide +kernel
theorem dc_Ma_most_24 : decode M_Ma_most.2.1 24 = .ok (.iload 4, 2) := by decide +kernel
theorem dc_Ma_most_26 : decode M_Ma_most.2.1 26 = .ok (.iload_n 2, 1) := by decide +kernel
theorem dc_Ma_most_27 : decode M_Ma_most.2.1 27 = .ok (.if_icmp .le 8, 3) := by decide +kernel
theorem dc_Ma_most_30 : decode M_Ma_most.2.1 30 = .ok (.iload 4, 2) := by decide +kernel
theorem dc_Ma_most_32 : decode M_Ma_most.2.1 32 = .ok (.istore_n 2, 1) := by decide +kernel
theorem dc_Ma_most_33 : decode M_Ma_most.2.1 33 = .ok (.iload_n 3, 1) := by decide +kernel
theorem dc_Ma_most_34 : decode M_Ma_most.2.1 34 = .ok (.istore_n 1, 1) := by decide +kernel
theorem dc_Ma_most_35 : decode M_Ma_most.2.1 35 = .ok (.iinc 3 1, 3) := by decide +kernel
theorem dc_Ma_most_38 : decode M_Ma_most.2.1 38 = .ok (.goto (-32), 3) := by decide +kernel
theorem dc_Ma_most_41 : decode M_Ma_most.2.1 41 = .ok (.iload_n 1, 1) := by decide +kernel
theorem dc_Ma_most_42 : decode M_Ma_most.2.1 42 = .ok (.ireturn, 1) := by decide +kernel
def f_Ma_most_L6 (a0 : Nat) : Nat → Int32 → Int32 → Int32 → xH → (Int32 → Int32 → Int32 → xH → Option (Int32 × xH)) → Option (Int32 × xH)
  | 0, _, _, _, _, _ => none
  | n + 1, a1, a2, a3, h, K => gd (hK h a0 = 10) (gd (hK h (hR h a0 1) = 6) (if (hI h (hR h a0 1) 1) ≤ a3 then K a1 a2 a3 h else Option.bind (f_Ma_threesOf a0 a3 h) (fun q7 => f_Ma_most_L6 a0 n (if q7.1 ≤ a2 then a1 else a3) (if q7.1 ≤ a2 then a2 else q7.1) (a3 + (1 : Int32)) q7.2 K)))
def f_Ma_most (a0 : Nat) (h : xH) : Option (Int32 × xH) := f_Ma_most_L6 a0 fu (-1 : Int32) (0 : Int32) (0 : Int32) h (fun v10 v11 v12 h13 => some (v10, h13))
theorem t_Ma_most_L6 {l : Launch} {z : xZ} {d mc ms : Nat} {Ph : Option xV → xH → Prop} {a0 : Nat}  (hd : 6 ≤ d) : ∀ (n : Nat) (a1 : Int32) (a2 : Int32) (a3 : Int32) (h : xH) (K : Int32 → Int32 → Int32 → xH → Option (Int32 × xH)), OK (f_Ma_most_L6 a0 n a1 a2 a3 h K) (fun q => Ph (some (xI q.1)) q.2) → (∀ (a1 : Int32) (a2 : Int32) (a3 : Int32) (h : xH), OK (K a1 a2 a3 h) (fun q => Ph (some (xI q.1)) q.2) → Sx l z d mc ms M_Ma_most 41 [some (xR a0), some (xI a1), some (xI a2), some (xI a3), none] [] h Ph) → Sx l z d mc ms M_Ma_most 6 [some (xR a0), some (xI a1), some (xI a2), some (xI a3), none] [] h Ph := by
  intro n
  induction n with
  | zero => intro a1 a2 a3 h K hk hE; exact hk.no
  | succ n ih =>
    intro a1 a2 a3 h K hk hE
    rw [f_Ma_most_L6] at hk
    refine sx_iload_n dc_Ma_most_6 rfl ?_
    refine sx_aload_n dc_Ma_most_7 rfl ?_
    obtain ⟨g4, hk⟩ := hk.g
    refine sx_get (ci := 10) (k := 1) rfl (by decide) wF_Ma_21 g4 dc_Ma_most_8 ?_
    obtain ⟨g5, hk⟩ := hk.g
    refine sx_get (ci := 6) (k := 1) rfl (by decide) wF_Ma_100 g5 dc_Ma_most_11 ?_
    refine sx_icmp_ge (tgt := 41) dc_Ma_most_14 (by decide) (fun c6 => ?_) (fun c6 => ?_)
    · replace hk := hk.t c6
      exact hE a1 a2 a3 h hk
    · replace hk := hk.f c6
      refine sx_aload_n dc_Ma_most_17 rfl ?_
      refine sx_iload_n dc_Ma_most_18 rfl ?_
      obtain ⟨q7, eq7, hk⟩ := hk.bind
      refine sx_callV (d2 := d - 1) (mc2 := 0) (ms2 := 0) (as := [xI a3]) mk_Ma_threesOf rfl (x_rk (ci := 10) g4 rfl rfl) wM_Ma_222 mi_Ma_threesOf me_Ma_threesOf rfl (Nat.le_of_ble_eq_true rfl) (Nat.le_of_ble_eq_true rfl) dc_Ma_most_19 (by omega) (Nat.zero_le _) (Nat.zero_le _) ?_
      refine t_Ma_threesOf (by omega) ⟨q7, eq7, ?_⟩
      refine sx_eq0 (lc2 := [some (xR a0), some (xI a1), some (xI a2), some (xI a3), none]) (st2 := [xI q7.1]) rfl rfl ?_
      refine sx_istore dc_Ma_most_22 (by decide) (sx_eq (lc2 := [some (xR a0), some (xI a1), some (xI a2), some (xI a3), some (xI q7.1)]) rfl rfl ?_)
      refine sx_iload dc_Ma_most_24 rfl ?_
      refine sx_iload_n dc_Ma_most_26 rfl ?_
      refine sx_mg (pc2 := 35) (lc2 := [some (xR a0), some (xI (if q7.1 ≤ a2 then a1 else a3)), some (xI (if q7.1 ≤ a2 then a2 else q7.1)), some (xI a3), some (xI q7.1)]) (st2 := []) (h2 := q7.2) ?_ (fun J8 => ?_)
      · refine sx_iinc (v := (1 : Int32)) dc_Ma_most_35 rfl (by decide) (by decide) (sx_eq (lc2 := [some (xR a0), some (xI (if q7.1 ≤ a2 then a1 else a3)), some (xI (if q7.1 ≤ a2 then a2 else q7.1)), some (xI (a3 + (1 : Int32))), some (xI q7.1)]) rfl rfl ?_)
        refine sx_goto (tgt := 6) dc_Ma_most_38 (by decide) ?_
        exact sx_less (by simp [x_le]) (ih (if q7.1 ≤ a2 then a1 else a3) (if q7.1 ≤ a2 then a2 else q7.1) (a3 + (1 : Int32)) q7.2 _ hk hE)
      · refine sx_icmp_le (tgt := 35) dc_Ma_most_27 (by decide) (fun c9 => ?_) (fun c9 => ?_)
        · try simp only [if_pos c9] at J8
          exact J8
        · try simp only [if_neg c9] at J8
          refine sx_iload dc_Ma_most_30 rfl ?_
          refine sx_istore_n dc_Ma_most_32 (by decide) (sx_eq (lc2 := [some (xR a0), some (xI a1), some (xI q7.1), some (xI a3), some (xI q7.1)]) rfl rfl ?_)
          refine sx_iload_n dc_Ma_most_33 rfl ?_
          refine sx_istore_n dc_Ma_most_34 (by decide) (sx_eq (lc2 := [some (xR a0), some (xI a3), some (xI q7.1), some (xI a3), some (xI q7.1)]) rfl rfl ?_)
          exact J8
theorem t_Ma_most {l : Launch} {z : xZ} {d mc ms : Nat} {Ph : Option xV → xH → Prop} {a0 : Nat}  {h : xH} (hd : 6 ≤ d) (hk : OK (f_Ma_most a0 h) (fun q => Ph (some (xI q.1)) q.2)) : Sx l z d mc ms M_Ma_most 0 (x_en [xR a0] 5) [] h Ph := by
  unfold f_Ma_most at hk
  refine sx_eq (lc2 := [some (xR a0), none, none, none, none]) rfl rfl ?_
  refine sx_iconst (v := (-1 : Int32)) dc_Ma_most_0 (by decide) ?_
  refine sx_istore_n dc_Ma_most_1 (by decide) (sx_eq (lc2 := [some (xR a0), some (xI (-1 : Int32)), none, none, none]) rfl rfl ?_)
  refine sx_iconst (v := (0 : Int32)) dc_Ma_most_2 (by decide) ?_
  refine sx_istore_n dc_Ma_most_3 (by decide) (sx_eq (lc2 := [some (xR a0), some (xI (-1 : Int32)), some (xI (0 : Int32)), none, none]) rfl rfl ?_)
  refine sx_iconst (v := (0 : Int32)) dc_Ma_most_4 (by decide) ?_
  refine sx_istore_n dc_Ma_most_5 (by decide) (sx_eq (lc2 := [some (xR a0), some (xI (-1 : Int32)), some (xI (0 : Int32)), some (xI (0 : Int32)), none]) rfl rfl ?_)
  refine t_Ma_most_L6 (by omega) _ _ _ _ _ _ hk (fun v10 v11 v12 h13 hk => ?_)
  refine sx_iload_n dc_Ma_most_41 rfl ?_
  exact sx_retI dc_Ma_most_42 rfl hk.val
theorem dc_Ma_leavesNone_0 : decode M_Ma_leavesNone.2.1 0 = .ok (.aload_n 0, 1) := by decide +kernel
theorem dc_Ma_leavesNone_1 : decode M_Ma_leavesNone.2.1 1 = .ok (.getfield 10, 3) := by decide +kernel
theorem dc_Ma_leavesNone_4 : decode M_Ma_leavesNone.2.1 4 = .ok (.aload_n 0, 1) := by decide +kernel
theorem dc_Ma_leavesNone_5 : decode M_Ma_leavesNone.2.1 5 = .ok (.getfield 21, 3) := by decide +kernel
theorem dc_Ma_leavesNone_8 : decode M_Ma_leavesNone.2.1 8 = .ok (.invokevirtual 234, 3) := by decide +kernel
theorem dc_Ma_leavesNone_11 : decode M_Ma_leavesNone.2.1 11 = .ok (.iload_n 1, 1) := by decide +kernel
theorem dc_Ma_leavesNone_12 : decode M_Ma_leavesNone.2.1 12 = .ok (.iconst (-1), 1) := by decide +kernel
theorem dc_Ma_leavesNone_13 : decode M_Ma_leavesNone.2.1 13 = .ok (.ixor, 1) := by decide +kernel
theorem dc_Ma_leavesNone_14 : decode M_Ma_leavesNone.2.1 14 = .ok (.iand, 1) := by decide +kernel
theorem dc_Ma_leavesNone_15 : decode M_Ma_leavesNone.2.1 15 = .ok (.invokevirtual 237, 3) := by decide +kernel
theorem dc_Ma_leavesNone_18 : decode M_Ma_leavesNone.2.1 18 = .ok (.istore_n 2, 1) := by decide +kernel
theorem dc_Ma_leavesNone_19 : decode M_Ma_leavesNone.2.1 19 = .ok (.aload_n 0, 1) := by decide +kernel
theorem dc_Ma_leavesNone_20 : decode M_Ma_leavesNone.2.1 20 = .ok (.getfield 37, 3) := by decide +kernel
theorem dc_Ma_leavesNone_23 : decode M_Ma_leavesNone.2.1 23 = .ok (.aload_n 0, 1) := by decide +kernel
theorem dc_Ma_leavesNone_24 : decode M_Ma_leavesNone.2.1 24 = .ok (.getfield 21, 3) := by decide +kernel
theorem dc_Ma_leavesNone_27 : decode M_Ma_leavesNone.2.1 27 = .ok (.getfield 201, 3) := by decide +kernel
theorem dc_Ma_leavesNone_30 : decode M_Ma_leavesNone.2.1 30 = .ok (.iload_n 2, 1) := by decide +kernel
theorem dc_Ma_leavesNone_31 : decode M_Ma_leavesNone.2.1 31 = .ok (.iand, 1) := by decide +kernel
theorem dc_Ma_leavesNone_32 : decode M_Ma_leavesNone.2.1 32 = .ok (.aload_n 0, 1) := by decide +kernel
theorem dc_Ma_leavesNone_33 : decode M_Ma_leavesNone.2.1 33 = .ok (.getfield 21, 3) := by decide +kernel
theorem dc_Ma_leavesNone_36 : decode M_Ma_leavesNone.2.1 36 = .ok (.getfield 207, 3) := by decide +kernel
theorem dc_Ma_leavesNone_39 : decode M_Ma_leavesNone.2.1 39 = .ok (.iload_n 2, 1) := by decide +kernel
theorem dc_Ma_leavesNone_40 : decode M_Ma_leavesNone.2.1 40 = .ok (.iand, 1) := by decide +kernel
theorem dc_Ma_leavesNone_41 : decode M_Ma_leavesNone.2.1 41 = .ok (.invokevirtual 265, 3) := by decide +kernel
theorem dc_Ma_leavesNone_44 : decode M_Ma_leavesNone.2.1 44 = .ok (.ifCond .ne 7, 3) := by decide +kernel
theorem dc_Ma_leavesNone_47 : decode M_Ma_leavesNone.2.1 47 = .ok (.iconst 1, 1) := by decide +kernel
theorem dc_Ma_leavesNone_48 : decode M_Ma_leavesNone.2.1 48 = .ok (.goto 4, 3) := by decide +kernel
theorem dc_Ma_leavesNone_51 : decode M_Ma_leavesNone.2.1 51 = .ok (.iconst 0, 1) := by decide +kernel
theorem dc_Ma_leavesNone_52 : decode M_Ma_leavesNone.2.1 52 = .ok (.ireturn, 1) := by decide +kernel
def f_Ma_leavesNone (a0 : Nat) (a1 : Int32) (h : xH) : Option (Int32 × xH) := gd (hK h a0 = 10) (gd (hK h (hR h a0 1) = 6) (Option.bind (f_Ta_everyone (hR h a0 1) h) (fun q11 => gd (hK q11.2 (hR h a0 0) = 3) (Option.bind (f_Se_within (hR h a0 0) (q11.1 &&& (a1 ^^^ (-1 : Int32))) q11.2) (fun q13 => gd (hK q13.2 a0 = 10) (gd (hK q13.2 (hR q13.2 a0 1) = 6) (gd (hK q13.2 (hR q13.2 a0 3) = 5) (Option.bind (f_St_anyThree (hR q13.2 a0 3) ((hI q13.2 (hR q13.2 a0 1) 2) &&& q13.1) ((hI q13.2 (hR q13.2 a0 1) 3) &&& q13.1) q13.2) (fun q17 => some (nb (if q17.1 = 0 then (1 : Int32) else (0 : Int32)), q17.2))))))))))
theorem t_Ma_leavesNone {l : Launch} {z : xZ} {d mc ms : Nat} {Ph : Option xV → xH → Prop} {a0 : Nat} {a1 : Int32}  {h : xH} (hd : 4 ≤ d) (hk : OK (f_Ma_leavesNone a0 a1 h) (fun q => Ph (some (xI q.1)) q.2)) : Sx l z d mc ms M_Ma_leavesNone 0 (x_en [xR a0, xI a1] 3) [] h Ph := by
  unfold f_Ma_leavesNone at hk
  refine sx_eq (lc2 := [some (xR a0), some (xI a1), none]) rfl rfl ?_
  refine sx_aload_n dc_Ma_leavesNone_0 rfl ?_
  obtain ⟨g10, hk⟩ := hk.g
  refine sx_get (ci := 10) (k := 0) rfl (by decide) wF_Ma_10 g10 dc_Ma_leavesNone_1 ?_
  refine sx_aload_n dc_Ma_leavesNone_4 rfl ?_
  refine sx_get (ci := 10) (k := 1) rfl (by decide) wF_Ma_21 g10 dc_Ma_leavesNone_5 ?_
  obtain ⟨g12, hk⟩ := hk.g
  obtain ⟨q11, eq11, hk⟩ := hk.bind
  refine sx_callV (d2 := d - 1) (mc2 := 0) (ms2 := 0) (as := []) mk_Ta_everyone rfl (x_rk (ci := 6) g12 rfl rfl) wM_Ma_234 mi_Ta_everyone me_Ta_everyone rfl (Nat.le_of_ble_eq_true rfl) (Nat.le_of_ble_eq_true rfl) dc_Ma_leavesNone_8 (by omega) (Nat.zero_le _) (Nat.zero_le _) ?_
  refine t_Ta_everyone (by omega) ⟨q11, eq11, ?_⟩
  refine sx_eq0 (lc2 := [some (xR a0), some (xI a1), none]) (st2 := [xI q11.1, xR (hR h a0 0)]) rfl rfl ?_
  refine sx_iload_n dc_Ma_leavesNone_11 rfl ?_
  refine sx_iconst (v := (-1 : Int32)) dc_Ma_leavesNone_12 (by decide) ?_
  refine sx_ixor dc_Ma_leavesNone_13 ?_
  refine sx_iand dc_Ma_leavesNone_14 ?_
  obtain ⟨g14, hk⟩ := hk.g
  obtain ⟨q13, eq13, hk⟩ := hk.bind
  refine sx_callV (d2 := d - 1) (mc2 := 0) (ms2 := 0) (as := [xI (q11.1 &&& (a1 ^^^ (-1 : Int32)))]) mk_Se_within rfl (x_rk (ci := 3) g14 rfl rfl) wM_Ma_237 mi_Se_within me_Se_within rfl (Nat.le_of_ble_eq_true rfl) (Nat.le_of_ble_eq_true rfl) dc_Ma_leavesNone_15 (by omega) (Nat.zero_le _) (Nat.zero_le _) ?_
  refine t_Se_within (by omega) ⟨q13, eq13, ?_⟩
  refine sx_eq0 (lc2 := [some (xR a0), some (xI a1), none]) (st2 := [xI q13.1]) rfl rfl ?_
  refine sx_istore_n dc_Ma_leavesNone_18 (by decide) (sx_eq (lc2 := [some (xR a0), some (xI a1), some (xI q13.1)]) rfl rfl ?_)
  refine sx_aload_n dc_Ma_leavesNone_19 rfl ?_
  obtain ⟨g15, hk⟩ := hk.g
  refine sx_get (ci := 10) (k := 3) rfl (by decide) wF_Ma_37 g15 dc_Ma_leavesNone_20 ?_
  refine sx_aload_n dc_Ma_leavesNone_23 rfl ?_
  refine sx_get (ci := 10) (k := 1) rfl (by decide) wF_Ma_21 g15 dc_Ma_leavesNone_24 ?_
  obtain ⟨g16, hk⟩ := hk.g
  refine sx_get (ci := 6) (k := 2) rfl (by decide) wF_Ma_201 g16 dc_Ma_leavesNone_27 ?_
  refine sx_iload_n dc_Ma_leavesNone_30 rfl ?_
  refine sx_iand dc_Ma_leavesNone_31 ?_
  refine sx_aload_n dc_Ma_leavesNone_32 rfl ?_
  refine sx_get (ci := 10) (k := 1) rfl (by decide) wF_Ma_21 g15 dc_Ma_leavesNone_33 ?_
  refine sx_get (ci := 6) (k := 3) rfl (by decide) wF_Ma_207 g16 dc_Ma_leavesNone_36 ?_
  refine sx_iload_n dc_Ma_leavesNone_39 rfl ?_
  refine sx_iand dc_Ma_leavesNone_40 ?_
  obtain ⟨g18, hk⟩ := hk.g
  obtain ⟨q17, eq17, hk⟩ := hk.bind
  refine sx_callV (d2 := d - 1) (mc2 := 0) (ms2 := 0) (as := [xI ((hI q13.2 (hR q13.2 a0 1) 2) &&& q13.1), xI ((hI q13.2 (hR q13.2 a0 1) 3) &&& q13.1)]) mk_St_anyThree rfl (x_rk (ci := 5) g18 rfl rfl) wM_Ma_265 mi_St_anyThree me_St_anyThree rfl (Nat.le_of_ble_eq_true rfl) (Nat.le_of_ble_eq_true rfl) dc_Ma_leavesNone_41 (by omega) (Nat.zero_le _) (Nat.zero_le _) ?_
  refine t_St_anyThree (by omega) ⟨q17, eq17, ?_⟩
  refine sx_eq0 (lc2 := [some (xR a0), some (xI a1), some (xI q13.1)]) (st2 := [xI q17.1]) rfl rfl ?_
  refine sx_mg (pc2 := 52) (lc2 := [some (xR a0), some (xI a1), some (xI q13.1)]) (st2 := [xI (if q17.1 = 0 then (1 : Int32) else (0 : Int32))]) (h2 := q17.2) ?_ (fun J19 => ?_)
  · exact sx_retT dc_Ma_leavesNone_52 (Or.inl ⟨rfl, rfl⟩) rfl hk.val
  · refine sx_if_ne (tgt := 51) dc_Ma_leavesNone_44 (by decide) (fun c20 => ?_) (fun c20 => ?_)
    · try simp only [if_neg c20] at J19
      refine sx_iconst (v := (0 : Int32)) dc_Ma_leavesNone_51 (by decide) ?_
      exact J19
    · try simp only [if_pos c20] at J19
      refine sx_iconst (v := (1 : Int32)) dc_Ma_leavesNone_47 (by decide) ?_
      refine sx_goto (tgt := 52) dc_Ma_leavesNone_48 (by decide) ?_
      exact J19
theorem dc_Ma_sentHome_0 : decode M_Ma_sentHome.2.1 0 = .ok (.aload_n 0, 1) := by decide +kernel
theorem dc_Ma_sentHome_1 : decode M_Ma_sentHome.2.1 1 = .ok (.getfield 21, 3) := by decide +kernel
theorem dc_Ma_sentHome_4 : decode M_Ma_sentHome.2.1 4 = .ok (.invokevirtual 234, 3) := by decide +kernel
theorem dc_Ma_sentHome_7 : decode M_Ma_sentHome.2.1 7 = .ok (.istore_n 1, 1) := by decide +kernel
theorem dc_Ma_sentHome_8 : decode M_Ma_sentHome.2.1 8 = .ok (.iconst 0, 1) := by decide +kernel
theorem dc_Ma_sentHome_9 : decode M_Ma_sentHome.2.1 9 = .ok (.istore_n 2, 1) := by decide +kernel
theorem dc_Ma_sentHome_10 : decode M_Ma_sentHome.2.1 10 = .ok (.iload_n 2, 1) := by decide +kernel
theorem dc_Ma_sentHome_11 : decode M_Ma_sentHome.2.1 11 = .ok (.aload_n 0, 1) := by decide +kernel
theorem dc_Ma_sentHome_12 : decode M_Ma_sentHome.2.1 12 = .ok (.getfield 21, 3) := by decide +kernel
theorem dc_Ma_sentHome_15 : decode M_Ma_sentHome.2.1 15 = .ok (.invokevirtual 234, 3) := by decide +kernel
theorem dc_Ma_sentHome_18 : decode M_Ma_sentHome.2.1 18 = .ok (.if_icmp .ge 30, 3) := by decide +kernel
theorem dc_Ma_sentHome_21 : decode M_Ma_sentHome.2.1 21 = .ok (.iload_n 2, 1) := by decide +kernel
theorem dc_Ma_sentHome_22 : decode M_Ma_sentHome.2.1 22 = .ok (.invokestatic 139, 3) := by decide +kernel
theorem dc_Ma_sentHome_25 : decode M_Ma_sentHome.2.1 25 = .ok (.iload_n 1, 1) := by decide +kernel
theorem dc_Ma_sentHome_26 : decode M_Ma_sentHome.2.1 26 = .ok (.invokestatic 139, 3) := by decide +kernel
theorem dc_Ma_sentHome_29 : decode M_Ma_sentHome.2.1 29 = .ok (.if_icmp .ge 13, 3) := by decide +kernel
theorem dc_Ma_sentHome_32 : decode M_Ma_sentHome.2.1 32 = .ok (.aload_n 0, 1) := by decide +kernel
theorem dc_Ma_sentHome_33 : decode M_Ma_sentHome.2.1 33 = .ok (.iload_n 2, 1) := by decide +kernel
theorem dc_Ma_sentHome_34 : decode M_Ma_sentHome.2.1 34 = .ok (.invokevirtual 262, 3) := by decide +kernel
theorem dc_Ma_sentHome_37 : decode M_Ma_sentHome.2.1 37 = .ok (.ifCond .eq 5, 3) := by decide +kernel
theorem dc_Ma_sentHome_40 : decode M_Ma_sentHome.2.1 40 = .ok (.iload_n 2, 1) := by decide +kernel
theorem dc_Ma_sentHome_41 : decode M_Ma_sentHome.2.1 41 = .ok (.istore_n 1, 1) := by decide +kernel
theorem dc_Ma_sentHome_42 : decode M_Ma_sentHome.2.1 42 = .ok (.iinc 2 1, 3) := by decide +kernel
theorem dc_Ma_sentHome_45 : decode M_Ma_sentHome.2.1 45 = .ok (.goto (-35), 3) := by decide +kernel
theorem dc_Ma_sentHome_48 : decode M_Ma_sentHome.2.1 48 = .ok (.iload_n 1, 1) := by decide +kernel
theorem dc_Ma_sentHome_49 : decode M_Ma_sentHome.2.1 49 = .ok (.ireturn, 1) := by decide +kernel
def f_Ma_sentHome_L10 (a0 : Nat) : Nat → Int32 → Int32 → xH → (Int32 → Int32 → xH → Option (Int32 × xH)) → Option (Int32 × xH)
  | 0, _, _, _, _ => none
  | n + 1, a1, a2, h, K => gd (hK h a0 = 10) (gd (hK h (hR h a0 1) = 6) (Option.bind (f_Ta_everyone (hR h a0 1) h) (fun q15 => if q15.1 ≤ a2 then K a1 a2 q15.2 else Option.bind (f_In_bitCount a2 q15.2) (fun q18 => Option.bind (f_In_bitCount a1 q18.2) (fun q19 => jn (fun (x20 : Int32 × xH) => f_Ma_sentHome_L10 a0 n x20.1 (a2 + (1 : Int32)) x20.2 K) (fun k21 => if q19.1 ≤ q18.1 then k21 (a1, q19.2) else gd (hK q19.2 a0 = 10) (Option.bind (f_Ma_leavesNone a0 a2 q19.2) (fun q23 => if q23.1 = 0 then k21 (a1, q23.2) else k21 (a2, q23.2)))))))))
def f_Ma_sentHome (a0 : Nat) (h : xH) : Option (Int32 × xH) := gd (hK h a0 = 10) (gd (hK h (hR h a0 1) = 6) (Option.bind (f_Ta_everyone (hR h a0 1) h) (fun q12 => f_Ma_sentHome_L10 a0 fu q12.1 (0 : Int32) q12.2 (fun v26 v27 h28 => some (v26, h28)))))
theorem t_Ma_sentHome_L10 {l : Launch} {z : xZ} {d mc ms : Nat} {Ph : Option xV → xH → Prop} {a0 : Nat}  (hd : 5 ≤ d) : ∀ (n : Nat) (a1 : Int32) (a2 : Int32) (h : xH) (K : Int32 → Int32 → xH → Option (Int32 × xH)), OK (f_Ma_sentHome_L10 a0 n a1 a2 h K) (fun q => Ph (some (xI q.1)) q.2) → (∀ (a1 : Int32) (a2 : Int32) (h : xH), OK (K a1 a2 h) (fun q => Ph (some (xI q.1)) q.2) → Sx l z d mc ms M_Ma_sentHome 48 [some (xR a0), some (xI a1), some (xI a2)] [] h Ph) → Sx l z d mc ms M_Ma_sentHome 10 [some (xR a0), some (xI a1), some (xI a2)] [] h Ph := by
  intro n
  induction n with
  | zero => intro a1 a2 h K hk hE; exact hk.no
  | succ n ih =>
    intro a1 a2 h K hk hE
    rw [f_Ma_sentHome_L10] at hk
    refine sx_iload_n dc_Ma_sentHome_10 rfl ?_
    refine sx_aload_n dc_Ma_sentHome_11 rfl ?_
    obtain ⟨g14, hk⟩ := hk.g
    refine sx_get (ci := 10) (k := 1) rfl (by decide) wF_Ma_21 g14 dc_Ma_sentHome_12 ?_
    obtain ⟨g16, hk⟩ := hk.g
    obtain ⟨q15, eq15, hk⟩ := hk.bind
    refine sx_callV (d2 := d - 1) (mc2 := 0) (ms2 := 0) (as := []) mk_Ta_everyone rfl (x_rk (ci := 6) g16 rfl rfl) wM_Ma_234 mi_Ta_everyone me_Ta_everyone rfl (Nat.le_of_ble_eq_true rfl) (Nat.le_of_ble_eq_true rfl) dc_Ma_sentHome_15 (by omega) (Nat.zero_le _) (Nat.zero_le _) ?_
    refine t_Ta_everyone (by omega) ⟨q15, eq15, ?_⟩
    refine sx_eq0 (lc2 := [some (xR a0), some (xI a1), some (xI a2)]) (st2 := [xI q15.1, xI a2]) rfl rfl ?_
    refine sx_icmp_ge (tgt := 48) dc_Ma_sentHome_18 (by decide) (fun c17 => ?_) (fun c17 => ?_)
    · replace hk := hk.t c17
      exact hE a1 a2 q15.2 hk
    · replace hk := hk.f c17
      refine sx_iload_n dc_Ma_sentHome_21 rfl ?_
      obtain ⟨q18, eq18, hk⟩ := hk.bind
      refine sx_callS (d2 := d - 1) (mc2 := 0) (ms2 := 0) (as := [xI a2]) mk_In_bitCount rfl wM_Ma_139 mt_In_bitCount rfl (Nat.le_of_ble_eq_true rfl) (Nat.le_of_ble_eq_true rfl) dc_Ma_sentHome_22 (by omega) (Nat.zero_le _) (Nat.zero_le _) ?_
      refine t_In_bitCount (by omega) ⟨q18, eq18, ?_⟩
      refine sx_eq0 (lc2 := [some (xR a0), some (xI a1), some (xI a2)]) (st2 := [xI q18.1]) rfl rfl ?_
      refine sx_iload_n dc_Ma_sentHome_25 rfl ?_
      obtain ⟨q19, eq19, hk⟩ := hk.bind
      refine sx_callS (d2 := d - 1) (mc2 := 0) (ms2 := 0) (as := [xI a1]) mk_In_bitCount rfl wM_Ma_139 mt_In_bitCount rfl (Nat.le_of_ble_eq_true rfl) (Nat.le_of_ble_eq_true rfl) dc_Ma_sentHome_26 (by omega) (Nat.zero_le _) (Nat.zero_le _) ?_
      refine t_In_bitCount (by omega) ⟨q19, eq19, ?_⟩
      refine sx_eq0 (lc2 := [some (xR a0), some (xI a1), some (xI a2)]) (st2 := [xI q19.1, xI q18.1]) rfl rfl ?_
      refine hk.j (X := fun x20 => Sx l z d mc ms M_Ma_sentHome 42 [some (xR a0), some (xI x20.1), some (xI a2)] [] x20.2 Ph) (fun x20 hk => ?_) (fun k21 jk21 hk => ?_)
      · refine sx_iinc (v := (1 : Int32)) dc_Ma_sentHome_42 rfl (by decide) (by decide) (sx_eq (lc2 := [some (xR a0), some (xI x20.1), some (xI (a2 + (1 : Int32)))]) rfl rfl ?_)
        refine sx_goto (tgt := 10) dc_Ma_sentHome_45 (by decide) ?_
        exact ih x20.1 (a2 + (1 : Int32)) x20.2 _ hk hE
      · refine sx_icmp_ge (tgt := 42) dc_Ma_sentHome_29 (by decide) (fun c22 => ?_) (fun c22 => ?_)
        · replace hk := hk.t c22
          exact jk21 (a1, q19.2) hk
        · replace hk := hk.f c22
          refine sx_aload_n dc_Ma_sentHome_32 rfl ?_
          refine sx_iload_n dc_Ma_sentHome_33 rfl ?_
          obtain ⟨g24, hk⟩ := hk.g
          obtain ⟨q23, eq23, hk⟩ := hk.bind
          refine sx_callV (d2 := d - 1) (mc2 := 0) (ms2 := 0) (as := [xI a2]) mk_Ma_leavesNone rfl (x_rk (ci := 10) g24 rfl rfl) wM_Ma_262 mi_Ma_leavesNone me_Ma_leavesNone rfl (Nat.le_of_ble_eq_true rfl) (Nat.le_of_ble_eq_true rfl) dc_Ma_sentHome_34 (by omega) (Nat.zero_le _) (Nat.zero_le _) ?_
          refine t_Ma_leavesNone (by omega) ⟨q23, eq23, ?_⟩
          refine sx_eq0 (lc2 := [some (xR a0), some (xI a1), some (xI a2)]) (st2 := [xI q23.1]) rfl rfl ?_
          refine sx_if_eq (tgt := 42) dc_Ma_sentHome_37 (by decide) (fun c25 => ?_) (fun c25 => ?_)
          · replace hk := hk.t c25
            exact jk21 (a1, q23.2) hk
          · replace hk := hk.f c25
            refine sx_iload_n dc_Ma_sentHome_40 rfl ?_
            refine sx_istore_n dc_Ma_sentHome_41 (by decide) (sx_eq (lc2 := [some (xR a0), some (xI a2), some (xI a2)]) rfl rfl ?_)
            exact jk21 (a2, q23.2) hk
theorem t_Ma_sentHome {l : Launch} {z : xZ} {d mc ms : Nat} {Ph : Option xV → xH → Prop} {a0 : Nat}  {h : xH} (hd : 5 ≤ d) (hk : OK (f_Ma_sentHome a0 h) (fun q => Ph (some (xI q.1)) q.2)) : Sx l z d mc ms M_Ma_sentHome 0 (x_en [xR a0] 3) [] h Ph := by
  unfold f_Ma_sentHome at hk
  refine sx_eq (lc2 := [some (xR a0), none, none]) rfl rfl ?_
  refine sx_aload_n dc_Ma_sentHome_0 rfl ?_
  obtain ⟨g11, hk⟩ := hk.g
  refine sx_get (ci := 10) (k := 1) rfl (by decide) wF_Ma_21 g11 dc_Ma_sentHome_1 ?_
  obtain ⟨g13, hk⟩ := hk.g
  obtain ⟨q12, eq12, hk⟩ := hk.bind
  refine sx_callV (d2 := d - 1) (mc2 := 0) (ms2 := 0) (as := []) mk_Ta_everyone rfl (x_rk (ci := 6) g13 rfl rfl) wM_Ma_234 mi_Ta_everyone me_Ta_everyone rfl (Nat.le_of_ble_eq_true rfl) (Nat.le_of_ble_eq_true rfl) dc_Ma_sentHome_4 (by omega) (Nat.zero_le _) (Nat.zero_le _) ?_
  refine t_Ta_everyone (by omega) ⟨q12, eq12, ?_⟩
  refine sx_eq0 (lc2 := [some (xR a0), none, none]) (st2 := [xI q12.1]) rfl rfl ?_
  refine sx_istore_n dc_Ma_sentHome_7 (by decide) (sx_eq (lc2 := [some (xR a0), some (xI q12.1), none]) rfl rfl ?_)
  refine sx_iconst (v := (0 : Int32)) dc_Ma_sentHome_8 (by decide) ?_
  refine sx_istore_n dc_Ma_sentHome_9 (by decide) (sx_eq (lc2 := [some (xR a0), some (xI q12.1), some (xI (0 : Int32))]) rfl rfl ?_)
  refine t_Ma_sentHome_L10 (by omega) _ _ _ _ _ hk (fun v26 v27 h28 hk => ?_)
  refine sx_iload_n dc_Ma_sentHome_48 rfl ?_
  exact sx_retI dc_Ma_sentHome_49 rfl hk.val
theorem dc_Ma_joyOf_0 : decode M_Ma_joyOf.2.1 0 = .ok (.iconst 0, 1) := by decide +kernel
theorem dc_Ma_joyOf_1 : decode M_Ma_joyOf.2.1 1 = .ok (.istore_n 2, 1) := by decide +kernel
theorem dc_Ma_joyOf_2 : decode M_Ma_joyOf.2.1 2 = .ok (.iconst 0, 1) := by decide +kernel
theorem dc_Ma_joyOf_3 : decode M_Ma_joyOf.2.1 3 = .ok (.istore_n 3, 1) := by decide +kernel
theorem dc_Ma_joyOf_4 : decode M_Ma_joyOf.2.1 4 = .ok (.iload_n 3, 1) := by decide +kernel
theorem dc_Ma_joyOf_5 : decode M_Ma_joyOf.2.1 5 = .ok (.aload_n 0, 1) := by decide +kernel
theorem dc_Ma_joyOf_6 : decode M_Ma_joyOf.2.1 6 = .ok (.getfield 21, 3) := by decide +kernel
theorem dc_Ma_joyOf_9 : decode M_Ma_joyOf.2.1 9 = .ok (.getfield 100, 3) := by decide +kernel
theorem dc_Ma_joyOf_12 : decode M_Ma_joyOf.2.1 12 = .ok (.if_icmp .ge 29, 3) := by decide +kernel
theorem dc_Ma_joyOf_15 : decode M_Ma_joyOf.2.1 15 = .ok (.iload_n 1, 1) := by decide +kernel
theorem dc_Ma_joyOf_16 : decode M_Ma_joyOf.2.1 16 = .ok (.iload_n 3, 1) := by decide +kernel
theorem dc_Ma_joyOf_17 : decode M_Ma_joyOf.2.1 17 = .ok (.ishr, 1) := by decide +kernel
theorem dc_Ma_joyOf_18 : decode M_Ma_joyOf.2.1 18 = .ok (.iconst 1, 1) := by decide +kernel
theorem dc_Ma_joyOf_19 : decode M_Ma_joyOf.2.1 19 = .ok (.iand, 1) := by decide +kernel
theorem dc_Ma_joyOf_20 : decode M_Ma_joyOf.2.1 20 = .ok (.iconst 1, 1) := by decide +kernel
theorem dc_Ma_joyOf_21 : decode M_Ma_joyOf.2.1 21 = .ok (.if_icmp .ne 14, 3) := by decide +kernel
theorem dc_Ma_joyOf_24 : decode M_Ma_joyOf.2.1 24 = .ok (.iload_n 2, 1) := by decide +kernel
theorem dc_Ma_joyOf_25 : decode M_Ma_joyOf.2.1 25 = .ok (.aload_n 0, 1) := by decide +kernel
theorem dc_Ma_joyOf_26 : decode M_Ma_joyOf.2.1 26 = .ok (.getfield 30, 3) := by decide +kernel
theorem dc_Ma_joyOf_29 : decode M_Ma_joyOf.2.1 29 = .ok (.iload_n 3, 1) := by decide +kernel
theorem dc_Ma_joyOf_30 : decode M_Ma_joyOf.2.1 30 = .ok (.invokevirtual 225, 3) := by decide +kernel
theorem dc_Ma_joyOf_33 : decode M_Ma_joyOf.2.1 33 = .ok (.iadd, 1) := by decide +kernel
theorem dc_Ma_joyOf_34 : decode M_Ma_joyOf.2.1 34 = .ok (.istore_n 2, 1) := by decide +kernel
theorem dc_Ma_joyOf_35 : decode M_Ma_joyOf.2.1 35 = .ok (.iinc 3 1, 3) := by decide +kernel
theorem dc_Ma_joyOf_38 : decode M_Ma_joyOf.2.1 38 = .ok (.goto (-34), 3) := by decide +kernel
theorem dc_Ma_joyOf_41 : decode M_Ma_joyOf.2.1 41 = .ok (.iload_n 2, 1) := by decide +kernel
theorem dc_Ma_joyOf_42 : decode M_Ma_joyOf.2.1 42 = .ok (.ireturn, 1) := by decide +kernel
def f_Ma_joyOf_L4 (a0 : Nat) (a1 : Int32) : Nat → Int32 → Int32 → xH → (Int32 → Int32 → xH → Option (Int32 × xH)) → Option (Int32 × xH)
  | 0, _, _, _, _ => none
  | n + 1, a2, a3, h, K => gd (hK h a0 = 10) (gd (hK h (hR h a0 1) = 6) (if (hI h (hR h a0 1) 1) ≤ a3 then K a2 a3 h else jn (fun (x8 : Int32 × xH) => f_Ma_joyOf_L4 a0 a1 n x8.1 (a3 + (1 : Int32)) x8.2 K) (fun k9 => if ((jShr a1 a3) &&& (1 : Int32)) = (1 : Int32) then gd (hK h (hR h a0 2) = 2) (Option.bind (f_Ru_joy (hR h a0 2) a3 h) (fun q11 => k9 ((a2 + q11.1), q11.2))) else k9 (a2, h))))
def f_Ma_joyOf (a0 : Nat) (a1 : Int32) (h : xH) : Option (Int32 × xH) := f_Ma_joyOf_L4 a0 a1 fu (0 : Int32) (0 : Int32) h (fun v13 v14 h15 => some (v13, h15))
theorem t_Ma_joyOf_L4 {l : Launch} {z : xZ} {d mc ms : Nat} {Ph : Option xV → xH → Prop} {a0 : Nat} {a1 : Int32}  (hd : 5 ≤ d) : ∀ (n : Nat) (a2 : Int32) (a3 : Int32) (h : xH) (K : Int32 → Int32 → xH → Option (Int32 × xH)), OK (f_Ma_joyOf_L4 a0 a1 n a2 a3 h K) (fun q => Ph (some (xI q.1)) q.2) → (∀ (a2 : Int32) (a3 : Int32) (h : xH), OK (K a2 a3 h) (fun q => Ph (some (xI q.1)) q.2) → Sx l z d mc ms M_Ma_joyOf 41 [some (xR a0), some (xI a1), some (xI a2), some (xI a3)] [] h Ph) → Sx l z d mc ms M_Ma_joyOf 4 [some (xR a0), some (xI a1), some (xI a2), some (xI a3)] [] h Ph := by
  intro n
  induction n with
  | zero => intro a2 a3 h K hk hE; exact hk.no
  | succ n ih =>
    intro a2 a3 h K hk hE
    rw [f_Ma_joyOf_L4] at hk
    refine sx_iload_n dc_Ma_joyOf_4 rfl ?_
    refine sx_aload_n dc_Ma_joyOf_5 rfl ?_
    obtain ⟨g5, hk⟩ := hk.g
    refine sx_get (ci := 10) (k := 1) rfl (by decide) wF_Ma_21 g5 dc_Ma_joyOf_6 ?_
    obtain ⟨g6, hk⟩ := hk.g
    refine sx_get (ci := 6) (k := 1) rfl (by decide) wF_Ma_100 g6 dc_Ma_joyOf_9 ?_
    refine sx_icmp_ge (tgt := 41) dc_Ma_joyOf_12 (by decide) (fun c7 => ?_) (fun c7 => ?_)
    · replace hk := hk.t c7
      exact hE a2 a3 h hk
    · replace hk := hk.f c7
      refine sx_iload_n dc_Ma_joyOf_15 rfl ?_
      refine sx_iload_n dc_Ma_joyOf_16 rfl ?_
      refine sx_ishr dc_Ma_joyOf_17 ?_
      refine sx_iconst (v := (1 : Int32)) dc_Ma_joyOf_18 (by decide) ?_
      refine sx_iand dc_Ma_joyOf_19 ?_
      refine sx_iconst (v := (1 : Int32)) dc_Ma_joyOf_20 (by decide) ?_
      refine hk.j (X := fun x8 => Sx l z d mc ms M_Ma_joyOf 35 [some (xR a0), some (xI a1), some (xI x8.1), some (xI a3)] [] x8.2 Ph) (fun x8 hk => ?_) (fun k9 jk9 hk => ?_)
      · refine sx_iinc (v := (1 : Int32)) dc_Ma_joyOf_35 rfl (by decide) (by decide) (sx_eq (lc2 := [some (xR a0), some (xI a1), some (xI x8.1), some (xI (a3 + (1 : Int32)))]) rfl rfl ?_)
        refine sx_goto (tgt := 4) dc_Ma_joyOf_38 (by decide) ?_
        exact ih x8.1 (a3 + (1 : Int32)) x8.2 _ hk hE
      · refine sx_icmp_ne (tgt := 35) dc_Ma_joyOf_21 (by decide) (fun c10 => ?_) (fun c10 => ?_)
        · replace hk := hk.f c10
          exact jk9 (a2, h) hk
        · replace hk := hk.t c10
          refine sx_iload_n dc_Ma_joyOf_24 rfl ?_
          refine sx_aload_n dc_Ma_joyOf_25 rfl ?_
          refine sx_get (ci := 10) (k := 2) rfl (by decide) wF_Ma_30 g5 dc_Ma_joyOf_26 ?_
          refine sx_iload_n dc_Ma_joyOf_29 rfl ?_
          obtain ⟨g12, hk⟩ := hk.g
          obtain ⟨q11, eq11, hk⟩ := hk.bind
          refine sx_callV (d2 := d - 1) (mc2 := 0) (ms2 := 0) (as := [xI a3]) mk_Ru_joy rfl (x_rk (ci := 2) g12 rfl rfl) wM_Ma_225 mi_Ru_joy me_Ru_joy rfl (Nat.le_of_ble_eq_true rfl) (Nat.le_of_ble_eq_true rfl) dc_Ma_joyOf_30 (by omega) (Nat.zero_le _) (Nat.zero_le _) ?_
          refine t_Ru_joy (by omega) ⟨q11, eq11, ?_⟩
          refine sx_eq0 (lc2 := [some (xR a0), some (xI a1), some (xI a2), some (xI a3)]) (st2 := [xI q11.1, xI a2]) rfl rfl ?_
          refine sx_iadd dc_Ma_joyOf_33 ?_
          refine sx_istore_n dc_Ma_joyOf_34 (by decide) (sx_eq (lc2 := [some (xR a0), some (xI a1), some (xI (a2 + q11.1)), some (xI a3)]) rfl rfl ?_)
          exact jk9 ((a2 + q11.1), q11.2) hk
theorem t_Ma_joyOf {l : Launch} {z : xZ} {d mc ms : Nat} {Ph : Option xV → xH → Prop} {a0 : Nat} {a1 : Int32}  {h : xH} (hd : 5 ≤ d) (hk : OK (f_Ma_joyOf a0 a1 h) (fun q => Ph (some (xI q.1)) q.2)) : Sx l z d mc ms M_Ma_joyOf 0 (x_en [xR a0, xI a1] 4) [] h Ph := by
  unfold f_Ma_joyOf at hk
  refine sx_eq (lc2 := [some (xR a0), some (xI a1), none, none]) rfl rfl ?_
  refine sx_iconst (v := (0 : Int32)) dc_Ma_joyOf_0 (by decide) ?_
  refine sx_istore_n dc_Ma_joyOf_1 (by decide) (sx_eq (lc2 := [some (xR a0), some (xI a1), some (xI (0 : Int32)), none]) rfl rfl ?_)
  refine sx_iconst (v := (0 : Int32)) dc_Ma_joyOf_2 (by decide) ?_
  refine sx_istore_n dc_Ma_joyOf_3 (by decide) (sx_eq (lc2 := [some (xR a0), some (xI a1), some (xI (0 : Int32)), some (xI (0 : Int32))]) rfl rfl ?_)
  refine t_Ma_joyOf_L4 (by omega) _ _ _ _ _ hk (fun v13 v14 h15 hk => ?_)
  refine sx_iload_n dc_Ma_joyOf_41 rfl ?_
  exact sx_retI dc_Ma_joyOf_42 rfl hk.val
theorem dc_Ma_home_0 : decode M_Ma_home.2.1 0 = .ok (.iload_n 1, 1) := by decide +kernel
theorem dc_Ma_home_1 : decode M_Ma_home.2.1 1 = .ok (.iconst 2, 1) := by decide +kernel
theorem dc_Ma_home_2 : decode M_Ma_home.2.1 2 = .ok (.invokestatic 148, 3) := by decide +kernel
theorem dc_Ma_home_5 : decode M_Ma_home.2.1 5 = .ok (.ifCond .ne 6, 3) := by decide +kernel
theorem dc_Ma_home_8 : decode M_Ma_home.2.1 8 = .ok (.bipush (-2), 2) := by decide +kernel
theorem dc_Ma_home_10 : decode M_Ma_home.2.1 10 = .ok (.ireturn, 1) := by decide +kernel
theorem dc_Ma_home_11 : decode M_Ma_home.2.1 11 = .ok (.aload_n 0, 1) := by decide +kernel
theorem dc_Ma_home_12 : decode M_Ma_home.2.1 12 = .ok (.invokevirtual 240, 3) := by decide +kernel
theorem dc_Ma_home_15 : decode M_Ma_home.2.1 15 = .ok (.istore_n 2, 1) := by decide +kernel
theorem dc_Ma_home_16 : decode M_Ma_home.2.1 16 = .ok (.iload_n 1, 1) := by decide +kernel
theorem dc_Ma_home_17 : decode M_Ma_home.2.1 17 = .ok (.ifCond .ne 8, 3) := by decide +kernel
theorem dc_Ma_home_20 : decode M_Ma_home.2.1 20 = .ok (.iload_n 2, 1) := by decide +kernel
theorem dc_Ma_home_21 : decode M_Ma_home.2.1 21 = .ok (.invokestatic 139, 3) := by decide +kernel
theorem dc_Ma_home_24 : decode M_Ma_home.2.1 24 = .ok (.ireturn, 1) := by decide +kernel
theorem dc_Ma_home_25 : decode M_Ma_home.2.1 25 = .ok (.iload_n 1, 1) := by decide +kernel
theorem dc_Ma_home_26 : decode M_Ma_home.2.1 26 = .ok (.iconst 1, 1) := by decide +kernel
theorem dc_Ma_home_27 : decode M_Ma_home.2.1 27 = .ok (.if_icmp .ne 7, 3) := by decide +kernel
theorem dc_Ma_home_30 : decode M_Ma_home.2.1 30 = .ok (.iload_n 2, 1) := by decide +kernel
theorem dc_Ma_home_31 : decode M_Ma_home.2.1 31 = .ok (.goto 18, 3) := by decide +kernel
theorem dc_Ma_home_34 : decode M_Ma_home.2.1 34 = .ok (.aload_n 0, 1) := by decide +kernel
theorem dc_Ma_home_35 : decode M_Ma_home.2.1 35 = .ok (.aload_n 0, 1) := by decide +kernel
theorem dc_Ma_home_36 : decode M_Ma_home.2.1 36 = .ok (.getfield 21, 3) := by decide +kernel
theorem dc_Ma_home_39 : decode M_Ma_home.2.1 39 = .ok (.invokevirtual 234, 3) := by decide +kernel
theorem dc_Ma_home_42 : decode M_Ma_home.2.1 42 = .ok (.iload_n 2, 1) := by decide +kernel
theorem dc_Ma_home_43 : decode M_Ma_home.2.1 43 = .ok (.iconst (-1), 1) := by decide +kernel
theorem dc_Ma_home_44 : decode M_Ma_home.2.1 44 = .ok (.ixor, 1) := by decide +kernel
theorem dc_Ma_home_45 : decode M_Ma_home.2.1 45 = .ok (.iand, 1) := by decide +kernel
theorem dc_Ma_home_46 : decode M_Ma_home.2.1 46 = .ok (.invokevirtual 243, 3) := by decide +kernel
theorem dc_Ma_home_49 : decode M_Ma_home.2.1 49 = .ok (.ireturn, 1) := by decide +kernel
def f_Ma_home (a0 : Nat) (a1 : Int32) (h : xH) : Option (Int32 × xH) := Option.bind (f_Ma_isWithin a1 (2 : Int32) h) (fun q10 => if q10.1 = 0 then some ((-2 : Int32), q10.2) else gd (hK q10.2 a0 = 10) (Option.bind (f_Ma_sentHome a0 q10.2) (fun q12 => if a1 = 0 then Option.bind (f_In_bitCount q12.1 q12.2) (fun q23 => some (q23.1, q23.2)) else jn (fun (x15 : Int32 × xH) => some (x15.1, x15.2)) (fun k16 => if a1 = (1 : Int32) then k16 (q12.1, q12.2) else gd (hK q12.2 a0 = 10) (gd (hK q12.2 (hR q12.2 a0 1) = 6) (Option.bind (f_Ta_everyone (hR q12.2 a0 1) q12.2) (fun q19 => gd (hK q19.2 a0 = 10) (Option.bind (f_Ma_joyOf a0 (q19.1 &&& (q12.1 ^^^ (-1 : Int32))) q19.2) (fun q21 => k16 (q21.1, q21.2))))))))))
theorem t_Ma_home {l : Launch} {z : xZ} {d mc ms : Nat} {Ph : Option xV → xH → Prop} {a0 : Nat} {a1 : Int32}  {h : xH} (hd : 6 ≤ d) (hk : OK (f_Ma_home a0 a1 h) (fun q => Ph (some (xI q.1)) q.2)) : Sx l z d mc ms M_Ma_home 0 (x_en [xR a0, xI a1] 3) [] h Ph := by
  unfold f_Ma_home at hk
  refine sx_eq (lc2 := [some (xR a0), some (xI a1), none]) rfl rfl ?_
  refine sx_iload_n dc_Ma_home_0 rfl ?_
  refine sx_iconst (v := (2 : Int32)) dc_Ma_home_1 (by decide) ?_
  obtain ⟨q10, eq10, hk⟩ := hk.bind
  refine sx_callS (d2 := d - 1) (mc2 := 0) (ms2 := 0) (as := [xI a1, xI (2 : Int32)]) mk_Ma_isWithin rfl wM_Ma_148 mt_Ma_isWithin rfl (Nat.le_of_ble_eq_true rfl) (Nat.le_of_ble_eq_true rfl) dc_Ma_home_2 (by omega) (Nat.zero_le _) (Nat.zero_le _) ?_
  refine t_Ma_isWithin (by omega) ⟨q10, eq10, ?_⟩
  refine sx_eq0 (lc2 := [some (xR a0), some (xI a1), none]) (st2 := [xI q10.1]) rfl rfl ?_
  refine sx_if_ne (tgt := 11) dc_Ma_home_5 (by decide) (fun c11 => ?_) (fun c11 => ?_)
  · replace hk := hk.f c11
    refine sx_aload_n dc_Ma_home_11 rfl ?_
    obtain ⟨g13, hk⟩ := hk.g
    obtain ⟨q12, eq12, hk⟩ := hk.bind
    refine sx_callV (d2 := d - 1) (mc2 := 0) (ms2 := 0) (as := []) mk_Ma_sentHome rfl (x_rk (ci := 10) g13 rfl rfl) wM_Ma_240 mi_Ma_sentHome me_Ma_sentHome rfl (Nat.le_of_ble_eq_true rfl) (Nat.le_of_ble_eq_true rfl) dc_Ma_home_12 (by omega) (Nat.zero_le _) (Nat.zero_le _) ?_
    refine t_Ma_sentHome (by omega) ⟨q12, eq12, ?_⟩
    refine sx_eq0 (lc2 := [some (xR a0), some (xI a1), none]) (st2 := [xI q12.1]) rfl rfl ?_
    refine sx_istore_n dc_Ma_home_15 (by decide) (sx_eq (lc2 := [some (xR a0), some (xI a1), some (xI q12.1)]) rfl rfl ?_)
    refine sx_iload_n dc_Ma_home_16 rfl ?_
    refine sx_if_ne (tgt := 25) dc_Ma_home_17 (by decide) (fun c14 => ?_) (fun c14 => ?_)
    · replace hk := hk.f c14
      refine sx_iload_n dc_Ma_home_25 rfl ?_
      refine sx_iconst (v := (1 : Int32)) dc_Ma_home_26 (by decide) ?_
      refine hk.j (X := fun x15 => Sx l z d mc ms M_Ma_home 49 [some (xR a0), some (xI a1), some (xI q12.1)] [xI x15.1] x15.2 Ph) (fun x15 hk => ?_) (fun k16 jk16 hk => ?_)
      · exact sx_retI dc_Ma_home_49 rfl hk.val
      · refine sx_icmp_ne (tgt := 34) dc_Ma_home_27 (by decide) (fun c17 => ?_) (fun c17 => ?_)
        · replace hk := hk.f c17
          refine sx_aload_n dc_Ma_home_34 rfl ?_
          refine sx_aload_n dc_Ma_home_35 rfl ?_
          obtain ⟨g18, hk⟩ := hk.g
          refine sx_get (ci := 10) (k := 1) rfl (by decide) wF_Ma_21 g18 dc_Ma_home_36 ?_
          obtain ⟨g20, hk⟩ := hk.g
          obtain ⟨q19, eq19, hk⟩ := hk.bind
          refine sx_callV (d2 := d - 1) (mc2 := 0) (ms2 := 0) (as := []) mk_Ta_everyone rfl (x_rk (ci := 6) g20 rfl rfl) wM_Ma_234 mi_Ta_everyone me_Ta_everyone rfl (Nat.le_of_ble_eq_true rfl) (Nat.le_of_ble_eq_true rfl) dc_Ma_home_39 (by omega) (Nat.zero_le _) (Nat.zero_le _) ?_
          refine t_Ta_everyone (by omega) ⟨q19, eq19, ?_⟩
          refine sx_eq0 (lc2 := [some (xR a0), some (xI a1), some (xI q12.1)]) (st2 := [xI q19.1, xR a0]) rfl rfl ?_
          refine sx_iload_n dc_Ma_home_42 rfl ?_
          refine sx_iconst (v := (-1 : Int32)) dc_Ma_home_43 (by decide) ?_
          refine sx_ixor dc_Ma_home_44 ?_
          refine sx_iand dc_Ma_home_45 ?_
          obtain ⟨g22, hk⟩ := hk.g
          obtain ⟨q21, eq21, hk⟩ := hk.bind
          refine sx_callV (d2 := d - 1) (mc2 := 0) (ms2 := 0) (as := [xI (q19.1 &&& (q12.1 ^^^ (-1 : Int32)))]) mk_Ma_joyOf rfl (x_rk (ci := 10) g22 rfl rfl) wM_Ma_243 mi_Ma_joyOf me_Ma_joyOf rfl (Nat.le_of_ble_eq_true rfl) (Nat.le_of_ble_eq_true rfl) dc_Ma_home_46 (by omega) (Nat.zero_le _) (Nat.zero_le _) ?_
          refine t_Ma_joyOf (by omega) ⟨q21, eq21, ?_⟩
          refine sx_eq0 (lc2 := [some (xR a0), some (xI a1), some (xI q12.1)]) (st2 := [xI q21.1]) rfl rfl ?_
          exact jk16 (q21.1, q21.2) hk
        · replace hk := hk.t c17
          refine sx_iload_n dc_Ma_home_30 rfl ?_
          refine sx_goto (tgt := 49) dc_Ma_home_31 (by decide) ?_
          exact jk16 (q12.1, q12.2) hk
    · replace hk := hk.t c14
      refine sx_iload_n dc_Ma_home_20 rfl ?_
      obtain ⟨q23, eq23, hk⟩ := hk.bind
      refine sx_callS (d2 := d - 1) (mc2 := 0) (ms2 := 0) (as := [xI q12.1]) mk_In_bitCount rfl wM_Ma_139 mt_In_bitCount rfl (Nat.le_of_ble_eq_true rfl) (Nat.le_of_ble_eq_true rfl) dc_Ma_home_21 (by omega) (Nat.zero_le _) (Nat.zero_le _) ?_
      refine t_In_bitCount (by omega) ⟨q23, eq23, ?_⟩
      refine sx_eq0 (lc2 := [some (xR a0), some (xI a1), some (xI q12.1)]) (st2 := [xI q23.1]) rfl rfl ?_
      exact sx_retI dc_Ma_home_24 rfl hk.val
  · replace hk := hk.t c11
    refine sx_bipush (v := (-2 : Int32)) dc_Ma_home_8 (by decide) ?_
    exact sx_retI dc_Ma_home_10 rfl hk.val
theorem dc_Ma_threesIfChanged_0 : decode M_Ma_threesIfChanged.2.1 0 = .ok (.aload_n 0, 1) := by decide +kernel
theorem dc_Ma_threesIfChanged_1 : decode M_Ma_threesIfChanged.2.1 1 = .ok (.getfield 37, 3) := by decide +kernel
theorem dc_Ma_threesIfChanged_4 : decode M_Ma_threesIfChanged.2.1 4 = .ok (.aload_n 0, 1) := by decide +kernel
theorem dc_Ma_threesIfChanged_5 : decode M_Ma_threesIfChanged.2.1 5 = .ok (.getfield 21, 3) := by decide +kernel
theorem dc_Ma_threesIfChanged_8 : decode M_Ma_threesIfChanged.2.1 8 = .ok (.getfield 201, 3) := by decide +kernel
theorem dc_Ma_threesIfChanged_11 : decode M_Ma_threesIfChanged.2.1 11 = .ok (.iconst 1, 1) := by decide +kernel
theorem dc_Ma_threesIfChanged_12 : decode M_Ma_threesIfChanged.2.1 12 = .ok (.iload_n 1, 1) := by decide +kernel
theorem dc_Ma_threesIfChanged_13 : decode M_Ma_threesIfChanged.2.1 13 = .ok (.ishl, 1) := by decide +kernel
theorem dc_Ma_threesIfChanged_14 : decode M_Ma_threesIfChanged.2.1 14 = .ok (.ixor, 1) := by decide +kernel
theorem dc_Ma_threesIfChanged_15 : decode M_Ma_threesIfChanged.2.1 15 = .ok (.aload_n 0, 1) := by decide +kernel
theorem dc_Ma_threesIfChanged_16 : decode M_Ma_threesIfChanged.2.1 16 = .ok (.getfield 21, 3) := by decide +kernel
theorem dc_Ma_threesIfChanged_19 : decode M_Ma_threesIfChanged.2.1 19 = .ok (.getfield 207, 3) := by decide +kernel
theorem dc_Ma_threesIfChanged_22 : decode M_Ma_threesIfChanged.2.1 22 = .ok (.iconst 1, 1) := by decide +kernel
theorem dc_Ma_threesIfChanged_23 : decode M_Ma_threesIfChanged.2.1 23 = .ok (.iload_n 1, 1) := by decide +kernel
theorem dc_Ma_threesIfChanged_24 : decode M_Ma_threesIfChanged.2.1 24 = .ok (.ishl, 1) := by decide +kernel
theorem dc_Ma_threesIfChanged_25 : decode M_Ma_threesIfChanged.2.1 25 = .ok (.ixor, 1) := by decide +kernel
theorem dc_Ma_threesIfChanged_26 : decode M_Ma_threesIfChanged.2.1 26 = .ok (.invokevirtual 204, 3) := by decide +kernel
theorem dc_Ma_threesIfChanged_29 : decode M_Ma_threesIfChanged.2.1 29 = .ok (.ireturn, 1) := by decide +kernel
def f_Ma_threesIfChanged (a0 : Nat) (a1 : Int32) (h : xH) : Option (Int32 × xH) := gd (hK h a0 = 10) (gd (hK h (hR h a0 1) = 6) (gd (hK h (hR h a0 3) = 5) (Option.bind (f_St_howMany (hR h a0 3) ((hI h (hR h a0 1) 2) ^^^ (jShl (1 : Int32) a1)) ((hI h (hR h a0 1) 3) ^^^ (jShl (1 : Int32) a1)) h) (fun q7 => some (q7.1, q7.2)))))
theorem t_Ma_threesIfChanged {l : Launch} {z : xZ} {d mc ms : Nat} {Ph : Option xV → xH → Prop} {a0 : Nat} {a1 : Int32}  {h : xH} (hd : 4 ≤ d) (hk : OK (f_Ma_threesIfChanged a0 a1 h) (fun q => Ph (some (xI q.1)) q.2)) : Sx l z d mc ms M_Ma_threesIfChanged 0 (x_en [xR a0, xI a1] 2) [] h Ph := by
  unfold f_Ma_threesIfChanged at hk
  refine sx_eq (lc2 := [some (xR a0), some (xI a1)]) rfl rfl ?_
  refine sx_aload_n dc_Ma_threesIfChanged_0 rfl ?_
  obtain ⟨g5, hk⟩ := hk.g
  refine sx_get (ci := 10) (k := 3) rfl (by decide) wF_Ma_37 g5 dc_Ma_threesIfChanged_1 ?_
  refine sx_aload_n dc_Ma_threesIfChanged_4 rfl ?_
  refine sx_get (ci := 10) (k := 1) rfl (by decide) wF_Ma_21 g5 dc_Ma_threesIfChanged_5 ?_
  obtain ⟨g6, hk⟩ := hk.g
  refine sx_get (ci := 6) (k := 2) rfl (by decide) wF_Ma_201 g6 dc_Ma_threesIfChanged_8 ?_
  refine sx_iconst (v := (1 : Int32)) dc_Ma_threesIfChanged_11 (by decide) ?_
  refine sx_iload_n dc_Ma_threesIfChanged_12 rfl ?_
  refine sx_ishl dc_Ma_threesIfChanged_13 ?_
  refine sx_ixor dc_Ma_threesIfChanged_14 ?_
  refine sx_aload_n dc_Ma_threesIfChanged_15 rfl ?_
  refine sx_get (ci := 10) (k := 1) rfl (by decide) wF_Ma_21 g5 dc_Ma_threesIfChanged_16 ?_
  refine sx_get (ci := 6) (k := 3) rfl (by decide) wF_Ma_207 g6 dc_Ma_threesIfChanged_19 ?_
  refine sx_iconst (v := (1 : Int32)) dc_Ma_threesIfChanged_22 (by decide) ?_
  refine sx_iload_n dc_Ma_threesIfChanged_23 rfl ?_
  refine sx_ishl dc_Ma_threesIfChanged_24 ?_
  refine sx_ixor dc_Ma_threesIfChanged_25 ?_
  obtain ⟨g8, hk⟩ := hk.g
  obtain ⟨q7, eq7, hk⟩ := hk.bind
  refine sx_callV (d2 := d - 1) (mc2 := 0) (ms2 := 0) (as := [xI ((hI h (hR h a0 1) 2) ^^^ (jShl (1 : Int32) a1)), xI ((hI h (hR h a0 1) 3) ^^^ (jShl (1 : Int32) a1))]) mk_St_howMany rfl (x_rk (ci := 5) g8 rfl rfl) wM_Ma_204 mi_St_howMany me_St_howMany rfl (Nat.le_of_ble_eq_true rfl) (Nat.le_of_ble_eq_true rfl) dc_Ma_threesIfChanged_26 (by omega) (Nat.zero_le _) (Nat.zero_le _) ?_
  refine t_St_howMany (by omega) ⟨q7, eq7, ?_⟩
  refine sx_eq0 (lc2 := [some (xR a0), some (xI a1)]) (st2 := [xI q7.1]) rfl rfl ?_
  exact sx_retI dc_Ma_threesIfChanged_29 rfl hk.val
theorem dc_Ma_bestChange_0 : decode M_Ma_bestChange.2.1 0 = .ok (.iconst (-1), 1) := by decide +kernel
theorem dc_Ma_bestChange_1 : decode M_Ma_bestChange.2.1 1 = .ok (.istore_n 1, 1) := by decide +kernel
theorem dc_Ma_bestChange_2 : decode M_Ma_bestChange.2.1 2 = .ok (.aload_n 0, 1) := by decide +kernel
theorem dc_Ma_bestChange_3 : decode M_Ma_bestChange.2.1 3 = .ok (.invokevirtual 210, 3) := by decide +kernel
theorem dc_Ma_bestChange_6 : decode M_Ma_bestChange.2.1 6 = .ok (.istore_n 2, 1) := by decide +kernel
theorem dc_Ma_bestChange_7 : decode M_Ma_bestChange.2.1 7 = .ok (.iconst 0, 1) := by decide +kernel
theorem dc_Ma_bestChange_8 : decode M_Ma_bestChange.2.1 8 = .ok (.istore_n 3, 1) := by decide +kernel
theorem dc_Ma_bestChange_9 : decode M_Ma_bestChange.2.1 9 = .ok (.iload_n 3, 1) := by decide +kernel
theorem dc_Ma_bestChange_10 : decode M_Ma_bestChange.2.1 10 = .ok (.aload_n 0, 1) := by decide +kernel
theorem dc_Ma_bestChange_11 : decode M_Ma_bestChange.2.1 11 = .ok (.getfield 21, 3) := by decide +kernel
theorem dc_Ma_bestChange_14 : decode M_Ma_bestChange.2.1 14 = .ok (.getfield 100, 3) := by decide +kernel
theorem dc_Ma_bestChange_17 : decode M_Ma_bestChange.2.1 17 = .ok (.invokestatic 268, 3) := by decide +kernel
theorem dc_Ma_bestChange_20 : decode M_Ma_bestChange.2.1 20 = .ok (.if_icmp .ge 83, 3) := by decide +kernel
theorem dc_Ma_bestChange_23 : decode M_Ma_bestChange.2.1 23 = .ok (.aload_n 0, 1) := by decide +kernel
theorem dc_Ma_bestChange_24 : decode M_Ma_bestChange.2.1 24 = .ok (.getfield 21, 3) := by decide +kernel
theorem dc_Ma_bestChange_27 : decode M_Ma_bestChange.2.1 27 = .ok (.iload_n 3, 1) := by decide +kernel
theorem dc_Ma_bestChange_28 : decode M_Ma_bestChange.2.1 28 = .ok (.invokevirtual 111, 3) := by decide +kernel
theorem dc_Ma_bestChange_31 : decode M_Ma_bestChange.2.1 31 = .ok (.iconst 2, 1) := by decide +kernel
theorem dc_Ma_bestChange_32 : decode M_Ma_bestChange.2.1 32 = .ok (.if_icmp .ne 6, 3) := by decide +kernel
theorem dc_Ma_bestChange_35 : decode M_Ma_bestChange.2.1 35 = .ok (.goto 62, 3) := by decide +kernel
theorem dc_Ma_bestChange_38 : decode M_Ma_bestChange.2.1 38 = .ok (.aload_n 0, 1) := by decide +kernel
theorem dc_Ma_bestChange_39 : decode M_Ma_bestChange.2.1 39 = .ok (.iload_n 3, 1) := by decide +kernel
theorem dc_Ma_bestChange_40 : decode M_Ma_bestChange.2.1 40 = .ok (.invokevirtual 249, 3) := by decide +kernel
theorem dc_Ma_bestChange_43 : decode M_Ma_bestChange.2.1 43 = .ok (.istore 4, 2) := by decide +kernel
theorem dc_Ma_bestChange_45 : decode M_Ma_bestChange.2.1 45 = .ok (.iload_n 1, 1) := by decide +kernel
theorem dc_Ma_bestChange_46 : decode M_Ma_bestChange.2.1 46 = .ok (.ifCond .lt 32, 3) := by decide +kernel
theorem dc_Ma_bestChange_49 : decode M_Ma_bestChange.2.1 49 = .ok (.iload 4, 2) := by decide +kernel
theorem dc_Ma_bestChange_51 : decode M_Ma_bestChange.2.1 51 = .ok (.iload_n 2, 1) := by decide +kernel
theorem dc_Ma_bestChange_52 : decode M_Ma_bestChange.2.1 52 = .ok (.if_icmp .ne 26, 3) := by decide +kernel
theorem dc_Ma_bestChange_55 : decode M_Ma_bestChange.2.1 55 = .ok (.aload_n 0, 1) := by decide +kernel
theorem dc_Ma_bestChange_56 : decode M_Ma_bestChange.2.1 56 = .ok (.getfield 30, 3) := by decide +kernel
theorem dc_Ma_bestChange_59 : decode M_Ma_bestChange.2.1 59 = .ok (.iload_n 3, 1) := by decide +kernel
theorem dc_Ma_bestChange_60 : decode M_Ma_bestChange.2.1 60 = .ok (.invokevirtual 271, 3) := by decide +kernel
theorem dc_Ma_bestChange_63 : decode M_Ma_bestChange.2.1 63 = .ok (.aload_n 0, 1) := by decide +kernel
theorem dc_Ma_bestChange_64 : decode M_Ma_bestChange.2.1 64 = .ok (.getfield 30, 3) := by decide +kernel
theorem dc_Ma_bestChange_67 : decode M_Ma_bestChange.2.1 67 = .ok (.iload_n 1, 1) := by decide +kernel
theorem dc_Ma_bestChange_68 : decode M_Ma_bestChange.2.1 68 = .ok (.invokevirtual 271, 3) := by decide +kernel
theorem dc_Ma_bestChange_71 : decode M_Ma_bestChange.2.1 71 = .ok (.if_icmp .ge 7, 3) := by decide +kernel
theorem dc_Ma_bestChange_74 : decode M_Ma_bestChange.2.1 74 = .ok (.iconst 1, 1) := by decide +kernel
theorem dc_Ma_bestChange_75 : decode M_Ma_bestChange.2.1 75 = .ok (.goto 4, 3) := by decide +kernel
theorem dc_Ma_bestChange_78 : decode M_Ma_bestChange.2.1 78 = .ok (.iconst 0, 1) := by decide +kernel
theorem dc_Ma_bestChange_79 : decode M_Ma_bestChange.2.1 79 = .ok (.istore 5, 2) := by decide +kernel
theorem dc_Ma_bestChange_81 : decode M_Ma_bestChange.2.1 81 = .ok (.iload 4, 2) := by decide +kernel
theorem dc_Ma_bestChange_83 : decode M_Ma_bestChange.2.1 83 = .ok (.iload_n 2, 1) := by decide +kernel
theorem dc_Ma_bestChange_84 : decode M_Ma_bestChange.2.1 84 = .ok (.if_icmp .lt 8, 3) := by decide +kernel
theorem dc_Ma_bestChange_87 : decode M_Ma_bestChange.2.1 87 = .ok (.iload 5, 2) := by decide +kernel
theorem dc_Ma_bestChange_89 : decode M_Ma_bestChange.2.1 89 = .ok (.ifCond .eq 8, 3) := by decide +kernel
theorem dc_Ma_bestChange_92 : decode M_Ma_bestChange.2.1 92 = .ok (.iload 4, 2) := by decide +kernel
theorem dc_Ma_bestChange_94 : decode M_Ma_bestChange.2.1 94 = .ok (.istore_n 2, 1) := by decide +kernel
theorem dc_Ma_bestChange_95 : decode M_Ma_bestChange.2.1 95 = .ok (.iload_n 3, 1) := by decide +kernel
theorem dc_Ma_bestChange_96 : decode M_Ma_bestChange.2.1 96 = .ok (.istore_n 1, 1) := by decide +kernel
theorem dc_Ma_bestChange_97 : decode M_Ma_bestChange.2.1 97 = .ok (.iinc 3 1, 3) := by decide +kernel
theorem dc_Ma_bestChange_100 : decode M_Ma_bestChange.2.1 100 = .ok (.goto (-91), 3) := by decide +kernel
theorem dc_Ma_bestChange_103 : decode M_Ma_bestChange.2.1 103 = .ok (.iload_n 1, 1) := by decide +kernel
theorem dc_Ma_bestChange_104 : decode M_Ma_bestChange.2.1 104 = .ok (.ireturn, 1) := by decide +kernel
def f_Ma_bestChange_L9 (a0 : Nat) : Nat → Int32 → Int32 → Int32 → xH → (Int32 → Int32 → Int32 → xH → Option (Int32 × xH)) → Option (Int32 × xH)
  | 0, _, _, _, _, _ => none
  | n + 1, a1, a2, a3, h, K => gd (hK h a0 = 10) (gd (hK h (hR h a0 1) = 6) (Option.bind (f_Se_pairsAmong (hI h (hR h a0 1) 1) h) (fun q21 => if q21.1 ≤ a3 then K a1 a2 a3 q21.2 else gd (hK q21.2 a0 = 10) (gd (hK q21.2 (hR q21.2 a0 1) = 6) (Option.bind (f_Ta_look (hR q21.2 a0 1) a3 q21.2) (fun q24 => jn (fun (x26 : Int32 × Int32 × xH) => f_Ma_bestChange_L9 a0 n x26.1 x26.2.1 (a3 + (1 : Int32)) x26.2.2 K) (fun k27 => if q24.1 = (2 : Int32) then k27 (a1, a2, q24.2) else gd (hK q24.2 a0 = 10) (Option.bind (f_Ma_threesIfChanged a0 a3 q24.2) (fun q29 => jn (fun (x31 : Int32 × xH) => jn (fun (x33 : Unit) => k27 (a3, q29.1, x31.2)) (fun k34 => if q29.1 < a2 then k34 () else if x31.1 = 0 then k27 (a1, a2, x31.2) else k34 ())) (fun k32 => jn (fun (x37 : xH) => k32 ((0 : Int32), x37)) (fun k38 => if a1 < 0 then k38 q29.2 else if q29.1 = a2 then gd (hK q29.2 a0 = 10) (gd (hK q29.2 (hR q29.2 a0 2) = 2) (Option.bind (f_Ru_costs (hR q29.2 a0 2) a3 q29.2) (fun q42 => gd (hK q42.2 a0 = 10) (gd (hK q42.2 (hR q42.2 a0 2) = 2) (Option.bind (f_Ru_costs (hR q42.2 a0 2) a1 q42.2) (fun q45 => if q45.1 ≤ q42.1 then k38 q45.2 else k32 ((1 : Int32), q45.2))))))) else k38 q29.2)))))))))))
def f_Ma_bestChange (a0 : Nat) (h : xH) : Option (Int32 × xH) := gd (hK h a0 = 10) (Option.bind (f_Ma_threesNow a0 h) (fun q17 => f_Ma_bestChange_L9 a0 fu (-1 : Int32) q17.1 (0 : Int32) q17.2 (fun v48 v49 v50 h51 => some (v48, h51))))
theorem t_Ma_bestChange_L9 {l : Launch} {z : xZ} {d mc ms : Nat} {Ph : Option xV → xH → Prop} {a0 : Nat}  (hd : 5 ≤ d) : ∀ (n : Nat) (a1 : Int32) (a2 : Int32) (a3 : Int32) (h : xH) (K : Int32 → Int32 → Int32 → xH → Option (Int32 × xH)), OK (f_Ma_bestChange_L9 a0 n a1 a2 a3 h K) (fun q => Ph (some (xI q.1)) q.2) → (∀ (a1 : Int32) (a2 : Int32) (a3 : Int32) (h : xH), OK (K a1 a2 a3 h) (fun q => Ph (some (xI q.1)) q.2) → Sx l z d mc ms M_Ma_bestChange 103 [some (xR a0), some (xI a1), some (xI a2), some (xI a3), none, none] [] h Ph) → Sx l z d mc ms M_Ma_bestChange 9 [some (xR a0), some (xI a1), some (xI a2), some (xI a3), none, none] [] h Ph := by
  intro n
  induction n with
  | zero => intro a1 a2 a3 h K hk hE; exact hk.no
  | succ n ih =>
    intro a1 a2 a3 h K hk hE
    rw [f_Ma_bestChange_L9] at hk
    refine sx_iload_n dc_Ma_bestChange_9 rfl ?_
    refine sx_aload_n dc_Ma_bestChange_10 rfl ?_
    obtain ⟨g19, hk⟩ := hk.g
    refine sx_get (ci := 10) (k := 1) rfl (by decide) wF_Ma_21 g19 dc_Ma_bestChange_11 ?_
    obtain ⟨g20, hk⟩ := hk.g
    refine sx_get (ci := 6) (k := 1) rfl (by decide) wF_Ma_100 g20 dc_Ma_bestChange_14 ?_
    obtain ⟨q21, eq21, hk⟩ := hk.bind
    refine sx_callS (d2 := d - 1) (mc2 := 0) (ms2 := 0) (as := [xI (hI h (hR h a0 1) 1)]) mk_Se_pairsAmong rfl wM_Ma_268 mt_Se_pairsAmong rfl (Nat.le_of_ble_eq_true rfl) (Nat.le_of_ble_eq_true rfl) dc_Ma_bestChange_17 (by omega) (Nat.zero_le _) (Nat.zero_le _) ?_
    refine t_Se_pairsAmong (by omega) ⟨q21, eq21, ?_⟩
    refine sx_eq0 (lc2 := [some (xR a0), some (xI a1), some (xI a2), some (xI a3), none, none]) (st2 := [xI q21.1, xI a3]) rfl rfl ?_
    refine sx_icmp_ge (tgt := 103) dc_Ma_bestChange_20 (by decide) (fun c22 => ?_) (fun c22 => ?_)
    · replace hk := hk.t c22
      exact hE a1 a2 a3 q21.2 hk
    · replace hk := hk.f c22
      refine sx_aload_n dc_Ma_bestChange_23 rfl ?_
      obtain ⟨g23, hk⟩ := hk.g
      refine sx_get (ci := 10) (k := 1) rfl (by decide) wF_Ma_21 g23 dc_Ma_bestChange_24 ?_
      refine sx_iload_n dc_Ma_bestChange_27 rfl ?_
      obtain ⟨g25, hk⟩ := hk.g
      obtain ⟨q24, eq24, hk⟩ := hk.bind
      refine sx_callV (d2 := d - 1) (mc2 := 0) (ms2 := 0) (as := [xI a3]) mk_Ta_look rfl (x_rk (ci := 6) g25 rfl rfl) wM_Ma_111 mi_Ta_look me_Ta_look rfl (Nat.le_of_ble_eq_true rfl) (Nat.le_of_ble_eq_true rfl) dc_Ma_bestChange_28 (by omega) (Nat.zero_le _) (Nat.zero_le _) ?_
      refine t_Ta_look (by omega) ⟨q24, eq24, ?_⟩
      refine sx_eq0 (lc2 := [some (xR a0), some (xI a1), some (xI a2), some (xI a3), none, none]) (st2 := [xI q24.1]) rfl rfl ?_
      refine sx_iconst (v := (2 : Int32)) dc_Ma_bestChange_31 (by decide) ?_
      refine hk.j (X := fun x26 => Sx l z d mc ms M_Ma_bestChange 97 [some (xR a0), some (xI x26.1), some (xI x26.2.1), some (xI a3), none, none] [] x26.2.2 Ph) (fun x26 hk => ?_) (fun k27 jk27 hk => ?_)
      · refine sx_iinc (v := (1 : Int32)) dc_Ma_bestChange_97 rfl (by decide) (by decide) (sx_eq (lc2 := [some (xR a0), some (xI x26.1), some (xI x26.2.1), some (xI (a3 + (1 : Int32))), none, none]) rfl rfl ?_)
        refine sx_goto (tgt := 9) dc_Ma_bestChange_100 (by decide) ?_
        exact ih x26.1 x26.2.1 (a3 + (1 : Int32)) x26.2.2 _ hk hE
      · refine sx_icmp_ne (tgt := 38) dc_Ma_bestChange_32 (by decide) (fun c28 => ?_) (fun c28 => ?_)
        · replace hk := hk.f c28
          refine sx_aload_n dc_Ma_bestChange_38 rfl ?_
          refine sx_iload_n dc_Ma_bestChange_39 rfl ?_
          obtain ⟨g30, hk⟩ := hk.g
          obtain ⟨q29, eq29, hk⟩ := hk.bind
          refine sx_callV (d2 := d - 1) (mc2 := 0) (ms2 := 0) (as := [xI a3]) mk_Ma_threesIfChanged rfl (x_rk (ci := 10) g30 rfl rfl) wM_Ma_249 mi_Ma_threesIfChanged me_Ma_threesIfChanged rfl (Nat.le_of_ble_eq_true rfl) (Nat.le_of_ble_eq_true rfl) dc_Ma_bestChange_40 (by omega) (Nat.zero_le _) (Nat.zero_le _) ?_
          refine t_Ma_threesIfChanged (by omega) ⟨q29, eq29, ?_⟩
          refine sx_eq0 (lc2 := [some (xR a0), some (xI a1), some (xI a2), some (xI a3), none, none]) (st2 := [xI q29.1]) rfl rfl ?_
          refine sx_istore dc_Ma_bestChange_43 (by decide) (sx_eq (lc2 := [some (xR a0), some (xI a1), some (xI a2), some (xI a3), some (xI q29.1), none]) rfl rfl ?_)
          refine sx_iload_n dc_Ma_bestChange_45 rfl ?_
          refine hk.j (X := fun x31 => Sx l z d mc ms M_Ma_bestChange 79 [some (xR a0), some (xI a1), some (xI a2), some (xI a3), some (xI q29.1), none] [xI x31.1] x31.2 Ph) (fun x31 hk => ?_) (fun k32 jk32 hk => ?_)
          · refine sx_istore dc_Ma_bestChange_79 (by decide) (sx_eq (lc2 := [some (xR a0), some (xI a1), some (xI a2), some (xI a3), some (xI q29.1), some (xI x31.1)]) rfl rfl ?_)
            refine sx_iload dc_Ma_bestChange_81 rfl ?_
            refine sx_iload_n dc_Ma_bestChange_83 rfl ?_
            refine hk.j (X := fun x33 => Sx l z d mc ms M_Ma_bestChange 92 [some (xR a0), some (xI a1), some (xI a2), some (xI a3), some (xI q29.1), some (xI x31.1)] [] x31.2 Ph) (fun x33 hk => ?_) (fun k34 jk34 hk => ?_)
            · refine sx_iload dc_Ma_bestChange_92 rfl ?_
              refine sx_istore_n dc_Ma_bestChange_94 (by decide) (sx_eq (lc2 := [some (xR a0), some (xI a1), some (xI q29.1), some (xI a3), some (xI q29.1), some (xI x31.1)]) rfl rfl ?_)
              refine sx_iload_n dc_Ma_bestChange_95 rfl ?_
              refine sx_istore_n dc_Ma_bestChange_96 (by decide) (sx_eq (lc2 := [some (xR a0), some (xI a3), some (xI q29.1), some (xI a3), some (xI q29.1), some (xI x31.1)]) rfl rfl ?_)
              exact sx_less (by simp [x_le]) (jk27 (a3, q29.1, x31.2) hk)
            · refine sx_icmp_lt (tgt := 92) dc_Ma_bestChange_84 (by decide) (fun c35 => ?_) (fun c35 => ?_)
              · replace hk := hk.t c35
                exact jk34 () hk
              · replace hk := hk.f c35
                refine sx_iload dc_Ma_bestChange_87 rfl ?_
                refine sx_if_eq (tgt := 97) dc_Ma_bestChange_89 (by decide) (fun c36 => ?_) (fun c36 => ?_)
                · replace hk := hk.t c36
                  exact sx_less (by simp [x_le]) (jk27 (a1, a2, x31.2) hk)
                · replace hk := hk.f c36
                  exact jk34 () hk
          · refine hk.j (X := fun x37 => Sx l z d mc ms M_Ma_bestChange 78 [some (xR a0), some (xI a1), some (xI a2), some (xI a3), some (xI q29.1), none] [] x37 Ph) (fun x37 hk => ?_) (fun k38 jk38 hk => ?_)
            · refine sx_iconst (v := (0 : Int32)) dc_Ma_bestChange_78 (by decide) ?_
              exact jk32 ((0 : Int32), x37) hk
            · refine sx_if_lt (tgt := 78) dc_Ma_bestChange_46 (by decide) (fun c39 => ?_) (fun c39 => ?_)
              · replace hk := hk.t c39
                exact jk38 q29.2 hk
              · replace hk := hk.f c39
                refine sx_iload dc_Ma_bestChange_49 rfl ?_
                refine sx_iload_n dc_Ma_bestChange_51 rfl ?_
                refine sx_icmp_ne (tgt := 78) dc_Ma_bestChange_52 (by decide) (fun c40 => ?_) (fun c40 => ?_)
                · replace hk := hk.f c40
                  exact jk38 q29.2 hk
                · replace hk := hk.t c40
                  refine sx_aload_n dc_Ma_bestChange_55 rfl ?_
                  obtain ⟨g41, hk⟩ := hk.g
                  refine sx_get (ci := 10) (k := 2) rfl (by decide) wF_Ma_30 g41 dc_Ma_bestChange_56 ?_
                  refine sx_iload_n dc_Ma_bestChange_59 rfl ?_
                  obtain ⟨g43, hk⟩ := hk.g
                  obtain ⟨q42, eq42, hk⟩ := hk.bind
                  refine sx_callV (d2 := d - 1) (mc2 := 0) (ms2 := 0) (as := [xI a3]) mk_Ru_costs rfl (x_rk (ci := 2) g43 rfl rfl) wM_Ma_271 mi_Ru_costs me_Ru_costs rfl (Nat.le_of_ble_eq_true rfl) (Nat.le_of_ble_eq_true rfl) dc_Ma_bestChange_60 (by omega) (Nat.zero_le _) (Nat.zero_le _) ?_
                  refine t_Ru_costs (by omega) ⟨q42, eq42, ?_⟩
                  refine sx_eq0 (lc2 := [some (xR a0), some (xI a1), some (xI a2), some (xI a3), some (xI q29.1), none]) (st2 := [xI q42.1]) rfl rfl ?_
                  refine sx_aload_n dc_Ma_bestChange_63 rfl ?_
                  obtain ⟨g44, hk⟩ := hk.g
                  refine sx_get (ci := 10) (k := 2) rfl (by decide) wF_Ma_30 g44 dc_Ma_bestChange_64 ?_
                  refine sx_iload_n dc_Ma_bestChange_67 rfl ?_
                  obtain ⟨g46, hk⟩ := hk.g
                  obtain ⟨q45, eq45, hk⟩ := hk.bind
                  refine sx_callV (d2 := d - 1) (mc2 := 0) (ms2 := 0) (as := [xI a1]) mk_Ru_costs rfl (x_rk (ci := 2) g46 rfl rfl) wM_Ma_271 mi_Ru_costs me_Ru_costs rfl (Nat.le_of_ble_eq_true rfl) (Nat.le_of_ble_eq_true rfl) dc_Ma_bestChange_68 (by omega) (Nat.zero_le _) (Nat.zero_le _) ?_
                  refine t_Ru_costs (by omega) ⟨q45, eq45, ?_⟩
                  refine sx_eq0 (lc2 := [some (xR a0), some (xI a1), some (xI a2), some (xI a3), some (xI q29.1), none]) (st2 := [xI q45.1, xI q42.1]) rfl rfl ?_
                  refine sx_icmp_ge (tgt := 78) dc_Ma_bestChange_71 (by decide) (fun c47 => ?_) (fun c47 => ?_)
                  · replace hk := hk.t c47
                    exact jk38 q45.2 hk
                  · replace hk := hk.f c47
                    refine sx_iconst (v := (1 : Int32)) dc_Ma_bestChange_74 (by decide) ?_
                    refine sx_goto (tgt := 79) dc_Ma_bestChange_75 (by decide) ?_
                    exact jk32 ((1 : Int32), q45.2) hk
        · replace hk := hk.t c28
          refine sx_goto (tgt := 97) dc_Ma_bestChange_35 (by decide) ?_
          exact jk27 (a1, a2, q24.2) hk
theorem t_Ma_bestChange {l : Launch} {z : xZ} {d mc ms : Nat} {Ph : Option xV → xH → Prop} {a0 : Nat}  {h : xH} (hd : 5 ≤ d) (hk : OK (f_Ma_bestChange a0 h) (fun q => Ph (some (xI q.1)) q.2)) : Sx l z d mc ms M_Ma_bestChange 0 (x_en [xR a0] 6) [] h Ph := by
  unfold f_Ma_bestChange at hk
  refine sx_eq (lc2 := [some (xR a0), none, none, none, none, none]) rfl rfl ?_
  refine sx_iconst (v := (-1 : Int32)) dc_Ma_bestChange_0 (by decide) ?_
  refine sx_istore_n dc_Ma_bestChange_1 (by decide) (sx_eq (lc2 := [some (xR a0), some (xI (-1 : Int32)), none, none, none, none]) rfl rfl ?_)
  refine sx_aload_n dc_Ma_bestChange_2 rfl ?_
  obtain ⟨g18, hk⟩ := hk.g
  obtain ⟨q17, eq17, hk⟩ := hk.bind
  refine sx_callV (d2 := d - 1) (mc2 := 0) (ms2 := 0) (as := []) mk_Ma_threesNow rfl (x_rk (ci := 10) g18 rfl rfl) wM_Ma_210 mi_Ma_threesNow me_Ma_threesNow rfl (Nat.le_of_ble_eq_true rfl) (Nat.le_of_ble_eq_true rfl) dc_Ma_bestChange_3 (by omega) (Nat.zero_le _) (Nat.zero_le _) ?_
  refine t_Ma_threesNow (by omega) ⟨q17, eq17, ?_⟩
  refine sx_eq0 (lc2 := [some (xR a0), some (xI (-1 : Int32)), none, none, none, none]) (st2 := [xI q17.1]) rfl rfl ?_
  refine sx_istore_n dc_Ma_bestChange_6 (by decide) (sx_eq (lc2 := [some (xR a0), some (xI (-1 : Int32)), some (xI q17.1), none, none, none]) rfl rfl ?_)
  refine sx_iconst (v := (0 : Int32)) dc_Ma_bestChange_7 (by decide) ?_
  refine sx_istore_n dc_Ma_bestChange_8 (by decide) (sx_eq (lc2 := [some (xR a0), some (xI (-1 : Int32)), some (xI q17.1), some (xI (0 : Int32)), none, none]) rfl rfl ?_)
  refine t_Ma_bestChange_L9 (by omega) _ _ _ _ _ _ hk (fun v48 v49 v50 h51 hk => ?_)
  refine sx_iload_n dc_Ma_bestChange_103 rfl ?_
  exact sx_retI dc_Ma_bestChange_104 rfl hk.val
theorem dc_Ma_change_0 : decode M_Ma_change.2.1 0 = .ok (.iload_n 1, 1) := by decide +kernel
theorem dc_Ma_change_1 : decode M_Ma_change.2.1 1 = .ok (.iconst 1, 1) := by decide +kernel
theorem dc_Ma_change_2 : decode M_Ma_change.2.1 2 = .ok (.invokestatic 148, 3) := by decide +kernel
theorem dc_Ma_change_5 : decode M_Ma_change.2.1 5 = .ok (.ifCond .ne 6, 3) := by decide +kernel
theorem dc_Ma_change_8 : decode M_Ma_change.2.1 8 = .ok (.bipush (-2), 2) := by decide +kernel
theorem dc_Ma_change_10 : decode M_Ma_change.2.1 10 = .ok (.ireturn, 1) := by decide +kernel
theorem dc_Ma_change_11 : decode M_Ma_change.2.1 11 = .ok (.aload_n 0, 1) := by decide +kernel
theorem dc_Ma_change_12 : decode M_Ma_change.2.1 12 = .ok (.invokevirtual 246, 3) := by decide +kernel
theorem dc_Ma_change_15 : decode M_Ma_change.2.1 15 = .ok (.istore_n 2, 1) := by decide +kernel
theorem dc_Ma_change_16 : decode M_Ma_change.2.1 16 = .ok (.iload_n 2, 1) := by decide +kernel
theorem dc_Ma_change_17 : decode M_Ma_change.2.1 17 = .ok (.ifCond .lt 7, 3) := by decide +kernel
theorem dc_Ma_change_20 : decode M_Ma_change.2.1 20 = .ok (.iload_n 1, 1) := by decide +kernel
theorem dc_Ma_change_21 : decode M_Ma_change.2.1 21 = .ok (.ifCond .ne 7, 3) := by decide +kernel
theorem dc_Ma_change_24 : decode M_Ma_change.2.1 24 = .ok (.iload_n 2, 1) := by decide +kernel
theorem dc_Ma_change_25 : decode M_Ma_change.2.1 25 = .ok (.goto 8, 3) := by decide +kernel
theorem dc_Ma_change_28 : decode M_Ma_change.2.1 28 = .ok (.aload_n 0, 1) := by decide +kernel
theorem dc_Ma_change_29 : decode M_Ma_change.2.1 29 = .ok (.iload_n 2, 1) := by decide +kernel
theorem dc_Ma_change_30 : decode M_Ma_change.2.1 30 = .ok (.invokevirtual 249, 3) := by decide +kernel
theorem dc_Ma_change_33 : decode M_Ma_change.2.1 33 = .ok (.ireturn, 1) := by decide +kernel
def f_Ma_change (a0 : Nat) (a1 : Int32) (h : xH) : Option (Int32 × xH) := Option.bind (f_Ma_isWithin a1 (1 : Int32) h) (fun q6 => if q6.1 = 0 then some ((-2 : Int32), q6.2) else gd (hK q6.2 a0 = 10) (Option.bind (f_Ma_bestChange a0 q6.2) (fun q8 => jn (fun (x10 : Int32 × xH) => some (x10.1, x10.2)) (fun k11 => jn (fun (x12 : Unit) => k11 (q8.1, q8.2)) (fun k13 => if q8.1 < 0 then k13 () else if a1 = 0 then k13 () else gd (hK q8.2 a0 = 10) (Option.bind (f_Ma_threesIfChanged a0 q8.1 q8.2) (fun q16 => k11 (q16.1, q16.2))))))))
theorem t_Ma_change {l : Launch} {z : xZ} {d mc ms : Nat} {Ph : Option xV → xH → Prop} {a0 : Nat} {a1 : Int32}  {h : xH} (hd : 6 ≤ d) (hk : OK (f_Ma_change a0 a1 h) (fun q => Ph (some (xI q.1)) q.2)) : Sx l z d mc ms M_Ma_change 0 (x_en [xR a0, xI a1] 3) [] h Ph := by
  unfold f_Ma_change at hk
  refine sx_eq (lc2 := [some (xR a0), some (xI a1), none]) rfl rfl ?_
  refine sx_iload_n dc_Ma_change_0 rfl ?_
  refine sx_iconst (v := (1 : Int32)) dc_Ma_change_1 (by decide) ?_
  obtain ⟨q6, eq6, hk⟩ := hk.bind
  refine sx_callS (d2 := d - 1) (mc2 := 0) (ms2 := 0) (as := [xI a1, xI (1 : Int32)]) mk_Ma_isWithin rfl wM_Ma_148 mt_Ma_isWithin rfl (Nat.le_of_ble_eq_true rfl) (Nat.le_of_ble_eq_true rfl) dc_Ma_change_2 (by omega) (Nat.zero_le _) (Nat.zero_le _) ?_
  refine t_Ma_isWithin (by omega) ⟨q6, eq6, ?_⟩
  refine sx_eq0 (lc2 := [some (xR a0), some (xI a1), none]) (st2 := [xI q6.1]) rfl rfl ?_
  refine sx_if_ne (tgt := 11) dc_Ma_change_5 (by decide) (fun c7 => ?_) (fun c7 => ?_)
  · replace hk := hk.f c7
    refine sx_aload_n dc_Ma_change_11 rfl ?_
    obtain ⟨g9, hk⟩ := hk.g
    obtain ⟨q8, eq8, hk⟩ := hk.bind
    refine sx_callV (d2 := d - 1) (mc2 := 0) (ms2 := 0) (as := []) mk_Ma_bestChange rfl (x_rk (ci := 10) g9 rfl rfl) wM_Ma_246 mi_Ma_bestChange me_Ma_bestChange rfl (Nat.le_of_ble_eq_true rfl) (Nat.le_of_ble_eq_true rfl) dc_Ma_change_12 (by omega) (Nat.zero_le _) (Nat.zero_le _) ?_
    refine t_Ma_bestChange (by omega) ⟨q8, eq8, ?_⟩
    refine sx_eq0 (lc2 := [some (xR a0), some (xI a1), none]) (st2 := [xI q8.1]) rfl rfl ?_
    refine sx_istore_n dc_Ma_change_15 (by decide) (sx_eq (lc2 := [some (xR a0), some (xI a1), some (xI q8.1)]) rfl rfl ?_)
    refine sx_iload_n dc_Ma_change_16 rfl ?_
    refine hk.j (X := fun x10 => Sx l z d mc ms M_Ma_change 33 [some (xR a0), some (xI a1), some (xI q8.1)] [xI x10.1] x10.2 Ph) (fun x10 hk => ?_) (fun k11 jk11 hk => ?_)
    · exact sx_retI dc_Ma_change_33 rfl hk.val
    · refine hk.j (X := fun x12 => Sx l z d mc ms M_Ma_change 24 [some (xR a0), some (xI a1), some (xI q8.1)] [] q8.2 Ph) (fun x12 hk => ?_) (fun k13 jk13 hk => ?_)
      · refine sx_iload_n dc_Ma_change_24 rfl ?_
        refine sx_goto (tgt := 33) dc_Ma_change_25 (by decide) ?_
        exact jk11 (q8.1, q8.2) hk
      · refine sx_if_lt (tgt := 24) dc_Ma_change_17 (by decide) (fun c14 => ?_) (fun c14 => ?_)
        · replace hk := hk.t c14
          exact jk13 () hk
        · replace hk := hk.f c14
          refine sx_iload_n dc_Ma_change_20 rfl ?_
          refine sx_if_ne (tgt := 28) dc_Ma_change_21 (by decide) (fun c15 => ?_) (fun c15 => ?_)
          · replace hk := hk.f c15
            refine sx_aload_n dc_Ma_change_28 rfl ?_
            refine sx_iload_n dc_Ma_change_29 rfl ?_
            obtain ⟨g17, hk⟩ := hk.g
            obtain ⟨q16, eq16, hk⟩ := hk.bind
            refine sx_callV (d2 := d - 1) (mc2 := 0) (ms2 := 0) (as := [xI q8.1]) mk_Ma_threesIfChanged rfl (x_rk (ci := 10) g17 rfl rfl) wM_Ma_249 mi_Ma_threesIfChanged me_Ma_threesIfChanged rfl (Nat.le_of_ble_eq_true rfl) (Nat.le_of_ble_eq_true rfl) dc_Ma_change_30 (by omega) (Nat.zero_le _) (Nat.zero_le _) ?_
            refine t_Ma_threesIfChanged (by omega) ⟨q16, eq16, ?_⟩
            refine sx_eq0 (lc2 := [some (xR a0), some (xI a1), some (xI q8.1)]) (st2 := [xI q16.1]) rfl rfl ?_
            exact jk11 (q16.1, q16.2) hk
          · replace hk := hk.t c15
            exact jk13 () hk
  · replace hk := hk.t c7
    refine sx_bipush (v := (-2 : Int32)) dc_Ma_change_8 (by decide) ?_
    exact sx_retI dc_Ma_change_10 rfl hk.val
theorem dc_Ma_noneLeft_0 : decode M_Ma_noneLeft.2.1 0 = .ok (.iload_n 1, 1) := by decide +kernel
theorem dc_Ma_noneLeft_1 : decode M_Ma_noneLeft.2.1 1 = .ok (.iconst 2, 1) := by decide +kernel
theorem dc_Ma_noneLeft_2 : decode M_Ma_noneLeft.2.1 2 = .ok (.invokestatic 148, 3) := by decide +kernel
theorem dc_Ma_noneLeft_5 : decode M_Ma_noneLeft.2.1 5 = .ok (.ifCond .ne 6, 3) := by decide +kernel
theorem dc_Ma_noneLeft_8 : decode M_Ma_noneLeft.2.1 8 = .ok (.bipush (-2), 2) := by decide +kernel
theorem dc_Ma_noneLeft_10 : decode M_Ma_noneLeft.2.1 10 = .ok (.ireturn, 1) := by decide +kernel
theorem dc_Ma_noneLeft_11 : decode M_Ma_noneLeft.2.1 11 = .ok (.aload_n 0, 1) := by decide +kernel
theorem dc_Ma_noneLeft_12 : decode M_Ma_noneLeft.2.1 12 = .ok (.getfield 46, 3) := by decide +kernel
theorem dc_Ma_noneLeft_15 : decode M_Ma_noneLeft.2.1 15 = .ok (.aload_n 0, 1) := by decide +kernel
theorem dc_Ma_noneLeft_16 : decode M_Ma_noneLeft.2.1 16 = .ok (.getfield 21, 3) := by decide +kernel
theorem dc_Ma_noneLeft_19 : decode M_Ma_noneLeft.2.1 19 = .ok (.aload_n 0, 1) := by decide +kernel
theorem dc_Ma_noneLeft_20 : decode M_Ma_noneLeft.2.1 20 = .ok (.getfield 30, 3) := by decide +kernel
theorem dc_Ma_noneLeft_23 : decode M_Ma_noneLeft.2.1 23 = .ok (.invokevirtual 252, 3) := by decide +kernel
theorem dc_Ma_noneLeft_26 : decode M_Ma_noneLeft.2.1 26 = .ok (.ifCond .ne 5, 3) := by decide +kernel
theorem dc_Ma_noneLeft_29 : decode M_Ma_noneLeft.2.1 29 = .ok (.iconst (-1), 1) := by decide +kernel
theorem dc_Ma_noneLeft_30 : decode M_Ma_noneLeft.2.1 30 = .ok (.ireturn, 1) := by decide +kernel
theorem dc_Ma_noneLeft_31 : decode M_Ma_noneLeft.2.1 31 = .ok (.iload_n 1, 1) := by decide +kernel
theorem dc_Ma_noneLeft_32 : decode M_Ma_noneLeft.2.1 32 = .ok (.ifCond .ne 14, 3) := by decide +kernel
theorem dc_Ma_noneLeft_35 : decode M_Ma_noneLeft.2.1 35 = .ok (.aload_n 0, 1) := by decide +kernel
theorem dc_Ma_noneLeft_36 : decode M_Ma_noneLeft.2.1 36 = .ok (.getfield 46, 3) := by decide +kernel
theorem dc_Ma_noneLeft_39 : decode M_Ma_noneLeft.2.1 39 = .ok (.getfield 256, 3) := by decide +kernel
theorem dc_Ma_noneLeft_42 : decode M_Ma_noneLeft.2.1 42 = .ok (.invokestatic 139, 3) := by decide +kernel
theorem dc_Ma_noneLeft_45 : decode M_Ma_noneLeft.2.1 45 = .ok (.ireturn, 1) := by decide +kernel
theorem dc_Ma_noneLeft_46 : decode M_Ma_noneLeft.2.1 46 = .ok (.iload_n 1, 1) := by decide +kernel
theorem dc_Ma_noneLeft_47 : decode M_Ma_noneLeft.2.1 47 = .ok (.iconst 1, 1) := by decide +kernel
theorem dc_Ma_noneLeft_48 : decode M_Ma_noneLeft.2.1 48 = .ok (.if_icmp .ne 13, 3) := by decide +kernel
theorem dc_Ma_noneLeft_51 : decode M_Ma_noneLeft.2.1 51 = .ok (.aload_n 0, 1) := by decide +kernel
theorem dc_Ma_noneLeft_52 : decode M_Ma_noneLeft.2.1 52 = .ok (.getfield 46, 3) := by decide +kernel
theorem dc_Ma_noneLeft_55 : decode M_Ma_noneLeft.2.1 55 = .ok (.getfield 256, 3) := by decide +kernel
theorem dc_Ma_noneLeft_58 : decode M_Ma_noneLeft.2.1 58 = .ok (.goto 10, 3) := by decide +kernel
theorem dc_Ma_noneLeft_61 : decode M_Ma_noneLeft.2.1 61 = .ok (.aload_n 0, 1) := by decide +kernel
theorem dc_Ma_noneLeft_62 : decode M_Ma_noneLeft.2.1 62 = .ok (.getfield 46, 3) := by decide +kernel
theorem dc_Ma_noneLeft_65 : decode M_Ma_noneLeft.2.1 65 = .ok (.getfield 259, 3) := by decide +kernel
theorem dc_Ma_noneLeft_68 : decode M_Ma_noneLeft.2.1 68 = .ok (.ireturn, 1) := by decide +kernel
def f_Ma_noneLeft (a0 : Nat) (a1 : Int32) (h : xH) : Option (Int32 × xH) := Option.bind (f_Ma_isWithin a1 (2 : Int32) h) (fun q12 => if q12.1 = 0 then some ((-2 : Int32), q12.2) else gd (hK q12.2 a0 = 10) (gd (hK q12.2 (hR q12.2 a0 4) = 0) (Option.bind (f_Ch_seek (hR q12.2 a0 4) (hR q12.2 a0 1) (hR q12.2 a0 2) q12.2) (fun q15 => if q15.1 = 0 then some ((-1 : Int32), q15.2) else if a1 = 0 then gd (hK q15.2 a0 = 10) (gd (hK q15.2 (hR q15.2 a0 4) = 0) (Option.bind (f_In_bitCount (hI q15.2 (hR q15.2 a0 4) 4) q15.2) (fun q28 => some (q28.1, q28.2)))) else jn (fun (x19 : Int32) => some (x19, q15.2)) (fun k20 => if a1 = (1 : Int32) then gd (hK q15.2 a0 = 10) (gd (hK q15.2 (hR q15.2 a0 4) = 0) (k20 (hI q15.2 (hR q15.2 a0 4) 4))) else gd (hK q15.2 a0 = 10) (gd (hK q15.2 (hR q15.2 a0 4) = 0) (k20 (hI q15.2 (hR q15.2 a0 4) 5))))))))
theorem t_Ma_noneLeft {l : Launch} {z : xZ} {d mc ms : Nat} {Ph : Option xV → xH → Prop} {a0 : Nat} {a1 : Int32}  {h : xH} (hd : 98 ≤ d) (hk : OK (f_Ma_noneLeft a0 a1 h) (fun q => Ph (some (xI q.1)) q.2)) : Sx l z d mc ms M_Ma_noneLeft 0 (x_en [xR a0, xI a1] 2) [] h Ph := by
  unfold f_Ma_noneLeft at hk
  refine sx_eq (lc2 := [some (xR a0), some (xI a1)]) rfl rfl ?_
  refine sx_iload_n dc_Ma_noneLeft_0 rfl ?_
  refine sx_iconst (v := (2 : Int32)) dc_Ma_noneLeft_1 (by decide) ?_
  obtain ⟨q12, eq12, hk⟩ := hk.bind
  refine sx_callS (d2 := d - 1) (mc2 := 0) (ms2 := 0) (as := [xI a1, xI (2 : Int32)]) mk_Ma_isWithin rfl wM_Ma_148 mt_Ma_isWithin rfl (Nat.le_of_ble_eq_true rfl) (Nat.le_of_ble_eq_true rfl) dc_Ma_noneLeft_2 (by omega) (Nat.zero_le _) (Nat.zero_le _) ?_
  refine t_Ma_isWithin (by omega) ⟨q12, eq12, ?_⟩
  refine sx_eq0 (lc2 := [some (xR a0), some (xI a1)]) (st2 := [xI q12.1]) rfl rfl ?_
  refine sx_if_ne (tgt := 11) dc_Ma_noneLeft_5 (by decide) (fun c13 => ?_) (fun c13 => ?_)
  · replace hk := hk.f c13
    refine sx_aload_n dc_Ma_noneLeft_11 rfl ?_
    obtain ⟨g14, hk⟩ := hk.g
    refine sx_get (ci := 10) (k := 4) rfl (by decide) wF_Ma_46 g14 dc_Ma_noneLeft_12 ?_
    refine sx_aload_n dc_Ma_noneLeft_15 rfl ?_
    refine sx_get (ci := 10) (k := 1) rfl (by decide) wF_Ma_21 g14 dc_Ma_noneLeft_16 ?_
    refine sx_aload_n dc_Ma_noneLeft_19 rfl ?_
    refine sx_get (ci := 10) (k := 2) rfl (by decide) wF_Ma_30 g14 dc_Ma_noneLeft_20 ?_
    obtain ⟨g16, hk⟩ := hk.g
    obtain ⟨q15, eq15, hk⟩ := hk.bind
    refine sx_callV (d2 := d - 1) (mc2 := 0) (ms2 := 0) (as := [xR (hR q12.2 a0 1), xR (hR q12.2 a0 2)]) mk_Ch_seek rfl (x_rk (ci := 0) g16 rfl rfl) wM_Ma_252 mi_Ch_seek me_Ch_seek rfl (Nat.le_of_ble_eq_true rfl) (Nat.le_of_ble_eq_true rfl) dc_Ma_noneLeft_23 (by omega) (Nat.zero_le _) (Nat.zero_le _) ?_
    refine t_Ch_seek (by omega) ⟨q15, eq15, ?_⟩
    refine sx_eq0 (lc2 := [some (xR a0), some (xI a1)]) (st2 := [xI q15.1]) rfl rfl ?_
    refine sx_if_ne (tgt := 31) dc_Ma_noneLeft_26 (by decide) (fun c17 => ?_) (fun c17 => ?_)
    · replace hk := hk.f c17
      refine sx_iload_n dc_Ma_noneLeft_31 rfl ?_
      refine sx_if_ne (tgt := 46) dc_Ma_noneLeft_32 (by decide) (fun c18 => ?_) (fun c18 => ?_)
      · replace hk := hk.f c18
        refine sx_iload_n dc_Ma_noneLeft_46 rfl ?_
        refine sx_iconst (v := (1 : Int32)) dc_Ma_noneLeft_47 (by decide) ?_
        refine hk.j (X := fun x19 => Sx l z d mc ms M_Ma_noneLeft 68 [some (xR a0), some (xI a1)] [xI x19] q15.2 Ph) (fun x19 hk => ?_) (fun k20 jk20 hk => ?_)
        · exact sx_retI dc_Ma_noneLeft_68 rfl hk.val
        · refine sx_icmp_ne (tgt := 61) dc_Ma_noneLeft_48 (by decide) (fun c21 => ?_) (fun c21 => ?_)
          · replace hk := hk.f c21
            refine sx_aload_n dc_Ma_noneLeft_61 rfl ?_
            obtain ⟨g22, hk⟩ := hk.g
            refine sx_get (ci := 10) (k := 4) rfl (by decide) wF_Ma_46 g22 dc_Ma_noneLeft_62 ?_
            obtain ⟨g23, hk⟩ := hk.g
            refine sx_get (ci := 0) (k := 5) rfl (by decide) wF_Ma_259 g23 dc_Ma_noneLeft_65 ?_
            exact jk20 (hI q15.2 (hR q15.2 a0 4) 5) hk
          · replace hk := hk.t c21
            refine sx_aload_n dc_Ma_noneLeft_51 rfl ?_
            obtain ⟨g24, hk⟩ := hk.g
            refine sx_get (ci := 10) (k := 4) rfl (by decide) wF_Ma_46 g24 dc_Ma_noneLeft_52 ?_
            obtain ⟨g25, hk⟩ := hk.g
            refine sx_get (ci := 0) (k := 4) rfl (by decide) wF_Ma_256 g25 dc_Ma_noneLeft_55 ?_
            refine sx_goto (tgt := 68) dc_Ma_noneLeft_58 (by decide) ?_
            exact jk20 (hI q15.2 (hR q15.2 a0 4) 4) hk
      · replace hk := hk.t c18
        refine sx_aload_n dc_Ma_noneLeft_35 rfl ?_
        obtain ⟨g26, hk⟩ := hk.g
        refine sx_get (ci := 10) (k := 4) rfl (by decide) wF_Ma_46 g26 dc_Ma_noneLeft_36 ?_
        obtain ⟨g27, hk⟩ := hk.g
        refine sx_get (ci := 0) (k := 4) rfl (by decide) wF_Ma_256 g27 dc_Ma_noneLeft_39 ?_
        obtain ⟨q28, eq28, hk⟩ := hk.bind
        refine sx_callS (d2 := d - 1) (mc2 := 0) (ms2 := 0) (as := [xI (hI q15.2 (hR q15.2 a0 4) 4)]) mk_In_bitCount rfl wM_Ma_139 mt_In_bitCount rfl (Nat.le_of_ble_eq_true rfl) (Nat.le_of_ble_eq_true rfl) dc_Ma_noneLeft_42 (by omega) (Nat.zero_le _) (Nat.zero_le _) ?_
        refine t_In_bitCount (by omega) ⟨q28, eq28, ?_⟩
        refine sx_eq0 (lc2 := [some (xR a0), some (xI a1)]) (st2 := [xI q28.1]) rfl rfl ?_
        exact sx_retI dc_Ma_noneLeft_45 rfl hk.val
    · replace hk := hk.t c17
      refine sx_iconst (v := (-1 : Int32)) dc_Ma_noneLeft_29 (by decide) ?_
      exact sx_retI dc_Ma_noneLeft_30 rfl hk.val
  · replace hk := hk.t c13
    refine sx_bipush (v := (-2 : Int32)) dc_Ma_noneLeft_8 (by decide) ?_
    exact sx_retI dc_Ma_noneLeft_10 rfl hk.val
theorem dc_Ma_all_0 : decode M_Ma_all.2.1 0 = .ok (.iload_n 1, 1) := by decide +kernel
theorem dc_Ma_all_1 : decode M_Ma_all.2.1 1 = .ok (.iconst 1, 1) := by decide +kernel
theorem dc_Ma_all_2 : decode M_Ma_all.2.1 2 = .ok (.invokestatic 148, 3) := by decide +kernel
theorem dc_Ma_all_5 : decode M_Ma_all.2.1 5 = .ok (.ifCond .eq 11, 3) := by decide +kernel
theorem dc_Ma_all_8 : decode M_Ma_all.2.1 8 = .ok (.iload_n 2, 1) := by decide +kernel
theorem dc_Ma_all_9 : decode M_Ma_all.2.1 9 = .ok (.iconst 1, 1) := by decide +kernel
theorem dc_Ma_all_10 : decode M_Ma_all.2.1 10 = .ok (.invokestatic 148, 3) := by decide +kernel
theorem dc_Ma_all_13 : decode M_Ma_all.2.1 13 = .ok (.ifCond .ne 6, 3) := by decide +kernel
theorem dc_Ma_all_16 : decode M_Ma_all.2.1 16 = .ok (.bipush (-2), 2) := by decide +kernel
theorem dc_Ma_all_18 : decode M_Ma_all.2.1 18 = .ok (.ireturn, 1) := by decide +kernel
theorem dc_Ma_all_19 : decode M_Ma_all.2.1 19 = .ok (.iload_n 1, 1) := by decide +kernel
theorem dc_Ma_all_20 : decode M_Ma_all.2.1 20 = .ok (.iconst 1, 1) := by decide +kernel
theorem dc_Ma_all_21 : decode M_Ma_all.2.1 21 = .ok (.if_icmp .ne 13, 3) := by decide +kernel
theorem dc_Ma_all_24 : decode M_Ma_all.2.1 24 = .ok (.aload_n 0, 1) := by decide +kernel
theorem dc_Ma_all_25 : decode M_Ma_all.2.1 25 = .ok (.getfield 21, 3) := by decide +kernel
theorem dc_Ma_all_28 : decode M_Ma_all.2.1 28 = .ok (.getfield 201, 3) := by decide +kernel
theorem dc_Ma_all_31 : decode M_Ma_all.2.1 31 = .ok (.goto 10, 3) := by decide +kernel
theorem dc_Ma_all_34 : decode M_Ma_all.2.1 34 = .ok (.aload_n 0, 1) := by decide +kernel
theorem dc_Ma_all_35 : decode M_Ma_all.2.1 35 = .ok (.getfield 21, 3) := by decide +kernel
theorem dc_Ma_all_38 : decode M_Ma_all.2.1 38 = .ok (.getfield 207, 3) := by decide +kernel
theorem dc_Ma_all_41 : decode M_Ma_all.2.1 41 = .ok (.istore_n 3, 1) := by decide +kernel
theorem dc_Ma_all_42 : decode M_Ma_all.2.1 42 = .ok (.iconst 0, 1) := by decide +kernel
theorem dc_Ma_all_43 : decode M_Ma_all.2.1 43 = .ok (.istore 4, 2) := by decide +kernel
theorem dc_Ma_all_45 : decode M_Ma_all.2.1 45 = .ok (.iconst 1, 1) := by decide +kernel
theorem dc_Ma_all_46 : decode M_Ma_all.2.1 46 = .ok (.istore 5, 2) := by decide +kernel
theorem dc_Ma_all_48 : decode M_Ma_all.2.1 48 = .ok (.iload 5, 2) := by decide +kernel
theorem dc_Ma_all_50 : decode M_Ma_all.2.1 50 = .ok (.aload_n 0, 1) := by decide +kernel
theorem dc_Ma_all_51 : decode M_Ma_all.2.1 51 = .ok (.getfield 21, 3) := by decide +kernel
theorem dc_Ma_all_54 : decode M_Ma_all.2.1 54 = .ok (.invokevirtual 234, 3) := by decide +kernel
theorem dc_Ma_all_57 : decode M_Ma_all.2.1 57 = .ok (.if_icmp .gt 46, 3) := by decide +kernel
theorem dc_Ma_all_60 : decode M_Ma_all.2.1 60 = .ok (.aload_n 0, 1) := by decide +kernel
theorem dc_Ma_all_61 : decode M_Ma_all.2.1 61 = .ok (.getfield 10, 3) := by decide +kernel
theorem dc_Ma_all_64 : decode M_Ma_all.2.1 64 = .ok (.iload 5, 2) := by decide +kernel
theorem dc_Ma_all_66 : decode M_Ma_all.2.1 66 = .ok (.invokevirtual 237, 3) := by decide +kernel
theorem dc_Ma_all_69 : decode M_Ma_all.2.1 69 = .ok (.istore 6, 2) := by decide +kernel
theorem dc_Ma_all_71 : decode M_Ma_all.2.1 71 = .ok (.iload 5, 2) := by decide +kernel
theorem dc_Ma_all_73 : decode M_Ma_all.2.1 73 = .ok (.invokestatic 139, 3) := by decide +kernel
theorem dc_Ma_all_76 : decode M_Ma_all.2.1 76 = .ok (.iload 4, 2) := by decide +kernel
theorem dc_Ma_all_78 : decode M_Ma_all.2.1 78 = .ok (.invokestatic 139, 3) := by decide +kernel
theorem dc_Ma_all_81 : decode M_Ma_all.2.1 81 = .ok (.if_icmp .le 16, 3) := by decide +kernel
theorem dc_Ma_all_84 : decode M_Ma_all.2.1 84 = .ok (.iload_n 3, 1) := by decide +kernel
theorem dc_Ma_all_85 : decode M_Ma_all.2.1 85 = .ok (.iload 6, 2) := by decide +kernel
theorem dc_Ma_all_87 : decode M_Ma_all.2.1 87 = .ok (.iand, 1) := by decide +kernel
theorem dc_Ma_all_88 : decode M_Ma_all.2.1 88 = .ok (.iload 6, 2) := by decide +kernel
theorem dc_Ma_all_90 : decode M_Ma_all.2.1 90 = .ok (.if_icmp .ne 7, 3) := by decide +kernel
theorem dc_Ma_all_93 : decode M_Ma_all.2.1 93 = .ok (.iload 5, 2) := by decide +kernel
theorem dc_Ma_all_95 : decode M_Ma_all.2.1 95 = .ok (.istore 4, 2) := by decide +kernel
theorem dc_Ma_all_97 : decode M_Ma_all.2.1 97 = .ok (.iinc 5 1, 3) := by decide +kernel
theorem dc_Ma_all_100 : decode M_Ma_all.2.1 100 = .ok (.goto (-52), 3) := by decide +kernel
theorem dc_Ma_all_103 : decode M_Ma_all.2.1 103 = .ok (.iload_n 2, 1) := by decide +kernel
theorem dc_Ma_all_104 : decode M_Ma_all.2.1 104 = .ok (.ifCond .ne 11, 3) := by decide +kernel
theorem dc_Ma_all_107 : decode M_Ma_all.2.1 107 = .ok (.iload 4, 2) := by decide +kernel
theorem dc_Ma_all_109 : decode M_Ma_all.2.1 109 = .ok (.invokestatic 139, 3) := by decide +kernel
theorem dc_Ma_all_112 : decode M_Ma_all.2.1 112 = .ok (.goto 5, 3) := by decide +kernel
theorem dc_Ma_all_115 : decode M_Ma_all.2.1 115 = .ok (.iload 4, 2) := by decide +kernel
theorem dc_Ma_all_117 : decode M_Ma_all.2.1 117 = .ok (.ireturn, 1) := by decide +kernel
def f_Ma_all_L48 (a0 : Nat) (a1 : Int32) (a2 : Int32) (a3 : Int32) : Nat → Int32 → Int32 → xH → (Int32 → Int32 → xH → Option (Int32 × xH)) → Option (Int32 × xH)
  | 0, _, _, _, _ => none
  | n + 1, a4, a5, h, K => gd (hK h a0 = 10) (gd (hK h (hR h a0 1) = 6) (Option.bind (f_Ta_everyone (hR h a0 1) h) (fun q23 => if q23.1 < a5 then K a4 a5 q23.2 else gd (hK q23.2 a0 = 10) (gd (hK q23.2 (hR q23.2 a0 0) = 3) (Option.bind (f_Se_within (hR q23.2 a0 0) a5 q23.2) (fun q27 => Option.bind (f_In_bitCount a5 q27.2) (fun q29 => Option.bind (f_In_bitCount a4 q29.2) (fun q30 => f_Ma_all_L48 a0 a1 a2 a3 n (if q29.1 ≤ q30.1 then a4 else if (a3 &&& q27.1) = q27.1 then a5 else a4) (a5 + (1 : Int32)) q30.2 K))))))))
def f_Ma_all (a0 : Nat) (a1 : Int32) (a2 : Int32) (h : xH) : Option (Int32 × xH) := Option.bind (f_Ma_isWithin a1 (1 : Int32) h) (fun q14 => jn (fun (x15 : xH) => some ((-2 : Int32), x15)) (fun k16 => if q14.1 = 0 then k16 q14.2 else Option.bind (f_Ma_isWithin a2 (1 : Int32) q14.2) (fun q18 => if q18.1 = 0 then k16 q18.2 else jn (fun (x20 : Int32) => f_Ma_all_L48 a0 a1 a2 x20 fu (0 : Int32) (1 : Int32) q18.2 (fun v34 v35 h36 => jn (fun (x37 : Int32 × xH) => some (x37.1, x37.2)) (fun k38 => if a2 = 0 then Option.bind (f_In_bitCount v34 h36) (fun q40 => k38 (q40.1, q40.2)) else k38 (v34, h36)))) (fun k21 => if a1 = (1 : Int32) then gd (hK q18.2 a0 = 10) (gd (hK q18.2 (hR q18.2 a0 1) = 6) (k21 (hI q18.2 (hR q18.2 a0 1) 2))) else gd (hK q18.2 a0 = 10) (gd (hK q18.2 (hR q18.2 a0 1) = 6) (k21 (hI q18.2 (hR q18.2 a0 1) 3)))))))
theorem t_Ma_all_L48 {l : Launch} {z : xZ} {d mc ms : Nat} {Ph : Option xV → xH → Prop} {a0 : Nat} {a1 : Int32} {a2 : Int32} {a3 : Int32}  (hd : 2 ≤ d) : ∀ (n : Nat) (a4 : Int32) (a5 : Int32) (h : xH) (K : Int32 → Int32 → xH → Option (Int32 × xH)), OK (f_Ma_all_L48 a0 a1 a2 a3 n a4 a5 h K) (fun q => Ph (some (xI q.1)) q.2) → (∀ (a4 : Int32) (a5 : Int32) (h : xH), OK (K a4 a5 h) (fun q => Ph (some (xI q.1)) q.2) → Sx l z d mc ms M_Ma_all 103 [some (xR a0), some (xI a1), some (xI a2), some (xI a3), some (xI a4), some (xI a5), none] [] h Ph) → Sx l z d mc ms M_Ma_all 48 [some (xR a0), some (xI a1), some (xI a2), some (xI a3), some (xI a4), some (xI a5), none] [] h Ph := by
  intro n
  induction n with
  | zero => intro a4 a5 h K hk hE; exact hk.no
  | succ n ih =>
    intro a4 a5 h K hk hE
    rw [f_Ma_all_L48] at hk
    refine sx_iload dc_Ma_all_48 rfl ?_
    refine sx_aload_n dc_Ma_all_50 rfl ?_
    obtain ⟨g22, hk⟩ := hk.g
    refine sx_get (ci := 10) (k := 1) rfl (by decide) wF_Ma_21 g22 dc_Ma_all_51 ?_
    obtain ⟨g24, hk⟩ := hk.g
    obtain ⟨q23, eq23, hk⟩ := hk.bind
    refine sx_callV (d2 := d - 1) (mc2 := 0) (ms2 := 0) (as := []) mk_Ta_everyone rfl (x_rk (ci := 6) g24 rfl rfl) wM_Ma_234 mi_Ta_everyone me_Ta_everyone rfl (Nat.le_of_ble_eq_true rfl) (Nat.le_of_ble_eq_true rfl) dc_Ma_all_54 (by omega) (Nat.zero_le _) (Nat.zero_le _) ?_
    refine t_Ta_everyone (by omega) ⟨q23, eq23, ?_⟩
    refine sx_eq0 (lc2 := [some (xR a0), some (xI a1), some (xI a2), some (xI a3), some (xI a4), some (xI a5), none]) (st2 := [xI q23.1, xI a5]) rfl rfl ?_
    refine sx_icmp_gt (tgt := 103) dc_Ma_all_57 (by decide) (fun c25 => ?_) (fun c25 => ?_)
    · replace hk := hk.t c25
      exact hE a4 a5 q23.2 hk
    · replace hk := hk.f c25
      refine sx_aload_n dc_Ma_all_60 rfl ?_
      obtain ⟨g26, hk⟩ := hk.g
      refine sx_get (ci := 10) (k := 0) rfl (by decide) wF_Ma_10 g26 dc_Ma_all_61 ?_
      refine sx_iload dc_Ma_all_64 rfl ?_
      obtain ⟨g28, hk⟩ := hk.g
      obtain ⟨q27, eq27, hk⟩ := hk.bind
      refine sx_callV (d2 := d - 1) (mc2 := 0) (ms2 := 0) (as := [xI a5]) mk_Se_within rfl (x_rk (ci := 3) g28 rfl rfl) wM_Ma_237 mi_Se_within me_Se_within rfl (Nat.le_of_ble_eq_true rfl) (Nat.le_of_ble_eq_true rfl) dc_Ma_all_66 (by omega) (Nat.zero_le _) (Nat.zero_le _) ?_
      refine t_Se_within (by omega) ⟨q27, eq27, ?_⟩
      refine sx_eq0 (lc2 := [some (xR a0), some (xI a1), some (xI a2), some (xI a3), some (xI a4), some (xI a5), none]) (st2 := [xI q27.1]) rfl rfl ?_
      refine sx_istore dc_Ma_all_69 (by decide) (sx_eq (lc2 := [some (xR a0), some (xI a1), some (xI a2), some (xI a3), some (xI a4), some (xI a5), some (xI q27.1)]) rfl rfl ?_)
      refine sx_iload dc_Ma_all_71 rfl ?_
      obtain ⟨q29, eq29, hk⟩ := hk.bind
      refine sx_callS (d2 := d - 1) (mc2 := 0) (ms2 := 0) (as := [xI a5]) mk_In_bitCount rfl wM_Ma_139 mt_In_bitCount rfl (Nat.le_of_ble_eq_true rfl) (Nat.le_of_ble_eq_true rfl) dc_Ma_all_73 (by omega) (Nat.zero_le _) (Nat.zero_le _) ?_
      refine t_In_bitCount (by omega) ⟨q29, eq29, ?_⟩
      refine sx_eq0 (lc2 := [some (xR a0), some (xI a1), some (xI a2), some (xI a3), some (xI a4), some (xI a5), some (xI q27.1)]) (st2 := [xI q29.1]) rfl rfl ?_
      refine sx_iload dc_Ma_all_76 rfl ?_
      obtain ⟨q30, eq30, hk⟩ := hk.bind
      refine sx_callS (d2 := d - 1) (mc2 := 0) (ms2 := 0) (as := [xI a4]) mk_In_bitCount rfl wM_Ma_139 mt_In_bitCount rfl (Nat.le_of_ble_eq_true rfl) (Nat.le_of_ble_eq_true rfl) dc_Ma_all_78 (by omega) (Nat.zero_le _) (Nat.zero_le _) ?_
      refine t_In_bitCount (by omega) ⟨q30, eq30, ?_⟩
      refine sx_eq0 (lc2 := [some (xR a0), some (xI a1), some (xI a2), some (xI a3), some (xI a4), some (xI a5), some (xI q27.1)]) (st2 := [xI q30.1, xI q29.1]) rfl rfl ?_
      refine sx_mg (pc2 := 97) (lc2 := [some (xR a0), some (xI a1), some (xI a2), some (xI a3), some (xI (if q29.1 ≤ q30.1 then a4 else if (a3 &&& q27.1) = q27.1 then a5 else a4)), some (xI a5), some (xI q27.1)]) (st2 := []) (h2 := q30.2) ?_ (fun J31 => ?_)
      · refine sx_iinc (v := (1 : Int32)) dc_Ma_all_97 rfl (by decide) (by decide) (sx_eq (lc2 := [some (xR a0), some (xI a1), some (xI a2), some (xI a3), some (xI (if q29.1 ≤ q30.1 then a4 else if (a3 &&& q27.1) = q27.1 then a5 else a4)), some (xI (a5 + (1 : Int32))), some (xI q27.1)]) rfl rfl ?_)
        refine sx_goto (tgt := 48) dc_Ma_all_100 (by decide) ?_
        exact sx_less (by simp [x_le]) (ih (if q29.1 ≤ q30.1 then a4 else if (a3 &&& q27.1) = q27.1 then a5 else a4) (a5 + (1 : Int32)) q30.2 _ hk hE)
      · refine sx_icmp_le (tgt := 97) dc_Ma_all_81 (by decide) (fun c32 => ?_) (fun c32 => ?_)
        · try simp only [if_pos c32] at J31
          exact J31
        · try simp only [if_neg c32] at J31
          refine sx_iload_n dc_Ma_all_84 rfl ?_
          refine sx_iload dc_Ma_all_85 rfl ?_
          refine sx_iand dc_Ma_all_87 ?_
          refine sx_iload dc_Ma_all_88 rfl ?_
          refine sx_icmp_ne (tgt := 97) dc_Ma_all_90 (by decide) (fun c33 => ?_) (fun c33 => ?_)
          · try simp only [if_neg c33] at J31
            exact J31
          · try simp only [if_pos c33] at J31
            refine sx_iload dc_Ma_all_93 rfl ?_
            refine sx_istore dc_Ma_all_95 (by decide) (sx_eq (lc2 := [some (xR a0), some (xI a1), some (xI a2), some (xI a3), some (xI a5), some (xI a5), some (xI q27.1)]) rfl rfl ?_)
            exact J31
theorem t_Ma_all {l : Launch} {z : xZ} {d mc ms : Nat} {Ph : Option xV → xH → Prop} {a0 : Nat} {a1 : Int32} {a2 : Int32}  {h : xH} (hd : 2 ≤ d) (hk : OK (f_Ma_all a0 a1 a2 h) (fun q => Ph (some (xI q.1)) q.2)) : Sx l z d mc ms M_Ma_all 0 (x_en [xR a0, xI a1, xI a2] 7) [] h Ph := by
  unfold f_Ma_all at hk
  refine sx_eq (lc2 := [some (xR a0), some (xI a1), some (xI a2), none, none, none, none]) rfl rfl ?_
  refine sx_iload_n dc_Ma_all_0 rfl ?_
  refine sx_iconst (v := (1 : Int32)) dc_Ma_all_1 (by decide) ?_
  obtain ⟨q14, eq14, hk⟩ := hk.bind
  refine sx_callS (d2 := d - 1) (mc2 := 0) (ms2 := 0) (as := [xI a1, xI (1 : Int32)]) mk_Ma_isWithin rfl wM_Ma_148 mt_Ma_isWithin rfl (Nat.le_of_ble_eq_true rfl) (Nat.le_of_ble_eq_true rfl) dc_Ma_all_2 (by omega) (Nat.zero_le _) (Nat.zero_le _) ?_
  refine t_Ma_isWithin (by omega) ⟨q14, eq14, ?_⟩
  refine sx_eq0 (lc2 := [some (xR a0), some (xI a1), some (xI a2), none, none, none, none]) (st2 := [xI q14.1]) rfl rfl ?_
  refine hk.j (X := fun x15 => Sx l z d mc ms M_Ma_all 16 [some (xR a0), some (xI a1), some (xI a2), none, none, none, none] [] x15 Ph) (fun x15 hk => ?_) (fun k16 jk16 hk => ?_)
  · refine sx_bipush (v := (-2 : Int32)) dc_Ma_all_16 (by decide) ?_
    exact sx_retI dc_Ma_all_18 rfl hk.val
  · refine sx_if_eq (tgt := 16) dc_Ma_all_5 (by decide) (fun c17 => ?_) (fun c17 => ?_)
    · replace hk := hk.t c17
      exact jk16 q14.2 hk
    · replace hk := hk.f c17
      refine sx_iload_n dc_Ma_all_8 rfl ?_
      refine sx_iconst (v := (1 : Int32)) dc_Ma_all_9 (by decide) ?_
      obtain ⟨q18, eq18, hk⟩ := hk.bind
      refine sx_callS (d2 := d - 1) (mc2 := 0) (ms2 := 0) (as := [xI a2, xI (1 : Int32)]) mk_Ma_isWithin rfl wM_Ma_148 mt_Ma_isWithin rfl (Nat.le_of_ble_eq_true rfl) (Nat.le_of_ble_eq_true rfl) dc_Ma_all_10 (by omega) (Nat.zero_le _) (Nat.zero_le _) ?_
      refine t_Ma_isWithin (by omega) ⟨q18, eq18, ?_⟩
      refine sx_eq0 (lc2 := [some (xR a0), some (xI a1), some (xI a2), none, none, none, none]) (st2 := [xI q18.1]) rfl rfl ?_
      refine sx_if_ne (tgt := 19) dc_Ma_all_13 (by decide) (fun c19 => ?_) (fun c19 => ?_)
      · replace hk := hk.f c19
        refine sx_iload_n dc_Ma_all_19 rfl ?_
        refine sx_iconst (v := (1 : Int32)) dc_Ma_all_20 (by decide) ?_
        refine hk.j (X := fun x20 => Sx l z d mc ms M_Ma_all 41 [some (xR a0), some (xI a1), some (xI a2), none, none, none, none] [xI x20] q18.2 Ph) (fun x20 hk => ?_) (fun k21 jk21 hk => ?_)
        · refine sx_istore_n dc_Ma_all_41 (by decide) (sx_eq (lc2 := [some (xR a0), some (xI a1), some (xI a2), some (xI x20), none, none, none]) rfl rfl ?_)
          refine sx_iconst (v := (0 : Int32)) dc_Ma_all_42 (by decide) ?_
          refine sx_istore dc_Ma_all_43 (by decide) (sx_eq (lc2 := [some (xR a0), some (xI a1), some (xI a2), some (xI x20), some (xI (0 : Int32)), none, none]) rfl rfl ?_)
          refine sx_iconst (v := (1 : Int32)) dc_Ma_all_45 (by decide) ?_
          refine sx_istore dc_Ma_all_46 (by decide) (sx_eq (lc2 := [some (xR a0), some (xI a1), some (xI a2), some (xI x20), some (xI (0 : Int32)), some (xI (1 : Int32)), none]) rfl rfl ?_)
          refine t_Ma_all_L48 (by omega) _ _ _ _ _ hk (fun v34 v35 h36 hk => ?_)
          refine sx_iload_n dc_Ma_all_103 rfl ?_
          refine hk.j (X := fun x37 => Sx l z d mc ms M_Ma_all 117 [some (xR a0), some (xI a1), some (xI a2), some (xI x20), some (xI v34), some (xI v35), none] [xI x37.1] x37.2 Ph) (fun x37 hk => ?_) (fun k38 jk38 hk => ?_)
          · exact sx_retI dc_Ma_all_117 rfl hk.val
          · refine sx_if_ne (tgt := 115) dc_Ma_all_104 (by decide) (fun c39 => ?_) (fun c39 => ?_)
            · replace hk := hk.f c39
              refine sx_iload dc_Ma_all_115 rfl ?_
              exact jk38 (v34, h36) hk
            · replace hk := hk.t c39
              refine sx_iload dc_Ma_all_107 rfl ?_
              obtain ⟨q40, eq40, hk⟩ := hk.bind
              refine sx_callS (d2 := d - 1) (mc2 := 0) (ms2 := 0) (as := [xI v34]) mk_In_bitCount rfl wM_Ma_139 mt_In_bitCount rfl (Nat.le_of_ble_eq_true rfl) (Nat.le_of_ble_eq_true rfl) dc_Ma_all_109 (by omega) (Nat.zero_le _) (Nat.zero_le _) ?_
              refine t_In_bitCount (by omega) ⟨q40, eq40, ?_⟩
              refine sx_eq0 (lc2 := [some (xR a0), some (xI a1), some (xI a2), some (xI x20), some (xI v34), some (xI v35), none]) (st2 := [xI q40.1]) rfl rfl ?_
              refine sx_goto (tgt := 117) dc_Ma_all_112 (by decide) ?_
              exact jk38 (q40.1, q40.2) hk
        · refine sx_icmp_ne (tgt := 34) dc_Ma_all_21 (by decide) (fun c41 => ?_) (fun c41 => ?_)
          · replace hk := hk.f c41
            refine sx_aload_n dc_Ma_all_34 rfl ?_
            obtain ⟨g42, hk⟩ := hk.g
            refine sx_get (ci := 10) (k := 1) rfl (by decide) wF_Ma_21 g42 dc_Ma_all_35 ?_
            obtain ⟨g43, hk⟩ := hk.g
            refine sx_get (ci := 6) (k := 3) rfl (by decide) wF_Ma_207 g43 dc_Ma_all_38 ?_
            exact jk21 (hI q18.2 (hR q18.2 a0 1) 3) hk
          · replace hk := hk.t c41
            refine sx_aload_n dc_Ma_all_24 rfl ?_
            obtain ⟨g44, hk⟩ := hk.g
            refine sx_get (ci := 10) (k := 1) rfl (by decide) wF_Ma_21 g44 dc_Ma_all_25 ?_
            obtain ⟨g45, hk⟩ := hk.g
            refine sx_get (ci := 6) (k := 2) rfl (by decide) wF_Ma_201 g45 dc_Ma_all_28 ?_
            refine sx_goto (tgt := 41) dc_Ma_all_31 (by decide) ?_
            exact jk21 (hI q18.2 (hR q18.2 a0 1) 2) hk
      · replace hk := hk.t c19
        exact jk16 q18.2 hk
theorem dc_Ma_friendsWithin_0 : decode M_Ma_friendsWithin.2.1 0 = .ok (.aload_n 0, 1) := by decide +kernel
theorem dc_Ma_friendsWithin_1 : decode M_Ma_friendsWithin.2.1 1 = .ok (.getfield 21, 3) := by decide +kernel
theorem dc_Ma_friendsWithin_4 : decode M_Ma_friendsWithin.2.1 4 = .ok (.getfield 201, 3) := by decide +kernel
theorem dc_Ma_friendsWithin_7 : decode M_Ma_friendsWithin.2.1 7 = .ok (.aload_n 0, 1) := by decide +kernel
theorem dc_Ma_friendsWithin_8 : decode M_Ma_friendsWithin.2.1 8 = .ok (.getfield 10, 3) := by decide +kernel
theorem dc_Ma_friendsWithin_11 : decode M_Ma_friendsWithin.2.1 11 = .ok (.iload_n 1, 1) := by decide +kernel
theorem dc_Ma_friendsWithin_12 : decode M_Ma_friendsWithin.2.1 12 = .ok (.invokevirtual 237, 3) := by decide +kernel
theorem dc_Ma_friendsWithin_15 : decode M_Ma_friendsWithin.2.1 15 = .ok (.iand, 1) := by decide +kernel
theorem dc_Ma_friendsWithin_16 : decode M_Ma_friendsWithin.2.1 16 = .ok (.invokestatic 139, 3) := by decide +kernel
theorem dc_Ma_friendsWithin_19 : decode M_Ma_friendsWithin.2.1 19 = .ok (.ireturn, 1) := by decide +kernel
def f_Ma_friendsWithin (a0 : Nat) (a1 : Int32) (h : xH) : Option (Int32 × xH) := gd (hK h a0 = 10) (gd (hK h (hR h a0 1) = 6) (gd (hK h (hR h a0 0) = 3) (Option.bind (f_Se_within (hR h a0 0) a1 h) (fun q8 => Option.bind (f_In_bitCount ((hI h (hR h a0 1) 2) &&& q8.1) q8.2) (fun q10 => some (q10.1, q10.2))))))
theorem t_Ma_friendsWithin {l : Launch} {z : xZ} {d mc ms : Nat} {Ph : Option xV → xH → Prop} {a0 : Nat} {a1 : Int32}  {h : xH} (hd : 2 ≤ d) (hk : OK (f_Ma_friendsWithin a0 a1 h) (fun q => Ph (some (xI q.1)) q.2)) : Sx l z d mc ms M_Ma_friendsWithin 0 (x_en [xR a0, xI a1] 2) [] h Ph := by
  unfold f_Ma_friendsWithin at hk
  refine sx_eq (lc2 := [some (xR a0), some (xI a1)]) rfl rfl ?_
  refine sx_aload_n dc_Ma_friendsWithin_0 rfl ?_
  obtain ⟨g6, hk⟩ := hk.g
  refine sx_get (ci := 10) (k := 1) rfl (by decide) wF_Ma_21 g6 dc_Ma_friendsWithin_1 ?_
  obtain ⟨g7, hk⟩ := hk.g
  refine sx_get (ci := 6) (k := 2) rfl (by decide) wF_Ma_201 g7 dc_Ma_friendsWithin_4 ?_
  refine sx_aload_n dc_Ma_friendsWithin_7 rfl ?_
  refine sx_get (ci := 10) (k := 0) rfl (by decide) wF_Ma_10 g6 dc_Ma_friendsWithin_8 ?_
  refine sx_iload_n dc_Ma_friendsWithin_11 rfl ?_
  obtain ⟨g9, hk⟩ := hk.g
  obtain ⟨q8, eq8, hk⟩ := hk.bind
  refine sx_callV (d2 := d - 1) (mc2 := 0) (ms2 := 0) (as := [xI a1]) mk_Se_within rfl (x_rk (ci := 3) g9 rfl rfl) wM_Ma_237 mi_Se_within me_Se_within rfl (Nat.le_of_ble_eq_true rfl) (Nat.le_of_ble_eq_true rfl) dc_Ma_friendsWithin_12 (by omega) (Nat.zero_le _) (Nat.zero_le _) ?_
  refine t_Se_within (by omega) ⟨q8, eq8, ?_⟩
  refine sx_eq0 (lc2 := [some (xR a0), some (xI a1)]) (st2 := [xI q8.1, xI (hI h (hR h a0 1) 2)]) rfl rfl ?_
  refine sx_iand dc_Ma_friendsWithin_15 ?_
  obtain ⟨q10, eq10, hk⟩ := hk.bind
  refine sx_callS (d2 := d - 1) (mc2 := 0) (ms2 := 0) (as := [xI ((hI h (hR h a0 1) 2) &&& q8.1)]) mk_In_bitCount rfl wM_Ma_139 mt_In_bitCount rfl (Nat.le_of_ble_eq_true rfl) (Nat.le_of_ble_eq_true rfl) dc_Ma_friendsWithin_16 (by omega) (Nat.zero_le _) (Nat.zero_le _) ?_
  refine t_In_bitCount (by omega) ⟨q10, eq10, ?_⟩
  refine sx_eq0 (lc2 := [some (xR a0), some (xI a1)]) (st2 := [xI q10.1]) rfl rfl ?_
  exact sx_retI dc_Ma_friendsWithin_19 rfl hk.val
theorem dc_Ma_halved_0 : decode M_Ma_halved.2.1 0 = .ok (.iload_n 1, 1) := by decide +kernel
theorem dc_Ma_halved_1 : decode M_Ma_halved.2.1 1 = .ok (.iconst 1, 1) := by decide +kernel
theorem dc_Ma_halved_2 : decode M_Ma_halved.2.1 2 = .ok (.invokestatic 148, 3) := by decide +kernel
theorem dc_Ma_halved_5 : decode M_Ma_halved.2.1 5 = .ok (.ifCond .ne 6, 3) := by decide +kernel
theorem dc_Ma_halved_8 : decode M_Ma_halved.2.1 8 = .ok (.bipush (-2), 2) := by decide +kernel
theorem dc_Ma_halved_10 : decode M_Ma_halved.2.1 10 = .ok (.ireturn, 1) := by decide +kernel
theorem dc_Ma_halved_11 : decode M_Ma_halved.2.1 11 = .ok (.iconst 0, 1) := by decide +kernel
theorem dc_Ma_halved_12 : decode M_Ma_halved.2.1 12 = .ok (.istore_n 2, 1) := by decide +kernel
theorem dc_Ma_halved_13 : decode M_Ma_halved.2.1 13 = .ok (.bipush 22, 2) := by decide +kernel
theorem dc_Ma_halved_15 : decode M_Ma_halved.2.1 15 = .ok (.istore_n 3, 1) := by decide +kernel
theorem dc_Ma_halved_16 : decode M_Ma_halved.2.1 16 = .ok (.iconst 1, 1) := by decide +kernel
theorem dc_Ma_halved_17 : decode M_Ma_halved.2.1 17 = .ok (.istore 4, 2) := by decide +kernel
theorem dc_Ma_halved_19 : decode M_Ma_halved.2.1 19 = .ok (.iload 4, 2) := by decide +kernel
theorem dc_Ma_halved_21 : decode M_Ma_halved.2.1 21 = .ok (.aload_n 0, 1) := by decide +kernel
theorem dc_Ma_halved_22 : decode M_Ma_halved.2.1 22 = .ok (.getfield 21, 3) := by decide +kernel
theorem dc_Ma_halved_25 : decode M_Ma_halved.2.1 25 = .ok (.invokevirtual 234, 3) := by decide +kernel
theorem dc_Ma_halved_28 : decode M_Ma_halved.2.1 28 = .ok (.if_icmp .gt 46, 3) := by decide +kernel
theorem dc_Ma_halved_31 : decode M_Ma_halved.2.1 31 = .ok (.aload_n 0, 1) := by decide +kernel
theorem dc_Ma_halved_32 : decode M_Ma_halved.2.1 32 = .ok (.iload 4, 2) := by decide +kernel
theorem dc_Ma_halved_34 : decode M_Ma_halved.2.1 34 = .ok (.invokevirtual 274, 3) := by decide +kernel
theorem dc_Ma_halved_37 : decode M_Ma_halved.2.1 37 = .ok (.aload_n 0, 1) := by decide +kernel
theorem dc_Ma_halved_38 : decode M_Ma_halved.2.1 38 = .ok (.aload_n 0, 1) := by decide +kernel
theorem dc_Ma_halved_39 : decode M_Ma_halved.2.1 39 = .ok (.getfield 21, 3) := by decide +kernel
theorem dc_Ma_halved_42 : decode M_Ma_halved.2.1 42 = .ok (.invokevirtual 234, 3) := by decide +kernel
theorem dc_Ma_halved_45 : decode M_Ma_halved.2.1 45 = .ok (.iload 4, 2) := by decide +kernel
theorem dc_Ma_halved_47 : decode M_Ma_halved.2.1 47 = .ok (.iconst (-1), 1) := by decide +kernel
theorem dc_Ma_halved_48 : decode M_Ma_halved.2.1 48 = .ok (.ixor, 1) := by decide +kernel
theorem dc_Ma_halved_49 : decode M_Ma_halved.2.1 49 = .ok (.iand, 1) := by decide +kernel
theorem dc_Ma_halved_50 : decode M_Ma_halved.2.1 50 = .ok (.invokevirtual 274, 3) := by decide +kernel
theorem dc_Ma_halved_53 : decode M_Ma_halved.2.1 53 = .ok (.iadd, 1) := by decide +kernel
theorem dc_Ma_halved_54 : decode M_Ma_halved.2.1 54 = .ok (.istore 5, 2) := by decide +kernel
theorem dc_Ma_halved_56 : decode M_Ma_halved.2.1 56 = .ok (.iload 5, 2) := by decide +kernel
theorem dc_Ma_halved_58 : decode M_Ma_halved.2.1 58 = .ok (.iload_n 3, 1) := by decide +kernel
theorem dc_Ma_halved_59 : decode M_Ma_halved.2.1 59 = .ok (.if_icmp .ge 9, 3) := by decide +kernel
theorem dc_Ma_halved_62 : decode M_Ma_halved.2.1 62 = .ok (.iload 5, 2) := by decide +kernel
theorem dc_Ma_halved_64 : decode M_Ma_halved.2.1 64 = .ok (.istore_n 3, 1) := by decide +kernel
theorem dc_Ma_halved_65 : decode M_Ma_halved.2.1 65 = .ok (.iload 4, 2) := by decide +kernel
theorem dc_Ma_halved_67 : decode M_Ma_halved.2.1 67 = .ok (.istore_n 2, 1) := by decide +kernel
theorem dc_Ma_halved_68 : decode M_Ma_halved.2.1 68 = .ok (.iinc 4 2, 3) := by decide +kernel
theorem dc_Ma_halved_71 : decode M_Ma_halved.2.1 71 = .ok (.goto (-52), 3) := by decide +kernel
theorem dc_Ma_halved_74 : decode M_Ma_halved.2.1 74 = .ok (.iload_n 1, 1) := by decide +kernel
theorem dc_Ma_halved_75 : decode M_Ma_halved.2.1 75 = .ok (.ifCond .ne 7, 3) := by decide +kernel
theorem dc_Ma_halved_78 : decode M_Ma_halved.2.1 78 = .ok (.iload_n 3, 1) := by decide +kernel
theorem dc_Ma_halved_79 : decode M_Ma_halved.2.1 79 = .ok (.goto 4, 3) := by decide +kernel
theorem dc_Ma_halved_82 : decode M_Ma_halved.2.1 82 = .ok (.iload_n 2, 1) := by decide +kernel
theorem dc_Ma_halved_83 : decode M_Ma_halved.2.1 83 = .ok (.ireturn, 1) := by decide +kernel
def f_Ma_halved_L19 (a0 : Nat) (a1 : Int32) : Nat → Int32 → Int32 → Int32 → xH → (Int32 → Int32 → Int32 → xH → Option (Int32 × xH)) → Option (Int32 × xH)
  | 0, _, _, _, _, _ => none
  | n + 1, a2, a3, a4, h, K => gd (hK h a0 = 10) (gd (hK h (hR h a0 1) = 6) (Option.bind (f_Ta_everyone (hR h a0 1) h) (fun q15 => if q15.1 < a4 then K a2 a3 a4 q15.2 else gd (hK q15.2 a0 = 10) (Option.bind (f_Ma_friendsWithin a0 a4 q15.2) (fun q18 => gd (hK q18.2 a0 = 10) (gd (hK q18.2 (hR q18.2 a0 1) = 6) (Option.bind (f_Ta_everyone (hR q18.2 a0 1) q18.2) (fun q21 => gd (hK q21.2 a0 = 10) (Option.bind (f_Ma_friendsWithin a0 (q21.1 &&& (a4 ^^^ (-1 : Int32))) q21.2) (fun q23 => f_Ma_halved_L19 a0 a1 n (if a3 ≤ (q18.1 + q23.1) then a2 else a4) (if a3 ≤ (q18.1 + q23.1) then a3 else q18.1 + q23.1) (a4 + (2 : Int32)) q23.2 K))))))))))
def f_Ma_halved (a0 : Nat) (a1 : Int32) (h : xH) : Option (Int32 × xH) := Option.bind (f_Ma_isWithin a1 (1 : Int32) h) (fun q12 => if q12.1 = 0 then some ((-2 : Int32), q12.2) else f_Ma_halved_L19 a0 a1 fu (0 : Int32) (22 : Int32) (1 : Int32) q12.2 (fun v27 v28 v29 h30 => some ((if a1 = 0 then v28 else v27), h30)))
theorem t_Ma_halved_L19 {l : Launch} {z : xZ} {d mc ms : Nat} {Ph : Option xV → xH → Prop} {a0 : Nat} {a1 : Int32}  (hd : 3 ≤ d) : ∀ (n : Nat) (a2 : Int32) (a3 : Int32) (a4 : Int32) (h : xH) (K : Int32 → Int32 → Int32 → xH → Option (Int32 × xH)), OK (f_Ma_halved_L19 a0 a1 n a2 a3 a4 h K) (fun q => Ph (some (xI q.1)) q.2) → (∀ (a2 : Int32) (a3 : Int32) (a4 : Int32) (h : xH), OK (K a2 a3 a4 h) (fun q => Ph (some (xI q.1)) q.2) → Sx l z d mc ms M_Ma_halved 74 [some (xR a0), some (xI a1), some (xI a2), some (xI a3), some (xI a4), none] [] h Ph) → Sx l z d mc ms M_Ma_halved 19 [some (xR a0), some (xI a1), some (xI a2), some (xI a3), some (xI a4), none] [] h Ph := by
  intro n
  induction n with
  | zero => intro a2 a3 a4 h K hk hE; exact hk.no
  | succ n ih =>
    intro a2 a3 a4 h K hk hE
    rw [f_Ma_halved_L19] at hk
    refine sx_iload dc_Ma_halved_19 rfl ?_
    refine sx_aload_n dc_Ma_halved_21 rfl ?_
    obtain ⟨g14, hk⟩ := hk.g
    refine sx_get (ci := 10) (k := 1) rfl (by decide) wF_Ma_21 g14 dc_Ma_halved_22 ?_
    obtain ⟨g16, hk⟩ := hk.g
    obtain ⟨q15, eq15, hk⟩ := hk.bind
    refine sx_callV (d2 := d - 1) (mc2 := 0) (ms2 := 0) (as := []) mk_Ta_everyone rfl (x_rk (ci := 6) g16 rfl rfl) wM_Ma_234 mi_Ta_everyone me_Ta_everyone rfl (Nat.le_of_ble_eq_true rfl) (Nat.le_of_ble_eq_true rfl) dc_Ma_halved_25 (by omega) (Nat.zero_le _) (Nat.zero_le _) ?_
    refine t_Ta_everyone (by omega) ⟨q15, eq15, ?_⟩
    refine sx_eq0 (lc2 := [some (xR a0), some (xI a1), some (xI a2), some (xI a3), some (xI a4), none]) (st2 := [xI q15.1, xI a4]) rfl rfl ?_
    refine sx_icmp_gt (tgt := 74) dc_Ma_halved_28 (by decide) (fun c17 => ?_) (fun c17 => ?_)
    · replace hk := hk.t c17
      exact hE a2 a3 a4 q15.2 hk
    · replace hk := hk.f c17
      refine sx_aload_n dc_Ma_halved_31 rfl ?_
      refine sx_iload dc_Ma_halved_32 rfl ?_
      obtain ⟨g19, hk⟩ := hk.g
      obtain ⟨q18, eq18, hk⟩ := hk.bind
      refine sx_callV (d2 := d - 1) (mc2 := 0) (ms2 := 0) (as := [xI a4]) mk_Ma_friendsWithin rfl (x_rk (ci := 10) g19 rfl rfl) wM_Ma_274 mi_Ma_friendsWithin me_Ma_friendsWithin rfl (Nat.le_of_ble_eq_true rfl) (Nat.le_of_ble_eq_true rfl) dc_Ma_halved_34 (by omega) (Nat.zero_le _) (Nat.zero_le _) ?_
      refine t_Ma_friendsWithin (by omega) ⟨q18, eq18, ?_⟩
      refine sx_eq0 (lc2 := [some (xR a0), some (xI a1), some (xI a2), some (xI a3), some (xI a4), none]) (st2 := [xI q18.1]) rfl rfl ?_
      refine sx_aload_n dc_Ma_halved_37 rfl ?_
      refine sx_aload_n dc_Ma_halved_38 rfl ?_
      obtain ⟨g20, hk⟩ := hk.g
      refine sx_get (ci := 10) (k := 1) rfl (by decide) wF_Ma_21 g20 dc_Ma_halved_39 ?_
      obtain ⟨g22, hk⟩ := hk.g
      obtain ⟨q21, eq21, hk⟩ := hk.bind
      refine sx_callV (d2 := d - 1) (mc2 := 0) (ms2 := 0) (as := []) mk_Ta_everyone rfl (x_rk (ci := 6) g22 rfl rfl) wM_Ma_234 mi_Ta_everyone me_Ta_everyone rfl (Nat.le_of_ble_eq_true rfl) (Nat.le_of_ble_eq_true rfl) dc_Ma_halved_42 (by omega) (Nat.zero_le _) (Nat.zero_le _) ?_
      refine t_Ta_everyone (by omega) ⟨q21, eq21, ?_⟩
      refine sx_eq0 (lc2 := [some (xR a0), some (xI a1), some (xI a2), some (xI a3), some (xI a4), none]) (st2 := [xI q21.1, xR a0, xI q18.1]) rfl rfl ?_
      refine sx_iload dc_Ma_halved_45 rfl ?_
      refine sx_iconst (v := (-1 : Int32)) dc_Ma_halved_47 (by decide) ?_
      refine sx_ixor dc_Ma_halved_48 ?_
      refine sx_iand dc_Ma_halved_49 ?_
      obtain ⟨g24, hk⟩ := hk.g
      obtain ⟨q23, eq23, hk⟩ := hk.bind
      refine sx_callV (d2 := d - 1) (mc2 := 0) (ms2 := 0) (as := [xI (q21.1 &&& (a4 ^^^ (-1 : Int32)))]) mk_Ma_friendsWithin rfl (x_rk (ci := 10) g24 rfl rfl) wM_Ma_274 mi_Ma_friendsWithin me_Ma_friendsWithin rfl (Nat.le_of_ble_eq_true rfl) (Nat.le_of_ble_eq_true rfl) dc_Ma_halved_50 (by omega) (Nat.zero_le _) (Nat.zero_le _) ?_
      refine t_Ma_friendsWithin (by omega) ⟨q23, eq23, ?_⟩
      refine sx_eq0 (lc2 := [some (xR a0), some (xI a1), some (xI a2), some (xI a3), some (xI a4), none]) (st2 := [xI q23.1, xI q18.1]) rfl rfl ?_
      refine sx_iadd dc_Ma_halved_53 ?_
      refine sx_istore dc_Ma_halved_54 (by decide) (sx_eq (lc2 := [some (xR a0), some (xI a1), some (xI a2), some (xI a3), some (xI a4), some (xI (q18.1 + q23.1))]) rfl rfl ?_)
      refine sx_iload dc_Ma_halved_56 rfl ?_
      refine sx_iload_n dc_Ma_halved_58 rfl ?_
      refine sx_mg (pc2 := 68) (lc2 := [some (xR a0), some (xI a1), some (xI (if a3 ≤ (q18.1 + q23.1) then a2 else a4)), some (xI (if a3 ≤ (q18.1 + q23.1) then a3 else q18.1 + q23.1)), some (xI a4), some (xI (q18.1 + q23.1))]) (st2 := []) (h2 := q23.2) ?_ (fun J25 => ?_)
      · refine sx_iinc (v := (2 : Int32)) dc_Ma_halved_68 rfl (by decide) (by decide) (sx_eq (lc2 := [some (xR a0), some (xI a1), some (xI (if a3 ≤ (q18.1 + q23.1) then a2 else a4)), some (xI (if a3 ≤ (q18.1 + q23.1) then a3 else q18.1 + q23.1)), some (xI (a4 + (2 : Int32))), some (xI (q18.1 + q23.1))]) rfl rfl ?_)
        refine sx_goto (tgt := 19) dc_Ma_halved_71 (by decide) ?_
        exact sx_less (by simp [x_le]) (ih (if a3 ≤ (q18.1 + q23.1) then a2 else a4) (if a3 ≤ (q18.1 + q23.1) then a3 else q18.1 + q23.1) (a4 + (2 : Int32)) q23.2 _ hk hE)
      · refine sx_icmp_ge (tgt := 68) dc_Ma_halved_59 (by decide) (fun c26 => ?_) (fun c26 => ?_)
        · try simp only [if_pos c26] at J25
          exact J25
        · try simp only [if_neg c26] at J25
          refine sx_iload dc_Ma_halved_62 rfl ?_
          refine sx_istore_n dc_Ma_halved_64 (by decide) (sx_eq (lc2 := [some (xR a0), some (xI a1), some (xI a2), some (xI (q18.1 + q23.1)), some (xI a4), some (xI (q18.1 + q23.1))]) rfl rfl ?_)
          refine sx_iload dc_Ma_halved_65 rfl ?_
          refine sx_istore_n dc_Ma_halved_67 (by decide) (sx_eq (lc2 := [some (xR a0), some (xI a1), some (xI a4), some (xI (q18.1 + q23.1)), some (xI a4), some (xI (q18.1 + q23.1))]) rfl rfl ?_)
          exact J25
theorem t_Ma_halved {l : Launch} {z : xZ} {d mc ms : Nat} {Ph : Option xV → xH → Prop} {a0 : Nat} {a1 : Int32}  {h : xH} (hd : 3 ≤ d) (hk : OK (f_Ma_halved a0 a1 h) (fun q => Ph (some (xI q.1)) q.2)) : Sx l z d mc ms M_Ma_halved 0 (x_en [xR a0, xI a1] 6) [] h Ph := by
  unfold f_Ma_halved at hk
  refine sx_eq (lc2 := [some (xR a0), some (xI a1), none, none, none, none]) rfl rfl ?_
  refine sx_iload_n dc_Ma_halved_0 rfl ?_
  refine sx_iconst (v := (1 : Int32)) dc_Ma_halved_1 (by decide) ?_
  obtain ⟨q12, eq12, hk⟩ := hk.bind
  refine sx_callS (d2 := d - 1) (mc2 := 0) (ms2 := 0) (as := [xI a1, xI (1 : Int32)]) mk_Ma_isWithin rfl wM_Ma_148 mt_Ma_isWithin rfl (Nat.le_of_ble_eq_true rfl) (Nat.le_of_ble_eq_true rfl) dc_Ma_halved_2 (by omega) (Nat.zero_le _) (Nat.zero_le _) ?_
  refine t_Ma_isWithin (by omega) ⟨q12, eq12, ?_⟩
  refine sx_eq0 (lc2 := [some (xR a0), some (xI a1), none, none, none, none]) (st2 := [xI q12.1]) rfl rfl ?_
  refine sx_if_ne (tgt := 11) dc_Ma_halved_5 (by decide) (fun c13 => ?_) (fun c13 => ?_)
  · replace hk := hk.f c13
    refine sx_iconst (v := (0 : Int32)) dc_Ma_halved_11 (by decide) ?_
    refine sx_istore_n dc_Ma_halved_12 (by decide) (sx_eq (lc2 := [some (xR a0), some (xI a1), some (xI (0 : Int32)), none, none, none]) rfl rfl ?_)
    refine sx_bipush (v := (22 : Int32)) dc_Ma_halved_13 (by decide) ?_
    refine sx_istore_n dc_Ma_halved_15 (by decide) (sx_eq (lc2 := [some (xR a0), some (xI a1), some (xI (0 : Int32)), some (xI (22 : Int32)), none, none]) rfl rfl ?_)
    refine sx_iconst (v := (1 : Int32)) dc_Ma_halved_16 (by decide) ?_
    refine sx_istore dc_Ma_halved_17 (by decide) (sx_eq (lc2 := [some (xR a0), some (xI a1), some (xI (0 : Int32)), some (xI (22 : Int32)), some (xI (1 : Int32)), none]) rfl rfl ?_)
    refine t_Ma_halved_L19 (by omega) _ _ _ _ _ _ hk (fun v27 v28 v29 h30 hk => ?_)
    refine sx_iload_n dc_Ma_halved_74 rfl ?_
    refine sx_mg (pc2 := 83) (lc2 := [some (xR a0), some (xI a1), some (xI v27), some (xI v28), some (xI v29), none]) (st2 := [xI (if a1 = 0 then v28 else v27)]) (h2 := h30) ?_ (fun J31 => ?_)
    · exact sx_retI dc_Ma_halved_83 rfl hk.val
    · refine sx_if_ne (tgt := 82) dc_Ma_halved_75 (by decide) (fun c32 => ?_) (fun c32 => ?_)
      · try simp only [if_neg c32] at J31
        refine sx_iload_n dc_Ma_halved_82 rfl ?_
        exact J31
      · try simp only [if_pos c32] at J31
        refine sx_iload_n dc_Ma_halved_78 rfl ?_
        refine sx_goto (tgt := 83) dc_Ma_halved_79 (by decide) ?_
        exact J31
  · replace hk := hk.t c13
    refine sx_bipush (v := (-2 : Int32)) dc_Ma_halved_8 (by decide) ?_
    exact sx_retI dc_Ma_halved_10 rfl hk.val
theorem dc_Ma_knownByBoth_0 : decode M_Ma_knownByBoth.2.1 0 = .ok (.aload_n 0, 1) := by decide +kernel
theorem dc_Ma_knownByBoth_1 : decode M_Ma_knownByBoth.2.1 1 = .ok (.getfield 21, 3) := by decide +kernel
theorem dc_Ma_knownByBoth_4 : decode M_Ma_knownByBoth.2.1 4 = .ok (.iload_n 1, 1) := by decide +kernel
theorem dc_Ma_knownByBoth_5 : decode M_Ma_knownByBoth.2.1 5 = .ok (.invokevirtual 219, 3) := by decide +kernel
theorem dc_Ma_knownByBoth_8 : decode M_Ma_knownByBoth.2.1 8 = .ok (.aload_n 0, 1) := by decide +kernel
theorem dc_Ma_knownByBoth_9 : decode M_Ma_knownByBoth.2.1 9 = .ok (.getfield 21, 3) := by decide +kernel
theorem dc_Ma_knownByBoth_12 : decode M_Ma_knownByBoth.2.1 12 = .ok (.iload_n 2, 1) := by decide +kernel
theorem dc_Ma_knownByBoth_13 : decode M_Ma_knownByBoth.2.1 13 = .ok (.invokevirtual 219, 3) := by decide +kernel
theorem dc_Ma_knownByBoth_16 : decode M_Ma_knownByBoth.2.1 16 = .ok (.iand, 1) := by decide +kernel
theorem dc_Ma_knownByBoth_17 : decode M_Ma_knownByBoth.2.1 17 = .ok (.invokestatic 139, 3) := by decide +kernel
theorem dc_Ma_knownByBoth_20 : decode M_Ma_knownByBoth.2.1 20 = .ok (.ireturn, 1) := by decide +kernel
def f_Ma_knownByBoth (a0 : Nat) (a1 : Int32) (a2 : Int32) (h : xH) : Option (Int32 × xH) := gd (hK h a0 = 10) (gd (hK h (hR h a0 1) = 6) (Option.bind (f_Ta_knownBy (hR h a0 1) a1 h) (fun q9 => gd (hK q9.2 a0 = 10) (gd (hK q9.2 (hR q9.2 a0 1) = 6) (Option.bind (f_Ta_knownBy (hR q9.2 a0 1) a2 q9.2) (fun q12 => Option.bind (f_In_bitCount (q9.1 &&& q12.1) q12.2) (fun q14 => some (q14.1, q14.2))))))))
theorem t_Ma_knownByBoth {l : Launch} {z : xZ} {d mc ms : Nat} {Ph : Option xV → xH → Prop} {a0 : Nat} {a1 : Int32} {a2 : Int32}  {h : xH} (hd : 4 ≤ d) (hk : OK (f_Ma_knownByBoth a0 a1 a2 h) (fun q => Ph (some (xI q.1)) q.2)) : Sx l z d mc ms M_Ma_knownByBoth 0 (x_en [xR a0, xI a1, xI a2] 3) [] h Ph := by
  unfold f_Ma_knownByBoth at hk
  refine sx_eq (lc2 := [some (xR a0), some (xI a1), some (xI a2)]) rfl rfl ?_
  refine sx_aload_n dc_Ma_knownByBoth_0 rfl ?_
  obtain ⟨g8, hk⟩ := hk.g
  refine sx_get (ci := 10) (k := 1) rfl (by decide) wF_Ma_21 g8 dc_Ma_knownByBoth_1 ?_
  refine sx_iload_n dc_Ma_knownByBoth_4 rfl ?_
  obtain ⟨g10, hk⟩ := hk.g
  obtain ⟨q9, eq9, hk⟩ := hk.bind
  refine sx_callV (d2 := d - 1) (mc2 := 0) (ms2 := 0) (as := [xI a1]) mk_Ta_knownBy rfl (x_rk (ci := 6) g10 rfl rfl) wM_Ma_219 mi_Ta_knownBy me_Ta_knownBy rfl (Nat.le_of_ble_eq_true rfl) (Nat.le_of_ble_eq_true rfl) dc_Ma_knownByBoth_5 (by omega) (Nat.zero_le _) (Nat.zero_le _) ?_
  refine t_Ta_knownBy (by omega) ⟨q9, eq9, ?_⟩
  refine sx_eq0 (lc2 := [some (xR a0), some (xI a1), some (xI a2)]) (st2 := [xI q9.1]) rfl rfl ?_
  refine sx_aload_n dc_Ma_knownByBoth_8 rfl ?_
  obtain ⟨g11, hk⟩ := hk.g
  refine sx_get (ci := 10) (k := 1) rfl (by decide) wF_Ma_21 g11 dc_Ma_knownByBoth_9 ?_
  refine sx_iload_n dc_Ma_knownByBoth_12 rfl ?_
  obtain ⟨g13, hk⟩ := hk.g
  obtain ⟨q12, eq12, hk⟩ := hk.bind
  refine sx_callV (d2 := d - 1) (mc2 := 0) (ms2 := 0) (as := [xI a2]) mk_Ta_knownBy rfl (x_rk (ci := 6) g13 rfl rfl) wM_Ma_219 mi_Ta_knownBy me_Ta_knownBy rfl (Nat.le_of_ble_eq_true rfl) (Nat.le_of_ble_eq_true rfl) dc_Ma_knownByBoth_13 (by omega) (Nat.zero_le _) (Nat.zero_le _) ?_
  refine t_Ta_knownBy (by omega) ⟨q12, eq12, ?_⟩
  refine sx_eq0 (lc2 := [some (xR a0), some (xI a1), some (xI a2)]) (st2 := [xI q12.1, xI q9.1]) rfl rfl ?_
  refine sx_iand dc_Ma_knownByBoth_16 ?_
  obtain ⟨q14, eq14, hk⟩ := hk.bind
  refine sx_callS (d2 := d - 1) (mc2 := 0) (ms2 := 0) (as := [xI (q9.1 &&& q12.1)]) mk_In_bitCount rfl wM_Ma_139 mt_In_bitCount rfl (Nat.le_of_ble_eq_true rfl) (Nat.le_of_ble_eq_true rfl) dc_Ma_knownByBoth_17 (by omega) (Nat.zero_le _) (Nat.zero_le _) ?_
  refine t_In_bitCount (by omega) ⟨q14, eq14, ?_⟩
  refine sx_eq0 (lc2 := [some (xR a0), some (xI a1), some (xI a2)]) (st2 := [xI q14.1]) rfl rfl ?_
  exact sx_retI dc_Ma_knownByBoth_20 rfl hk.val
theorem dc_Ma_fours_0 : decode M_Ma_fours.2.1 0 = .ok (.iconst 0, 1) := by decide +kernel
theorem dc_Ma_fours_1 : decode M_Ma_fours.2.1 1 = .ok (.istore_n 1, 1) := by decide +kernel
theorem dc_Ma_fours_2 : decode M_Ma_fours.2.1 2 = .ok (.iconst 1, 1) := by decide +kernel
theorem dc_Ma_fours_3 : decode M_Ma_fours.2.1 3 = .ok (.istore_n 2, 1) := by decide +kernel
theorem dc_Ma_fours_4 : decode M_Ma_fours.2.1 4 = .ok (.iload_n 2, 1) := by decide +kernel
theorem dc_Ma_fours_5 : decode M_Ma_fours.2.1 5 = .ok (.aload_n 0, 1) := by decide +kernel
theorem dc_Ma_fours_6 : decode M_Ma_fours.2.1 6 = .ok (.getfield 21, 3) := by decide +kernel
theorem dc_Ma_fours_9 : decode M_Ma_fours.2.1 9 = .ok (.getfield 100, 3) := by decide +kernel
theorem dc_Ma_fours_12 : decode M_Ma_fours.2.1 12 = .ok (.if_icmp .ge 42, 3) := by decide +kernel
theorem dc_Ma_fours_15 : decode M_Ma_fours.2.1 15 = .ok (.iconst 0, 1) := by decide +kernel
theorem dc_Ma_fours_16 : decode M_Ma_fours.2.1 16 = .ok (.istore_n 3, 1) := by decide +kernel
theorem dc_Ma_fours_17 : decode M_Ma_fours.2.1 17 = .ok (.iload_n 3, 1) := by decide +kernel
theorem dc_Ma_fours_18 : decode M_Ma_fours.2.1 18 = .ok (.iload_n 2, 1) := by decide +kernel
theorem dc_Ma_fours_19 : decode M_Ma_fours.2.1 19 = .ok (.if_icmp .ge 29, 3) := by decide +kernel
theorem dc_Ma_fours_22 : decode M_Ma_fours.2.1 22 = .ok (.aload_n 0, 1) := by decide +kernel
theorem dc_Ma_fours_23 : decode M_Ma_fours.2.1 23 = .ok (.iload_n 3, 1) := by decide +kernel
theorem dc_Ma_fours_24 : decode M_Ma_fours.2.1 24 = .ok (.iload_n 2, 1) := by decide +kernel
theorem dc_Ma_fours_25 : decode M_Ma_fours.2.1 25 = .ok (.invokevirtual 277, 3) := by decide +kernel
theorem dc_Ma_fours_28 : decode M_Ma_fours.2.1 28 = .ok (.istore 4, 2) := by decide +kernel
theorem dc_Ma_fours_30 : decode M_Ma_fours.2.1 30 = .ok (.iload_n 1, 1) := by decide +kernel
theorem dc_Ma_fours_31 : decode M_Ma_fours.2.1 31 = .ok (.iload 4, 2) := by decide +kernel
theorem dc_Ma_fours_33 : decode M_Ma_fours.2.1 33 = .ok (.iload 4, 2) := by decide +kernel
theorem dc_Ma_fours_35 : decode M_Ma_fours.2.1 35 = .ok (.iconst 1, 1) := by decide +kernel
theorem dc_Ma_fours_36 : decode M_Ma_fours.2.1 36 = .ok (.isub, 1) := by decide +kernel
theorem dc_Ma_fours_37 : decode M_Ma_fours.2.1 37 = .ok (.imul, 1) := by decide +kernel
theorem dc_Ma_fours_38 : decode M_Ma_fours.2.1 38 = .ok (.iconst 2, 1) := by decide +kernel
theorem dc_Ma_fours_39 : decode M_Ma_fours.2.1 39 = .ok (.idiv, 1) := by decide +kernel
theorem dc_Ma_fours_40 : decode M_Ma_fours.2.1 40 = .ok (.iadd, 1) := by decide +kernel
theorem dc_Ma_fours_41 : decode M_Ma_fours.2.1 41 = .ok (.istore_n 1, 1) := by decide +kernel
theorem dc_Ma_fours_42 : decode M_Ma_fours.2.1 42 = .ok (.iinc 3 1, 3) := by decide +kernel
theorem dc_Ma_fours_45 : decode M_Ma_fours.2.1 45 = .ok (.goto (-28), 3) := by decide +kernel
theorem dc_Ma_fours_48 : decode M_Ma_fours.2.1 48 = .ok (.iinc 2 1, 3) := by decide +kernel
theorem dc_Ma_fours_51 : decode M_Ma_fours.2.1 51 = .ok (.goto (-47), 3) := by decide +kernel
theorem dc_Ma_fours_54 : decode M_Ma_fours.2.1 54 = .ok (.iload_n 1, 1) := by decide +kernel
theorem dc_Ma_fours_55 : decode M_Ma_fours.2.1 55 = .ok (.iconst 2, 1) := by decide +kernel
theorem dc_Ma_fours_56 : decode M_Ma_fours.2.1 56 = .ok (.idiv, 1) := by decide +kernel
theorem dc_Ma_fours_57 : decode M_Ma_fours.2.1 57 = .ok (.ireturn, 1) := by decide +kernel
def f_Ma_fours_L17 (a0 : Nat) (a2 : Int32) : Nat → Int32 → Int32 → xH → (Int32 → Int32 → xH → Option (Int32 × xH)) → Option (Int32 × xH)
  | 0, _, _, _, _ => none
  | n + 1, a1, a3, h, K => if a2 ≤ a3 then K a1 a3 h else gd (hK h a0 = 10) (Option.bind (f_Ma_knownByBoth a0 a3 a2 h) (fun q8 => f_Ma_fours_L17 a0 a2 n (a1 + ((q8.1 * (q8.1 - (1 : Int32))) / (2 : Int32))) (a3 + (1 : Int32)) q8.2 K))
def f_Ma_fours_L4 (a0 : Nat) : Nat → Int32 → Int32 → xH → (Int32 → Int32 → xH → Option (Int32 × xH)) → Option (Int32 × xH)
  | 0, _, _, _, _ => none
  | n + 1, a1, a2, h, K => gd (hK h a0 = 10) (gd (hK h (hR h a0 1) = 6) (if (hI h (hR h a0 1) 1) ≤ a2 then K a1 a2 h else f_Ma_fours_L17 a0 a2 fu a1 (0 : Int32) h (fun v10 v11 h12 => f_Ma_fours_L4 a0 n v10 (a2 + (1 : Int32)) h12 K)))
def f_Ma_fours (a0 : Nat) (h : xH) : Option (Int32 × xH) := f_Ma_fours_L4 a0 fu (0 : Int32) (1 : Int32) h (fun v13 v14 h15 => some (v13 / (2 : Int32), h15))
theorem t_Ma_fours_L17 {l : Launch} {z : xZ} {d mc ms : Nat} {Ph : Option xV → xH → Prop} {a0 : Nat} {a2 : Int32}  (hd : 5 ≤ d) : ∀ (n : Nat) (a1 : Int32) (a3 : Int32) (h : xH) (K : Int32 → Int32 → xH → Option (Int32 × xH)), OK (f_Ma_fours_L17 a0 a2 n a1 a3 h K) (fun q => Ph (some (xI q.1)) q.2) → (∀ (a1 : Int32) (a3 : Int32) (h : xH), OK (K a1 a3 h) (fun q => Ph (some (xI q.1)) q.2) → Sx l z d mc ms M_Ma_fours 48 [some (xR a0), some (xI a1), some (xI a2), some (xI a3), none] [] h Ph) → Sx l z d mc ms M_Ma_fours 17 [some (xR a0), some (xI a1), some (xI a2), some (xI a3), none] [] h Ph := by
  intro n
  induction n with
  | zero => intro a1 a3 h K hk hE; exact hk.no
  | succ n ih =>
    intro a1 a3 h K hk hE
    rw [f_Ma_fours_L17] at hk
    refine sx_iload_n dc_Ma_fours_17 rfl ?_
    refine sx_iload_n dc_Ma_fours_18 rfl ?_
    refine sx_icmp_ge (tgt := 48) dc_Ma_fours_19 (by decide) (fun c7 => ?_) (fun c7 => ?_)
    · replace hk := hk.t c7
      exact hE a1 a3 h hk
    · replace hk := hk.f c7
      refine sx_aload_n dc_Ma_fours_22 rfl ?_
      refine sx_iload_n dc_Ma_fours_23 rfl ?_
      refine sx_iload_n dc_Ma_fours_24 rfl ?_
      obtain ⟨g9, hk⟩ := hk.g
      obtain ⟨q8, eq8, hk⟩ := hk.bind
      refine sx_callV (d2 := d - 1) (mc2 := 0) (ms2 := 0) (as := [xI a3, xI a2]) mk_Ma_knownByBoth rfl (x_rk (ci := 10) g9 rfl rfl) wM_Ma_277 mi_Ma_knownByBoth me_Ma_knownByBoth rfl (Nat.le_of_ble_eq_true rfl) (Nat.le_of_ble_eq_true rfl) dc_Ma_fours_25 (by omega) (Nat.zero_le _) (Nat.zero_le _) ?_
      refine t_Ma_knownByBoth (by omega) ⟨q8, eq8, ?_⟩
      refine sx_eq0 (lc2 := [some (xR a0), some (xI a1), some (xI a2), some (xI a3), none]) (st2 := [xI q8.1]) rfl rfl ?_
      refine sx_istore dc_Ma_fours_28 (by decide) (sx_eq (lc2 := [some (xR a0), some (xI a1), some (xI a2), some (xI a3), some (xI q8.1)]) rfl rfl ?_)
      refine sx_iload_n dc_Ma_fours_30 rfl ?_
      refine sx_iload dc_Ma_fours_31 rfl ?_
      refine sx_iload dc_Ma_fours_33 rfl ?_
      refine sx_iconst (v := (1 : Int32)) dc_Ma_fours_35 (by decide) ?_
      refine sx_isub dc_Ma_fours_36 ?_
      refine sx_imul dc_Ma_fours_37 ?_
      refine sx_iconst (v := (2 : Int32)) dc_Ma_fours_38 (by decide) ?_
      refine sx_idiv dc_Ma_fours_39 (by decide) ?_
      refine sx_iadd dc_Ma_fours_40 ?_
      refine sx_istore_n dc_Ma_fours_41 (by decide) (sx_eq (lc2 := [some (xR a0), some (xI (a1 + ((q8.1 * (q8.1 - (1 : Int32))) / (2 : Int32)))), some (xI a2), some (xI a3), some (xI q8.1)]) rfl rfl ?_)
      refine sx_iinc (v := (1 : Int32)) dc_Ma_fours_42 rfl (by decide) (by decide) (sx_eq (lc2 := [some (xR a0), some (xI (a1 + ((q8.1 * (q8.1 - (1 : Int32))) / (2 : Int32)))), some (xI a2), some (xI (a3 + (1 : Int32))), some (xI q8.1)]) rfl rfl ?_)
      refine sx_goto (tgt := 17) dc_Ma_fours_45 (by decide) ?_
      exact sx_less (by simp [x_le]) (ih (a1 + ((q8.1 * (q8.1 - (1 : Int32))) / (2 : Int32))) (a3 + (1 : Int32)) q8.2 _ hk hE)
theorem t_Ma_fours_L4 {l : Launch} {z : xZ} {d mc ms : Nat} {Ph : Option xV → xH → Prop} {a0 : Nat}  (hd : 5 ≤ d) : ∀ (n : Nat) (a1 : Int32) (a2 : Int32) (h : xH) (K : Int32 → Int32 → xH → Option (Int32 × xH)), OK (f_Ma_fours_L4 a0 n a1 a2 h K) (fun q => Ph (some (xI q.1)) q.2) → (∀ (a1 : Int32) (a2 : Int32) (h : xH), OK (K a1 a2 h) (fun q => Ph (some (xI q.1)) q.2) → Sx l z d mc ms M_Ma_fours 54 [some (xR a0), some (xI a1), some (xI a2), none, none] [] h Ph) → Sx l z d mc ms M_Ma_fours 4 [some (xR a0), some (xI a1), some (xI a2), none, none] [] h Ph := by
  intro n
  induction n with
  | zero => intro a1 a2 h K hk hE; exact hk.no
  | succ n ih =>
    intro a1 a2 h K hk hE
    rw [f_Ma_fours_L4] at hk
    refine sx_iload_n dc_Ma_fours_4 rfl ?_
    refine sx_aload_n dc_Ma_fours_5 rfl ?_
    obtain ⟨g4, hk⟩ := hk.g
    refine sx_get (ci := 10) (k := 1) rfl (by decide) wF_Ma_21 g4 dc_Ma_fours_6 ?_
    obtain ⟨g5, hk⟩ := hk.g
    refine sx_get (ci := 6) (k := 1) rfl (by decide) wF_Ma_100 g5 dc_Ma_fours_9 ?_
    refine sx_icmp_ge (tgt := 54) dc_Ma_fours_12 (by decide) (fun c6 => ?_) (fun c6 => ?_)
    · replace hk := hk.t c6
      exact hE a1 a2 h hk
    · replace hk := hk.f c6
      refine sx_iconst (v := (0 : Int32)) dc_Ma_fours_15 (by decide) ?_
      refine sx_istore_n dc_Ma_fours_16 (by decide) (sx_eq (lc2 := [some (xR a0), some (xI a1), some (xI a2), some (xI (0 : Int32)), none]) rfl rfl ?_)
      refine t_Ma_fours_L17 (by omega) _ _ _ _ _ hk (fun v10 v11 h12 hk => ?_)
      refine sx_iinc (v := (1 : Int32)) dc_Ma_fours_48 rfl (by decide) (by decide) (sx_eq (lc2 := [some (xR a0), some (xI v10), some (xI (a2 + (1 : Int32))), some (xI v11), none]) rfl rfl ?_)
      refine sx_goto (tgt := 4) dc_Ma_fours_51 (by decide) ?_
      exact sx_less (by simp [x_le]) (ih v10 (a2 + (1 : Int32)) h12 _ hk hE)
theorem t_Ma_fours {l : Launch} {z : xZ} {d mc ms : Nat} {Ph : Option xV → xH → Prop} {a0 : Nat}  {h : xH} (hd : 5 ≤ d) (hk : OK (f_Ma_fours a0 h) (fun q => Ph (some (xI q.1)) q.2)) : Sx l z d mc ms M_Ma_fours 0 (x_en [xR a0] 5) [] h Ph := by
  unfold f_Ma_fours at hk
  refine sx_eq (lc2 := [some (xR a0), none, none, none, none]) rfl rfl ?_
  refine sx_iconst (v := (0 : Int32)) dc_Ma_fours_0 (by decide) ?_
  refine sx_istore_n dc_Ma_fours_1 (by decide) (sx_eq (lc2 := [some (xR a0), some (xI (0 : Int32)), none, none, none]) rfl rfl ?_)
  refine sx_iconst (v := (1 : Int32)) dc_Ma_fours_2 (by decide) ?_
  refine sx_istore_n dc_Ma_fours_3 (by decide) (sx_eq (lc2 := [some (xR a0), some (xI (0 : Int32)), some (xI (1 : Int32)), none, none]) rfl rfl ?_)
  refine t_Ma_fours_L4 (by omega) _ _ _ _ _ hk (fun v13 v14 h15 hk => ?_)
  refine sx_iload_n dc_Ma_fours_54 rfl ?_
  refine sx_iconst (v := (2 : Int32)) dc_Ma_fours_55 (by decide) ?_
  refine sx_idiv dc_Ma_fours_56 (by decide) ?_
  exact sx_retI dc_Ma_fours_57 rfl hk.val
theorem dc_Ma_whoKnowsAll_0 : decode M_Ma_whoKnowsAll.2.1 0 = .ok (.iconst 0, 1) := by decide +kernel
theorem dc_Ma_whoKnowsAll_1 : decode M_Ma_whoKnowsAll.2.1 1 = .ok (.istore_n 1, 1) := by decide +kernel
theorem dc_Ma_whoKnowsAll_2 : decode M_Ma_whoKnowsAll.2.1 2 = .ok (.iload_n 1, 1) := by decide +kernel
theorem dc_Ma_whoKnowsAll_3 : decode M_Ma_whoKnowsAll.2.1 3 = .ok (.aload_n 0, 1) := by decide +kernel
theorem dc_Ma_whoKnowsAll_4 : decode M_Ma_whoKnowsAll.2.1 4 = .ok (.getfield 21, 3) := by decide +kernel
theorem dc_Ma_whoKnowsAll_7 : decode M_Ma_whoKnowsAll.2.1 7 = .ok (.getfield 100, 3) := by decide +kernel
theorem dc_Ma_whoKnowsAll_10 : decode M_Ma_whoKnowsAll.2.1 10 = .ok (.if_icmp .ge 34, 3) := by decide +kernel
theorem dc_Ma_whoKnowsAll_13 : decode M_Ma_whoKnowsAll.2.1 13 = .ok (.aload_n 0, 1) := by decide +kernel
theorem dc_Ma_whoKnowsAll_14 : decode M_Ma_whoKnowsAll.2.1 14 = .ok (.getfield 21, 3) := by decide +kernel
theorem dc_Ma_whoKnowsAll_17 : decode M_Ma_whoKnowsAll.2.1 17 = .ok (.iload_n 1, 1) := by decide +kernel
theorem dc_Ma_whoKnowsAll_18 : decode M_Ma_whoKnowsAll.2.1 18 = .ok (.invokevirtual 219, 3) := by decide +kernel
theorem dc_Ma_whoKnowsAll_21 : decode M_Ma_whoKnowsAll.2.1 21 = .ok (.invokestatic 139, 3) := by decide +kernel
theorem dc_Ma_whoKnowsAll_24 : decode M_Ma_whoKnowsAll.2.1 24 = .ok (.aload_n 0, 1) := by decide +kernel
theorem dc_Ma_whoKnowsAll_25 : decode M_Ma_whoKnowsAll.2.1 25 = .ok (.getfield 21, 3) := by decide +kernel
theorem dc_Ma_whoKnowsAll_28 : decode M_Ma_whoKnowsAll.2.1 28 = .ok (.getfield 100, 3) := by decide +kernel
theorem dc_Ma_whoKnowsAll_31 : decode M_Ma_whoKnowsAll.2.1 31 = .ok (.iconst 1, 1) := by decide +kernel
theorem dc_Ma_whoKnowsAll_32 : decode M_Ma_whoKnowsAll.2.1 32 = .ok (.isub, 1) := by decide +kernel
theorem dc_Ma_whoKnowsAll_33 : decode M_Ma_whoKnowsAll.2.1 33 = .ok (.if_icmp .ne 5, 3) := by decide +kernel
theorem dc_Ma_whoKnowsAll_36 : decode M_Ma_whoKnowsAll.2.1 36 = .ok (.iload_n 1, 1) := by decide +kernel
theorem dc_Ma_whoKnowsAll_37 : decode M_Ma_whoKnowsAll.2.1 37 = .ok (.ireturn, 1) := by decide +kernel
theorem dc_Ma_whoKnowsAll_38 : decode M_Ma_whoKnowsAll.2.1 38 = .ok (.iinc 1 1, 3) := by decide +kernel
theorem dc_Ma_whoKnowsAll_41 : decode M_Ma_whoKnowsAll.2.1 41 = .ok (.goto (-39), 3) := by decide +kernel
theorem dc_Ma_whoKnowsAll_44 : decode M_Ma_whoKnowsAll.2.1 44 = .ok (.iconst (-1), 1) := by decide +kernel
theorem dc_Ma_whoKnowsAll_45 : decode M_Ma_whoKnowsAll.2.1 45 = .ok (.ireturn, 1) := by decide +kernel
def f_Ma_whoKnowsAll_L2 (a0 : Nat) : Nat → Int32 → xH → (Int32 → xH → Option (Int32 × xH)) → Option (Int32 × xH)
  | 0, _, _, _ => none
  | n + 1, a1, h, K => gd (hK h a0 = 10) (gd (hK h (hR h a0 1) = 6) (if (hI h (hR h a0 1) 1) ≤ a1 then K a1 h else Option.bind (f_Ta_knownBy (hR h a0 1) a1 h) (fun q10 => Option.bind (f_In_bitCount q10.1 q10.2) (fun q11 => gd (hK q11.2 a0 = 10) (gd (hK q11.2 (hR q11.2 a0 1) = 6) (if q11.1 = ((hI q11.2 (hR q11.2 a0 1) 1) - (1 : Int32)) then some (a1, q11.2) else f_Ma_whoKnowsAll_L2 a0 n (a1 + (1 : Int32)) q11.2 K))))))
def f_Ma_whoKnowsAll (a0 : Nat) (h : xH) : Option (Int32 × xH) := f_Ma_whoKnowsAll_L2 a0 fu (0 : Int32) h (fun v15 h16 => some ((-1 : Int32), h16))
theorem t_Ma_whoKnowsAll_L2 {l : Launch} {z : xZ} {d mc ms : Nat} {Ph : Option xV → xH → Prop} {a0 : Nat}  (hd : 4 ≤ d) : ∀ (n : Nat) (a1 : Int32) (h : xH) (K : Int32 → xH → Option (Int32 × xH)), OK (f_Ma_whoKnowsAll_L2 a0 n a1 h K) (fun q => Ph (some (xI q.1)) q.2) → (∀ (a1 : Int32) (h : xH), OK (K a1 h) (fun q => Ph (some (xI q.1)) q.2) → Sx l z d mc ms M_Ma_whoKnowsAll 44 [some (xR a0), some (xI a1)] [] h Ph) → Sx l z d mc ms M_Ma_whoKnowsAll 2 [some (xR a0), some (xI a1)] [] h Ph := by
  intro n
  induction n with
  | zero => intro a1 h K hk hE; exact hk.no
  | succ n ih =>
    intro a1 h K hk hE
    rw [f_Ma_whoKnowsAll_L2] at hk
    refine sx_iload_n dc_Ma_whoKnowsAll_2 rfl ?_
    refine sx_aload_n dc_Ma_whoKnowsAll_3 rfl ?_
    obtain ⟨g7, hk⟩ := hk.g
    refine sx_get (ci := 10) (k := 1) rfl (by decide) wF_Ma_21 g7 dc_Ma_whoKnowsAll_4 ?_
    obtain ⟨g8, hk⟩ := hk.g
    refine sx_get (ci := 6) (k := 1) rfl (by decide) wF_Ma_100 g8 dc_Ma_whoKnowsAll_7 ?_
    refine sx_icmp_ge (tgt := 44) dc_Ma_whoKnowsAll_10 (by decide) (fun c9 => ?_) (fun c9 => ?_)
    · replace hk := hk.t c9
      exact hE a1 h hk
    · replace hk := hk.f c9
      refine sx_aload_n dc_Ma_whoKnowsAll_13 rfl ?_
      refine sx_get (ci := 10) (k := 1) rfl (by decide) wF_Ma_21 g7 dc_Ma_whoKnowsAll_14 ?_
      refine sx_iload_n dc_Ma_whoKnowsAll_17 rfl ?_
      obtain ⟨q10, eq10, hk⟩ := hk.bind
      refine sx_callV (d2 := d - 1) (mc2 := 0) (ms2 := 0) (as := [xI a1]) mk_Ta_knownBy rfl (x_rk (ci := 6) g8 rfl rfl) wM_Ma_219 mi_Ta_knownBy me_Ta_knownBy rfl (Nat.le_of_ble_eq_true rfl) (Nat.le_of_ble_eq_true rfl) dc_Ma_whoKnowsAll_18 (by omega) (Nat.zero_le _) (Nat.zero_le _) ?_
      refine t_Ta_knownBy (by omega) ⟨q10, eq10, ?_⟩
      refine sx_eq0 (lc2 := [some (xR a0), some (xI a1)]) (st2 := [xI q10.1]) rfl rfl ?_
      obtain ⟨q11, eq11, hk⟩ := hk.bind
      refine sx_callS (d2 := d - 1) (mc2 := 0) (ms2 := 0) (as := [xI q10.1]) mk_In_bitCount rfl wM_Ma_139 mt_In_bitCount rfl (Nat.le_of_ble_eq_true rfl) (Nat.le_of_ble_eq_true rfl) dc_Ma_whoKnowsAll_21 (by omega) (Nat.zero_le _) (Nat.zero_le _) ?_
      refine t_In_bitCount (by omega) ⟨q11, eq11, ?_⟩
      refine sx_eq0 (lc2 := [some (xR a0), some (xI a1)]) (st2 := [xI q11.1]) rfl rfl ?_
      refine sx_aload_n dc_Ma_whoKnowsAll_24 rfl ?_
      obtain ⟨g12, hk⟩ := hk.g
      refine sx_get (ci := 10) (k := 1) rfl (by decide) wF_Ma_21 g12 dc_Ma_whoKnowsAll_25 ?_
      obtain ⟨g13, hk⟩ := hk.g
      refine sx_get (ci := 6) (k := 1) rfl (by decide) wF_Ma_100 g13 dc_Ma_whoKnowsAll_28 ?_
      refine sx_iconst (v := (1 : Int32)) dc_Ma_whoKnowsAll_31 (by decide) ?_
      refine sx_isub dc_Ma_whoKnowsAll_32 ?_
      refine sx_icmp_ne (tgt := 38) dc_Ma_whoKnowsAll_33 (by decide) (fun c14 => ?_) (fun c14 => ?_)
      · replace hk := hk.f c14
        refine sx_iinc (v := (1 : Int32)) dc_Ma_whoKnowsAll_38 rfl (by decide) (by decide) (sx_eq (lc2 := [some (xR a0), some (xI (a1 + (1 : Int32)))]) rfl rfl ?_)
        refine sx_goto (tgt := 2) dc_Ma_whoKnowsAll_41 (by decide) ?_
        exact ih (a1 + (1 : Int32)) q11.2 _ hk hE
      · replace hk := hk.t c14
        refine sx_iload_n dc_Ma_whoKnowsAll_36 rfl ?_
        exact sx_retI dc_Ma_whoKnowsAll_37 rfl hk.val
theorem t_Ma_whoKnowsAll {l : Launch} {z : xZ} {d mc ms : Nat} {Ph : Option xV → xH → Prop} {a0 : Nat}  {h : xH} (hd : 4 ≤ d) (hk : OK (f_Ma_whoKnowsAll a0 h) (fun q => Ph (some (xI q.1)) q.2)) : Sx l z d mc ms M_Ma_whoKnowsAll 0 (x_en [xR a0] 2) [] h Ph := by
  unfold f_Ma_whoKnowsAll at hk
  refine sx_eq (lc2 := [some (xR a0), none]) rfl rfl ?_
  refine sx_iconst (v := (0 : Int32)) dc_Ma_whoKnowsAll_0 (by decide) ?_
  refine sx_istore_n dc_Ma_whoKnowsAll_1 (by decide) (sx_eq (lc2 := [some (xR a0), some (xI (0 : Int32))]) rfl rfl ?_)
  refine t_Ma_whoKnowsAll_L2 (by omega) _ _ _ _ hk (fun v15 h16 hk => ?_)
  refine sx_iconst (v := (-1 : Int32)) dc_Ma_whoKnowsAll_44 (by decide) ?_
  exact sx_retI dc_Ma_whoKnowsAll_45 rfl hk.val
theorem dc_Ma_common_0 : decode M_Ma_common.2.1 0 = .ok (.iload_n 1, 1) := by decide +kernel
theorem dc_Ma_common_1 : decode M_Ma_common.2.1 1 = .ok (.iconst 1, 1) := by decide +kernel
theorem dc_Ma_common_2 : decode M_Ma_common.2.1 2 = .ok (.invokestatic 148, 3) := by decide +kernel
theorem dc_Ma_common_5 : decode M_Ma_common.2.1 5 = .ok (.ifCond .ne 6, 3) := by decide +kernel
theorem dc_Ma_common_8 : decode M_Ma_common.2.1 8 = .ok (.bipush (-2), 2) := by decide +kernel
theorem dc_Ma_common_10 : decode M_Ma_common.2.1 10 = .ok (.ireturn, 1) := by decide +kernel
theorem dc_Ma_common_11 : decode M_Ma_common.2.1 11 = .ok (.iload_n 1, 1) := by decide +kernel
theorem dc_Ma_common_12 : decode M_Ma_common.2.1 12 = .ok (.iconst 1, 1) := by decide +kernel
theorem dc_Ma_common_13 : decode M_Ma_common.2.1 13 = .ok (.if_icmp .ne 8, 3) := by decide +kernel
theorem dc_Ma_common_16 : decode M_Ma_common.2.1 16 = .ok (.aload_n 0, 1) := by decide +kernel
theorem dc_Ma_common_17 : decode M_Ma_common.2.1 17 = .ok (.invokevirtual 280, 3) := by decide +kernel
theorem dc_Ma_common_20 : decode M_Ma_common.2.1 20 = .ok (.ireturn, 1) := by decide +kernel
theorem dc_Ma_common_21 : decode M_Ma_common.2.1 21 = .ok (.iconst 1, 1) := by decide +kernel
theorem dc_Ma_common_22 : decode M_Ma_common.2.1 22 = .ok (.istore_n 2, 1) := by decide +kernel
theorem dc_Ma_common_23 : decode M_Ma_common.2.1 23 = .ok (.iload_n 2, 1) := by decide +kernel
theorem dc_Ma_common_24 : decode M_Ma_common.2.1 24 = .ok (.aload_n 0, 1) := by decide +kernel
theorem dc_Ma_common_25 : decode M_Ma_common.2.1 25 = .ok (.getfield 21, 3) := by decide +kernel
theorem dc_Ma_common_28 : decode M_Ma_common.2.1 28 = .ok (.getfield 100, 3) := by decide +kernel
theorem dc_Ma_common_31 : decode M_Ma_common.2.1 31 = .ok (.if_icmp .ge 34, 3) := by decide +kernel
theorem dc_Ma_common_34 : decode M_Ma_common.2.1 34 = .ok (.iconst 0, 1) := by decide +kernel
theorem dc_Ma_common_35 : decode M_Ma_common.2.1 35 = .ok (.istore_n 3, 1) := by decide +kernel
theorem dc_Ma_common_36 : decode M_Ma_common.2.1 36 = .ok (.iload_n 3, 1) := by decide +kernel
theorem dc_Ma_common_37 : decode M_Ma_common.2.1 37 = .ok (.iload_n 2, 1) := by decide +kernel
theorem dc_Ma_common_38 : decode M_Ma_common.2.1 38 = .ok (.if_icmp .ge 21, 3) := by decide +kernel
theorem dc_Ma_common_41 : decode M_Ma_common.2.1 41 = .ok (.aload_n 0, 1) := by decide +kernel
theorem dc_Ma_common_42 : decode M_Ma_common.2.1 42 = .ok (.iload_n 3, 1) := by decide +kernel
theorem dc_Ma_common_43 : decode M_Ma_common.2.1 43 = .ok (.iload_n 2, 1) := by decide +kernel
theorem dc_Ma_common_44 : decode M_Ma_common.2.1 44 = .ok (.invokevirtual 277, 3) := by decide +kernel
theorem dc_Ma_common_47 : decode M_Ma_common.2.1 47 = .ok (.iconst 1, 1) := by decide +kernel
theorem dc_Ma_common_48 : decode M_Ma_common.2.1 48 = .ok (.if_icmp .eq 5, 3) := by decide +kernel
theorem dc_Ma_common_51 : decode M_Ma_common.2.1 51 = .ok (.iconst 0, 1) := by decide +kernel
theorem dc_Ma_common_52 : decode M_Ma_common.2.1 52 = .ok (.ireturn, 1) := by decide +kernel
theorem dc_Ma_common_53 : decode M_Ma_common.2.1 53 = .ok (.iinc 3 1, 3) := by decide +kernel
theorem dc_Ma_common_56 : decode M_Ma_common.2.1 56 = .ok (.goto (-20), 3) := by decide +kernel
theorem dc_Ma_common_59 : decode M_Ma_common.2.1 59 = .ok (.iinc 2 1, 3) := by decide +kernel
theorem dc_Ma_common_62 : decode M_Ma_common.2.1 62 = .ok (.goto (-39), 3) := by decide +kernel
theorem dc_Ma_common_65 : decode M_Ma_common.2.1 65 = .ok (.iconst 1, 1) := by decide +kernel
theorem dc_Ma_common_66 : decode M_Ma_common.2.1 66 = .ok (.ireturn, 1) := by decide +kernel
def f_Ma_common_L36 (a0 : Nat) (a1 : Int32) (a2 : Int32) : Nat → Int32 → xH → (Int32 → xH → Option (Int32 × xH)) → Option (Int32 × xH)
  | 0, _, _, _ => none
  | n + 1, a3, h, K => if a2 ≤ a3 then K a3 h else gd (hK h a0 = 10) (Option.bind (f_Ma_knownByBoth a0 a3 a2 h) (fun q14 => if q14.1 = (1 : Int32) then f_Ma_common_L36 a0 a1 a2 n (a3 + (1 : Int32)) q14.2 K else some ((0 : Int32), q14.2)))
def f_Ma_common_L23 (a0 : Nat) (a1 : Int32) : Nat → Int32 → xH → (Int32 → xH → Option (Int32 × xH)) → Option (Int32 × xH)
  | 0, _, _, _ => none
  | n + 1, a2, h, K => gd (hK h a0 = 10) (gd (hK h (hR h a0 1) = 6) (if (hI h (hR h a0 1) 1) ≤ a2 then K a2 h else f_Ma_common_L36 a0 a1 a2 fu (0 : Int32) h (fun v17 h18 => f_Ma_common_L23 a0 a1 n (a2 + (1 : Int32)) h18 K)))
def f_Ma_common (a0 : Nat) (a1 : Int32) (h : xH) : Option (Int32 × xH) := Option.bind (f_Ma_isWithin a1 (1 : Int32) h) (fun q7 => if q7.1 = 0 then some ((-2 : Int32), q7.2) else if a1 = (1 : Int32) then gd (hK q7.2 a0 = 10) (Option.bind (f_Ma_whoKnowsAll a0 q7.2) (fun q21 => some (q21.1, q21.2))) else f_Ma_common_L23 a0 a1 fu (1 : Int32) q7.2 (fun v19 h20 => some ((1 : Int32), h20)))
theorem t_Ma_common_L36 {l : Launch} {z : xZ} {d mc ms : Nat} {Ph : Option xV → xH → Prop} {a0 : Nat} {a1 : Int32} {a2 : Int32}  (hd : 5 ≤ d) : ∀ (n : Nat) (a3 : Int32) (h : xH) (K : Int32 → xH → Option (Int32 × xH)), OK (f_Ma_common_L36 a0 a1 a2 n a3 h K) (fun q => Ph (some (xI q.1)) q.2) → (∀ (a3 : Int32) (h : xH), OK (K a3 h) (fun q => Ph (some (xI q.1)) q.2) → Sx l z d mc ms M_Ma_common 59 [some (xR a0), some (xI a1), some (xI a2), some (xI a3)] [] h Ph) → Sx l z d mc ms M_Ma_common 36 [some (xR a0), some (xI a1), some (xI a2), some (xI a3)] [] h Ph := by
  intro n
  induction n with
  | zero => intro a3 h K hk hE; exact hk.no
  | succ n ih =>
    intro a3 h K hk hE
    rw [f_Ma_common_L36] at hk
    refine sx_iload_n dc_Ma_common_36 rfl ?_
    refine sx_iload_n dc_Ma_common_37 rfl ?_
    refine sx_icmp_ge (tgt := 59) dc_Ma_common_38 (by decide) (fun c13 => ?_) (fun c13 => ?_)
    · replace hk := hk.t c13
      exact hE a3 h hk
    · replace hk := hk.f c13
      refine sx_aload_n dc_Ma_common_41 rfl ?_
      refine sx_iload_n dc_Ma_common_42 rfl ?_
      refine sx_iload_n dc_Ma_common_43 rfl ?_
      obtain ⟨g15, hk⟩ := hk.g
      obtain ⟨q14, eq14, hk⟩ := hk.bind
      refine sx_callV (d2 := d - 1) (mc2 := 0) (ms2 := 0) (as := [xI a3, xI a2]) mk_Ma_knownByBoth rfl (x_rk (ci := 10) g15 rfl rfl) wM_Ma_277 mi_Ma_knownByBoth me_Ma_knownByBoth rfl (Nat.le_of_ble_eq_true rfl) (Nat.le_of_ble_eq_true rfl) dc_Ma_common_44 (by omega) (Nat.zero_le _) (Nat.zero_le _) ?_
      refine t_Ma_knownByBoth (by omega) ⟨q14, eq14, ?_⟩
      refine sx_eq0 (lc2 := [some (xR a0), some (xI a1), some (xI a2), some (xI a3)]) (st2 := [xI q14.1]) rfl rfl ?_
      refine sx_iconst (v := (1 : Int32)) dc_Ma_common_47 (by decide) ?_
      refine sx_icmp_eq (tgt := 53) dc_Ma_common_48 (by decide) (fun c16 => ?_) (fun c16 => ?_)
      · replace hk := hk.t c16
        refine sx_iinc (v := (1 : Int32)) dc_Ma_common_53 rfl (by decide) (by decide) (sx_eq (lc2 := [some (xR a0), some (xI a1), some (xI a2), some (xI (a3 + (1 : Int32)))]) rfl rfl ?_)
        refine sx_goto (tgt := 36) dc_Ma_common_56 (by decide) ?_
        exact ih (a3 + (1 : Int32)) q14.2 _ hk hE
      · replace hk := hk.f c16
        refine sx_iconst (v := (0 : Int32)) dc_Ma_common_51 (by decide) ?_
        exact sx_retI dc_Ma_common_52 rfl hk.val
theorem t_Ma_common_L23 {l : Launch} {z : xZ} {d mc ms : Nat} {Ph : Option xV → xH → Prop} {a0 : Nat} {a1 : Int32}  (hd : 5 ≤ d) : ∀ (n : Nat) (a2 : Int32) (h : xH) (K : Int32 → xH → Option (Int32 × xH)), OK (f_Ma_common_L23 a0 a1 n a2 h K) (fun q => Ph (some (xI q.1)) q.2) → (∀ (a2 : Int32) (h : xH), OK (K a2 h) (fun q => Ph (some (xI q.1)) q.2) → Sx l z d mc ms M_Ma_common 65 [some (xR a0), some (xI a1), some (xI a2), none] [] h Ph) → Sx l z d mc ms M_Ma_common 23 [some (xR a0), some (xI a1), some (xI a2), none] [] h Ph := by
  intro n
  induction n with
  | zero => intro a2 h K hk hE; exact hk.no
  | succ n ih =>
    intro a2 h K hk hE
    rw [f_Ma_common_L23] at hk
    refine sx_iload_n dc_Ma_common_23 rfl ?_
    refine sx_aload_n dc_Ma_common_24 rfl ?_
    obtain ⟨g10, hk⟩ := hk.g
    refine sx_get (ci := 10) (k := 1) rfl (by decide) wF_Ma_21 g10 dc_Ma_common_25 ?_
    obtain ⟨g11, hk⟩ := hk.g
    refine sx_get (ci := 6) (k := 1) rfl (by decide) wF_Ma_100 g11 dc_Ma_common_28 ?_
    refine sx_icmp_ge (tgt := 65) dc_Ma_common_31 (by decide) (fun c12 => ?_) (fun c12 => ?_)
    · replace hk := hk.t c12
      exact hE a2 h hk
    · replace hk := hk.f c12
      refine sx_iconst (v := (0 : Int32)) dc_Ma_common_34 (by decide) ?_
      refine sx_istore_n dc_Ma_common_35 (by decide) (sx_eq (lc2 := [some (xR a0), some (xI a1), some (xI a2), some (xI (0 : Int32))]) rfl rfl ?_)
      refine t_Ma_common_L36 (by omega) _ _ _ _ hk (fun v17 h18 hk => ?_)
      refine sx_iinc (v := (1 : Int32)) dc_Ma_common_59 rfl (by decide) (by decide) (sx_eq (lc2 := [some (xR a0), some (xI a1), some (xI (a2 + (1 : Int32))), some (xI v17)]) rfl rfl ?_)
      refine sx_goto (tgt := 23) dc_Ma_common_62 (by decide) ?_
      exact sx_less (by simp [x_le]) (ih (a2 + (1 : Int32)) h18 _ hk hE)
theorem t_Ma_common {l : Launch} {z : xZ} {d mc ms : Nat} {Ph : Option xV → xH → Prop} {a0 : Nat} {a1 : Int32}  {h : xH} (hd : 5 ≤ d) (hk : OK (f_Ma_common a0 a1 h) (fun q => Ph (some (xI q.1)) q.2)) : Sx l z d mc ms M_Ma_common 0 (x_en [xR a0, xI a1] 4) [] h Ph := by
  unfold f_Ma_common at hk
  refine sx_eq (lc2 := [some (xR a0), some (xI a1), none, none]) rfl rfl ?_
  refine sx_iload_n dc_Ma_common_0 rfl ?_
  refine sx_iconst (v := (1 : Int32)) dc_Ma_common_1 (by decide) ?_
  obtain ⟨q7, eq7, hk⟩ := hk.bind
  refine sx_callS (d2 := d - 1) (mc2 := 0) (ms2 := 0) (as := [xI a1, xI (1 : Int32)]) mk_Ma_isWithin rfl wM_Ma_148 mt_Ma_isWithin rfl (Nat.le_of_ble_eq_true rfl) (Nat.le_of_ble_eq_true rfl) dc_Ma_common_2 (by omega) (Nat.zero_le _) (Nat.zero_le _) ?_
  refine t_Ma_isWithin (by omega) ⟨q7, eq7, ?_⟩
  refine sx_eq0 (lc2 := [some (xR a0), some (xI a1), none, none]) (st2 := [xI q7.1]) rfl rfl ?_
  refine sx_if_ne (tgt := 11) dc_Ma_common_5 (by decide) (fun c8 => ?_) (fun c8 => ?_)
  · replace hk := hk.f c8
    refine sx_iload_n dc_Ma_common_11 rfl ?_
    refine sx_iconst (v := (1 : Int32)) dc_Ma_common_12 (by decide) ?_
    refine sx_icmp_ne (tgt := 21) dc_Ma_common_13 (by decide) (fun c9 => ?_) (fun c9 => ?_)
    · replace hk := hk.f c9
      refine sx_iconst (v := (1 : Int32)) dc_Ma_common_21 (by decide) ?_
      refine sx_istore_n dc_Ma_common_22 (by decide) (sx_eq (lc2 := [some (xR a0), some (xI a1), some (xI (1 : Int32)), none]) rfl rfl ?_)
      refine t_Ma_common_L23 (by omega) _ _ _ _ hk (fun v19 h20 hk => ?_)
      refine sx_iconst (v := (1 : Int32)) dc_Ma_common_65 (by decide) ?_
      exact sx_retI dc_Ma_common_66 rfl hk.val
    · replace hk := hk.t c9
      refine sx_aload_n dc_Ma_common_16 rfl ?_
      obtain ⟨g22, hk⟩ := hk.g
      obtain ⟨q21, eq21, hk⟩ := hk.bind
      refine sx_callV (d2 := d - 1) (mc2 := 0) (ms2 := 0) (as := []) mk_Ma_whoKnowsAll rfl (x_rk (ci := 10) g22 rfl rfl) wM_Ma_280 mi_Ma_whoKnowsAll me_Ma_whoKnowsAll rfl (Nat.le_of_ble_eq_true rfl) (Nat.le_of_ble_eq_true rfl) dc_Ma_common_17 (by omega) (Nat.zero_le _) (Nat.zero_le _) ?_
      refine t_Ma_whoKnowsAll (by omega) ⟨q21, eq21, ?_⟩
      refine sx_eq0 (lc2 := [some (xR a0), some (xI a1), none, none]) (st2 := [xI q21.1]) rfl rfl ?_
      exact sx_retI dc_Ma_common_20 rfl hk.val
  · replace hk := hk.t c8
    refine sx_bipush (v := (-2 : Int32)) dc_Ma_common_8 (by decide) ?_
    exact sx_retI dc_Ma_common_10 rfl hk.val

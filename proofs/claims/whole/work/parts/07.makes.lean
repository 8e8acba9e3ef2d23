section XN
variable {l : Launch} {z : xZ} {d mc ms : Nat} {M : xM} {pc : Nat} {lc : List (Option xV)} {st : List xV} {h : xH} {Ph : Option xV → xH → Prop}
theorem x_okN {kd ln : Nat} (ho : x_ok h) : x_ok (hNw h kd ln) := by
  refine ⟨Nat.succ_le_succ (Nat.zero_le _), fun p k => ?_, fun p hp => ?_⟩
  · show (if p = hN h then 0 else hR h p k) < hN h + 1
    split
    · omega
    · have := ho.2.1 p k; omega
  · have hp2 : p = 0 ∨ hN h + 1 ≤ p := hp
    show (if p = hN h then kd else hK h p) = 99
    have := ho.1
    rw [if_neg (by omega)]
    exact ho.2.2 p (by omega)
theorem x_g_new {cA : Nat → ClassId} {al : Nat → Nat} {kd ln a q : Nat} (ho : x_ok h) (hq : q < hN h) : x_g cA (va_up al (hN h) a) (hNw h kd ln) q = x_g cA al h q := by
  have n0 : q ≠ hN h := by omega
  have e1 : hK (hNw h kd ln) q = hK h q := if_neg n0
  have e2 : hL (hNw h kd ln) q = hL h q := if_neg n0
  have e3 : hI (hNw h kd ln) q = hI h q := by funext j; exact if_neg n0
  have e4 : hR (hNw h kd ln) q = hR h q := by funext j; exact if_neg n0
  have e6 : ∀ j, x_r (va_up al (hN h) a) (hR h q j) = x_r al (hR h q j) := by
    intro j
    have := ho.2.1 q j
    unfold x_r va_up
    rw [if_neg (show ¬ hR h q j = hN h by omega)]
  have e5 : ∀ (n : Nat) (t : Nat → FieldType), x_fs (va_up al (hN h) a) (hNw h kd ln) q n t = x_fs al h q n t := by
    intro n t
    unfold x_fs
    congr 1
    funext k
    unfold x_fv
    rw [e3, e4, e6]
  unfold x_g
  rw [e1, e2, e3, e4]
  simp only [e5, e6]
theorem x_g_born {cA : Nat → ClassId} {al : Nat → Nat} {ci : Nat} {q : vw_C × (Nat → FieldType)} (hc : xcl[ci]? = some q) : x_g cA al (hNw h ci 0) (hN h) = .inr (ci, x_fs (fun _ => 0) (hNw h ci 0) (hN h) q.1.2.2 q.2) := by
  rw [x_g_obj (h := hNw h ci 0) (p := hN h) (ci := ci) (show hK (hNw h ci 0) (hN h) = ci from if_pos rfl) hc]
  congr 2
  unfold x_fs
  congr 1
  funext k
  unfold x_fv
  have e : hR (hNw h ci 0) (hN h) k = 0 := if_pos rfl
  rw [e]
  rfl
theorem x_dfl {ty : FieldType} {k p : Nat} {h : xH} (h1 : hI h p k = 0) (h2 : hR h p k = 0) (ht : x_isI ty = true ∨ x_isR ty = true) : defaultValue ty = x_fv (fun _ => 0) h p ty k := by
  unfold x_fv
  rw [h1, h2]
  cases ty <;> first | rfl | (rcases ht with ht | ht <;> cases ht; done) | decide
def x_tyok (q : vw_C × (Nat → FieldType)) : Prop := ∀ k, k < q.1.2.2 → x_isI (q.2 k) = true ∨ x_isR (q.2 k) = true
theorem x_tyall : ∀ q ∈ xcl, x_tyok q := by
  unfold xcl x_tyok
  refine List.forall_mem_cons.mpr ⟨by decide, List.forall_mem_cons.mpr ⟨by decide, List.forall_mem_cons.mpr ⟨by decide, List.forall_mem_cons.mpr ⟨by decide, List.forall_mem_cons.mpr ⟨by decide, List.forall_mem_cons.mpr ⟨by decide, List.forall_mem_cons.mpr ⟨by decide, List.forall_mem_cons.mpr ⟨by decide, List.forall_mem_cons.mpr ⟨by decide, List.forall_mem_cons.mpr ⟨by decide, List.forall_mem_cons.mpr ⟨by decide +kernel, List.forall_mem_cons.mpr ⟨by decide +kernel, fun _ h => absurd h List.not_mem_nil⟩⟩⟩⟩⟩⟩⟩⟩⟩⟩⟩⟩
theorem sx_new {ci idx : Nat} {q : vw_C × (Nat → FieldType)} (hc : xcl[ci]? = some q) (hcl : Cond.classLink M.1.cls idx q.1.1 ∈ xTB) (hins : Cond.instantiable q.1.1 q.1.2.2 ∈ xTB) (hini : Cond.initialized q.1.1 ∈ xTB) (hd : decode M.2.1 pc = .ok (.new idx, 3)) (hmc : 1 ≤ mc) (hms : q.1.2.2 ≤ ms) (kk : Sx l z d (mc - 1) (ms - q.1.2.2) M (pc + 3) lc (xR (hN h) :: st) (hNw h ci 0) Ph) : Sx l z d mc ms M pc lc st h Ph := by
  intro pp e R s m args below meth c D cA ka A Q n0 a0 mcT msT hC gR hE H locs cells slots al ls h1 h2 h3 h4 hB gL hv
  have hts := hC.2.2.2.2.2.1
  have ho := hB.2.2.2
  refine va_new (ci := ci) (fs := x_fs (fun _ => 0) (hNw h ci 0) (hN h) q.1.2.2 q.2) hC.1 hC.2.1 hts (x_cok hc).1 q.2 (fun k hk => ((x_cok hc).2.1 k hk).1) hC.2.2.2.2.1 (hts _ hcl) (hts _ hins) (hts _ hini) hC.2.2.2.2.2.2.1 hB.1 hB.2.1 hB.2.2.1 hC.2.2.2.2.2.2.2.2.2.1 (x_C_at hc) (fun j hj => ?_) (by omega) (by omega) hd (fun a H1 hP hD hS => ?_)
  · unfold vp_V
    rw [List.getD_eq_getElem?_getD, x_fs_at hj]
    exact x_dfl (if_pos rfl) (if_pos rfl) (x_tyall q (List.mem_of_getElem? hc) j hj)
  · rw [← x_g_born (cA := cA) (al := va_up al (hN h) a) hc, x_w_push ho.1 rfl (fun q hq => x_g_new ho hq)] at hP hD
    have hal : ∀ q, q < hN h → va_up al (hN h) a q = al q := fun q hq => if_neg (by omega)
    have kk9 := kk pp e R s m args below meth c D cA ka A Q n0 a0 mcT msT hC gR hE H1 locs (cells + 1) (slots + q.1.2.2) (va_up al (hN h) a) ls (by omega) (by omega) (fun q hq => (hal q (by omega)).trans (h3 q hq)) (Nat.le_trans h4 (Nat.le_succ _)) ⟨hP, hD, hS, x_okN ho⟩ (gL.moved (Nat.le_succ _) hal) (List.forall_mem_cons.mpr ⟨Nat.lt_succ_self _, fun v hm => x_vo_mono (Nat.le_succ _) (hv v hm)⟩)
    rw [List.map_cons, x_t_R (by have := ho.1; omega), x_st_moved hv hal, show va_up al (hN h) a (hN h) = a from if_pos rfl] at kk9
    exact kk9
theorem x_g_bornI {cA : Nat → ClassId} {al : Nat → Nat} {kd N : Nat} (hk : kd = 12 ∨ kd = 13) : x_g cA al (hNw h kd N) (hN h) = .inl (cA kd, (N, .inl (fun _ => 0))) := by
  rw [x_g_int (h := hNw h kd N) (p := hN h) (ci := kd) (show hK (hNw h kd N) (hN h) = kd from if_pos rfl) hk]
  have e1 : hL (hNw h kd N) (hN h) = N := if_pos rfl
  have e2 : hI (hNw h kd N) (hN h) = fun _ => 0 := by funext j; exact if_pos rfl
  rw [e1, e2]
theorem x_g_bornR {cA : Nat → ClassId} {al : Nat → Nat} {kd N : Nat} (hk : 14 ≤ kd ∧ kd ≤ 16) : x_g cA al (hNw h kd N) (hN h) = .inl (cA kd, (N, .inr (.inr (.inr (.inr (fun _ => none)))))) := by
  rw [x_g_ref (h := hNw h kd N) (p := hN h) (ci := kd) (show hK (hNw h kd N) (hN h) = kd from if_pos rfl) hk]
  have e1 : hL (hNw h kd N) (hN h) = N := if_pos rfl
  have e2 : ∀ j, hR (hNw h kd N) (hN h) j = 0 := fun j => if_pos rfl
  rw [e1]
  simp only [e2]
  rfl
theorem sx_newI {n : Int32} {N : Nat} (h0 : ¬ n < 0) (hN9 : n.toNatClampNeg = N) (hb : N * componentBytes .int ≤ 536870912) (hw : Cond.arrayClass .int ∈ xTB) (hd : decode M.2.1 pc = .ok (.newarray .int, 2)) (hmc : 1 ≤ mc) (hms : N ≤ ms) (kk : Sx l z d (mc - 1) (ms - N) M (pc + 2) lc (xR (hN h) :: st) (hNw h 12 N) Ph) : Sx l z d mc ms M pc lc (xI n :: st) h Ph := by
  intro pp e R s m args below meth c D cA ka A Q n0 a0 mcT msT hC gR hE H locs cells slots al ls h1 h2 h3 h4 hB gL hv
  have hts := hC.2.2.2.2.2.1
  have ho := hB.2.2.2
  refine va_newa (atype := .int) (ty := .int) (a0 := (N, .inl (fun _ => 0))) hC.1 hC.2.1 (hts _ hw) rfl hC.2.2.2.2.2.2.1 hB.1 hB.2.1 hB.2.2.1 hC.2.2.2.2.2.2.2.2.2.1 (fun _ => rfl) h0 hN9 hb (by omega) (by omega) hd (fun a cB H1 hK1 hP hD hS => ?_)
  have ec : cB = cA 12 := by
    have r1 : va_RA s cB .int := (hK1.2 5 (cB, .int) rfl).2
    have r2 : va_RA s (cA 12) .int := (hC.2.2.2.2.2.2.1.2 0 (cA 12, .int) rfl).2
    have r3 : s.vm.findClass ("[" ++ (.int : FieldType).toString) = some cB := r1
    have r4 : s.vm.findClass ("[" ++ (.int : FieldType).toString) = some (cA 12) := r2
    exact Option.some.inj (r3.symm.trans r4)
  subst ec
  rw [← x_g_bornI (cA := cA) (al := va_up al (hN h) a) (h := h) (kd := 12) (N := N) (by omega), x_w_push ho.1 rfl (fun q hq => x_g_new ho hq)] at hP hD
  have hal : ∀ q, q < hN h → va_up al (hN h) a q = al q := fun q hq => if_neg (by omega)
  have hv1 : ∀ v ∈ st, x_vo (hN h) v := fun v hm => hv v (List.mem_cons_of_mem _ hm)
  have kk9 := kk pp e R s m args below meth c D cA ka A Q n0 a0 mcT msT hC gR hE H1 locs (cells + 1) (slots + N) (va_up al (hN h) a) ls (by omega) (by omega) (fun q hq => (hal q (by omega)).trans (h3 q hq)) (Nat.le_trans h4 (Nat.le_succ _)) ⟨hP, hD, hS, x_okN ho⟩ (gL.moved (Nat.le_succ _) hal) (List.forall_mem_cons.mpr ⟨Nat.lt_succ_self _, fun v hm => x_vo_mono (Nat.le_succ _) (hv1 v hm)⟩)
  rw [List.map_cons, x_t_R (by have := ho.1; omega), x_st_moved hv1 hal, show va_up al (hN h) a (hN h) = a from if_pos rfl] at kk9
  exact kk9
theorem sx_newZ {n : Int32} {N : Nat} (h0 : ¬ n < 0) (hN9 : n.toNatClampNeg = N) (hb : N * componentBytes .boolean ≤ 536870912) (hw : Cond.arrayClass .boolean ∈ xTB) (hd : decode M.2.1 pc = .ok (.newarray .boolean, 2)) (hmc : 1 ≤ mc) (hms : N ≤ ms) (kk : Sx l z d (mc - 1) (ms - N) M (pc + 2) lc (xR (hN h) :: st) (hNw h 13 N) Ph) : Sx l z d mc ms M pc lc (xI n :: st) h Ph := by
  intro pp e R s m args below meth c D cA ka A Q n0 a0 mcT msT hC gR hE H locs cells slots al ls h1 h2 h3 h4 hB gL hv
  have hts := hC.2.2.2.2.2.1
  have ho := hB.2.2.2
  refine va_newa (atype := .boolean) (ty := .boolean) (a0 := (N, .inl (fun _ => 0))) hC.1 hC.2.1 (hts _ hw) rfl hC.2.2.2.2.2.2.1 hB.1 hB.2.1 hB.2.2.1 hC.2.2.2.2.2.2.2.2.2.1 (fun _ => rfl) h0 hN9 hb (by omega) (by omega) hd (fun a cB H1 hK1 hP hD hS => ?_)
  have ec : cB = cA 13 := by
    have r1 : va_RA s cB .boolean := (hK1.2 5 (cB, .boolean) rfl).2
    have r2 : va_RA s (cA 13) .boolean := (hC.2.2.2.2.2.2.1.2 1 (cA 13, .boolean) rfl).2
    have r3 : s.vm.findClass ("[" ++ (.boolean : FieldType).toString) = some cB := r1
    have r4 : s.vm.findClass ("[" ++ (.boolean : FieldType).toString) = some (cA 13) := r2
    exact Option.some.inj (r3.symm.trans r4)
  subst ec
  rw [← x_g_bornI (cA := cA) (al := va_up al (hN h) a) (h := h) (kd := 13) (N := N) (by omega), x_w_push ho.1 rfl (fun q hq => x_g_new ho hq)] at hP hD
  have hal : ∀ q, q < hN h → va_up al (hN h) a q = al q := fun q hq => if_neg (by omega)
  have hv1 : ∀ v ∈ st, x_vo (hN h) v := fun v hm => hv v (List.mem_cons_of_mem _ hm)
  have kk9 := kk pp e R s m args below meth c D cA ka A Q n0 a0 mcT msT hC gR hE H1 locs (cells + 1) (slots + N) (va_up al (hN h) a) ls (by omega) (by omega) (fun q hq => (hal q (by omega)).trans (h3 q hq)) (Nat.le_trans h4 (Nat.le_succ _)) ⟨hP, hD, hS, x_okN ho⟩ (gL.moved (Nat.le_succ _) hal) (List.forall_mem_cons.mpr ⟨Nat.lt_succ_self _, fun v hm => x_vo_mono (Nat.le_succ _) (hv1 v hm)⟩)
  rw [List.map_cons, x_t_R (by have := ho.1; omega), x_st_moved hv1 hal, show va_up al (hN h) a (hN h) = a from if_pos rfl] at kk9
  exact kk9
theorem sx_newR14 {n : Int32} {N idx : Nat} (h0 : ¬ n < 0) (hN9 : n.toNatClampNeg = N) (hb : N * 4 ≤ 536870912) (hw : Cond.classLink M.1.cls idx "ThreesAtTable$Text" ∈ xTB) (hd : decode M.2.1 pc = .ok (.anewarray idx, 3)) (hmc : 1 ≤ mc) (hms : N ≤ ms) (kk : Sx l z d (mc - 1) (ms - N) M (pc + 3) lc (xR (hN h) :: st) (hNw h 14 N) Ph) : Sx l z d mc ms M pc lc (xI n :: st) h Ph := by
  intro pp e R s m args below meth c D cA ka A Q n0 a0 mcT msT hC gR hE H locs cells slots al ls h1 h2 h3 h4 hB gL hv
  have hts := hC.2.2.2.2.2.1
  have ho := hB.2.2.2
  obtain ⟨a1, a2, a3, a4, a5, a6, a7, a8, a9, a10, a11, a12⟩ := hC.2.2.2.2.2.2.2.2.2.2
  refine va_newq (C := "ThreesAtTable$Text") hC.1 hC.2.1 hC.2.2.2.2.1 (hts _ hw) (a10 _ (by decide)) hC.2.2.2.2.2.2.1 hB.1 hB.2.1 hB.2.2.1 hC.2.2.2.2.2.2.2.2.2.1 h0 hN9 hb (by omega) (by omega) hd (fun a cB H1 hK1 hP hD hS => ?_)
  have ec : cB = cA 14 := by
    have r1 : va_RA s cB (.object "ThreesAtTable$Text") := (hK1.2 5 (cB, (.object "ThreesAtTable$Text")) rfl).2
    have r2 : va_RA s (cA 14) (.object "ThreesAtTable$Text") := (hC.2.2.2.2.2.2.1.2 2 (cA 14, (.object "ThreesAtTable$Text")) rfl).2
    obtain ⟨_, _, _, _, _, r3⟩ := r1
    obtain ⟨_, _, _, _, _, r4⟩ := r2
    exact Option.some.inj (r3.symm.trans r4)
  subst ec
  rw [← x_g_bornR (cA := cA) (al := va_up al (hN h) a) (h := h) (kd := 14) (N := N) (by omega), x_w_push ho.1 rfl (fun q hq => x_g_new ho hq)] at hP hD
  have hal : ∀ q, q < hN h → va_up al (hN h) a q = al q := fun q hq => if_neg (by omega)
  have hv1 : ∀ v ∈ st, x_vo (hN h) v := fun v hm => hv v (List.mem_cons_of_mem _ hm)
  have kk9 := kk pp e R s m args below meth c D cA ka A Q n0 a0 mcT msT hC gR hE H1 locs (cells + 1) (slots + N) (va_up al (hN h) a) ls (by omega) (by omega) (fun q hq => (hal q (by omega)).trans (h3 q hq)) (Nat.le_trans h4 (Nat.le_succ _)) ⟨hP, hD, hS, x_okN ho⟩ (gL.moved (Nat.le_succ _) hal) (List.forall_mem_cons.mpr ⟨Nat.lt_succ_self _, fun v hm => x_vo_mono (Nat.le_succ _) (hv1 v hm)⟩)
  rw [List.map_cons, x_t_R (by have := ho.1; omega), x_st_moved hv1 hal, show va_up al (hN h) a (hN h) = a from if_pos rfl] at kk9
  exact kk9
theorem sx_newR15 {n : Int32} {N idx : Nat} (h0 : ¬ n < 0) (hN9 : n.toNatClampNeg = N) (hb : N * 4 ≤ 536870912) (hw : Cond.classLink M.1.cls idx "ThreesAtTable$Town" ∈ xTB) (hd : decode M.2.1 pc = .ok (.anewarray idx, 3)) (hmc : 1 ≤ mc) (hms : N ≤ ms) (kk : Sx l z d (mc - 1) (ms - N) M (pc + 3) lc (xR (hN h) :: st) (hNw h 15 N) Ph) : Sx l z d mc ms M pc lc (xI n :: st) h Ph := by
  intro pp e R s m args below meth c D cA ka A Q n0 a0 mcT msT hC gR hE H locs cells slots al ls h1 h2 h3 h4 hB gL hv
  have hts := hC.2.2.2.2.2.1
  have ho := hB.2.2.2
  obtain ⟨a1, a2, a3, a4, a5, a6, a7, a8, a9, a10, a11, a12⟩ := hC.2.2.2.2.2.2.2.2.2.2
  refine va_newq (C := "ThreesAtTable$Town") hC.1 hC.2.1 hC.2.2.2.2.1 (hts _ hw) (a10 _ (by decide)) hC.2.2.2.2.2.2.1 hB.1 hB.2.1 hB.2.2.1 hC.2.2.2.2.2.2.2.2.2.1 h0 hN9 hb (by omega) (by omega) hd (fun a cB H1 hK1 hP hD hS => ?_)
  have ec : cB = cA 15 := by
    have r1 : va_RA s cB (.object "ThreesAtTable$Town") := (hK1.2 5 (cB, (.object "ThreesAtTable$Town")) rfl).2
    have r2 : va_RA s (cA 15) (.object "ThreesAtTable$Town") := (hC.2.2.2.2.2.2.1.2 3 (cA 15, (.object "ThreesAtTable$Town")) rfl).2
    obtain ⟨_, _, _, _, _, r3⟩ := r1
    obtain ⟨_, _, _, _, _, r4⟩ := r2
    exact Option.some.inj (r3.symm.trans r4)
  subst ec
  rw [← x_g_bornR (cA := cA) (al := va_up al (hN h) a) (h := h) (kd := 15) (N := N) (by omega), x_w_push ho.1 rfl (fun q hq => x_g_new ho hq)] at hP hD
  have hal : ∀ q, q < hN h → va_up al (hN h) a q = al q := fun q hq => if_neg (by omega)
  have hv1 : ∀ v ∈ st, x_vo (hN h) v := fun v hm => hv v (List.mem_cons_of_mem _ hm)
  have kk9 := kk pp e R s m args below meth c D cA ka A Q n0 a0 mcT msT hC gR hE H1 locs (cells + 1) (slots + N) (va_up al (hN h) a) ls (by omega) (by omega) (fun q hq => (hal q (by omega)).trans (h3 q hq)) (Nat.le_trans h4 (Nat.le_succ _)) ⟨hP, hD, hS, x_okN ho⟩ (gL.moved (Nat.le_succ _) hal) (List.forall_mem_cons.mpr ⟨Nat.lt_succ_self _, fun v hm => x_vo_mono (Nat.le_succ _) (hv1 v hm)⟩)
  rw [List.map_cons, x_t_R (by have := ho.1; omega), x_st_moved hv1 hal, show va_up al (hN h) a (hN h) = a from if_pos rfl] at kk9
  exact kk9
theorem sx_newR16 {n : Int32} {N idx : Nat} (h0 : ¬ n < 0) (hN9 : n.toNatClampNeg = N) (hb : N * 4 ≤ 536870912) (hw : Cond.classLink M.1.cls idx "ThreesAtTable$Sheet" ∈ xTB) (hd : decode M.2.1 pc = .ok (.anewarray idx, 3)) (hmc : 1 ≤ mc) (hms : N ≤ ms) (kk : Sx l z d (mc - 1) (ms - N) M (pc + 3) lc (xR (hN h) :: st) (hNw h 16 N) Ph) : Sx l z d mc ms M pc lc (xI n :: st) h Ph := by
  intro pp e R s m args below meth c D cA ka A Q n0 a0 mcT msT hC gR hE H locs cells slots al ls h1 h2 h3 h4 hB gL hv
  have hts := hC.2.2.2.2.2.1
  have ho := hB.2.2.2
  obtain ⟨a1, a2, a3, a4, a5, a6, a7, a8, a9, a10, a11, a12⟩ := hC.2.2.2.2.2.2.2.2.2.2
  refine va_newq (C := "ThreesAtTable$Sheet") hC.1 hC.2.1 hC.2.2.2.2.1 (hts _ hw) (a10 _ (by decide)) hC.2.2.2.2.2.2.1 hB.1 hB.2.1 hB.2.2.1 hC.2.2.2.2.2.2.2.2.2.1 h0 hN9 hb (by omega) (by omega) hd (fun a cB H1 hK1 hP hD hS => ?_)
  have ec : cB = cA 16 := by
    have r1 : va_RA s cB (.object "ThreesAtTable$Sheet") := (hK1.2 5 (cB, (.object "ThreesAtTable$Sheet")) rfl).2
    have r2 : va_RA s (cA 16) (.object "ThreesAtTable$Sheet") := (hC.2.2.2.2.2.2.1.2 4 (cA 16, (.object "ThreesAtTable$Sheet")) rfl).2
    obtain ⟨_, _, _, _, _, r3⟩ := r1
    obtain ⟨_, _, _, _, _, r4⟩ := r2
    exact Option.some.inj (r3.symm.trans r4)
  subst ec
  rw [← x_g_bornR (cA := cA) (al := va_up al (hN h) a) (h := h) (kd := 16) (N := N) (by omega), x_w_push ho.1 rfl (fun q hq => x_g_new ho hq)] at hP hD
  have hal : ∀ q, q < hN h → va_up al (hN h) a q = al q := fun q hq => if_neg (by omega)
  have hv1 : ∀ v ∈ st, x_vo (hN h) v := fun v hm => hv v (List.mem_cons_of_mem _ hm)
  have kk9 := kk pp e R s m args below meth c D cA ka A Q n0 a0 mcT msT hC gR hE H1 locs (cells + 1) (slots + N) (va_up al (hN h) a) ls (by omega) (by omega) (fun q hq => (hal q (by omega)).trans (h3 q hq)) (Nat.le_trans h4 (Nat.le_succ _)) ⟨hP, hD, hS, x_okN ho⟩ (gL.moved (Nat.le_succ _) hal) (List.forall_mem_cons.mpr ⟨Nat.lt_succ_self _, fun v hm => x_vo_mono (Nat.le_succ _) (hv1 v hm)⟩)
  rw [List.map_cons, x_t_R (by have := ho.1; omega), x_st_moved hv1 hal, show va_up al (hN h) a (hN h) = a from if_pos rfl] at kk9
  exact kk9
/-! rows as a whole: copies -/
theorem hIr_at {p j : Nat} {f : Nat → Int32} : hI (hIr h p f) p j = f j := if_pos rfl
theorem hIr_ne {p q : Nat} {f : Nat → Int32} (hq : q ≠ p) : hI (hIr h p f) q = hI h q := by funext j; exact if_neg hq
theorem x_okr {p : Nat} {f : Nat → Int32} (ho : x_ok h) : x_ok (hIr h p f) := ho
theorem sx_copy {p q : Nat} {sp dp n : Int32} {idx : Nat} (hp : hK h p = 12) (hq : hK h q = 12) (g1 : ¬ sp < 0) (g2 : ¬ dp < 0) (g3 : ¬ n < 0) (g4 : sp.toNatClampNeg + n.toNatClampNeg ≤ hL h p) (g5 : dp.toNatClampNeg + n.toNatClampNeg ≤ hL h q)
    (hl : Cond.methodLink M.1.cls idx arraycopyName ∈ xTB) (hna : Cond.native arraycopyName ∈ xTB) (hsa : Cond.static arraycopyName ∈ xTB) (hia : Cond.initialized "java/lang/System" ∈ xTB) (hct : (st.map x_ct).sum ≤ 8) (hd1 : 1 ≤ d) (hd : decode M.2.1 pc = .ok (.invokestatic idx, 3))
    (kk : Sx l z d mc ms M (pc + 3) lc st (hIr h q (va_cpy (hI h p) (hI h q) sp.toNatClampNeg dp.toNatClampNeg n.toNatClampNeg)) Ph) : Sx l z d mc ms M pc lc (xI n :: xI dp :: xR q :: xI sp :: xR p :: st) h Ph := by
  intro pp e R s m args below meth c D cA ka A Q n0 a0 mcT msT hC gR hE H locs cells slots al ls h1 h2 h3 h4 hB gL hv
  have hts := hC.2.2.2.2.2.1
  have ho := hB.2.2.2
  have hpos := ho.pos hp (by omega)
  have hqos := ho.pos hq (by omega)
  rw [List.map_cons, List.map_cons, List.map_cons, List.map_cons, List.map_cons, x_t_R hpos.1, x_t_R hqos.1]
  have hlo : ((st.map (x_t al ka)).map fun v => v.category).sum + (nativeFrameWords "java/lang/System" "arraycopy" 5 + 11) ≤ R.locals := by
    rw [x_ct_t]
    have e : nativeFrameWords "java/lang/System" "arraycopy" 5 ≤ 20 := by decide
    omega
  refine va_copyi (ty := .int) hC.1 hC.2.1 (hC.2.2.1.trans gL.1.symm) hC.2.2.2.2.1 (hts _ hl) (hts _ hna) (hts _ hsa) (hts _ hia) hC.2.2.2.2.2.2.1 hB.1 hB.2.1 hB.2.2.1 (p - 1) (q - 1) 0 0 ((x_w_at hpos.1 hpos.2).trans (by rw [x_g_int hp (by omega)])) ((x_w_at hqos.1 hqos.2).trans (by rw [x_g_int hq (by omega)])) rfl rfl rfl g1 g2 g3 g4 g5 (fun _ _ => rfl) (by omega) hlo hd (fun H1 locs1 hP1 hD1 hS1 => ?_)
  have ew : (x_w cA al h).set (q - 1) (al q, .inl (cA 12, (hL h q, .inl (va_cpy (hI h p) (hI h q) sp.toNatClampNeg dp.toNatClampNeg n.toNatClampNeg)))) = x_w cA al (hIr h q (va_cpy (hI h p) (hI h q) sp.toNatClampNeg dp.toNatClampNeg n.toNatClampNeg)) := by
    have e2 : va_cpy (hI h p) (hI h q) sp.toNatClampNeg dp.toNatClampNeg n.toNatClampNeg = hI (hIr h q (va_cpy (hI h p) (hI h q) sp.toNatClampNeg dp.toNatClampNeg n.toNatClampNeg)) q := by funext j; exact hIr_at.symm
    have e3 := x_g_int (h := hIr h q (va_cpy (hI h p) (hI h q) sp.toNatClampNeg dp.toNatClampNeg n.toNatClampNeg)) (cA := cA) (al := al) (p := q) (ci := 12) hq (Or.inl rfl)
    rw [← e2] at e3
    rw [show (hL h q) = hL (hIr h q (va_cpy (hI h p) (hI h q) sp.toNatClampNeg dp.toNatClampNeg n.toNatClampNeg)) q from rfl, ← e3]
    exact x_w_set rfl hqos.1 (fun k hk => x_g_ne rfl rfl (hIr_ne hk) rfl)
  exact kk pp e R s m args below meth c D cA ka A Q n0 a0 mcT msT hC gR hE H1 locs1 cells slots al ls h1 h2 h3 h4 (x_B_of hB ew hP1 hD1 hS1 (x_okr ho)) gL (fun v hm => hv v (List.mem_cons_of_mem _ (List.mem_cons_of_mem _ (List.mem_cons_of_mem _ (List.mem_cons_of_mem _ (List.mem_cons_of_mem _ hm))))))
def hCl (h : xH) (p : Nat) : xH := hIr (hNw h 12 (hL h p)) (hN h) (hI h p)
theorem x_g_cl {cA : Nat → ClassId} {al : Nat → Nat} {p : Nat} : x_g cA al (hCl h p) (hN h) = .inl (cA 12, (hL h p, .inl (hI h p))) := by
  rw [x_g_int (h := hCl h p) (p := hN h) (ci := 12) (show hK (hCl h p) (hN h) = 12 from if_pos rfl) (Or.inl rfl)]
  have e1 : hL (hCl h p) (hN h) = hL h p := if_pos rfl
  have e2 : hI (hCl h p) (hN h) = hI h p := by funext j; exact hIr_at
  rw [e1, e2]
theorem sx_clone {p idx : Nat} (hp : hK h p = 12) (hl : Cond.methodLink M.1.cls idx ⟨"[I", "clone", "()Ljava/lang/Object;"⟩ ∈ xTB) (w1 : Cond.sameMethod "[I" "java/lang/Object" "clone" "()Ljava/lang/Object;" ∈ xTB) (w2 : Cond.native ⟨"java/lang/Object", "clone", "()Ljava/lang/Object;"⟩ ∈ xTB) (w3 : Cond.instanceMethod ⟨"java/lang/Object", "clone", "()Ljava/lang/Object;"⟩ ∈ xTB) (w4 : Cond.selects "[I" ⟨"[I", "clone", "()Ljava/lang/Object;"⟩ ⟨"java/lang/Object", "clone", "()Ljava/lang/Object;"⟩ ∈ xTB)
    (hct : (st.map x_ct).sum ≤ 8) (hd1 : 1 ≤ d) (hmc : 1 ≤ mc) (hms : hL h p ≤ ms) (hd : decode M.2.1 pc = .ok (.invokevirtual idx, 3)) (kk : Sx l z d (mc - 1) (ms - hL h p) M (pc + 3) lc (xR (hN h) :: st) (hCl h p) Ph) : Sx l z d mc ms M pc lc (xR p :: st) h Ph := by
  intro pp e R s m args below meth c D cA ka A Q n0 a0 mcT msT hC gR hE H locs cells slots al ls h1 h2 h3 h4 hB gL hv
  have hts := hC.2.2.2.2.2.1
  have ho := hB.2.2.2
  have hpos := ho.pos hp (by omega)
  obtain ⟨a1, a2, a3, a4, a5, a6, a7, a8, a9, a10, a11, a12⟩ := hC.2.2.2.2.2.2.2.2.2.2
  rw [List.map_cons, x_t_R hpos.1]
  have r2 : s.vm.findClass ("[" ++ (FieldType.int).toString) = some (cA 12) := (hC.2.2.2.2.2.2.1.2 0 (cA 12, .int) rfl).2
  refine va_clone (ad := "[I") (x := (hL h p, .inl (hI h p))) (ty := .int) hC.1 hC.2.1 (hC.2.2.1.trans gL.1.symm) hC.2.2.2.2.1 (hts _ hl) (hts _ w1) (hts _ w2) (hts _ w3) (hts _ w4) a11 hC.2.2.2.2.2.2.1 hB.1 hB.2.1 hB.2.2.1 hC.2.2.2.2.2.2.2.2.2.1 (p - 1) 0 ((x_w_at hpos.1 hpos.2).trans (by rw [x_g_int hp (by omega)])) rfl r2 (fun i v hv => ?_) (by omega) (by rw [x_ct_t]; omega) (by omega) (by show slots + hL h p ≤ R.slots; omega) hd (fun a H1 hK1 hP hD hS => ?_)
  · have e0 : (vp_cell (cA 12) (hL h p, .inl (hI h p))).slots[i]? = some v := hv
    rw [vp_cell_i] at e0
    by_cases hi : i < hL h p
    · rw [arrV_read _ _ hi] at e0
      cases e0
      rfl
    · rw [Array.getElem?_eq_none (by rw [arrV_size]; omega)] at e0
      cases e0
  · rw [← x_g_cl (cA := cA) (al := va_up al (hN h) a) (h := h) (p := p), x_w_push (h2 := hCl h p) ho.1 rfl (fun q hq => (x_g_ne (h := hNw h 12 (hL h p)) (h2 := hCl h p) (cA := cA) (al := va_up al (hN h) a) (q := q) rfl rfl (hIr_ne (h := hNw h 12 (hL h p)) (p := hN h) (by omega)) rfl).trans (x_g_new ho hq))] at hP hD
    have hal : ∀ q, q < hN h → va_up al (hN h) a q = al q := fun q hq => if_neg (by omega)
    have hv1 : ∀ v ∈ st, x_vo (hN h) v := fun v hm => hv v (List.mem_cons_of_mem _ hm)
    have kk9 := kk pp e R s m args below meth c D cA ka A Q n0 a0 mcT msT hC gR hE H1 locs (cells + 1) (slots + hL h p) (va_up al (hN h) a) ls (by omega) (by omega) (fun q hq => (hal q (by omega)).trans (h3 q hq)) (Nat.le_trans h4 (Nat.le_succ _)) ⟨hP, hD, hS, x_okr (x_okN ho)⟩ (gL.moved (Nat.le_succ _) hal) (List.forall_mem_cons.mpr ⟨Nat.lt_succ_self _, fun v hm => x_vo_mono (Nat.le_succ _) (hv1 v hm)⟩)
    rw [List.map_cons, x_t_R (by have := ho.1; omega), x_st_moved hv1 hal, show va_up al (hN h) a (hN h) = a from if_pos rfl] at kk9
    exact kk9
theorem sx_castI {p idx : Nat} (hp : hK h p = 12) (hl : Cond.classLink M.1.cls idx "[I" ∈ xTB) (hd : decode M.2.1 pc = .ok (.checkcast idx, 3)) (kk : Sx l z d mc ms M (pc + 3) lc (xR p :: st) h Ph) : Sx l z d mc ms M pc lc (xR p :: st) h Ph := by
  intro pp e R s m args below meth c D cA ka A Q n0 a0 mcT msT hC gR hE H locs cells slots al ls h1 h2 h3 h4 hB gL hv
  have hts := hC.2.2.2.2.2.1
  have hpos := hB.2.2.2.pos hp (by omega)
  have kk9 := kk pp e R s m args below meth c D cA ka A Q n0 a0 mcT msT hC gR hE H locs cells slots al ls h1 h2 h3 h4 hB gL hv
  rw [List.map_cons, x_t_R hpos.1] at kk9 ⊢
  have r2 : s.vm.findClass ("[" ++ (FieldType.int).toString) = some (cA 12) := (hC.2.2.2.2.2.2.1.2 0 (cA 12, .int) rfl).2
  exact va_castA (nm := "[I") hC.1 hC.2.1 hC.2.2.2.2.1 (hts _ hl) hB.1 (p - 1) ((x_w_at hpos.1 hpos.2).trans (by rw [x_g_int hp (by omega)])) r2 hd kk9
end XN

section XH
variable {l : Launch} {z : xZ} {d mc ms : Nat} {M : xM} {pc : Nat} {lc : List (Option xV)} {st : List xV} {h : xH} {Ph : Option xV → xH → Prop}
def x_clok (q : vw_C × (Nat → FieldType)) : Prop := (∀ w ∈ u_ws q.1.1 q.1.2.1 q.1.2.2, w ∈ xTB) ∧ (∀ k, k < q.1.2.2 → parseFieldDescriptor (q.1.2.1 k).2.2.1 = some (q.2 k) ∧ (q.1.2.1 k).1 = q.1.1) ∧ ∀ a, a < q.1.2.2 → ∀ b, b < q.1.2.2 → a ≠ b → (q.1.2.1 a).2.1 ≠ (q.1.2.1 b).2.1
theorem x_clall : ∀ q ∈ xcl, x_clok q := by
  unfold xcl
  refine List.forall_mem_cons.mpr ⟨⟨xl_Ch, xy_Ch, xn_Ch⟩, List.forall_mem_cons.mpr ⟨⟨xl_Re, xy_Re, xn_Re⟩, List.forall_mem_cons.mpr ⟨⟨xl_Ru, xy_Ru, xn_Ru⟩, List.forall_mem_cons.mpr ⟨⟨xl_Se, xy_Se, xn_Se⟩, List.forall_mem_cons.mpr ⟨⟨xl_Sh, xy_Sh, xn_Sh⟩, List.forall_mem_cons.mpr ⟨⟨xl_St, xy_St, xn_St⟩, List.forall_mem_cons.mpr ⟨⟨xl_Ta, xy_Ta, xn_Ta⟩, List.forall_mem_cons.mpr ⟨⟨xl_Te, xy_Te, xn_Te⟩, List.forall_mem_cons.mpr ⟨⟨xl_To, xy_To, xn_To⟩, List.forall_mem_cons.mpr ⟨⟨xl_Wa, xy_Wa, xn_Wa⟩, List.forall_mem_cons.mpr ⟨⟨xl_Ma, xy_Ma, xn_Ma⟩, List.forall_mem_cons.mpr ⟨⟨xl_Mo, xy_Mo, xn_Mo⟩, fun _ h => absurd h List.not_mem_nil⟩⟩⟩⟩⟩⟩⟩⟩⟩⟩⟩⟩
theorem x_cok {ci : Nat} {q : vw_C × (Nat → FieldType)} (hc : xcl[ci]? = some q) : x_clok q := x_clall q (List.mem_of_getElem? hc)
theorem x_clt {ci : Nat} {q : vw_C × (Nat → FieldType)} (hc : xcl[ci]? = some q) : ci < 12 := (List.getElem?_eq_some_iff.mp hc).1
theorem x_t_R {al : Nat → Nat} {ka : xK} {p : Nat} (hp : 0 < p) : x_t al ka (xR p) = .ref (al p) := by
  show va_rf (x_r al p) = _
  unfold x_r
  rw [if_neg (by omega)]
  rfl
def x_V (h : xH) (p : Nat) (t : FieldType) (k : Nat) : xV := match t with
  | .int => xI (hI h p k)
  | .boolean => xI (hI h p k)
  | .long => xJ (hI h p k).toInt64
  | _ => xR (hR h p k)
theorem x_V_t {al : Nat → Nat} {ka : xK} {p k : Nat} {t : FieldType} : x_t al ka (x_V h p t k) = x_fv al h p t k := by cases t <;> rfl
theorem x_V_vo {p k : Nat} {t : FieldType} (ho : x_ok h) : x_vo (hN h) (x_V h p t k) := by cases t <;> first | trivial | exact ho.2.1 p k
theorem sx_get {ci k idx p : Nat} {q : vw_C × (Nat → FieldType)} (hc : xcl[ci]? = some q) (hk : k < q.1.2.2) (hw : Cond.fieldLink M.1.cls idx (q.1.2.1 k).1 (q.1.2.1 k).2.1 (q.1.2.1 k).2.2.1 ∈ xTB) (hp : hK h p = ci) (hd : decode M.2.1 pc = .ok (.getfield idx, 3)) (kk : Sx l z d mc ms M (pc + 3) lc (x_V h p (q.2 k) k :: st) h Ph) : Sx l z d mc ms M pc lc (xR p :: st) h Ph := by
  intro pp e R s m args below meth c D cA ka A Q n0 a0 mcT msT hC gR hE H locs cells slots al ls h1 h2 h3 h4 hB gL hv
  have hpos := hB.2.2.2.pos hp (by have := x_clt hc; omega)
  rw [List.map_cons, x_t_R hpos.1]
  refine va_get (D := D) (ci := ci) hC.1 hC.2.1 hC.2.2.2.2.2.1 (x_cok hc).1 hC.2.2.2.2.1 hC.2.2.2.2.2.2.1 hB.1 (p - 1) ((x_w_at hpos.1 hpos.2).trans (by rw [x_g_obj hp hc])) (x_C_at hc) k hk (hC.2.2.2.2.2.1 _ hw) (fun _ h9 => h9) (x_fs_at hk) hd ?_
  rw [← x_V_t (ka := ka)]
  exact kk pp e R s m args below meth c D cA ka A Q n0 a0 mcT msT hC gR hE H locs cells slots al ls h1 h2 h3 h4 hB gL (List.forall_mem_cons.mpr ⟨x_V_vo hB.2.2.2, fun v hm => hv v (List.mem_cons_of_mem _ hm)⟩)
/-! writing: the heap behind, and its world -/
theorem x_B_of {D : va_G} {cA : Nat → ClassId} {al : Nat → Nat} {A : Nat → Prop} {s : State} {H H1 : Heap} {locs locs1 : List Loc} {h2 : xH} {ws : va_W} (hB : x_B D cA al A s h H locs) (ew : ws = x_w cA al h2) (hP : va_P D xC ws H1) (hD : va_D A ws) (hS : va_S A s.heap H1 locs1) (ho : x_ok h2) : x_B D cA al A s h2 H1 locs1 := by
  subst ew
  exact ⟨hP, hD, hS, ho⟩
theorem x_okI {p k : Nat} {v : Int32} (ho : x_ok h) : x_ok (hIu h p k v) := ho
theorem x_okR {p k v : Nat} (ho : x_ok h) (hv : v < hN h) : x_ok (hRu h p k v) := ⟨ho.1, fun q j => by
  show (if q = p ∧ j = k then v else hR h q j) < hN h
  by_cases e : q = p ∧ j = k
  · rw [if_pos e]; exact hv
  · rw [if_neg e]; exact ho.2.1 q j, ho.2.2⟩
theorem x_g_ne {cA : Nat → ClassId} {al : Nat → Nat} {h2 : xH} {q : Nat} (e1 : hK h2 q = hK h q) (e2 : hL h2 q = hL h q) (e3 : hI h2 q = hI h q) (e4 : hR h2 q = hR h q) : x_g cA al h2 q = x_g cA al h q := by
  have e5 : ∀ (n : Nat) (t : Nat → FieldType), x_fs al h2 q n t = x_fs al h q n t := by
    intro n t
    unfold x_fs
    congr 1
    funext k
    unfold x_fv
    rw [e3, e4]
  unfold x_g
  rw [e1, e2, e3, e4]
  simp only [e5]
theorem hI_ne {p k q : Nat} {v : Int32} (hq : q ≠ p) : hI (hIu h p k v) q = hI h q := by
  funext j
  show (if q = p ∧ j = k then v else hI h q j) = _
  rw [if_neg (fun e => hq e.1)]
theorem hR_ne {p k q v : Nat} (hq : q ≠ p) : hR (hRu h p k v) q = hR h q := by
  funext j
  show (if q = p ∧ j = k then v else hR h q j) = _
  rw [if_neg (fun e => hq e.1)]
theorem hI_at {p k j : Nat} {v : Int32} : hI (hIu h p k v) p j = if j = k then v else hI h p j := by
  show (if p = p ∧ j = k then v else hI h p j) = _
  by_cases e : j = k
  · rw [if_pos ⟨rfl, e⟩, if_pos e]
  · rw [if_neg (fun q => e q.2), if_neg e]
theorem hR_at {p k j v : Nat} : hR (hRu h p k v) p j = if j = k then v else hR h p j := by
  show (if p = p ∧ j = k then v else hR h p j) = _
  by_cases e : j = k
  · rw [if_pos ⟨rfl, e⟩, if_pos e]
  · rw [if_neg (fun q => e q.2), if_neg e]
def x_isI (t : FieldType) : Bool := match t with
  | .int | .boolean | .long => true
  | .float | .double | .byte | .char | .short => false
  | _ => false
def x_isR (t : FieldType) : Bool := match t with
  | .object _ | .array _ => true
  | _ => false
theorem x_fv_I {al : Nat → Nat} {p k j : Nat} {v : Int32} {t : FieldType} (hj : j ≠ k) : x_fv al (hIu h p k v) p t j = x_fv al h p t j := by
  unfold x_fv
  rw [hI_at, if_neg hj]
  rfl
theorem x_fv_R {al : Nat → Nat} {p k j v : Nat} {t : FieldType} (hj : j ≠ k) : x_fv al (hRu h p k v) p t j = x_fv al h p t j := by
  unfold x_fv
  rw [hR_at, if_neg hj]
  rfl
theorem x_w_I {cA : Nat → ClassId} {al : Nat → Nat} {p k ci : Nat} {v : Int32} {q : vw_C × (Nat → FieldType)} (h0 : 0 < p) (hp : hK h p = ci) (hc : xcl[ci]? = some q) {w : Value} (hw : x_fv al (hIu h p k v) p (q.2 k) k = w) : (x_w cA al h).set (p - 1) (al p, .inr (ci, (x_fs al h p q.1.2.2 q.2).set k w)) = x_w cA al (hIu h p k v) := by
  subst hw
  rw [x_fs_set (h2 := hIu h p k v) (fun j hj => x_fv_I hj), ← x_g_obj (h := hIu h p k v) (cA := cA) hp hc]
  exact x_w_set rfl h0 (fun q hq => x_g_ne rfl rfl (hI_ne hq) rfl)
theorem x_w_R {cA : Nat → ClassId} {al : Nat → Nat} {p k ci v : Nat} {q : vw_C × (Nat → FieldType)} (h0 : 0 < p) (hp : hK h p = ci) (hc : xcl[ci]? = some q) {w : Value} (hw : x_fv al (hRu h p k v) p (q.2 k) k = w) : (x_w cA al h).set (p - 1) (al p, .inr (ci, (x_fs al h p q.1.2.2 q.2).set k w)) = x_w cA al (hRu h p k v) := by
  subst hw
  rw [x_fs_set (h2 := hRu h p k v) (fun j hj => x_fv_R hj), ← x_g_obj (h := hRu h p k v) (cA := cA) hp hc]
  exact x_w_set rfl h0 (fun q hq => x_g_ne rfl rfl rfl (hR_ne hq))
theorem x_w_Ia {cA : Nat → ClassId} {al : Nat → Nat} {p k ci : Nat} {v : Int32} (h0 : 0 < p) (hp : hK h p = ci) (hc : ci = 12 ∨ ci = 13) : (x_w cA al h).set (p - 1) (al p, .inl (cA ci, (hL h p, .inl (upd (hI h p) k v)))) = x_w cA al (hIu h p k v) := by
  have e : upd (hI h p) k v = hI (hIu h p k v) p := by
    funext j
    rw [hI_at]
    rfl
  rw [e, show hL h p = hL (hIu h p k v) p from rfl, ← x_g_int (h := hIu h p k v) (cA := cA) (al := al) hp hc]
  exact x_w_set rfl h0 (fun q hq => x_g_ne rfl rfl (hI_ne hq) rfl)
theorem x_w_Ra {cA : Nat → ClassId} {al : Nat → Nat} {p k ci v : Nat} (h0 : 0 < p) (hp : hK h p = ci) (hc : 14 ≤ ci ∧ ci ≤ 16) : (x_w cA al h).set (p - 1) (al p, .inl (cA ci, (hL h p, .inr (.inr (.inr (.inr (va_up (fun j => x_r al (hR h p j)) k (x_r al v)))))))) = x_w cA al (hRu h p k v) := by
  have e : va_up (fun j => x_r al (hR h p j)) k (x_r al v) = fun j => x_r al (hR (hRu h p k v) p j) := by
    funext j
    rw [hR_at]
    unfold va_up
    by_cases e : j = k
    · rw [if_pos e, if_pos e]
    · rw [if_neg e, if_neg e]
  rw [e, show hL h p = hL (hRu h p k v) p from rfl, ← x_g_ref (h := hRu h p k v) (cA := cA) (al := al) hp hc]
  exact x_w_set rfl h0 (fun q hq => x_g_ne rfl rfl rfl (hR_ne hq))
theorem x_nR {t : FieldType} (ht : x_isR t = true) (al : Nat → Nat) (v : Nat) : narrow t (va_rf (x_r al v)) = va_rf (x_r al v) ∧ fits t (va_rf (x_r al v)) = true := by
  cases t <;> first | (cases ht; done) | (unfold x_r; by_cases hv : v = 0 <;> simp [hv, va_rf, narrow, fits])
theorem x_fR {al : Nat → Nat} {p k v : Nat} {t : FieldType} (ht : x_isR t = true) : x_fv al (hRu h p k v) p t k = va_rf (x_r al v) := by
  cases t <;> first | (cases ht; done) | (unfold x_fv; rw [hR_at, if_pos rfl])
/-- an int goes into an int or a boolean as it is -/
def x_tI (t : FieldType) (v : Int32) : Prop := t = .int ∨ (t = .boolean ∧ (v = 0 ∨ v = 1))
theorem x_tI.ok {al : Nat → Nat} {p k : Nat} {v : Int32} {t : FieldType} (ht : x_tI t v) : narrow t (.int v) = .int v ∧ fits t (.int v) = true ∧ x_fv al (hIu h p k v) p t k = .int v := by
  rcases ht with rfl | ⟨rfl, rfl | rfl⟩
  · exact ⟨rfl, rfl, by unfold x_fv; rw [hI_at, if_pos rfl]⟩
  · exact ⟨by decide, by decide, by unfold x_fv; rw [hI_at, if_pos rfl]⟩
  · exact ⟨by decide, by decide, by unfold x_fv; rw [hI_at, if_pos rfl]⟩
theorem sx_putI {ci k idx p : Nat} {v : Int32} {q : vw_C × (Nat → FieldType)} (hc : xcl[ci]? = some q) (hk : k < q.1.2.2) (hw : Cond.fieldLink M.1.cls idx (q.1.2.1 k).1 (q.1.2.1 k).2.1 (q.1.2.1 k).2.2.1 ∈ xTB) (hf : (q.1.2.1 k).2.2.2 = false) (hp : hK h p = ci) (ht0 : x_tI (q.2 k) v) (hd : decode M.2.1 pc = .ok (.putfield idx, 3)) (kk : Sx l z d mc ms M (pc + 3) lc st (hIu h p k v) Ph) : Sx l z d mc ms M pc lc (xI v :: xR p :: st) h Ph := by
  intro pp e R s m args below meth c D cA ka A Q n0 a0 mcT msT hC gR hE H locs cells slots al ls h1 h2 h3 h4 hB gL hv
  have hpos := hB.2.2.2.pos hp (by have := x_clt hc; omega)
  rw [List.map_cons, List.map_cons, x_t_R hpos.1]
  refine va_put (D := D) (ci := ci) hC.1 hC.2.1 hC.2.2.2.2.2.1 (x_cok hc).1 q.2 (fun k hk => ((x_cok hc).2.1 k hk).1) (x_cok hc).2.2 hC.2.2.2.2.1 hC.2.2.2.2.2.2.1 hB.1 hB.2.1 hB.2.2.1 (p - 1) ((x_w_at hpos.1 hpos.2).trans (by rw [x_g_obj hp hc])) (x_C_at hc) k hk (hC.2.2.2.2.2.1 _ hw) (fun _ h9 => h9) hf ((x_cok hc).2.1 k hk).1 (ht0.ok (h := h) (al := al) (p := p) (k := k)).1 (ht0.ok (h := h) (al := al) (p := p) (k := k)).2.1 (by rw [x_fs_len]; exact hk) hd ?_
  intro H1 locs1 hP1 hD1 hS1
  have hB1 := x_B_of hB (x_w_I hpos.1 hp hc (v := v) (ht0.ok (h := h)).2.2) hP1 hD1 hS1 (x_okI hB.2.2.2)
  exact kk pp e R s m args below meth c D cA ka A Q n0 a0 mcT msT hC gR hE H1 locs1 cells slots al ls h1 h2 h3 h4 hB1 gL (fun v hm => hv v (List.mem_cons_of_mem _ (List.mem_cons_of_mem _ hm)))
theorem sx_putR {ci k idx p : Nat} {v : Nat} {q : vw_C × (Nat → FieldType)} (hc : xcl[ci]? = some q) (hk : k < q.1.2.2) (hw : Cond.fieldLink M.1.cls idx (q.1.2.1 k).1 (q.1.2.1 k).2.1 (q.1.2.1 k).2.2.1 ∈ xTB) (hf : (q.1.2.1 k).2.2.2 = false) (hp : hK h p = ci) (ht : x_isR (q.2 k) = true) (hd : decode M.2.1 pc = .ok (.putfield idx, 3)) (kk : Sx l z d mc ms M (pc + 3) lc st (hRu h p k v) Ph) : Sx l z d mc ms M pc lc (xR v :: xR p :: st) h Ph := by
  intro pp e R s m args below meth c D cA ka A Q n0 a0 mcT msT hC gR hE H locs cells slots al ls h1 h2 h3 h4 hB gL hv
  have hpos := hB.2.2.2.pos hp (by have := x_clt hc; omega)
  rw [List.map_cons, List.map_cons, x_t_R hpos.1]
  refine va_put (D := D) (ci := ci) hC.1 hC.2.1 hC.2.2.2.2.2.1 (x_cok hc).1 q.2 (fun k hk => ((x_cok hc).2.1 k hk).1) (x_cok hc).2.2 hC.2.2.2.2.1 hC.2.2.2.2.2.2.1 hB.1 hB.2.1 hB.2.2.1 (p - 1) ((x_w_at hpos.1 hpos.2).trans (by rw [x_g_obj hp hc])) (x_C_at hc) k hk (hC.2.2.2.2.2.1 _ hw) (fun _ h9 => h9) hf ((x_cok hc).2.1 k hk).1 (x_nR ht _ _).1 (x_nR ht al v).2 (by rw [x_fs_len]; exact hk) hd ?_
  intro H1 locs1 hP1 hD1 hS1
  have hB1 := x_B_of hB (x_w_R hpos.1 hp hc (v := v) (x_fR ht)) hP1 hD1 hS1 (x_okR hB.2.2.2 (hv _ List.mem_cons_self))
  exact kk pp e R s m args below meth c D cA ka A Q n0 a0 mcT msT hC gR hE H1 locs1 cells slots al ls h1 h2 h3 h4 hB1 gL (fun v hm => hv v (List.mem_cons_of_mem _ (List.mem_cons_of_mem _ hm)))
theorem sx_putIF {ci k idx p : Nat} {v : Int32} {q : vw_C × (Nat → FieldType)} (hc : xcl[ci]? = some q) (hk : k < q.1.2.2) (hw : Cond.fieldLink M.1.cls idx (q.1.2.1 k).1 (q.1.2.1 k).2.1 (q.1.2.1 k).2.2.1 ∈ xTB) (hf : (q.1.2.1 k).2.2.2 = true) (hi : M.1.name = "<init>") (hq : q.1.1 = M.1.cls) (hp : hK h p = ci) (ht0 : x_tI (q.2 k) v) (hd : decode M.2.1 pc = .ok (.putfield idx, 3)) (kk : Sx l z d mc ms M (pc + 3) lc st (hIu h p k v) Ph) : Sx l z d mc ms M pc lc (xI v :: xR p :: st) h Ph := by
  intro pp e R s m args below meth c D cA ka A Q n0 a0 mcT msT hC gR hE H locs cells slots al ls h1 h2 h3 h4 hB gL hv
  have hpos := hB.2.2.2.pos hp (by have := x_clt hc; omega)
  rw [List.map_cons, List.map_cons, x_t_R hpos.1]
  refine va_putF (D := D) (ci := ci) hC.1 hC.2.1 hC.2.2.2.2.2.1 (x_cok hc).1 q.2 (fun k hk => ((x_cok hc).2.1 k hk).1) (x_cok hc).2.2 hC.2.2.2.2.1 hC.2.2.2.2.2.2.1 hB.1 hB.2.1 hB.2.2.1 (p - 1) ((x_w_at hpos.1 hpos.2).trans (by rw [x_g_obj hp hc])) (x_C_at hc) k hk (hC.2.2.2.2.2.1 _ hw) (fun _ h9 => h9) hf (hC.2.2.2.2.2.2.2.2.1 hi) (((x_cok hc).2.1 k hk).2.trans hq) ((x_cok hc).2.1 k hk).1 (ht0.ok (h := h) (al := al) (p := p) (k := k)).1 (ht0.ok (h := h) (al := al) (p := p) (k := k)).2.1 (by rw [x_fs_len]; exact hk) hd ?_
  intro H1 locs1 hP1 hD1 hS1
  have hB1 := x_B_of hB (x_w_I hpos.1 hp hc (v := v) (ht0.ok (h := h)).2.2) hP1 hD1 hS1 (x_okI hB.2.2.2)
  exact kk pp e R s m args below meth c D cA ka A Q n0 a0 mcT msT hC gR hE H1 locs1 cells slots al ls h1 h2 h3 h4 hB1 gL (fun v hm => hv v (List.mem_cons_of_mem _ (List.mem_cons_of_mem _ hm)))
theorem sx_putRF {ci k idx p : Nat} {v : Nat} {q : vw_C × (Nat → FieldType)} (hc : xcl[ci]? = some q) (hk : k < q.1.2.2) (hw : Cond.fieldLink M.1.cls idx (q.1.2.1 k).1 (q.1.2.1 k).2.1 (q.1.2.1 k).2.2.1 ∈ xTB) (hf : (q.1.2.1 k).2.2.2 = true) (hi : M.1.name = "<init>") (hq : q.1.1 = M.1.cls) (hp : hK h p = ci) (ht : x_isR (q.2 k) = true) (hd : decode M.2.1 pc = .ok (.putfield idx, 3)) (kk : Sx l z d mc ms M (pc + 3) lc st (hRu h p k v) Ph) : Sx l z d mc ms M pc lc (xR v :: xR p :: st) h Ph := by
  intro pp e R s m args below meth c D cA ka A Q n0 a0 mcT msT hC gR hE H locs cells slots al ls h1 h2 h3 h4 hB gL hv
  have hpos := hB.2.2.2.pos hp (by have := x_clt hc; omega)
  rw [List.map_cons, List.map_cons, x_t_R hpos.1]
  refine va_putF (D := D) (ci := ci) hC.1 hC.2.1 hC.2.2.2.2.2.1 (x_cok hc).1 q.2 (fun k hk => ((x_cok hc).2.1 k hk).1) (x_cok hc).2.2 hC.2.2.2.2.1 hC.2.2.2.2.2.2.1 hB.1 hB.2.1 hB.2.2.1 (p - 1) ((x_w_at hpos.1 hpos.2).trans (by rw [x_g_obj hp hc])) (x_C_at hc) k hk (hC.2.2.2.2.2.1 _ hw) (fun _ h9 => h9) hf (hC.2.2.2.2.2.2.2.2.1 hi) (((x_cok hc).2.1 k hk).2.trans hq) ((x_cok hc).2.1 k hk).1 (x_nR ht _ _).1 (x_nR ht al v).2 (by rw [x_fs_len]; exact hk) hd ?_
  intro H1 locs1 hP1 hD1 hS1
  have hB1 := x_B_of hB (x_w_R hpos.1 hp hc (v := v) (x_fR ht)) hP1 hD1 hS1 (x_okR hB.2.2.2 (hv _ List.mem_cons_self))
  exact kk pp e R s m args below meth c D cA ka A Q n0 a0 mcT msT hC gR hE H1 locs1 cells slots al ls h1 h2 h3 h4 hB1 gL (fun v hm => hv v (List.mem_cons_of_mem _ (List.mem_cons_of_mem _ hm)))
theorem sx_putJ {ci k idx p : Nat} {v : Int64} {q : vw_C × (Nat → FieldType)} (hc : xcl[ci]? = some q) (hk : k < q.1.2.2) (hw : Cond.fieldLink M.1.cls idx (q.1.2.1 k).1 (q.1.2.1 k).2.1 (q.1.2.1 k).2.2.1 ∈ xTB) (hf : (q.1.2.1 k).2.2.2 = false) (hp : hK h p = ci) (ht : q.2 k = .long ∧ v.toInt32.toInt64 = v) (hd : decode M.2.1 pc = .ok (.putfield idx, 3)) (kk : Sx l z d mc ms M (pc + 3) lc st (hIu h p k v.toInt32) Ph) : Sx l z d mc ms M pc lc (xJ v :: xR p :: st) h Ph := by
  intro pp e R s m args below meth c D cA ka A Q n0 a0 mcT msT hC gR hE H locs cells slots al ls h1 h2 h3 h4 hB gL hv
  have hpos := hB.2.2.2.pos hp (by have := x_clt hc; omega)
  rw [List.map_cons, List.map_cons, x_t_R hpos.1]
  refine va_put (D := D) (ci := ci) hC.1 hC.2.1 hC.2.2.2.2.2.1 (x_cok hc).1 q.2 (fun k hk => ((x_cok hc).2.1 k hk).1) (x_cok hc).2.2 hC.2.2.2.2.1 hC.2.2.2.2.2.2.1 hB.1 hB.2.1 hB.2.2.1 (p - 1) ((x_w_at hpos.1 hpos.2).trans (by rw [x_g_obj hp hc])) (x_C_at hc) k hk (hC.2.2.2.2.2.1 _ hw) (fun _ h9 => h9) hf ((x_cok hc).2.1 k hk).1 (by rw [ht.1]; rfl) (by rw [ht.1]; rfl) (by rw [x_fs_len]; exact hk) hd ?_
  intro H1 locs1 hP1 hD1 hS1
  have hB1 := x_B_of hB (x_w_I hpos.1 hp hc (v := v.toInt32) (by rw [ht.1]; unfold x_fv; rw [hI_at, if_pos rfl, ht.2]; rfl)) hP1 hD1 hS1 (x_okI hB.2.2.2)
  exact kk pp e R s m args below meth c D cA ka A Q n0 a0 mcT msT hC gR hE H1 locs1 cells slots al ls h1 h2 h3 h4 hB1 gL (fun v hm => hv v (List.mem_cons_of_mem _ (List.mem_cons_of_mem _ hm)))
theorem sx_iald {p : Nat} {i : Int32} (hp : hK h p = 12) (hi : vp_in i (hL h p)) (hd : decode M.2.1 pc = .ok (.iaload, 1)) (kk : Sx l z d mc ms M (pc + 1) lc (xI (hI h p i.toNatClampNeg) :: st) h Ph) : Sx l z d mc ms M pc lc (xI i :: xR p :: st) h Ph := by
  intro pp e R s m args below meth c D cA ka A Q n0 a0 mcT msT hC gR hE H locs cells slots al ls h1 h2 h3 h4 hB gL hv
  have hpos := hB.2.2.2.pos hp (by omega)
  rw [List.map_cons, List.map_cons, x_t_R hpos.1]
  exact va_iald hC.1 hC.2.1 hC.2.2.2.2.2.2.1 hB.1 (p - 1) 0 ((x_w_at hpos.1 hpos.2).trans (by rw [x_g_int hp (by omega)])) rfl hi hd (kk pp e R s m args below meth c D cA ka A Q n0 a0 mcT msT hC gR hE H locs cells slots al ls h1 h2 h3 h4 hB gL (List.forall_mem_cons.mpr ⟨trivial, (fun v hm => hv v (List.mem_cons_of_mem _ (List.mem_cons_of_mem _ hm)))⟩))
theorem sx_zald {p : Nat} {i : Int32} (hp : hK h p = 13) (hi : vp_in i (hL h p)) (hd : decode M.2.1 pc = .ok (.baload, 1)) (kk : Sx l z d mc ms M (pc + 1) lc (xI (hI h p i.toNatClampNeg) :: st) h Ph) : Sx l z d mc ms M pc lc (xI i :: xR p :: st) h Ph := by
  intro pp e R s m args below meth c D cA ka A Q n0 a0 mcT msT hC gR hE H locs cells slots al ls h1 h2 h3 h4 hB gL hv
  have hpos := hB.2.2.2.pos hp (by omega)
  rw [List.map_cons, List.map_cons, x_t_R hpos.1]
  exact va_zald hC.1 hC.2.1 hC.2.2.2.2.2.2.1 hB.1 (p - 1) 1 ((x_w_at hpos.1 hpos.2).trans (by rw [x_g_int hp (by omega)])) rfl hi hd (kk pp e R s m args below meth c D cA ka A Q n0 a0 mcT msT hC gR hE H locs cells slots al ls h1 h2 h3 h4 hB gL (List.forall_mem_cons.mpr ⟨trivial, (fun v hm => hv v (List.mem_cons_of_mem _ (List.mem_cons_of_mem _ hm)))⟩))
theorem sx_aald {p ci : Nat} {i : Int32} (hp : hK h p = ci) (hc : 14 ≤ ci ∧ ci ≤ 16) (hi : vp_in i (hL h p)) (hd : decode M.2.1 pc = .ok (.aaload, 1)) (kk : Sx l z d mc ms M (pc + 1) lc (xR (hR h p i.toNatClampNeg) :: st) h Ph) : Sx l z d mc ms M pc lc (xI i :: xR p :: st) h Ph := by
  intro pp e R s m args below meth c D cA ka A Q n0 a0 mcT msT hC gR hE H locs cells slots al ls h1 h2 h3 h4 hB gL hv
  have hpos := hB.2.2.2.pos hp (by omega)
  rw [List.map_cons, List.map_cons, x_t_R hpos.1]
  have kk9 := kk pp e R s m args below meth c D cA ka A Q n0 a0 mcT msT hC gR hE H locs cells slots al ls h1 h2 h3 h4 hB gL (List.forall_mem_cons.mpr ⟨hB.2.2.2.2.1 _ _, (fun v hm => hv v (List.mem_cons_of_mem _ (List.mem_cons_of_mem _ hm)))⟩)
  have h3c : ci = 14 ∨ ci = 15 ∨ ci = 16 := by omega
  rcases h3c with rfl | rfl | rfl
  · exact va_aldq (f := fun j => x_r al (hR h p j)) hC.1 hC.2.1 hC.2.2.2.2.2.2.1 hB.1 (p - 1) 2 ((x_w_at hpos.1 hpos.2).trans (by rw [x_g_ref hp hc])) rfl hi hd kk9
  · exact va_aldq (f := fun j => x_r al (hR h p j)) hC.1 hC.2.1 hC.2.2.2.2.2.2.1 hB.1 (p - 1) 3 ((x_w_at hpos.1 hpos.2).trans (by rw [x_g_ref hp hc])) rfl hi hd kk9
  · exact va_aldq (f := fun j => x_r al (hR h p j)) hC.1 hC.2.1 hC.2.2.2.2.2.2.1 hB.1 (p - 1) 4 ((x_w_at hpos.1 hpos.2).trans (by rw [x_g_ref hp hc])) rfl hi hd kk9
theorem sx_iast {p : Nat} {i v : Int32} (hp : hK h p = 12) (hi : vp_in i (hL h p)) (hd : decode M.2.1 pc = .ok (.iastore, 1)) (kk : Sx l z d mc ms M (pc + 1) lc st (hIu h p i.toNatClampNeg v) Ph) : Sx l z d mc ms M pc lc (xI v :: xI i :: xR p :: st) h Ph := by
  intro pp e R s m args below meth c D cA ka A Q n0 a0 mcT msT hC gR hE H locs cells slots al ls h1 h2 h3 h4 hB gL hv
  have hpos := hB.2.2.2.pos hp (by omega)
  rw [List.map_cons, List.map_cons, List.map_cons, x_t_R hpos.1]
  refine va_iast hC.1 hC.2.1 hC.2.2.2.2.2.2.1 hB.1 hB.2.1 hB.2.2.1 (p - 1) 0 ((x_w_at hpos.1 hpos.2).trans (by rw [x_g_int hp (by omega)])) rfl hi hd (fun H1 locs1 hP1 hD1 hS1 => ?_)
  exact kk pp e R s m args below meth c D cA ka A Q n0 a0 mcT msT hC gR hE H1 locs1 cells slots al ls h1 h2 h3 h4 (x_B_of hB (x_w_Ia hpos.1 hp (by omega)) hP1 hD1 hS1 (x_okI hB.2.2.2)) gL (fun v hm => hv v (List.mem_cons_of_mem _ (List.mem_cons_of_mem _ (List.mem_cons_of_mem _ hm))))
theorem sx_zast {p : Nat} {i v : Int32} (hp : hK h p = 13) (hi : vp_in i (hL h p)) (hd : decode M.2.1 pc = .ok (.bastore, 1)) (kk : Sx l z d mc ms M (pc + 1) lc st (hIu h p i.toNatClampNeg (vp_nar .boolean v)) Ph) : Sx l z d mc ms M pc lc (xI v :: xI i :: xR p :: st) h Ph := by
  intro pp e R s m args below meth c D cA ka A Q n0 a0 mcT msT hC gR hE H locs cells slots al ls h1 h2 h3 h4 hB gL hv
  have hpos := hB.2.2.2.pos hp (by omega)
  rw [List.map_cons, List.map_cons, List.map_cons, x_t_R hpos.1]
  refine va_zast hC.1 hC.2.1 hC.2.2.2.2.2.2.1 hB.1 hB.2.1 hB.2.2.1 (p - 1) 1 ((x_w_at hpos.1 hpos.2).trans (by rw [x_g_int hp (by omega)])) rfl hi hd (fun H1 locs1 hP1 hD1 hS1 => ?_)
  exact kk pp e R s m args below meth c D cA ka A Q n0 a0 mcT msT hC gR hE H1 locs1 cells slots al ls h1 h2 h3 h4 (x_B_of hB (x_w_Ia hpos.1 hp (by omega)) hP1 hD1 hS1 (x_okI hB.2.2.2)) gL (fun v hm => hv v (List.mem_cons_of_mem _ (List.mem_cons_of_mem _ (List.mem_cons_of_mem _ hm))))
theorem sx_aast {p ci v cv : Nat} {i : Int32} (hp : hK h p = ci) (hc : (ci = 14 ∧ cv = 7) ∨ (ci = 15 ∧ cv = 8) ∨ (ci = 16 ∧ cv = 4)) (hw : hK h v = cv) (hi : vp_in i (hL h p)) (hd : decode M.2.1 pc = .ok (.aastore, 1)) (kk : Sx l z d mc ms M (pc + 1) lc st (hRu h p i.toNatClampNeg v) Ph) : Sx l z d mc ms M pc lc (xR v :: xI i :: xR p :: st) h Ph := by
  intro pp e R s m args below meth c D cA ka A Q n0 a0 mcT msT hC gR hE H locs cells slots al ls h1 h2 h3 h4 hB gL hv
  have hpos := hB.2.2.2.pos hp (by omega)
  have hpv := hB.2.2.2.pos hw (by omega)
  rw [List.map_cons, List.map_cons, List.map_cons, x_t_R hpos.1, x_t_R hpv.1]
  have kk9 := fun (H1 : Heap) (locs1 : List Loc) hP1 hD1 hS1 => kk pp e R s m args below meth c D cA ka A Q n0 a0 mcT msT hC gR hE H1 locs1 cells slots al ls h1 h2 h3 h4 (x_B_of hB (x_w_Ra (cA := cA) (al := al) (k := i.toNatClampNeg) (v := v) hpos.1 hp (by omega)) hP1 hD1 hS1 (x_okR hB.2.2.2 hpv.2)) gL (fun v hm => hv v (List.mem_cons_of_mem _ (List.mem_cons_of_mem _ (List.mem_cons_of_mem _ hm))))
  rw [show x_r al v = some (al v) by unfold x_r; rw [if_neg (by omega)]] at kk9
  rcases hc with ⟨rfl, rfl⟩ | ⟨rfl, rfl⟩ | ⟨rfl, rfl⟩
  · exact va_astq hC.1 hC.2.1 hC.2.2.2.2.2.2.1 hB.1 hB.2.1 hB.2.2.1 (p - 1) 2 (v - 1) 7 (r := (xR_Te, xT_Te, 2)) ((x_w_at hpos.1 hpos.2).trans (by rw [x_g_ref hp (by omega)])) rfl ((x_w_at hpv.1 hpv.2).trans (by rw [x_g_obj hw rfl])) rfl hi hd kk9
  · exact va_astq hC.1 hC.2.1 hC.2.2.2.2.2.2.1 hB.1 hB.2.1 hB.2.2.1 (p - 1) 3 (v - 1) 8 (r := (xR_To, xT_To, 2)) ((x_w_at hpos.1 hpos.2).trans (by rw [x_g_ref hp (by omega)])) rfl ((x_w_at hpv.1 hpv.2).trans (by rw [x_g_obj hw rfl])) rfl hi hd kk9
  · exact va_astq hC.1 hC.2.1 hC.2.2.2.2.2.2.1 hB.1 hB.2.1 hB.2.2.1 (p - 1) 4 (v - 1) 4 (r := (xR_Sh, xT_Sh, 3)) ((x_w_at hpos.1 hpos.2).trans (by rw [x_g_ref hp (by omega)])) rfl ((x_w_at hpv.1 hpv.2).trans (by rw [x_g_obj hw rfl])) rfl hi hd kk9
theorem sx_alen {p ci : Nat} (hp : hK h p = ci) (hc : 12 ≤ ci ∧ ci ≤ 16) (hd : decode M.2.1 pc = .ok (.arraylength, 1)) (kk : Sx l z d mc ms M (pc + 1) lc (xI (Int32.ofNat (hL h p)) :: st) h Ph) : Sx l z d mc ms M pc lc (xR p :: st) h Ph := by
  intro pp e R s m args below meth c D cA ka A Q n0 a0 mcT msT hC gR hE H locs cells slots al ls h1 h2 h3 h4 hB gL hv
  have hpos := hB.2.2.2.pos hp (by omega)
  rw [List.map_cons, x_t_R hpos.1]
  have kk9 := (kk pp e R s m args below meth c D cA ka A Q n0 a0 mcT msT hC gR hE H locs cells slots al ls h1 h2 h3 h4 hB gL (List.forall_mem_cons.mpr ⟨trivial, (fun v hm => hv v (List.mem_cons_of_mem _ hm))⟩))
  have h3c : ci = 12 ∨ ci = 13 ∨ ci = 14 ∨ ci = 15 ∨ ci = 16 := by omega
  rcases h3c with rfl | rfl | rfl | rfl | rfl
  · exact va_alen (x := (hL h p, .inl (hI h p))) hC.1 hC.2.1 hC.2.2.2.2.2.2.1 hB.1 (p - 1) 0 ((x_w_at hpos.1 hpos.2).trans (by rw [x_g_int hp (by omega)])) rfl rfl hd kk9
  · exact va_alen (x := (hL h p, .inl (hI h p))) hC.1 hC.2.1 hC.2.2.2.2.2.2.1 hB.1 (p - 1) 1 ((x_w_at hpos.1 hpos.2).trans (by rw [x_g_int hp (by omega)])) rfl rfl hd kk9
  · exact va_alen (x := (hL h p, .inr (.inr (.inr (.inr (fun j => x_r al (hR h p j))))))) hC.1 hC.2.1 hC.2.2.2.2.2.2.1 hB.1 (p - 1) 2 ((x_w_at hpos.1 hpos.2).trans (by rw [x_g_ref hp (by omega)])) rfl rfl hd kk9
  · exact va_alen (x := (hL h p, .inr (.inr (.inr (.inr (fun j => x_r al (hR h p j))))))) hC.1 hC.2.1 hC.2.2.2.2.2.2.1 hB.1 (p - 1) 3 ((x_w_at hpos.1 hpos.2).trans (by rw [x_g_ref hp (by omega)])) rfl rfl hd kk9
  · exact va_alen (x := (hL h p, .inr (.inr (.inr (.inr (fun j => x_r al (hR h p j))))))) hC.1 hC.2.1 hC.2.2.2.2.2.2.1 hB.1 (p - 1) 4 ((x_w_at hpos.1 hpos.2).trans (by rw [x_g_ref hp (by omega)])) rfl rfl hd kk9
/-! the script, and the row ABOVE -/
theorem x_t_S {al : Nat → Nat} {ka : xK} {k : Nat} (hk : k ≠ 31) : x_t al ka (xS k) = .ref (ka.1 k) := by
  show (if k = 31 then va_rf ka.2 else .ref (ka.1 k)) = _
  rw [if_neg hk]
theorem sx_slen (hd : decode M.2.1 pc = .ok (.arraylength, 1)) (kk : Sx l z d mc ms M (pc + 1) lc (xI (Int32.ofNat z.1) :: st) h Ph) : Sx l z d mc ms M pc lc (xS 14 :: st) h Ph := by
  intro pp e R s m args below meth c D cA ka A Q n0 a0 mcT msT hC gR hE H locs cells slots al ls h1 h2 h3 h4 hB gL hv
  rw [List.map_cons, x_t_S (by decide)]
  obtain ⟨a1, a2, a3, a4, a5, a6, a7, a8, a9, a10⟩ := hC.2.2.2.2.2.2.2.2.2.2
  exact va_slen hC.1 hC.2.1 a7 a8 a9 hB.2.2.1 hd (kk pp e R s m args below meth c D cA ka A Q n0 a0 mcT msT hC gR hE H locs cells slots al ls h1 h2 h3 h4 hB gL (List.forall_mem_cons.mpr ⟨trivial, (fun v hm => hv v (List.mem_cons_of_mem _ hm))⟩))
theorem sx_sld {i : Int32} (hi : vp_in i z.1) (hd : decode M.2.1 pc = .ok (.iaload, 1)) (kk : Sx l z d mc ms M (pc + 1) lc (xI (z.2 i.toNatClampNeg) :: st) h Ph) : Sx l z d mc ms M pc lc (xI i :: xS 14 :: st) h Ph := by
  intro pp e R s m args below meth c D cA ka A Q n0 a0 mcT msT hC gR hE H locs cells slots al ls h1 h2 h3 h4 hB gL hv
  rw [List.map_cons, List.map_cons, x_t_S (by decide)]
  obtain ⟨a1, a2, a3, a4, a5, a6, a7, a8, a9, a10⟩ := hC.2.2.2.2.2.2.2.2.2.2
  exact va_sld hC.1 hC.2.1 a7 a8 a9 hB.2.2.1 hi hd (kk pp e R s m args below meth c D cA ka A Q n0 a0 mcT msT hC gR hE H locs cells slots al ls h1 h2 h3 h4 hB gL (List.forall_mem_cons.mpr ⟨trivial, (fun v hm => hv v (List.mem_cons_of_mem _ (List.mem_cons_of_mem _ hm)))⟩))
theorem sx_above {idx : Nat} (hw : Cond.fieldLink M.1.cls idx "ThreesAtTable$Town" "ABOVE" "[I" ∈ xTB) (hd : decode M.2.1 pc = .ok (.getstatic idx, 3)) (kk : Sx l z d mc ms M (pc + 3) lc (xS 15 :: st) h Ph) : Sx l z d mc ms M pc lc st h Ph := by
  intro pp e R s m args below meth c D cA ka A Q n0 a0 mcT msT hC gR hE H locs cells slots al ls h1 h2 h3 h4 hB gL hv
  obtain ⟨a1, a2, a3, a4, a5, a6, a7, a8, a9, a10⟩ := hC.2.2.2.2.2.2.2.2.2.2
  have kk9 := (kk pp e R s m args below meth c D cA ka A Q n0 a0 mcT msT hC gR hE H locs cells slots al ls h1 h2 h3 h4 hB gL (List.forall_mem_cons.mpr ⟨trivial, hv⟩))
  rw [List.map_cons, x_t_S (by decide)] at kk9
  exact va_gets hC.1 hC.2.1 a5 hB.2.2.1 hC.2.2.2.2.1 (hC.2.2.2.2.2.1 _ hw) (fun _ h9 => h9) hd kk9
theorem sx_abld {i : Int32} (hi : vp_in i 6) (hd : decode M.2.1 pc = .ok (.iaload, 1)) (kk : Sx l z d mc ms M (pc + 1) lc (xI (x_ab i.toNatClampNeg) :: st) h Ph) : Sx l z d mc ms M pc lc (xI i :: xS 15 :: st) h Ph := by
  intro pp e R s m args below meth c D cA ka A Q n0 a0 mcT msT hC gR hE H locs cells slots al ls h1 h2 h3 h4 hB gL hv
  rw [List.map_cons, List.map_cons, x_t_S (by decide)]
  obtain ⟨a1, a2, a3, a4, a5, a6, a7, a8, a9, a10⟩ := hC.2.2.2.2.2.2.2.2.2.2
  obtain ⟨cell, b1, b2, b3, b4, b5, b6, b7⟩ := a6.kept hB.2.2.1.2.1
  have hlt : i.toNatClampNeg < 6 := Nat.not_le.mp fun q => hi (Or.inr q)
  exact W.iald (v := .int (x_ab i.toNatClampNeg)) hC.1 hC.2.1 b1 b2 b3 (fun q => q.elim (fun q => hi (Or.inl q)) (fun q => by omega)) (b6 _ hlt) rfl rfl hd (kk pp e R s m args below meth c D cA ka A Q n0 a0 mcT msT hC gR hE H locs cells slots al ls h1 h2 h3 h4 hB gL (List.forall_mem_cons.mpr ⟨trivial, (fun v hm => hv v (List.mem_cons_of_mem _ (List.mem_cons_of_mem _ hm)))⟩))
end XH

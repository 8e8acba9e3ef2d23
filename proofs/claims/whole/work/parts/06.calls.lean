section XM
variable {l : Launch} {z : xZ} {d mc ms : Nat} {M : xM} {pc : Nat} {lc : List (Option xV)} {st : List xV} {h : xH} {Ph : Option xV → xH → Prop}
theorem x_rr_vo {ret : Option FieldType} {i : Instr} {r : Option xV} {n : Nat} (hr : x_rr ret i st r) (hv : ∀ v ∈ st, x_vo n v) : ∀ v, r = some v → x_vo n v := by
  intro v hv1
  unfold x_rr at hr
  split at hr
  · rw [hr.2.2] at hv1; cases hv1
  · obtain ⟨-, w, h1, h2⟩ := hr
    rw [h2] at hv1; cases hv1; trivial
  · obtain ⟨-, w, h1, h2⟩ := hr
    rw [h2] at hv1; cases hv1
    exact hv _ (by rw [h1]; exact List.mem_cons_self)
  · obtain ⟨-, w, h1, h2⟩ := hr
    rw [h2] at hv1; cases hv1
    exact hv _ (by rw [h1]; exact List.mem_cons_self)
  · exact hr.elim
  · exact hr.elim
  · obtain ⟨-, w, w0, h1, h2, h3⟩ := hr
    rw [h2] at hv1; cases hv1; trivial
theorem sx_ret {i : Instr} {r : Option xV} (hd : decode M.2.1 pc = .ok (i, 1)) (hr : x_rr M.2.2.2 i st r) (hp : Ph r h) : Sx l z d mc ms M pc lc st h Ph := by
  intro pp e R s m args below meth c D cA ka A Q n0 a0 mcT msT hC gR hE H locs cells slots al ls h1 h2 h3 h4 hB gL hv
  exact hE H locs cells slots al ls h pc i st r (by omega) (by omega) h3 h4 hB (x_rr_vo hr hv) hp hd hr
/-! a method's contract out of its walk -/
def x_ar (as : List xV) : List (Option xV) := as.flatMap (fun v => if x_wide (some (some v)) = true then [some v, none] else [some v])
def x_en (as : List xV) (n : Nat) : List (Option xV) := x_ar as ++ List.replicate (n - (x_ar as).length) none
theorem x_ar_len {al : Nat → Nat} {ka : xK} (as : List xV) : (lg_sl (as.map (x_t al ka))).length = (x_ar as).length := by
  induction as with
  | nil => rfl
  | cons v t ih =>
    rw [List.map_cons]
    unfold lg_sl x_ar at ih ⊢
    rw [List.flatMap_cons, List.flatMap_cons, List.length_append, List.length_append, ih]
    by_cases hw : x_wide (some (some v)) = true
    · rw [if_pos ((x_wide_t al ka v).mpr hw), if_pos hw]; rfl
    · rw [if_neg (fun q => hw ((x_wide_t al ka v).mp q)), if_neg hw]; rfl
theorem x_ar_in {al : Nat → Nat} {ka : xK} (as : List xV) : ∀ (k i : Nat) (v : xV), (x_ar as)[i]? = some (some v) → (k + i, x_t al ka v) ∈ lv_args k (as.map (x_t al ka)) ∧ v ∈ as := by
  induction as with
  | nil => intro k i v hi; cases hi
  | cons a t ih =>
    intro k i v hi
    have e : x_ar (a :: t) = (if x_wide (some (some a)) = true then [some a, none] else [some a]) ++ x_ar t := by unfold x_ar; rw [List.flatMap_cons]
    rw [e] at hi
    rw [List.map_cons]
    show _ ∈ (k, x_t al ka a) :: lv_args (if (x_t al ka a).category = 2 then k + 2 else k + 1) (t.map (x_t al ka)) ∧ _
    by_cases hw : x_wide (some (some a)) = true
    · rw [if_pos hw] at hi
      rw [if_pos ((x_wide_t al ka a).mpr hw)]
      match i, hi with
      | 0, hi => cases hi; exact ⟨List.mem_cons_self, List.mem_cons_self⟩
      | 1, hi => cases hi
      | i + 2, hi =>
        have := ih (k + 2) i v (by simpa using hi)
        rw [show k + 2 + i = k + (i + 2) by omega] at this
        exact ⟨List.mem_cons_of_mem _ this.1, List.mem_cons_of_mem _ this.2⟩
    · rw [if_neg hw] at hi
      rw [if_neg (fun q => hw ((x_wide_t al ka a).mp q))]
      match i, hi with
      | 0, hi => cases hi; exact ⟨List.mem_cons_self, List.mem_cons_self⟩
      | i + 1, hi =>
        have := ih (k + 1) i v (by simpa using hi)
        rw [show k + 1 + i = k + (i + 1) by omega] at this
        exact ⟨List.mem_cons_of_mem _ this.1, List.mem_cons_of_mem _ this.2⟩
theorem x_en_L {al : Nat → Nat} {ka : xK} {as : List xV} {np n : Nat} (hn : (x_ar as).length ≤ n) (hv : ∀ v ∈ as, x_vo np v) : x_L al ka np n (x_en as n) ((lg_sl (as.map (x_t al ka)) ++ List.replicate (n - (lg_sl (as.map (x_t al ka))).length) Slot.unset).toArray) := by
  have hl := lv_entry (as.map (x_t al ka)) (n := n) (by rw [x_ar_len]; exact hn)
  refine ⟨hl.1, hl.2.1, fun i v hi => ?_⟩
  have hi2 : (x_ar as)[i]? = some (some v) := by
    unfold x_en at hi
    by_cases hlt : i < (x_ar as).length
    · rwa [List.getElem?_append_left hlt] at hi
    · rw [List.getElem?_append_right (by omega), List.getElem?_replicate] at hi
      split at hi <;> cases hi
  have h9 := x_ar_in (al := al) (ka := ka) as 0 i v hi2
  rw [Nat.zero_add] at h9
  exact ⟨hl.2.2 _ h9.1, hv v h9.2⟩
theorem x_zret {p : Program} {e : Env} {R : Room} {s : State} {m : MethodId} {args : Array Value} {below : List Frame} {meth : Method} {c : Code} {H : Heap} {locs : List Loc} {cells slots : Nat} {cc : ByteArray} {Qc : Array Value → State → Outcome → State → Prop} {free : Addr → Prop} {v v0 : Int32} {ty : FieldType} (hexec : p.tables.exec = Jvm.exec) (hb : c.code = cc) (hr : meth.sig.returnType = some ty) (hn : narrow ty (.int v0) = .int v)
    (hq : ∀ t : State, t.heap = H → s.WarmedH t.vm → Qc args s (.returned (some (.int v))) t) (hf : ∀ q ∈ locs, free q.base)
    {pc : Nat} {ls : Array Slot} (hdg : decode cc pc = .ok (.ireturn, 1)) (hlocks : meth.locks = false) : W p l e R s m args below meth c H locs cells slots (MQ below Qc args s cells slots free) (F0 m pc ls [.int v0]) := by
  intro T hT X
  obtain ⟨fs, hret, hrun, hended, hW, hframe⟩ := X.leave (v := some (.int v)) (fun h => by rw [hr] at h; cases h)
  have hmeth' : T.vm.method? m = some meth := X.method'
  refine ⟨T.setFrames fs, ?_, .returned (some (.int v)), hrun, hended, hq _ hT hW, locs, ⟨⟨_, rfl⟩, hW, hframe⟩, hf⟩
  jvm_step X.here [X.here.top, hexec, hb, hdg, hmeth', hr, hn]
  (try refine ⟨rfl, ?_⟩); (try refine ⟨rfl, ?_⟩)
  first | (intro acts; rw [hret _ acts rfl rfl rfl]) | rw [hret _ _ rfl rfl rfl]
  exact Steps.refl _
def x_Pc (D : va_G) (cA : Nat → ClassId) (ka : xK) (z : xZ) (al : Nat → Nat) (sz : Nat) (as : List xV) (h : xH) : Array Value → State → Prop :=
  va_Pc (as.map (x_t al ka)) (fun U => U.heap.size = sz ∧ va_P D xC (x_w cA al h) U.heap ∧ va_K D xC (x_tys cA) U ∧ va_D (fun _ => True) (x_w cA al h) ∧ x_Str ka z (va_A (x_w cA al h) sz) U)
def x_Qc (D : va_G) (cA : Nat → ClassId) (ka : xK) (al : Nat → Nat) (sz : Nat) (h : xH) (Ph : Option xV → xH → Prop) : Array Value → State → Outcome → State → Prop := fun _ st oc t =>
  (∃ (r : Option xV) (h2 : xH) (al2 : Nat → Nat), oc = .returned (r.map (x_t al2 ka)) ∧ Ph r h2 ∧ (∀ v, r = some v → x_vo (hN h2) v) ∧ x_ok h2 ∧ hN h ≤ hN h2 ∧ (∀ q, q < hN h → al2 q = al q) ∧ va_P D xC (x_w cA al2 h2) t.heap ∧ va_K D xC (x_tys cA) t ∧ va_D (va_A (x_w cA al h) sz) (x_w cA al2 h2)) ∧ va_F (va_A (x_w cA al h) sz) st t
theorem Sx.met {as : List xV} (hpl : plainName M.1.cls = true) (hn : (x_ar as).length ≤ M.2.2.1) (hx : Sx l z d mc ms M 0 (x_en as M.2.2.1) [] h Ph) (hvo : ∀ v ∈ as, x_vo (hN h) v) (hok : x_ok h) (D : va_G) (cA : Nat → ClassId) (ka : xK) (al : Nat → Nat) (sz : Nat) :
    Met l M.1 (x_ws M) (x_rm d mc ms) (x_Pc D cA ka z al sz as h) (x_Qc D cA ka al sz h Ph) mc ms (va_A (x_w cA al h) sz) := by
  refine Met.ofW (cc := M.2.1) (maxL := M.2.2.1) (ret := M.2.2.2) hpl rfl ?_
  intro p e s m args below meth c s₁ B hml hv
  obtain ⟨rfl, hsz, hP, hKs, hD0, hStr⟩ := hv
  subst hsz
  have hts := atoms_spec (ws := x_ws M) B.pre
  have hA : ∀ q : Nat, s.heap.size ≤ q → va_A (x_w cA al h) s.heap.size q := fun q h => Or.inr h
  have hC : x_C M z p s m (as.map (x_t al ka)).toArray meth c D cA ka (va_A (x_w cA al h) s.heap.size) :=
    ⟨B.exec, B.bytes, hml, B.returns, findClass_of_methodNamed B.named, fun w hw => hts w (List.mem_cons_of_mem _ hw), hKs, B.notSynchronized, fun hi => by rw [← hi]; exact (name_of_methodNamed B.named B.method).1, hA, hStr⟩
  have hB : x_B D cA al (va_A (x_w cA al h) s.heap.size) s h s.heap [] := ⟨hP, hD0.self, va_S.rf, hok⟩
  rw [lg_entry_eq]
  refine hx p e (x_rm d mc ms) s m (as.map (x_t al ka)).toArray below meth c D cA ka (va_A (x_w cA al h) s.heap.size) _ (hN h) al mc ms hC ⟨Nat.le_refl _, Nat.le_refl _, Nat.le_refl _, Nat.le_refl _⟩ ?_ s.heap [] 0 0 al _ (by omega) (by omega) (fun _ _ => rfl) (Nat.le_refl _) hB (x_en_L hn hvo) (fun v hv => absurd hv List.not_mem_nil)
  intro H locs cells slots al2 ls h2 pc i st r q1 q2 q3 q4 qB qv qp qd qr
  refine W.widen q1 q2 ?_
  have hq : ∀ t : State, t.heap = H → s.WarmedH t.vm → x_Qc D cA ka al s.heap.size h Ph (as.map (x_t al ka)).toArray s (.returned (r.map (x_t al2 ka))) t := fun t ht hW =>
    ⟨⟨r, h2, al2, rfl, qp, qv, qB.2.2.2, q4, q3, by rw [ht]; exact qB.1, va_K.moved hW.alike hKs, qB.2.1⟩, qB.2.2.1.F ht⟩
  have hlk := B.notSynchronized
  have hrt := B.returns
  generalize hret : M.2.2.2 = ret at qr hrt
  unfold x_rr at qr
  split at qr
  · obtain ⟨rfl, rfl, rfl⟩ := qr
    exact W.vret B.exec B.bytes hrt hq qB.2.2.1.2.2 qd
  · obtain ⟨rfl, w, rfl, rfl⟩ := qr
    exact W.lret B.exec B.bytes hrt hq qB.2.2.1.2.2 qd
  · obtain ⟨rfl, w, rfl, rfl⟩ := qr
    exact W.aret B.exec B.bytes hrt (Or.inl ⟨_, rfl⟩) (x_t_ref al2 ka w) hq qB.2.2.1.2.2 qd
  · obtain ⟨rfl, w, rfl, rfl⟩ := qr
    exact W.aret B.exec B.bytes hrt (Or.inr ⟨_, rfl⟩) (x_t_ref al2 ka w) hq qB.2.2.1.2.2 qd
  · exact qr.elim
  · exact qr.elim
  · obtain ⟨rfl, w, w0, rfl, rfl, hnw⟩ := qr
    exact x_zret B.exec B.bytes hrt hnw hq qB.2.2.1.2.2 qd hlk
/-! calls -/
theorem x_blind {D : va_G} {cA : Nat → ClassId} {ka : xK} {al : Nat → Nat} {sz : Nat} {as : List xV} : FrameBlind (x_Pc D cA ka z al sz as h) := by
  intro a U g mk hq
  obtain ⟨q0, q1, qP, qK, qD, qS⟩ := hq
  exact ⟨q0, q1, qP, va_K.moved (u := U) (U := U.calling g mk a) (Vm.Alike.refl U.vm) qK, qD, qS.same rfl rfl⟩
theorem x_after {p : Program} {e : Env} {R : Room} {s : State} {m : MethodId} {args : Array Value} {below : List Frame} {meth : Method} {c : Code} {H : Heap} {locs : List Loc} {cells slots mc2 ms2 : Nat} {Q : State → Prop} {ls : Array Slot} {st0 rest : List Value} {a : Array Value} {D : va_G} {cA : Nat → ClassId} {ka : xK} {al : Nat → Nat} {A : Nat → Prop} {Ps : Option xV → xH → Prop}
    (hr : va_Run p l e R s m args below meth c H locs cells slots mc2 ms2 (F0 m pc ls st0) rest (x_Qc D cA ka al H.size h Ps a) (va_A (x_w cA al h) H.size)) (hB : x_B D cA al A s h H locs) (hAA : ∀ q, s.heap.size ≤ q → A q)
    (kk : ∀ (r : Option xV) (h2 : xH) (al2 : Nat → Nat) (H1 : Heap) (locs1 : List Loc), Ps r h2 → (∀ v, r = some v → x_vo (hN h2) v) → hN h ≤ hN h2 → (∀ q, q < hN h → al2 q = al q) → x_B D cA al2 A s h2 H1 locs1 → W p l e R s m args below meth c H1 locs1 (cells + mc2) (slots + ms2) Q (F0 m (pc + 3) ls (r.toList.map (x_t al2 ka) ++ rest))) : W p l e R s m args below meth c H locs cells slots Q (F0 m pc ls st0) := by
  intro T hT X
  obtain ⟨v, st₀, t, T', L, h0, X', hLf, e1, e2, ⟨⟨r, h2, al2, hoc, hps, hvo, hok, hnn, hal, hP, hKt, hD⟩, hz, hk⟩, st⟩ := hr T hT X
  rw [h0] at hz hk
  have hAf : ∀ q, va_A (x_w cA al h) H.size q → A q := by
    intro q hq
    rcases hq with ⟨k, e, hq⟩ | hq
    · exact hB.2.1.2 k (q, e) hq
    · exact hAA q (Nat.le_trans hB.2.2.1.1 hq)
  have hv : v = r.map (x_t al2 ka) := by
    injection hoc
  subst hv
  have hS : va_S A s.heap T'.heap (locs ++ L) := ⟨Nat.le_trans hB.2.2.1.1 (by rw [e1]; exact hz), fun q h1 h2 => by rw [e1, hk q (Nat.lt_of_lt_of_le h1 hB.2.2.1.1) (fun z => h2 (hAf q z))]; exact hB.2.2.1.2.1 q h1 h2, fun q hq => by
      rcases List.mem_append.mp hq with h | h
      · exact hB.2.2.1.2.2 q h
      · exact hAf _ (hLf q h)⟩
  obtain ⟨t2, a1, b1⟩ := kk r h2 al2 T'.heap (locs ++ L) hps hvo hnn hal ⟨by rw [e1]; exact hP, hD.weaken (fun _ _ _ h => hAf _ h), hS, hok⟩ T' rfl X'
  have es : (r.map (x_t al2 ka)).toList = r.toList.map (x_t al2 ka) := by cases r <;> rfl
  rw [← es] at a1
  exact ⟨t2, st t2 a1, b1⟩
/-- what a method's own tables say -/
def x_mk (M2 : xM) (n : Nat) : Prop := plainName M2.1.cls = true ∧ (M2.1.cls ≠ "java/lang/invoke/MethodHandle" ∧ M2.1.cls ≠ "java/lang/invoke/VarHandle" ∧ (parseMethodDescriptor M2.1.desc).map (fun d => d.parameters.length) = some n) ∧ M2.2.2.1 ≤ 20 ∧ Cond.initialized M2.1.cls ∈ xTB ∧ Cond.code M2.1 M2.2.1 M2.2.2.1 M2.2.2.2 ∈ xTB
theorem x_TBgood {w : Cond} (hw : w ∈ xTB) : goodWord w = true := (List.mem_filter.mp hw).2
theorem x_goodIn {M2 : xM} (h2 : Cond.code M2.1 M2.2.1 M2.2.2.1 M2.2.2.2 ∈ xTB) : GoodIn xTB (x_ws M2) := fun w hw => by
  rcases List.mem_cons.mp hw with rfl | hw
  · exact ⟨h2, good_of_word (x_TBgood h2)⟩
  · exact ⟨hw, good_of_word (x_TBgood hw)⟩
theorem x_pre {D : va_G} {cA : Nat → ClassId} {ka : xK} {al : Nat → Nat} {A : Nat → Prop} {p : Program} {s : State} {m : MethodId} {args : Array Value} {meth : Method} {c : Code} {H : Heap} {locs : List Loc} {as : List xV} (hC : x_C M z p s m args meth c D cA ka A) (hB : x_B D cA al A s h H locs) : PreS s H (x_Pc D cA ka z al H.size as h) (as.map (x_t al ka)) := by
  refine ⟨x_blind, fun U hU hW => ⟨rfl, by rw [hU], by rw [hU]; exact hB.1, va_K.moved hW.alike hC.2.2.2.2.2.2.1, hB.2.1.weaken (fun _ _ _ _ => trivial), hC.2.2.2.2.2.2.2.2.2.2.call (locs := locs) hW (by rw [hU]; exact hB.2.2.1) (fun q hq => ?_)⟩⟩
  rcases hq with ⟨k, e, hq⟩ | hq
  · exact hB.2.1.2 k (q, e) hq
  · exact hC.2.2.2.2.2.2.2.2.2.1 q (Nat.le_trans hB.2.2.1.1 hq)
def x_ct (v : xV) : Nat := if x_wide (some (some v)) = true then 2 else 1
theorem x_ct_t (al : Nat → Nat) (ka : xK) (st : List xV) : ((st.map (x_t al ka)).map fun v => v.category).sum = (st.map x_ct).sum := by
  induction st with
  | nil => rfl
  | cons v t ih =>
    rw [List.map_cons, List.map_cons, List.map_cons, List.sum_cons, List.sum_cons, ih]
    congr 1
    unfold x_ct
    by_cases hw : x_wide (some (some v)) = true
    · rw [if_pos hw]; exact (x_wide_t al ka v).mpr hw
    · rw [if_neg hw]
      rcases lv_cat (x_t al ka v) with q | q
      · exact q
      · exact absurd ((x_wide_t al ka v).mp q) hw
theorem x_L.moved {al al2 : Nat → Nat} {ka : xK} {np np2 n : Nat} {ls : Array Slot} (h : x_L al ka np n lc ls) (h1 : np ≤ np2) (h2 : ∀ q, q < np → al2 q = al q) : x_L al2 ka np2 n lc ls := by
  refine ⟨h.1, h.2.1, fun i v hi => ?_⟩
  obtain ⟨a1, a2⟩ := h.2.2 i v hi
  rcases v with v | v | v | v
  · exact ⟨a1, trivial⟩
  · exact ⟨a1, trivial⟩
  · have a3 : v < np := a2
    refine ⟨?_, Nat.lt_of_lt_of_le a3 h1⟩
    rw [a1]
    show some (Slot.val (va_rf (x_r al v))) = some (Slot.val (va_rf (x_r al2 v)))
    unfold x_r
    rw [h2 v a3]
  · exact ⟨a1, trivial⟩
theorem x_st_moved {al al2 : Nat → Nat} {ka : xK} {np : Nat} (hv : ∀ v ∈ st, x_vo np v) (h2 : ∀ q, q < np → al2 q = al q) : st.map (x_t al2 ka) = st.map (x_t al ka) := by
  apply List.map_congr_left
  intro v hm
  have a2 := hv v hm
  rcases v with v | v | v | v
  · rfl
  · rfl
  · have a3 : v < np := a2
    show va_rf (x_r al2 v) = va_rf (x_r al v)
    unfold x_r
    rw [h2 v a3]
  · rfl
theorem x_vo_mono {n n2 : Nat} (hn : n ≤ n2) {v : xV} (hv : x_vo n v) : x_vo n2 v := by
  rcases v with v | v | v | v
  · trivial
  · trivial
  · exact Nat.lt_of_lt_of_le hv hn
  · trivial
theorem sx_callV {M2 : xM} {as stk : List xV} {b : Nat} {d2 mc2 ms2 idx n : Nat} (hm : x_mk M2 n) (hst : stk = as.reverse ++ xR b :: st) (hk : ∃ q, xcl[hK h b]? = some q ∧ q.1.1 = M2.1.cls) (hl : Cond.methodLink M.1.cls idx M2.1 ∈ xTB) (hin : Cond.instanceMethod M2.1 ∈ xTB) (hse : Cond.selects M2.1.cls M2.1 M2.1 ∈ xTB) (hn : as.length = n) (hz : (x_ar (xR b :: as)).length ≤ M2.2.2.1) (hct : (st.map x_ct).sum ≤ 8) (hd : decode M.2.1 pc = .ok (.invokevirtual idx, 3)) (hd2 : d2 + 1 ≤ d) (hmc : mc2 ≤ mc) (hms : ms2 ≤ ms) (kk : Sx l z d2 mc2 ms2 M2 0 (x_en (xR b :: as) M2.2.2.1) [] h (fun r h2 => Sx l z d (mc - mc2) (ms - ms2) M (pc + 3) lc (r.toList ++ st) h2 Ph)) : Sx l z d mc ms M pc lc stk h Ph := by
  intro pp e R s m args below meth c D cA ka A Q n0 a0 mcT msT hC gR hE H locs cells slots al ls h1 h2 h3 h4 hB gL hv
  obtain ⟨k1, k2, k3, k4, k5⟩ := hm
  have hts := hC.2.2.2.2.2.1
  have hvA : ∀ v ∈ (xR b :: as), x_vo (hN h) v := fun v hm => hv v (by rw [hst]; exact (List.mem_cons.mp hm).elim (fun e => by rw [e]; exact List.mem_append_right _ List.mem_cons_self) (fun hm => List.mem_append_left _ (List.mem_reverse.mpr hm)))
  have hmet := Sx.met k1 hz kk hvA hB.2.2.2 D cA ka al H.size
  have hpre := x_pre (as := xR b :: as) hC hB
  have hR : (x_rm d2 mc2 ms2).frames + 1 ≤ R.frames ∧ 8 + (M2.2.2.1 + 11) + (x_rm d2 mc2 ms2).locals ≤ R.locals := by
    show d2 + 1 ≤ R.frames ∧ 8 + (M2.2.2.1 + 11) + 40 * d2 ≤ R.locals
    omega
  have hW : 2 * (F0 m pc ls (stk.map (x_t al ka))).monitorRoom + ((st.map (x_t al ka)).map fun v => v.category).sum ≤ 8 := lv_room (by rw [x_ct_t]; exact hct)
  have hn2 : (as.map (x_t al ka)).length = n := by rw [List.length_map]; exact hn
  have hb0 : 0 < b := by
    obtain ⟨q, hq, -⟩ := hk
    exact (hB.2.2.2.pos rfl (by have := x_clt hq; omega)).1
  have hstk : (F0 m pc ls (stk.map (x_t al ka))).stack = (as.map (x_t al ka)).reverse ++ .ref (al b) :: st.map (x_t al ka) := by show stk.map (x_t al ka) = _; rw [hst, List.map_append, List.map_reverse, List.map_cons, x_t_R hb0]
  rw [List.map_cons, x_t_R hb0] at hpre
  have hrecv : ∃ cellB : Cell, H[al b]? = some cellB ∧ cellB.vm.isStatics = false ∧ s.vm.findClass M2.1.cls = some cellB.cls := by
    obtain ⟨q, hq, hq2⟩ := hk
    have hpos := hB.2.2.2.pos (p := b) rfl (by have := x_clt hq; omega)
    rw [← hq2]
    exact va_recv hC.2.2.2.2.2.2.1 hB.1 (x_C_at hq) ((x_w_at hpos.1 hpos.2).trans (by rw [x_g_obj rfl hq]))
  have hcw := callB_of (R := R) (own := M.1.cls) (index := idx) n hts (x_goodIn k5) (ws' := xTB) rfl (rm := x_rm d2 mc2 ms2) rfl rfl (hts _ k4) (hts _ hl) k2 hR
  have hrun := va_runV (own := M.1.cls) (e := e) (below := below) (meth := meth) (locs := locs) (cells := cells) (slots := slots) ⟨hC.1, hC.2.1, hC.2.2.1, hC.2.2.2.2.1, hts⟩ hmet ⟨hcw, hts _ hin, hts _ hse⟩ ⟨hpre.1, hrecv, hpre.2⟩ (g := F0 m pc ls (stk.map (x_t al ka))) rfl hn2 gL.1 hstk hW hd (by omega)
  refine x_after hrun hB hC.2.2.2.2.2.2.2.2.2.1 (fun r h2 al2 H1 locs1 hps hvo hnn hal hB1 => ?_)
  have hv9 : ∀ v ∈ st, x_vo (hN h) v := fun v hm => hv v (by rw [hst]; exact List.mem_append_right _ (List.mem_cons_of_mem _ hm))
  have kk9 := hps pp e R s m args below meth c D cA ka A Q n0 a0 mcT msT hC gR hE H1 locs1 (cells + mc2) (slots + ms2) al2 ls (by omega) (by omega) (fun q hq => (hal q (Nat.lt_of_lt_of_le hq h4)).trans (h3 q hq)) (Nat.le_trans h4 hnn) hB1 (gL.moved hnn hal) (fun v hm => by
    rcases List.mem_append.mp hm with hm | hm
    · exact hvo v (Option.mem_toList.mp hm)
    · exact x_vo_mono hnn (hv9 v hm))
  rw [List.map_append, x_st_moved hv9 hal] at kk9
  exact kk9
theorem sx_callX {M2 : xM} {as stk : List xV} {b : Nat} {d2 mc2 ms2 idx n : Nat} (hm : x_mk M2 n) (hst : stk = as.reverse ++ xS b :: st) (hk : b < 14) (hq : M2.1.cls = "java/lang/String") (hl : Cond.methodLink M.1.cls idx M2.1 ∈ xTB) (hin : Cond.instanceMethod M2.1 ∈ xTB) (hse : Cond.selects M2.1.cls M2.1 M2.1 ∈ xTB) (hn : as.length = n) (hz : (x_ar (xS b :: as)).length ≤ M2.2.2.1) (hct : (st.map x_ct).sum ≤ 8) (hd : decode M.2.1 pc = .ok (.invokevirtual idx, 3)) (hd2 : d2 + 1 ≤ d) (hmc : mc2 ≤ mc) (hms : ms2 ≤ ms) (kk : Sx l z d2 mc2 ms2 M2 0 (x_en (xS b :: as) M2.2.2.1) [] h (fun r h2 => Sx l z d (mc - mc2) (ms - ms2) M (pc + 3) lc (r.toList ++ st) h2 Ph)) : Sx l z d mc ms M pc lc stk h Ph := by
  intro pp e R s m args below meth c D cA ka A Q n0 a0 mcT msT hC gR hE H locs cells slots al ls h1 h2 h3 h4 hB gL hv
  obtain ⟨k1, k2, k3, k4, k5⟩ := hm
  have hts := hC.2.2.2.2.2.1
  have hvA : ∀ v ∈ (xS b :: as), x_vo (hN h) v := fun v hm => hv v (by rw [hst]; exact (List.mem_cons.mp hm).elim (fun e => by rw [e]; exact List.mem_append_right _ List.mem_cons_self) (fun hm => List.mem_append_left _ (List.mem_reverse.mpr hm)))
  have hmet := Sx.met k1 hz kk hvA hB.2.2.2 D cA ka al H.size
  have hpre := x_pre (as := xS b :: as) hC hB
  have hR : (x_rm d2 mc2 ms2).frames + 1 ≤ R.frames ∧ 8 + (M2.2.2.1 + 11) + (x_rm d2 mc2 ms2).locals ≤ R.locals := by
    show d2 + 1 ≤ R.frames ∧ 8 + (M2.2.2.1 + 11) + 40 * d2 ≤ R.locals
    omega
  have hW : 2 * (F0 m pc ls (stk.map (x_t al ka))).monitorRoom + ((st.map (x_t al ka)).map fun v => v.category).sum ≤ 8 := lv_room (by rw [x_ct_t]; exact hct)
  have hn2 : (as.map (x_t al ka)).length = n := by rw [List.length_map]; exact hn
  have hstk : (F0 m pc ls (stk.map (x_t al ka))).stack = (as.map (x_t al ka)).reverse ++ .ref (ka.1 b) :: st.map (x_t al ka) := by show stk.map (x_t al ka) = _; rw [hst, List.map_append, List.map_reverse, List.map_cons, x_t_S (by omega)]
  rw [List.map_cons, x_t_S (by omega)] at hpre
  have hrecv : ∃ cellB : Cell, H[ka.1 b]? = some cellB ∧ cellB.vm.isStatics = false ∧ s.vm.findClass M2.1.cls = some cellB.cls := by
    rw [hq]
    exact vk_recv hC.2.2.2.2.2.2.2.2.2.2.1 hk hB.2.2.1
  have hcw := callB_of (R := R) (own := M.1.cls) (index := idx) n hts (x_goodIn k5) (ws' := xTB) rfl (rm := x_rm d2 mc2 ms2) rfl rfl (hts _ k4) (hts _ hl) k2 hR
  have hrun := va_runV (own := M.1.cls) (e := e) (below := below) (meth := meth) (locs := locs) (cells := cells) (slots := slots) ⟨hC.1, hC.2.1, hC.2.2.1, hC.2.2.2.2.1, hts⟩ hmet ⟨hcw, hts _ hin, hts _ hse⟩ ⟨hpre.1, hrecv, hpre.2⟩ (g := F0 m pc ls (stk.map (x_t al ka))) rfl hn2 gL.1 hstk hW hd (by omega)
  refine x_after hrun hB hC.2.2.2.2.2.2.2.2.2.1 (fun r h2 al2 H1 locs1 hps hvo hnn hal hB1 => ?_)
  have hv9 : ∀ v ∈ st, x_vo (hN h) v := fun v hm => hv v (by rw [hst]; exact List.mem_append_right _ (List.mem_cons_of_mem _ hm))
  have kk9 := hps pp e R s m args below meth c D cA ka A Q n0 a0 mcT msT hC gR hE H1 locs1 (cells + mc2) (slots + ms2) al2 ls (by omega) (by omega) (fun q hq => (hal q (Nat.lt_of_lt_of_le hq h4)).trans (h3 q hq)) (Nat.le_trans h4 hnn) hB1 (gL.moved hnn hal) (fun v hm => by
    rcases List.mem_append.mp hm with hm | hm
    · exact hvo v (Option.mem_toList.mp hm)
    · exact x_vo_mono hnn (hv9 v hm))
  rw [List.map_append, x_st_moved hv9 hal] at kk9
  exact kk9
theorem sx_callS {M2 : xM} {as stk : List xV} {d2 mc2 ms2 idx n : Nat} (hm : x_mk M2 n) (hst : stk = as.reverse ++ st) (hl : Cond.methodLink M.1.cls idx M2.1 ∈ xTB) (hin : Cond.static M2.1 ∈ xTB) (hn : as.length = n) (hz : (x_ar (as)).length ≤ M2.2.2.1) (hct : (st.map x_ct).sum ≤ 8) (hd : decode M.2.1 pc = .ok (.invokestatic idx, 3)) (hd2 : d2 + 1 ≤ d) (hmc : mc2 ≤ mc) (hms : ms2 ≤ ms) (kk : Sx l z d2 mc2 ms2 M2 0 (x_en (as) M2.2.2.1) [] h (fun r h2 => Sx l z d (mc - mc2) (ms - ms2) M (pc + 3) lc (r.toList ++ st) h2 Ph)) : Sx l z d mc ms M pc lc stk h Ph := by
  intro pp e R s m args below meth c D cA ka A Q n0 a0 mcT msT hC gR hE H locs cells slots al ls h1 h2 h3 h4 hB gL hv
  obtain ⟨k1, k2, k3, k4, k5⟩ := hm
  have hts := hC.2.2.2.2.2.1
  have hvA : ∀ v ∈ (as), x_vo (hN h) v := fun v hm => hv v (by rw [hst]; exact List.mem_append_left _ (List.mem_reverse.mpr hm))
  have hmet := Sx.met k1 hz kk hvA hB.2.2.2 D cA ka al H.size
  have hpre := x_pre (as := as) hC hB
  have hR : (x_rm d2 mc2 ms2).frames + 1 ≤ R.frames ∧ 8 + (M2.2.2.1 + 11) + (x_rm d2 mc2 ms2).locals ≤ R.locals := by
    show d2 + 1 ≤ R.frames ∧ 8 + (M2.2.2.1 + 11) + 40 * d2 ≤ R.locals
    omega
  have hW : 2 * (F0 m pc ls (stk.map (x_t al ka))).monitorRoom + ((st.map (x_t al ka)).map fun v => v.category).sum ≤ 8 := lv_room (by rw [x_ct_t]; exact hct)
  have hn2 : (as.map (x_t al ka)).length = n := by rw [List.length_map]; exact hn
  have hstk : (F0 m pc ls (stk.map (x_t al ka))).stack = (as.map (x_t al ka)).reverse ++ st.map (x_t al ka) := by rw [hst, List.map_append, List.map_reverse]
  have hcw := callB_of (R := R) (own := M.1.cls) (index := idx) n hts (x_goodIn k5) (ws' := xTB) rfl (rm := x_rm d2 mc2 ms2) rfl rfl (hts _ k4) (hts _ hl) k2 hR
  have hrun := va_runS (own := M.1.cls) (e := e) (below := below) (meth := meth) (locs := locs) (cells := cells) (slots := slots) ⟨hC.1, hC.2.1, hC.2.2.1, hC.2.2.2.2.1, hts⟩ hmet ⟨hcw, hts _ hin⟩ hpre (g := F0 m pc ls (stk.map (x_t al ka))) rfl hn2 gL.1 hstk hW hd (by omega)
  refine x_after hrun hB hC.2.2.2.2.2.2.2.2.2.1 (fun r h2 al2 H1 locs1 hps hvo hnn hal hB1 => ?_)
  have hv9 : ∀ v ∈ st, x_vo (hN h) v := fun v hm => hv v (by rw [hst]; exact List.mem_append_right _ hm)
  have kk9 := hps pp e R s m args below meth c D cA ka A Q n0 a0 mcT msT hC gR hE H1 locs1 (cells + mc2) (slots + ms2) al2 ls (by omega) (by omega) (fun q hq => (hal q (Nat.lt_of_lt_of_le hq h4)).trans (h3 q hq)) (Nat.le_trans h4 hnn) hB1 (gL.moved hnn hal) (fun v hm => by
    rcases List.mem_append.mp hm with hm | hm
    · exact hvo v (Option.mem_toList.mp hm)
    · exact x_vo_mono hnn (hv9 v hm))
  rw [List.map_append, x_st_moved hv9 hal] at kk9
  exact kk9
theorem sx_callI {M2 : xM} {as stk : List xV} {b : Nat} {d2 mc2 ms2 idx n : Nat} (hm : x_mk M2 n) (hst : stk = as.reverse ++ xR b :: st) (hl : Cond.methodLink M.1.cls idx M2.1 ∈ xTB) (hin : Cond.instanceMethod M2.1 ∈ xTB) (hy : M2.1.name = "<init>" ∧ M2.2.2.2 = none) {cb : Nat} (hb : hK h b = cb) (h99 : cb < 99) (hn : as.length = n) (hz : (x_ar (xR b :: as)).length ≤ M2.2.2.1) (hct : (st.map x_ct).sum ≤ 8) (hd : decode M.2.1 pc = .ok (.invokespecial idx, 3)) (hd2 : d2 + 1 ≤ d) (hmc : mc2 ≤ mc) (hms : ms2 ≤ ms) (kk : Sx l z d2 mc2 ms2 M2 0 (x_en (xR b :: as) M2.2.2.1) [] h (fun r h2 => Sx l z d (mc - mc2) (ms - ms2) M (pc + 3) lc (r.toList ++ st) h2 Ph)) : Sx l z d mc ms M pc lc stk h Ph := by
  intro pp e R s m args below meth c D cA ka A Q n0 a0 mcT msT hC gR hE H locs cells slots al ls h1 h2 h3 h4 hB gL hv
  obtain ⟨k1, k2, k3, k4, k5⟩ := hm
  have hts := hC.2.2.2.2.2.1
  have hvA : ∀ v ∈ (xR b :: as), x_vo (hN h) v := fun v hm => hv v (by rw [hst]; exact (List.mem_cons.mp hm).elim (fun e => by rw [e]; exact List.mem_append_right _ List.mem_cons_self) (fun hm => List.mem_append_left _ (List.mem_reverse.mpr hm)))
  have hmet := Sx.met k1 hz kk hvA hB.2.2.2 D cA ka al H.size
  have hpre := x_pre (as := xR b :: as) hC hB
  have hR : (x_rm d2 mc2 ms2).frames + 1 ≤ R.frames ∧ 8 + (M2.2.2.1 + 11) + (x_rm d2 mc2 ms2).locals ≤ R.locals := by
    show d2 + 1 ≤ R.frames ∧ 8 + (M2.2.2.1 + 11) + 40 * d2 ≤ R.locals
    omega
  have hW : 2 * (F0 m pc ls (stk.map (x_t al ka))).monitorRoom + ((st.map (x_t al ka)).map fun v => v.category).sum ≤ 8 := lv_room (by rw [x_ct_t]; exact hct)
  have hn2 : (as.map (x_t al ka)).length = n := by rw [List.length_map]; exact hn
  have hb0 : 0 < b := (hB.2.2.2.pos hb h99).1
  have hstk : (F0 m pc ls (stk.map (x_t al ka))).stack = (as.map (x_t al ka)).reverse ++ .ref (al b) :: st.map (x_t al ka) := by show stk.map (x_t al ka) = _; rw [hst, List.map_append, List.map_reverse, List.map_cons, x_t_R hb0]
  rw [List.map_cons, x_t_R hb0] at hpre
  have hcw := callB_of (R := R) (own := M.1.cls) (index := idx) (bytes := M2.2.1) (ret := none) n hts (x_goodIn k5) (ws' := xTB) (by unfold x_ws; rw [hy.2]) (rm := x_rm d2 mc2 ms2) rfl rfl (hts _ k4) (hts _ hl) k2 hR
  have hrun := va_runI (own := M.1.cls) (e := e) (below := below) (meth := meth) (locs := locs) (cells := cells) (slots := slots) ⟨hC.1, hC.2.1, hC.2.2.1, hC.2.2.2.2.1, hts⟩ hmet ⟨hcw, hy.1, hts _ hin⟩ hpre (g := F0 m pc ls (stk.map (x_t al ka))) rfl hn2 gL.1 hstk hW hd (by omega)
  refine x_after hrun hB hC.2.2.2.2.2.2.2.2.2.1 (fun r h2 al2 H1 locs1 hps hvo hnn hal hB1 => ?_)
  have hv9 : ∀ v ∈ st, x_vo (hN h) v := fun v hm => hv v (by rw [hst]; exact List.mem_append_right _ (List.mem_cons_of_mem _ hm))
  have kk9 := hps pp e R s m args below meth c D cA ka A Q n0 a0 mcT msT hC gR hE H1 locs1 (cells + mc2) (slots + ms2) al2 ls (by omega) (by omega) (fun q hq => (hal q (Nat.lt_of_lt_of_le hq h4)).trans (h3 q hq)) (Nat.le_trans h4 hnn) hB1 (gL.moved hnn hal) (fun v hm => by
    rcases List.mem_append.mp hm with hm | hm
    · exact hvo v (Option.mem_toList.mp hm)
    · exact x_vo_mono hnn (hv9 v hm))
  rw [List.map_append, x_st_moved hv9 hal] at kk9
  exact kk9
theorem sx_callN {M2 : xM} {as stk : List xV} {b : Nat} {d2 mc2 ms2 idx n : Nat} (hm : x_mk M2 n) (hst : stk = as.reverse ++ xR b :: st) {host : String} (hl : (M.1.cls, idx, M2.1, host) ∈ x_nest) (hin : Cond.instanceMethod M2.1 ∈ xTB) (hy : M2.1.name = "<init>" ∧ M2.2.2.2 = none) {cb : Nat} (hb : hK h b = cb) (h99 : cb < 99) (hn : as.length = n) (hz : (x_ar (xR b :: as)).length ≤ M2.2.2.1) (hct : (st.map x_ct).sum ≤ 8) (hd : decode M.2.1 pc = .ok (.invokespecial idx, 3)) (hd2 : d2 + 1 ≤ d) (hmc : mc2 ≤ mc) (hms : ms2 ≤ ms) (kk : Sx l z d2 mc2 ms2 M2 0 (x_en (xR b :: as) M2.2.2.1) [] h (fun r h2 => Sx l z d (mc - mc2) (ms - ms2) M (pc + 3) lc (r.toList ++ st) h2 Ph)) : Sx l z d mc ms M pc lc stk h Ph := by
  intro pp e R s m args below meth c D cA ka A Q n0 a0 mcT msT hC gR hE H locs cells slots al ls h1 h2 h3 h4 hB gL hv
  obtain ⟨k1, k2, k3, k4, k5⟩ := hm
  have hts := hC.2.2.2.2.2.1
  have hvA : ∀ v ∈ (xR b :: as), x_vo (hN h) v := fun v hm => hv v (by rw [hst]; exact (List.mem_cons.mp hm).elim (fun e => by rw [e]; exact List.mem_append_right _ List.mem_cons_self) (fun hm => List.mem_append_left _ (List.mem_reverse.mpr hm)))
  have hmet := Sx.met k1 hz kk hvA hB.2.2.2 D cA ka al H.size
  have hpre := x_pre (as := xR b :: as) hC hB
  have hR : (x_rm d2 mc2 ms2).frames + 1 ≤ R.frames ∧ 8 + (M2.2.2.1 + 11) + (x_rm d2 mc2 ms2).locals ≤ R.locals := by
    show d2 + 1 ≤ R.frames ∧ 8 + (M2.2.2.1 + 11) + 40 * d2 ≤ R.locals
    omega
  have hW : 2 * (F0 m pc ls (stk.map (x_t al ka))).monitorRoom + ((st.map (x_t al ka)).map fun v => v.category).sum ≤ 8 := lv_room (by rw [x_ct_t]; exact hct)
  have hn2 : (as.map (x_t al ka)).length = n := by rw [List.length_map]; exact hn
  have hb0 : 0 < b := (hB.2.2.2.pos hb h99).1
  have hstk : (F0 m pc ls (stk.map (x_t al ka))).stack = (as.map (x_t al ka)).reverse ++ .ref (al b) :: st.map (x_t al ka) := by show stk.map (x_t al ka) = _; rw [hst, List.map_append, List.map_reverse, List.map_cons, x_t_R hb0]
  rw [List.map_cons, x_t_R hb0] at hpre
  have hcw := va_cnB (R := R) (own := M.1.cls) (index := idx) (host := host) (bytes := M2.2.1) (ret := none) n hts (x_goodIn k5) (ws' := xTB) (by unfold x_ws; rw [hy.2]) (rm := x_rm d2 mc2 ms2) rfl rfl (hC.2.2.2.2.2.2.2.2.2.2.2.2.2.2.2.2.2.2.2.2.2 _ hl) (hts _ k4) k2 hR
  have hrun := va_runIN (own := M.1.cls) (e := e) (below := below) (meth := meth) (locs := locs) (cells := cells) (slots := slots) ⟨hC.1, hC.2.1, hC.2.2.1, hC.2.2.2.2.1, hts⟩ hmet ⟨hcw, hy.1, hts _ hin⟩ hpre (g := F0 m pc ls (stk.map (x_t al ka))) rfl hn2 gL.1 hstk hW hd (by omega)
  refine x_after hrun hB hC.2.2.2.2.2.2.2.2.2.1 (fun r h2 al2 H1 locs1 hps hvo hnn hal hB1 => ?_)
  have hv9 : ∀ v ∈ st, x_vo (hN h) v := fun v hm => hv v (by rw [hst]; exact List.mem_append_right _ (List.mem_cons_of_mem _ hm))
  have kk9 := hps pp e R s m args below meth c D cA ka A Q n0 a0 mcT msT hC gR hE H1 locs1 (cells + mc2) (slots + ms2) al2 ls (by omega) (by omega) (fun q hq => (hal q (Nat.lt_of_lt_of_le hq h4)).trans (h3 q hq)) (Nat.le_trans h4 hnn) hB1 (gL.moved hnn hal) (fun v hm => by
    rcases List.mem_append.mp hm with hm | hm
    · exact hvo v (Option.mem_toList.mp hm)
    · exact x_vo_mono hnn (hv9 v hm))
  rw [List.map_append, x_st_moved hv9 hal] at kk9
  exact kk9
theorem sx_objInit {b idx cb : Nat} (hb : hK h b = cb) (h99 : cb < 99) (hl : Cond.methodLink M.1.cls idx Lib.objectInit ∈ xTB) (hin : Cond.instanceMethod Lib.objectInit ∈ xTB) (hco : Cond.code Lib.objectInit ⟨#[0xb1]⟩ 1 none ∈ xTB) (hct : (st.map x_ct).sum ≤ 8) (hd1 : 1 ≤ d) (hd : decode M.2.1 pc = .ok (.invokespecial idx, 3)) (kk : Sx l z d mc ms M (pc + 3) lc st h Ph) : Sx l z d mc ms M pc lc (xR b :: st) h Ph := by
  intro pp e R s m args below meth c D cA ka A Q n0 a0 mcT msT hC gR hE H locs cells slots al ls h1 h2 h3 h4 hB gL hv
  rw [List.map_cons, x_t_R (hB.2.2.2.pos hb h99).1]
  have hts := hC.2.2.2.2.2.1
  refine W.objInit hC.1 hC.2.1 hC.2.2.2.2.1 (hts _ hl) (hts _ hin) (hts _ hco) rfl (gL.1.trans hC.2.2.1.symm) rfl hd (by omega) ?_ (W.eq (g2 := F0 m (pc + 3) ls (st.map (x_t al ka))) rfl (kk pp e R s m args below meth c D cA ka A Q n0 a0 mcT msT hC gR hE H locs cells slots al ls h1 h2 h3 h4 hB gL (fun v hm => hv v (List.mem_cons_of_mem _ hm))))
  rw [x_ct_t]
  show 2 * 0 + _ + 12 ≤ _
  omega
end XM

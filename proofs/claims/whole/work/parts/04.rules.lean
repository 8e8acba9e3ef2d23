section XR
variable {l : Launch} {z : xZ} {d mc ms : Nat} {M : xM} {pc : Nat} {lc : List (Option xV)} {st : List xV} {h : xH} {Ph : Option xV → xH → Prop}
def jShl (x y : Int32) : Int32 := x <<< (y &&& 31)
def jShr (x y : Int32) : Int32 := x >>> (y &&& 31)
def jUshr (x y : Int32) : Int32 := (x.toUInt32 >>> (y.toUInt32 &&& Int32.toUInt32 31)).toInt32
def jRem (x y : Int32) : Int32 := x - x / y * y
def jRemL (x y : Int64) : Int64 := x - x / y * y
def jShlL (x : Int64) (y : Int32) : Int64 := x <<< (y.toInt64 &&& 63)
def jCmpL (x y : Int64) : Int32 := lg_cmp x y
def jB (x : Int32) : Int32 := x.toInt8.toInt32
def jS (x : Int32) : Int32 := x.toInt16.toInt32
def jCh (x : Int32) : Int32 := (x.toUInt32 % 65536).toInt32
theorem x_t_ref (al : Nat → Nat) (ka : xK) (v : Nat ⊕ Nat) : x_t al ka (Sum.inr (Sum.inr v)) = .null ∨ ∃ a, x_t al ka (Sum.inr (Sum.inr v)) = .ref a := by
  rcases v with v | v
  · exact va_rf_or _
  · show (if v = 31 then va_rf ka.2 else .ref (ka.1 v)) = .null ∨ ∃ a, (if v = 31 then va_rf ka.2 else .ref (ka.1 v)) = .ref a
    by_cases hv : v = 31
    · rw [if_pos hv]; exact va_rf_or _
    · rw [if_neg hv]; exact Or.inr ⟨_, rfl⟩
theorem x_t_cat1 (al : Nat → Nat) (ka : xK) (v : Nat ⊕ Nat) : (x_t al ka (Sum.inr (Sum.inr v))).category = 1 := by
  rcases x_t_ref al ka v with q | ⟨a, q⟩ <;> rw [q] <;> rfl
/-! the locals as a list of those that are known -/
def x_lv (al : Nat → Nat) (ka : xK) (lc : List (Option xV)) : List (Nat × Value) := (List.range lc.length).filterMap (fun j => match lc[j]? with
  | some (some v) => some (j, x_t al ka v)
  | _ => none)
theorem x_lv_in {al : Nat → Nat} {ka : xK} {lc : List (Option xV)} {j : Nat} {v : xV} (hj : lc[j]? = some (some v)) : (j, x_t al ka v) ∈ x_lv al ka lc := by
  refine List.mem_filterMap.mpr ⟨j, List.mem_range.mpr (List.getElem?_eq_some_iff.mp hj).1, ?_⟩
  simp only [hj]
theorem x_lv_of {al : Nat → Nat} {ka : xK} {lc : List (Option xV)} {q : Nat × Value} (hq : q ∈ x_lv al ka lc) : ∃ v, lc[q.1]? = some (some v) ∧ q.2 = x_t al ka v := by
  obtain ⟨j, -, hj⟩ := List.mem_filterMap.mp hq
  split at hj
  · next v hv =>
    cases hj
    exact ⟨v, hv, rfl⟩
  · cases hj
theorem x_L.has {al : Nat → Nat} {ka : xK} {np n : Nat} {ls : Array Slot} (h : x_L al ka np n lc ls) : lv_has ls n (x_lv al ka lc) := ⟨h.1, h.2.1, fun q hq => by
  obtain ⟨v, h3, h4⟩ := x_lv_of hq
  rw [h4]
  exact (h.2.2 _ _ h3).1⟩
def x_wide (v : Option (Option xV)) : Bool := match v with
  | some (some (Sum.inr (Sum.inl _))) => true
  | _ => false
def x_s0 (lc : List (Option xV)) (i : Nat) : List (Option xV) := match i with
  | 0 => lc
  | j + 1 => if x_wide lc[j]? = true then lc.set j none else lc
def x_s1 (lc : List (Option xV)) (i : Nat) (v : xV) : List (Option xV) := (x_s0 lc i).set i (some v)
def x_s2 (lc : List (Option xV)) (i : Nat) (v : xV) : List (Option xV) := ((x_s0 lc i).set (i + 1) none).set i (some v)
theorem x_s0_at {i j : Nat} {w : xV} (h : (x_s0 lc i)[j]? = some (some w)) : lc[j]? = some (some w) ∧ ¬ (j + 1 = i ∧ x_wide (some (some w)) = true) := by
  cases i with
  | zero => exact ⟨h, fun q => by omega⟩
  | succ k =>
    unfold x_s0 at h
    by_cases hw : x_wide lc[k]? = true
    · simp only [hw, if_true] at h
      rw [List.getElem?_set] at h
      by_cases hk : k = j
      · rw [if_pos hk] at h
        split at h <;> cases h
      · rw [if_neg hk] at h
        exact ⟨h, fun q => hk (by omega)⟩
    · simp only [hw] at h
      refine ⟨h, fun q => hw ?_⟩
      rw [show k = j by omega]
      have h' : lc[j]? = some (some w) := h
      rw [h']
      exact q.2
theorem x_s1_at {i j : Nat} {v w : xV} (h : (x_s1 lc i v)[j]? = some (some w)) : (j = i ∧ w = v) ∨ (j ≠ i ∧ lc[j]? = some (some w) ∧ ¬ (j + 1 = i ∧ x_wide (some (some w)) = true)) := by
  unfold x_s1 at h
  rw [List.getElem?_set] at h
  by_cases hk : i = j
  · rw [if_pos hk] at h
    split at h
    · cases h; exact Or.inl ⟨hk.symm, rfl⟩
    · cases h
  · rw [if_neg hk] at h
    exact Or.inr ⟨Ne.symm hk, x_s0_at h⟩
theorem x_s2_at {i j : Nat} {v w : xV} (h : (x_s2 lc i v)[j]? = some (some w)) : (j = i ∧ w = v) ∨ (j ≠ i ∧ j ≠ i + 1 ∧ lc[j]? = some (some w) ∧ ¬ (j + 1 = i ∧ x_wide (some (some w)) = true)) := by
  unfold x_s2 at h
  rw [List.getElem?_set] at h
  by_cases hk : i = j
  · rw [if_pos hk] at h
    split at h
    · cases h; exact Or.inl ⟨hk.symm, rfl⟩
    · cases h
  · rw [if_neg hk] at h
    rw [List.getElem?_set] at h
    by_cases hk1 : i + 1 = j
    · rw [if_pos hk1] at h
      split at h <;> cases h
    · rw [if_neg hk1] at h
      exact Or.inr ⟨Ne.symm hk, Ne.symm hk1, x_s0_at h⟩
theorem x_wide_t (al : Nat → Nat) (ka : xK) (w : xV) : (x_t al ka w).category = 2 ↔ x_wide (some (some w)) = true := by
  rcases w with w | w | w
  · exact ⟨fun h => (by cases h), fun h => (by cases h)⟩
  · exact ⟨fun _ => rfl, fun _ => rfl⟩
  · have := x_t_cat1 al ka w
    exact ⟨fun h => by omega, fun h => by cases h⟩
theorem x_L.st1 {al : Nat → Nat} {ka : xK} {np n i : Nat} {ls : Array Slot} {v : xV} (h : x_L al ka np n lc ls) (hv : x_vo np v) {ls2 : Array Slot} (h2 : lv_has ls2 n ((i, x_t al ka v) :: (x_lv al ka lc).filter (fun q => !(q.1 == i) && !(q.1 + 1 == i && q.2.category == 2)))) : x_L al ka np n (x_s1 lc i v) ls2 := by
  refine ⟨h2.1, h2.2.1, fun j w hj => ?_⟩
  rcases x_s1_at hj with ⟨rfl, rfl⟩ | ⟨e1, e2, e3⟩
  · exact ⟨h2.2.2 _ List.mem_cons_self, hv⟩
  · refine ⟨h2.2.2 (j, x_t al ka w) (List.mem_cons_of_mem _ (List.mem_filter.mpr ⟨x_lv_in e2, ?_⟩)), (h.2.2 j w e2).2⟩
    have e4 : ¬ (j + 1 = i ∧ (x_t al ka w).category = 2) := fun q => e3 ⟨q.1, (x_wide_t al ka w).mp q.2⟩
    simp only [Bool.and_eq_true, Bool.not_eq_true', beq_eq_false_iff_ne, Bool.and_eq_false_iff, ne_eq]
    refine ⟨e1, ?_⟩
    by_cases q : j + 1 = i
    · exact Or.inr (fun q2 => e4 ⟨q, q2⟩)
    · exact Or.inl q
theorem x_L.st2 {al : Nat → Nat} {ka : xK} {np n i : Nat} {ls : Array Slot} {v : xV} (h : x_L al ka np n lc ls) (hv : x_vo np v) {ls2 : Array Slot} (h2 : lv_has ls2 n ((i, x_t al ka v) :: (x_lv al ka lc).filter (fun q => !(q.1 == i) && (!(q.1 == i + 1) && !(q.1 + 1 == i && q.2.category == 2))))) : x_L al ka np n (x_s2 lc i v) ls2 := by
  refine ⟨h2.1, h2.2.1, fun j w hj => ?_⟩
  rcases x_s2_at hj with ⟨rfl, rfl⟩ | ⟨e1, e0, e2, e3⟩
  · exact ⟨h2.2.2 _ List.mem_cons_self, hv⟩
  · refine ⟨h2.2.2 (j, x_t al ka w) (List.mem_cons_of_mem _ (List.mem_filter.mpr ⟨x_lv_in e2, ?_⟩)), (h.2.2 j w e2).2⟩
    have e4 : ¬ (j + 1 = i ∧ (x_t al ka w).category = 2) := fun q => e3 ⟨q.1, (x_wide_t al ka w).mp q.2⟩
    simp only [Bool.and_eq_true, Bool.not_eq_true', beq_eq_false_iff_ne, Bool.and_eq_false_iff, ne_eq]
    refine ⟨e1, e0, ?_⟩
    by_cases q : j + 1 = i
    · exact Or.inr (fun q2 => e4 ⟨q, q2⟩)
    · exact Or.inl q
theorem sx_iconst {n : Int} {v : Int32} (hd : decode M.2.1 pc = .ok (.iconst n, 1)) (hc : Int32.ofInt n = v) (kk : Sx l z d mc ms M (pc + 1) lc (xI v :: st) h Ph) : Sx l z d mc ms M pc lc st h Ph := by
  intro p e R s m args below meth c D cA ka A Q n0 a0 mcT msT hC hR hE H locs cells slots al ls h1 h2 h3 h4 hB hL hv
  exact lv_iconst hC.1 hC.2.1 hd hc (kk p e R s m args below meth c D cA ka A Q n0 a0 mcT msT hC hR hE H locs cells slots al ls h1 h2 h3 h4 hB hL (List.forall_mem_cons.mpr ⟨trivial, hv⟩))
theorem sx_bipush {n : Int} {v : Int32} (hd : decode M.2.1 pc = .ok (.bipush n, 2)) (hc : (Int8.ofInt n).toInt32 = v) (kk : Sx l z d mc ms M (pc + 2) lc (xI v :: st) h Ph) : Sx l z d mc ms M pc lc st h Ph := by
  intro p e R s m args below meth c D cA ka A Q n0 a0 mcT msT hC hR hE H locs cells slots al ls h1 h2 h3 h4 hB hL hv
  exact lv_bipush hC.1 hC.2.1 hd hc (kk p e R s m args below meth c D cA ka A Q n0 a0 mcT msT hC hR hE H locs cells slots al ls h1 h2 h3 h4 hB hL (List.forall_mem_cons.mpr ⟨trivial, hv⟩))
theorem sx_sipush {n : Int} {v : Int32} (hd : decode M.2.1 pc = .ok (.sipush n, 3)) (hc : (Int16.ofInt n).toInt32 = v) (kk : Sx l z d mc ms M (pc + 3) lc (xI v :: st) h Ph) : Sx l z d mc ms M pc lc st h Ph := by
  intro p e R s m args below meth c D cA ka A Q n0 a0 mcT msT hC hR hE H locs cells slots al ls h1 h2 h3 h4 hB hL hv
  exact lv_sipush hC.1 hC.2.1 hd hc (kk p e R s m args below meth c D cA ka A Q n0 a0 mcT msT hC hR hE H locs cells slots al ls h1 h2 h3 h4 hB hL (List.forall_mem_cons.mpr ⟨trivial, hv⟩))
theorem sx_lconst {n : Fin 2} {v : Int64} (hd : decode M.2.1 pc = .ok (.lconst n, 1)) (hc : Int64.ofNat (n : Nat) = v) (kk : Sx l z d mc ms M (pc + 1) lc (xJ v :: st) h Ph) : Sx l z d mc ms M pc lc st h Ph := by
  intro p e R s m args below meth c D cA ka A Q n0 a0 mcT msT hC hR hE H locs cells slots al ls h1 h2 h3 h4 hB hL hv
  exact lv_lconst hC.1 hC.2.1 hd hc (kk p e R s m args below meth c D cA ka A Q n0 a0 mcT msT hC hR hE H locs cells slots al ls h1 h2 h3 h4 hB hL (List.forall_mem_cons.mpr ⟨trivial, hv⟩))
theorem sx_null  (hd : decode M.2.1 pc = .ok (.aconst_null, 1)) (kk : Sx l z d mc ms M (pc + 1) lc (xR 0 :: st) h Ph) : Sx l z d mc ms M pc lc st h Ph := by
  intro p e R s m args below meth c D cA ka A Q n0 a0 mcT msT hC hR hE H locs cells slots al ls h1 h2 h3 h4 hB hL hv
  exact lv_null hC.1 hC.2.1 hd (kk p e R s m args below meth c D cA ka A Q n0 a0 mcT msT hC hR hE H locs cells slots al ls h1 h2 h3 h4 hB hL (List.forall_mem_cons.mpr ⟨Nat.lt_of_lt_of_le Nat.zero_lt_one hB.2.2.2.1, hv⟩))
theorem sx_iload_n {k : Fin 4} {x : Int32} (hd : decode M.2.1 pc = .ok (.iload_n k, 1)) (hl : lc[(k : Nat)]? = some (some (xI x))) (kk : Sx l z d mc ms M (pc + 1) lc (xI x :: st) h Ph) : Sx l z d mc ms M pc lc st h Ph := by
  intro p e R s m args below meth c D cA ka A Q n0 a0 mcT msT hC hR hE H locs cells slots al ls h1 h2 h3 h4 hB hL hv
  exact lv_iload_n hC.1 hC.2.1 hd rfl (hL.2.2 _ _ hl).1 (kk p e R s m args below meth c D cA ka A Q n0 a0 mcT msT hC hR hE H locs cells slots al ls h1 h2 h3 h4 hB hL (List.forall_mem_cons.mpr ⟨trivial, hv⟩))
theorem sx_iload {i : Nat} {x : Int32} (hd : decode M.2.1 pc = .ok (.iload i, 2)) (hl : lc[i]? = some (some (xI x))) (kk : Sx l z d mc ms M (pc + 2) lc (xI x :: st) h Ph) : Sx l z d mc ms M pc lc st h Ph := by
  intro p e R s m args below meth c D cA ka A Q n0 a0 mcT msT hC hR hE H locs cells slots al ls h1 h2 h3 h4 hB hL hv
  exact lv_iload hC.1 hC.2.1 hd (hL.2.2 _ _ hl).1 (kk p e R s m args below meth c D cA ka A Q n0 a0 mcT msT hC hR hE H locs cells slots al ls h1 h2 h3 h4 hB hL (List.forall_mem_cons.mpr ⟨trivial, hv⟩))
theorem sx_lload_n {k : Fin 4} {x : Int64} (hd : decode M.2.1 pc = .ok (.lload_n k, 1)) (hl : lc[(k : Nat)]? = some (some (xJ x))) (kk : Sx l z d mc ms M (pc + 1) lc (xJ x :: st) h Ph) : Sx l z d mc ms M pc lc st h Ph := by
  intro p e R s m args below meth c D cA ka A Q n0 a0 mcT msT hC hR hE H locs cells slots al ls h1 h2 h3 h4 hB hL hv
  exact lv_lload_n hC.1 hC.2.1 hd rfl (hL.2.2 _ _ hl).1 (kk p e R s m args below meth c D cA ka A Q n0 a0 mcT msT hC hR hE H locs cells slots al ls h1 h2 h3 h4 hB hL (List.forall_mem_cons.mpr ⟨trivial, hv⟩))
theorem sx_lload {i : Nat} {x : Int64} (hd : decode M.2.1 pc = .ok (.lload i, 2)) (hl : lc[i]? = some (some (xJ x))) (kk : Sx l z d mc ms M (pc + 2) lc (xJ x :: st) h Ph) : Sx l z d mc ms M pc lc st h Ph := by
  intro p e R s m args below meth c D cA ka A Q n0 a0 mcT msT hC hR hE H locs cells slots al ls h1 h2 h3 h4 hB hL hv
  exact lv_lload hC.1 hC.2.1 hd (hL.2.2 _ _ hl).1 (kk p e R s m args below meth c D cA ka A Q n0 a0 mcT msT hC hR hE H locs cells slots al ls h1 h2 h3 h4 hB hL (List.forall_mem_cons.mpr ⟨trivial, hv⟩))
theorem sx_aload_n {k : Fin 4} {v : Nat ⊕ Nat} (hd : decode M.2.1 pc = .ok (.aload_n k, 1)) (hl : lc[(k : Nat)]? = some (some (Sum.inr (Sum.inr v)))) (kk : Sx l z d mc ms M (pc + 1) lc (Sum.inr (Sum.inr v) :: st) h Ph) : Sx l z d mc ms M pc lc st h Ph := by
  intro p e R s m args below meth c D cA ka A Q n0 a0 mcT msT hC hR hE H locs cells slots al ls h1 h2 h3 h4 hB hL hv
  have hq := hL.2.2 _ _ hl
  have kk9 := (kk p e R s m args below meth c D cA ka A Q n0 a0 mcT msT hC hR hE H locs cells slots al ls h1 h2 h3 h4 hB hL (List.forall_mem_cons.mpr ⟨hq.2, hv⟩))
  rw [List.map_cons] at kk9
  rcases x_t_ref al ka v with q | ⟨a, q⟩ <;> rw [q] at hq kk9
  · exact lv_aload_nN hC.1 hC.2.1 hd rfl hq.1 kk9
  · exact lv_aload_n hC.1 hC.2.1 hd rfl hq.1 kk9
theorem sx_aload {i : Nat} {v : Nat ⊕ Nat} (hd : decode M.2.1 pc = .ok (.aload i, 2)) (hl : lc[i]? = some (some (Sum.inr (Sum.inr v)))) (kk : Sx l z d mc ms M (pc + 2) lc (Sum.inr (Sum.inr v) :: st) h Ph) : Sx l z d mc ms M pc lc st h Ph := by
  intro p e R s m args below meth c D cA ka A Q n0 a0 mcT msT hC hR hE H locs cells slots al ls h1 h2 h3 h4 hB hL hv
  have hq := hL.2.2 _ _ hl
  have kk9 := (kk p e R s m args below meth c D cA ka A Q n0 a0 mcT msT hC hR hE H locs cells slots al ls h1 h2 h3 h4 hB hL (List.forall_mem_cons.mpr ⟨hq.2, hv⟩))
  rw [List.map_cons] at kk9
  rcases x_t_ref al ka v with q | ⟨a, q⟩ <;> rw [q] at hq kk9
  · exact lv_aloadN hC.1 hC.2.1 hd hq.1 kk9
  · exact lv_aload hC.1 hC.2.1 hd hq.1 kk9
theorem sx_istore_n {k : Fin 4} {x : Int32} (hd : decode M.2.1 pc = .ok (.istore_n k, 1)) (hi : (k : Nat) < M.2.2.1) (kk : Sx l z d mc ms M (pc + 1) (x_s1 lc (k : Nat) (xI x)) st h Ph) : Sx l z d mc ms M pc lc (xI x :: st) h Ph := by
  intro p e R s m args below meth c D cA ka A Q n0 a0 mcT msT hC hR hE H locs cells slots al ls h1 h2 h3 h4 hB hL hv
  exact lv_istore_n hC.1 hC.2.1 hd rfl hL.has hi rfl (fun ls2 hl2 => (kk p e R s m args below meth c D cA ka A Q n0 a0 mcT msT hC hR hE H locs cells slots al ls2 h1 h2 h3 h4 hB (hL.st1 (v := xI x) trivial hl2) (fun v hm => hv v (List.mem_cons_of_mem _ hm))))
theorem sx_lstore_n {k : Fin 4} {x : Int64} (hd : decode M.2.1 pc = .ok (.lstore_n k, 1)) (hi : (k : Nat) + 1 < M.2.2.1) (kk : Sx l z d mc ms M (pc + 1) (x_s2 lc (k : Nat) (xJ x)) st h Ph) : Sx l z d mc ms M pc lc (xJ x :: st) h Ph := by
  intro p e R s m args below meth c D cA ka A Q n0 a0 mcT msT hC hR hE H locs cells slots al ls h1 h2 h3 h4 hB hL hv
  exact lv_lstore_n hC.1 hC.2.1 hd rfl hL.has hi rfl (fun ls2 hl2 => (kk p e R s m args below meth c D cA ka A Q n0 a0 mcT msT hC hR hE H locs cells slots al ls2 h1 h2 h3 h4 hB (hL.st2 (v := xJ x) trivial hl2) (fun v hm => hv v (List.mem_cons_of_mem _ hm))))
theorem sx_astore_n {k : Fin 4} {v : Nat ⊕ Nat} (hd : decode M.2.1 pc = .ok (.astore_n k, 1)) (hi : (k : Nat) < M.2.2.1) (kk : Sx l z d mc ms M (pc + 1) (x_s1 lc (k : Nat) (Sum.inr (Sum.inr v))) st h Ph) : Sx l z d mc ms M pc lc (Sum.inr (Sum.inr v) :: st) h Ph := by
  intro p e R s m args below meth c D cA ka A Q n0 a0 mcT msT hC hR hE H locs cells slots al ls h1 h2 h3 h4 hB hL hv
  have hvo := hv _ List.mem_cons_self
  rw [List.map_cons]
  have kk9 := fun (ls2 : Array Slot) (hl2 : lv_has ls2 M.2.2.1 (((k : Nat), x_t al ka (Sum.inr (Sum.inr v))) :: (x_lv al ka lc).filter (fun q => !(q.1 == (k : Nat)) && !(q.1 + 1 == (k : Nat) && q.2.category == 2)))) => (kk p e R s m args below meth c D cA ka A Q n0 a0 mcT msT hC hR hE H locs cells slots al ls2 h1 h2 h3 h4 hB (hL.st1 hvo hl2) (fun v hm => hv v (List.mem_cons_of_mem _ hm)))
  rcases x_t_ref al ka v with q | ⟨a, q⟩ <;> rw [q] at kk9 ⊢
  · exact lv_astore_nN hC.1 hC.2.1 hd rfl hL.has hi rfl kk9
  · exact lv_astore_n hC.1 hC.2.1 hd rfl hL.has hi rfl kk9
theorem sx_istore {i : Nat} {x : Int32} (hd : decode M.2.1 pc = .ok (.istore i, 2)) (hi : i < M.2.2.1) (kk : Sx l z d mc ms M (pc + 2) (x_s1 lc i (xI x)) st h Ph) : Sx l z d mc ms M pc lc (xI x :: st) h Ph := by
  intro p e R s m args below meth c D cA ka A Q n0 a0 mcT msT hC hR hE H locs cells slots al ls h1 h2 h3 h4 hB hL hv
  exact lv_istore hC.1 hC.2.1 hd hL.has hi rfl (fun ls2 hl2 => (kk p e R s m args below meth c D cA ka A Q n0 a0 mcT msT hC hR hE H locs cells slots al ls2 h1 h2 h3 h4 hB (hL.st1 (v := xI x) trivial hl2) (fun v hm => hv v (List.mem_cons_of_mem _ hm))))
theorem sx_lstore {i : Nat} {x : Int64} (hd : decode M.2.1 pc = .ok (.lstore i, 2)) (hi : i + 1 < M.2.2.1) (kk : Sx l z d mc ms M (pc + 2) (x_s2 lc i (xJ x)) st h Ph) : Sx l z d mc ms M pc lc (xJ x :: st) h Ph := by
  intro p e R s m args below meth c D cA ka A Q n0 a0 mcT msT hC hR hE H locs cells slots al ls h1 h2 h3 h4 hB hL hv
  exact lv_lstore hC.1 hC.2.1 hd hL.has hi rfl (fun ls2 hl2 => (kk p e R s m args below meth c D cA ka A Q n0 a0 mcT msT hC hR hE H locs cells slots al ls2 h1 h2 h3 h4 hB (hL.st2 (v := xJ x) trivial hl2) (fun v hm => hv v (List.mem_cons_of_mem _ hm))))
theorem sx_astore {i : Nat} {v : Nat ⊕ Nat} (hd : decode M.2.1 pc = .ok (.astore i, 2)) (hi : i < M.2.2.1) (kk : Sx l z d mc ms M (pc + 2) (x_s1 lc i (Sum.inr (Sum.inr v))) st h Ph) : Sx l z d mc ms M pc lc (Sum.inr (Sum.inr v) :: st) h Ph := by
  intro p e R s m args below meth c D cA ka A Q n0 a0 mcT msT hC hR hE H locs cells slots al ls h1 h2 h3 h4 hB hL hv
  have hvo := hv _ List.mem_cons_self
  rw [List.map_cons]
  have kk9 := fun (ls2 : Array Slot) (hl2 : lv_has ls2 M.2.2.1 ((i, x_t al ka (Sum.inr (Sum.inr v))) :: (x_lv al ka lc).filter (fun q => !(q.1 == i) && !(q.1 + 1 == i && q.2.category == 2)))) => (kk p e R s m args below meth c D cA ka A Q n0 a0 mcT msT hC hR hE H locs cells slots al ls2 h1 h2 h3 h4 hB (hL.st1 hvo hl2) (fun v hm => hv v (List.mem_cons_of_mem _ hm)))
  rcases x_t_ref al ka v with q | ⟨a, q⟩ <;> rw [q] at kk9 ⊢
  · exact lv_astoreN hC.1 hC.2.1 hd hL.has hi rfl kk9
  · exact lv_astore hC.1 hC.2.1 hd hL.has hi rfl kk9
theorem sx_iinc {i : Nat} {n : Int} {x v : Int32} (hd : decode M.2.1 pc = .ok (.iinc i n, 3)) (hl : lc[i]? = some (some (xI x))) (hc : Int32.ofInt n = v) (hi : i < M.2.2.1) (kk : Sx l z d mc ms M (pc + 3) (x_s1 lc i (xI (x + v))) st h Ph) : Sx l z d mc ms M pc lc st h Ph := by
  intro p e R s m args below meth c D cA ka A Q n0 a0 mcT msT hC hR hE H locs cells slots al ls h1 h2 h3 h4 hB hL hv
  obtain ⟨j, hj⟩ := List.getElem?_of_mem (x_lv_in (al := al) (ka := ka) hl)
  exact lv_iinc hC.1 hC.2.1 hd hL.has hj (by rw [hc]) hi rfl (fun ls2 hl2 => (kk p e R s m args below meth c D cA ka A Q n0 a0 mcT msT hC hR hE H locs cells slots al ls2 h1 h2 h3 h4 hB (hL.st1 (v := xI (x + v)) trivial hl2) hv))
theorem sx_iadd {x y : Int32} (hd : decode M.2.1 pc = .ok (.iadd, 1)) (kk : Sx l z d mc ms M (pc + 1) lc (xI (x + y) :: st) h Ph) : Sx l z d mc ms M pc lc (xI y :: xI x :: st) h Ph := by
  intro p e R s m args below meth c D cA ka A Q n0 a0 mcT msT hC hR hE H locs cells slots al ls h1 h2 h3 h4 hB hL hv
  exact lv_iadd hC.1 hC.2.1 hd (kk p e R s m args below meth c D cA ka A Q n0 a0 mcT msT hC hR hE H locs cells slots al ls h1 h2 h3 h4 hB hL (List.forall_mem_cons.mpr ⟨trivial, (fun v hm => hv v (List.mem_cons_of_mem _ (List.mem_cons_of_mem _ hm)))⟩))
theorem sx_isub {x y : Int32} (hd : decode M.2.1 pc = .ok (.isub, 1)) (kk : Sx l z d mc ms M (pc + 1) lc (xI (x - y) :: st) h Ph) : Sx l z d mc ms M pc lc (xI y :: xI x :: st) h Ph := by
  intro p e R s m args below meth c D cA ka A Q n0 a0 mcT msT hC hR hE H locs cells slots al ls h1 h2 h3 h4 hB hL hv
  exact lv_isub hC.1 hC.2.1 hd (kk p e R s m args below meth c D cA ka A Q n0 a0 mcT msT hC hR hE H locs cells slots al ls h1 h2 h3 h4 hB hL (List.forall_mem_cons.mpr ⟨trivial, (fun v hm => hv v (List.mem_cons_of_mem _ (List.mem_cons_of_mem _ hm)))⟩))
theorem sx_imul {x y : Int32} (hd : decode M.2.1 pc = .ok (.imul, 1)) (kk : Sx l z d mc ms M (pc + 1) lc (xI (x * y) :: st) h Ph) : Sx l z d mc ms M pc lc (xI y :: xI x :: st) h Ph := by
  intro p e R s m args below meth c D cA ka A Q n0 a0 mcT msT hC hR hE H locs cells slots al ls h1 h2 h3 h4 hB hL hv
  exact lv_imul hC.1 hC.2.1 hd (kk p e R s m args below meth c D cA ka A Q n0 a0 mcT msT hC hR hE H locs cells slots al ls h1 h2 h3 h4 hB hL (List.forall_mem_cons.mpr ⟨trivial, (fun v hm => hv v (List.mem_cons_of_mem _ (List.mem_cons_of_mem _ hm)))⟩))
theorem sx_iand {x y : Int32} (hd : decode M.2.1 pc = .ok (.iand, 1)) (kk : Sx l z d mc ms M (pc + 1) lc (xI (x &&& y) :: st) h Ph) : Sx l z d mc ms M pc lc (xI y :: xI x :: st) h Ph := by
  intro p e R s m args below meth c D cA ka A Q n0 a0 mcT msT hC hR hE H locs cells slots al ls h1 h2 h3 h4 hB hL hv
  exact lv_iand hC.1 hC.2.1 hd (kk p e R s m args below meth c D cA ka A Q n0 a0 mcT msT hC hR hE H locs cells slots al ls h1 h2 h3 h4 hB hL (List.forall_mem_cons.mpr ⟨trivial, (fun v hm => hv v (List.mem_cons_of_mem _ (List.mem_cons_of_mem _ hm)))⟩))
theorem sx_ior {x y : Int32} (hd : decode M.2.1 pc = .ok (.ior, 1)) (kk : Sx l z d mc ms M (pc + 1) lc (xI (x ||| y) :: st) h Ph) : Sx l z d mc ms M pc lc (xI y :: xI x :: st) h Ph := by
  intro p e R s m args below meth c D cA ka A Q n0 a0 mcT msT hC hR hE H locs cells slots al ls h1 h2 h3 h4 hB hL hv
  exact lv_ior hC.1 hC.2.1 hd (kk p e R s m args below meth c D cA ka A Q n0 a0 mcT msT hC hR hE H locs cells slots al ls h1 h2 h3 h4 hB hL (List.forall_mem_cons.mpr ⟨trivial, (fun v hm => hv v (List.mem_cons_of_mem _ (List.mem_cons_of_mem _ hm)))⟩))
theorem sx_ixor {x y : Int32} (hd : decode M.2.1 pc = .ok (.ixor, 1)) (kk : Sx l z d mc ms M (pc + 1) lc (xI (x ^^^ y) :: st) h Ph) : Sx l z d mc ms M pc lc (xI y :: xI x :: st) h Ph := by
  intro p e R s m args below meth c D cA ka A Q n0 a0 mcT msT hC hR hE H locs cells slots al ls h1 h2 h3 h4 hB hL hv
  exact lv_ixor hC.1 hC.2.1 hd (kk p e R s m args below meth c D cA ka A Q n0 a0 mcT msT hC hR hE H locs cells slots al ls h1 h2 h3 h4 hB hL (List.forall_mem_cons.mpr ⟨trivial, (fun v hm => hv v (List.mem_cons_of_mem _ (List.mem_cons_of_mem _ hm)))⟩))
theorem sx_ishl {x y : Int32} (hd : decode M.2.1 pc = .ok (.ishl, 1)) (kk : Sx l z d mc ms M (pc + 1) lc (xI (jShl x y) :: st) h Ph) : Sx l z d mc ms M pc lc (xI y :: xI x :: st) h Ph := by
  intro p e R s m args below meth c D cA ka A Q n0 a0 mcT msT hC hR hE H locs cells slots al ls h1 h2 h3 h4 hB hL hv
  exact lv_ishl hC.1 hC.2.1 hd (kk p e R s m args below meth c D cA ka A Q n0 a0 mcT msT hC hR hE H locs cells slots al ls h1 h2 h3 h4 hB hL (List.forall_mem_cons.mpr ⟨trivial, (fun v hm => hv v (List.mem_cons_of_mem _ (List.mem_cons_of_mem _ hm)))⟩))
theorem sx_ishr {x y : Int32} (hd : decode M.2.1 pc = .ok (.ishr, 1)) (kk : Sx l z d mc ms M (pc + 1) lc (xI (jShr x y) :: st) h Ph) : Sx l z d mc ms M pc lc (xI y :: xI x :: st) h Ph := by
  intro p e R s m args below meth c D cA ka A Q n0 a0 mcT msT hC hR hE H locs cells slots al ls h1 h2 h3 h4 hB hL hv
  exact lv_ishr hC.1 hC.2.1 hd (kk p e R s m args below meth c D cA ka A Q n0 a0 mcT msT hC hR hE H locs cells slots al ls h1 h2 h3 h4 hB hL (List.forall_mem_cons.mpr ⟨trivial, (fun v hm => hv v (List.mem_cons_of_mem _ (List.mem_cons_of_mem _ hm)))⟩))
theorem sx_iushr {x y : Int32} (hd : decode M.2.1 pc = .ok (.iushr, 1)) (kk : Sx l z d mc ms M (pc + 1) lc (xI (jUshr x y) :: st) h Ph) : Sx l z d mc ms M pc lc (xI y :: xI x :: st) h Ph := by
  intro p e R s m args below meth c D cA ka A Q n0 a0 mcT msT hC hR hE H locs cells slots al ls h1 h2 h3 h4 hB hL hv
  exact lv_iushr hC.1 hC.2.1 hd rfl (kk p e R s m args below meth c D cA ka A Q n0 a0 mcT msT hC hR hE H locs cells slots al ls h1 h2 h3 h4 hB hL (List.forall_mem_cons.mpr ⟨trivial, (fun v hm => hv v (List.mem_cons_of_mem _ (List.mem_cons_of_mem _ hm)))⟩))
theorem sx_ineg {x : Int32} (hd : decode M.2.1 pc = .ok (.ineg, 1)) (kk : Sx l z d mc ms M (pc + 1) lc (xI (-x) :: st) h Ph) : Sx l z d mc ms M pc lc (xI x :: st) h Ph := by
  intro p e R s m args below meth c D cA ka A Q n0 a0 mcT msT hC hR hE H locs cells slots al ls h1 h2 h3 h4 hB hL hv
  exact lv_ineg hC.1 hC.2.1 hd (kk p e R s m args below meth c D cA ka A Q n0 a0 mcT msT hC hR hE H locs cells slots al ls h1 h2 h3 h4 hB hL (List.forall_mem_cons.mpr ⟨trivial, (fun v hm => hv v (List.mem_cons_of_mem _ hm))⟩))
theorem sx_idiv {x y : Int32} (hd : decode M.2.1 pc = .ok (.idiv, 1)) (hy : ¬ y = 0) (kk : Sx l z d mc ms M (pc + 1) lc (xI (x / y) :: st) h Ph) : Sx l z d mc ms M pc lc (xI y :: xI x :: st) h Ph := by
  intro p e R s m args below meth c D cA ka A Q n0 a0 mcT msT hC hR hE H locs cells slots al ls h1 h2 h3 h4 hB hL hv
  exact lv_idiv hC.1 hC.2.1 hd hy (kk p e R s m args below meth c D cA ka A Q n0 a0 mcT msT hC hR hE H locs cells slots al ls h1 h2 h3 h4 hB hL (List.forall_mem_cons.mpr ⟨trivial, (fun v hm => hv v (List.mem_cons_of_mem _ (List.mem_cons_of_mem _ hm)))⟩))
theorem sx_irem {x y : Int32} (hd : decode M.2.1 pc = .ok (.irem, 1)) (hy : ¬ y = 0) (kk : Sx l z d mc ms M (pc + 1) lc (xI (jRem x y) :: st) h Ph) : Sx l z d mc ms M pc lc (xI y :: xI x :: st) h Ph := by
  intro p e R s m args below meth c D cA ka A Q n0 a0 mcT msT hC hR hE H locs cells slots al ls h1 h2 h3 h4 hB hL hv
  exact lv_irem hC.1 hC.2.1 hd hy (kk p e R s m args below meth c D cA ka A Q n0 a0 mcT msT hC hR hE H locs cells slots al ls h1 h2 h3 h4 hB hL (List.forall_mem_cons.mpr ⟨trivial, (fun v hm => hv v (List.mem_cons_of_mem _ (List.mem_cons_of_mem _ hm)))⟩))
theorem sx_ladd {x y : Int64} (hd : decode M.2.1 pc = .ok (.ladd, 1)) (kk : Sx l z d mc ms M (pc + 1) lc (xJ (x + y) :: st) h Ph) : Sx l z d mc ms M pc lc (xJ y :: xJ x :: st) h Ph := by
  intro p e R s m args below meth c D cA ka A Q n0 a0 mcT msT hC hR hE H locs cells slots al ls h1 h2 h3 h4 hB hL hv
  exact lv_ladd hC.1 hC.2.1 hd (kk p e R s m args below meth c D cA ka A Q n0 a0 mcT msT hC hR hE H locs cells slots al ls h1 h2 h3 h4 hB hL (List.forall_mem_cons.mpr ⟨trivial, (fun v hm => hv v (List.mem_cons_of_mem _ (List.mem_cons_of_mem _ hm)))⟩))
theorem sx_lsub {x y : Int64} (hd : decode M.2.1 pc = .ok (.lsub, 1)) (kk : Sx l z d mc ms M (pc + 1) lc (xJ (x - y) :: st) h Ph) : Sx l z d mc ms M pc lc (xJ y :: xJ x :: st) h Ph := by
  intro p e R s m args below meth c D cA ka A Q n0 a0 mcT msT hC hR hE H locs cells slots al ls h1 h2 h3 h4 hB hL hv
  exact lv_lsub hC.1 hC.2.1 hd (kk p e R s m args below meth c D cA ka A Q n0 a0 mcT msT hC hR hE H locs cells slots al ls h1 h2 h3 h4 hB hL (List.forall_mem_cons.mpr ⟨trivial, (fun v hm => hv v (List.mem_cons_of_mem _ (List.mem_cons_of_mem _ hm)))⟩))
theorem sx_lmul {x y : Int64} (hd : decode M.2.1 pc = .ok (.lmul, 1)) (kk : Sx l z d mc ms M (pc + 1) lc (xJ (x * y) :: st) h Ph) : Sx l z d mc ms M pc lc (xJ y :: xJ x :: st) h Ph := by
  intro p e R s m args below meth c D cA ka A Q n0 a0 mcT msT hC hR hE H locs cells slots al ls h1 h2 h3 h4 hB hL hv
  exact lv_lmul hC.1 hC.2.1 hd (kk p e R s m args below meth c D cA ka A Q n0 a0 mcT msT hC hR hE H locs cells slots al ls h1 h2 h3 h4 hB hL (List.forall_mem_cons.mpr ⟨trivial, (fun v hm => hv v (List.mem_cons_of_mem _ (List.mem_cons_of_mem _ hm)))⟩))
theorem sx_ldiv {x y : Int64} (hd : decode M.2.1 pc = .ok (.ldiv, 1)) (hy : ¬ y = 0) (kk : Sx l z d mc ms M (pc + 1) lc (xJ (x / y) :: st) h Ph) : Sx l z d mc ms M pc lc (xJ y :: xJ x :: st) h Ph := by
  intro p e R s m args below meth c D cA ka A Q n0 a0 mcT msT hC hR hE H locs cells slots al ls h1 h2 h3 h4 hB hL hv
  exact lv_ldiv hC.1 hC.2.1 hd hy (kk p e R s m args below meth c D cA ka A Q n0 a0 mcT msT hC hR hE H locs cells slots al ls h1 h2 h3 h4 hB hL (List.forall_mem_cons.mpr ⟨trivial, (fun v hm => hv v (List.mem_cons_of_mem _ (List.mem_cons_of_mem _ hm)))⟩))
theorem sx_lrem {x y : Int64} (hd : decode M.2.1 pc = .ok (.lrem, 1)) (hy : ¬ y = 0) (kk : Sx l z d mc ms M (pc + 1) lc (xJ (jRemL x y) :: st) h Ph) : Sx l z d mc ms M pc lc (xJ y :: xJ x :: st) h Ph := by
  intro p e R s m args below meth c D cA ka A Q n0 a0 mcT msT hC hR hE H locs cells slots al ls h1 h2 h3 h4 hB hL hv
  exact lv_lrem hC.1 hC.2.1 hd hy (kk p e R s m args below meth c D cA ka A Q n0 a0 mcT msT hC hR hE H locs cells slots al ls h1 h2 h3 h4 hB hL (List.forall_mem_cons.mpr ⟨trivial, (fun v hm => hv v (List.mem_cons_of_mem _ (List.mem_cons_of_mem _ hm)))⟩))
theorem sx_lcmp {x y : Int64} (hd : decode M.2.1 pc = .ok (.lcmp, 1)) (kk : Sx l z d mc ms M (pc + 1) lc (xI (jCmpL x y) :: st) h Ph) : Sx l z d mc ms M pc lc (xJ y :: xJ x :: st) h Ph := by
  intro p e R s m args below meth c D cA ka A Q n0 a0 mcT msT hC hR hE H locs cells slots al ls h1 h2 h3 h4 hB hL hv
  exact W.lcmp hC.1 hC.2.1 hd (kk p e R s m args below meth c D cA ka A Q n0 a0 mcT msT hC hR hE H locs cells slots al ls h1 h2 h3 h4 hB hL (List.forall_mem_cons.mpr ⟨trivial, (fun v hm => hv v (List.mem_cons_of_mem _ (List.mem_cons_of_mem _ hm)))⟩))
theorem sx_lshl {x : Int64} {y : Int32} (hd : decode M.2.1 pc = .ok (.lshl, 1)) (kk : Sx l z d mc ms M (pc + 1) lc (xJ (jShlL x y) :: st) h Ph) : Sx l z d mc ms M pc lc (xI y :: xJ x :: st) h Ph := by
  intro p e R s m args below meth c D cA ka A Q n0 a0 mcT msT hC hR hE H locs cells slots al ls h1 h2 h3 h4 hB hL hv
  exact lv_lshl hC.1 hC.2.1 hd rfl (kk p e R s m args below meth c D cA ka A Q n0 a0 mcT msT hC hR hE H locs cells slots al ls h1 h2 h3 h4 hB hL (List.forall_mem_cons.mpr ⟨trivial, (fun v hm => hv v (List.mem_cons_of_mem _ (List.mem_cons_of_mem _ hm)))⟩))
theorem sx_i2l {x : Int32} (hd : decode M.2.1 pc = .ok (.i2l, 1)) (kk : Sx l z d mc ms M (pc + 1) lc (xJ x.toInt64 :: st) h Ph) : Sx l z d mc ms M pc lc (xI x :: st) h Ph := by
  intro p e R s m args below meth c D cA ka A Q n0 a0 mcT msT hC hR hE H locs cells slots al ls h1 h2 h3 h4 hB hL hv
  exact lv_i2l hC.1 hC.2.1 hd rfl (kk p e R s m args below meth c D cA ka A Q n0 a0 mcT msT hC hR hE H locs cells slots al ls h1 h2 h3 h4 hB hL (List.forall_mem_cons.mpr ⟨trivial, (fun v hm => hv v (List.mem_cons_of_mem _ hm))⟩))
theorem sx_l2i {x : Int64} (hd : decode M.2.1 pc = .ok (.l2i, 1)) (kk : Sx l z d mc ms M (pc + 1) lc (xI x.toInt32 :: st) h Ph) : Sx l z d mc ms M pc lc (xJ x :: st) h Ph := by
  intro p e R s m args below meth c D cA ka A Q n0 a0 mcT msT hC hR hE H locs cells slots al ls h1 h2 h3 h4 hB hL hv
  exact lv_l2i hC.1 hC.2.1 hd rfl (kk p e R s m args below meth c D cA ka A Q n0 a0 mcT msT hC hR hE H locs cells slots al ls h1 h2 h3 h4 hB hL (List.forall_mem_cons.mpr ⟨trivial, (fun v hm => hv v (List.mem_cons_of_mem _ hm))⟩))
theorem sx_i2b {x : Int32} (hd : decode M.2.1 pc = .ok (.i2b, 1)) (kk : Sx l z d mc ms M (pc + 1) lc (xI (jB x) :: st) h Ph) : Sx l z d mc ms M pc lc (xI x :: st) h Ph := by
  intro p e R s m args below meth c D cA ka A Q n0 a0 mcT msT hC hR hE H locs cells slots al ls h1 h2 h3 h4 hB hL hv
  exact lv_i2b hC.1 hC.2.1 hd rfl (kk p e R s m args below meth c D cA ka A Q n0 a0 mcT msT hC hR hE H locs cells slots al ls h1 h2 h3 h4 hB hL (List.forall_mem_cons.mpr ⟨trivial, (fun v hm => hv v (List.mem_cons_of_mem _ hm))⟩))
theorem sx_i2s {x : Int32} (hd : decode M.2.1 pc = .ok (.i2s, 1)) (kk : Sx l z d mc ms M (pc + 1) lc (xI (jS x) :: st) h Ph) : Sx l z d mc ms M pc lc (xI x :: st) h Ph := by
  intro p e R s m args below meth c D cA ka A Q n0 a0 mcT msT hC hR hE H locs cells slots al ls h1 h2 h3 h4 hB hL hv
  exact lv_i2s hC.1 hC.2.1 hd rfl (kk p e R s m args below meth c D cA ka A Q n0 a0 mcT msT hC hR hE H locs cells slots al ls h1 h2 h3 h4 hB hL (List.forall_mem_cons.mpr ⟨trivial, (fun v hm => hv v (List.mem_cons_of_mem _ hm))⟩))
theorem sx_i2c {x : Int32} (hd : decode M.2.1 pc = .ok (.i2c, 1)) (kk : Sx l z d mc ms M (pc + 1) lc (xI (jCh x) :: st) h Ph) : Sx l z d mc ms M pc lc (xI x :: st) h Ph := by
  intro p e R s m args below meth c D cA ka A Q n0 a0 mcT msT hC hR hE H locs cells slots al ls h1 h2 h3 h4 hB hL hv
  exact lv_i2c hC.1 hC.2.1 hd rfl (kk p e R s m args below meth c D cA ka A Q n0 a0 mcT msT hC hR hE H locs cells slots al ls h1 h2 h3 h4 hB hL (List.forall_mem_cons.mpr ⟨trivial, (fun v hm => hv v (List.mem_cons_of_mem _ hm))⟩))
theorem sx_dup {v : xV} (hd : decode M.2.1 pc = .ok (.dup, 1)) (hw : x_wide (some (some v)) = false) (kk : Sx l z d mc ms M (pc + 1) lc (v :: v :: st) h Ph) : Sx l z d mc ms M pc lc (v :: st) h Ph := by
  intro p e R s m args below meth c D cA ka A Q n0 a0 mcT msT hC hR hE H locs cells slots al ls h1 h2 h3 h4 hB hL hv
  have hcat : ∀ w : xV, x_wide (some (some w)) = false → (x_t al ka w).category = 1 := fun w hw => (lv_cat _).elim id (fun q => by rw [(x_wide_t al ka w).mp q] at hw; cases hw)
  exact lv_dup hC.1 hC.2.1 hd (hcat _ hw) (kk p e R s m args below meth c D cA ka A Q n0 a0 mcT msT hC hR hE H locs cells slots al ls h1 h2 h3 h4 hB hL (List.forall_mem_cons.mpr ⟨hv _ List.mem_cons_self, hv⟩))
theorem sx_dup_x1 {v w : xV} (hd : decode M.2.1 pc = .ok (.dup_x1, 1)) (hw : x_wide (some (some v)) = false) (hw2 : x_wide (some (some w)) = false) (kk : Sx l z d mc ms M (pc + 1) lc (v :: w :: v :: st) h Ph) : Sx l z d mc ms M pc lc (v :: w :: st) h Ph := by
  intro p e R s m args below meth c D cA ka A Q n0 a0 mcT msT hC hR hE H locs cells slots al ls h1 h2 h3 h4 hB hL hv
  have hcat : ∀ w : xV, x_wide (some (some w)) = false → (x_t al ka w).category = 1 := fun w hw => (lv_cat _).elim id (fun q => by rw [(x_wide_t al ka w).mp q] at hw; cases hw)
  exact lv_dup_x1 hC.1 hC.2.1 hd (hcat _ hw) (hcat _ hw2) (kk p e R s m args below meth c D cA ka A Q n0 a0 mcT msT hC hR hE H locs cells slots al ls h1 h2 h3 h4 hB hL (List.forall_mem_cons.mpr ⟨hv _ List.mem_cons_self, List.forall_mem_cons.mpr ⟨hv _ (List.mem_cons_of_mem _ List.mem_cons_self), List.forall_mem_cons.mpr ⟨hv _ List.mem_cons_self, (fun v hm => hv v (List.mem_cons_of_mem _ (List.mem_cons_of_mem _ hm)))⟩⟩⟩))
theorem sx_pop {v : xV} (hd : decode M.2.1 pc = .ok (.pop, 1)) (hw : x_wide (some (some v)) = false) (kk : Sx l z d mc ms M (pc + 1) lc st h Ph) : Sx l z d mc ms M pc lc (v :: st) h Ph := by
  intro p e R s m args below meth c D cA ka A Q n0 a0 mcT msT hC hR hE H locs cells slots al ls h1 h2 h3 h4 hB hL hv
  have hcat : ∀ w : xV, x_wide (some (some w)) = false → (x_t al ka w).category = 1 := fun w hw => (lv_cat _).elim id (fun q => by rw [(x_wide_t al ka w).mp q] at hw; cases hw)
  exact lv_pop hC.1 hC.2.1 hd (hcat _ hw) (kk p e R s m args below meth c D cA ka A Q n0 a0 mcT msT hC hR hE H locs cells slots al ls h1 h2 h3 h4 hB hL (fun v hm => hv v (List.mem_cons_of_mem _ hm)))
theorem sx_if_eq {x : Int32} {off : Int} {tgt : Nat} (hd : decode M.2.1 pc = .ok (.ifCond .eq off, 3)) (ht : (pc : Int) + off = (tgt : Int)) (kt : x = 0 → Sx l z d mc ms M tgt lc st h Ph) (kf : ¬ x = 0 → Sx l z d mc ms M (pc + 3) lc st h Ph) : Sx l z d mc ms M pc lc (xI x :: st) h Ph := by
  intro p e R s m args below meth c D cA ka A Q n0 a0 mcT msT hC hR hE H locs cells slots al ls h1 h2 h3 h4 hB hL hv
  exact lv_if_eq hC.1 hC.2.1 hd ht (fun q => (kt q p e R s m args below meth c D cA ka A Q n0 a0 mcT msT hC hR hE H locs cells slots al ls h1 h2 h3 h4 hB hL (fun v hm => hv v (List.mem_cons_of_mem _ hm)))) (fun q => (kf q p e R s m args below meth c D cA ka A Q n0 a0 mcT msT hC hR hE H locs cells slots al ls h1 h2 h3 h4 hB hL (fun v hm => hv v (List.mem_cons_of_mem _ hm))))
theorem sx_icmp_eq {x y : Int32} {off : Int} {tgt : Nat} (hd : decode M.2.1 pc = .ok (.if_icmp .eq off, 3)) (ht : (pc : Int) + off = (tgt : Int)) (kt : x = y → Sx l z d mc ms M tgt lc st h Ph) (kf : ¬ x = y → Sx l z d mc ms M (pc + 3) lc st h Ph) : Sx l z d mc ms M pc lc (xI y :: xI x :: st) h Ph := by
  intro p e R s m args below meth c D cA ka A Q n0 a0 mcT msT hC hR hE H locs cells slots al ls h1 h2 h3 h4 hB hL hv
  exact lv_icmp_eq hC.1 hC.2.1 hd ht (fun q => (kt q p e R s m args below meth c D cA ka A Q n0 a0 mcT msT hC hR hE H locs cells slots al ls h1 h2 h3 h4 hB hL (fun v hm => hv v (List.mem_cons_of_mem _ (List.mem_cons_of_mem _ hm))))) (fun q => (kf q p e R s m args below meth c D cA ka A Q n0 a0 mcT msT hC hR hE H locs cells slots al ls h1 h2 h3 h4 hB hL (fun v hm => hv v (List.mem_cons_of_mem _ (List.mem_cons_of_mem _ hm)))))
theorem sx_if_ne {x : Int32} {off : Int} {tgt : Nat} (hd : decode M.2.1 pc = .ok (.ifCond .ne off, 3)) (ht : (pc : Int) + off = (tgt : Int)) (kt : ¬ x = 0 → Sx l z d mc ms M tgt lc st h Ph) (kf : x = 0 → Sx l z d mc ms M (pc + 3) lc st h Ph) : Sx l z d mc ms M pc lc (xI x :: st) h Ph := by
  intro p e R s m args below meth c D cA ka A Q n0 a0 mcT msT hC hR hE H locs cells slots al ls h1 h2 h3 h4 hB hL hv
  exact lv_if_ne hC.1 hC.2.1 hd ht (fun q => (kt q p e R s m args below meth c D cA ka A Q n0 a0 mcT msT hC hR hE H locs cells slots al ls h1 h2 h3 h4 hB hL (fun v hm => hv v (List.mem_cons_of_mem _ hm)))) (fun q => (kf q p e R s m args below meth c D cA ka A Q n0 a0 mcT msT hC hR hE H locs cells slots al ls h1 h2 h3 h4 hB hL (fun v hm => hv v (List.mem_cons_of_mem _ hm))))
theorem sx_icmp_ne {x y : Int32} {off : Int} {tgt : Nat} (hd : decode M.2.1 pc = .ok (.if_icmp .ne off, 3)) (ht : (pc : Int) + off = (tgt : Int)) (kt : ¬ x = y → Sx l z d mc ms M tgt lc st h Ph) (kf : x = y → Sx l z d mc ms M (pc + 3) lc st h Ph) : Sx l z d mc ms M pc lc (xI y :: xI x :: st) h Ph := by
  intro p e R s m args below meth c D cA ka A Q n0 a0 mcT msT hC hR hE H locs cells slots al ls h1 h2 h3 h4 hB hL hv
  exact lv_icmp_ne hC.1 hC.2.1 hd ht (fun q => (kt q p e R s m args below meth c D cA ka A Q n0 a0 mcT msT hC hR hE H locs cells slots al ls h1 h2 h3 h4 hB hL (fun v hm => hv v (List.mem_cons_of_mem _ (List.mem_cons_of_mem _ hm))))) (fun q => (kf q p e R s m args below meth c D cA ka A Q n0 a0 mcT msT hC hR hE H locs cells slots al ls h1 h2 h3 h4 hB hL (fun v hm => hv v (List.mem_cons_of_mem _ (List.mem_cons_of_mem _ hm)))))
theorem sx_if_lt {x : Int32} {off : Int} {tgt : Nat} (hd : decode M.2.1 pc = .ok (.ifCond .lt off, 3)) (ht : (pc : Int) + off = (tgt : Int)) (kt : x < 0 → Sx l z d mc ms M tgt lc st h Ph) (kf : ¬ x < 0 → Sx l z d mc ms M (pc + 3) lc st h Ph) : Sx l z d mc ms M pc lc (xI x :: st) h Ph := by
  intro p e R s m args below meth c D cA ka A Q n0 a0 mcT msT hC hR hE H locs cells slots al ls h1 h2 h3 h4 hB hL hv
  exact lv_if_lt hC.1 hC.2.1 hd ht (fun q => (kt q p e R s m args below meth c D cA ka A Q n0 a0 mcT msT hC hR hE H locs cells slots al ls h1 h2 h3 h4 hB hL (fun v hm => hv v (List.mem_cons_of_mem _ hm)))) (fun q => (kf q p e R s m args below meth c D cA ka A Q n0 a0 mcT msT hC hR hE H locs cells slots al ls h1 h2 h3 h4 hB hL (fun v hm => hv v (List.mem_cons_of_mem _ hm))))
theorem sx_icmp_lt {x y : Int32} {off : Int} {tgt : Nat} (hd : decode M.2.1 pc = .ok (.if_icmp .lt off, 3)) (ht : (pc : Int) + off = (tgt : Int)) (kt : x < y → Sx l z d mc ms M tgt lc st h Ph) (kf : ¬ x < y → Sx l z d mc ms M (pc + 3) lc st h Ph) : Sx l z d mc ms M pc lc (xI y :: xI x :: st) h Ph := by
  intro p e R s m args below meth c D cA ka A Q n0 a0 mcT msT hC hR hE H locs cells slots al ls h1 h2 h3 h4 hB hL hv
  exact lv_icmp_lt hC.1 hC.2.1 hd ht (fun q => (kt q p e R s m args below meth c D cA ka A Q n0 a0 mcT msT hC hR hE H locs cells slots al ls h1 h2 h3 h4 hB hL (fun v hm => hv v (List.mem_cons_of_mem _ (List.mem_cons_of_mem _ hm))))) (fun q => (kf q p e R s m args below meth c D cA ka A Q n0 a0 mcT msT hC hR hE H locs cells slots al ls h1 h2 h3 h4 hB hL (fun v hm => hv v (List.mem_cons_of_mem _ (List.mem_cons_of_mem _ hm)))))
theorem sx_if_ge {x : Int32} {off : Int} {tgt : Nat} (hd : decode M.2.1 pc = .ok (.ifCond .ge off, 3)) (ht : (pc : Int) + off = (tgt : Int)) (kt : 0 ≤ x → Sx l z d mc ms M tgt lc st h Ph) (kf : ¬ 0 ≤ x → Sx l z d mc ms M (pc + 3) lc st h Ph) : Sx l z d mc ms M pc lc (xI x :: st) h Ph := by
  intro p e R s m args below meth c D cA ka A Q n0 a0 mcT msT hC hR hE H locs cells slots al ls h1 h2 h3 h4 hB hL hv
  exact lv_if_ge hC.1 hC.2.1 hd ht (fun q => (kt q p e R s m args below meth c D cA ka A Q n0 a0 mcT msT hC hR hE H locs cells slots al ls h1 h2 h3 h4 hB hL (fun v hm => hv v (List.mem_cons_of_mem _ hm)))) (fun q => (kf q p e R s m args below meth c D cA ka A Q n0 a0 mcT msT hC hR hE H locs cells slots al ls h1 h2 h3 h4 hB hL (fun v hm => hv v (List.mem_cons_of_mem _ hm))))
theorem sx_icmp_ge {x y : Int32} {off : Int} {tgt : Nat} (hd : decode M.2.1 pc = .ok (.if_icmp .ge off, 3)) (ht : (pc : Int) + off = (tgt : Int)) (kt : y ≤ x → Sx l z d mc ms M tgt lc st h Ph) (kf : ¬ y ≤ x → Sx l z d mc ms M (pc + 3) lc st h Ph) : Sx l z d mc ms M pc lc (xI y :: xI x :: st) h Ph := by
  intro p e R s m args below meth c D cA ka A Q n0 a0 mcT msT hC hR hE H locs cells slots al ls h1 h2 h3 h4 hB hL hv
  exact lv_icmp_ge hC.1 hC.2.1 hd ht (fun q => (kt q p e R s m args below meth c D cA ka A Q n0 a0 mcT msT hC hR hE H locs cells slots al ls h1 h2 h3 h4 hB hL (fun v hm => hv v (List.mem_cons_of_mem _ (List.mem_cons_of_mem _ hm))))) (fun q => (kf q p e R s m args below meth c D cA ka A Q n0 a0 mcT msT hC hR hE H locs cells slots al ls h1 h2 h3 h4 hB hL (fun v hm => hv v (List.mem_cons_of_mem _ (List.mem_cons_of_mem _ hm)))))
theorem sx_if_gt {x : Int32} {off : Int} {tgt : Nat} (hd : decode M.2.1 pc = .ok (.ifCond .gt off, 3)) (ht : (pc : Int) + off = (tgt : Int)) (kt : 0 < x → Sx l z d mc ms M tgt lc st h Ph) (kf : ¬ 0 < x → Sx l z d mc ms M (pc + 3) lc st h Ph) : Sx l z d mc ms M pc lc (xI x :: st) h Ph := by
  intro p e R s m args below meth c D cA ka A Q n0 a0 mcT msT hC hR hE H locs cells slots al ls h1 h2 h3 h4 hB hL hv
  exact lv_if_gt hC.1 hC.2.1 hd ht (fun q => (kt q p e R s m args below meth c D cA ka A Q n0 a0 mcT msT hC hR hE H locs cells slots al ls h1 h2 h3 h4 hB hL (fun v hm => hv v (List.mem_cons_of_mem _ hm)))) (fun q => (kf q p e R s m args below meth c D cA ka A Q n0 a0 mcT msT hC hR hE H locs cells slots al ls h1 h2 h3 h4 hB hL (fun v hm => hv v (List.mem_cons_of_mem _ hm))))
theorem sx_icmp_gt {x y : Int32} {off : Int} {tgt : Nat} (hd : decode M.2.1 pc = .ok (.if_icmp .gt off, 3)) (ht : (pc : Int) + off = (tgt : Int)) (kt : y < x → Sx l z d mc ms M tgt lc st h Ph) (kf : ¬ y < x → Sx l z d mc ms M (pc + 3) lc st h Ph) : Sx l z d mc ms M pc lc (xI y :: xI x :: st) h Ph := by
  intro p e R s m args below meth c D cA ka A Q n0 a0 mcT msT hC hR hE H locs cells slots al ls h1 h2 h3 h4 hB hL hv
  exact lv_icmp_gt hC.1 hC.2.1 hd ht (fun q => (kt q p e R s m args below meth c D cA ka A Q n0 a0 mcT msT hC hR hE H locs cells slots al ls h1 h2 h3 h4 hB hL (fun v hm => hv v (List.mem_cons_of_mem _ (List.mem_cons_of_mem _ hm))))) (fun q => (kf q p e R s m args below meth c D cA ka A Q n0 a0 mcT msT hC hR hE H locs cells slots al ls h1 h2 h3 h4 hB hL (fun v hm => hv v (List.mem_cons_of_mem _ (List.mem_cons_of_mem _ hm)))))
theorem sx_if_le {x : Int32} {off : Int} {tgt : Nat} (hd : decode M.2.1 pc = .ok (.ifCond .le off, 3)) (ht : (pc : Int) + off = (tgt : Int)) (kt : x ≤ 0 → Sx l z d mc ms M tgt lc st h Ph) (kf : ¬ x ≤ 0 → Sx l z d mc ms M (pc + 3) lc st h Ph) : Sx l z d mc ms M pc lc (xI x :: st) h Ph := by
  intro p e R s m args below meth c D cA ka A Q n0 a0 mcT msT hC hR hE H locs cells slots al ls h1 h2 h3 h4 hB hL hv
  exact lv_if_le hC.1 hC.2.1 hd ht (fun q => (kt q p e R s m args below meth c D cA ka A Q n0 a0 mcT msT hC hR hE H locs cells slots al ls h1 h2 h3 h4 hB hL (fun v hm => hv v (List.mem_cons_of_mem _ hm)))) (fun q => (kf q p e R s m args below meth c D cA ka A Q n0 a0 mcT msT hC hR hE H locs cells slots al ls h1 h2 h3 h4 hB hL (fun v hm => hv v (List.mem_cons_of_mem _ hm))))
theorem sx_icmp_le {x y : Int32} {off : Int} {tgt : Nat} (hd : decode M.2.1 pc = .ok (.if_icmp .le off, 3)) (ht : (pc : Int) + off = (tgt : Int)) (kt : x ≤ y → Sx l z d mc ms M tgt lc st h Ph) (kf : ¬ x ≤ y → Sx l z d mc ms M (pc + 3) lc st h Ph) : Sx l z d mc ms M pc lc (xI y :: xI x :: st) h Ph := by
  intro p e R s m args below meth c D cA ka A Q n0 a0 mcT msT hC hR hE H locs cells slots al ls h1 h2 h3 h4 hB hL hv
  exact lv_icmp_le hC.1 hC.2.1 hd ht (fun q => (kt q p e R s m args below meth c D cA ka A Q n0 a0 mcT msT hC hR hE H locs cells slots al ls h1 h2 h3 h4 hB hL (fun v hm => hv v (List.mem_cons_of_mem _ (List.mem_cons_of_mem _ hm))))) (fun q => (kf q p e R s m args below meth c D cA ka A Q n0 a0 mcT msT hC hR hE H locs cells slots al ls h1 h2 h3 h4 hB hL (fun v hm => hv v (List.mem_cons_of_mem _ (List.mem_cons_of_mem _ hm)))))
theorem sx_goto {off : Int} {tgt : Nat} (hd : decode M.2.1 pc = .ok (.goto off, 3)) (ht : (pc : Int) + off = (tgt : Int)) (kk : Sx l z d mc ms M tgt lc st h Ph) : Sx l z d mc ms M pc lc st h Ph := by
  intro p e R s m args below meth c D cA ka A Q n0 a0 mcT msT hC hR hE H locs cells slots al ls h1 h2 h3 h4 hB hL hv
  exact lv_goto hC.1 hC.2.1 hd ht (kk p e R s m args below meth c D cA ka A Q n0 a0 mcT msT hC hR hE H locs cells slots al ls h1 h2 h3 h4 hB hL hv)
theorem sx_ifnull {q : Nat} {off : Int} {tgt : Nat} (hd : decode M.2.1 pc = .ok (.ifnull off, 3)) (ht : (pc : Int) + off = (tgt : Int)) (kt : q = 0 → Sx l z d mc ms M tgt lc st h Ph) (kf : ¬ q = 0 → Sx l z d mc ms M (pc + 3) lc st h Ph) : Sx l z d mc ms M pc lc (xR q :: st) h Ph := by
  intro p e R s m args below meth c D cA ka A Q n0 a0 mcT msT hC hR hE H locs cells slots al ls h1 h2 h3 h4 hB hL hv
  rw [List.map_cons]
  by_cases hq : q = 0
  · rw [show x_t al ka (xR q) = .null by rw [hq]; rfl]
    exact lv_ifnullN hC.1 hC.2.1 hd ht (kt hq p e R s m args below meth c D cA ka A Q n0 a0 mcT msT hC hR hE H locs cells slots al ls h1 h2 h3 h4 hB hL (fun v hm => hv v (List.mem_cons_of_mem _ hm)))
  · rw [show x_t al ka (xR q) = .ref (al q) by show va_rf (x_r al q) = _; unfold x_r; rw [if_neg hq]; rfl]
    exact lv_ifnull hC.1 hC.2.1 hd (kf hq p e R s m args below meth c D cA ka A Q n0 a0 mcT msT hC hR hE H locs cells slots al ls h1 h2 h3 h4 hB hL (fun v hm => hv v (List.mem_cons_of_mem _ hm)))
theorem sx_ifnonnull {q : Nat} {off : Int} {tgt : Nat} (hd : decode M.2.1 pc = .ok (.ifnonnull off, 3)) (ht : (pc : Int) + off = (tgt : Int)) (kt : ¬ q = 0 → Sx l z d mc ms M tgt lc st h Ph) (kf : q = 0 → Sx l z d mc ms M (pc + 3) lc st h Ph) : Sx l z d mc ms M pc lc (xR q :: st) h Ph := by
  intro p e R s m args below meth c D cA ka A Q n0 a0 mcT msT hC hR hE H locs cells slots al ls h1 h2 h3 h4 hB hL hv
  rw [List.map_cons]
  by_cases hq : q = 0
  · rw [show x_t al ka (xR q) = .null by rw [hq]; rfl]
    exact lv_ifnonnullN hC.1 hC.2.1 hd (kf hq p e R s m args below meth c D cA ka A Q n0 a0 mcT msT hC hR hE H locs cells slots al ls h1 h2 h3 h4 hB hL (fun v hm => hv v (List.mem_cons_of_mem _ hm)))
  · rw [show x_t al ka (xR q) = .ref (al q) by show va_rf (x_r al q) = _; unfold x_r; rw [if_neg hq]; rfl]
    exact lv_ifnonnull hC.1 hC.2.1 hd ht (kt hq p e R s m args below meth c D cA ka A Q n0 a0 mcT msT hC hR hE H locs cells slots al ls h1 h2 h3 h4 hB hL (fun v hm => hv v (List.mem_cons_of_mem _ hm)))
theorem sx_tabOut {dflt lo hi : Int} {offs : Array Int} {len : Nat} {x : Int32} {tgt : Nat} (hd : decode M.2.1 pc = .ok (.tableswitch dflt lo hi offs, len)) (hq : x.toInt < lo ∨ hi < x.toInt) (ht : (pc : Int) + dflt = (tgt : Int)) (kk : Sx l z d mc ms M tgt lc st h Ph) : Sx l z d mc ms M pc lc (xI x :: st) h Ph := by
  intro p e R s m args below meth c D cA ka A Q n0 a0 mcT msT hC hR hE H locs cells slots al ls h1 h2 h3 h4 hB hL hv
  exact lv_tableOut hC.1 hC.2.1 hd hq ht (kk p e R s m args below meth c D cA ka A Q n0 a0 mcT msT hC hR hE H locs cells slots al ls h1 h2 h3 h4 hB hL (fun v hm => hv v (List.mem_cons_of_mem _ hm)))
theorem sx_tabIn {dflt lo hi : Int} {offs : Array Int} {len : Nat} {x : Int32} {off : Int} {tgt : Nat} (hd : decode M.2.1 pc = .ok (.tableswitch dflt lo hi offs, len)) (hq1 : ¬ x.toInt < lo) (hq2 : ¬ hi < x.toInt) (ho : offs[(x.toInt - lo).toNat]? = some off) (ht : (pc : Int) + off = (tgt : Int)) (kk : Sx l z d mc ms M tgt lc st h Ph) : Sx l z d mc ms M pc lc (xI x :: st) h Ph := by
  intro p e R s m args below meth c D cA ka A Q n0 a0 mcT msT hC hR hE H locs cells slots al ls h1 h2 h3 h4 hB hL hv
  exact lv_tableIn hC.1 hC.2.1 hd hq1 hq2 ho ht (kk p e R s m args below meth c D cA ka A Q n0 a0 mcT msT hC hR hE H locs cells slots al ls h1 h2 h3 h4 hB hL (fun v hm => hv v (List.mem_cons_of_mem _ hm)))
theorem sx_ldc {k : Nat} {v : Int32} (hw : Cond.constant M.1.cls k v ∈ xTB) (hd : decode M.2.1 pc = .ok (.ldc k, 2)) (kk : Sx l z d mc ms M (pc + 2) lc (xI v :: st) h Ph) : Sx l z d mc ms M pc lc st h Ph := by
  intro p e R s m args below meth c D cA ka A Q n0 a0 mcT msT hC hR hE H locs cells slots al ls h1 h2 h3 h4 hB hL hv
  exact W.ldc hC.1 hC.2.1 hC.2.2.2.2.1 (hC.2.2.2.2.2.1 _ hw) rfl hd (kk p e R s m args below meth c D cA ka A Q n0 a0 mcT msT hC hR hE H locs cells slots al ls h1 h2 h3 h4 hB hL (List.forall_mem_cons.mpr ⟨trivial, hv⟩))
theorem sx_ldcw {k : Nat} {v : Int32} (hw : Cond.constant M.1.cls k v ∈ xTB) (hd : decode M.2.1 pc = .ok (.ldc_w k, 3)) (kk : Sx l z d mc ms M (pc + 3) lc (xI v :: st) h Ph) : Sx l z d mc ms M pc lc st h Ph := by
  intro p e R s m args below meth c D cA ka A Q n0 a0 mcT msT hC hR hE H locs cells slots al ls h1 h2 h3 h4 hB hL hv
  exact lv_ldcw hC.1 hC.2.1 hC.2.2.2.2.1 (hC.2.2.2.2.2.1 _ hw) hd (kk p e R s m args below meth c D cA ka A Q n0 a0 mcT msT hC hR hE H locs cells slots al ls h1 h2 h3 h4 hB hL (List.forall_mem_cons.mpr ⟨trivial, hv⟩))
theorem sx_ldc2 {k : Nat} {v : Int64} (hw : Cond.constantLong M.1.cls k v ∈ xTB) (hd : decode M.2.1 pc = .ok (.ldc2_w k, 3)) (kk : Sx l z d mc ms M (pc + 3) lc (xJ v :: st) h Ph) : Sx l z d mc ms M pc lc st h Ph := by
  intro p e R s m args below meth c D cA ka A Q n0 a0 mcT msT hC hR hE H locs cells slots al ls h1 h2 h3 h4 hB hL hv
  exact W.ldc2 hC.1 hC.2.1 hC.2.2.2.2.1 (hC.2.2.2.2.2.1 _ hw) rfl hd (kk p e R s m args below meth c D cA ka A Q n0 a0 mcT msT hC hR hE H locs cells slots al ls h1 h2 h3 h4 hB hL (List.forall_mem_cons.mpr ⟨trivial, hv⟩))
theorem sx_ldcS {k : Nat} {i : Nat} {tx : String} (hw : x_sl[i]? = some (M.1.cls, k, tx)) (hi : i < 14) (hd : decode M.2.1 pc = .ok (.ldc k, 2)) (kk : Sx l z d mc ms M (pc + 2) lc (xS i :: st) h Ph) : Sx l z d mc ms M pc lc st h Ph := by
  intro p e R s m args below meth c D cA ka A Q n0 a0 mcT msT hC hR hE H locs cells slots al ls h1 h2 h3 h4 hB hL hv
  have k9 := (kk p e R s m args below meth c D cA ka A Q n0 a0 mcT msT hC hR hE H locs cells slots al ls h1 h2 h3 h4 hB hL (List.forall_mem_cons.mpr ⟨trivial, hv⟩))
  rw [List.map_cons, show x_t al ka (xS i) = .ref (ka.1 i) by show (if i = 31 then va_rf ka.2 else .ref (ka.1 i)) = _; rw [if_neg (by omega)]] at k9
  exact va_ldcS hC.1 hC.2.1 hC.2.2.2.2.1 (hC.2.2.2.2.2.2.2.2.2.2.2.1 i _ hw) hd k9
end XR

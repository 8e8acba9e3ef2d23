/-! a pure machine: values (ints, longs, places of the heap with 0 for null, things outside), and a heap of numbered places -/
abbrev xV : Type := Int32 ⊕ (Int64 ⊕ (Nat ⊕ Nat))
abbrev xI (v : Int32) : xV := Sum.inl v
abbrev xJ (v : Int64) : xV := Sum.inr (Sum.inl v)
abbrev xR (v : Nat) : xV := Sum.inr (Sum.inr (Sum.inl v))
abbrev xS (v : Nat) : xV := Sum.inr (Sum.inr (Sum.inr v))
abbrev xH : Type := Nat × (Nat → Nat) × (Nat → Nat) × (Nat → Nat → Int32) × (Nat → Nat → Nat)
def hN (h : xH) : Nat := h.1
def hK (h : xH) (p : Nat) : Nat := h.2.1 p
def hL (h : xH) (p : Nat) : Nat := h.2.2.1 p
def hI (h : xH) (p k : Nat) : Int32 := h.2.2.2.1 p k
def hR (h : xH) (p k : Nat) : Nat := h.2.2.2.2 p k
def hIu (h : xH) (p k : Nat) (v : Int32) : xH := (h.1, h.2.1, h.2.2.1, (fun q j => if q = p ∧ j = k then v else h.2.2.2.1 q j), h.2.2.2.2)
def hRu (h : xH) (p k v : Nat) : xH := (h.1, h.2.1, h.2.2.1, h.2.2.2.1, fun q j => if q = p ∧ j = k then v else h.2.2.2.2 q j)
def hIr (h : xH) (p : Nat) (f : Nat → Int32) : xH := (h.1, h.2.1, h.2.2.1, (fun q j => if q = p then f j else h.2.2.2.1 q j), h.2.2.2.2)
def hNw (h : xH) (kd ln : Nat) : xH := (h.1 + 1, (fun q => if q = h.1 then kd else h.2.1 q), (fun q => if q = h.1 then ln else h.2.2.1 q), (fun q j => if q = h.1 then 0 else h.2.2.2.1 q j), fun q j => if q = h.1 then 0 else h.2.2.2.2 q j)
/-- what outside things are: 0..13 texts, 14 the script, 15 the row ABOVE, 16..29 the texts' bytes, 31 the formatter -/
def x_ab (j : Nat) : Int32 := ([-1, 0, 0, 1, 2, 2] : List Int32).getD j 0
def x_len : List Nat := [35, 3, 5, 5, 4, 4, 4, 6, 5, 3, 2, 3, 3, 0]
def x_byt : List (List Int32) := [[99, 111, 117, 110, 116, 115, 32, 49, 32, 59, 32, 99, 111, 115, 116, 115, 32, 49, 32, 59, 32, 106, 111, 121, 32, 53, 32, 45, 32, 107, 110, 111, 119, 32, 59], [111, 110, 101], [111, 116, 104, 101, 114], [116, 104, 105, 114, 100], [107, 110, 111, 119], [115, 101, 101, 110], [109, 97, 110, 121], [99, 111, 117, 110, 116, 115], [99, 111, 115, 116, 115], [106, 111, 121], [111, 114], [97, 110, 100], [110, 111, 116], []]
def x_sl : List (String × Nat × String) := [("ThreesAtTable", 186, "counts 1 ; costs 1 ; joy 5 - know ;"), ("ThreesAtTable$Reader", 124, "one"), ("ThreesAtTable$Reader", 126, "other"), ("ThreesAtTable$Reader", 128, "third"), ("ThreesAtTable$Reader", 130, "know"), ("ThreesAtTable$Reader", 132, "seen"), ("ThreesAtTable$Reader", 134, "many"), ("ThreesAtTable$Reader", 136, "counts"), ("ThreesAtTable$Reader", 138, "costs"), ("ThreesAtTable$Reader", 140, "joy"), ("ThreesAtTable$Reader", 142, "or"), ("ThreesAtTable$Reader", 144, "and"), ("ThreesAtTable$Reader", 146, "not"), ("ThreesAtTable$Reader", 148, "")]
def x_nest : List (String × Nat × MethodName × String) := [("ThreesAtTable", 59, ⟨"ThreesAtTable$Reader", "<init>", "()V"⟩, "ThreesAtTable"), ("ThreesAtTable", 82, ⟨"ThreesAtTable$Sheet", "<init>", "()V"⟩, "ThreesAtTable")]
def x_ao : List String := ["ThreesAtTable$Text", "ThreesAtTable$Town", "ThreesAtTable$Sheet"]
abbrev xK : Type := (Nat → Nat) × Option Nat
def x_r (al : Nat → Nat) (p : Nat) : Option Nat := if p = 0 then none else some (al p)
def x_t (al : Nat → Nat) (ka : xK) (v : xV) : Value := match v with
  | .inl v => .int v
  | .inr (.inl v) => .long v
  | .inr (.inr (.inl p)) => va_rf (x_r al p)
  | .inr (.inr (.inr k)) => if k = 31 then va_rf ka.2 else .ref (ka.1 k)
def x_fv (al : Nat → Nat) (h : xH) (p : Nat) (t : FieldType) (k : Nat) : Value := match t with
  | .int => .int (hI h p k)
  | .boolean => .int (hI h p k)
  | .long => .long (hI h p k).toInt64
  | _ => va_rf (x_r al (hR h p k))
def x_fs (al : Nat → Nat) (h : xH) (p n : Nat) (t : Nat → FieldType) : List Value := (List.range n).map (fun k => x_fv al h p (t k) k)
def x_g (cA : Nat → ClassId) (al : Nat → Nat) (h : xH) (p : Nat) : va_E := match xcl[hK h p]? with
  | some q => .inr (hK h p, x_fs al h p q.1.2.2 q.2)
  | none => if hK h p = 12 ∨ hK h p = 13 then .inl (cA (hK h p), (hL h p, .inl (hI h p))) else .inl (cA (hK h p), (hL h p, .inr (.inr (.inr (.inr (fun j => x_r al (hR h p j)))))))
def x_w (cA : Nat → ClassId) (al : Nat → Nat) (h : xH) : va_W := (List.range (hN h - 1)).map (fun i => (al (i + 1), x_g cA al h (i + 1)))
def x_tys (cA : Nat → ClassId) : List (ClassId × FieldType) := [(cA 12, .int), (cA 13, .boolean), (cA 14, .object "ThreesAtTable$Text"), (cA 15, .object "ThreesAtTable$Town"), (cA 16, .object "ThreesAtTable$Sheet")]
def x_ok (h : xH) : Prop := 1 ≤ hN h ∧ (∀ p k, hR h p k < hN h) ∧ ∀ p, (p = 0 ∨ hN h ≤ p) → hK h p = 99
def x_vo (n : Nat) (v : xV) : Prop := match v with
  | .inr (.inr (.inl p)) => p < n
  | _ => True
abbrev xZ : Type := Nat × (Nat → Int32)
def x_Str (ka : xK) (z : xZ) (A : Nat → Prop) (s : State) : Prop :=
  vk_S 14 x_len x_byt ka.1 (fun i => ka.1 (16 + i)) A s s.heap ∧ (∀ (i : Nat) (q : String × Nat × String), x_sl[i]? = some q → vk_R q.1 q.2.1 q.2.2 (ka.1 i) s) ∧
  va_Z "java/lang/String" "COMPACT_STRINGS" "Z" (.int 1) A s s.heap ∧ va_Z "jdk/internal/util/Preconditions" "SIOOBE_FORMATTER" "Ljava/util/function/BiFunction;" (va_rf ka.2) A s s.heap ∧
  va_Z "ThreesAtTable$Town" "ABOVE" "[I" (.ref (ka.1 15)) A s s.heap ∧ va_T .int (ka.1 15) 6 (fun j => .int (x_ab j)) A s s.heap ∧
  va_X (ka.1 14) z.1 z.2 s s.heap ∧ ka.1 14 < s.heap.size ∧ ¬ A (ka.1 14) ∧ (∀ C ∈ x_ao, va_AO C s) ∧ va_Nw (.castable "[I" "java/lang/Cloneable") s ∧ ∀ q ∈ x_nest, va_Nw (.methodLinkNest q.1 q.2.1 q.2.2.1 q.2.2.2) s
theorem x_Str.same {ka : xK} {z : xZ} {A : Nat → Prop} {u U : State} (hv : U.vm = u.vm) (hh : U.heap = u.heap) (h : x_Str ka z A u) : x_Str ka z A U := by
  have hal : u.vm.Alike U.vm := by rw [hv]; exact Vm.Alike.refl u.vm
  obtain ⟨a1, a2, a3, a4, a5, a6, a7, a8, a9, a10⟩ := h
  unfold x_Str
  rw [hh]
  exact ⟨a1.moved hal, fun i q hq => (a2 i q hq).same hv, a3.moved hal, a4.moved hal, a5.moved hal, a6.moved hal, a7.moved hal, a8, a9, fun C hC => (a10.1 C hC).moved hal, va_tabs rfl hv.symm a10.2.1, fun q hq => va_tabs rfl hv.symm (a10.2.2 q hq)⟩
theorem x_Str.call {ka : xK} {z : xZ} {A B : Nat → Prop} {s U : State} {locs : List Loc} (h : x_Str ka z A s) (hW : s.WarmedH U.vm) (hS : va_S A s.heap U.heap locs) (hAB : ∀ q, B q → A q) : x_Str ka z B U := by
  obtain ⟨a1, a2, a3, a4, a5, a6, a7, a8, a9, a10⟩ := h
  have hal := hW.alike
  refine ⟨((a1.moved hal).kept hS.2.1).narrow hAB, fun i q hq => (a2 i q hq).warm hW, ((a3.moved hal).kept hS.2.1).narrow hAB, ((a4.moved hal).kept hS.2.1).narrow hAB, ((a5.moved hal).kept hS.2.1).narrow hAB, ((a6.moved hal).kept hS.2.1).narrow hAB, (a7.moved hal).kept (hS.2.1 _ a8 a9), Nat.lt_of_lt_of_le a8 hS.1, fun q => a9 (hAB _ q), fun C hC => (a10.1 C hC).moved hal, va_Nw.warmC hW a10.2.1, fun q hq => va_Nw.warmM hW (a10.2.2 q hq)⟩
/-! worlds of the pure heap -/
theorem x_w_at {cA : Nat → ClassId} {al : Nat → Nat} {h : xH} {p : Nat} (h0 : 0 < p) (h1 : p < hN h) : (x_w cA al h)[p - 1]? = some (al p, x_g cA al h p) := by
  unfold x_w
  rw [List.getElem?_map, List.getElem?_range (by omega)]
  show some (al (p - 1 + 1), x_g cA al h (p - 1 + 1)) = _
  rw [show p - 1 + 1 = p by omega]
theorem x_w_of {cA : Nat → ClassId} {al : Nat → Nat} {h : xH} {k : Nat} {q : Nat × va_E} (hk : (x_w cA al h)[k]? = some q) : k + 1 < hN h ∧ q = (al (k + 1), x_g cA al h (k + 1)) := by
  unfold x_w at hk
  rw [List.getElem?_map] at hk
  by_cases hl : k < hN h - 1
  · rw [List.getElem?_range hl] at hk
    exact ⟨by omega, (Option.some.inj hk).symm⟩
  · rw [List.getElem?_eq_none (by simp; omega)] at hk
    cases hk
theorem x_w_len {cA : Nat → ClassId} {al : Nat → Nat} {h : xH} : (x_w cA al h).length = hN h - 1 := by simp [x_w]
theorem x_w_set {cA : Nat → ClassId} {al : Nat → Nat} {h h2 : xH} {p : Nat} (hn : hN h2 = hN h) (h0 : 0 < p) (hq : ∀ q, q ≠ p → x_g cA al h2 q = x_g cA al h q) : (x_w cA al h).set (p - 1) (al p, x_g cA al h2 p) = x_w cA al h2 := by
  apply List.ext_getElem?
  intro k
  by_cases hk : k + 1 < hN h
  · rw [List.getElem?_set]
    have e2 : (x_w cA al h2)[k]? = some (al (k + 1), x_g cA al h2 (k + 1)) := x_w_at (p := k + 1) (by omega) (by omega)
    have e1 : (x_w cA al h)[k]? = some (al (k + 1), x_g cA al h (k + 1)) := x_w_at (p := k + 1) (by omega) hk
    rw [e2, e1]
    by_cases he : p - 1 = k
    · rw [if_pos he, if_pos (by rw [x_w_len]; omega), show k + 1 = p by omega]
    · rw [if_neg he, hq (k + 1) (by omega)]
  · rw [List.getElem?_eq_none (by rw [List.length_set, x_w_len]; omega), List.getElem?_eq_none (by rw [x_w_len]; omega)]
theorem x_w_push {cA : Nat → ClassId} {al : Nat → Nat} {h h2 : xH} {a : Nat} (hp : 1 ≤ hN h) (hn : hN h2 = hN h + 1) (hq : ∀ q, q < hN h → x_g cA (va_up al (hN h) a) h2 q = x_g cA al h q) : x_w cA al h ++ [(a, x_g cA (va_up al (hN h) a) h2 (hN h))] = x_w cA (va_up al (hN h) a) h2 := by
  apply List.ext_getElem?
  intro k
  by_cases hk : k + 1 < hN h
  · rw [List.getElem?_append_left (by rw [x_w_len]; omega)]
    have e2 : (x_w cA (va_up al (hN h) a) h2)[k]? = some (va_up al (hN h) a (k + 1), x_g cA (va_up al (hN h) a) h2 (k + 1)) := x_w_at (p := k + 1) (by omega) (by omega)
    have e1 : (x_w cA al h)[k]? = some (al (k + 1), x_g cA al h (k + 1)) := x_w_at (p := k + 1) (by omega) hk
    rw [e2, e1, hq _ hk]
    simp only [va_up, if_neg (show ¬ k + 1 = hN h by omega)]
  · by_cases hk2 : k + 1 = hN h
    · have e2 : (x_w cA (va_up al (hN h) a) h2)[k]? = some (va_up al (hN h) a (k + 1), x_g cA (va_up al (hN h) a) h2 (k + 1)) := x_w_at (p := k + 1) (by omega) (by omega)
      rw [e2, List.getElem?_append_right (by rw [x_w_len]; omega), x_w_len, show k - (hN h - 1) = 0 by omega, hk2]
      simp [va_up]
    · rw [List.getElem?_eq_none (by rw [List.length_append, x_w_len]; simp; omega), List.getElem?_eq_none (by rw [x_w_len]; omega)]
theorem x_ok.pos {h : xH} (ho : x_ok h) {p ci : Nat} (hk : hK h p = ci) (hc : ci < 99) : 0 < p ∧ p < hN h := by
  refine ⟨?_, ?_⟩
  · rcases Nat.eq_zero_or_pos p with q | q
    · have := ho.2.2 p (Or.inl q); omega
    · exact q
  · rcases Nat.lt_or_ge p (hN h) with q | q
    · exact q
    · have := ho.2.2 p (Or.inr q); omega
theorem x_C_at {ci : Nat} {q : vw_C × (Nat → FieldType)} (h : xcl[ci]? = some q) : xC[ci]? = some q.1 := by
  unfold xC
  rw [List.getElem?_map, h]
  rfl
theorem x_g_obj {cA : Nat → ClassId} {al : Nat → Nat} {h : xH} {p ci : Nat} {q : vw_C × (Nat → FieldType)} (hk : hK h p = ci) (hc : xcl[ci]? = some q) : x_g cA al h p = .inr (ci, x_fs al h p q.1.2.2 q.2) := by
  unfold x_g
  rw [hk, hc]
theorem x_g_int {cA : Nat → ClassId} {al : Nat → Nat} {h : xH} {p ci : Nat} (hk : hK h p = ci) (hc : ci = 12 ∨ ci = 13) : x_g cA al h p = .inl (cA ci, (hL h p, .inl (hI h p))) := by
  unfold x_g
  rw [hk]
  rcases hc with rfl | rfl <;> rfl
theorem x_g_ref {cA : Nat → ClassId} {al : Nat → Nat} {h : xH} {p ci : Nat} (hk : hK h p = ci) (hc : 14 ≤ ci ∧ ci ≤ 16) : x_g cA al h p = .inl (cA ci, (hL h p, .inr (.inr (.inr (.inr (fun j => x_r al (hR h p j))))))) := by
  unfold x_g
  rw [hk]
  have : ci = 14 ∨ ci = 15 ∨ ci = 16 := by omega
  rcases this with rfl | rfl | rfl <;> rfl
theorem x_fs_at {al : Nat → Nat} {h : xH} {p n k : Nat} {t : Nat → FieldType} (hk : k < n) : (x_fs al h p n t)[k]? = some (x_fv al h p (t k) k) := by
  unfold x_fs
  rw [List.getElem?_map, List.getElem?_range hk]
  rfl
theorem x_fs_len {al : Nat → Nat} {h : xH} {p n : Nat} {t : Nat → FieldType} : (x_fs al h p n t).length = n := by simp [x_fs]
theorem x_fs_set {al : Nat → Nat} {h h2 : xH} {p n k : Nat} {t : Nat → FieldType} (hj : ∀ j, j ≠ k → x_fv al h2 p (t j) j = x_fv al h p (t j) j) : (x_fs al h p n t).set k (x_fv al h2 p (t k) k) = x_fs al h2 p n t := by
  apply List.ext_getElem?
  intro j
  by_cases hl : j < n
  · rw [List.getElem?_set, x_fs_at hl, x_fs_at hl]
    by_cases he : k = j
    · subst he
      rw [if_pos rfl, if_pos (by rw [x_fs_len]; exact hl)]
    · rw [if_neg he, hj j (Ne.symm he)]
  · rw [List.getElem?_eq_none (by rw [List.length_set, x_fs_len]; omega), List.getElem?_eq_none (by rw [x_fs_len]; omega)]
/-! the judgement -/
def x_ws (M : xM) : List Cond := Cond.code M.1 M.2.1 M.2.2.1 M.2.2.2 :: xTB
def x_rm (d mc ms : Nat) : Room := { frames := d, cells := mc, slots := ms, locals := 40 * d }
def x_C (M : xM) (z : xZ) (p : Program) (s : State) (m : MethodId) (args : Array Value) (meth : Method) (c : Code) (D : va_G) (cA : Nat → ClassId) (ka : xK) (A : Nat → Prop) : Prop :=
  p.tables.exec = Jvm.exec ∧ c.code = M.2.1 ∧ c.maxLocals = M.2.2.1 ∧ meth.sig.returnType = M.2.2.2 ∧ s.vm.findClass M.1.cls = some m.cls ∧ (∀ w ∈ xTB, w.before args s = true) ∧ va_K D xC (x_tys cA) s ∧ meth.locks = false ∧
  (M.1.name = "<init>" → meth.name = "<init>") ∧ (∀ q, s.heap.size ≤ q → A q) ∧ x_Str ka z A s
def x_B (D : va_G) (cA : Nat → ClassId) (al : Nat → Nat) (A : Nat → Prop) (s : State) (h : xH) (H : Heap) (locs : List Loc) : Prop :=
  va_P D xC (x_w cA al h) H ∧ va_D A (x_w cA al h) ∧ va_S A s.heap H locs ∧ x_ok h
def x_L (al : Nat → Nat) (ka : xK) (np n : Nat) (lc : List (Option xV)) (ls : Array Slot) : Prop :=
  ls.size = n ∧ lv_wf ls ∧ ∀ (i : Nat) (v : xV), lc[i]? = some (some v) → ls[i]? = some (.val (x_t al ka v)) ∧ x_vo np v
/-- how a method ends: the instruction, the stack that it wants, the answer -/
def x_rr (ret : Option FieldType) (i : Instr) (st : List xV) (r : Option xV) : Prop := match ret with
  | none => i = .return_ ∧ st = [] ∧ r = none
  | some .long => i = .lreturn ∧ ∃ v, st = [xJ v] ∧ r = some (xJ v)
  | some (.object _) => i = .areturn ∧ ∃ v, st = [Sum.inr (Sum.inr v)] ∧ r = some (Sum.inr (Sum.inr v))
  | some (.array _) => i = .areturn ∧ ∃ v, st = [Sum.inr (Sum.inr v)] ∧ r = some (Sum.inr (Sum.inr v))
  | some .float => False
  | some .double => False
  | some t => i = .ireturn ∧ ∃ v v0, st = [xI v0] ∧ r = some (xI v) ∧ narrow t (.int v0) = .int v
def x_E (l : Launch) (M : xM) (p : Program) (e : Env) (R : Room) (s : State) (m : MethodId) (args : Array Value) (below : List Frame) (meth : Method) (c : Code) (D : va_G) (cA : Nat → ClassId) (ka : xK) (A : Nat → Prop) (Q : State → Prop) (n0 : Nat) (a0 : Nat → Nat) (mcT msT : Nat) (Ph : Option xV → xH → Prop) : Prop :=
  ∀ (H : Heap) (locs : List Loc) (cells slots : Nat) (al : Nat → Nat) (ls : Array Slot) (h : xH) (pc : Nat) (i : Instr) (st : List xV) (r : Option xV), cells ≤ mcT → slots ≤ msT → (∀ q, q < n0 → al q = a0 q) → n0 ≤ hN h → x_B D cA al A s h H locs →
    (∀ v, r = some v → x_vo (hN h) v) → Ph r h → decode M.2.1 pc = .ok (i, 1) → x_rr M.2.2.2 i st r → W p l e R s m args below meth c H locs cells slots Q (F0 m pc ls (st.map (x_t al ka)))
def Sx (l : Launch) (z : xZ) (d mc ms : Nat) (M : xM) (pc : Nat) (lc : List (Option xV)) (st : List xV) (h : xH) (Ph : Option xV → xH → Prop) : Prop :=
  ∀ (p : Program) (e : Env) (R : Room) (s : State) (m : MethodId) (args : Array Value) (below : List Frame) (meth : Method) (c : Code) (D : va_G) (cA : Nat → ClassId) (ka : xK) (A : Nat → Prop) (Q : State → Prop) (n0 : Nat) (a0 : Nat → Nat) (mcT msT : Nat),
    x_C M z p s m args meth c D cA ka A → (d ≤ R.frames ∧ 40 * d ≤ R.locals ∧ mcT ≤ R.cells ∧ msT ≤ R.slots) → x_E l M p e R s m args below meth c D cA ka A Q n0 a0 mcT msT Ph →
    ∀ (H : Heap) (locs : List Loc) (cells slots : Nat) (al : Nat → Nat) (ls : Array Slot), cells + mc ≤ mcT → slots + ms ≤ msT → (∀ q, q < n0 → al q = a0 q) → n0 ≤ hN h → x_B D cA al A s h H locs → x_L al ka (hN h) M.2.2.1 lc ls → (∀ v ∈ st, x_vo (hN h) v) →
      W p l e R s m args below meth c H locs cells slots Q (F0 m pc ls (st.map (x_t al ka)))


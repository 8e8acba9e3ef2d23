/-! partial functions, and what holds of their answers -/
def OK {α : Type} (o : Option α) (P : α → Prop) : Prop := ∃ a, o = some a ∧ P a
def gd {α : Type} (c : Prop) [Decidable c] (k : Option α) : Option α := if c then k else none
def jn {α γ : Type} (K : γ → Option α) (B : (γ → Option α) → Option α) : Option α := B K
def nb (v : Int32) : Int32 := vp_nar .boolean v
def fu : Nat := 2000
theorem OK.bind {α β : Type} {o : Option α} {f : α → Option β} {P : β → Prop} (h : OK (o.bind f) P) : ∃ a, o = some a ∧ OK (f a) P := by
  obtain ⟨b, hb, hp⟩ := h
  cases o with
  | none => cases hb
  | some a => exact ⟨a, rfl, b, hb, hp⟩
theorem OK.val {α : Type} {a : α} {P : α → Prop} (h : OK (some a) P) : P a := by
  obtain ⟨b, hb, hp⟩ := h
  cases hb
  exact hp
theorem OK.no {α : Type} {P : α → Prop} {G : Prop} (h : OK (none : Option α) P) : G := by
  obtain ⟨b, hb, -⟩ := h
  cases hb
theorem OK.t {α : Type} {c : Prop} [Decidable c] {a b : Option α} {P : α → Prop} (h : OK (if c then a else b) P) (hc : c) : OK a P := by rwa [if_pos hc] at h
theorem OK.f {α : Type} {c : Prop} [Decidable c] {a b : Option α} {P : α → Prop} (h : OK (if c then a else b) P) (hc : ¬ c) : OK b P := by rwa [if_neg hc] at h
theorem OK.g {α : Type} {c : Prop} [Decidable c] {k : Option α} {P : α → Prop} (h : OK (gd c k) P) : c ∧ OK k P := by
  unfold gd at h
  by_cases hc : c
  · exact ⟨hc, h.t hc⟩
  · exact OK.no (h.f hc)
theorem OK.j {α γ : Type} {K : γ → Option α} {B : (γ → Option α) → Option α} {P : α → Prop} {G : Prop} {X : γ → Prop} (h : OK (jn K B) P) (h1 : ∀ x, OK (K x) P → X x) (h2 : ∀ K' : γ → Option α, (∀ x, OK (K' x) P → X x) → OK (B K') P → G) : G := h2 K h1 h
theorem sx_eq {l : Launch} {z : xZ} {d mc ms : Nat} {M : xM} {pc : Nat} {lc lc2 : List (Option xV)} {st st2 : List xV} {h : xH} {Ph : Option xV → xH → Prop} (h1 : lc = lc2) (h2 : st = st2) (kk : Sx l z d mc ms M pc lc2 st2 h Ph) : Sx l z d mc ms M pc lc st h Ph := by
  subst h1
  subst h2
  exact kk
theorem sw_out {x : Int32} {lo hi : Int} (h : ∀ k : Int, lo ≤ k → k ≤ hi → ¬ x = Int32.ofInt k) : x.toInt < lo ∨ hi < x.toInt := by
  by_cases h1 : x.toInt < lo
  · exact Or.inl h1
  · by_cases h2 : hi < x.toInt
    · exact Or.inr h2
    · exact absurd (Int32.ofInt_toInt x).symm (h x.toInt (by omega) (by omega))
/-! more -/
theorem x_i1 {w : Cond} (i : Nat) (h : tables_1_1[i]? = some w) (g : goodWord w = true) : w ∈ xTB := List.mem_filter.mpr ⟨List.mem_append_right _ (by unfold tables_1; have := List.mem_of_getElem? h; simp only [List.mem_append]; exact Or.inl this), g⟩
theorem x_i2 {w : Cond} (i : Nat) (h : tables_1_2[i]? = some w) (g : goodWord w = true) : w ∈ xTB := List.mem_filter.mpr ⟨List.mem_append_right _ (by unfold tables_1; have := List.mem_of_getElem? h; simp only [List.mem_append]; exact Or.inr (Or.inl this)), g⟩
theorem x_i3 {w : Cond} (i : Nat) (h : tables_1_3[i]? = some w) (g : goodWord w = true) : w ∈ xTB := List.mem_filter.mpr ⟨List.mem_append_right _ (by unfold tables_1; have := List.mem_of_getElem? h; simp only [List.mem_append]; exact Or.inr (Or.inr (Or.inl this))), g⟩
theorem x_i4 {w : Cond} (i : Nat) (h : tables_1_4[i]? = some w) (g : goodWord w = true) : w ∈ xTB := List.mem_filter.mpr ⟨List.mem_append_right _ (by unfold tables_1; have := List.mem_of_getElem? h; simp only [List.mem_append]; exact Or.inr (Or.inr (Or.inr (Or.inl this)))), g⟩
theorem x_i5 {w : Cond} (i : Nat) (h : tables_1_5[i]? = some w) (g : goodWord w = true) : w ∈ xTB := List.mem_filter.mpr ⟨List.mem_append_right _ (by unfold tables_1; have := List.mem_of_getElem? h; simp only [List.mem_append]; exact Or.inr (Or.inr (Or.inr (Or.inr (Or.inl this))))), g⟩
theorem x_i6 {w : Cond} (i : Nat) (h : tables_1_6[i]? = some w) (g : goodWord w = true) : w ∈ xTB := List.mem_filter.mpr ⟨List.mem_append_right _ (by unfold tables_1; have := List.mem_of_getElem? h; simp only [List.mem_append]; exact Or.inr (Or.inr (Or.inr (Or.inr (Or.inr (Or.inl this)))))), g⟩
theorem x_i7 {w : Cond} (i : Nat) (h : tables_1_7[i]? = some w) (g : goodWord w = true) : w ∈ xTB := List.mem_filter.mpr ⟨List.mem_append_right _ (by unfold tables_1; have := List.mem_of_getElem? h; simp only [List.mem_append]; exact Or.inr (Or.inr (Or.inr (Or.inr (Or.inr (Or.inr this)))))), g⟩
def hp {α : Type} (a : xH) (f : xH → Option α) : Option α := f a
theorem OK.h {α : Type} {a : xH} {f : xH → Option α} {P : α → Prop} (h : OK (hp a f) P) : ∃ b, b = a ∧ OK (f b) P := ⟨a, rfl, h⟩
def x_le : List (Option xV) → List (Option xV) → Prop
  | [], _ => True
  | none :: a, _ :: b => x_le a b
  | some v :: a, w :: b => w = some v ∧ x_le a b
  | _ :: _, [] => False
theorem x_le_at : ∀ (a b : List (Option xV)), x_le a b → ∀ (i : Nat) (v : xV), a[i]? = some (some v) → b[i]? = some (some v)
  | [], _, _, i, v, h => by cases h
  | none :: a, w :: b, h, i, v, hi => by
    cases i with
    | zero => cases hi
    | succ i => exact x_le_at a b h i v hi
  | some u :: a, w :: b, h, i, v, hi => by
    cases i with
    | zero => cases hi; exact congrArg some h.1
    | succ i => exact x_le_at a b h.2 i v hi
  | none :: _, [], h, _, _, _ => h.elim
  | some _ :: _, [], h, _, _, _ => h.elim
section XO
variable {l : Launch} {z : xZ} {d mc ms : Nat} {M : xM} {pc : Nat} {lc : List (Option xV)} {st : List xV} {h : xH} {Ph : Option xV → xH → Prop}
theorem sx_newN {ci idx N : Nat} {q : vw_C × (Nat → FieldType)} (hc : xcl[ci]? = some q) (hn : q.1.2.2 = N) (hcl : Cond.classLink M.1.cls idx q.1.1 ∈ xTB) (hins : Cond.instantiable q.1.1 q.1.2.2 ∈ xTB) (hini : Cond.initialized q.1.1 ∈ xTB) (hd : decode M.2.1 pc = .ok (.new idx, 3)) (hmc : 1 ≤ mc) (hms : N ≤ ms) (kk : Sx l z d (mc - 1) (ms - N) M (pc + 3) lc (xR (hN h) :: st) (hNw h ci 0) Ph) : Sx l z d mc ms M pc lc st h Ph := by
  subst hn
  exact sx_new hc hcl hins hini hd hmc hms kk
theorem x_rk {h : xH} {p ci : Nat} {C : String} {q : vw_C × (Nat → FieldType)} (hk : hK h p = ci) (hc : xcl[ci]? = some q) (hn : q.1.1 = C) : ∃ q, xcl[hK h p]? = some q ∧ q.1.1 = C := ⟨q, by rw [hk]; exact hc, hn⟩
theorem sx_mg {pc2 : Nat} {lc2 : List (Option xV)} {st2 : List xV} {h2 : xH} (k1 : Sx l z d mc ms M pc2 lc2 st2 h2 Ph) (k2 : Sx l z d mc ms M pc2 lc2 st2 h2 Ph → Sx l z d mc ms M pc lc st h Ph) : Sx l z d mc ms M pc lc st h Ph := k2 k1
theorem sx_hp {h1 h2 : xH} (e : h1 = h2) (kk : Sx l z d mc ms M pc lc st h1 Ph) : Sx l z d mc ms M pc lc st h2 Ph := e ▸ kk
theorem sx_eq0 {lc2 : List (Option xV)} {st2 : List xV} (h1 : lc = lc2) (h2 : st = st2) (kk : Sx l z d mc ms M pc lc2 st2 h Ph) : Sx l z d (mc - 0) (ms - 0) M pc lc st h Ph := by
  subst h1
  subst h2
  exact kk
theorem sx_less {lc2 : List (Option xV)} (hl : x_le lc2 lc) (kk : Sx l z d mc ms M pc lc2 st h Ph) : Sx l z d mc ms M pc lc st h Ph := by
  intro pp e R s m args below meth c D cA ka A Q n0 a0 mcT msT hC gR hE H locs cells slots al ls h1 h2 h3 h4 hB gL hv
  exact kk pp e R s m args below meth c D cA ka A Q n0 a0 mcT msT hC gR hE H locs cells slots al ls h1 h2 h3 h4 hB ⟨gL.1, gL.2.1, fun i v hi => gL.2.2 i v (x_le_at _ _ hl i v hi)⟩ hv
theorem sx_retV (hd : decode M.2.1 pc = .ok (.return_, 1)) (hr : M.2.2.2 = none) (hp : Ph none h) : Sx l z d mc ms M pc lc [] h Ph := sx_ret hd (by unfold x_rr; rw [hr]; exact ⟨rfl, rfl, rfl⟩) hp
theorem sx_retI {v : Int32} (hd : decode M.2.1 pc = .ok (.ireturn, 1)) (hr : M.2.2.2 = some .int) (hp : Ph (some (xI v)) h) : Sx l z d mc ms M pc lc [xI v] h Ph := sx_ret hd (by unfold x_rr; rw [hr]; exact ⟨rfl, v, v, rfl, rfl, rfl⟩) hp
theorem sx_retT {v v0 : Int32} {t : FieldType} (hd : decode M.2.1 pc = .ok (.ireturn, 1)) (hr : (M.2.2.2 = some .boolean ∧ t = .boolean) ∨ (M.2.2.2 = some .byte ∧ t = .byte) ∨ (M.2.2.2 = some .char ∧ t = .char)) (hn : narrow t (.int v0) = .int v) (hp : Ph (some (xI v)) h) : Sx l z d mc ms M pc lc [xI v0] h Ph := by
  refine sx_ret hd ?_ hp
  unfold x_rr
  rcases hr with ⟨hr, rfl⟩ | ⟨hr, rfl⟩ | ⟨hr, rfl⟩ <;> rw [hr] <;> exact ⟨rfl, v, v0, rfl, rfl, hn⟩
theorem sx_retJ {v : Int64} (hd : decode M.2.1 pc = .ok (.lreturn, 1)) (hr : M.2.2.2 = some .long) (hp : Ph (some (xJ v)) h) : Sx l z d mc ms M pc lc [xJ v] h Ph := sx_ret hd (by unfold x_rr; rw [hr]; exact ⟨rfl, v, rfl, rfl⟩) hp
theorem sx_retR {v : Nat ⊕ Nat} (hd : decode M.2.1 pc = .ok (.areturn, 1)) (hr : (∃ n, M.2.2.2 = some (.object n)) ∨ ∃ t, M.2.2.2 = some (.array t)) (hp : Ph (some (Sum.inr (Sum.inr v))) h) : Sx l z d mc ms M pc lc [Sum.inr (Sum.inr v)] h Ph := by
  refine sx_ret hd ?_ hp
  unfold x_rr
  rcases hr with ⟨n, hr⟩ | ⟨n, hr⟩ <;> rw [hr] <;> exact ⟨rfl, v, rfl, rfl⟩
/-! texts: their fields and bytes; two statics of the JDK -/
def x_bl (p : Nat) : Nat := if 16 ≤ p ∧ p < 30 then x_len.getD (p - 16) 0 else 0
def x_bb (p j : Nat) : Int32 := (x_byt.getD (p - 16) []).getD j 0
theorem sx_sval {i idx : Nat} (hi : i < 14) (hw : Cond.fieldLink M.1.cls idx "java/lang/String" "value" "[B" ∈ xTB) (hd : decode M.2.1 pc = .ok (.getfield idx, 3)) (kk : Sx l z d mc ms M (pc + 3) lc (xS (16 + i) :: st) h Ph) : Sx l z d mc ms M pc lc (xS i :: st) h Ph := by
  intro pp e R s m args below meth c D cA ka A Q n0 a0 mcT msT hC gR hE H locs cells slots al ls h1 h2 h3 h4 hB gL hv
  have kk9 := (kk pp e R s m args below meth c D cA ka A Q n0 a0 mcT msT hC gR hE H locs cells slots al ls h1 h2 h3 h4 hB gL (List.forall_mem_cons.mpr ⟨trivial, (fun v hm => hv v (List.mem_cons_of_mem _ hm))⟩))
  rw [List.map_cons, x_t_S (by omega)] at kk9 ⊢
  exact vk_getf hC.1 hC.2.1 ((hC.2.2.2.2.2.2.2.2.2.2.1).1 i hi).2.2.1 hB.2.2.1 hC.2.2.2.2.1 (hC.2.2.2.2.2.1 _ hw) (fun _ h9 => h9) hd kk9
theorem sx_scod {i idx : Nat} (hi : i < 14) (hw : Cond.fieldLink M.1.cls idx "java/lang/String" "coder" "B" ∈ xTB) (hd : decode M.2.1 pc = .ok (.getfield idx, 3)) (kk : Sx l z d mc ms M (pc + 3) lc (xI 0 :: st) h Ph) : Sx l z d mc ms M pc lc (xS i :: st) h Ph := by
  intro pp e R s m args below meth c D cA ka A Q n0 a0 mcT msT hC gR hE H locs cells slots al ls h1 h2 h3 h4 hB gL hv
  have kk9 := (kk pp e R s m args below meth c D cA ka A Q n0 a0 mcT msT hC gR hE H locs cells slots al ls h1 h2 h3 h4 hB gL (List.forall_mem_cons.mpr ⟨trivial, (fun v hm => hv v (List.mem_cons_of_mem _ hm))⟩))
  rw [List.map_cons, x_t_S (by omega)]
  exact vk_getf hC.1 hC.2.1 ((hC.2.2.2.2.2.2.2.2.2.2.1).1 i hi).2.1 hB.2.2.1 hC.2.2.2.2.1 (hC.2.2.2.2.2.1 _ hw) (fun _ h9 => h9) hd kk9
theorem sx_compact {idx : Nat} (hw : Cond.fieldLink M.1.cls idx "java/lang/String" "COMPACT_STRINGS" "Z" ∈ xTB) (hd : decode M.2.1 pc = .ok (.getstatic idx, 3)) (kk : Sx l z d mc ms M (pc + 3) lc (xI 1 :: st) h Ph) : Sx l z d mc ms M pc lc st h Ph := by
  intro pp e R s m args below meth c D cA ka A Q n0 a0 mcT msT hC gR hE H locs cells slots al ls h1 h2 h3 h4 hB gL hv
  obtain ⟨a1, a2, a3, a4, a5, a6, a7, a8, a9, a10⟩ := hC.2.2.2.2.2.2.2.2.2.2
  exact va_gets hC.1 hC.2.1 a3 hB.2.2.1 hC.2.2.2.2.1 (hC.2.2.2.2.2.1 _ hw) (fun _ h9 => h9) hd (kk pp e R s m args below meth c D cA ka A Q n0 a0 mcT msT hC gR hE H locs cells slots al ls h1 h2 h3 h4 hB gL (List.forall_mem_cons.mpr ⟨trivial, hv⟩))
theorem sx_sioobe {idx : Nat} (hw : Cond.fieldLink M.1.cls idx "jdk/internal/util/Preconditions" "SIOOBE_FORMATTER" "Ljava/util/function/BiFunction;" ∈ xTB) (hd : decode M.2.1 pc = .ok (.getstatic idx, 3)) (kk : Sx l z d mc ms M (pc + 3) lc (xS 31 :: st) h Ph) : Sx l z d mc ms M pc lc st h Ph := by
  intro pp e R s m args below meth c D cA ka A Q n0 a0 mcT msT hC gR hE H locs cells slots al ls h1 h2 h3 h4 hB gL hv
  obtain ⟨a1, a2, a3, a4, a5, a6, a7, a8, a9, a10⟩ := hC.2.2.2.2.2.2.2.2.2.2
  have kk9 := (kk pp e R s m args below meth c D cA ka A Q n0 a0 mcT msT hC gR hE H locs cells slots al ls h1 h2 h3 h4 hB gL (List.forall_mem_cons.mpr ⟨trivial, hv⟩))
  rw [List.map_cons, show x_t al ka (xS 31) = va_rf ka.2 by show (if (31 : Nat) = 31 then va_rf ka.2 else .ref (ka.1 31)) = _; rw [if_pos rfl]] at kk9
  exact va_gets hC.1 hC.2.1 a4 hB.2.2.1 hC.2.2.2.2.1 (hC.2.2.2.2.2.1 _ hw) (fun _ h9 => h9) hd kk9
theorem x_bT {ka : xK} {A : Nat → Prop} {s : State} {p : Nat} (hp : 16 ≤ p ∧ p < 30) (hS : x_Str ka z A s) : va_T .byte (ka.1 p) (x_bl p) (fun j => .int (x_bb p j)) A s s.heap := by
  have h1 : va_T .byte (ka.1 (16 + (p - 16))) (x_len.getD (p - 16) 0) (fun j => .int (x_bb p j)) A s s.heap := (hS.1.1 (p - 16) (by omega)).2.2.2
  have e : x_bl p = x_len.getD (p - 16) 0 := if_pos hp
  rw [e]
  rw [show 16 + (p - 16) = p by omega] at h1
  exact h1
theorem sx_bblen {p : Nat} (hp : 16 ≤ p ∧ p < 30) (hd : decode M.2.1 pc = .ok (.arraylength, 1)) (kk : Sx l z d mc ms M (pc + 1) lc (xI (Int32.ofNat (x_bl p)) :: st) h Ph) : Sx l z d mc ms M pc lc (xS p :: st) h Ph := by
  intro pp e R s m args below meth c D cA ka A Q n0 a0 mcT msT hC gR hE H locs cells slots al ls h1 h2 h3 h4 hB gL hv
  obtain ⟨cell, b1, b2, b3, b4, b5, b6, b7⟩ := (x_bT hp hC.2.2.2.2.2.2.2.2.2.2).kept hB.2.2.1.2.1
  rw [List.map_cons, x_t_S (by omega)]
  exact W.alen hC.1 hC.2.1 b1 b2 b5 rfl rfl hd (kk pp e R s m args below meth c D cA ka A Q n0 a0 mcT msT hC gR hE H locs cells slots al ls h1 h2 h3 h4 hB gL (List.forall_mem_cons.mpr ⟨trivial, (fun v hm => hv v (List.mem_cons_of_mem _ hm))⟩))
theorem sx_bbld {p : Nat} {i : Int32} (hi : ¬ (i < 0 ∨ x_bl p ≤ i.toNatClampNeg)) (hd : decode M.2.1 pc = .ok (.baload, 1)) (kk : Sx l z d mc ms M (pc + 1) lc (xI (x_bb p i.toNatClampNeg) :: st) h Ph) : Sx l z d mc ms M pc lc (xI i :: xS p :: st) h Ph := by
  intro pp e R s m args below meth c D cA ka A Q n0 a0 mcT msT hC gR hE H locs cells slots al ls h1 h2 h3 h4 hB gL hv
  have hp : 16 ≤ p ∧ p < 30 := by
    by_cases q : 16 ≤ p ∧ p < 30
    · exact q
    · exact absurd (Or.inr (by unfold x_bl; rw [if_neg q]; exact Nat.zero_le _)) hi
  obtain ⟨cell, b1, b2, b3, b4, b5, b6, b7⟩ := (x_bT hp hC.2.2.2.2.2.2.2.2.2.2).kept hB.2.2.1.2.1
  have hlt : i.toNatClampNeg < x_bl p := Nat.not_le.mp fun q => hi (Or.inr q)
  rw [List.map_cons, List.map_cons, x_t_S (by omega)]
  exact W.bald (v := .int (x_bb p i.toNatClampNeg)) hC.1 hC.2.1 b1 b2 b3 (fun q => q.elim (fun q => hi (Or.inl q)) (fun q => by omega)) (b6 _ hlt) rfl rfl hd (kk pp e R s m args below meth c D cA ka A Q n0 a0 mcT msT hC gR hE H locs cells slots al ls h1 h2 h3 h4 hB gL (List.forall_mem_cons.mpr ⟨trivial, (fun v hm => hv v (List.mem_cons_of_mem _ (List.mem_cons_of_mem _ hm)))⟩))
def jMax (x y : Int32) : Int32 := if x < y then y else x
def jMin (x y : Int32) : Int32 := if y < x then y else x
theorem sx_max {x y : Int32} {idx : Nat} (hl : Cond.methodLink M.1.cls idx Lib.Math.max.name ∈ xTB) (w2 : Cond.static Lib.Math.max.name ∈ xTB) (w3 : Cond.initialized "java/lang/Math" ∈ xTB) (w4 : Cond.code Lib.Math.max.name Lib.Math.max.code 2 (some .int) ∈ xTB) (hct : (st.map x_ct).sum ≤ 8) (hd1 : 1 ≤ d) (hd : decode M.2.1 pc = .ok (.invokestatic idx, 3)) (kk : Sx l z d mc ms M (pc + 3) lc (xI (jMax x y) :: st) h Ph) : Sx l z d mc ms M pc lc (xI y :: xI x :: st) h Ph := by
  intro pp e R s m args below meth c D cA ka A Q n0 a0 mcT msT hC gR hE H locs cells slots al ls h1 h2 h3 h4 hB gL hv
  have hts := hC.2.2.2.2.2.1
  exact va_mmax hC.1 hC.2.1 (hC.2.2.1.trans gL.1.symm) hC.2.2.2.2.1 (hts _ hl) (hts _ w2) (hts _ w3) (hts _ w4) (by omega) (by rw [x_ct_t]; omega) (by omega) (by omega) hd (kk pp e R s m args below meth c D cA ka A Q n0 a0 mcT msT hC gR hE H locs cells slots al ls h1 h2 h3 h4 hB gL (List.forall_mem_cons.mpr ⟨trivial, (fun v hm => hv v (List.mem_cons_of_mem _ (List.mem_cons_of_mem _ hm)))⟩))
theorem sx_min {x y : Int32} {idx : Nat} (hl : Cond.methodLink M.1.cls idx Lib.Math.min.name ∈ xTB) (w2 : Cond.static Lib.Math.min.name ∈ xTB) (w3 : Cond.initialized "java/lang/Math" ∈ xTB) (w4 : Cond.code Lib.Math.min.name Lib.Math.min.code 2 (some .int) ∈ xTB) (hct : (st.map x_ct).sum ≤ 8) (hd1 : 1 ≤ d) (hd : decode M.2.1 pc = .ok (.invokestatic idx, 3)) (kk : Sx l z d mc ms M (pc + 3) lc (xI (jMin x y) :: st) h Ph) : Sx l z d mc ms M pc lc (xI y :: xI x :: st) h Ph := by
  intro pp e R s m args below meth c D cA ka A Q n0 a0 mcT msT hC gR hE H locs cells slots al ls h1 h2 h3 h4 hB gL hv
  have hts := hC.2.2.2.2.2.1
  exact va_mmin hC.1 hC.2.1 (hC.2.2.1.trans gL.1.symm) hC.2.2.2.2.1 (hts _ hl) (hts _ w2) (hts _ w3) (hts _ w4) (by omega) (by rw [x_ct_t]; omega) (by omega) (by omega) hd (kk pp e R s m args below meth c D cA ka A Q n0 a0 mcT msT hC gR hE H locs cells slots al ls h1 h2 h3 h4 hB gL (List.forall_mem_cons.mpr ⟨trivial, (fun v hm => hv v (List.mem_cons_of_mem _ (List.mem_cons_of_mem _ hm)))⟩))
end XO

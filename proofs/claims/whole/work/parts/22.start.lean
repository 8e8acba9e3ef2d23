/-! THE CLAIM OUT OF ONE WALK OF THE LAW'S BODY. Your part is whole_start (and what it stands on); all else here is the same for every law, but numbers. -/
def R_law : String := "ThreesAtTableLaw"
def lw_P (b : Addr) (xs : List Int32) (args : Array Value) (s : State) : Prop := args = #[.ref b] ∧ s.IntsAt b xs ∧ xs.length ≤ 3072 ∧ (Jvm.Cond.and given_1 narrow_1).before args s = true
def lw_Q (_ : Array Value) (s : State) (o : Outcome) (t : State) : Prop := o = .returned (some (.int 1)) ∧ Framed s o t [] 600000 7302249
def lw_Z (below : List Frame) (a : Array Value) (s : State) : State → Prop := fun t => ∃ o, t.status = .running ∧ Ended t below o ∧ lw_Q a s o t
/-- the law's own end, with 1 on the stack, nothing written that was there before, its room as the claim has it -/
theorem lw_ret {p : Program} {l : Launch} {e : Env} {s : State} {m : MethodId} {below : List Frame} {meth : Method} {c : Code} {b : Nat} (hx : p.tables.exec = Jvm.exec) (hb : c.code = code) (hr : meth.sig.returnType = ret) (hlocks : meth.locks = false) {pc : Nat} {H : Heap} {ls : Array Slot} (hdg : decode code pc = .ok (.ireturn, 1)) : W p l e room_1 s m #[Value.ref b] below meth c H [] 600000 7302249 (lw_Z below #[Value.ref b] s) (F0 m pc ls [.int 1]) := by
  intro T hT X
  obtain ⟨fs, hret, hrun, hended, hW, hframe⟩ := X.leave (v := some (.int 1)) (hlocks := hlocks) (fun h => by rw [hr] at h; cases h)
  have hmeth' : T.vm.method? m = some meth := X.method'
  refine ⟨T.setFrames fs, ?_, .returned (some (.int 1)), hrun, hended, rfl, ⟨_, rfl⟩, hW, hframe⟩
  jvm_step X.here [X.here.top, hx, hb, hdg, hmeth', hr, ret, narrow_b1]
  (try refine ⟨rfl, ?_⟩); (try refine ⟨rfl, ?_⟩)
  first | (intro acts; rw [hret _ acts rfl rfl rfl]) | rw [hret _ _ rfl rfl rfl]
  exact Steps.refl _
/-- what holds at the law's entry: the machine, the code, the tables' words (any of lw_tbl by 'hts w (by decide +kernel)'), the script of L ints xs at the cell b, what the Statement gives of the start (any of its parts by flat_of_before) -/
def lw_At (p : Program) (s : State) (m : MethodId) (meth : Method) (c : Code) (b L : Nat) (xs : Nat → Int32) : Prop :=
  p.tables.exec = Jvm.exec ∧ c.code = code ∧ meth.sig.returnType = ret ∧ c.maxLocals = 4 ∧ s.vm.findClass R_law = some m.cls ∧ (∀ w ∈ lw_tbl, w.before #[Value.ref b] s = true) ∧ va_X b L xs s s.heap ∧ b < s.heap.size ∧ meth.locks = false ∧ (Jvm.Cond.and given_1 narrow_1).before #[Value.ref b] s = true

/-! YOUR PART: what holds at the start, in the pure machine's words -/
def x_h0 : xH := (1, (fun _ => 99), (fun _ => 0), (fun _ _ => 0), fun _ _ => 0)
theorem x_h0_ok : x_ok x_h0 := ⟨Nat.le_refl _, fun _ _ => Nat.zero_lt_one, fun _ _ => rfl⟩
def x_tm (i : Nat) : Term := .string (x_sl.getD i ("", 0, "")).1 (x_sl.getD i ("", 0, "")).2.1
def x_fl : List Cond := flatC (Jvm.Cond.and given_1 narrow_1)
set_option maxRecDepth 100000 in
theorem x_m1 : ∀ i, i < 14 → Cond.exactly (x_tm i) "java/lang/String" ∈ x_fl := by decide +kernel
set_option maxRecDepth 100000 in
theorem x_m2 : ∀ i, i < 14 → Cond.eq (.field (x_tm i) "java/lang/String" "coder" "B") (.int 0) ∈ x_fl := by decide +kernel
set_option maxRecDepth 100000 in
theorem x_m3 : ∀ i, i < 14 → Cond.arrayOf (.field (x_tm i) "java/lang/String" "value" "[B") .byte ∈ x_fl := by decide +kernel
set_option maxRecDepth 100000 in
theorem x_m4 : ∀ i, i < 14 → Cond.eq (.length (.field (x_tm i) "java/lang/String" "value" "[B")) (.int (Int32.ofNat (x_len.getD i 0))) ∈ x_fl := by decide +kernel
set_option maxRecDepth 100000 in
theorem x_m5 : ∀ i, i < 14 → ∀ j, j < x_len.getD i 0 → Cond.eq (.elem (.field (x_tm i) "java/lang/String" "value" "[B") (.int (Int32.ofNat j))) (.int ((x_byt.getD i []).getD j 0)) ∈ x_fl := by decide +kernel
set_option maxRecDepth 100000 in
theorem x_m6 : ∀ i, i < 14 → ∀ j, j < i → Cond.not (Cond.eq (x_tm j) (x_tm i)) ∈ x_fl := by decide +kernel
set_option maxRecDepth 100000 in
theorem x_m7 : ∀ j, j < 6 → Cond.eq (.elem (.static "ThreesAtTable$Town" "ABOVE" "[I") (.int (Int32.ofNat j))) (.int (x_ab j)) ∈ x_fl := by decide +kernel
theorem x_m8 : ∀ i, i < 14 → x_len.getD i 0 < 2 ^ 31 := by decide +kernel
theorem x_lw {w : Cond} {i : Nat} (h : tables_1[i]? = some w) : w ∈ lw_tbl := List.mem_append_right _ (List.mem_of_getElem? h)
theorem x_sr : ∀ (i : Nat) (q : String × Nat × String), x_sl[i]? = some q → Cond.stringRef q.1 q.2.1 q.2.2 ∈ lw_tbl := by
  intro i q hq
  have hi : i < 14 := (List.getElem?_eq_some_iff.mp hq).1
  match i, hq, hi with
  | 0, hq, _ => cases hq; exact x_lw (i := 260) (by decide +kernel)
  | 1, hq, _ => cases hq; exact x_lw (i := 331) (by decide +kernel)
  | 2, hq, _ => cases hq; exact x_lw (i := 332) (by decide +kernel)
  | 3, hq, _ => cases hq; exact x_lw (i := 333) (by decide +kernel)
  | 4, hq, _ => cases hq; exact x_lw (i := 334) (by decide +kernel)
  | 5, hq, _ => cases hq; exact x_lw (i := 335) (by decide +kernel)
  | 6, hq, _ => cases hq; exact x_lw (i := 336) (by decide +kernel)
  | 7, hq, _ => cases hq; exact x_lw (i := 337) (by decide +kernel)
  | 8, hq, _ => cases hq; exact x_lw (i := 338) (by decide +kernel)
  | 9, hq, _ => cases hq; exact x_lw (i := 339) (by decide +kernel)
  | 10, hq, _ => cases hq; exact x_lw (i := 340) (by decide +kernel)
  | 11, hq, _ => cases hq; exact x_lw (i := 341) (by decide +kernel)
  | 12, hq, _ => cases hq; exact x_lw (i := 342) (by decide +kernel)
  | 13, hq, _ => cases hq; exact x_lw (i := 343) (by decide +kernel)
  | k + 14, _, hi => omega
theorem x_objs {s : State} {args : Array Value} (hts : ∀ w ∈ xTB, w.before args s = true) (k : Nat) : ∃ (cC : ClassId) (iS : Nat → Nat), ∀ q, xC[k]? = some q → u_Kn s q.1 q.2.1 q.2.2 cC iS := by
  match k with
  | 0 =>
    obtain ⟨cC, iS, h⟩ := u_known (C := xR_Ch) (T := xT_Ch) (N := 6) (n := 6) hts xl_Ch (hts _ wI_Ch)
    exact ⟨cC, iS, fun q hq => by cases hq; exact h⟩
  | 1 =>
    obtain ⟨cC, iS, h⟩ := u_known (C := xR_Re) (T := xT_Re) (N := 9) (n := 9) hts xl_Re (hts _ wI_Re)
    exact ⟨cC, iS, fun q hq => by cases hq; exact h⟩
  | 2 =>
    obtain ⟨cC, iS, h⟩ := u_known (C := xR_Ru) (T := xT_Ru) (N := 6) (n := 6) hts xl_Ru (hts _ wI_Ru)
    exact ⟨cC, iS, fun q hq => by cases hq; exact h⟩
  | 3 =>
    obtain ⟨cC, iS, h⟩ := u_known (C := xR_Se) (T := xT_Se) (N := 4) (n := 4) hts xl_Se (hts _ wI_Se)
    exact ⟨cC, iS, fun q hq => by cases hq; exact h⟩
  | 4 =>
    obtain ⟨cC, iS, h⟩ := u_known (C := xR_Sh) (T := xT_Sh) (N := 3) (n := 3) hts xl_Sh (hts _ wI_Sh)
    exact ⟨cC, iS, fun q hq => by cases hq; exact h⟩
  | 5 =>
    obtain ⟨cC, iS, h⟩ := u_known (C := xR_St) (T := xT_St) (N := 4) (n := 4) hts xl_St (hts _ wI_St)
    exact ⟨cC, iS, fun q hq => by cases hq; exact h⟩
  | 6 =>
    obtain ⟨cC, iS, h⟩ := u_known (C := xR_Ta) (T := xT_Ta) (N := 4) (n := 4) hts xl_Ta (hts _ wI_Ta)
    exact ⟨cC, iS, fun q hq => by cases hq; exact h⟩
  | 7 =>
    obtain ⟨cC, iS, h⟩ := u_known (C := xR_Te) (T := xT_Te) (N := 2) (n := 2) hts xl_Te (hts _ wI_Te)
    exact ⟨cC, iS, fun q hq => by cases hq; exact h⟩
  | 8 =>
    obtain ⟨cC, iS, h⟩ := u_known (C := xR_To) (T := xT_To) (N := 2) (n := 2) hts xl_To (hts _ wI_To)
    exact ⟨cC, iS, fun q hq => by cases hq; exact h⟩
  | 9 =>
    obtain ⟨cC, iS, h⟩ := u_known (C := xR_Wa) (T := xT_Wa) (N := 6) (n := 6) hts xl_Wa (hts _ wI_Wa)
    exact ⟨cC, iS, fun q hq => by cases hq; exact h⟩
  | 10 =>
    obtain ⟨cC, iS, h⟩ := u_known (C := xR_Ma) (T := xT_Ma) (N := 15) (n := 15) hts xl_Ma (hts _ wI_Ma)
    exact ⟨cC, iS, fun q hq => by cases hq; exact h⟩
  | 11 =>
    obtain ⟨cC, iS, h⟩ := u_known (C := xR_Mo) (T := xT_Mo) (N := 45) (n := 45) hts xl_Mo (hts _ wI_Mo)
    exact ⟨cC, iS, fun q hq => by cases hq; exact h⟩
  | k + 12 => exact ⟨0, fun _ => 0, fun q hq => by simp [xC, xcl] at hq⟩
theorem x_arr {s : State} {args : Array Value} {t : FieldType} (h : (Cond.arrayClass t).before args s = true) (ht : t = .int ∨ t = .boolean) : ∃ cA : ClassId, ArrOfT s cA t ∧ va_RA s cA t := by
  obtain ⟨c, k, comp, h1, h2, h3⟩ := Cond.arrayClass_spec h
  refine ⟨c, fun n z => ⟨fun k h => (by cases h), k, h2, comp, h3⟩, ?_⟩
  rcases ht with rfl | rfl <;> exact h1
theorem x_arrO {s : State} {args : Array Value} {C : String} (h : (Cond.arrayOver (.object C)).before args s = true) : ∃ cA : ClassId, ArrOfT s cA (.object C) ∧ va_RA s cA (.object C) := by
  obtain ⟨comp, c, k, h1, h2, h3, h4, h5⟩ := Cond.arrayOver_spec h
  exact ⟨c, fun n z => ⟨fun k h => (by cases h), k, h3, comp, h4⟩, k, comp, h3, h4, h1, h5⟩
theorem x_K {s : State} {args : Array Value} (hts : ∀ w ∈ lw_tbl, w.before args s = true) : ∃ (D : va_G) (cA : Nat → ClassId), va_K D xC (x_tys cA) s := by
  have htb : ∀ w ∈ xTB, w.before args s = true := fun w hw => hts w (List.mem_filter.mp hw).1
  have hall := x_objs htb
  obtain ⟨c12, i1⟩ := x_arr (htb _ wA_int) (Or.inl rfl)
  obtain ⟨c13, i2⟩ := x_arr (htb _ wA_boolean) (Or.inr rfl)
  obtain ⟨c14, i3⟩ := x_arrO (hts (.arrayOver (.object "ThreesAtTable$Text")) (x_lw (i := 233) (by decide +kernel)))
  obtain ⟨c15, i4⟩ := x_arrO (hts (.arrayOver (.object "ThreesAtTable$Town")) (x_lw (i := 235) (by decide +kernel)))
  obtain ⟨c16, i5⟩ := x_arrO (hts (.arrayOver (.object "ThreesAtTable$Sheet")) (x_lw (i := 237) (by decide +kernel)))
  refine ⟨(fun k => Classical.choose (hall k), fun k => Classical.choose (Classical.choose_spec (hall k))), fun k => if k = 12 then c12 else if k = 13 then c13 else if k = 14 then c14 else if k = 15 then c15 else c16, fun k q hq => Classical.choose_spec (Classical.choose_spec (hall k)) q hq, fun k q hq => ?_⟩
  match k, hq with
  | 0, hq => cases hq; exact i1
  | 1, hq => cases hq; exact i2
  | 2, hq => cases hq; exact i3
  | 3, hq => cases hq; exact i4
  | 4, hq => cases hq; exact i5
  | k + 5, hq => simp [x_tys] at hq
theorem x_S {s : State} {b L : Nat} {xs : Nat → Int32} (hts : ∀ w ∈ lw_tbl, w.before #[Value.ref b] s = true) (hX : va_X b L xs s s.heap) (hbl : b < s.heap.size) (hgv : (Jvm.Cond.and given_1 narrow_1).before #[Value.ref b] s = true) : ∃ ka : xK, ka.1 14 = b ∧ x_Str ka (L, xs) (fun q => s.heap.size ≤ q) s := by
  have hs := flat_of_before _ hgv
  have htb : ∀ w ∈ xTB, w.before #[Value.ref b] s = true := fun w hw => hts w (List.mem_filter.mp hw).1
  have hA : ∀ a : Nat, a < s.heap.size → ¬ (fun q : Nat => s.heap.size ≤ q) a := fun a h => Nat.not_le.mpr h
  obtain ⟨adK, adV, hS, hE⟩ := vk_Sof (N := 14) (tm := x_tm) (len := x_len) (byt := x_byt) (A := fun q : Nat => s.heap.size ≤ q) x_m8 (fun i hi => hs _ (x_m1 i hi)) (fun i hi => hs _ (x_m2 i hi)) (fun i hi => hs _ (x_m3 i hi)) (fun i hi => hs _ (x_m4 i hi)) (fun i hi j hj => hs _ (x_m5 i hi j hj))
    (fun i j hi hj hne => by
      rcases Nat.lt_or_gt_of_ne hne with q | q
      · exact Or.inl (hs _ (x_m6 j hj i q))
      · exact Or.inr (hs _ (x_m6 i hi j q))) hA
  obtain ⟨vF, hvF, hvR⟩ := Cond.isRef_spec (hs (.isRef (.static "jdk/internal/util/Preconditions" "SIOOBE_FORMATTER" "Ljava/util/function/BiFunction;")) (by decide +kernel))
  obtain ⟨oF, hoF⟩ : ∃ oF : Option Nat, vF = va_rf oF := by
    cases vF <;> first | (cases hvR; done) | exact ⟨none, rfl⟩ | exact ⟨some _, rfl⟩
  obtain ⟨tb, htb2, hT⟩ := va_Tof (ty := .int) (N := 6) (f := fun j => .int (x_ab j)) (A := fun q : Nat => s.heap.size ≤ q) (tm := .static "ThreesAtTable$Town" "ABOVE" "[I") (by decide) (hs _ (by decide +kernel)) (va_eqt (hs (.eq (.length (.static "ThreesAtTable$Town" "ABOVE" "[I")) (.int 6)) (by decide +kernel))) (fun j hj => va_eqt (hs _ (x_m7 j hj))) hA
  refine ⟨((fun i => if i < 14 then adK i else if i = 14 then b else if i = 15 then tb else adV (i - 16)), oF), rfl, ?_⟩
  have e1 : ∀ i, i < 14 → (if i < 14 then adK i else if i = 14 then b else if i = 15 then tb else adV (i - 16)) = adK i := fun i hi => if_pos hi
  have e2 : ∀ i, i < 14 → (if 16 + i < 14 then adK (16 + i) else if 16 + i = 14 then b else if 16 + i = 15 then tb else adV (16 + i - 16)) = adV i := fun i hi => by
    rw [if_neg (by omega), if_neg (by omega), if_neg (by omega), show 16 + i - 16 = i by omega]
  refine ⟨⟨fun i hi => ?_, fun i j hi hj he => ?_⟩, fun i q hq => ?_, va_Zof (hts _ (x_lw (i := 270) (by decide +kernel))) (hts _ (x_lw (i := 12) (by decide +kernel))) (va_eqt (hs _ (by decide +kernel))) hA, va_Zof (hts _ (x_lw (i := 286) (by decide +kernel))) (hts _ (x_lw (i := 14) (by decide +kernel))) (by rw [← hoF]; exact hvF) hA, va_Zof (hts _ (x_lw (i := 976) (by decide +kernel))) (hts _ (x_lw (i := 20) (by decide +kernel))) htb2 hA, hT, hX, hbl, hA b hbl, fun C hC => ?_, va_tabs rfl rfl (hts _ (x_lw (i := 418) (by decide +kernel))), fun q hq => ?_⟩
  · show va_O _ (if i < 14 then adK i else _) _ _ _ ∧ va_OF _ _ _ _ (if i < 14 then adK i else _) _ _ _ ∧ va_OF _ _ _ (.ref (if 16 + i < 14 then adK (16 + i) else _)) (if i < 14 then adK i else _) _ _ _ ∧ va_T _ (if 16 + i < 14 then adK (16 + i) else _) _ _ _ _ _
    rw [e1 i hi, e2 i hi]
    exact hS.1 i hi
  · refine hS.2 i j hi hj ?_
    have he2 : (if i < 14 then adK i else if i = 14 then b else if i = 15 then tb else adV (i - 16)) = (if j < 14 then adK j else if j = 14 then b else if j = 15 then tb else adV (j - 16)) := he
    rwa [e1 i hi, e1 j hj] at he2
  · have hi : i < 14 := (List.getElem?_eq_some_iff.mp hq).1
    have hev := hE i hi
    have et : x_tm i = .string q.1 q.2.1 := by
      unfold x_tm
      rw [List.getD_eq_getElem?_getD, hq]
      rfl
    rw [et] at hev
    show vk_R q.1 q.2.1 q.2.2 (if i < 14 then adK i else _) s
    rw [e1 i hi]
    exact vk_R.of (hts _ (x_sr i q hq)) hev
  · have h3 : C = "ThreesAtTable$Text" ∨ C = "ThreesAtTable$Town" ∨ C = "ThreesAtTable$Sheet" := by simpa [x_ao] using hC
    rcases h3 with rfl | rfl | rfl
    · exact va_AO.of (hts _ (x_lw (i := 233) (by decide +kernel)))
    · exact va_AO.of (hts _ (x_lw (i := 235) (by decide +kernel)))
    · exact va_AO.of (hts _ (x_lw (i := 237) (by decide +kernel)))
  · have h3 : q = ("ThreesAtTable", 59, ⟨"ThreesAtTable$Reader", "<init>", "()V"⟩, "ThreesAtTable") ∨ q = ("ThreesAtTable", 82, ⟨"ThreesAtTable$Sheet", "<init>", "()V"⟩, "ThreesAtTable") := by simpa [x_nest] using hq
    rcases h3 with rfl | rfl
    · exact va_tabs rfl rfl (hts _ (x_lw (i := 200) (by decide +kernel)))
    · exact va_tabs rfl rfl (hts _ (x_lw (i := 239) (by decide +kernel)))
/-- the law's own end -/
theorem x_lwret {p : Program} {l : Launch} {e : Env} {s : State} {m : MethodId} {below : List Frame} {meth : Method} {c : Code} {b : Nat} {v0 : Int32} (hx : p.tables.exec = Jvm.exec) (hb : c.code = code) (hr : meth.sig.returnType = some .boolean) (hlocks : meth.locks = false) (hn : narrow .boolean (.int v0) = .int 1) {pc : Nat} {H : Heap} {ls : Array Slot} (hdg : decode code pc = .ok (.ireturn, 1)) : W p l e room_1 s m #[Value.ref b] below meth c H [] 600000 7302249 (lw_Z below #[Value.ref b] s) (F0 m pc ls [.int v0]) := by
  intro T hT X
  obtain ⟨fs, hret, hrun, hended, hW, hframe⟩ := X.leave (v := some (.int 1)) (hlocks := hlocks) (fun h => by rw [hr] at h; cases h)
  have hmeth' : T.vm.method? m = some meth := X.method'
  refine ⟨T.setFrames fs, ?_, .returned (some (.int 1)), hrun, hended, rfl, ⟨_, rfl⟩, hW, hframe⟩
  jvm_step X.here [X.here.top, hx, hb, hdg, hmeth', hr, hn]
  (try refine ⟨rfl, ?_⟩); (try refine ⟨rfl, ?_⟩)
  first | (intro acts; rw [hret _ acts rfl rfl rfl]) | rw [hret _ _ rfl rfl rfl]
  exact Steps.refl _
theorem x_begin {p : Program} {e : Env} {s : State} {m : MethodId} {below : List Frame} {meth : Method} {c : Code} (l : Launch) {b L : Nat} {xs : Nat → Int32} (C0 : lw_At p s m meth c b L xs) (hf : OK (f_La_law (L, xs) x_h0) (fun q => q.1 = 1)) : W p l e room_1 s m #[Value.ref b] below meth c s.heap [] 0 0 (lw_Z below #[Value.ref b] s) (entryFrame m ([Value.ref b] : List Value).toArray 4) := by
  obtain ⟨hx, hb, hr, hml, hown, hts, hX, hbl, hlocks, hgv⟩ := id C0
  obtain ⟨D, cA, hKs⟩ := x_K hts
  obtain ⟨ka, hka, hStr⟩ := x_S hts hX hbl hgv
  have hC : x_C M_La_law (L, xs) p s m #[Value.ref b] meth c D cA ka (fun q => s.heap.size ≤ q) := ⟨hx, hb, hml, hr, hown, fun w hw => hts w (List.mem_filter.mp hw).1, hKs, hlocks, fun h => absurd h (by decide), fun _ h => h, hStr⟩
  have hB : x_B D cA (fun _ => 0) (fun q => s.heap.size ≤ q) s x_h0 s.heap [] := ⟨fun k q h => absurd h (by simp [x_w, x_h0, hN]), ⟨fun i j p q h => absurd h (by simp [x_w, x_h0, hN]), fun k q h => absurd h (by simp [x_w, x_h0, hN])⟩, va_S.rf, x_h0_ok⟩
  have hSx : Sx l (L, xs) 2000 600000 7302249 M_La_law 0 (x_en [xS 14] 4) [] x_h0 (fun r _ => r = some (xI 1)) := t_La_law (by decide) (by decide) (by decide) (by
    obtain ⟨q, h1, h2⟩ := hf
    exact ⟨q, h1, show some (xI q.1) = some (xI 1) by rw [h2]⟩)
  have hL9 := x_en_L (al := fun _ => 0) (ka := ka) (as := [xS 14]) (np := hN x_h0) (n := 4) (by decide) (fun v hv => by rw [List.mem_singleton.mp hv]; trivial)
  rw [show [xS 14].map (x_t (fun _ => 0) ka) = ([Value.ref b] : List Value) by rw [List.map_cons, x_t_S (by decide), hka]; rfl] at hL9
  rw [lg_entry_eq]
  refine hSx p e room_1 s m #[Value.ref b] below meth c D cA ka (fun q => s.heap.size ≤ q) _ 0 (fun _ => 0) 600000 7302249 hC (by decide) ?_ s.heap [] 0 0 (fun _ => 0) _ (by decide) (by decide) (fun _ h => absurd h (Nat.not_lt_zero _)) (Nat.zero_le _) hB hL9 (fun v hv => absurd hv List.not_mem_nil)
  intro H locs cells slots al2 ls h2 pc i st r q1 q2 q3 q4 qB qv qp qd qr
  refine va_forget (fun q hq => qB.2.2.1.2.2 q hq) (W.widen q1 q2 ?_)
  obtain ⟨rfl, v, v0, rfl, q6, q7⟩ : i = .ireturn ∧ ∃ v v0, st = [xI v0] ∧ r = some (xI v) ∧ narrow .boolean (.int v0) = .int v := qr
  rw [q6] at qp
  have e1 : v = 1 := by
    have := Option.some.inj qp
    exact Sum.inl.inj this
  rw [e1] at q7
  exact x_lwret hx hb hr hlocks q7 qd

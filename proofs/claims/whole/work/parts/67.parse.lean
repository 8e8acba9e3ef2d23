/-! what a reading writes -/
abbrev Rs : Type := Bool × Nat × List Int32
def chn (t nf : Nat → Nat) (op : Nat → Option Int32) (sub : Nat → Rs) : Nat → Nat → List Int32 → Rs
  | 0, p, a => (false, p, a)
  | n + 1, p, a => match op (t p) with
    | none => (true, p, a)
    | some c => if (sub (nf p)).1 = true then chn t nf op sub n (sub (nf p)).2.1 (a ++ (sub (nf p)).2.2 ++ [c]) else sub (nf p)
def sqn (t nf : Nat → Nat) (op : Nat → Option Int32) (sub : Nat → Rs) (p : Nat) : Rs := if (sub p).1 = true then chn t nf op sub 161 (sub p).2.1 (sub p).2.2 else sub p
def opO (t : Nat) : Option Int32 := if t = 265 then some (-6) else none
def opA (t : Nat) : Option Int32 := if t = 266 then some (-7) else none
def opS (t : Nat) : Option Int32 := if t = 43 then some (-1) else if t = 45 then some (-2) else none
def opM (t : Nat) : Option Int32 := if t = 42 then some (-3) else none
def pPl (t nf vf : Nat → Nat) (R : Nat → Nat → Rs) (d p : Nat) : Rs := if t p = 1 then (true, nf p, [nI (vf p)]) else if 256 ≤ t p ∧ t p < 262 then (true, nf p, [nI (10000 + (t p - 256))]) else if t p = 40 ∧ 0 < d then (if (R (d - 1) (nf p)).1 = true then (if t (R (d - 1) (nf p)).2.1 = 41 then (true, nf (R (d - 1) (nf p)).2.1, (R (d - 1) (nf p)).2.2) else (false, (R (d - 1) (nf p)).2.1, [])) else R (d - 1) (nf p)) else (false, p, [])
def pOn (t nf vf : Nat → Nat) (R : Nat → Nat → Rs) : Nat → Nat → Rs
  | 0, p => pPl t nf vf R 0 p
  | d + 1, p => if t p = 45 then (if (pOn t nf vf R d (nf p)).1 = true then (true, (pOn t nf vf R d (nf p)).2.1, (pOn t nf vf R d (nf p)).2.2 ++ [-9]) else pOn t nf vf R d (nf p)) else pPl t nf vf R (d + 1) p
def pTm (t nf vf : Nat → Nat) (R : Nat → Nat → Rs) (d : Nat) : Nat → Rs := sqn t nf opM (pOn t nf vf R d)
def pSm (t nf vf : Nat → Nat) (R : Nat → Nat → Rs) (d : Nat) : Nat → Rs := sqn t nf opS (pTm t nf vf R d)
def pCm (t nf vf : Nat → Nat) (R : Nat → Nat → Rs) (d p : Nat) : Rs := if (pSm t nf vf R d p).1 = true then (if t (pSm t nf vf R d p).2.1 = 60 ∨ t (pSm t nf vf R d p).2.1 = 61 then (if (pSm t nf vf R d (nf (pSm t nf vf R d p).2.1)).1 = true then (true, (pSm t nf vf R d (nf (pSm t nf vf R d p).2.1)).2.1, (pSm t nf vf R d p).2.2 ++ (pSm t nf vf R d (nf (pSm t nf vf R d p).2.1)).2.2 ++ [if t (pSm t nf vf R d p).2.1 = 60 then -4 else -5]) else pSm t nf vf R d (nf (pSm t nf vf R d p).2.1)) else pSm t nf vf R d p) else pSm t nf vf R d p
def pNt (t nf vf : Nat → Nat) (R : Nat → Nat → Rs) : Nat → Nat → Rs
  | 0, p => pCm t nf vf R 0 p
  | d + 1, p => if t p = 267 then (if (pNt t nf vf R d (nf p)).1 = true then (true, (pNt t nf vf R d (nf p)).2.1, (pNt t nf vf R d (nf p)).2.2 ++ [-8]) else pNt t nf vf R d (nf p)) else pCm t nf vf R (d + 1) p
def pBo (t nf vf : Nat → Nat) (R : Nat → Nat → Rs) (d : Nat) : Nat → Rs := sqn t nf opA (pNt t nf vf R d)
def pEi (t nf vf : Nat → Nat) (R : Nat → Nat → Rs) (d : Nat) : Nat → Rs := sqn t nf opO (pBo t nf vf R d)
def pG (t nf vf : Nat → Nat) : Nat → Nat → Nat → Rs
  | 0 => fun _ p => (false, p, [])
  | g + 1 => fun d p => pEi t nf vf (pG t nf vf g) d p
/-! that they go within the stack -/
def hgt (l : List Int32) (n : Nat) : Nat := l.foldl (fun n c => n - ned c + 1) n
theorem Gs_ap : ∀ {a b : List Int32} {n : Nat}, Gs_ok a n → Gs_ok b (hgt a n) → Gs_ok (a ++ b) n
  | [], _, _, _, h => h
  | _ :: _, _, _, h, h2 => ⟨h.1, h.2.1, h.2.2.1, Gs_ap h.2.2.2 h2⟩
theorem hgt_ap (a b : List Int32) (n : Nat) : hgt (a ++ b) n = hgt b (hgt a n) := List.foldl_append
def Okc (k : Nat) (l : List Int32) : Prop := ∀ n, n + k ≤ 40 → Gs_ok l n ∧ hgt l n = n + 1
theorem Okc_m {k k' : Nat} {l : List Int32} (h : k ≤ k') (o : Okc k l) : Okc k' l := fun n hn => o n (by omega)
theorem Okc_1 {c : Int32} (hc : cdk c) (n0 : ned c = 0) : Okc 1 [c] := fun n hn => ⟨⟨hc, by omega, by omega, trivial⟩, by show n - ned c + 1 = _; omega⟩
theorem Okc_2 {k : Nat} {a b : List Int32} {c : Int32} (hc : cdk c) (n2 : ned c = 2) (oa : Okc (k + 1) a) (ob : Okc k b) : Okc (k + 1) (a ++ b ++ [c]) := by
  intro n hn
  obtain ⟨a1, a2⟩ := oa n hn
  obtain ⟨b1, b2⟩ := ob (n + 1) (by omega)
  have h : hgt (a ++ b) n = n + 2 := by rw [hgt_ap, a2, b2]
  refine ⟨Gs_ap (Gs_ap a1 (by rw [a2]; exact b1)) ?_, ?_⟩
  · rw [h]
    exact ⟨hc, by omega, by omega, trivial⟩
  · rw [hgt_ap, h]
    show n + 2 - ned c + 1 = _
    omega
theorem Okc_u {k : Nat} {a : List Int32} {c : Int32} (k1 : 1 ≤ k) (hc : cdk c) (n1 : ned c = 1) (oa : Okc k a) : Okc k (a ++ [c]) := by
  intro n hn
  obtain ⟨a1, a2⟩ := oa n hn
  refine ⟨Gs_ap a1 (by rw [a2]; exact ⟨hc, by omega, by omega, trivial⟩), ?_⟩
  rw [hgt_ap, a2]
  show n + 1 - ned c + 1 = _
  omega
theorem cdk_op : ∀ c : Int32, c = -1 ∨ c = -2 ∨ c = -3 ∨ c = -4 ∨ c = -5 ∨ c = -6 ∨ c = -7 → cdk c ∧ ned c = 2 := by
  rintro c (rfl | rfl | rfl | rfl | rfl | rfl | rfl) <;> exact ⟨Or.inr (by decide), by decide⟩
theorem cdk_un : ∀ c : Int32, c = -8 ∨ c = -9 → cdk c ∧ ned c = 1 := by
  rintro c (rfl | rfl) <;> exact ⟨Or.inr (by decide), by decide⟩
theorem cdk_nI {n : Nat} (h : n < 10006) : cdk (nI n) ∧ ned (nI n) = 0 := ⟨Or.inl ⟨n, h, rfl⟩, by
  unfold ned
  rw [if_pos (show (0 : Int32) ≤ nI n from nI_le (a := 0) (Nat.zero_le _) (by omega))]⟩
/-- where a part ends, and how much it wrote -/
def Pp (z k : Nat) (sub : Nat → Rs) : Prop := ∀ p, p ≤ z → (sub p).2.1 ≤ z ∧ ((sub p).1 = true → p < (sub p).2.1 ∧ (sub p).2.2.length + p ≤ (sub p).2.1 ∧ Okc k (sub p).2.2)
section P67
variable {t nf vf : Nat → Nat} {z : Nat}
def Tk (t nf vf : Nat → Nat) (z : Nat) : Prop := ∀ p, p ≤ z → p ≤ nf p ∧ nf p ≤ z ∧ (t p ≠ 0 → p < nf p) ∧ (t p = 1 → vf p < 10000)
theorem chn_p {k : Nat} {op : Nat → Option Int32} {sub : Nat → Rs} (W : Tk t nf vf z) (o0 : op 0 = none) (ob : ∀ t c, op t = some c → cdk c ∧ ned c = 2) (P : Pp z k sub) (p0 : Nat) : ∀ m p a, p ≤ z → p0 < p → a.length + p0 ≤ p → Okc (k + 1) a → (chn t nf op sub m p a).2.1 ≤ z ∧ ((chn t nf op sub m p a).1 = true → p ≤ (chn t nf op sub m p a).2.1 ∧ (chn t nf op sub m p a).2.2.length + p0 ≤ (chn t nf op sub m p a).2.1 ∧ Okc (k + 1) (chn t nf op sub m p a).2.2) := by
  intro m
  induction m with
  | zero => intro p a hp _ _ _; exact ⟨hp, fun q => by cases q⟩
  | succ m ih =>
    intro p a hp hp0 ha oa
    unfold chn
    cases e : op (t p) with
    | none => exact ⟨hp, fun _ => ⟨Nat.le_refl _, ha, oa⟩⟩
    | some c =>
      have t0 : t p ≠ 0 := fun q => by rw [q, o0] at e; cases e
      have w := W p hp
      have q := P (nf p) w.2.1
      simp only
      by_cases s : (sub (nf p)).1 = true
      · rw [if_pos s]
        obtain ⟨q1, q2, q3⟩ := q.2 s
        have hc := ob _ _ e
        have w3 := w.2.2.1 t0
        have r := ih (sub (nf p)).2.1 (a ++ (sub (nf p)).2.2 ++ [c]) q.1 (by omega) (by
          rw [List.length_append, List.length_append, List.length_singleton]
          omega) (Okc_2 hc.1 hc.2 oa q3)
        exact ⟨r.1, fun x => ⟨by have := (r.2 x).1; omega, (r.2 x).2⟩⟩
      · rw [if_neg s]
        exact ⟨q.1, fun x => absurd x s⟩
theorem sqn_p {k : Nat} {op : Nat → Option Int32} {sub : Nat → Rs} (W : Tk t nf vf z) (o0 : op 0 = none) (ob : ∀ t c, op t = some c → cdk c ∧ ned c = 2) (P : Pp z k sub) : Pp z (k + 1) (sqn t nf op sub) := by
  intro p hp
  unfold sqn
  have q := P p hp
  by_cases s : (sub p).1 = true
  · rw [if_pos s]
    obtain ⟨q1, q2, q3⟩ := q.2 s
    have r := chn_p W o0 ob P p 161 (sub p).2.1 (sub p).2.2 q.1 q1 q2 (Okc_m (by omega) q3)
    exact ⟨r.1, fun x => ⟨by have := (r.2 x).1; omega, (r.2 x).2⟩⟩
  · rw [if_neg s]
    exact ⟨q.1, fun x => absurd x s⟩
theorem opO_b : ∀ t c, opO t = some c → cdk c ∧ ned c = 2 := by
  intro t c e
  unfold opO at e
  split at e
  · injection e with e
    exact cdk_op c (by rw [← e]; decide)
  · cases e
theorem opA_b : ∀ t c, opA t = some c → cdk c ∧ ned c = 2 := by
  intro t c e
  unfold opA at e
  split at e
  · injection e with e
    exact cdk_op c (by rw [← e]; decide)
  · cases e
theorem opM_b : ∀ t c, opM t = some c → cdk c ∧ ned c = 2 := by
  intro t c e
  unfold opM at e
  split at e
  · injection e with e
    exact cdk_op c (by rw [← e]; decide)
  · cases e
theorem opS_b : ∀ t c, opS t = some c → cdk c ∧ ned c = 2 := by
  intro t c e
  unfold opS at e
  split at e
  · injection e with e
    exact cdk_op c (by rw [← e]; decide)
  · split at e
    · injection e with e
      exact cdk_op c (by rw [← e]; decide)
    · cases e
variable {R : Nat → Nat → Rs}
theorem pPl_p (W : Tk t nf vf z) {d : Nat} (PR : ∀ d', d' < d → Pp z (5 * d' + 6) (R d')) : Pp z (5 * d + 1) (pPl t nf vf R d) := by
  intro p hp
  have w := W p hp
  unfold pPl
  by_cases c1 : t p = 1
  · rw [if_pos c1]
    have v := w.2.2.2 c1
    have := cdk_nI (n := vf p) (by omega)
    exact ⟨w.2.1, fun _ => ⟨w.2.2.1 (by omega), by have := w.2.2.1 (by omega); show 1 + p ≤ nf p; omega, Okc_m (by omega) (Okc_1 this.1 this.2)⟩⟩
  · rw [if_neg c1]
    by_cases c2 : 256 ≤ t p ∧ t p < 262
    · rw [if_pos c2]
      have := cdk_nI (n := 10000 + (t p - 256)) (by omega)
      exact ⟨w.2.1, fun _ => ⟨w.2.2.1 (by omega), by have := w.2.2.1 (by omega); show 1 + p ≤ nf p; omega, Okc_m (by omega) (Okc_1 this.1 this.2)⟩⟩
    · rw [if_neg c2]
      by_cases c3 : t p = 40 ∧ 0 < d
      · rw [if_pos c3]
        have q := PR (d - 1) (by omega) (nf p) w.2.1
        have w3 := w.2.2.1 (by omega)
        by_cases s : (R (d - 1) (nf p)).1 = true
        · rw [if_pos s]
          obtain ⟨q1, q2, q3⟩ := q.2 s
          by_cases c4 : t (R (d - 1) (nf p)).2.1 = 41
          · rw [if_pos c4]
            have w' := W _ q.1
            exact ⟨w'.2.1, fun _ => ⟨by have := w'.1; show p < nf _; omega, by have := w'.1; show (R (d - 1) (nf p)).2.2.length + p ≤ nf (R (d - 1) (nf p)).2.1; omega, Okc_m (by omega) q3⟩⟩
          · rw [if_neg c4]
            exact ⟨q.1, fun x => by cases x⟩
        · rw [if_neg s]
          exact ⟨q.1, fun x => absurd x s⟩
      · rw [if_neg c3]
        exact ⟨hp, fun x => by cases x⟩
theorem pOn_p (W : Tk t nf vf z) : ∀ {d : Nat}, (∀ d', d' < d → Pp z (5 * d' + 6) (R d')) → Pp z (5 * d + 1) (pOn t nf vf R d)
  | 0, PR => pPl_p W PR
  | d + 1, PR => by
    intro p hp
    have w := W p hp
    unfold pOn
    by_cases c : t p = 45
    · rw [if_pos c]
      have q := pOn_p W (d := d) (fun d' h => PR d' (by omega)) (nf p) w.2.1
      have w3 := w.2.2.1 (by omega)
      by_cases s : (pOn t nf vf R d (nf p)).1 = true
      · rw [if_pos s]
        obtain ⟨q1, q2, q3⟩ := q.2 s
        have hc := cdk_un (-9) (by decide)
        exact ⟨q.1, fun _ => ⟨by show p < (pOn t nf vf R d (nf p)).2.1; omega, by show ((pOn t nf vf R d (nf p)).2.2 ++ [-9]).length + p ≤ (pOn t nf vf R d (nf p)).2.1; rw [List.length_append, List.length_singleton]; omega, Okc_m (by omega) (Okc_u (by omega) hc.1 hc.2 q3)⟩⟩
      · rw [if_neg s]
        exact ⟨q.1, fun x => absurd x s⟩
    · rw [if_neg c]
      exact pPl_p W PR p hp
theorem pTm_p (W : Tk t nf vf z) {d : Nat} (PR : ∀ d', d' < d → Pp z (5 * d' + 6) (R d')) : Pp z (5 * d + 2) (pTm t nf vf R d) := sqn_p W (by decide) opM_b (pOn_p W PR)
theorem pSm_p (W : Tk t nf vf z) {d : Nat} (PR : ∀ d', d' < d → Pp z (5 * d' + 6) (R d')) : Pp z (5 * d + 3) (pSm t nf vf R d) := sqn_p W (by decide) opS_b (pTm_p W PR)
theorem pCm_p (W : Tk t nf vf z) {d : Nat} (PR : ∀ d', d' < d → Pp z (5 * d' + 6) (R d')) : Pp z (5 * d + 4) (pCm t nf vf R d) := by
  intro p hp
  unfold pCm
  have q := pSm_p W PR p hp
  by_cases s : (pSm t nf vf R d p).1 = true
  · rw [if_pos s]
    obtain ⟨q1, q2, q3⟩ := q.2 s
    generalize hr : pSm t nf vf R d p = r at *
    by_cases c : t r.2.1 = 60 ∨ t r.2.1 = 61
    · rw [if_pos c]
      have w := W _ q.1
      have w3 := w.2.2.1 (by omega)
      have u := pSm_p W PR (nf r.2.1) w.2.1
      by_cases s2 : (pSm t nf vf R d (nf r.2.1)).1 = true
      · rw [if_pos s2]
        obtain ⟨u1, u2, u3⟩ := u.2 s2
        generalize pSm t nf vf R d (nf r.2.1) = q' at *
        have hc : cdk (if t r.2.1 = 60 then -4 else -5) ∧ ned (if t r.2.1 = 60 then -4 else -5) = 2 := by
          split
          · exact cdk_op _ (by decide)
          · exact cdk_op _ (by decide)
        exact ⟨u.1, fun _ => ⟨by show p < q'.2.1; omega, by show (r.2.2 ++ q'.2.2 ++ [_]).length + p ≤ q'.2.1; rw [List.length_append, List.length_append, List.length_singleton]; omega, Okc_2 hc.1 hc.2 (Okc_m (by omega) q3) u3⟩⟩
      · rw [if_neg s2]
        exact ⟨u.1, fun x => absurd x s2⟩
    · rw [if_neg c]
      exact ⟨q.1, fun x => ⟨(q.2 x).1, (q.2 x).2.1, Okc_m (by omega) (q.2 x).2.2⟩⟩
  · rw [if_neg s]
    exact ⟨q.1, fun x => absurd x s⟩
theorem pNt_p (W : Tk t nf vf z) : ∀ {d : Nat}, (∀ d', d' < d → Pp z (5 * d' + 6) (R d')) → Pp z (5 * d + 4) (pNt t nf vf R d)
  | 0, PR => pCm_p W PR
  | d + 1, PR => by
    intro p hp
    have w := W p hp
    unfold pNt
    by_cases c : t p = 267
    · rw [if_pos c]
      have q := pNt_p W (d := d) (fun d' h => PR d' (by omega)) (nf p) w.2.1
      have w3 := w.2.2.1 (by omega)
      by_cases s : (pNt t nf vf R d (nf p)).1 = true
      · rw [if_pos s]
        obtain ⟨q1, q2, q3⟩ := q.2 s
        have hc := cdk_un (-8) (by decide)
        exact ⟨q.1, fun _ => ⟨by show p < (pNt t nf vf R d (nf p)).2.1; omega, by show ((pNt t nf vf R d (nf p)).2.2 ++ [-8]).length + p ≤ (pNt t nf vf R d (nf p)).2.1; rw [List.length_append, List.length_singleton]; omega, Okc_m (by omega) (Okc_u (by omega) hc.1 hc.2 q3)⟩⟩
      · rw [if_neg s]
        exact ⟨q.1, fun x => absurd x s⟩
    · rw [if_neg c]
      exact pCm_p W PR p hp
theorem pBo_p (W : Tk t nf vf z) {d : Nat} (PR : ∀ d', d' < d → Pp z (5 * d' + 6) (R d')) : Pp z (5 * d + 5) (pBo t nf vf R d) := sqn_p W (by decide) opA_b (pNt_p W PR)
theorem pEi_p (W : Tk t nf vf z) {d : Nat} (PR : ∀ d', d' < d → Pp z (5 * d' + 6) (R d')) : Pp z (5 * d + 6) (pEi t nf vf R d) := sqn_p W (by decide) opO_b (pBo_p W PR)
theorem pG_p (W : Tk t nf vf z) : ∀ g d, d < g → Pp z (5 * d + 6) (pG t nf vf g d)
  | 0, _, h => absurd h (Nat.not_lt_zero _)
  | g + 1, d, h => pEi_p W (fun d' h' => pG_p W g d' (by omega))
end P67
theorem Tk_of (B : Nat → Nat) (z : Nat) : Tk (tk B z) (nx B z) (nv B z) z := fun p hp => by
  have a := sta_i (B := B) hp
  have b := nx_i (B := B) hp
  exact ⟨by omega, b.2.1, fun q => by have := b.2.2 q; omega, nv_le⟩

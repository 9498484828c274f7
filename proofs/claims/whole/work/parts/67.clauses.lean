/-! CLAUSES: (word, n, steps). LaR: the class's rows hold them; LmR: the model's. -/
def kM (a : Nat) : Int32 := if a = 0 then (-10) else if a = 1 then (-200) else if a = 2 then (-400) else (-600)
def eM (a n : Nat) : Int32 := kM a - nI n
def LaR (L : T_La) : Nat → Nat → List (Nat × Nat × List (Nat × Nat × Nat)) → Prop
  | _, _, [] => True
  | i, c, q :: r => q_La_word L i = nI q.1 ∧ q_La_n L i = nI q.2.1 ∧ q_La_end L i = nI (c + q.2.2.length) ∧ (∀ j, j < q.2.2.length → q_La_code L (c + j) = cO (q.2.2.getD j (0, 0, 0))) ∧ LaR L (i + 1) (c + q.2.2.length) r
def LmR (s : Nat → Int32) : Nat → List (Nat × Nat × List (Nat × Nat × Nat)) → Prop
  | _, [] => True
  | c, q :: r => (∀ j, j < q.2.2.length → s (c + j) = mO (q.2.2.getD j (0, 0, 0))) ∧ s (c + q.2.2.length) = eM q.1 q.2.1 ∧ LmR s (c + q.2.2.length + 1) r
def okC (q : Nat × Nat × List (Nat × Nat × Nat)) : Prop := q.1 < 4 ∧ q.2.1 ≤ 99 ∧ (∀ o ∈ q.2.2, okO o) ∧ dpO q.2.2 0 = some 1
/-- how many steps -/
def szO : List (Nat × Nat × List (Nat × Nat × Nat)) → Nat
  | [] => 0
  | q :: r => q.2.2.length + szO r
def toO (fa : Nat → Nat) (a : Nat) : List (Nat × Nat × List (Nat × Nat × Nat)) → Nat
  | [] => 0
  | q :: r => (if (decide (q.1 = a) && vlO fa q.2.2) = true then q.2.1 else 0) + toO fa a r
theorem toO_le {fa : Nat → Nat} {a : Nat} : ∀ (cl : List (Nat × Nat × List (Nat × Nat × Nat))), (∀ q ∈ cl, okC q) → toO fa a cl ≤ 99 * cl.length
  | [], _ => by simp [toO]
  | q :: r, h => by
    have h1 := toO_le (fa := fa) (a := a) r (fun q' h' => h q' (List.mem_cons_of_mem _ h'))
    have h2 := (h q List.mem_cons_self).2.1
    show (if (decide (q.1 = a) && vlO fa q.2.2) = true then q.2.1 else 0) + toO fa a r ≤ 99 * (r.length + 1)
    split <;> omega
def kMb (a b n : Nat) : Bool := decide (eM b n < 0) && !decide (eM b n = -1) && decide (eM b n ≤ -10) && (if a = b then !decide (kM a < eM b n) && !decide (eM b n ≤ kM a - 150) && decide (kM a - eM b n = nI n) else decide (kM a < eM b n) || decide (eM b n ≤ kM a - 150))
theorem kMb_all : ∀ a, a < 4 → ∀ b, b < 4 → ∀ n, n < 100 → kMb a b n = true := by decide +kernel
theorem kM_all (a : Nat) (ha : a < 4) (b : Nat) (hb : b < 4) (n : Nat) (hn : n < 100) : (eM b n < 0 ∧ ¬ eM b n = -1 ∧ eM b n ≤ -10) ∧ (a = b → ¬ kM a < eM b n ∧ ¬ eM b n ≤ kM a - 150 ∧ kM a - eM b n = nI n) ∧ (a ≠ b → kM a < eM b n ∨ eM b n ≤ kM a - 150) := by
  have h := kMb_all a ha b hb n hn
  unfold kMb at h
  by_cases q : a = b
  · rw [if_pos q] at h
    simp only [Bool.and_eq_true, Bool.not_eq_true', decide_eq_true_eq, decide_eq_false_iff_not] at h
    exact ⟨⟨h.1.1.1, h.1.1.2, h.1.2⟩, fun _ => ⟨h.2.1.1, h.2.1.2, h.2.2⟩, fun q' => absurd q q'⟩
  · rw [if_neg q] at h
    simp only [Bool.and_eq_true, Bool.or_eq_true, Bool.not_eq_true', decide_eq_true_eq, decide_eq_false_iff_not] at h
    exact ⟨⟨h.1.1.1, h.1.1.2, h.1.2⟩, fun q' => absurd q' q, fun _ => h.2⟩
section LT
variable {fa : Nat → Nat} {L : T_La} {F s : Nat → Int32} {a : Nat}
theorem La_togetherL (hF : ∀ i, i < 6 → F i = nI (fa i) ∧ fa i ≤ 99) (ha : a < 4) {C : Nat} (hC : q_La_clauses L = nI C) (hC10 : C ≤ 10) : ∀ (cl : List (Nat × Nat × List (Nat × Nat × Nat))) (i c m sum : Nat), LaR L i c cl → (∀ q ∈ cl, okC q) → i + cl.length = C → c + szO cl ≤ 100 → cl.length < m →
    d_La_together_L8 (nI a) L F m (nI sum) (nI c) (nI i) = some (nI (sum + toO fa a cl))
  | [], i, c, 0, _, _, _, _, _, hm => by simp at hm
  | _ :: _, i, c, 0, _, _, _, _, _, hm => by simp at hm
  | [], i, c, m + 1, sum, _, _, hi, _, _ => by
    have hB : d_La_together_L8 (nI a) L F (m + 1) (nI sum) (nI c) (nI i) = B_La_together_L8 (nI a) L F (d_La_together_L8 (nI a) L F m) (nI sum) (nI c) (nI i) := rfl
    rw [hB]
    unfold B_La_together_L8
    simp only [List.length_nil, Nat.add_zero] at hi
    rw [hC, hi, if_pos (Int32.le_refl _)]
    rfl
  | q :: r, i, c, m + 1, sum, hR, hok, hi, h100, hm => by
    have hB : d_La_together_L8 (nI a) L F (m + 1) (nI sum) (nI c) (nI i) = B_La_together_L8 (nI a) L F (d_La_together_L8 (nI a) L F m) (nI sum) (nI c) (nI i) := rfl
    obtain ⟨r1, r2, r3, r4, r5⟩ := hR
    have hq := hok q List.mem_cons_self
    have hz : szO (q :: r) = q.2.2.length + szO r := rfl
    simp only [List.length_cons] at hi hm
    have e1 : ¬ nI C ≤ nI i := nI_ge (by omega) (by omega)
    have e2 : inb (nI i) 10 = true := inb_n (by omega) (by omega)
    have e3 : (nI i).toNatClampNeg = i := nI_clamp (by omega)
    have hq4 := hq.1
    have k1 : (nI q.1 = nI a) ↔ q.1 = a := nI_eq (by omega) (by omega)
    have hh := La_holds (z := L) hF (ops := q.2.2) (c := c) r4 hq.2.2.1 (by omega) hq.2.2.2
    have ih := fun sm => La_togetherL hF ha hC hC10 r (i + 1) (c + q.2.2.length) m sm r5 (fun q' h' => hok q' (List.mem_cons_of_mem _ h')) (by omega) (by omega) (by omega)
    rw [hB]
    unfold B_La_together_L8
    simp only [hC, e1, e2, e3, r1, r2, r3, k1, hh, Option.bind_some, bI_0, nI_add, nI_1, if_true, if_false, ih]
    show _ = some (nI (sum + ((if (decide (q.1 = a) && vlO fa q.2.2) = true then q.2.1 else 0) + toO fa a r)))
    by_cases y1 : q.1 = a
    · cases y2 : vlO fa q.2.2
      · simp [y1, y2]
      · simp [y1, y2, Nat.add_assoc]
    · simp [y1]
theorem Mo_sumOfL (hF : ∀ i, i < 6 → F i = nI (fa i) ∧ fa i ≤ 99) (ha : a < 4) {mn fr : Int32} {e : Nat} (hE : fr + mn = nI e) (he9 : e ≤ 901) : ∀ (cl : List (Nat × Nat × List (Nat × Nat × Nat))) (i m sum : Nat) (w : T_Mo), q_Mo_s w = s → q_Mo_by w = F → LmR s i cl → (∀ q ∈ cl, okC q) → i + szO cl + cl.length = e →
    ∃ T', d_Mo_sumOf_L55 (kM a) mn fr (szO cl + cl.length + (m + 1)) (nI sum) (nI 0) (nI i) w = some (nI (sum + toO fa a cl), u_Mo_truths w T')
  | [], i, m, sum, w, hs, hb, _, _, hi => by
    refine ⟨q_Mo_truths w, ?_⟩
    have hB : d_Mo_sumOf_L55 (kM a) mn fr (0 + 0 + (m + 1)) (nI sum) (nI 0) (nI i) w = B_Mo_sumOf_L55 (kM a) mn fr (d_Mo_sumOf_L55 (kM a) mn fr m) (nI sum) (nI 0) (nI i) w := by
      rw [Nat.zero_add]
      rfl
    refine Eq.trans hB ?_
    unfold B_Mo_sumOf_L55
    have hi : i = e := hi
    rw [hE, hi, if_pos (Int32.le_refl _)]
    rfl
  | q :: r, i, m, sum, w, hs, hb, hR, hok, hi => by
    obtain ⟨r1, r2, r3⟩ := hR
    have hq := hok q List.mem_cons_self
    have hz : szO (q :: r) = q.2.2.length + szO r := rfl
    simp only [List.length_cons] at hi ⊢
    obtain ⟨T1, g1, g2⟩ := Mo_steps (fa := fa) (s := s) (F := F) (srt := kM a) (mn := mn) (fr := fr) (sum := nI sum) (e := e) hF hE he9 q.2.2 i (szO r + r.length + (m + 1) + 1) w [] 1 hs hb r1 hq.2.2.1 (by omega) (fun i hi => by simp at hi) hq.2.2.2 (by simp)
    have hl := evO_len fa q.2.2 [] 1 hq.2.2.2 (by simp)
    have t0 : T1 0 = bI (vlO fa q.2.2) := by
      have := g2 0 (by omega)
      rw [hl] at this
      exact this
    rw [hz, show q.2.2.length + szO r + (r.length + 1) + (m + 1) = q.2.2.length + (szO r + r.length + (m + 1) + 1) by omega]
    have g1 : d_Mo_sumOf_L55 (kM a) mn fr (q.2.2.length + (szO r + r.length + (m + 1) + 1)) (nI sum) (nI 0) (nI i) w = _ := g1
    rw [g1]
    have hB : d_Mo_sumOf_L55 (kM a) mn fr (szO r + r.length + (m + 1) + 1) (nI sum) (nI (evO fa q.2.2 []).length) (nI (i + q.2.2.length)) (u_Mo_truths w T1) = B_Mo_sumOf_L55 (kM a) mn fr (d_Mo_sumOf_L55 (kM a) mn fr (szO r + r.length + (m + 1))) (nI sum) (nI (evO fa q.2.2 []).length) (nI (i + q.2.2.length)) (u_Mo_truths w T1) := rfl
    rw [hB]
    unfold B_Mo_sumOf_L55
    have e1 : ¬ nI e ≤ nI (i + q.2.2.length) := nI_ge (by omega) (by omega)
    have e2 : inb (nI (i + q.2.2.length)) 901 = true := inb_n (by omega) (by omega)
    have e3 : (nI (i + q.2.2.length)).toNatClampNeg = i + q.2.2.length := nI_clamp (by omega)
    have e4 : q_Mo_s (u_Mo_truths w T1) (i + q.2.2.length) = eM q.1 q.2.1 := by show q_Mo_s w _ = _; rw [hs]; exact r2
    have e5 : q_Mo_truths (u_Mo_truths w T1) 0 = bI (vlO fa q.2.2) := t0
    have kk := kM_all a ha q.1 hq.1 q.2.1 (Nat.lt_succ_of_le hq.2.1)
    have ih := fun sm => Mo_sumOfL hF ha hE he9 r (i + q.2.2.length + 1) m sm (u_Mo_truths w T1) hs hb r3 (fun q' h' => hok q' (List.mem_cons_of_mem _ h')) (by omega)
    have ih2 : ∀ sm, ∃ T', d_Mo_sumOf_L55 (kM a) mn fr (szO r + r.length + (m + 1)) (nI sm) 0 (nI (i + q.2.2.length + 1)) (u_Mo_truths w T1) = some (nI (sm + toO fa a r), u_Mo_truths w T') := fun sm => by
      obtain ⟨T', y⟩ := ih sm
      exact ⟨T', y⟩
    rw [hE]
    have k1 := kk.1.1
    have k2 := kk.1.2.1
    have k3 := kk.1.2.2
    simp only [e1, e2, e3, e4, e5, k1, k2, k3, bI_0, Int32.add_zero, if_true, if_false, nI_1]
    show ∃ T', _ = some (nI (sum + ((if (decide (q.1 = a) && vlO fa q.2.2) = true then q.2.1 else 0) + toO fa a r)), _)
    cases y2 : vlO fa q.2.2
    · obtain ⟨T', y⟩ := ih2 sum
      refine ⟨T', ?_⟩
      simp only [if_true, Bool.and_false, Bool.false_eq_true, if_false, Nat.zero_add]
      exact y
    · by_cases y1 : q.1 = a
      · obtain ⟨z1, z2, z3⟩ := kk.2.1 y1.symm
        obtain ⟨T', y⟩ := ih2 (sum + q.2.1)
        refine ⟨T', ?_⟩
        have y3 : decide (q.1 = a) = true := decide_eq_true y1
        simp only [z1, z2, z3, y3, nI_add, if_true, if_false, Bool.true_eq_false, Bool.and_true]
        rw [y, Nat.add_assoc]
      · obtain ⟨T', y⟩ := ih2 sum
        refine ⟨T', ?_⟩
        rcases kk.2.2 (fun q' => y1 q'.symm) with z1 | z1
        · simp only [z1, y1, if_true, if_false, Bool.true_eq_false, decide_false, Bool.false_and, Bool.false_eq_true, Nat.zero_add]
          exact y
        · simp only [z1, y1, if_true, if_false, Bool.true_eq_false, decide_false, Bool.false_and, Bool.false_eq_true, Nat.zero_add, ite_self]
          exact y
end LT
/-- the LAND that holds, in the class and in the model's row s: the clauses cl -/
def LcR (L : T_La) (s : Nat → Int32) (cl : List (Nat × Nat × List (Nat × Nat × Nat))) : Prop :=
  q_La_clauses L = nI cl.length ∧ cl.length ≤ 10 ∧ szO cl + cl.length ≤ 100 ∧ (∀ q ∈ cl, okC q) ∧ LaR L 0 0 cl ∧
  ((s 5 = -1 ∧ cl = []) ∨ ∃ h, h ≤ 4 ∧ s 5 = nI h ∧ s (196 + h) = nI (szO cl + cl.length) ∧ LmR s (201 + 140 * h) cl)
theorem La_together {L : T_La} {s F : Nat → Int32} {cl : List (Nat × Nat × List (Nat × Nat × Nat))} {fa : Nat → Nat} {a : Nat} (h : LcR L s cl) (hF : ∀ i, i < 6 → F i = nI (fa i) ∧ fa i ≤ 99) (ha : a < 4) : d_La_together (nI a) L F = some (nI (toO fa a cl)) := by
  have h1 := La_togetherL (L := L) hF ha h.1 h.2.1 cl 0 0 1000 0 h.2.2.2.2.1 h.2.2.2.1 (by omega) (by have := h.2.2.1; omega) (by have := h.2.1; omega)
  rw [Nat.zero_add] at h1
  exact h1
theorem Mo_sumOf {L : T_La} {w : T_Mo} {cl : List (Nat × Nat × List (Nat × Nat × Nat))} {fa : Nat → Nat} {a : Nat} (h : LcR L (q_Mo_s w) cl) (hF : ∀ i, i < 6 → q_Mo_by w i = nI (fa i) ∧ fa i ≤ 99) (ha : a < 4) : ∃ T', d_Mo_sumOf (kM a) w = some (nI (toO fa a cl), u_Mo_truths w T') := by
  obtain ⟨h1, h2, h3, h4, h5, h6⟩ := h
  unfold d_Mo_sumOf
  rcases h6 with ⟨q1, q2⟩ | ⟨j, q0, q1, q2, q3⟩
  · subst q2
    rw [if_pos q1, q1]
    obtain ⟨T', y⟩ := Mo_sumOfL (a := a) (fa := fa) (s := q_Mo_s w) (F := q_Mo_by w) (mn := 0) (fr := 201 + 140 * (-1)) (e := 61) hF ha (by decide) (by omega) [] 61 999 0 w rfl rfl trivial (by simp) rfl
    exact ⟨T', y⟩
  · have n1 : ¬ q_Mo_s w 5 = -1 := by rw [q1]; exact nI_neg_ne _ (by omega) _ (by decide)
    rw [if_neg n1, q1]
    have e1 : inb (196 + nI j) 901 = true := in9 196 (by omega)
    have e2 : (196 + nI j).toNatClampNeg = 196 + j := cl9 196 (by omega)
    have e3 : (201 + (140 * nI j)) = nI (201 + 140 * j) := by
      show nI 201 + (nI 140 * nI j) = _
      rw [pk_mul, nI_add]
    rw [if_pos e1, e2, q2, e3]
    obtain ⟨T', y⟩ := Mo_sumOfL (a := a) (fa := fa) (s := q_Mo_s w) (F := q_Mo_by w) (mn := nI (szO cl + cl.length)) (fr := nI (201 + 140 * j)) (e := 201 + 140 * j + (szO cl + cl.length)) hF ha (nI_add _ _) (by omega) cl (201 + 140 * j) (999 - (szO cl + cl.length)) 0 w rfl rfl q3 h4 (by omega)
    rw [show szO cl + cl.length + (999 - (szO cl + cl.length) + 1) = 1000 by omega, Nat.zero_add] at y
    exact ⟨T', y⟩

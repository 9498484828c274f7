/-! A LAND read: its signs, on both sides. -/
/-- the sign at k; -1 behind the last -/
def lC (tx : Nat → Nat) (e k : Nat) : Int32 := if k < e then nI (tx k) else (-1)
/-- the class's draft and the model's row hold the clauses cl and the steps ops of the next one -/
def LdD (dr : T_La) (s : Nat → Int32) (h : Nat) (cl : CL) (ops : List (Nat × Nat × Nat)) : Prop :=
  (q_La_clauses dr = nI cl.length ∧ q_La_codes dr = nI (szO cl + ops.length) ∧ LaR dr 0 0 cl ∧ ∀ j, j < ops.length → q_La_code dr (szO cl + j) = cO (ops.getD j (0, 0, 0))) ∧
  (s (196 + h) = nI (szO cl + cl.length + ops.length) ∧ LmR s (201 + 140 * h) cl ∧ ∀ j, j < ops.length → s (201 + 140 * h + (szO cl + cl.length) + j) = mO (ops.getD j (0, 0, 0))) ∧
  (∀ q ∈ ops, okO q) ∧ (∀ q ∈ cl, okC q)
/-- what is given: the signs -/
def LdH (w0 : T_Mo) (h e : Nat) (tx : Nat → Nat) : Prop := h ≤ 4 ∧ e ≤ 100 ∧ ∀ i, i < e → q_Mo_s w0 (96 + i) = nI (tx i) ∧ tx i ≤ 127
def LdZ (e : Nat) (tx : Nat → Nat) (z : T_Rd) : Prop := q_Rd_size z = nI e ∧ ∀ i, i < e → q_Rd_text z i = nI (tx i)
def LdW (w0 : T_Mo) (h e : Nat) (w : T_Mo) : Prop := q_Mo_end w = nI e ∧ q_Mo_act w = nI h ∧ (∀ i, i < 201 + 140 * h → i ≠ 196 + h → q_Mo_s w i = q_Mo_s w0 i) ∧ FrM w0 w
/-- both at k, nothing wrong -/
def LdS (w0 : T_Mo) (h e : Nat) (tx : Nat → Nat) (k p : Nat) (cl : CL) (ops : List (Nat × Nat × Nat)) (z : T_Rd) (w : T_Mo) : Prop :=
  LdH w0 h e tx ∧ LdZ e tx z ∧ LdW w0 h e w ∧ (q_Rd_place z = nI k ∧ q_Mo_spot w = nI k ∧ k ≤ e) ∧ q_Mo_isWrong w = 0 ∧ szO cl + cl.length + ops.length + p ≤ k ∧ LdD (q_Rd_draft z) (q_Mo_s w) h cl ops
/-- both at the FAULT -/
def LdB (w0 : T_Mo) (h e : Nat) (tx : Nat → Nat) (z : T_Rd) (w : T_Mo) : Prop :=
  LdH w0 h e tx ∧ LdZ e tx z ∧ LdW w0 h e w ∧ (∃ k, k ≤ e ∧ q_Rd_place z = nI k ∧ q_Mo_spot w = nI k) ∧ q_Mo_isWrong w = 1
theorem n10 : ¬ (1 : Int32) = 0 := by decide
section LR
variable {w0 : T_Mo} {h e : Nat} {tx : Nat → Nat} {k p : Nat} {cl : CL} {ops : List (Nat × Nat × Nat)} {z : T_Rd} {w : T_Mo}
theorem lC_in (hk : k < e) : lC tx e k = nI (tx k) := if_pos hk
theorem lC_out (hk : ¬ k < e) : lC tx e k = -1 := if_neg hk
theorem lC_lt {x : Int32} (hx : ¬ x = -1) (hc : lC tx e k = x) : k < e := by
  by_cases q : k < e
  · exact q
  · exact absurd (hc.symm.trans (lC_out q)) hx
theorem Mo_hereL (hH : LdH w0 h e tx) (hW : LdW w0 h e w) (hs : q_Mo_spot w = nI k) (hk : k ≤ e) : d_Mo_here w = some (lC tx e k) := by
  obtain ⟨h4, h100, hx⟩ := hH
  obtain ⟨g1, g2, g3, -⟩ := hW
  unfold d_Mo_here
  rw [g1, hs]
  by_cases q : k < e
  · have e1 : ¬ nI e ≤ nI k := nI_ge q (by omega)
    have e2 : inb (96 + nI k) 901 = true := in9 96 (by omega)
    have e3 : (96 + nI k).toNatClampNeg = 96 + k := cl9 96 (by omega)
    rw [if_neg e1, if_pos e2, e3, g3 _ (by omega) (by omega), (hx k q).1, lC_in q]
  · rw [if_pos (nI_le (by omega) (by omega)), lC_out q]
theorem LdS.here (hS : LdS w0 h e tx k p cl ops z w) : d_Mo_here w = some (lC tx e k) := Mo_hereL hS.1 hS.2.2.1 hS.2.2.2.1.2.1 hS.2.2.2.1.2.2
theorem LdS.nw (hS : LdS w0 h e tx k p cl ops z w) : q_Mo_isWrong w = 0 := hS.2.2.2.2.1
theorem LdS.weak {p' : Nat} (hS : LdS w0 h e tx k p cl ops z w) (hp : p' ≤ p) : LdS w0 h e tx k p' cl ops z w := by
  obtain ⟨a, b, c, d, f, g, i⟩ := hS
  exact ⟨a, b, c, d, f, by omega, i⟩
theorem LdS.go {k' : Nat} (hS : LdS w0 h e tx k p cl ops z w) (hk : k ≤ k') (he : k' ≤ e) : LdS w0 h e tx k' (p + (k' - k)) cl ops (u_Rd_place z (nI k')) (u_Mo_spot w (nI k')) := by
  obtain ⟨a, b, c, d, f, g, i⟩ := hS
  exact ⟨a, b, c, ⟨rfl, rfl, he⟩, f, by omega, i⟩
theorem LdS.zero (hS : LdS w0 h e tx k p cl ops z w) : LdS w0 h e tx k p cl ops z (u_Mo_isWrong w 0) := by
  obtain ⟨a, b, c, d, f, g, i⟩ := hS
  exact ⟨a, b, c, d, rfl, g, i⟩
theorem LdS.opn (hS : LdS w0 h e tx k p cl ops z w) (o : Int32) : LdS w0 h e tx k p cl ops z (u_Mo_open w o) := by
  obtain ⟨a, b, c, d, f, g, i⟩ := hS
  exact ⟨a, b, c, d, f, g, i⟩
theorem LdS.bad {w' : T_Mo} (hS : LdS w0 h e tx k p cl ops z w) (hW : LdW w0 h e w') (hs : q_Mo_spot w' = nI k) (hw : q_Mo_isWrong w' = 1) : LdB w0 h e tx z w' :=
  ⟨hS.1, hS.2.1, hW, ⟨k, hS.2.2.2.1.2.2, hS.2.2.2.1.1, hs⟩, hw⟩
theorem LdB.opn (hB : LdB w0 h e tx z w) (o : Int32) : LdB w0 h e tx z (u_Mo_open w o) := by
  obtain ⟨a, b, c, d, f⟩ := hB
  exact ⟨a, b, c, d, f⟩
theorem LdB.one (hB : LdB w0 h e tx z w) : LdB w0 h e tx z (u_Mo_isWrong w 1) := by
  obtain ⟨a, b, c, d, f⟩ := hB
  exact ⟨a, b, c, d, rfl⟩
theorem LdB.n0 (hB : LdB w0 h e tx z w) : ¬ q_Mo_isWrong w = 0 := by rw [hB.2.2.2.2]; exact n10
theorem LdB.emits (hB : LdB w0 h e tx z w) (x : Int32) : d_Mo_emits x w = some w := by
  unfold d_Mo_emits
  exact if_neg hB.n0
theorem LdB.must (hB : LdB w0 h e tx z w) (x : Int32) : ∃ w', d_Mo_must x w = some w' ∧ LdB w0 h e tx z w' := by
  have n0 := hB.n0
  obtain ⟨a, b, c, ⟨k, k1, k2, k3⟩, f⟩ := hB
  refine ⟨u_Mo_spot (u_Mo_isWrong w 1) (q_Mo_spot w + 0), ?_, a, b, c, ⟨k, k1, k2, ?_⟩, rfl⟩
  · unfold d_Mo_must
    rw [if_neg n0]
    exact if_neg n10
  · show q_Mo_spot w + 0 = nI k
    rw [Int32.add_zero]
    exact k3
theorem Mo_must_y (hS : LdS w0 h e tx k p cl ops z w) {x : Int32} (hx : ¬ x = -1) (hc : lC tx e k = x) : ∃ w', d_Mo_must x w = some w' ∧ LdS w0 h e tx (k + 1) (p + 1) cl ops (u_Rd_place z (nI (k + 1))) w' ∧ q_Mo_open w' = q_Mo_open w := by
  have q := lC_lt hx hc
  refine ⟨u_Mo_spot (u_Mo_isWrong w 0) (q_Mo_spot w + 1), ?_, ?_, rfl⟩
  · unfold d_Mo_must
    rw [if_pos hS.nw, hS.here, Option.bind_some, if_pos hc]
    exact if_pos rfl
  · rw [hS.2.2.2.1.2.1, nI_1]
    exact (hS.zero.go (k' := k + 1) (by omega) (by omega)).weak (by omega)
theorem Mo_must_n (hS : LdS w0 h e tx k p cl ops z w) {x : Int32} (hc : ¬ lC tx e k = x) : ∃ w', d_Mo_must x w = some w' ∧ LdB w0 h e tx z w' := by
  refine ⟨u_Mo_spot (u_Mo_isWrong w 1) (q_Mo_spot w + 0), ?_, hS.bad hS.2.2.1 ?_ rfl⟩
  · unfold d_Mo_must
    rw [if_pos hS.nw, hS.here, Option.bind_some, if_neg hc]
    exact if_neg n10
  · show q_Mo_spot w + 0 = nI k
    rw [Int32.add_zero]
    exact hS.2.2.2.1.2.1
theorem Rd_eat_y (hH : LdH w0 h e tx) (hZ : LdZ e tx z) (hk : q_Rd_place z = nI k) {x : Int32} (hx : ¬ x = -1) (hc : lC tx e k = x) : d_Rd_eat x z = some (1, u_Rd_place z (nI (k + 1))) := by
  have q := lC_lt hx hc
  have h100 := hH.2.1
  have e1 : ¬ nI e ≤ nI k := nI_ge q (by omega)
  have e2 : inb (nI k) 100 = true := inb_n (by omega) (by omega)
  have e3 : (nI k).toNatClampNeg = k := nI_clamp (by omega)
  have e4 : q_Rd_text z k = x := (hZ.2 k q).trans ((lC_in q).symm.trans hc)
  unfold d_Rd_eat
  rw [hZ.1, hk, if_neg e1, if_pos e2, e3, e4, if_pos rfl, nI_1]
theorem Rd_eat_n (hH : LdH w0 h e tx) (hZ : LdZ e tx z) (hk : q_Rd_place z = nI k) (hk9 : k ≤ e) {x : Int32} (hc : ¬ lC tx e k = x) : d_Rd_eat x z = some (0, z) := by
  have h100 := hH.2.1
  unfold d_Rd_eat
  by_cases q : k < e
  · have e1 : ¬ nI e ≤ nI k := nI_ge q (by omega)
    have e2 : inb (nI k) 100 = true := inb_n (by omega) (by omega)
    have e3 : (nI k).toNatClampNeg = k := nI_clamp (by omega)
    have e4 : q_Rd_text z k = lC tx e k := (hZ.2 k q).trans (lC_in q).symm
    rw [hZ.1, hk, if_neg e1, if_pos e2, e3, e4, if_neg hc]
  · rw [hZ.1, hk, if_pos (nI_le (by omega) (by omega))]
def isD (x : Int32) : Prop := ∃ d, d ≤ 9 ∧ x = nI (48 + d)
theorem isD_n {c : Nat} (hc : c < 2 ^ 31) : isD (nI c) ↔ 48 ≤ c ∧ c ≤ 57 := by
  constructor
  · rintro ⟨d, hd, y⟩
    have := (nI_eq hc (by omega)).mp y
    omega
  · rintro ⟨a, b⟩
    exact ⟨c - 48, by omega, by rw [show 48 + (c - 48) = c by omega]⟩
theorem isD_m1 : ¬ isD (-1) := by
  rintro ⟨d, hd, y⟩
  exact nI_m1 (48 + d) (by omega) y.symm
theorem in_dig (hH : LdH w0 h e tx) (k : Nat) : (isD (lC tx e k) ∧ d_Mo_in (lC tx e k) 48 57 = some 1) ∨ (¬ isD (lC tx e k) ∧ d_Mo_in (lC tx e k) 48 57 = some 0) := by
  by_cases q : k < e
  · rw [lC_in q]
    have hc := (hH.2.2 k q).2
    have a1 : (nI (tx k) < 48) ↔ tx k < 48 := nI_ltI (b := 48) (by omega) (by omega)
    have a2 : (57 < nI (tx k)) ↔ 57 < tx k := nI_ltI (a := 57) (by omega) (by omega)
    unfold d_Mo_in
    rw [isD_n (by omega)]
    by_cases y : tx k < 48
    · exact Or.inr ⟨by omega, if_pos (a1.mpr y)⟩
    · by_cases y2 : 57 < tx k
      · exact Or.inr ⟨by omega, (if_neg (fun t => y (a1.mp t))).trans (if_pos (a2.mpr y2))⟩
      · exact Or.inl ⟨by omega, (if_neg (fun t => y (a1.mp t))).trans (if_neg (fun t => y2 (a2.mp t)))⟩
  · rw [lC_out q]
    exact Or.inr ⟨isD_m1, if_pos (by decide)⟩
theorem Rd_dig (hH : LdH w0 h e tx) (hZ : LdZ e tx z) (hk : q_Rd_place z = nI k) (hk9 : k ≤ e) : (isD (lC tx e k) ∧ d_Rd_digitHere z = some 1) ∨ (¬ isD (lC tx e k) ∧ d_Rd_digitHere z = some 0) := by
  have h100 := hH.2.1
  unfold d_Rd_digitHere
  by_cases q : k < e
  · have hc := (hH.2.2 k q).2
    have a1 : (nI (tx k) < 48) ↔ tx k < 48 := nI_ltI (b := 48) (by omega) (by omega)
    have a2 : (57 < nI (tx k)) ↔ 57 < tx k := nI_ltI (a := 57) (by omega) (by omega)
    have e1 : ¬ nI e ≤ nI k := nI_ge q (by omega)
    have e2 : inb (nI k) 100 = true := inb_n (by omega) (by omega)
    have e3 : (nI k).toNatClampNeg = k := nI_clamp (by omega)
    rw [hZ.1, hk, if_neg e1, if_pos e2, if_pos e2, e3, hZ.2 k q, lC_in q, isD_n (by omega)]
    by_cases y : tx k < 48
    · exact Or.inr ⟨by omega, if_pos (a1.mpr y)⟩
    · by_cases y2 : 57 < tx k
      · exact Or.inr ⟨by omega, (if_neg (fun t => y (a1.mp t))).trans (if_pos (a2.mpr y2))⟩
      · exact Or.inl ⟨by omega, (if_neg (fun t => y (a1.mp t))).trans (if_neg (fun t => y2 (a2.mp t)))⟩
  · rw [hZ.1, hk, if_pos (nI_le (by omega) (by omega)), lC_out q]
    exact Or.inr ⟨isD_m1, rfl⟩
theorem fig_succ (n : Nat) (x y : Int32) (w : T_Mo) : d_Mo_figures_L34 (n + 1) x y w = B_Mo_figures_L34 (d_Mo_figures_L34 n) x y w := rfl
theorem fig_stop (n : Nat) (w : T_Mo) : d_Mo_figures_L34 (n + 1) 0 0 (u_Mo_isWrong w 1) = some (0, u_Mo_isWrong w 1) := by
  rw [fig_succ]
  unfold B_Mo_figures_L34
  rw [if_neg (by decide)]
  exact if_neg n10
theorem fig_bad (hw : ¬ q_Mo_isWrong w = 0) : d_Mo_figures w = some (0, u_Mo_isWrong w 1) := by
  unfold d_Mo_figures
  rw [if_neg hw]
  exact fig_stop 999 w
theorem fig_a {x : Int32} (n : Nat) (hw : q_Mo_isWrong w = 0) (hh : d_Mo_here w = some x) (hi : d_Mo_in x 48 57 = some 1) : d_Mo_figures_L34 (n + 1) 0 0 w = d_Mo_figures_L34 n ((10 * 0 + x) - 48) 1 (u_Mo_spot w (q_Mo_spot w + 1)) := by
  rw [fig_succ]
  unfold B_Mo_figures_L34
  rw [if_neg (by decide), if_pos hw, hh, Option.bind_some, hi, Option.bind_some, if_neg n10, if_pos rfl]
  rfl
theorem fig_b {x v : Int32} (n : Nat) (hw : q_Mo_isWrong w = 0) (hh : d_Mo_here w = some x) (hi : d_Mo_in x 48 57 = some 0) : d_Mo_figures_L34 (n + 1) v 1 w = some (v, w) := by
  rw [fig_succ]
  unfold B_Mo_figures_L34
  rw [if_neg (by decide), if_pos hw, hh, Option.bind_some, hi, Option.bind_some, if_pos rfl]
theorem fig_c {x v : Int32} (n : Nat) (hw : q_Mo_isWrong w = 0) (hh : d_Mo_here w = some x) (hi : d_Mo_in x 48 57 = some 1) (hv : v ≤ 0) : d_Mo_figures_L34 (n + 1) v 1 w = some (v, w) := by
  rw [fig_succ]
  unfold B_Mo_figures_L34
  rw [if_neg (by decide), if_pos hw, hh, Option.bind_some, hi, Option.bind_some, if_neg n10, if_neg n10, if_pos hv]
theorem fig_d {x v : Int32} (n : Nat) (hw : q_Mo_isWrong w = 0) (hh : d_Mo_here w = some x) (hi : d_Mo_in x 48 57 = some 1) (hv : ¬ v ≤ 0) : d_Mo_figures_L34 (n + 2) v 1 w = some ((10 * v + x) - 48, u_Mo_spot w (q_Mo_spot w + 1)) := by
  rw [fig_succ]
  unfold B_Mo_figures_L34
  rw [if_neg (by decide), if_pos hw, hh, Option.bind_some, hi, Option.bind_some, if_neg n10, if_neg n10, if_neg hv]
  show d_Mo_figures_L34 (n + 1) ((10 * v + x) - 48) 2 (u_Mo_spot w (q_Mo_spot w + 1)) = _
  rw [fig_succ]
  unfold B_Mo_figures_L34
  exact if_pos (by decide)
theorem num_eq {x : Int32} (hx : q_Rd_place z = x) : d_Rd_number z = (d_Rd_digitHere z).bind fun v1 => if v1 = 0 then some (-1, z) else (if inb x 100 = true then (if (q_Rd_text z x.toNatClampNeg - 48) = 0 then some (q_Rd_text z x.toNatClampNeg - 48, u_Rd_place z (x + 1)) else (d_Rd_digitHere (u_Rd_place z (x + 1))).bind fun v5 => if v5 = 0 then some (q_Rd_text z x.toNatClampNeg - 48, u_Rd_place z (x + 1)) else (if inb (x + 1) 100 = true then some (((q_Rd_text z x.toNatClampNeg - 48) * 10 + q_Rd_text z (x + 1).toNatClampNeg) - 48, u_Rd_place z (x + 1 + 1)) else none)) else none) := by
  subst hx
  rfl
theorem pNum (hS : LdS w0 h e tx k p cl ops z w) : (∃ n k' w', n ≤ 99 ∧ k < k' ∧ d_Rd_number z = some (nI n, u_Rd_place z (nI k')) ∧ d_Mo_figures w = some (nI n, w') ∧ LdS w0 h e tx k' (p + (k' - k)) cl ops (u_Rd_place z (nI k')) w' ∧ q_Mo_open w' = q_Mo_open w) ∨ (∃ w', d_Rd_number z = some (-1, z) ∧ d_Mo_figures w = some (0, w') ∧ LdB w0 h e tx z w') := by
  have hH := hS.1
  have hZ := hS.2.1
  have hk := hS.2.2.2.1.1
  have hsp := hS.2.2.2.1.2.1
  have hk9 := hS.2.2.2.1.2.2
  have h100 := hH.2.1
  rw [num_eq hk]
  unfold d_Mo_figures
  rw [if_pos hS.nw, hS.here, Option.bind_some]
  rcases in_dig hH k with ⟨y1, y2⟩ | ⟨y1, y2⟩
  · left
    have q : k < e := lC_lt (x := lC tx e k) (fun t => isD_m1 (t ▸ y1)) rfl
    rcases Rd_dig hH hZ hk hk9 with ⟨-, y3⟩ | ⟨y3, -⟩
    · obtain ⟨d, hd, hc⟩ := id y1
      have e2 : inb (nI k) 100 = true := inb_n (by omega) (by omega)
      have e3 : (nI k).toNatClampNeg = k := nI_clamp (by omega)
      have e4 : q_Rd_text z k = nI (48 + d) := (hZ.2 k q).trans ((lC_in q).symm.trans hc)
      have e5 : nI (48 + d) - 48 = nI d := by
        show nI (48 + d) - nI 48 = nI d
        rw [pk_sub (by omega), show 48 + d - 48 = d by omega]
      have e6 : (nI d = 0) ↔ d = 0 := nI_eq (b := 0) (by omega) (by omega)
      rw [y3, y2, Option.bind_some, Option.bind_some, if_neg n10, if_neg n10, if_pos e2, e3, e4, e5, nI_1]
      have hS1 := hS.zero.go (k' := k + 1) (by omega) (by omega)
      have hm : d_Mo_figures_L34 1000 0 0 (u_Mo_isWrong w 0) = d_Mo_figures_L34 999 (nI d) 1 (u_Mo_spot (u_Mo_isWrong w 0) (nI (k + 1))) := by
        refine (fig_a 999 rfl hS.zero.here y2).trans ?_
        have e7 : (10 * 0 + lC tx e k : Int32) - 48 = nI d := by
          rw [hc]
          show (nI 10 * nI 0 + nI (48 + d)) - nI 48 = nI d
          rw [pk_mul, nI_add, pk_sub (by omega), show 10 * 0 + (48 + d) - 48 = d by omega]
        rw [e7]
        show d_Mo_figures_L34 999 (nI d) 1 (u_Mo_spot (u_Mo_isWrong w 0) (q_Mo_spot w + 1)) = _
        rw [hsp, nI_1]
      rw [hm]
      by_cases d0 : d = 0
      · rw [if_pos (e6.mpr d0)]
        refine ⟨d, k + 1, u_Mo_spot (u_Mo_isWrong w 0) (nI (k + 1)), by omega, by omega, rfl, ?_, hS1, rfl⟩
        rcases in_dig hH (k + 1) with ⟨x1, x2⟩ | ⟨x1, x2⟩
        · exact fig_c 998 rfl hS1.here x2 (by subst d0; decide)
        · exact fig_b 998 rfl hS1.here x2
      · rw [if_neg (fun t => d0 (e6.mp t))]
        rcases in_dig hH (k + 1) with ⟨x1, x2⟩ | ⟨x1, x2⟩
        · have q1 : k + 1 < e := lC_lt (x := lC tx e (k + 1)) (fun t => isD_m1 (t ▸ x1)) rfl
          obtain ⟨d1, hd1, hc1⟩ := id x1
          have x3 : d_Rd_digitHere (u_Rd_place z (nI (k + 1))) = some 1 := by
            rcases Rd_dig (k := k + 1) hH hS1.2.1 rfl (by omega) with ⟨-, t⟩ | ⟨t, -⟩
            · exact t
            · exact absurd x1 t
          have f2 : inb (nI (k + 1)) 100 = true := inb_n (by omega) (by omega)
          have f3 : (nI (k + 1)).toNatClampNeg = k + 1 := nI_clamp (by omega)
          have f4 : q_Rd_text z (k + 1) = nI (48 + d1) := (hZ.2 (k + 1) q1).trans ((lC_in q1).symm.trans hc1)
          have f5 : nI d * 10 + nI (48 + d1) - 48 = nI (10 * d + d1) := by
            show nI d * nI 10 + nI (48 + d1) - nI 48 = _
            rw [pk_mul, nI_add, pk_sub (by omega), show d * 10 + (48 + d1) - 48 = 10 * d + d1 by omega]
          rw [x3, Option.bind_some, if_neg n10, if_pos f2, f3, f4, f5, nI_1]
          refine ⟨10 * d + d1, k + 1 + 1, u_Mo_spot (u_Mo_spot (u_Mo_isWrong w 0) (nI (k + 1))) (nI (k + 1 + 1)), by omega, by omega, rfl, ?_, (hS1.go (k' := k + 1 + 1) (by omega) (by omega)).weak (by omega), rfl⟩
          refine (fig_d 997 rfl hS1.here x2 (nI_nle (by omega) (by omega))).trans ?_
          have e8 : (10 * nI d + lC tx e (k + 1) : Int32) - 48 = nI (10 * d + d1) := by
            rw [hc1]
            show (nI 10 * nI d + nI (48 + d1)) - nI 48 = _
            rw [pk_mul, nI_add, pk_sub (by omega), show 10 * d + (48 + d1) - 48 = 10 * d + d1 by omega]
          rw [e8]
          show some (nI (10 * d + d1), u_Mo_spot (u_Mo_spot (u_Mo_isWrong w 0) (nI (k + 1))) (nI (k + 1) + 1)) = _
          rw [nI_1]
        · have x3 : d_Rd_digitHere (u_Rd_place z (nI (k + 1))) = some 0 := by
            rcases Rd_dig (k := k + 1) hH hS1.2.1 rfl (by omega) with ⟨t, -⟩ | ⟨-, t⟩
            · exact absurd t x1
            · exact t
          rw [x3, Option.bind_some, if_pos rfl]
          exact ⟨d, k + 1, u_Mo_spot (u_Mo_isWrong w 0) (nI (k + 1)), by omega, by omega, rfl, fig_b 998 rfl hS1.here x2, hS1, rfl⟩
    · exact absurd y1 y3
  · right
    rcases Rd_dig hH hZ hk hk9 with ⟨y3, -⟩ | ⟨-, y3⟩
    · exact absurd y3 y1
    · rw [y3, y2, Option.bind_some, Option.bind_some, if_pos rfl, if_pos rfl]
      exact ⟨u_Mo_isWrong w 1, rfl, fig_stop 999 w, hS.bad hS.2.2.1 hsp rfl⟩
def lx4 (x : Int32) : Int32 := if x = 112 then 0 else if x = 107 then 1 else if x = 97 then 2 else if x = 116 then 3 else if x = 119 then 4 else if x = 121 then 5 else (-1)
def lx5 (x : Int32) : Int32 := if x = 60 then 0 else if x = 61 then 1 else if x = 62 then 2 else (-1)
theorem ix4 : ∀ c, c < 128 → d_JS_indexOf 4 (nI c) = some (lx4 (nI c)) := by decide +kernel
theorem ix5 : ∀ c, c < 128 → d_JS_indexOf 5 (nI c) = some (lx5 (nI c)) := by decide +kernel
theorem lx4_c : ∀ c, c < 128 → lx4 (nI c) = -1 ∨ ((lx4 (nI c)).toNatClampNeg < 6 ∧ lx4 (nI c) = nI (lx4 (nI c)).toNatClampNeg) := by decide +kernel
theorem lx5_c : ∀ c, c < 128 → lx5 (nI c) = -1 ∨ ((lx5 (nI c)).toNatClampNeg < 3 ∧ lx5 (nI c) = nI (lx5 (nI c)).toNatClampNeg) := by decide +kernel
theorem am_succ (t n : Nat) (w : T_Mo) (j : Int32) : d_Mo_among_L2 t w (n + 1) j = B_Mo_among_L2 t w (d_Mo_among_L2 t w n) j := rfl
theorem am_y {t n : Nat} {j L c x : Int32} (hl : d_JS_length t = some L) (h1 : ¬ L ≤ j) (hc : d_JS_charAt t j = some c) (hh : d_Mo_here w = some x) : d_Mo_among_L2 t w (n + 1) j = if x = c then some (j, u_Mo_spot w (q_Mo_spot w + 1)) else d_Mo_among_L2 t w n (j + 1) := by
  rw [am_succ]
  unfold B_Mo_among_L2
  rw [hl, Option.bind_some, if_neg h1, hh, Option.bind_some, hc, Option.bind_some]
theorem am_e {t n : Nat} {j L : Int32} (hl : d_JS_length t = some L) (h1 : L ≤ j) : d_Mo_among_L2 t w (n + 1) j = some (-1, w) := by
  rw [am_succ]
  unfold B_Mo_among_L2
  rw [hl, Option.bind_some, if_pos h1]
theorem among4 {x : Int32} (hh : d_Mo_here w = some x) : d_Mo_among 4 w = some (lx4 x, if lx4 x = -1 then w else u_Mo_spot w (q_Mo_spot w + 1)) := by
  have hl : d_JS_length 4 = some 6 := by decide +kernel
  unfold d_Mo_among
  rw [show (1000 : Nat) = 993 + 1 + 1 + 1 + 1 + 1 + 1 + 1 from rfl, am_y (c := 112) hl (by decide) (by decide +kernel) hh, am_y (c := 107) hl (by decide) (by decide +kernel) hh, am_y (c := 97) hl (by decide) (by decide +kernel) hh, am_y (c := 116) hl (by decide) (by decide +kernel) hh, am_y (c := 119) hl (by decide) (by decide +kernel) hh, am_y (c := 121) hl (by decide) (by decide +kernel) hh, am_e hl (by decide)]
  unfold lx4
  by_cases a1 : x = 112
  · subst a1; rfl
  by_cases a2 : x = 107
  · subst a2; rfl
  by_cases a3 : x = 97
  · subst a3; rfl
  by_cases a4 : x = 116
  · subst a4; rfl
  by_cases a5 : x = 119
  · subst a5; rfl
  by_cases a6 : x = 121
  · subst a6; rfl
  simp only [a1, a2, a3, a4, a5, a6, if_false, if_true]
theorem among5 {x : Int32} (hh : d_Mo_here w = some x) : d_Mo_among 5 w = some (lx5 x, if lx5 x = -1 then w else u_Mo_spot w (q_Mo_spot w + 1)) := by
  have hl : d_JS_length 5 = some 3 := by decide +kernel
  unfold d_Mo_among
  rw [show (1000 : Nat) = 996 + 1 + 1 + 1 + 1 from rfl, am_y (c := 60) hl (by decide) (by decide +kernel) hh, am_y (c := 61) hl (by decide) (by decide +kernel) hh, am_y (c := 62) hl (by decide) (by decide +kernel) hh, am_e hl (by decide)]
  unfold lx5
  by_cases a1 : x = 60
  · subst a1; rfl
  by_cases a2 : x = 61
  · subst a2; rfl
  by_cases a3 : x = 62
  · subst a3; rfl
  simp only [a1, a2, a3, if_false, if_true]
theorem oneOf_eq {t : Nat} (hH : LdH w0 h e tx) (hZ : LdZ e tx z) (hk : q_Rd_place z = nI k) (q : k < e) : d_Rd_oneOf t z = (d_JS_indexOf t (nI (tx k))).bind fun v => if v < 0 then some (v, z) else some (v, u_Rd_place z (nI (k + 1))) := by
  have h100 := hH.2.1
  have hc := (hH.2.2 k q).2
  have e2 : inb (nI k) 100 = true := inb_n (by omega) (by omega)
  have e3 : (nI k).toNatClampNeg = k := nI_clamp (by omega)
  unfold d_Rd_oneOf
  rw [hk, hZ.1, if_pos (nI_lt q (by omega)), if_pos e2, e3, hZ.2 k q, pk_char, pk_tn (by omega), Nat.mod_eq_of_lt (by omega), nI_1]
theorem pOne4 (hS : LdS w0 h e tx k p cl ops z w) : (∃ l, l < 6 ∧ k < e ∧ d_Rd_oneOf 4 z = some (nI l, u_Rd_place z (nI (k + 1))) ∧ d_Mo_among 4 w = some (nI l, u_Mo_spot w (nI (k + 1)))) ∨ (d_Rd_oneOf 4 z = some (-1, z) ∧ d_Mo_among 4 w = some (-1, w)) := by
  have hh := hS.here
  have hH := hS.1
  have h100 := hH.2.1
  have hk := hS.2.2.2.1.1
  have hsp := hS.2.2.2.1.2.1
  have hk9 := hS.2.2.2.1.2.2
  by_cases q : k < e
  · rw [lC_in q] at hh
    have hc := (hH.2.2 k q).2
    rw [among4 hh, hsp, nI_1, oneOf_eq hH hS.2.1 hk q, ix4 _ (by omega), Option.bind_some]
    rcases lx4_c (tx k) (by omega) with y | ⟨y1, y2⟩
    · right
      rw [y]
      exact ⟨if_pos (by decide), by rw [if_pos rfl]⟩
    · left
      generalize (lx4 (nI (tx k))).toNatClampNeg = l at *
      rw [y2]
      exact ⟨l, y1, q, if_neg (nI_pos (by omega)), by rw [if_neg (nI_m1 l (by omega))]⟩
  · right
    rw [lC_out q] at hh
    rw [among4 hh]
    refine ⟨?_, rfl⟩
    unfold d_Rd_oneOf
    rw [hk, hS.2.1.1]
    exact if_neg (nI_nlt (by omega) (by omega))
theorem pOne5 (hS : LdS w0 h e tx k p cl ops z w) : (∃ l, l < 3 ∧ k < e ∧ d_Rd_oneOf 5 z = some (nI l, u_Rd_place z (nI (k + 1))) ∧ d_Mo_among 5 w = some (nI l, u_Mo_spot w (nI (k + 1)))) ∨ (d_Rd_oneOf 5 z = some (-1, z) ∧ d_Mo_among 5 w = some (-1, w)) := by
  have hh := hS.here
  have hH := hS.1
  have h100 := hH.2.1
  have hk := hS.2.2.2.1.1
  have hsp := hS.2.2.2.1.2.1
  have hk9 := hS.2.2.2.1.2.2
  by_cases q : k < e
  · rw [lC_in q] at hh
    have hc := (hH.2.2 k q).2
    rw [among5 hh, hsp, nI_1, oneOf_eq hH hS.2.1 hk q, ix5 _ (by omega), Option.bind_some]
    rcases lx5_c (tx k) (by omega) with y | ⟨y1, y2⟩
    · right
      rw [y]
      exact ⟨if_pos (by decide), by rw [if_pos rfl]⟩
    · left
      generalize (lx5 (nI (tx k))).toNatClampNeg = l at *
      rw [y2]
      exact ⟨l, y1, q, if_neg (nI_pos (by omega)), by rw [if_neg (nI_m1 l (by omega))]⟩
  · right
    rw [lC_out q] at hh
    rw [among5 hh]
    refine ⟨?_, rfl⟩
    unfold d_Rd_oneOf
    rw [hk, hS.2.1.1]
    exact if_neg (nI_nlt (by omega) (by omega))
theorem gD_lt {α : Type} (l : List α) (q d : α) {j : Nat} (hj : j < l.length) : (l ++ [q]).getD j d = l.getD j d := by
  simp [List.getD_eq_getElem?_getD, List.getElem?_append_left hj]
theorem gD_eq {α : Type} (l : List α) (q d : α) : (l ++ [q]).getD l.length d = q := by
  simp [List.getD_eq_getElem?_getD]
theorem LaR.keep {L L' : T_La} : ∀ (cl : CL) (i c : Nat), (∀ j, i ≤ j → j < i + cl.length → q_La_word L' j = q_La_word L j ∧ q_La_n L' j = q_La_n L j ∧ q_La_end L' j = q_La_end L j) → (∀ j, j < c + szO cl → q_La_code L' j = q_La_code L j) → LaR L i c cl → LaR L' i c cl
  | [], _, _, _, _, _ => trivial
  | q :: r, i, c, h1, h2, h => by
    have hz : szO (q :: r) = q.2.2.length + szO r := rfl
    simp only [List.length_cons] at h1
    obtain ⟨a, b, d, e, f⟩ := h
    have h3 := h1 i (Nat.le_refl _) (by omega)
    refine ⟨h3.1.trans a, h3.2.1.trans b, h3.2.2.trans d, fun j hj => (h2 _ (by omega)).trans (e j hj), LaR.keep r _ _ (fun j a b => h1 j (by omega) (by omega)) (fun j hj => h2 j (by omega)) f⟩
theorem LmR.keep {s s' : Nat → Int32} : ∀ (cl : CL) (m : Nat), (∀ i, m ≤ i → i < m + (szO cl + cl.length) → s' i = s i) → LmR s m cl → LmR s' m cl
  | [], _, _, _ => trivial
  | q :: r, m, hs, h => by
    have hz : szO (q :: r) = q.2.2.length + szO r := rfl
    simp only [List.length_cons] at hs
    exact ⟨fun j hj => by rw [hs _ (by omega) (by omega)]; exact h.1 j hj, by rw [hs _ (by omega) (by omega)]; exact h.2.1, LmR.keep r _ (fun i a b => hs i (by omega) (by omega)) h.2.2⟩
theorem LaR.snoc {L : T_La} (q : Nat × Nat × List (Nat × Nat × Nat)) : ∀ (cl : CL) (i c : Nat), LaR L i c cl → q_La_word L (i + cl.length) = nI q.1 → q_La_n L (i + cl.length) = nI q.2.1 → q_La_end L (i + cl.length) = nI (c + szO cl + q.2.2.length) → (∀ j, j < q.2.2.length → q_La_code L (c + szO cl + j) = cO (q.2.2.getD j (0, 0, 0))) → LaR L i c (cl ++ [q])
  | [], _, _, _, a, b, d, f => ⟨a, b, d, f, trivial⟩
  | y :: r, i, c, h, a, b, d, f => by
    have hz : szO (y :: r) = y.2.2.length + szO r := rfl
    simp only [List.length_cons] at a b d
    rw [hz] at d f
    refine ⟨h.1, h.2.1, h.2.2.1, h.2.2.2.1, LaR.snoc q r (i + 1) (c + y.2.2.length) h.2.2.2.2 ?_ ?_ ?_ ?_⟩
    · rw [show i + 1 + r.length = i + (r.length + 1) by omega]; exact a
    · rw [show i + 1 + r.length = i + (r.length + 1) by omega]; exact b
    · rw [show i + 1 + r.length = i + (r.length + 1) by omega, Nat.add_assoc c]; exact d
    · rw [Nat.add_assoc c]; exact f
theorem LmR.snoc {s : Nat → Int32} (q : Nat × Nat × List (Nat × Nat × Nat)) : ∀ (cl : CL) (m : Nat), LmR s m cl → (∀ j, j < q.2.2.length → s (m + (szO cl + cl.length) + j) = mO (q.2.2.getD j (0, 0, 0))) → s (m + (szO cl + cl.length) + q.2.2.length) = eM q.1 q.2.1 → LmR s m (cl ++ [q])
  | [], _, _, a, b => ⟨a, b, trivial⟩
  | y :: r, m, h, a, b => by
    have hz : szO (y :: r) = y.2.2.length + szO r := rfl
    simp only [List.length_cons] at a b
    rw [hz] at a b
    refine ⟨h.1, h.2.1, LmR.snoc q r _ h.2.2 (fun j hj => ?_) ?_⟩
    · rw [show m + y.2.2.length + 1 + (szO r + r.length) + j = m + (y.2.2.length + szO r + (r.length + 1)) + j by omega]; exact a j hj
    · rw [show m + y.2.2.length + 1 + (szO r + r.length) + q.2.2.length = m + (y.2.2.length + szO r + (r.length + 1)) + q.2.2.length by omega]; exact b
theorem szO_snoc (q : Nat × Nat × List (Nat × Nat × Nat)) : ∀ cl : CL, szO (cl ++ [q]) = szO cl + q.2.2.length
  | [] => by show q.2.2.length + 0 = 0 + q.2.2.length; omega
  | y :: r => by
    show y.2.2.length + szO (r ++ [q]) = y.2.2.length + szO r + q.2.2.length
    rw [szO_snoc q r, Nat.add_assoc]
theorem pEmit {q : Nat × Nat × Nat} {x y : Int32} (hS : LdS w0 h e tx k (p + 1) cl ops z w) (hq : okO q) (hx : x = cO q) (hy : y = mO q) : ∃ dr' w', d_La_emit x (q_Rd_draft z) = some dr' ∧ d_Mo_emits y w = some w' ∧ LdS w0 h e tx k p cl (ops ++ [q]) (u_Rd_draft z dr') w' ∧ q_Mo_open w' = q_Mo_open w := by
  obtain ⟨a, b, c, d, f, g, ⟨i1, i2, i3, i4⟩, ⟨j1, j2, j3⟩, l1, l2⟩ := hS
  have h4 := a.1
  have h100 := a.2.1
  have hke := d.2.2
  obtain ⟨c1, c2, c3, c4⟩ := c
  generalize hN : szO cl + ops.length = N at *
  have hM : szO cl + cl.length + ops.length = N + cl.length := by omega
  rw [hM] at j1 g
  have e0 : ¬ (100 : Int32) ≤ nI N := nI_ge (b := 100) (by omega) (by omega)
  have e1 : inb (nI N) 100 = true := inb_n (by omega) (by omega)
  have e2 : (nI N).toNatClampNeg = N := nI_clamp (by omega)
  have e3 : inb (196 + nI h) 901 = true := in9 196 (by omega)
  have e4 : (196 + nI h).toNatClampNeg = 196 + h := cl9 196 (by omega)
  have e5 : (201 + 140 * nI h) + nI (N + cl.length) = nI (201 + 140 * h + (N + cl.length)) := by
    show nI 201 + nI 140 * nI h + nI (N + cl.length) = _
    rw [pk_mul, nI_add, nI_add]
  have e6 : inb (nI (201 + 140 * h + (N + cl.length))) 901 = true := inb_n (by omega) (by omega)
  have e7 : (nI (201 + 140 * h + (N + cl.length))).toNatClampNeg = 201 + 140 * h + (N + cl.length) := nI_clamp (by omega)
  refine ⟨u_La_codes (u_La_code (q_Rd_draft z) (upd (q_La_code (q_Rd_draft z)) N x)) (nI (N + 1)), u_Mo_s (u_Mo_s w (upd (q_Mo_s w) (201 + 140 * h + (N + cl.length)) y)) (upd (upd (q_Mo_s w) (201 + 140 * h + (N + cl.length)) y) (196 + h) (nI (N + cl.length + 1))), ?_, ?_, ?_, rfl⟩
  · unfold d_La_emit
    rw [i2, if_neg e0, if_pos e1, e2]
    show some (u_La_codes (u_La_code (q_Rd_draft z) (upd (q_La_code (q_Rd_draft z)) N x)) (nI N + 1)) = _
    rw [nI_1]
  · have hem : ∀ (A M : Int32), q_Mo_act w = A → q_Mo_s w (196 + A).toNatClampNeg = M → inb (196 + A) 901 = true → inb ((201 + 140 * A) + M) 901 = true → d_Mo_emits y w = some (u_Mo_s (u_Mo_s w (upd (q_Mo_s w) ((201 + 140 * A) + M).toNatClampNeg y)) (upd (upd (q_Mo_s w) ((201 + 140 * A) + M).toNatClampNeg y) (196 + A).toNatClampNeg (upd (q_Mo_s w) ((201 + 140 * A) + M).toNatClampNeg y (196 + A).toNatClampNeg + 1))) := by
      intro A M y1 y2 y3 y4
      subst y1
      subst y2
      unfold d_Mo_emits
      rw [if_pos f, if_pos y3, if_pos y4]
      exact (if_pos y3).trans (if_pos y3)
    rw [hem (nI h) (nI (N + cl.length)) c2 (by rw [e4]; exact j1) e3 (by rw [e5]; exact e6), e5, e7, e4, pk_un (by omega), j1, nI_1]
  · have hs : ∀ i, i ≠ 196 + h → i ≠ 201 + 140 * h + (N + cl.length) → upd (upd (q_Mo_s w) (201 + 140 * h + (N + cl.length)) y) (196 + h) (nI (N + cl.length + 1)) i = q_Mo_s w i := fun i a b => by rw [pk_un a, pk_un b]
    have hs1 : upd (upd (q_Mo_s w) (201 + 140 * h + (N + cl.length)) y) (196 + h) (nI (N + cl.length + 1)) (196 + h) = nI (N + cl.length + 1) := pk_us
    have hs2 : upd (upd (q_Mo_s w) (201 + 140 * h + (N + cl.length)) y) (196 + h) (nI (N + cl.length + 1)) (201 + 140 * h + (N + cl.length)) = y := by rw [pk_un (by omega), pk_us]
    refine ⟨a, b, ⟨c1, c2, fun i a b => ?_, c4⟩, d, f, by simp only [List.length_append, List.length_singleton]; omega, ⟨i1, ?_, ?_, ?_⟩, ⟨?_, ?_, ?_⟩, ?_, l2⟩
    · exact (hs i b (by omega)).trans (c3 i a b)
    · show nI (N + 1) = _
      simp only [List.length_append, List.length_singleton]
      rw [← Nat.add_assoc, hN]
    · refine LaR.keep (L := q_Rd_draft z) cl 0 0 (fun j _ _ => ⟨rfl, rfl, rfl⟩) (fun j hj => ?_) i3
      show upd (q_La_code (q_Rd_draft z)) N x j = q_La_code (q_Rd_draft z) j
      have : j ≠ N := by omega
      exact pk_un this
    · intro j hj
      simp only [List.length_append, List.length_singleton] at hj
      show upd (q_La_code (q_Rd_draft z)) N x (szO cl + j) = _
      by_cases t : j < ops.length
      · rw [pk_un (by omega), gD_lt _ _ _ t]
        exact i4 j t
      · have : j = ops.length := by omega
        subst this
        rw [gD_eq, hN, pk_us]
        exact hx
    · refine hs1.trans ?_
      simp only [List.length_append, List.length_singleton]
      rw [← Nat.add_assoc, hM]
    · exact LmR.keep cl _ (fun i a b => hs i (by omega) (by omega)) j2
    · intro j hj
      simp only [List.length_append, List.length_singleton] at hj
      show upd (upd (q_Mo_s w) (201 + 140 * h + (N + cl.length)) y) (196 + h) (nI (N + cl.length + 1)) _ = _
      by_cases t : j < ops.length
      · rw [hs _ (by omega) (by omega), gD_lt _ _ _ t]
        exact j3 j t
      · have : j = ops.length := by omega
        subst this
        rw [gD_eq, show 201 + 140 * h + (szO cl + cl.length) + ops.length = 201 + 140 * h + (N + cl.length) by omega, hs2]
        exact hy
    · intro q' hq'
      rcases List.mem_append.mp hq' with t | t
      · exact l1 q' t
      · rw [List.mem_singleton.mp t]; exact hq
end LR

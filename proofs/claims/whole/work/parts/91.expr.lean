/-! A LAND read: E, on both sides. -/
/-- d truths more at most n wait, and one is left -/
def dN (n : Nat) (Q : List (Nat × Nat × Nat)) : Prop := ∀ d, d + n ≤ 20 → dpO Q d = some (d + 1)
theorem dpO_app : ∀ (P Q : List (Nat × Nat × Nat)) (d : Nat), dpO (P ++ Q) d = (dpO P d).bind (dpO Q)
  | [], _, _ => rfl
  | q :: r, Q, d => by
    show (if q.1 < 6 then (if d < 20 then dpO (r ++ Q) (d + 1) else none) else if q.1 = 6 then (if 1 ≤ d then dpO (r ++ Q) d else none) else (if 2 ≤ d then dpO (r ++ Q) (d - 1) else none)) = (if q.1 < 6 then (if d < 20 then dpO r (d + 1) else none) else if q.1 = 6 then (if 1 ≤ d then dpO r d else none) else (if 2 ≤ d then dpO r (d - 1) else none)).bind (dpO Q)
    rw [dpO_app r Q, dpO_app r Q, dpO_app r Q]
    repeat' split
    all_goals rfl
/-- a step of both reads: A the class's, B the model's; from k on, the steps ops before it -/
def LdF (w0 : T_Mo) (h e : Nat) (tx : Nat → Nat) (k p : Nat) (cl : CL) (ops : List (Nat × Nat × Nat)) (n : Nat) (o : Int32) (A : Option (Int32 × T_Rd)) (B : Option T_Mo) : Prop :=
  ∃ b z' w', A = some (b, z') ∧ B = some w' ∧ ((b = 1 ∧ q_Mo_open w' = o ∧ ∃ Q k', k < k' ∧ LdS w0 h e tx k' p cl (ops ++ Q) z' w' ∧ dN n Q) ∨ (b = 0 ∧ LdB w0 h e tx z' w'))
/-- the model's test -/
def mT (z : T_Mo) : Option T_Mo :=
  (d_Mo_among 4 z).bind fun v => if v.1 = -1 then (d_Mo_figures (u_Mo_isWrong v.2 1)).bind fun f => (d_Mo_emits ((v.1 + 8 * 0) + 32 * f.1) f.2).bind fun r => some r
    else (d_Mo_among 5 (u_Mo_isWrong v.2 0)).bind fun g => if q_Mo_isWrong g.2 = 0 then (if g.1 = -1 then (d_Mo_figures (u_Mo_isWrong g.2 1)).bind fun f => (d_Mo_emits ((v.1 + 8 * g.1) + 32 * f.1) f.2).bind fun r => some r
      else (d_Mo_figures (u_Mo_isWrong g.2 0)).bind fun f => (d_Mo_emits ((v.1 + 8 * g.1) + 32 * f.1) f.2).bind fun r => some r) else (d_Mo_figures (u_Mo_isWrong g.2 1)).bind fun f => (d_Mo_emits ((v.1 + 8 * g.1) + 32 * f.1) f.2).bind fun r => some r
section LE2
variable {w0 : T_Mo} {h e : Nat} {tx : Nat → Nat} {k p : Nat} {cl : CL} {ops : List (Nat × Nat × Nat)} {z : T_Rd} {w : T_Mo}
theorem LdF.bad {n : Nat} {o : Int32} {A : Option (Int32 × T_Rd)} {B : Option T_Mo} {z' : T_Rd} {w' : T_Mo} (hA : A = some (0, z')) (hB : B = some w') (hL : LdB w0 h e tx z' w') : LdF w0 h e tx k p cl ops n o A B := ⟨0, z', w', hA, hB, Or.inr ⟨rfl, hL⟩⟩
theorem LdF.cong {n : Nat} {o : Int32} {A A' : Option (Int32 × T_Rd)} {B B' : Option T_Mo} (hA : A = A') (hB : B = B') (hF : LdF w0 h e tx k p cl ops n o A' B') : LdF w0 h e tx k p cl ops n o A B := by
  subst hA
  subst hB
  exact hF
theorem LdF.mono {n k' : Nat} {o : Int32} {A : Option (Int32 × T_Rd)} {B : Option T_Mo} (hk : k ≤ k') (hF : LdF w0 h e tx k' p cl ops n o A B) : LdF w0 h e tx k p cl ops n o A B := by
  obtain ⟨b, z', w', h1, h2, h3⟩ := hF
  refine ⟨b, z', w', h1, h2, ?_⟩
  rcases h3 with ⟨a, o1, Q, k1, c, d⟩ | a
  · exact Or.inl ⟨a, o1, Q, k1, by omega, d⟩
  · exact Or.inr a
theorem emits_bad {x : Int32} (hw : q_Mo_isWrong w = 1) : d_Mo_emits x w = some w := by
  unfold d_Mo_emits
  exact if_neg (by rw [hw]; exact n10)
theorem pTest (hS : LdS w0 h e tx k p cl ops z w) : LdF w0 h e tx k p cl ops 1 (q_Mo_open w) (d_Rd_test z) (mT w) := by
  have hke := hS.2.2.2.1.2.2
  unfold d_Rd_test mT
  rcases pOne4 hS with ⟨l, hl, hk, y1, y2⟩ | ⟨y1, y2⟩
  · have m1 : ¬ nI l = -1 := nI_m1 l (by omega)
    rw [y1, y2, Option.bind_some, Option.bind_some, if_neg m1, if_pos (nI_pos' (n := l) (by omega))]
    have hS1 : LdS w0 h e tx (k + 1) (p + (k + 1 - k)) cl ops (u_Rd_place z (nI (k + 1))) (u_Mo_isWrong (u_Mo_spot w (nI (k + 1))) 0) := (hS.go (k' := k + 1) (by omega) (by omega)).zero
    have e1 : q_Mo_open w = q_Mo_open (u_Mo_isWrong (u_Mo_spot w (nI (k + 1))) 0) := rfl
    rw [e1]
    show LdF w0 h e tx k p cl ops 1 _ _ ((d_Mo_among 5 (u_Mo_isWrong (u_Mo_spot w (nI (k + 1))) 0)).bind _)
    generalize u_Mo_isWrong (u_Mo_spot w (nI (k + 1))) 0 = w1 at *
    generalize u_Rd_place z (nI (k + 1)) = z1 at *
    rcases pOne5 hS1 with ⟨g, hg, hk1, x1, x2⟩ | ⟨x1, x2⟩
    · have m2 : ¬ nI g = -1 := nI_m1 g (by omega)
      rw [x1, x2, Option.bind_some, Option.bind_some, if_pos (nI_pos' (n := g) (by omega))]
      have hS2 : LdS w0 h e tx (k + 1 + 1) (p + (k + 1 - k) + (k + 1 + 1 - (k + 1))) cl ops (u_Rd_place z1 (nI (k + 1 + 1))) (u_Mo_isWrong (u_Mo_spot w1 (nI (k + 1 + 1))) 0) := (hS1.go (k' := k + 1 + 1) (by omega) (by omega)).zero
      have e2 : q_Mo_open w1 = q_Mo_open (u_Mo_isWrong (u_Mo_spot w1 (nI (k + 1 + 1))) 0) := rfl
      rw [e2]
      have hw1 : q_Mo_isWrong (u_Mo_spot w1 (nI (k + 1 + 1))) = 0 := hS1.nw
      refine LdF.cong rfl ((if_pos hw1).trans (if_neg m2)) ?_
      show LdF w0 h e tx k p cl ops 1 _ _ ((d_Mo_figures (u_Mo_isWrong (u_Mo_spot w1 (nI (k + 1 + 1))) 0)).bind _)
      generalize u_Mo_isWrong (u_Mo_spot w1 (nI (k + 1 + 1))) 0 = w2 at *
      generalize u_Rd_place z1 (nI (k + 1 + 1)) = z2 at *
      rcases pNum hS2 with ⟨n, k3, w3, hn, hk3, v1, v2, hS3, o3⟩ | ⟨w3, v1, v2, hB⟩
      · rw [v1, v2, Option.bind_some, Option.bind_some, if_pos (nI_pos' (n := n) (by omega))]
        have c1 : nI l * 1000 + nI g * 100 + nI n = cO (l, g, n) := by
          show nI l * nI 1000 + nI g * nI 100 + nI n = _
          rw [pk_mul, pk_mul, nI_add, nI_add, show l * 1000 + g * 100 + n = 1000 * l + 100 * g + n by omega]
          exact (if_pos hl).symm
        have c2 : nI l + 8 * nI g + 32 * nI n = mO (l, g, n) := by
          show nI l + nI 8 * nI g + nI 32 * nI n = _
          rw [pk_mul, pk_mul, nI_add, nI_add]
          exact (if_pos hl).symm
        obtain ⟨dr, w4, g1, g2, g3, g4⟩ := pEmit (p := p + 1) (q := (l, g, n)) (hS3.weak (by omega)) ⟨Nat.le_of_lt (Nat.lt_of_lt_of_le hl (by omega)), hg, hn⟩ c1 c2
        refine ⟨1, u_Rd_draft (u_Rd_place z2 (nI k3)) dr, w4, ?_, ?_, Or.inl ⟨rfl, g4.trans o3, [(l, g, n)], k3, by omega, g3.weak (by omega), fun d hd => ?_⟩⟩
        · show (d_La_emit (nI l * 1000 + nI g * 100 + nI n) (q_Rd_draft (u_Rd_place z2 (nI k3)))).bind _ = _
          rw [g1]
          rfl
        · show (d_Mo_emits (nI l + 8 * nI g + 32 * nI n) w3).bind _ = _
          rw [g2]
          rfl
        · show (if l < 6 then (if d < 20 then some (d + 1) else none) else _) = _
          rw [if_pos hl, if_pos (by omega)]
      · rw [v1, v2, Option.bind_some, Option.bind_some]
        refine LdF.bad (if_neg (show ¬ (0 : Int32) ≤ -1 by decide)) ?_ hB
        rw [hB.emits, Option.bind_some]
    · have hw1 : q_Mo_isWrong w1 = 0 := hS1.nw
      rw [x1, x2, Option.bind_some, Option.bind_some]
      have hB : LdB w0 h e tx z1 (u_Mo_isWrong (u_Mo_isWrong w1 1) 1) := hS1.bad hS1.2.2.1 hS1.2.2.2.1.2.1 rfl
      refine LdF.bad (z' := z1) (if_neg (show ¬ (0 : Int32) ≤ -1 by decide)) ?_ hB
      refine ((if_pos hw1).trans (if_pos rfl)).trans ?_
      show (d_Mo_figures (u_Mo_isWrong w1 1)).bind _ = _
      rw [fig_bad (w := u_Mo_isWrong w1 1) n10, Option.bind_some, hB.emits, Option.bind_some]
  · rw [y1, y2, Option.bind_some, Option.bind_some]
    have hB : LdB w0 h e tx z (u_Mo_isWrong (u_Mo_isWrong w 1) 1) := hS.bad hS.2.2.1 hS.2.2.2.1.2.1 rfl
    refine LdF.bad (z' := z) (if_neg (show ¬ (0 : Int32) ≤ -1 by decide)) ?_ hB
    refine (if_pos rfl).trans ?_
    show (d_Mo_figures (u_Mo_isWrong w 1)).bind _ = _
    rw [fig_bad (w := u_Mo_isWrong w 1) n10, Option.bind_some, hB.emits, Option.bind_some]
/-! The model's factor, by its first sign. -/
section MF
variable {rc : (T_Mo → Option T_Mo) × (T_Mo → Option T_Mo) × (T_Mo → Option T_Mo)}
theorem mF_not (hw : q_Mo_isWrong w = 0) (hh : d_Mo_here w = some 33) (ho : ¬ q_Mo_open w = 5) : B_Mo_factor rc w = (rc.2.1 (u_Mo_spot (u_Mo_open (u_Mo_isWrong w 0) (q_Mo_open w + 1)) (q_Mo_spot w + 1))).bind fun v => (d_Mo_emits (-1) v).bind fun v => some (u_Mo_open v (q_Mo_open v - 1)) := by
  unfold B_Mo_factor
  rw [if_pos hw, hh, Option.bind_some, if_pos rfl, if_neg ho]
  exact (if_pos rfl).trans (if_pos rfl)
theorem mF_not5 (hw : q_Mo_isWrong w = 0) (hh : d_Mo_here w = some 33) (ho : q_Mo_open w = 5) : B_Mo_factor rc w = (rc.2.1 (u_Mo_spot (u_Mo_open (u_Mo_isWrong w 1) (q_Mo_open w + 1)) (q_Mo_spot w + 0))).bind fun v => (d_Mo_emits (-1) v).bind fun v => some (u_Mo_open v (q_Mo_open v - 1)) := by
  unfold B_Mo_factor
  rw [if_pos hw, hh, Option.bind_some, if_pos rfl, if_pos ho]
  exact (if_neg n10).trans (if_pos rfl)
theorem n40 : ¬ (40 : Int32) = 33 := by decide
theorem mF_par (hw : q_Mo_isWrong w = 0) (hh : d_Mo_here w = some 40) (ho : ¬ q_Mo_open w = 5) : B_Mo_factor rc w = (rc.2.2 (u_Mo_spot (u_Mo_open (u_Mo_isWrong w 0) (q_Mo_open w + 1)) (q_Mo_spot w + 1))).bind fun v => (d_Mo_must 41 v).bind fun v => some (u_Mo_open v (q_Mo_open v - 1)) := by
  unfold B_Mo_factor
  rw [if_pos hw, hh, Option.bind_some, if_neg n40, if_pos rfl, if_neg ho]
  exact (if_pos rfl).trans (if_neg n40)
theorem mF_par5 (hw : q_Mo_isWrong w = 0) (hh : d_Mo_here w = some 40) (ho : q_Mo_open w = 5) : B_Mo_factor rc w = (rc.2.2 (u_Mo_spot (u_Mo_open (u_Mo_isWrong w 1) (q_Mo_open w + 1)) (q_Mo_spot w + 0))).bind fun v => (d_Mo_must 41 v).bind fun v => some (u_Mo_open v (q_Mo_open v - 1)) := by
  unfold B_Mo_factor
  rw [if_pos hw, hh, Option.bind_some, if_neg n40, if_pos rfl, if_pos ho]
  exact (if_neg n10).trans (if_neg n40)
theorem mF_bad (hw : ¬ q_Mo_isWrong w = 0) : B_Mo_factor rc w = some w := by
  unfold B_Mo_factor
  exact if_neg hw
theorem mF_test {x : Int32} (hS : LdS w0 h e tx k p cl ops z w) (hh : d_Mo_here w = some x) (h1 : ¬ x = 33) (h2 : ¬ x = 40) : B_Mo_factor rc w = mT w := by
  unfold B_Mo_factor mT
  rw [if_pos hS.nw, hh, Option.bind_some, if_neg h1, if_neg h2]
  congr 1
end MF
end LE2

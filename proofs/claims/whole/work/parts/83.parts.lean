/-! parts. -/
section DE
variable {z : T_St} {w : T_Mo} {np nt : Nat} {W O : Nat → Nat} {K : Nat → Nat → Nat} {L : Nat → Nat}
theorem St_dearestOf (h : SW z np nt W O K L) (r : RG np nt W O K L) {p : Nat} (hp : p < np) (S : Nat) : d_St_dearestOf (nI p) (nI S) z = some (oI (nF (fun t => S.testBit t) (nDe W (K p)) nt)) := by
  have h4 := r.1
  have h7 := r.2.1
  exact lpSe (z := fun _ _ => none) (B := fun self => B_St_dearestOf_L5 (nI p) (nI S) z self) (n := nt) oI (nFst (fun t => S.testBit t) (nDe W (K p))) (fun o => some (oI o)) (fun _ o => ∀ u, o = some u → u < nt)
    (by
      intro self t o ht hP
      have e2 : ¬ nI nt ≤ nI t := nI_ge ht (by omega)
      have z1 := oI_lt o (fun u hu => by have := hP u hu; omega)
      simp only [B_St_dearestOf_L5, h.2.1, e2, ow_testbit (show t < 32 by omega), z1, if_false, nI_1]
      cases o with
      | none =>
        by_cases q1 : S.testBit t = true
        · refine ⟨by simp [q1, nFst, oI], fun u hu => ?_⟩
          simp only [nFst, q1, if_true, Option.some.injEq] at hu
          omega
        · refine ⟨by simp [q1, nFst], fun u hu => ?_⟩
          simp [nFst, q1] at hu
      | some u =>
        have hu := hP u rfl
        have g1 : d_St_dearer (nI p) (nI t) (oI (some u)) z = some (bI (nDe W (K p) t u)) := St_dearer h r hp ht hu
        rw [g1]
        by_cases q1 : S.testBit t = true
        · by_cases q2 : nDe W (K p) t u = true
          · refine ⟨by simp [q1, q2, nFst, bI, oI], fun v hv => ?_⟩
            simp [nFst, q1, q2] at hv
            omega
          · refine ⟨by simp [q1, q2, nFst, bI], fun v hv => ?_⟩
            simp [nFst, q2] at hv
            omega
        · refine ⟨by simp [q1, nFst], fun v hv => ?_⟩
          simp [nFst, q1] at hv
          omega)
    (by
      intro self o _
      simp only [B_St_dearestOf_L5, h.2.1, Int32.le_refl, if_true])
    1000 0 none (Nat.zero_le _) (by omega) (fun u hu => by cases hu)
theorem Mo_dearestOf (h : MW w np nt W O K L) (r : RG np nt W O K L) {p : Nat} (hp : p < np) (S : Nat) : d_Mo_dearestOf (nI p) (nI S) w = some (oI (nF (fun t => S.testBit t) (nDe W (K p)) nt)) := by
  have h4 := r.1
  have h7 := r.2.1
  exact lpSe (z := fun _ _ => none) (B := fun self => B_Mo_dearestOf_L5 (nI p) (nI S) w self) (n := nt) oI (nFst (fun t => S.testBit t) (nDe W (K p))) (fun o => some (oI o)) (fun _ o => ∀ u, o = some u → u < nt)
    (by
      intro self t o ht hP
      have e2 : ¬ nI nt ≤ nI t := nI_ge ht (by omega)
      have z1 := oI_m1 o (fun u hu => by have := hP u hu; omega)
      simp only [B_Mo_dearestOf_L5, h.2.1.1, e2, ow_testbit (show t < 32 by omega), z1, if_false, nI_1]
      cases o with
      | none =>
        by_cases q1 : S.testBit t = true
        · refine ⟨by simp [q1, nFst, oI], fun u hu => ?_⟩
          simp only [nFst, q1, if_true, Option.some.injEq] at hu
          omega
        · refine ⟨by simp [q1, nFst], fun u hu => ?_⟩
          simp [nFst, q1] at hu
      | some u =>
        have hu := hP u rfl
        have o1 : oI (some u) = nI u := rfl
        have wt := r.2.2.1 t ht
        have wu := r.2.2.1 u hu
        have kt := r.2.2.2.2.1 p t hp ht
        have ku := r.2.2.2.2.1 p u hp hu
        have m1 := ow_mul50 kt.2 wu
        have m2 := ow_mul50 ku.2 wt
        have i1 : inb (nI (7 * p + t)) 28 = true := inb_n (by omega) (by omega)
        have d1 : (nI (7 * p + t)).toNatClampNeg = 7 * p + t := nI_clamp (by omega)
        have i2 : inb (nI (7 * p + u)) 28 = true := inb_n (by omega) (by omega)
        have d2 : (nI (7 * p + u)).toNatClampNeg = 7 * p + u := nI_clamp (by omega)
        have i3 : inb (58 + nI t) 901 = true := in9 58 (by omega)
        have d3 : (58 + nI t).toNatClampNeg = 58 + t := cl9 58 (by omega)
        have i4 : inb (58 + nI u) 901 = true := in9 58 (by omega)
        have d4 : (58 + nI u).toNatClampNeg = 58 + u := cl9 58 (by omega)
        simp only [o1, ow_7, i1, i2, i3, i4, d1, d2, d3, d4, h.2.1.2.1 t ht, h.2.1.2.1 u hu, h.2.2.1 p t hp ht, h.2.2.1 p u hp hu, pk_mul, nI_leI m1 m2, if_true, reduceCtorEq, if_false]
        by_cases q2 : K p t * W u ≤ K p u * W t
        · have q3 : nDe W (K p) t u = false := by unfold nDe; simp; omega
          rw [if_pos q2]
          refine ⟨by simp [q3, nFst, oI], fun v hv => ?_⟩
          simp [nFst, q3] at hv
          omega
        · have q3 : nDe W (K p) t u = true := by unfold nDe; simp; omega
          rw [if_neg q2]
          by_cases q1 : S.testBit t = true
          · refine ⟨by simp [q1, q3, nFst, oI], fun v hv => ?_⟩
            simp [nFst, q1, q3] at hv
            omega
          · refine ⟨by simp [q1, nFst, oI], fun v hv => ?_⟩
            simp [nFst, q1] at hv
            omega)
    (by
      intro self o _
      simp only [B_Mo_dearestOf_L5, h.2.1.1, Int32.le_refl, if_true])
    1000 0 none (Nat.zero_le _) (by omega) (fun u hu => by cases hu)
/-- PARTS: above and below, as they come -/
def paA (W k : Nat → Nat) (nt : Nat) : Nat → Nat → Nat → Nat → Nat × Nat
  | 0, _, _, sum => (sum, 1)
  | m + 1, left, S, sum => if S = 0 then (sum, 1) else match nF (fun t => S.testBit t) (nDe W k) nt with
    | none => (sum, 1)
    | some t => if left < W t then (sum * W t + k t * left, W t) else paA W k nt m (left - W t) (nWo S (2 ^ t)) (sum + k t)
def cnS (nt S : Nat) : Nat := nS (fun _ => 1) (fun t => S.testBit t) nt
theorem cnS_0 {nt S : Nat} (hS : S < 2 ^ nt) (h : cnS nt S = 0) : S = 0 := by
  apply Nat.eq_of_testBit_eq
  intro i
  rw [Nat.zero_testBit]
  by_cases hi : i < nt
  · cases hb : S.testBit i with
    | false => rfl
    | true =>
      have := nS_ge (f := fun _ => 1) (c := fun t => S.testBit t) nt hi hb
      unfold cnS at h
      omega
  · exact Nat.testBit_lt_two_pow (Nat.lt_of_lt_of_le hS (Nat.pow_le_pow_right (by omega) (by omega)))
theorem cnS_drop {nt S t : Nat} (hS : S < 128) (ht : t < nt) (hb : S.testBit t = true) : cnS nt S = cnS nt (nWo S (2 ^ t)) + 1 := by
  unfold cnS
  refine nS_one (f := fun _ => 1) (c := fun j => S.testBit j) (d := fun j => (nWo S (2 ^ t)).testBit j) (u := t) hb ?_ nt ht (fun j _ hj => ?_)
  · rw [nWo_bit hS, Nat.testBit_two_pow_self]; simp
  · have h2 : ¬ t = j := fun q => hj q.symm
    rw [nWo_bit hS, Nat.testBit_two_pow]
    simp [h2]
theorem nF_set {W k : Nat → Nat} {nt S : Nat} (hS : S < 2 ^ nt) (h0 : ¬ S = 0) : ∃ t, nF (fun t => S.testBit t) (nDe W k) nt = some t ∧ t < nt ∧ S.testBit t = true := by
  have hP := nF_P (fun t => S.testBit t) (nDe W k) nt
  cases hf : nF (fun t => S.testBit t) (nDe W k) nt with
  | none =>
    have := hP.2 hf
    exact absurd (cnS_0 hS (nS_none nt this)) h0
  | some t => exact ⟨t, rfl, hP.1 t hf⟩
theorem nWo_le_l (a b : Nat) : nWo a b ≤ a := Nat.and_le_left
/-- what the machines write of a part -/
theorem pa_top {sum wt kt left : Nat} (h1 : sum ≤ 7000) (h2 : wt ≤ 50) (h3 : kt ≤ 1000) (h4 : left ≤ 2000) : ((nI sum).toInt64 * (nI wt).toInt64) + ((nI kt).toInt64 * (nI left).toInt64) = lN (sum * wt + kt * left) ∧ sum * wt + kt * left < 2 ^ 62 := by
  rw [nI_l (by omega), nI_l (by omega), nI_l (by omega), nI_l (by omega), lN_mul, lN_mul, lN_add]
  have a1 := Nat.mul_le_mul h1 h2
  have a2 := Nat.mul_le_mul h3 h4
  exact ⟨rfl, by omega⟩
theorem St_fillL (h : SW z np nt W O K L) (r : RG np nt W O K L) {p : Nat} (hp : p < np) (y : T_Fr) : ∀ (j m n left S sum : Nat), n + j = nt → j < m → left ≤ 2000 → S < 2 ^ nt → cnS nt S ≤ j → sum + 1000 * j ≤ 7000 →
    d_St_fillByParts_L20 (nI p) z y (fun x5_20 => (d_Fr_put ((x5_20 : Int32).toInt64) 1 y).bind fun v_19 => some (v_19)) m (nI left) (nI S) (nI sum) (nI n) = some (lN ((paA W (K p) nt (j + 1) left S sum).1 / Nat.gcd (paA W (K p) nt (j + 1) left S sum).1 (paA W (K p) nt (j + 1) left S sum).2), lN ((paA W (K p) nt (j + 1) left S sum).2 / Nat.gcd (paA W (K p) nt (j + 1) left S sum).1 (paA W (K p) nt (j + 1) left S sum).2))
  | j, 0, _, _, _, _, _, hm, _, _, _, _ => by omega
  | j, m + 1, n, left, S, sum, hn, hm, hl, hS, hc, hs => by
    have h4 := r.1
    have h7 := r.2.1
    have h128 := pow_128 h7
    have hB : d_St_fillByParts_L20 (nI p) z y (fun x5_20 => (d_Fr_put ((x5_20 : Int32).toInt64) 1 y).bind fun v_19 => some (v_19)) (m + 1) (nI left) (nI S) (nI sum) (nI n) = B_St_fillByParts_L20 (nI p) z y (fun x5_20 => (d_Fr_put ((x5_20 : Int32).toInt64) 1 y).bind fun v_19 => some (v_19)) (d_St_fillByParts_L20 (nI p) z y (fun x5_20 => (d_Fr_put ((x5_20 : Int32).toInt64) 1 y).bind fun v_19 => some (v_19)) m) (nI left) (nI S) (nI sum) (nI n) := rfl
    have hend : ((d_Fr_put ((nI sum).toInt64) 1 y).bind fun v_19 => some (v_19)) = some (lN (sum / Nat.gcd sum 1), lN (1 / Nat.gcd sum 1)) := by
      rw [nI_l (by omega)]
      have := Fr_put (a := sum) (b := 1) (by omega) (by omega) (by omega) y
      have this : d_Fr_put (lN sum) 1 y = _ := this
      rw [this]
      rfl
    rw [hB]
    unfold B_St_fillByParts_L20 paA
    by_cases s0 : S = 0
    · rw [if_pos s0]
      have k0 : nI S = 0 := by rw [s0]; rfl
      rw [if_pos k0]
      refine Eq.trans ?_ hend
      exact ite_self _
    · rw [if_neg s0]
      have hj : 0 < j := by
        rcases Nat.eq_zero_or_pos j with q | q
        · exact absurd (cnS_0 hS (by omega)) s0
        · exact q
      obtain ⟨j', rfl⟩ : ∃ j', j = j' + 1 := ⟨j - 1, by omega⟩
      obtain ⟨t, ht1, ht2, ht3⟩ := nF_set (W := W) (k := K p) hS s0
      have e1 : ¬ nI nt ≤ nI n := nI_ge (by omega) (by omega)
      have e0 : ¬ nI S = 0 := nI_ne0 (by omega) (by omega)
      have i1 : inb (nI t) 7 = true := inb_n (by omega) (by omega)
      have c1 : (nI t).toNatClampNeg = t := nI_clamp (by omega)
      have i2 : inb (nI p) 4 = true := inb_n (by omega) (by omega)
      have c2 : (nI p).toNatClampNeg = p := nI_clamp (by omega)
      have wt := r.2.2.1 t ht2
      have kt := r.2.2.2.2.1 p t hp ht2
      have k1 : (nI (W t) ≤ nI left) ↔ W t ≤ left := nI_leI (by omega) (by omega)
      have o1 : oI (some t) = nI t := rfl
      rw [h.2.1, if_neg e1, if_neg e0, St_dearestOf h r hp S, ht1, o1]
      simp only [Option.bind_some, nI_pos' (show t < 2 ^ 31 by omega), i1, i2, c1, c2, h.2.2.1 t ht2, h.2.2.2.2.1 p t hp ht2, k1, if_true]
      by_cases q : W t ≤ left
      · rw [if_pos q, if_neg (show ¬ left < W t by omega), pk_sub q, nI_add, nI_1, ow_two (by omega), ow_wo _ (by omega)]
        have hd := cnS_drop (nt := nt) (S := S) (by omega) ht2 ht3
        exact St_fillL h r hp y j' m (n + 1) (left - W t) (nWo S (2 ^ t)) (sum + K p t) (by omega) (by omega) (by omega) (Nat.lt_of_le_of_lt (nWo_le_l _ _) hS) (by omega) (by omega)
      · rw [if_neg q, if_pos (show left < W t by omega)]
        obtain ⟨a1, a2⟩ := pa_top (sum := sum) (wt := W t) (kt := K p t) (left := left) (by omega) wt kt.2 hl
        rw [a1, nI_l (by omega), Fr_put (by omega) (by omega) a2]
        rfl
theorem Mo_partsL (h : MW w np nt W O K L) (r : RG np nt W O K L) {p : Nat} (hp : p < np) (x2 : Int32) : ∀ (j m left S sum : Nat), j < m → left ≤ 2000 → S < 2 ^ nt → cnS nt S ≤ j → sum + 1000 * j ≤ 7000 →
    d_Mo_parts_L42 (nI p) x2 w (fun x5_42 => if x2 = 0 then (some (x5_42, w)) else (some (1, w))) m (nI S) (nI left) (lN sum) = some (if x2 = 0 then lN ((paA W (K p) nt (j + 1) left S sum).1 / Nat.gcd (paA W (K p) nt (j + 1) left S sum).1 (paA W (K p) nt (j + 1) left S sum).2) else lN ((paA W (K p) nt (j + 1) left S sum).2 / Nat.gcd (paA W (K p) nt (j + 1) left S sum).1 (paA W (K p) nt (j + 1) left S sum).2), w)
  | j, 0, _, _, _, hm, _, _, _, _ => by omega
  | j, m + 1, left, S, sum, hm, hl, hS, hc, hs => by
    have h4 := r.1
    have h7 := r.2.1
    have h128 := pow_128 h7
    have hB : d_Mo_parts_L42 (nI p) x2 w (fun x5_42 => if x2 = 0 then (some (x5_42, w)) else (some (1, w))) (m + 1) (nI S) (nI left) (lN sum) = B_Mo_parts_L42 (nI p) x2 w (fun x5_42 => if x2 = 0 then (some (x5_42, w)) else (some (1, w))) (d_Mo_parts_L42 (nI p) x2 w (fun x5_42 => if x2 = 0 then (some (x5_42, w)) else (some (1, w))) m) (nI S) (nI left) (lN sum) := rfl
    rw [hB]
    unfold B_Mo_parts_L42 paA
    by_cases s0 : S = 0
    · rw [if_pos s0]
      have k0 : nI S = 0 := by rw [s0]; rfl
      rw [if_pos k0]
      show (if x2 = 0 then some (lN sum, w) else some (lN 1, w)) = some (if x2 = 0 then lN (sum / Nat.gcd sum 1) else lN (1 / Nat.gcd sum 1), w)
      rw [Nat.gcd_one_right, Nat.div_one, Nat.div_one]
      split <;> rfl
    · rw [if_neg s0]
      have hj : 0 < j := by
        rcases Nat.eq_zero_or_pos j with q | q
        · exact absurd (cnS_0 hS (by omega)) s0
        · exact q
      obtain ⟨j', rfl⟩ : ∃ j', j = j' + 1 := ⟨j - 1, by omega⟩
      obtain ⟨t, ht1, ht2, ht3⟩ := nF_set (W := W) (k := K p) hS s0
      have e0 : ¬ nI S = 0 := nI_ne0 (by omega) (by omega)
      have i1 : inb (58 + nI t) 901 = true := in9 58 (by omega)
      have c1 : (58 + nI t).toNatClampNeg = 58 + t := cl9 58 (by omega)
      have i2 : inb (nI (7 * p + t)) 28 = true := inb_n (by omega) (by omega)
      have c2 : (nI (7 * p + t)).toNatClampNeg = 7 * p + t := nI_clamp (by omega)
      have wt := r.2.2.1 t ht2
      have kt := r.2.2.2.2.1 p t hp ht2
      have k1 : (nI (W t) ≤ nI left) ↔ W t ≤ left := nI_leI (by omega) (by omega)
      have o1 : oI (some t) = nI t := rfl
      rw [if_neg e0, Mo_dearestOf h r hp S, ht1, o1]
      simp only [Option.bind_some, i1, c1, ow_7, i2, c2, h.2.1.2.1 t ht2, h.2.2.1 p t hp ht2, k1, if_true]
      by_cases q : W t ≤ left
      · rw [if_pos q, if_neg (show ¬ left < W t by omega), pk_sub q, ow_two (by omega), ow_wo _ (by omega), nI_l (by omega), lN_add]
        have hd := cnS_drop (nt := nt) (S := S) (by omega) ht2 ht3
        exact Mo_partsL h r hp x2 j' m (left - W t) (nWo S (2 ^ t)) (sum + K p t) (by omega) (by omega) (Nat.lt_of_le_of_lt (nWo_le_l _ _) hS) (by omega) (by omega)
      · rw [if_neg q, if_pos (show left < W t by omega)]
        obtain ⟨a1, a2⟩ := pa_top (sum := sum) (wt := W t) (kt := K p t) (left := left) (by omega) wt kt.2 hl
        rw [nI_l (show sum < 2 ^ 31 by omega)] at a1
        rw [a1, nI_l (by omega), Mo_lowest (by omega) (by omega) a2]
        rfl
end DE
theorem s_parts : S_parts Rl := by
  intro z w x x2 h
  obtain ⟨⟨cl, hR⟩, -⟩ := id h
  have h4 := hR.1.1.2
  have h7 := hR.1.2.1.2
  unfold d_OL_parts d_Mo_parts
  rcases per_cases (y := q_Re_people (q_OL_now z)) (w := w) hR.2.1.1 hR.1.1 x with ⟨h1, h2⟩ | ⟨p, hp, rfl, h1, h2⟩
  · rw [h1, h2]
    exact ⟨_, z, w, rfl, rfl, h⟩
  rw [h1, h2, within_in]
  have z9 : ¬ (1 : Int32) = 0 := by decide
  simp only [Option.bind_some, z9, if_false]
  rcases in_cases x2 1 with h6 | ⟨h6, -, -⟩
  · rw [h6]
    exact ⟨_, z, w, rfl, rfl, h⟩
  rw [h6]
  simp only [Option.bind_some, z9, if_false]
  obtain ⟨z1, F, w1, y1, y2, hT, hS, hw1, hM, hF⟩ := ask2 hR
  rw [y1, y2]
  simp only [Option.bind_some]
  have r := hR.RG
  have o4 : ∀ t, t < NN (q_Mo_s w 1) → xOw (q_Mo_s w) t ≤ 4 := fun t ht => r.o4 ht
  have i3 : inb (nI p) 4 = true := inb_n (by omega) (by omega)
  have c3 : (nI p).toNatClampNeg = p := nI_clamp (by omega)
  have hL := r.2.2.2.2.2 p hp
  have hc : cnS (NN (q_Mo_s w 1)) (nBt (xOw (q_Mo_s w)) (NN (q_Mo_s w 1)) p) ≤ NN (q_Mo_s w 1) := by
    have := nS_le (f := fun _ => 1) (c := fun t => (nBt (xOw (q_Mo_s w)) (NN (q_Mo_s w 1)) p).testBit t) (M := 1) (NN (q_Mo_s w 1)) (fun _ _ => Nat.le_refl 1)
    unfold cnS
    omega
  have g1 := St_fillL hS r hp (q_OL_fraction z) (NN (q_Mo_s w 1)) 1000 0 (xL cl (q_Mo_s w) p) (nBt (xOw (q_Mo_s w)) (NN (q_Mo_s w 1)) p) 0 (by omega) (by omega) hL (nBt_pow _ _ _) hc (by omega)
  have m1 := Mo_partsL hM r hp x2 (NN (q_Mo_s w 1)) 1000 (xL cl (q_Mo_s w) p) (nBt (xOw (q_Mo_s w)) (NN (q_Mo_s w 1)) p) 0 (by omega) hL (nBt_pow _ _ _) hc (by omega)
  generalize (paA (xWt (q_Mo_s w)) (xK cl (q_Mo_s w) p) (NN (q_Mo_s w 1)) (NN (q_Mo_s w 1) + 1) (xL cl (q_Mo_s w) p) (nBt (xOw (q_Mo_s w)) (NN (q_Mo_s w 1)) p) 0) = A at *
  have g2 : d_St_fillByParts (nI p) (q_OL_standing (u_OL_now (u_OL_standing z z1) (u_Re_facts (q_OL_now z) F))) (q_OL_fraction (u_OL_now (u_OL_standing z z1) (u_Re_facts (q_OL_now z) F))) = some (lN (A.1 / Nat.gcd A.1 A.2), lN (A.2 / Nat.gcd A.1 A.2)) := by
    show d_St_fillByParts (nI p) z1 (q_OL_fraction z) = _
    unfold d_St_fillByParts
    rw [if_pos i3, St_bits hS r (show p < 4 by omega), Option.bind_some, c3, hS.2.2.2.2.2 p hp]
    exact g1
  have m1 : d_Mo_parts_L42 (nI p) x2 w1 (fun x5_42 => if x2 = 0 then (some (x5_42, w1)) else (some (1, w1))) 1000 (nI (nBt (xOw (q_Mo_s w)) (NN (q_Mo_s w 1)) p)) (nI (xL cl (q_Mo_s w) p)) 0 = _ := m1
  rw [Mo_thingsOf hM.2.1 h7 o4 (show p < 4 by omega), Option.bind_some, if_pos i3, c3, hM.2.2.2 p hp, m1, g2]
  simp only [Option.bind_some]
  have fin : Rl (u_OL_fraction (u_OL_now (u_OL_standing z z1) (u_Re_facts (q_OL_now z) F)) (lN (A.1 / Nat.gcd A.1 A.2), lN (A.2 / Nat.gcd A.1 A.2))) w1 := by
    refine Rl.set (cl := cl) h ?_ rfl rfl rfl hF
    rw [hw1]
    exact hR
  by_cases q0 : x2 = 0
  · rw [if_pos q0, if_pos q0]
    exact ⟨_, _, w1, rfl, rfl, fin⟩
  · rw [if_neg q0, if_neg q0]
    exact ⟨_, _, w1, rfl, rfl, fin⟩

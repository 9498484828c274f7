/-! The same sums on the model's side. -/
theorem in9 (a : Nat) {t : Nat} (h : a + t < 901) : inb (nI a + nI t) 901 = true := by rw [nI_add]; exact inb_n h (by omega)
theorem cl9 (a : Nat) {t : Nat} (h : a + t < 901) : (nI a + nI t).toNatClampNeg = a + t := by rw [nI_add]; exact nI_clamp (by omega)
theorem ow_30 {p t : Nat} : (30 + (7 * nI p)) + nI t = nI (30 + 7 * p + t) := by
  show (nI 30 + (nI 7 * nI p)) + nI t = _
  rw [pk_mul, nI_add, nI_add]
section MM
variable {w : T_Mo} {np nt : Nat} {W O : Nat → Nat} {K : Nat → Nat → Nat} {L : Nat → Nat}
theorem Mo_thingsOf (h : MT (q_Mo_s w) nt W O) (h7 : nt ≤ 7) (hO : ∀ t, t < nt → O t ≤ 4) {p : Nat} (hp : p < 4) : d_Mo_thingsOf (nI p) w = some (nI (nBt O nt p)) := by
  have h1 := lpS (z := fun _ _ => none) (B := fun self => B_Mo_thingsOf_L4 (nI p) w self) (n := nt) (fun t a => if O t = p then a ||| ((1 : Int32) <<< (nI t &&& 31)) else a) some (fun _ _ => True)
    (by
      intro self t a ht _
      have h4 := hO t ht
      have e1 : ¬ nI nt ≤ nI t := nI_ge ht (by omega)
      have e2 : inb (65 + nI t) 901 = true := in9 65 (by omega)
      have e3 : (65 + nI t).toNatClampNeg = 65 + t := cl9 65 (by omega)
      have e4 : (nI (O t) = nI p) ↔ O t = p := nI_eq (by omega) (by omega)
      have e5 : a ||| 0 = a := by apply b_ext; intro i hi; rw [b_or, b_0]; simp
      refine ⟨?_, trivial⟩
      simp only [B_Mo_thingsOf_L4, h.1, e1, e2, e3, h.2.2 t ht, e4, e5, if_true, if_false, nI_1]
      split <;> rfl)
    (by
      intro self a _
      simp only [B_Mo_thingsOf_L4, h.1, Int32.le_refl, if_true])
    1000 0 0 (Nat.zero_le _) (by omega) trivial
  refine Eq.trans h1 (congrArg some ?_)
  exact fo_two (f := fun t (a : Int32) => if O t = p then a ||| ((1 : Int32) <<< (nI t &&& 31)) else a) (g := fun t (a : Nat) => if decide (O t = p) = true then a ||| 2 ^ t else a) (fun _ a b => a = nI b) nt 0 0 0 rfl (fun i a b _ hi e => by
    subst e
    by_cases q : O i = p
    · simp only [q, if_true, decide_true]; exact ow_orbit b (by omega)
    · simp [q])
theorem Mo_loadOf (h : MT (q_Mo_s w) nt W O) (h7 : nt ≤ 7) (hO : ∀ t, t < nt → O t ≤ 4) {p : Nat} (hp : p < 4) : d_Mo_loadOf (nI p) w = some (nI (nLd W O nt p)) := by
  have h1 := lpS (z := fun _ _ => none) (B := fun self => B_Mo_loadOf_L4 (nI p) w self) (n := nt) (fun t a => if decide (O t = p) = true then a + nI (W t) else a) some (fun _ _ => True)
    (by
      intro self t a ht _
      have h4 := hO t ht
      have e1 : ¬ nI nt ≤ nI t := nI_ge ht (by omega)
      have e2 : inb (65 + nI t) 901 = true := in9 65 (by omega)
      have e3 : (65 + nI t).toNatClampNeg = 65 + t := cl9 65 (by omega)
      have e6 : inb (58 + nI t) 901 = true := in9 58 (by omega)
      have e7 : (58 + nI t).toNatClampNeg = 58 + t := cl9 58 (by omega)
      have e4 : (nI (O t) = nI p) ↔ O t = p := nI_eq (by omega) (by omega)
      refine ⟨?_, trivial⟩
      simp only [B_Mo_loadOf_L4, h.1, e1, e2, e3, e6, e7, h.2.1 t ht, h.2.2 t ht, e4, Int32.add_zero, if_true, if_false, nI_1, decide_eq_true_eq]
      split <;> rfl)
    (by
      intro self a _
      simp only [B_Mo_loadOf_L4, h.1, Int32.le_refl, if_true])
    1000 0 0 (Nat.zero_le _) (by omega) trivial
  refine Eq.trans h1 (congrArg some ?_)
  exact nS_fo nt (fun t _ a => by split <;> simp only [nI_add])
theorem Mo_weightsOf (h : MT (q_Mo_s w) nt W O) (h7 : nt ≤ 7) (S : Nat) : d_Mo_weightsOf (nI S) w = some (nI (nS W (fun t => S.testBit t) nt)) := by
  have h1 := lpS (z := fun _ _ => none) (B := fun self => B_Mo_weightsOf_L4 (nI S) w self) (n := nt) (fun t a => if S.testBit t = true then a + nI (W t) else a) some (fun _ _ => True)
    (by
      intro self t a ht _
      have e1 : ¬ nI nt ≤ nI t := nI_ge ht (by omega)
      have e6 : inb (58 + nI t) 901 = true := in9 58 (by omega)
      have e7 : (58 + nI t).toNatClampNeg = 58 + t := cl9 58 (by omega)
      refine ⟨?_, trivial⟩
      simp only [B_Mo_weightsOf_L4, h.1, e1, e6, e7, h.2.1 t ht, ow_testbit (show t < 32 by omega), Int32.add_zero, if_true, if_false, nI_1]
      split <;> rfl)
    (by
      intro self a _
      simp only [B_Mo_weightsOf_L4, h.1, Int32.le_refl, if_true])
    1000 0 0 (Nat.zero_le _) (by omega) trivial
  refine Eq.trans h1 (congrArg some ?_)
  exact nS_fo nt (fun t _ a => by split <;> simp only [nI_add])
theorem ow_7 {p t : Nat} : (7 * nI p) + nI t = nI (7 * p + t) := by rw [ow_lit, pk_mul, nI_add]
theorem Mo_likesOf (h : MW w np nt W O K L) (r : RG np nt W O K L) {p : Nat} (hp : p < np) (S : Nat) : d_Mo_likesOf (nI p) (nI S) w = some (nI (nS (K p) (fun t => S.testBit t) nt)) := by
  have h4 := r.1
  have h7 := r.2.1
  have h1 := lpS (z := fun _ _ => none) (B := fun self => B_Mo_likesOf_L5 (nI p) (nI S) w self) (n := nt) (fun t a => if S.testBit t = true then a + nI (K p t) else a) some (fun _ _ => True)
    (by
      intro self t a ht _
      have e1 : ¬ nI nt ≤ nI t := nI_ge ht (by omega)
      have e6 : inb (nI (7 * p + t)) 28 = true := inb_n (by omega) (by omega)
      have e7 : (nI (7 * p + t)).toNatClampNeg = 7 * p + t := nI_clamp (by omega)
      refine ⟨?_, trivial⟩
      simp only [B_Mo_likesOf_L5, h.2.1.1, e1, ow_7, e6, e7, h.2.2.1 p t hp ht, ow_testbit (show t < 32 by omega), Int32.add_zero, if_true, if_false, nI_1]
      split <;> rfl)
    (by
      intro self a _
      simp only [B_Mo_likesOf_L5, h.2.1.1, Int32.le_refl, if_true])
    1000 0 0 (Nat.zero_le _) (by omega) trivial
  refine Eq.trans h1 (congrArg some ?_)
  exact nS_fo nt (fun t _ a => by split <;> simp only [nI_add])
end MM
/-! What stands first, on both sides. -/
/-- is t dropped ahead of u, of one of KIND kd -/
def nAh (kd : Nat) (W : Nat → Nat) (k : Nat → Nat) (t u : Nat) : Bool :=
  if kd = 1 then decide (W u < W t) else if kd = 4 then (decide (0 < W t) && (decide (W u = 0) || decide (k t * W u < k u * W t))) else if kd = 5 then decide (k u < k t) else decide (k t < k u)
/-- has t more LIKE for its WEIGHT than u -/
def nDe (W : Nat → Nat) (k : Nat → Nat) (t u : Nat) : Bool := decide (k u * W t < k t * W u)
theorem ow_mul50 {a b : Nat} (ha : a ≤ 1000) (hb : b ≤ 50) : a * b < 2 ^ 31 := by
  have := Nat.mul_le_mul ha hb
  omega
section AH
variable {z : T_St} {w : T_Mo} {np nt : Nat} {W O : Nat → Nat} {K : Nat → Nat → Nat} {L : Nat → Nat}
theorem St_dearer (h : SW z np nt W O K L) (r : RG np nt W O K L) {p t u : Nat} (hp : p < np) (ht : t < nt) (hu : u < nt) : d_St_dearer (nI p) (nI t) (nI u) z = some (bI (nDe W (K p) t u)) := by
  have h4 := r.1
  have h7 := r.2.1
  have e1 : inb (nI p) 4 = true := inb_n (by omega) (by omega)
  have e2 : inb (nI t) 7 = true := inb_n (by omega) (by omega)
  have e3 : inb (nI u) 7 = true := inb_n (by omega) (by omega)
  have c1 : (nI p).toNatClampNeg = p := nI_clamp (by omega)
  have c2 : (nI t).toNatClampNeg = t := nI_clamp (by omega)
  have c3 : (nI u).toNatClampNeg = u := nI_clamp (by omega)
  have wt := r.2.2.1 t ht
  have wu := r.2.2.1 u hu
  have kt := r.2.2.2.2.1 p t hp ht
  have ku := r.2.2.2.2.1 p u hp hu
  have m1 := ow_mul50 kt.2 wu
  have m2 := ow_mul50 ku.2 wt
  have z1 : (nI (W t) = 0) ↔ W t = 0 := nI_eq (b := 0) (by omega) (by omega)
  have z2 : (nI (W u) = 0) ↔ W u = 0 := nI_eq (b := 0) (by omega) (by omega)
  unfold d_St_dearer
  simp only [e1, e2, e3, c1, c2, c3, h.2.2.1 t ht, h.2.2.1 u hu, h.2.2.2.2.1 p t hp ht, h.2.2.2.2.1 p u hp hu, pk_mul, z1, z2, if_true,
    nI_leI (show W u < 2 ^ 31 by omega) (show W t < 2 ^ 31 by omega), nI_leI m1 m2]
  unfold nDe
  by_cases q1 : W t = 0
  · rw [if_pos q1]
    by_cases q2 : W u ≤ W t
    · have q3 : W u = 0 := by omega
      simp [q1, q3, bI]
    · have q3 : 0 < W u := by omega
      have q4 : 0 < K p t * W u := Nat.mul_pos (by omega) q3
      simp [q1, q3, q4, bI]
      omega
  · rw [if_neg q1]
    by_cases q2 : W u = 0
    · have q5 : W u ≤ W t := by omega
      simp [q2, bI]
    · rw [if_neg q2]
      by_cases q3 : K p t * W u ≤ K p u * W t
      · have q4 : ¬ K p u * W t < K p t * W u := by omega
        simp [q3, q4, bI]
      · have q4 : K p u * W t < K p t * W u := by omega
        simp [q3, q4, bI]
theorem nDe_dearest (W : Nat → Nat) (k : Nat → Nat) {t u : Nat} (hk : ∀ x, x = t ∨ x = u → 1 ≤ k x) : nDe W k u t = nAh 4 W k t u := by
  unfold nDe nAh
  simp only [show ¬ (4 : Nat) = 1 by decide, if_false, if_true]
  by_cases q1 : W t = 0
  · simp [q1]
  · have q2 : 0 < W t := by omega
    have q3 := hk u (Or.inr rfl)
    by_cases q4 : W u = 0
    · have q5 : 0 < k u * W t := Nat.mul_pos (by omega) q2
      simp [q2, q4, q5]
    · simp [q2, q4]
theorem St_goesAhead (h : SW z np nt W O K L) (r : RG np nt W O K L) {kd p t u : Nat} (hk : kd ≤ 6) (hp : p < np) (ht : t < nt) (hu : u < nt) : d_St_goesAhead (nI kd) (nI p) (nI t) (nI u) z = some (bI (nAh kd W (K p) t u)) := by
  have h4 := r.1
  have h7 := r.2.1
  have e1 : inb (nI p) 4 = true := inb_n (by omega) (by omega)
  have e2 : inb (nI t) 7 = true := inb_n (by omega) (by omega)
  have e3 : inb (nI u) 7 = true := inb_n (by omega) (by omega)
  have c1 : (nI p).toNatClampNeg = p := nI_clamp (by omega)
  have c2 : (nI t).toNatClampNeg = t := nI_clamp (by omega)
  have c3 : (nI u).toNatClampNeg = u := nI_clamp (by omega)
  have wt := r.2.2.1 t ht
  have wu := r.2.2.1 u hu
  have kt := r.2.2.2.2.1 p t hp ht
  have ku := r.2.2.2.2.1 p u hp hu
  have k1 : (nI kd = 1) ↔ kd = 1 := nI_eq (b := 1) (by omega) (by omega)
  have k2 : (nI kd = 2) ↔ kd = 2 := nI_eq (b := 2) (by omega) (by omega)
  have k3 : (nI kd = 3) ↔ kd = 3 := nI_eq (b := 3) (by omega) (by omega)
  have k4 : (nI kd = 4) ↔ kd = 4 := nI_eq (b := 4) (by omega) (by omega)
  have k5 : (nI kd = 5) ↔ kd = 5 := nI_eq (b := 5) (by omega) (by omega)
  have l1 : ∀ a b : Nat, (if a ≤ b then some (0 : Int32) else some 1) = some (bI (decide (b < a))) := fun a b => by
    by_cases q : a ≤ b
    · have q2 : ¬ b < a := by omega
      simp [q, q2, bI]
    · have q2 : b < a := by omega
      simp [q, q2, bI]
  unfold d_St_goesAhead
  simp only [e1, e2, e3, c1, c2, c3, h.2.2.1 t ht, h.2.2.1 u hu, h.2.2.2.2.1 p t hp ht, h.2.2.2.2.1 p u hp hu, k1, k2, k3, k4, k5, if_true, St_dearer h r hp hu ht, Option.bind_some,
    nI_leI (show W t < 2 ^ 31 by omega) (show W u < 2 ^ 31 by omega), nI_leI (show K p t < 2 ^ 31 by omega) (show K p u < 2 ^ 31 by omega), nI_leI (show K p u < 2 ^ 31 by omega) (show K p t < 2 ^ 31 by omega), l1]
  by_cases q1 : kd = 1
  · simp [q1, nAh]
  · by_cases q4 : kd = 4
    · rw [nDe_dearest W (K p) (fun x hx => by rcases hx with rfl | rfl <;> omega)]
      subst q4
      simp
    · by_cases q5 : kd = 5
      · subst q5; simp [nAh]
      · by_cases q2 : kd = 2
        · subst q2; simp [nAh]
        · by_cases q3 : kd = 3
          · subst q3; simp [nAh]
          · simp [q1, q2, q3, q4, q5, nAh]
theorem Mo_isAhead (h : MW w np nt W O K L) (r : RG np nt W O K L) {kd p t u : Nat} (hkd : q_Mo_s w (10 + p) = nI kd) (hk : kd ≤ 6) (hp : p < np) (ht : t < nt) (hu : u < nt) : d_Mo_isAhead (nI p) (nI t) (nI u) w = some (bI (nAh kd W (K p) t u)) := by
  have h4 := r.1
  have h7 := r.2.1
  have e0 : inb (10 + nI p) 901 = true := in9 10 (by omega)
  have c0 : (10 + nI p).toNatClampNeg = 10 + p := cl9 10 (by omega)
  have e2 : inb (58 + nI t) 901 = true := in9 58 (by omega)
  have c2 : (58 + nI t).toNatClampNeg = 58 + t := cl9 58 (by omega)
  have e3 : inb (58 + nI u) 901 = true := in9 58 (by omega)
  have c3 : (58 + nI u).toNatClampNeg = 58 + u := cl9 58 (by omega)
  have e5 : inb (nI (7 * p + t)) 28 = true := inb_n (by omega) (by omega)
  have c5 : (nI (7 * p + t)).toNatClampNeg = 7 * p + t := nI_clamp (by omega)
  have e6 : inb (nI (7 * p + u)) 28 = true := inb_n (by omega) (by omega)
  have c6 : (nI (7 * p + u)).toNatClampNeg = 7 * p + u := nI_clamp (by omega)
  have wt := r.2.2.1 t ht
  have wu := r.2.2.1 u hu
  have kt := r.2.2.2.2.1 p t hp ht
  have ku := r.2.2.2.2.1 p u hp hu
  have m1 := ow_mul50 kt.2 wu
  have m2 := ow_mul50 ku.2 wt
  have z1 : (nI (W t) ≤ 0) ↔ W t = 0 := by
    rw [show (0 : Int32) = nI 0 from rfl, nI_leI (by omega) (by omega)]; omega
  have z2 : (nI (W u) = 0) ↔ W u = 0 := nI_eq (b := 0) (by omega) (by omega)
  have k1 : (nI kd = 1) ↔ kd = 1 := nI_eq (b := 1) (by omega) (by omega)
  have k2 : (nI kd = 2) ↔ kd = 2 := nI_eq (b := 2) (by omega) (by omega)
  have k3 : (nI kd = 3) ↔ kd = 3 := nI_eq (b := 3) (by omega) (by omega)
  have k4 : (nI kd = 4) ↔ kd = 4 := nI_eq (b := 4) (by omega) (by omega)
  have k5 : (nI kd = 5) ↔ kd = 5 := nI_eq (b := 5) (by omega) (by omega)
  have l1 : ∀ a b : Nat, (if a ≤ b then some (0 : Int32) else some 1) = some (bI (decide (b < a))) := fun a b => by
    by_cases q : a ≤ b
    · have q2 : ¬ b < a := by omega
      simp [q, q2, bI]
    · have q2 : b < a := by omega
      simp [q, q2, bI]
  unfold d_Mo_isAhead
  simp only [e0, c0, e2, e3, c2, c3, ow_7, e5, c5, e6, c6, hkd, h.2.1.2.1 t ht, h.2.1.2.1 u hu, h.2.2.1 p t hp ht, h.2.2.1 p u hp hu, k1, k2, k3, k4, k5, z1, z2, if_true, pk_mul,
    nI_leI (show W t < 2 ^ 31 by omega) (show W u < 2 ^ 31 by omega), nI_leI (show K p t < 2 ^ 31 by omega) (show K p u < 2 ^ 31 by omega), nI_leI (show K p u < 2 ^ 31 by omega) (show K p t < 2 ^ 31 by omega), nI_leI m2 m1, l1]
  by_cases q1 : kd = 1
  · simp [q1, nAh]
  · by_cases q4 : kd = 4
    · subst q4
      by_cases y1 : W t = 0
      · simp [y1, nAh, bI]
      · by_cases y2 : W u = 0
        · have y3 : 0 < W t := by omega
          simp [y1, y2, y3, nAh, bI]
        · have y3 : 0 < W t := by omega
          simp [y1, y2, y3, nAh]
    · by_cases q5 : kd = 5
      · subst q5; simp [nAh]
      · by_cases q2 : kd = 2
        · subst q2; simp [nAh]
        · by_cases q3 : kd = 3
          · subst q3; simp [nAh]
          · simp [q1, q2, q3, q4, q5, nAh]
end AH

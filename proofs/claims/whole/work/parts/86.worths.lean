/-! What a thing is worth, by like, by number, by staying. -/
def cpL (np : Nat) (L : Nat → Nat) (p : Nat) : Nat := if p < np then L p else 350
def woK (np : Nat) (K : Nat → Nat → Nat) (t p : Nat) : Int := if p < np then (K p t : Int) else 0
def woN (np : Nat) (_ p : Nat) : Int := if p < np then 1 else 0
def woS (np : Nat) (O : Nat → Nat) (t p : Nat) : Int := if O t = 4 then (if p < np then NV else 0) else if p < np then (if O t = p then 0 else -1) else NV
theorem woN_O {np nt : Nat} : WoO np nt (woN np) := fun t _ p _ => by
  unfold woN NV
  split <;> omega
theorem woK_O {np nt : Nat} {K : Nat → Nat → Nat} (h : ∀ p t, p < np → t < nt → 1 ≤ K p t ∧ K p t ≤ 1000) : WoO np nt (woK np K) := fun t ht p _ => by
  unfold woK NV
  split
  · have := h p t (by assumption) ht
    omega
  · omega
theorem woS_O {np nt : Nat} {O : Nat → Nat} : WoO np nt (woS np O) := fun t _ p _ => by
  unfold woS NV
  split
  · split <;> omega
  · split
    · split <;> omega
    · omega
def WoJ (np nt : Nat) (W cap : Nat → Nat) (wo : Nat → Nat → Int) (t p : Nat) (z : T_Sh) : Prop :=
  ShF np nt W cap z ∧ (∀ t', t' < t → ∀ q, q ≤ np → q_Sh_worth z t' q = iI (wo t' q)) ∧ ∀ q, q < p → q_Sh_worth z t q = iI (wo t q)
section WJ
variable {np nt : Nat} {W cap O L : Nat → Nat} {K : Nat → Nat → Nat} {wo : Nat → Nat → Int} {w : T_St}
theorem WoJ_step {t p : Nat} {z : T_Sh} {x : Int32} (h : WoJ np nt W cap wo t p z) (hx : x = iI (wo t p)) : WoJ np nt W cap wo t (p + 1) (u_Sh_worth z (upd2 (q_Sh_worth z) t p x)) := by
  obtain ⟨h1, h2, h3⟩ := h
  refine ⟨h1, fun t' ht q hq => ?_, fun q hq => ?_⟩
  · show upd2 (q_Sh_worth z) t p x t' q = _
    unfold upd2
    rw [if_neg (by omega)]
    exact h2 t' ht q hq
  · show upd2 (q_Sh_worth z) t p x t q = _
    unfold upd2
    rw [if_pos rfl]
    unfold upd
    by_cases e : q = p
    · subst e
      rw [if_pos rfl]
      exact hx
    · rw [if_neg e]
      exact h3 q (by omega)
theorem WoJ_row {t : Nat} {z : T_Sh} (h : WoJ np nt W cap wo t (np + 1) z) : WoJ np nt W cap wo (t + 1) 0 z := by
  obtain ⟨h1, h2, h3⟩ := h
  refine ⟨h1, fun t' ht q hq => ?_, fun q hq => by omega⟩
  by_cases e : t' = t
  · subst e
    exact h3 q (by omega)
  · exact h2 t' (by omega) q hq
theorem Sh_begin (h : SW w np nt W O K L) (h4 : np ≤ 4) (h7 : nt ≤ 7) (z : T_Sh) : ∃ z', d_Sh_begin z w = some z' ∧ ShF np nt W (cpL np L) z' := by
  have c2 : inb (nI np) 5 = true := inb_n (by omega) (by omega)
  have c3 : (nI np).toNatClampNeg = np := nI_clamp (by omega)
  unfold d_Sh_begin
  obtain ⟨z1, ⟨g1, g2, g3⟩, g4⟩ := lpIx (z := fun _ _ => none) (B := fun self => B_Sh_begin_L18 w (fun z_18 => d_Sh_begin_L46 w 1000 0 z_18) self) (n := nt) (fun z_18 => d_Sh_begin_L46 w 1000 0 z_18)
    (fun t a => q_Sh_people a = nI np ∧ q_Sh_things a = nI nt ∧ ∀ j, j < t → q_Sh_weight a j = nI (W j))
    (by
      intro self t a ht ⟨a1, a2, a3⟩
      have c0 : inb (nI t) 7 = true := inb_n (by omega) (by omega)
      have c1 : (nI t).toNatClampNeg = t := nI_clamp (by omega)
      refine ⟨u_Sh_weight a (upd (q_Sh_weight a) t (q_St_weight w t)), ?_, ?_, ?_, ?_⟩
      · unfold B_Sh_begin_L18
        rw [a2, if_neg (nI_ge ht (by omega)), if_pos c0, if_pos c0, nI_1, c1]
      · exact a1
      · exact a2
      · intro j hj
        show upd (q_Sh_weight a) t (q_St_weight w t) j = _
        unfold upd
        by_cases e : j = t
        · subst e
          rw [if_pos rfl]
          exact h.2.2.1 j ht
        · rw [if_neg e]
          exact a3 j (by omega))
    (by
      intro self a ⟨a1, a2, a3⟩
      unfold B_Sh_begin_L18
      rw [a2, if_pos (Int32.le_refl _)])
    1000 0 (u_Sh_things (u_Sh_people z (q_St_people w)) (q_St_things w)) (by omega) (by omega) ⟨h.1, h.2.1, fun j hj => by omega⟩
  obtain ⟨z2, ⟨k1, k2, k3, k4⟩, k5⟩ := lpIx (z := fun _ _ => none) (B := fun self => B_Sh_begin_L46 w self) (n := np) (fun a => some (u_Sh_room a (upd (q_Sh_room a) np 350)))
    (fun p a => q_Sh_people a = nI np ∧ q_Sh_things a = nI nt ∧ (∀ j, j < nt → q_Sh_weight a j = nI (W j)) ∧ ∀ j, j < p → q_Sh_room a j = nI (L j))
    (by
      intro self p a hp ⟨a1, a2, a3, a4⟩
      have c0 : inb (nI p) 4 = true := inb_n (by omega) (by omega)
      have c5 : inb (nI p) 5 = true := inb_n (by omega) (by omega)
      have c1 : (nI p).toNatClampNeg = p := nI_clamp (by omega)
      refine ⟨u_Sh_room a (upd (q_Sh_room a) p (q_St_lifts w p)), ?_, ?_, ?_, ?_, ?_⟩
      · unfold B_Sh_begin_L46
        rw [a1, if_neg (nI_ge hp (by omega)), if_pos c0, if_pos c5, nI_1, c1]
      · exact a1
      · exact a2
      · exact a3
      · intro j hj
        show upd (q_Sh_room a) p (q_St_lifts w p) j = _
        unfold upd
        by_cases e : j = p
        · subst e
          rw [if_pos rfl]
          exact h.2.2.2.2.2 j hp
        · rw [if_neg e]
          exact a4 j (by omega))
    (by
      intro self a ⟨a1, a2, a3, a4⟩
      unfold B_Sh_begin_L46
      rw [a1, if_pos (Int32.le_refl _), if_pos c2, c3])
    1000 0 z1 (by omega) (by omega) ⟨g1, g2, g3, fun j hj => by omega⟩
  refine ⟨_, g4.trans k5, k1, k2, k3, fun p hp => ?_⟩
  show upd (q_Sh_room z2) np 350 p = nI (cpL np L p)
  unfold upd cpL
  by_cases e : p = np
  · rw [if_pos e, if_neg (by omega)]
    rfl
  · rw [if_neg e, if_pos (by omega)]
    exact k4 p (by omega)
theorem Sh_byLikeL (h : SW w np nt W O K L) (h4 : np ≤ 4) (h7 : nt ≤ 7) (z : T_Sh) : ∃ z', d_Sh_byLike z w = some z' ∧ ShQ np nt W (cpL np L) (woK np K) z' := by
  obtain ⟨z0, b1, b2⟩ := Sh_begin h h4 h7 z
  have c2 : inb (nI np) 5 = true := inb_n (by omega) (by omega)
  have c3 : (nI np).toNatClampNeg = np := nI_clamp (by omega)
  unfold d_Sh_byLike
  rw [b1]
  obtain ⟨z1, g1, g2⟩ := lpIx (z := fun _ _ => none) (B := fun self => B_Sh_byLike_L7 w self) (n := nt) some (fun t a => WoJ np nt W (cpL np L) (woK np K) t 0 a)
    (by
      intro self t a ht hP
      have c0 : inb (nI t) 7 = true := inb_n (by omega) (by omega)
      have c1 : (nI t).toNatClampNeg = t := nI_clamp (by omega)
      obtain ⟨z2, k1, k2⟩ := lpIx (z := fun _ _ => none) (B := fun sf => B_Sh_byLike_L17 (nI t) w (fun z_17 => if inb (nI t) 7 = true then (if inb (q_Sh_people z_17) 5 = true then (self (nI t + 1) (u_Sh_worth z_17 (upd2 (q_Sh_worth z_17) (nI t).toNatClampNeg (q_Sh_people z_17).toNatClampNeg 0))) else none) else none) sf) (n := np)
        (fun z_17 => if inb (nI t) 7 = true then (if inb (q_Sh_people z_17) 5 = true then (self (nI t + 1) (u_Sh_worth z_17 (upd2 (q_Sh_worth z_17) (nI t).toNatClampNeg (q_Sh_people z_17).toNatClampNeg 0))) else none) else none)
        (fun p a => WoJ np nt W (cpL np L) (woK np K) t p a)
        (by
          intro sf p a hp hP
          have d0 : inb (nI p) 4 = true := inb_n (by omega) (by omega)
          have d5 : inb (nI p) 5 = true := inb_n (by omega) (by omega)
          have d1 : (nI p).toNatClampNeg = p := nI_clamp (by omega)
          refine ⟨_, ?_, WoJ_step hP (x := q_St_like w p t) (by
            rw [h.2.2.2.2.1 p t hp ht]
            unfold woK
            rw [if_pos hp, iI_nat])⟩
          unfold B_Sh_byLike_L17
          rw [hP.1.1, if_neg (nI_ge hp (by omega)), if_pos c0, if_pos d0, if_pos c0, if_pos d5, nI_1, c1, d1])
        (by
          intro sf a hP
          unfold B_Sh_byLike_L17
          exact if_pos (by rw [hP.1.1]; exact Int32.le_refl _))
        1000 0 a (by omega) (by omega) hP
      refine ⟨_, ?_, WoJ_row (WoJ_step k1 (x := 0) (by
        unfold woK
        rw [if_neg (by omega)]
        rfl))⟩
      unfold B_Sh_byLike_L7
      rw [hP.1.2.1, if_neg (nI_ge ht (by omega))]
      refine Eq.trans k2 ?_
      show (if inb (nI t) 7 = true then (if inb (q_Sh_people z2) 5 = true then (self (nI t + 1) (u_Sh_worth z2 (upd2 (q_Sh_worth z2) (nI t).toNatClampNeg (q_Sh_people z2).toNatClampNeg 0))) else none) else none) = _
      rw [k1.1.1, if_pos c0, if_pos c2, nI_1, c1, c3])
    (by
      intro self a hP
      unfold B_Sh_byLike_L7
      rw [hP.1.2.1, if_pos (Int32.le_refl _)])
    1000 0 z0 (by omega) (by omega) ⟨b2, fun t ht => by omega, fun q hq => by omega⟩
  exact ⟨z1, g2, g1.1, fun t ht p hp => g1.2.1 t ht p hp⟩
theorem Sh_byNumberL (h : SW w np nt W O K L) (h4 : np ≤ 4) (h7 : nt ≤ 7) (z : T_Sh) : ∃ z', d_Sh_byNumber z w = some z' ∧ ShQ np nt W (cpL np L) (woN np) z' := by
  obtain ⟨z0, b1, b2⟩ := Sh_begin h h4 h7 z
  have c2 : inb (nI np) 5 = true := inb_n (by omega) (by omega)
  have c3 : (nI np).toNatClampNeg = np := nI_clamp (by omega)
  unfold d_Sh_byNumber
  rw [b1]
  obtain ⟨z1, g1, g2⟩ := lpIx (z := fun _ _ => none) (B := fun self => B_Sh_byNumber_L7 w self) (n := nt) some (fun t a => WoJ np nt W (cpL np L) (woN np) t 0 a)
    (by
      intro self t a ht hP
      have c0 : inb (nI t) 7 = true := inb_n (by omega) (by omega)
      have c1 : (nI t).toNatClampNeg = t := nI_clamp (by omega)
      obtain ⟨z2, k1, k2⟩ := lpIx (z := fun _ _ => none) (B := fun sf => B_Sh_byNumber_L17 (nI t) w (fun z_17 => if inb (nI t) 7 = true then (if inb (q_Sh_people z_17) 5 = true then (self (nI t + 1) (u_Sh_worth z_17 (upd2 (q_Sh_worth z_17) (nI t).toNatClampNeg (q_Sh_people z_17).toNatClampNeg 0))) else none) else none) sf) (n := np)
        (fun z_17 => if inb (nI t) 7 = true then (if inb (q_Sh_people z_17) 5 = true then (self (nI t + 1) (u_Sh_worth z_17 (upd2 (q_Sh_worth z_17) (nI t).toNatClampNeg (q_Sh_people z_17).toNatClampNeg 0))) else none) else none)
        (fun p a => WoJ np nt W (cpL np L) (woN np) t p a)
        (by
          intro sf p a hp hP
          have d5 : inb (nI p) 5 = true := inb_n (by omega) (by omega)
          have d1 : (nI p).toNatClampNeg = p := nI_clamp (by omega)
          refine ⟨_, ?_, WoJ_step hP (x := 1) (by
            unfold woN
            rw [if_pos hp]
            rfl)⟩
          unfold B_Sh_byNumber_L17
          rw [hP.1.1, if_neg (nI_ge hp (by omega)), if_pos c0, if_pos d5, nI_1, c1, d1])
        (by
          intro sf a hP
          unfold B_Sh_byNumber_L17
          exact if_pos (by rw [hP.1.1]; exact Int32.le_refl _))
        1000 0 a (by omega) (by omega) hP
      refine ⟨_, ?_, WoJ_row (WoJ_step k1 (x := 0) (by
        unfold woN
        rw [if_neg (by omega)]
        rfl))⟩
      unfold B_Sh_byNumber_L7
      rw [hP.1.2.1, if_neg (nI_ge ht (by omega))]
      refine Eq.trans k2 ?_
      show (if inb (nI t) 7 = true then (if inb (q_Sh_people z2) 5 = true then (self (nI t + 1) (u_Sh_worth z2 (upd2 (q_Sh_worth z2) (nI t).toNatClampNeg (q_Sh_people z2).toNatClampNeg 0))) else none) else none) = _
      rw [k1.1.1, if_pos c0, if_pos c2, nI_1, c1, c3])
    (by
      intro self a hP
      unfold B_Sh_byNumber_L7
      rw [hP.1.2.1, if_pos (Int32.le_refl _)])
    1000 0 z0 (by omega) (by omega) ⟨b2, fun t ht => by omega, fun q hq => by omega⟩
  exact ⟨z1, g2, g1.1, fun t ht p hp => g1.2.1 t ht p hp⟩
/-- one thing by staying: a row of worths, whoever owns it -/
theorem Sh_stay (h : SW w np nt W O K L) (hO : ∀ t, t < nt → O t < np ∨ O t = 4) (h4 : np ≤ 4) (h7 : nt ≤ 7) {t : Nat} (ht : t < nt) {y : Int32} (hy : y = if O t = 4 then 0 else 1) {a : T_Sh} (hP : WoJ np nt W (cpL np L) (woS np O) t 0 a) (k : T_Sh → Option T_Sh) :
    ∃ z2, WoJ np nt W (cpL np L) (woS np O) t np z2 ∧ d_Sh_byStaying_L35 (nI t) y w k 1000 0 a = k z2 :=
  lpIx (z := fun _ _ => none) (B := fun sf => B_Sh_byStaying_L35 (nI t) y w k sf) (n := np) k (fun p a => WoJ np nt W (cpL np L) (woS np O) t p a)
    (by
      intro sf p a hp hP
      have c0 : inb (nI t) 7 = true := inb_n (by omega) (by omega)
      have c1 : (nI t).toNatClampNeg = t := nI_clamp (by omega)
      have d5 : inb (nI p) 5 = true := inb_n (by omega) (by omega)
      have d1 : (nI p).toNatClampNeg = p := nI_clamp (by omega)
      have ho := hO t ht
      have eo : q_St_owner w t = oC (O t) := h.2.2.2.1 t ht
      unfold B_Sh_byStaying_L35
      rw [hP.1.1, if_neg (nI_ge hp (by omega)), if_pos c0, if_pos c0, if_pos d5, if_pos d5, if_pos d5, nI_1, c1, d1, eo]
      by_cases q1 : O t = 4
      · rw [if_pos q1] at hy
        rw [if_pos hy]
        refine ⟨_, rfl, WoJ_step hP ?_⟩
        unfold woS
        rw [if_pos q1, if_pos hp]
        rfl
      · rw [if_neg q1] at hy
        rw [if_neg (show ¬ y = 0 by rw [hy]; decide)]
        have ko : (oC (O t) = nI p) ↔ O t = p := oC_eq (by omega) (by omega)
        by_cases q2 : O t = p
        · rw [if_pos (ko.mpr q2)]
          refine ⟨_, rfl, WoJ_step hP ?_⟩
          unfold woS
          rw [if_neg q1, if_pos hp, if_pos q2]
          rfl
        · rw [if_neg (fun y => q2 (ko.mp y))]
          refine ⟨_, rfl, WoJ_step hP ?_⟩
          unfold woS
          rw [if_neg q1, if_pos hp, if_neg q2]
          rfl)
    (by
      intro sf a hP
      unfold B_Sh_byStaying_L35
      rw [hP.1.1, if_pos (Int32.le_refl _)])
    1000 0 a (by omega) (by omega) hP
theorem Sh_byStayingL (h : SW w np nt W O K L) (hO : ∀ t, t < nt → O t < np ∨ O t = 4) (h4 : np ≤ 4) (h7 : nt ≤ 7) (z : T_Sh) : ∃ z', d_Sh_byStaying z w = some z' ∧ ShQ np nt W (cpL np L) (woS np O) z' := by
  obtain ⟨z0, b1, b2⟩ := Sh_begin h h4 h7 z
  have c2 : inb (nI np) 5 = true := inb_n (by omega) (by omega)
  have c3 : (nI np).toNatClampNeg = np := nI_clamp (by omega)
  unfold d_Sh_byStaying
  rw [b1]
  obtain ⟨z1, g1, g2⟩ := lpIx (z := fun _ _ => none) (B := fun self => B_Sh_byStaying_L7 w self) (n := nt) some (fun t a => WoJ np nt W (cpL np L) (woS np O) t 0 a)
    (by
      intro self t a ht hP
      have c0 : inb (nI t) 7 = true := inb_n (by omega) (by omega)
      have c1 : (nI t).toNatClampNeg = t := nI_clamp (by omega)
      have ho := hO t ht
      have eo : q_St_owner w t = oC (O t) := h.2.2.2.1 t ht
      have ko : (oC (O t) = (-5)) ↔ O t = 4 := oC_4 (by omega)
      unfold B_Sh_byStaying_L7
      rw [hP.1.2.1, if_neg (nI_ge ht (by omega)), if_pos c0, c1, eo]
      by_cases q1 : O t = 4
      · rw [if_pos (ko.mpr q1)]
        obtain ⟨z2, k1, k2⟩ := Sh_stay h hO h4 h7 ht (y := 0) (by rw [if_pos q1]) hP (fun z_35 => if inb (nI t) 7 = true then (if inb (q_Sh_people z_35) 5 = true then (self (nI t + 1) (u_Sh_worth z_35 (upd2 (q_Sh_worth z_35) t (q_Sh_people z_35).toNatClampNeg 0))) else none) else none)
        refine ⟨_, ?_, WoJ_row (WoJ_step k1 (x := 0) (by
          unfold woS
          rw [if_pos q1, if_neg (by omega)]
          rfl))⟩
        refine Eq.trans k2 ?_
        simp only [k1.1.1, if_pos c0, if_pos c2, nI_1, c3]
      · rw [if_neg (fun y => q1 (ko.mp y))]
        obtain ⟨z2, k1, k2⟩ := Sh_stay h hO h4 h7 ht (y := 1) (by rw [if_neg q1]) hP (fun z_35 => if inb (nI t) 7 = true then (if inb (q_Sh_people z_35) 5 = true then (self (nI t + 1) (u_Sh_worth z_35 (upd2 (q_Sh_worth z_35) t (q_Sh_people z_35).toNatClampNeg (-1000000)))) else none) else none)
        refine ⟨_, ?_, WoJ_row (WoJ_step k1 (x := (-1000000)) (by
          unfold woS
          rw [if_neg q1, if_neg (by omega)]
          rfl))⟩
        refine Eq.trans k2 ?_
        simp only [k1.1.1, if_pos c0, if_pos c2, nI_1, c3])
    (by
      intro self a hP
      unfold B_Sh_byStaying_L7
      rw [hP.1.2.1, if_pos (Int32.le_refl _)])
    1000 0 z0 (by omega) (by omega) ⟨b2, fun t ht => by omega, fun q hq => by omega⟩
  exact ⟨z1, g2, g1.1, fun t ht p hp => g1.2.1 t ht p hp⟩
end WJ

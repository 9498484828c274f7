/-! swap, rest. -/
/-- does a swap of t and u serve -/
def nSv (nt : Nat) (W O : Nat → Nat) (K : Nat → Nat → Nat) (L : Nat → Nat) (t u : Nat) : Bool :=
  if O t = 4 then false else if O u = 4 then false else if O t = O u then false else
  decide (K (O t) t < K (O t) u) && decide (K (O u) u < K (O u) t) && decide (nLd W O nt (O t) + W u ≤ L (O t) + W t) && decide (nLd W O nt (O u) + W t ≤ L (O u) + W u)
theorem nS_ge {f : Nat → Nat} {c : Nat → Bool} {t : Nat} : ∀ n : Nat, t < n → c t = true → f t ≤ nS f c n
  | 0, h, _ => by omega
  | n + 1, h, hc => by
    rw [nS_s]
    by_cases e : t = n
    · subst e
      rw [if_pos hc]
      omega
    · have := nS_ge n (by omega) hc (f := f)
      split <;> omega
theorem ow_sub_add {a b c : Nat} (h : b ≤ a) : nI a - nI b + nI c = nI (a - b + c) := by rw [pk_sub h, nI_add]
theorem ow_add_sub {a b c : Nat} (h : b ≤ a) : nI a + (nI c - nI b) = nI (a - b + c) := by
  have h1 : nI a + (nI c - nI b) = nI a - nI b + nI c := by grind
  rw [h1, ow_sub_add h]
theorem ow_sub_sub {a b c : Nat} (h : b ≤ a) : nI a - (nI b - nI c) = nI (a - b + c) := by
  have h1 : nI a - (nI b - nI c) = nI a - nI b + nI c := by grind
  rw [h1, ow_sub_add h]
section SV
variable {z : T_St} {w : T_Mo} {np nt : Nat} {W O : Nat → Nat} {K : Nat → Nat → Nat} {L : Nat → Nat}
theorem Sw_gains (h : SW z np nt W O K L) (r : RG np nt W O K L) {p t u : Nat} (hp : p < np) (ht : t < nt) (hu : u < nt) (hO : O t = p) : d_Sw_gains (nI p) (nI t) (nI u) z = some (bI (decide (K p t < K p u) && decide (nLd W O nt p + W u ≤ L p + W t))) := by
  have h4 := r.1
  have h7 := r.2.1
  have e1 : inb (nI p) 4 = true := inb_n (by omega) (by omega)
  have e2 : inb (nI t) 7 = true := inb_n (by omega) (by omega)
  have e3 : inb (nI u) 7 = true := inb_n (by omega) (by omega)
  have c1 : (nI p).toNatClampNeg = p := nI_clamp (by omega)
  have c2 : (nI t).toNatClampNeg = t := nI_clamp (by omega)
  have c3 : (nI u).toNatClampNeg = u := nI_clamp (by omega)
  have wt := r.2.2.1 t ht
  have wu := r.2.2.1 u hu
  have kt := r.2.2.2.2.1 p t hp ht
  have ku := r.2.2.2.2.1 p u hp hu
  have hL := r.2.2.2.2.2 p hp
  have hl := nLd_le (O := O) (p := p) h7 r.2.2.1
  have hg : W t ≤ nLd W O nt p := nS_ge (f := W) (c := fun j => decide (O j = p)) nt ht (by simp [hO])
  have k1 : (nI (K p u) ≤ nI (K p t)) ↔ K p u ≤ K p t := nI_leI (by omega) (by omega)
  have k2 : (nI (L p) < nI (nLd W O nt p - W t + W u)) ↔ L p < nLd W O nt p - W t + W u := nI_ltI (by omega) (by omega)
  unfold d_Sw_gains
  simp only [e1, e2, e3, c1, c2, c3, h.2.2.1 t ht, h.2.2.1 u hu, h.2.2.2.2.1 p t hp ht, h.2.2.2.2.1 p u hp hu, h.2.2.2.2.2 p hp, St_load h r (show p < 4 by omega), Option.bind_some, if_true, ow_sub_add hg, k1, k2]
  by_cases q1 : K p u ≤ K p t
  · have q2 : ¬ K p t < K p u := by omega
    simp [q1, q2, bI]
  · have q2 : K p t < K p u := by omega
    by_cases q3 : L p < nLd W O nt p - W t + W u
    · have q4 : ¬ nLd W O nt p + W u ≤ L p + W t := by omega
      simp [q1, q2, q3, q4, bI]
    · have q4 : nLd W O nt p + W u ≤ L p + W t := by omega
      simp [q1, q2, q3, q4, bI]
theorem Sw_serves (h : SW z np nt W O K L) (r : RG np nt W O K L) {t u : Nat} (ht : t < nt) (hu : u < nt) : d_Sw_serves (nI t) (nI u) z = some (bI (nSv nt W O K L t u)) := by
  have h4 := r.1
  have h7 := r.2.1
  have e2 : inb (nI t) 7 = true := inb_n (by omega) (by omega)
  have e3 : inb (nI u) 7 = true := inb_n (by omega) (by omega)
  have c2 : (nI t).toNatClampNeg = t := nI_clamp (by omega)
  have c3 : (nI u).toNatClampNeg = u := nI_clamp (by omega)
  unfold d_Sw_serves nSv
  simp only [e2, e3, c2, c3, h.2.2.2.1 t ht, h.2.2.2.1 u hu, oC_4 (r.o4 ht), oC_4 (r.o4 hu), oC_inj (r.o4 ht) (r.o4 hu), if_true]
  by_cases q1 : O t = 4
  · rw [if_pos q1, if_pos q1]; rfl
  rw [if_neg q1, if_neg q1]
  by_cases q2 : O u = 4
  · rw [if_pos q2, if_pos q2]; rfl
  rw [if_neg q2, if_neg q2]
  by_cases q3 : O t = O u
  · rw [if_pos q3, if_pos q3]; rfl
  rw [if_neg q3, if_neg q3]
  have ot : O t < np := by rcases r.2.2.2.1 t ht with y | y <;> omega
  have ou : O u < np := by rcases r.2.2.2.1 u hu with y | y <;> omega
  rw [oC_lt (by omega), oC_lt (by omega), Sw_gains h r ot ht hu rfl, Sw_gains h r ou hu ht rfl]
  simp only [Option.bind_some, bI_0]
  by_cases a1 : K (O t) t < K (O t) u
  · by_cases a2 : nLd W O nt (O t) + W u ≤ L (O t) + W t
    · by_cases a3 : K (O u) u < K (O u) t
      · by_cases a4 : nLd W O nt (O u) + W t ≤ L (O u) + W u
        · simp [a1, a2, a3, a4, bI]
        · simp [a1, a2, a3, a4, bI]
      · simp [a1, a2, a3, bI]
    · simp [a1, a2, bI]
  · simp [a1, bI]
theorem Mo_canSwap (h : MW w np nt W O K L) (r : RG np nt W O K L) {t u : Nat} (ht : t < nt) (hu : u < nt) : d_Mo_canSwap (nI t) (nI u) w = some (bI (nSv nt W O K L t u)) := by
  have h4 := r.1
  have h7 := r.2.1
  have e2 : inb (65 + nI t) 901 = true := in9 65 (by omega)
  have e3 : inb (65 + nI u) 901 = true := in9 65 (by omega)
  have c2 : (65 + nI t).toNatClampNeg = 65 + t := cl9 65 (by omega)
  have c3 : (65 + nI u).toNatClampNeg = 65 + u := cl9 65 (by omega)
  have e4 : inb (58 + nI t) 901 = true := in9 58 (by omega)
  have e5 : inb (58 + nI u) 901 = true := in9 58 (by omega)
  have c4 : (58 + nI t).toNatClampNeg = 58 + t := cl9 58 (by omega)
  have c5 : (58 + nI u).toNatClampNeg = 58 + u := cl9 58 (by omega)
  have ot4 := r.o4 ht
  have ou4 := r.o4 hu
  have z1 : (nI (O t) = 4) ↔ O t = 4 := nI_eq (b := 4) (by omega) (by omega)
  have z2 : (nI (O u) = 4) ↔ O u = 4 := nI_eq (b := 4) (by omega) (by omega)
  have z3 : (nI (O t) = nI (O u)) ↔ O t = O u := nI_eq (by omega) (by omega)
  unfold d_Mo_canSwap nSv
  simp only [e2, e3, c2, c3, h.2.1.2.2 t ht, h.2.1.2.2 u hu, z1, z2, z3, if_true]
  by_cases q1 : O t = 4
  · rw [if_pos q1, if_pos q1]; rfl
  rw [if_neg q1, if_neg q1]
  by_cases q2 : O u = 4
  · rw [if_pos q2, if_pos q2]; rfl
  rw [if_neg q2, if_neg q2]
  by_cases q3 : O t = O u
  · rw [if_pos q3, if_pos q3]; rfl
  rw [if_neg q3, if_neg q3]
  have ot : O t < np := by rcases r.2.2.2.1 t ht with y | y <;> omega
  have ou : O u < np := by rcases r.2.2.2.1 u hu with y | y <;> omega
  have wt := r.2.2.1 t ht
  have wu := r.2.2.1 u hu
  have ktt := r.2.2.2.2.1 (O t) t ot ht
  have ktu := r.2.2.2.2.1 (O t) u ot hu
  have kut := r.2.2.2.2.1 (O u) t ou ht
  have kuu := r.2.2.2.2.1 (O u) u ou hu
  have hLt := r.2.2.2.2.2 (O t) ot
  have hLu := r.2.2.2.2.2 (O u) ou
  have hlt := nLd_le (O := O) (p := O t) h7 r.2.2.1
  have hlu := nLd_le (O := O) (p := O u) h7 r.2.2.1
  have hgt : W t ≤ nLd W O nt (O t) := nS_ge (f := W) (c := fun j => decide (O j = O t)) nt ht (by simp)
  have hgu : W u ≤ nLd W O nt (O u) := nS_ge (f := W) (c := fun j => decide (O j = O u)) nt hu (by simp)
  have i1 : inb (nI (7 * O t + u)) 28 = true := inb_n (by omega) (by omega)
  have i2 : inb (nI (7 * O t + t)) 28 = true := inb_n (by omega) (by omega)
  have i3 : inb (nI (7 * O u + u)) 28 = true := inb_n (by omega) (by omega)
  have i4 : inb (nI (7 * O u + t)) 28 = true := inb_n (by omega) (by omega)
  have d1 : (nI (7 * O t + u)).toNatClampNeg = 7 * O t + u := nI_clamp (by omega)
  have d2 : (nI (7 * O t + t)).toNatClampNeg = 7 * O t + t := nI_clamp (by omega)
  have d3 : (nI (7 * O u + u)).toNatClampNeg = 7 * O u + u := nI_clamp (by omega)
  have d4 : (nI (7 * O u + t)).toNatClampNeg = 7 * O u + t := nI_clamp (by omega)
  have p1 : inb (nI (O t)) 4 = true := inb_n (by omega) (by omega)
  have p2 : inb (nI (O u)) 4 = true := inb_n (by omega) (by omega)
  have p3 : (nI (O t)).toNatClampNeg = O t := nI_clamp (by omega)
  have p4 : (nI (O u)).toNatClampNeg = O u := nI_clamp (by omega)
  have k1 : (nI (K (O t) u) ≤ nI (K (O t) t)) ↔ K (O t) u ≤ K (O t) t := nI_leI (by omega) (by omega)
  have k2 : (nI (K (O u) t) ≤ nI (K (O u) u)) ↔ K (O u) t ≤ K (O u) u := nI_leI (by omega) (by omega)
  have k3 : (nI (L (O t)) < nI (nLd W O nt (O t) - W t + W u)) ↔ L (O t) < nLd W O nt (O t) - W t + W u := nI_ltI (by omega) (by omega)
  have k4 : (nI (L (O u)) < nI (nLd W O nt (O u) - W u + W t)) ↔ L (O u) < nLd W O nt (O u) - W u + W t := nI_ltI (by omega) (by omega)
  simp only [e4, e5, c4, c5, ow_7, i1, i2, i3, i4, d1, d2, d3, d4, p1, p2, p3, p4, h.2.1.2.1 t ht, h.2.1.2.1 u hu, h.2.2.1 (O t) t ot ht, h.2.2.1 (O t) u ot hu, h.2.2.1 (O u) t ou ht, h.2.2.1 (O u) u ou hu, h.2.2.2 (O t) ot, h.2.2.2 (O u) ou, Mo_loadOf h.2.1 h7 (fun t ht => r.o4 ht) (show O t < 4 by omega), Mo_loadOf h.2.1 h7 (fun t ht => r.o4 ht) (show O u < 4 by omega), Option.bind_some, if_true, ow_add_sub hgt, ow_sub_sub hgu, k1, k2, k3, k4]
  by_cases a1 : K (O t) u ≤ K (O t) t
  · have b1 : ¬ K (O t) t < K (O t) u := by omega
    simp [a1, b1, bI]
  have b1 : K (O t) t < K (O t) u := by omega
  by_cases a2 : K (O u) t ≤ K (O u) u
  · have b2 : ¬ K (O u) u < K (O u) t := by omega
    simp [a1, a2, b2, bI]
  have b2 : K (O u) u < K (O u) t := by omega
  by_cases a3 : L (O t) < nLd W O nt (O t) - W t + W u
  · have b3 : ¬ nLd W O nt (O t) + W u ≤ L (O t) + W t := by omega
    simp [a1, a2, a3, b3, bI]
  have b3 : nLd W O nt (O t) + W u ≤ L (O t) + W t := by omega
  by_cases a4 : L (O u) < nLd W O nt (O u) - W u + W t
  · have b4 : ¬ nLd W O nt (O u) + W t ≤ L (O u) + W u := by omega
    simp [a1, a2, a3, a4, b4, bI]
  have b4 : nLd W O nt (O u) + W t ≤ L (O u) + W u := by omega
  simp [a1, a2, a3, a4, b1, b2, b3, b4, bI]
end SV
/-- the first pair, and how many: (first as 10 t + u, number) -/
def swI (nt : Nat) (sv : Nat → Nat → Bool) (t : Nat) (u : Nat) (a : Option (Nat × Nat) × Nat) : Option (Nat × Nat) × Nat := if sv t u = true then (a.1.or (some (t, u)), a.2 + 1) else a
def swO (nt : Nat) (sv : Nat → Nat → Bool) (t : Nat) (a : Option (Nat × Nat) × Nat) : Option (Nat × Nat) × Nat := fo (swI nt sv t) (nt - (t + 1)) (t + 1) a
def swA (nt : Nat) (sv : Nat → Nat → Bool) : Option (Nat × Nat) × Nat := fo (swO nt sv) nt 0 (none, 0)
def pr5 (o : Option (Nat × Nat)) : Int32 := match o with
  | none => (-5)
  | some q => nI (10 * q.1 + q.2)
theorem sw_inv (nt : Nat) (sv : Nat → Nat → Bool) (P : Option (Nat × Nat) × Nat → Prop) (h0 : P (none, 0)) (hs : ∀ t u a, t < u → u < nt → sv t u = true → P a → P (a.1.or (some (t, u)), a.2 + 1)) : P (swA nt sv) := by
  unfold swA
  refine fo_inv (fun _ a => P a) nt 0 (none, 0) h0 (fun t a _ ht hP => ?_)
  unfold swO
  refine fo_inv (fun _ a => P a) (nt - (t + 1)) (t + 1) a hP (fun u b h1 h2 hQ => ?_)
  unfold swI
  by_cases q : sv t u = true
  · rw [if_pos q]; exact hs t u b (by omega) (by omega) q hQ
  · rw [if_neg q]; exact hQ
theorem sw_ok (nt : Nat) (sv : Nat → Nat → Bool) : ∀ q, (swA nt sv).1 = some q → q.1 < q.2 ∧ q.2 < nt ∧ sv q.1 q.2 = true := by
  refine sw_inv nt sv (fun a => ∀ q, a.1 = some q → q.1 < q.2 ∧ q.2 < nt ∧ sv q.1 q.2 = true) (fun q h => by cases h) (fun t u a h1 h2 h3 hP q hq => ?_)
  cases ha : a.1 with
  | none =>
    rw [ha] at hq
    cases hq
    exact ⟨h1, h2, h3⟩
  | some y =>
    rw [ha] at hq
    cases hq
    exact hP q ha
theorem sw_cnt (nt : Nat) (sv : Nat → Nat → Bool) : ∀ (k t : Nat) (a : Option (Nat × Nat) × Nat), (a.1 = none ↔ a.2 = 0) → ((fo (swI nt sv t) k (t + 1) a).1 = none ↔ (fo (swI nt sv t) k (t + 1) a).2 = 0) := fun k t a h =>
  fo_inv (fun _ a => (a.1 = none ↔ a.2 = 0)) k (t + 1) a h (fun u b _ _ hb => by
    unfold swI
    by_cases q : sv t u = true
    · rw [if_pos q]
      cases hb1 : b.1 with
      | none => simp
      | some y => simp
    · rw [if_neg q]; exact hb)
section SN
variable {z : T_St} {w : T_Mo} {np nt : Nat} {W O : Nat → Nat} {K : Nat → Nat → Nat} {L : Nat → Nat}
theorem Sw_number (h : SW z np nt W O K L) (r : RG np nt W O K L) : d_Sw_number z = some (nI (swA nt (nSv nt W O K L)).2) := by
  have h7 := r.2.1
  unfold d_Sw_number
  have h1 := lpSe (z := fun _ _ => none) (B := fun self => B_Sw_number_L4 z self) (n := nt) (fun a : Option (Nat × Nat) × Nat => nI a.2) (swO nt (nSv nt W O K L)) (fun a => some (nI a.2)) (fun _ _ => True)
    (by
      intro self t a ht _
      have e1 : ¬ nI nt ≤ nI t := nI_ge ht (by omega)
      refine ⟨?_, trivial⟩
      unfold B_Sw_number_L4
      rw [h.2.1, if_neg e1, nI_1]
      have h2 := lpSe (z := fun _ _ => none) (B := fun sf => B_Sw_number_L16 (nI t) z (fun x1_16 => self x1_16 (nI (t + 1))) sf) (n := nt) (fun a : Option (Nat × Nat) × Nat => nI a.2) (swI nt (nSv nt W O K L) t) (fun a => self (nI a.2) (nI (t + 1))) (fun _ _ => True)
        (by
          intro sf u b hu _
          have e2 : ¬ nI nt ≤ nI u := nI_ge hu (by omega)
          refine ⟨?_, trivial⟩
          unfold B_Sw_number_L16
          rw [h.2.1, if_neg e2, Sw_serves h r ht hu]
          simp only [Option.bind_some, bI_0, nI_1]
          unfold swI
          by_cases q : nSv nt W O K L t u = true
          · rw [if_neg (by simp [q]), if_pos q]
          · rw [if_pos (by simpa using q), if_neg q])
        (by
          intro sf b _
          unfold B_Sw_number_L16
          rw [h.2.1, if_pos (Int32.le_refl _)])
        1000 (t + 1) a (by omega) (by omega) trivial
      exact h2)
    (by
      intro self a _
      unfold B_Sw_number_L4
      rw [h.2.1, if_pos (Int32.le_refl _)])
    1000 0 (none, 0) (by omega) (by omega) trivial
  exact h1
theorem swI_fi (sv : Nat → Nat → Bool) (t : Nat) : ∀ (k u : Nat) (a : Option (Nat × Nat) × Nat), (fo (swI nt sv t) k u a).1 = a.1.or (fi (fun u => if sv t u = true then some (t, u) else none) none k u)
  | 0, u, a => by
    show a.1 = a.1.or none
    rw [Option.or_none]
  | k + 1, u, a => by
    show (fo (swI nt sv t) k (u + 1) (swI nt sv t u a)).1 = a.1.or ((if sv t u = true then some (t, u) else none).or (fi (fun u => if sv t u = true then some (t, u) else none) none k (u + 1)))
    rw [swI_fi sv t k (u + 1)]
    unfold swI
    by_cases q : sv t u = true
    · rw [if_pos q, if_pos q, Option.or_assoc]
    · rw [if_neg q, if_neg q, Option.none_or]
theorem swO_fi (sv : Nat → Nat → Bool) : ∀ (k t : Nat) (a : Option (Nat × Nat) × Nat), (fo (swO nt sv) k t a).1 = a.1.or (fi (fun t => fi (fun u => if sv t u = true then some (t, u) else none) none (nt - (t + 1)) (t + 1)) none k t)
  | 0, t, a => by
    show a.1 = a.1.or none
    rw [Option.or_none]
  | k + 1, t, a => by
    show (fo (swO nt sv) k (t + 1) (swO nt sv t a)).1 = a.1.or ((fi (fun u => if sv t u = true then some (t, u) else none) none (nt - (t + 1)) (t + 1)).or (fi (fun t => fi (fun u => if sv t u = true then some (t, u) else none) none (nt - (t + 1)) (t + 1)) none k (t + 1)))
    rw [swO_fi sv k (t + 1)]
    unfold swO
    rw [swI_fi, Option.or_assoc]
theorem fi_or {ρ τ : Type} (g : Nat → Option ρ) (e : ρ → τ) (d : Option τ) : ∀ (k t : Nat), fi (fun i => (g i).map e) d k t = ((fi g none k t).map e).or d
  | 0, _ => rfl
  | k + 1, t => by
    show ((g t).map e).or (fi (fun i => (g i).map e) d k (t + 1)) = ((((g t).or (fi g none k (t + 1))).map e).or d)
    rw [fi_or g e d k (t + 1)]
    cases g t <;> rfl
theorem Sw_first (h : SW z np nt W O K L) (r : RG np nt W O K L) : d_Sw_first z = some (pr5 (swA nt (nSv nt W O K L)).1) := by
  have h7 := r.2.1
  unfold d_Sw_first
  have h1 := lpE (z := fun _ => none) (B := fun self => B_Sw_first_L2 z self) (n := nt) (fun t => (fi (fun u => if nSv nt W O K L t u = true then some (t, u) else none) none (nt - (t + 1)) (t + 1)).map (fun q => nI (10 * q.1 + q.2))) (some (-5))
    (by
      intro self t ht
      have e1 : ¬ nI nt ≤ nI t := nI_ge ht (by omega)
      unfold B_Sw_first_L2
      rw [h.2.1, if_neg e1, nI_1]
      have h2 := lpE (z := fun _ => none) (B := fun sf => B_Sw_first_L14 (nI t) z (self (nI (t + 1))) sf) (n := nt) (fun u => (if nSv nt W O K L t u = true then some (t, u) else none).map (fun q => nI (10 * q.1 + q.2))) (self (nI (t + 1)))
        (by
          intro sf u hu
          have e2 : ¬ nI nt ≤ nI u := nI_ge hu (by omega)
          unfold B_Sw_first_L14
          rw [h.2.1, if_neg e2, Sw_serves h r ht hu]
          simp only [Option.bind_some, bI_0, nI_1]
          by_cases q : nSv nt W O K L t u = true
          · rw [if_neg (by simp [q]), if_pos q]
            show some ((nI 10 * nI t) + nI u) = some (nI (10 * t + u))
            rw [pk_mul, nI_add]
          · rw [if_pos (by simpa using q), if_neg q]
            rfl)
        (by
          intro sf
          unfold B_Sw_first_L14
          rw [h.2.1, if_pos (Int32.le_refl _)])
        1000 (t + 1) (by omega) (by omega)
      rw [fi_or] at h2
      exact h2)
    (by
      intro self
      unfold B_Sw_first_L2
      rw [h.2.1, if_pos (Int32.le_refl _)])
    1000 0 (by omega) (by omega)
  have h1 : d_Sw_first_L2 z 1000 0 = _ := h1
  rw [h1, fi_map, Nat.sub_zero]
  have h3 := swO_fi (nt := nt) (nSv nt W O K L) nt 0 (none, 0)
  rw [Option.none_or] at h3
  unfold swA
  rw [h3]
  congr 1
  cases fi (fun t => fi (fun u => if nSv nt W O K L t u = true then some (t, u) else none) none (nt - (t + 1)) (t + 1)) none nt 0 <;> rfl
/-- a loop over a number, an index and a state -/
theorem lpS2 {σ ρ : Type} {z : Int32 → Int32 → σ → Option ρ} {B : (Int32 → Int32 → σ → Option ρ) → Int32 → Int32 → σ → Option ρ} {n : Nat} {β : Type} (e1 : β → Int32) (e2 : β → σ) (f : Nat → β → β) (k : β → Option ρ) (P : Nat → β → Prop)
    (hs : ∀ self t b, t < n → P t b → B self (e1 b) (nI t) (e2 b) = self (e1 (f t b)) (nI (t + 1)) (e2 (f t b)) ∧ P (t + 1) (f t b)) (he : ∀ self b, P n b → B self (e1 b) (nI n) (e2 b) = k b) :
    ∀ (m t : Nat) (b : β), t ≤ n → n < m + t → P t b → recN z B m (e1 b) (nI t) (e2 b) = k (fo f (n - t) t b)
  | 0, t, a, h1, h2, _ => absurd h2 (by omega)
  | m + 1, t, a, h1, h2, hP => by
    show B (recN z B m) (e1 a) (nI t) (e2 a) = _
    by_cases h : t < n
    · obtain ⟨q, hP'⟩ := hs (recN z B m) t a h hP
      rw [q, lpS2 e1 e2 f k P hs he m (t + 1) (f t a) (by omega) (by omega) hP', show n - t = (n - (t + 1)) + 1 by omega]
      rfl
    · have q : t = n := by omega
      subst q
      rw [he _ a hP, Nat.sub_self]
      rfl
theorem swI_30 {sv : Nat → Nat → Bool} {t : Nat} (k u : Nat) (a : Option (Nat × Nat) × Nat) : (fo (swI nt sv t) k u a).2 ≤ a.2 + k := by
  have h := fo_inv (f := swI nt sv t) (fun i b => b.2 + u ≤ a.2 + i) k u a (Nat.le_refl _) (fun i b _ _ hb => by
    unfold swI
    split
    · show b.2 + 1 + u ≤ _; omega
    · omega)
  have h : (fo (swI nt sv t) k u a).2 + u ≤ a.2 + (u + k) := h
  omega
theorem Mo_firstSwap (h : MW w np nt W O K L) (r : RG np nt W O K L) : d_Mo_firstSwap w = some (pr5 (swA nt (nSv nt W O K L)).1, u_Mo_swaps w (nI (swA nt (nSv nt W O K L)).2)) := by
  have h7 := r.2.1
  unfold d_Mo_firstSwap
  have h1 := lpS2 (z := fun _ _ _ => none) (B := fun self => B_Mo_firstSwap_L10 self) (n := nt) (fun a : Option (Nat × Nat) × Nat => pr5 a.1) (fun a => u_Mo_swaps w (nI a.2)) (swO nt (nSv nt W O K L)) (fun a => some (pr5 a.1, u_Mo_swaps w (nI a.2))) (fun t a => (a.1 = none ↔ a.2 = 0) ∧ a.2 ≤ 7 * t)
    (by
      intro self t a ht ⟨hP, hP2⟩
      have e1 : ¬ nI nt ≤ nI t := nI_ge ht (by omega)
      have hsz := swI_30 (nt := nt) (sv := nSv nt W O K L) (t := t) (nt - (t + 1)) (t + 1) a
      refine ⟨?_, sw_cnt nt _ _ t a hP, by unfold swO; omega⟩
      unfold B_Mo_firstSwap_L10
      have s1 : q_Mo_s (u_Mo_swaps w (nI a.2)) 1 = nI nt := h.2.1.1
      rw [s1, if_neg e1, nI_1]
      have h2 := lpS2 (z := fun _ _ _ => none) (B := fun sf => B_Mo_firstSwap_L24 (nI t) (fun x1_24 z_24 => self x1_24 (nI (t + 1)) z_24) sf) (n := nt) (fun a : Option (Nat × Nat) × Nat => pr5 a.1) (fun a => u_Mo_swaps w (nI a.2)) (swI nt (nSv nt W O K L) t) (fun a => self (pr5 a.1) (nI (t + 1)) (u_Mo_swaps w (nI a.2))) (fun u a => (a.1 = none ↔ a.2 = 0) ∧ a.2 ≤ 7 * t + u)
        (by
          intro sf u b hu ⟨hb, hb2⟩
          have e2 : ¬ nI nt ≤ nI u := nI_ge hu (by omega)
          have s1 : q_Mo_s (u_Mo_swaps w (nI b.2)) 1 = nI nt := h.2.1.1
          have hM : MW (u_Mo_swaps w (nI b.2)) np nt W O K L := ⟨h.1, h.2.1, h.2.2.1, h.2.2.2⟩
          have k0 : (q_Mo_swaps (u_Mo_swaps w (nI b.2)) = 0) ↔ b.2 = 0 := nI_eq (a := b.2) (b := 0) (by omega) (by omega)
          unfold B_Mo_firstSwap_L24
          rw [s1, if_neg e2, Mo_canSwap hM r ht hu]
          simp only [Option.bind_some, bI_0, nI_1, k0]
          unfold swI
          by_cases q : nSv nt W O K L t u = true
          · rw [if_neg (by simp [q]), if_pos q]
            refine ⟨?_, ?_, by show b.2 + 1 ≤ _; omega⟩
            · have y : q_Mo_swaps (u_Mo_swaps w (nI b.2)) + 1 = nI (b.2 + 1) := nI_1 b.2
              rw [y]
              by_cases q0 : b.2 = 0
              · have hn := hb.mpr q0
                rw [if_pos q0, hn]
                show sf ((nI 10 * nI t) + nI u) _ _ = sf (nI (10 * t + u)) _ _
                rw [pk_mul, nI_add]
              · rw [if_neg q0]
                cases hb1 : b.1 with
                | none => exact absurd (hb.mp hb1) q0
                | some y => rfl
            · cases hb1 : b.1 with
              | none => simp
              | some y => simp
          · rw [if_pos (by simpa using q), if_neg q]
            exact ⟨rfl, hb, by omega⟩)
        (by
          intro sf b _
          have s1 : q_Mo_s (u_Mo_swaps w (nI b.2)) 1 = nI nt := h.2.1.1
          unfold B_Mo_firstSwap_L24
          rw [s1, if_pos (Int32.le_refl _)])
        1000 (t + 1) a (by omega) (by omega) ⟨hP, by omega⟩
      exact h2)
    (by
      intro self a _
      have s1 : q_Mo_s (u_Mo_swaps w (nI a.2)) 1 = nI nt := h.2.1.1
      unfold B_Mo_firstSwap_L10
      rw [s1, if_pos (Int32.le_refl _)])
    1000 0 (none, 0) (by omega) (by omega) ⟨by simp, by simp⟩
  exact h1
end SN

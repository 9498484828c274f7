/-! What is dropped, whose it becomes, a bench: on both sides. -/
def upn (f : Nat → Nat) (k x : Nat) : Nat → Nat := fun j => if j = k then x else f j
/-- the first by the row -/
def nTl (W O R : Nat → Nat) (p rs : Nat) : Option Nat := fi (fun i => if (decide (O (R i) = p) && decide (0 < W (R i))) = true then some (R i) else none) none rs 0
def nCh (kd p nt rs : Nat) (R W O k : Nat → Nat) : Option Nat :=
  if kd = 6 then (nTl W O R p rs).or (nF (fun t => decide (O t = p)) (nAh kd W k) nt) else nF (fun t => decide (O t = p)) (nAh kd W k) nt
/-- whose t becomes -/
def nHe (kd p np nt : Nat) (W O L : Nat → Nat) (t : Nat) : Nat :=
  if kd = 2 ∨ kd = 5 then ((fi (fun k => if nLd W O nt ((p + k) % np) + W t ≤ L ((p + k) % np) then some ((p + k) % np) else none) none (np - 1) 1)).getD 4 else 4
def nBe (kd p np nt rs : Nat) (R W : Nat → Nat) (k L : Nat → Nat) : Nat → (Nat → Nat) → Nat × (Nat → Nat)
  | 0, O => (0, O)
  | m + 1, O => if nLd W O nt p ≤ L p then (0, O) else match nCh kd p nt rs R W O k with
    | none => (0, O)
    | some t => ((nBe kd p np nt rs R W k L m (upn O t (nHe kd p np nt W O L t))).1 + 1, (nBe kd p np nt rs R W k L m (upn O t (nHe kd p np nt W O L t))).2)
def nOw (O : Nat → Nat) (nt p : Nat) : Nat := nS (fun _ => 1) (fun t => decide (O t = p)) nt
theorem nOw_le (O : Nat → Nat) (nt p : Nat) : nOw O nt p ≤ nt := by
  have h := nS_le (f := fun _ => 1) (c := fun t => decide (O t = p)) (M := 1) nt (fun _ _ => Nat.le_refl 1)
  unfold nOw
  omega
theorem nS_none {f : Nat → Nat} {c : Nat → Bool} : ∀ n : Nat, (∀ t, t < n → c t = false) → nS f c n = 0
  | 0, _ => rfl
  | n + 1, h => by
    rw [nS_s, h n (by omega), nS_none n (fun t q => h t (by omega))]
    simp
theorem nS_one {f : Nat → Nat} {c d : Nat → Bool} {u : Nat} (hc : c u = true) (hd : d u = false) : ∀ n : Nat, u < n → (∀ t, t < n → t ≠ u → c t = d t) → nS f c n = nS f d n + f u
  | 0, h, _ => by omega
  | n + 1, h, hs => by
    rw [nS_s, nS_s]
    by_cases q : u = n
    · subst q
      rw [if_pos hc, hd, nS_congr (f := f) (g := f) (c := c) (d := d) u (fun t ht => hs t (by omega) (by omega)) (fun _ _ _ => rfl)]
      simp
    · have ih := nS_one (f := f) hc hd n (by omega) (fun t ht => hs t (by omega))
      rw [hs n (by omega) (fun e => q e.symm), ih]
      split <;> omega
theorem nOw_drop {O : Nat → Nat} {nt p t x : Nat} (ht : t < nt) (hO : O t = p) (hx : x ≠ p) : nOw O nt p = nOw (upn O t x) nt p + 1 := by
  unfold nOw
  exact nS_one (f := fun _ => 1) (c := fun j => decide (O j = p)) (d := fun j => decide (upn O t x j = p)) (u := t) (by simp [hO]) (by simp [upn, hx]) nt ht (fun j _ hj => by simp [upn, hj])
theorem nTl_P {W O R : Nat → Nat} {p rs nt : Nat} (hR : ∀ i, i < rs → R i < nt) {t : Nat} (h : nTl W O R p rs = some t) : t < nt ∧ O t = p := by
  refine fi_P (P := fun t => t < nt ∧ O t = p) rs 0 (fun i _ hi r hr => ?_) t h
  by_cases q : (decide (O (R i) = p) && decide (0 < W (R i))) = true
  · rw [if_pos q] at hr
    cases hr
    simp only [Bool.and_eq_true, decide_eq_true_eq] at q
    exact ⟨hR i (by omega), q.1⟩
  · rw [if_neg q] at hr; cases hr
theorem nCh_P {kd p nt rs : Nat} {R W O k : Nat → Nat} (hR : ∀ i, i < rs → R i < nt) {t : Nat} (h : nCh kd p nt rs R W O k = some t) : t < nt ∧ O t = p := by
  have h1 : ∀ t, nF (fun t => decide (O t = p)) (nAh kd W k) nt = some t → t < nt ∧ O t = p := fun t q => by
    have := (nF_P (fun t => decide (O t = p)) (nAh kd W k) nt).1 t q
    exact ⟨this.1, by simpa using this.2⟩
  unfold nCh at h
  split at h
  · cases hT : nTl W O R p rs with
    | none => rw [hT, Option.none_or] at h; exact h1 t h
    | some u =>
      rw [hT, Option.some_or] at h
      cases h
      exact nTl_P hR hT
  · exact h1 t h
theorem nCh_some {kd p nt rs : Nat} {R W O k : Nat → Nat} (h : nCh kd p nt rs R W O k = none) : nLd W O nt p = 0 := by
  have h1 : nF (fun t => decide (O t = p)) (nAh kd W k) nt = none := by
    unfold nCh at h
    split at h
    · cases hT : nTl W O R p rs with
      | none => rw [hT, Option.none_or] at h; exact h
      | some u => rw [hT, Option.some_or] at h; cases h
    · exact h
  exact nS_none nt ((nF_P _ _ nt).2 h1)
theorem nHe_P {kd p np nt : Nat} {W O L : Nat → Nat} {t : Nat} (hp : p < np) (h4 : np ≤ 4) : (nHe kd p np nt W O L t < np ∨ nHe kd p np nt W O L t = 4) ∧ nHe kd p np nt W O L t ≠ p := by
  unfold nHe
  split
  · cases hf : fi (fun k => if nLd W O nt ((p + k) % np) + W t ≤ L ((p + k) % np) then some ((p + k) % np) else none) none (np - 1) 1 with
    | none => exact ⟨Or.inr rfl, by show (4 : Nat) ≠ p; omega⟩
    | some q =>
      have h1 := fi_P (P := fun q => q < np ∧ q ≠ p) (np - 1) 1 (fun i hi1 hi2 r hr => by
        by_cases y : nLd W O nt ((p + i) % np) + W t ≤ L ((p + i) % np)
        · rw [if_pos y] at hr
          cases hr
          refine ⟨Nat.mod_lt _ (by omega), fun e => ?_⟩
          rcases Nat.lt_or_ge (p + i) np with y2 | y2
          · rw [Nat.mod_eq_of_lt y2] at e; omega
          · rw [Nat.mod_eq_sub_mod y2, Nat.mod_eq_of_lt (by omega)] at e; omega
        · rw [if_neg y] at hr; cases hr) q hf
      exact ⟨Or.inl h1.1, h1.2⟩
  · exact ⟨Or.inr rfl, by omega⟩
/-- people as a bench asks them: KIND kd and ROW R of p -/
def PW (y : T_Pe) (p kd rs : Nat) (R : Nat → Nat) : Prop := q_Pe_kind y p = nI kd ∧ q_Pe_rowSize y p = nI rs ∧ ∀ i, i < rs → q_Pe_rows y p i = nI (R i)
def PM (s : Nat → Int32) (p kd rs : Nat) (R : Nat → Nat) : Prop := s (10 + p) = nI kd ∧ s (26 + p) = nI rs ∧ ∀ i, i < rs → s (30 + 7 * p + i) = nI (R i)
def PR (kd rs nt : Nat) (R : Nat → Nat) : Prop := kd ≤ 6 ∧ rs ≤ 7 ∧ ∀ i, i < rs → R i < nt
section BE
variable {z : T_St} {w : T_Mo} {y : T_Pe} {np nt p kd rs : Nat} {R W O : Nat → Nat} {K : Nat → Nat → Nat} {L : Nat → Nat}
theorem oI_map (o : Option Nat) : (o.map nI).getD (-1) = oI o := by cases o <;> rfl
theorem St_toldFirst (h : SW z np nt W O K L) (r : RG np nt W O K L) (hp : p < np) (hy : PW y p kd rs R) (hr : PR kd rs nt R) : d_St_toldFirst (nI p) z y = some (oI (nTl W O R p rs)) := by
  have h4 := r.1
  have h7 := r.2.1
  have e1 : inb (nI p) 4 = true := inb_n (by omega) (by omega)
  have c1 : (nI p).toNatClampNeg = p := nI_clamp (by omega)
  have h1 := lpE (z := fun _ => none) (B := fun self => B_St_toldFirst_L2 (nI p) z y self) (n := rs) (fun i => (if (decide (O (R i) = p) && decide (0 < W (R i))) = true then some (R i) else none).map nI) (some (-1))
    (by
      intro self t ht
      have hrs := hr.2.1
      have hRt := hr.2.2 t ht
      have e2 : ¬ nI rs ≤ nI t := nI_ge ht (by omega)
      have e3 : inb (nI t) 7 = true := inb_n (by omega) (by omega)
      have c3 : (nI t).toNatClampNeg = t := nI_clamp (by omega)
      have e4 : inb (nI (R t)) 7 = true := inb_n (by omega) (by omega)
      have c4 : (nI (R t)).toNatClampNeg = R t := nI_clamp (by omega)
      have wt := r.2.2.1 (R t) hRt
      have z1 : (nI (W (R t)) ≤ 0) ↔ ¬ 0 < W (R t) := by
        rw [show (0 : Int32) = nI 0 from rfl, nI_leI (by omega) (by omega)]; omega
      simp only [B_St_toldFirst_L2, e1, c1, e2, e3, c3, hy.2.1, hy.2.2 t ht, e4, c4, h.2.2.2.1 (R t) hRt, h.2.2.1 (R t) hRt, oC_eq (r.o4 hRt) (show p < 4 by omega), z1, if_true, if_false, nI_1]
      by_cases q1 : O (R t) = p
      · by_cases q2 : 0 < W (R t)
        · simp [q1, q2]
        · simp [q1, q2]
      · simp [q1])
    (by
      intro self
      simp only [B_St_toldFirst_L2, e1, c1, hy.2.1, Int32.le_refl, if_true])
    1000 0 (Nat.zero_le _) (by have := hr.2.1; omega)
  refine Eq.trans h1 ?_
  rw [fi_map, oI_map]
  rfl
theorem Mo_toldThing (h : MT (q_Mo_s w) nt W O) (r : RG np nt W O K L) (hp : p < np) (hy : PM (q_Mo_s w) p kd rs R) (hr : PR kd rs nt R) : d_Mo_toldThing (nI p) w = some (oI (nTl W O R p rs)) := by
  have h4 := r.1
  have h7 := r.2.1
  have e1 : inb (26 + nI p) 901 = true := in9 26 (by omega)
  have c1 : (26 + nI p).toNatClampNeg = 26 + p := cl9 26 (by omega)
  have h1 := lpE (z := fun _ => none) (B := fun self => B_Mo_toldThing_L2 (nI p) w self) (n := rs) (fun i => (if (decide (O (R i) = p) && decide (0 < W (R i))) = true then some (R i) else none).map nI) (some (-1))
    (by
      intro self t ht
      have hrs := hr.2.1
      have hRt := hr.2.2 t ht
      have hO := r.o4 hRt
      have e2 : ¬ nI rs ≤ nI t := nI_ge ht (by omega)
      have e3 : inb ((30 + (7 * nI p)) + nI t) 901 = true := by rw [ow_30]; exact inb_n (by omega) (by omega)
      have c3 : ((30 + (7 * nI p)) + nI t).toNatClampNeg = 30 + 7 * p + t := by rw [ow_30]; exact nI_clamp (by omega)
      have e4 : inb (65 + nI (R t)) 901 = true := in9 65 (by omega)
      have c4 : (65 + nI (R t)).toNatClampNeg = 65 + R t := cl9 65 (by omega)
      have e5 : inb (58 + nI (R t)) 901 = true := in9 58 (by omega)
      have c5 : (58 + nI (R t)).toNatClampNeg = 58 + R t := cl9 58 (by omega)
      have wt := r.2.2.1 (R t) hRt
      have z1 : (nI (W (R t)) ≤ 0) ↔ ¬ 0 < W (R t) := by
        rw [show (0 : Int32) = nI 0 from rfl, nI_leI (by omega) (by omega)]; omega
      have z2 : (nI (O (R t)) = nI p) ↔ O (R t) = p := nI_eq (by omega) (by omega)
      simp only [B_Mo_toldThing_L2, e1, c1, e2, e3, c3, hy.2.1, hy.2.2 t ht, e4, c4, e5, c5, h.2.2 (R t) hRt, h.2.1 (R t) hRt, z2, z1, if_true, if_false, nI_1]
      by_cases q1 : O (R t) = p
      · by_cases q2 : 0 < W (R t)
        · simp [q1, q2]
        · simp [q1, q2]
      · simp [q1])
    (by
      intro self
      simp only [B_Mo_toldThing_L2, e1, c1, hy.2.1, Int32.le_refl, if_true])
    1000 0 (Nat.zero_le _) (by have := hr.2.1; omega)
  refine Eq.trans h1 ?_
  rw [fi_map, oI_map]
  rfl
theorem oI_lt (o : Option Nat) (h : ∀ t, o = some t → t < 2 ^ 31) : (oI o < 0) ↔ o = none := by
  cases o with
  | none => exact ⟨fun _ => rfl, fun _ => by show ((-1) : Int32) < 0; decide⟩
  | some t => exact ⟨fun q => absurd q (nI_pos (h t rfl)), fun q => by cases q⟩
theorem oI_m1 (o : Option Nat) (h : ∀ t, o = some t → t < 2 ^ 31) : (oI o = -1) ↔ o = none := by
  cases o with
  | none => exact ⟨fun _ => rfl, fun _ => rfl⟩
  | some t => exact ⟨fun q => absurd (show nI t < 0 by rw [show nI t = -1 from q]; decide) (nI_pos (h t rfl)), fun q => by cases q⟩
theorem St_chooseL (h : SW z np nt W O K L) (r : RG np nt W O K L) (hp : p < np) (hy : PW y p kd rs R) (hk : kd ≤ 6) : d_St_choose_L34 (nI p) z y 1000 (-1) 0 = some (oI (nF (fun t => decide (O t = p)) (nAh kd W (K p)) nt)) := by
  have h4 := r.1
  have h7 := r.2.1
  have e1 : inb (nI p) 4 = true := inb_n (by omega) (by omega)
  have c1 : (nI p).toNatClampNeg = p := nI_clamp (by omega)
  exact lpSe (z := fun _ _ => none) (B := fun self => B_St_choose_L34 (nI p) z y self) (n := nt) oI (nFst (fun t => decide (O t = p)) (nAh kd W (K p))) (fun o => some (oI o)) (fun _ o => ∀ u, o = some u → u < nt)
    (by
      intro self t o ht hP
      have e2 : ¬ nI nt ≤ nI t := nI_ge ht (by omega)
      have e3 : inb (nI t) 7 = true := inb_n (by omega) (by omega)
      have c3 : (nI t).toNatClampNeg = t := nI_clamp (by omega)
      have z1 := oI_lt o (fun u hu => by have := hP u hu; omega)
      simp only [B_St_choose_L34, h.2.1, e1, c1, e2, e3, c3, h.2.2.2.1 t ht, oC_eq (r.o4 ht) (show p < 4 by omega), hy.1, z1, if_true, if_false, nI_1]
      cases o with
      | none =>
        by_cases q1 : O t = p
        · refine ⟨by simp [q1, nFst, oI], fun u hu => ?_⟩
          simp only [nFst, q1, decide_true, if_true, Option.some.injEq] at hu
          omega
        · refine ⟨by simp [q1, nFst], fun u hu => ?_⟩
          simp [nFst, q1] at hu
      | some u =>
        have hu := hP u rfl
        have g1 : d_St_goesAhead (nI kd) (nI p) (nI t) (oI (some u)) z = some (bI (nAh kd W (K p) t u)) := St_goesAhead h r hk hp ht hu
        rw [g1]
        by_cases q1 : O t = p
        · by_cases q2 : nAh kd W (K p) t u = true
          · refine ⟨by simp [q1, q2, nFst, bI, oI], fun v hv => ?_⟩
            simp [nFst, q1, q2] at hv
            omega
          · refine ⟨by simp [q1, q2, nFst, bI], fun v hv => ?_⟩
            simp [nFst, q2] at hv
            omega
        · refine ⟨by simp [q1, nFst], fun v hv => ?_⟩
          simp [nFst, q1] at hv
          omega)
    (by
      intro self o _
      simp only [B_St_choose_L34, h.2.1, Int32.le_refl, if_true])
    1000 0 none (Nat.zero_le _) (by omega) (fun u hu => by cases hu)
theorem Mo_dropsL (h : MW w np nt W O K L) (r : RG np nt W O K L) (hp : p < np) (hy : PM (q_Mo_s w) p kd rs R) (hk : kd ≤ 6) : d_Mo_drops_L36 (nI p) w 1000 (-1) 0 = some (oI (nF (fun t => decide (O t = p)) (nAh kd W (K p)) nt)) := by
  have h4 := r.1
  have h7 := r.2.1
  exact lpSe (z := fun _ _ => none) (B := fun self => B_Mo_drops_L36 (nI p) w self) (n := nt) oI (nFst (fun t => decide (O t = p)) (nAh kd W (K p))) (fun o => some (oI o)) (fun _ o => ∀ u, o = some u → u < nt)
    (by
      intro self t o ht hP
      have hO := r.o4 ht
      have e2 : ¬ nI nt ≤ nI t := nI_ge ht (by omega)
      have e3 : inb (65 + nI t) 901 = true := in9 65 (by omega)
      have c3 : (65 + nI t).toNatClampNeg = 65 + t := cl9 65 (by omega)
      have z1 := oI_m1 o (fun u hu => by have := hP u hu; omega)
      have z2 : (nI (O t) = nI p) ↔ O t = p := nI_eq (by omega) (by omega)
      simp only [B_Mo_drops_L36, h.2.1.1, e2, e3, c3, h.2.1.2.2 t ht, z2, z1, if_true, if_false, nI_1]
      cases o with
      | none =>
        by_cases q1 : O t = p
        · refine ⟨by simp [q1, nFst, oI], fun u hu => ?_⟩
          simp only [nFst, q1, decide_true, if_true, Option.some.injEq] at hu
          omega
        · refine ⟨by simp [q1, nFst], fun u hu => ?_⟩
          simp [nFst, q1] at hu
      | some u =>
        have hu := hP u rfl
        have g1 : d_Mo_isAhead (nI p) (nI t) (oI (some u)) w = some (bI (nAh kd W (K p) t u)) := Mo_isAhead h r hy.1 hk hp ht hu
        rw [g1]
        by_cases q1 : O t = p
        · by_cases q2 : nAh kd W (K p) t u = true
          · refine ⟨by simp [q1, q2, nFst, bI, oI], fun v hv => ?_⟩
            simp [nFst, q1, q2] at hv
            omega
          · refine ⟨by simp [q1, q2, nFst, bI], fun v hv => ?_⟩
            simp [nFst, q2] at hv
            omega
        · refine ⟨by simp [q1, nFst], fun v hv => ?_⟩
          simp [nFst, q1] at hv
          omega)
    (by
      intro self o _
      simp only [B_Mo_drops_L36, h.2.1.1, Int32.le_refl, if_true])
    1000 0 none (Nat.zero_le _) (by omega) (fun u hu => by cases hu)
theorem oI_31 {o : Option Nat} {nt : Nat} (h : ∀ t, o = some t → t < nt) (h7 : nt ≤ 7) : ∀ t, o = some t → t < 2 ^ 31 := fun t ht => by have := h t ht; omega
theorem St_choose (h : SW z np nt W O K L) (r : RG np nt W O K L) (hp : p < np) (hy : PW y p kd rs R) (hr : PR kd rs nt R) : d_St_choose (nI p) z y = some (oI (nCh kd p nt rs R W O (K p))) := by
  have h4 := r.1
  have hk := hr.1
  have e1 : inb (nI p) 4 = true := inb_n (by omega) (by omega)
  have c1 : (nI p).toNatClampNeg = p := nI_clamp (by omega)
  have k6 : (nI kd = 6) ↔ kd = 6 := nI_eq (b := 6) (by omega) (by omega)
  have z1 := oI_lt (nTl W O R p rs) (oI_31 (fun t ht => (nTl_P hr.2.2 ht).1) r.2.1)
  unfold d_St_choose
  simp only [e1, c1, hy.1, k6, St_toldFirst h r hp hy hr, St_chooseL h r hp hy hk, if_true, Option.bind_some, z1]
  unfold nCh
  by_cases q : kd = 6
  · rw [if_pos q, if_pos q]
    cases nTl W O R p rs with
    | none => simp
    | some t => simp
  · rw [if_neg q, if_neg q]
theorem Mo_drops (h : MW w np nt W O K L) (r : RG np nt W O K L) (hp : p < np) (hy : PM (q_Mo_s w) p kd rs R) (hr : PR kd rs nt R) : d_Mo_drops (nI p) w = some (oI (nCh kd p nt rs R W O (K p))) := by
  have h4 := r.1
  have hk := hr.1
  have e1 : inb (10 + nI p) 901 = true := in9 10 (by omega)
  have c1 : (10 + nI p).toNatClampNeg = 10 + p := cl9 10 (by omega)
  have k6 : (nI kd = 6) ↔ kd = 6 := nI_eq (b := 6) (by omega) (by omega)
  have z1 := oI_m1 (nTl W O R p rs) (oI_31 (fun t ht => (nTl_P hr.2.2 ht).1) r.2.1)
  unfold d_Mo_drops
  simp only [e1, c1, hy.1, k6, Mo_toldThing h.2.1 r hp hy hr, Mo_dropsL h r hp hy hk, if_true, Option.bind_some, z1]
  unfold nCh
  by_cases q : kd = 6
  · rw [if_pos q, if_pos q]
    cases nTl W O R p rs with
    | none => simp
    | some t => simp
  · rw [if_neg q, if_neg q]
theorem ow_fi4 (g : Nat → Option Nat) (e : Nat → Int32) (k t : Nat) : ((fi g none k t).map e).getD (e 4) = e ((fi g none k t).getD 4) := by
  cases fi g none k t <;> rfl
theorem fi_none_map (g : Nat → Option Nat) {e e' : Nat → Int32} (h : ∀ i r, g i = some r → e r = e' r) : (fun i => (g i).map e) = (fun i => (g i).map e') := by
  funext i
  cases hg : g i with
  | none => rfl
  | some r => simp [h i r hg]
theorem St_heir (h : SW z np nt W O K L) (r : RG np nt W O K L) (hp : p < np) (hk : kd ≤ 6) {t : Nat} (ht : t < nt) : d_St_heir (nI kd) (nI p) (nI t) z = some (oC (nHe kd p np nt W O L t)) := by
  have h4 := r.1
  have h7 := r.2.1
  have k2 : (nI kd = 2) ↔ kd = 2 := nI_eq (b := 2) (by omega) (by omega)
  have k5 : (nI kd = 5) ↔ kd = 5 := nI_eq (b := 5) (by omega) (by omega)
  have e2 : inb (nI t) 7 = true := inb_n (by omega) (by omega)
  have c2 : (nI t).toNatClampNeg = t := nI_clamp (by omega)
  have wt := r.2.2.1 t ht
  have h1 : d_St_heir_L16 (nI p) (nI t) z 1000 1 = some (oC ((fi (fun k => if nLd W O nt ((p + k) % np) + W t ≤ L ((p + k) % np) then some ((p + k) % np) else none) none (np - 1) 1).getD 4)) := by
    have h1 := lpE (z := fun _ => none) (B := fun self => B_St_heir_L16 (nI p) (nI t) z self) (n := np) (fun k => (if nLd W O nt ((p + k) % np) + W t ≤ L ((p + k) % np) then some ((p + k) % np) else none).map oC) (some (oC 4))
      (by
        intro self k hk
        have e3 : ¬ nI np ≤ nI k := nI_ge hk (by omega)
        have q9 : ∀ q, q < np → ((d_St_load (nI q) z).bind fun v_4 => if inb (nI t) 7 = true then (if inb (nI q) 4 = true then (if ((q_St_lifts z) (nI q).toNatClampNeg) < (v_4 + ((q_St_weight z) (nI t).toNatClampNeg)) then (self (nI k + 1)) else (some (nI q))) else none) else none) = ((if nLd W O nt q + W t ≤ L q then some q else none).map oC).or (self (nI (k + 1))) := by
          intro q hq
          have e4 : inb (nI q) 4 = true := inb_n (by omega) (by omega)
          have c4 : (nI q).toNatClampNeg = q := nI_clamp (by omega)
          have hL := r.2.2.2.2.2 q hq
          have hl := nLd_le (O := O) (p := q) h7 r.2.2.1
          have z1 : (nI (L q) < nI (nLd W O nt q + W t)) ↔ ¬ nLd W O nt q + W t ≤ L q := by
            rw [nI_ltI (by omega) (by omega)]; omega
          simp only [St_load h r (show q < 4 by omega), Option.bind_some, e2, c2, e4, c4, h.2.2.1 t ht, h.2.2.2.2.2 q hq, nI_add, z1, if_true, nI_1]
          by_cases y1 : nLd W O nt q + W t ≤ L q
          · simp [y1, oC_lt (show q < 4 by omega)]
          · simp [y1]
        have z2 : (nI np ≤ nI p + nI k) ↔ np ≤ p + k := by rw [nI_add, nI_leI (by omega) (by omega)]
        simp only [B_St_heir_L16, h.1, e3, if_false, z2]
        by_cases y2 : np ≤ p + k
        · rw [if_pos y2, show nI p + nI k - nI np = nI ((p + k) % np) by
            rw [nI_add, pk_sub y2, Nat.mod_eq_sub_mod y2, Nat.mod_eq_of_lt (by omega)]]
          exact q9 ((p + k) % np) (Nat.mod_lt _ (by omega))
        · rw [if_neg y2, show nI p + nI k = nI ((p + k) % np) by
            rw [nI_add, Nat.mod_eq_of_lt (by omega)]]
          exact q9 ((p + k) % np) (Nat.mod_lt _ (by omega)))
      (by
        intro self
        simp only [B_St_heir_L16, h.1, Int32.le_refl, if_true]
        rfl)
      1000 1 (by omega) (by omega)
    refine Eq.trans h1 ?_
    rw [fi_map, ow_fi4]
  unfold d_St_heir nHe
  rw [h1]
  simp only [k2, k5]
  by_cases q2 : kd = 2
  · simp [q2]
  · by_cases q5 : kd = 5
    · simp [q5]
    · simp [q2, q5, oC]
theorem Mo_becomes (h : MW w np nt W O K L) (r : RG np nt W O K L) (hp : p < np) (hkd : q_Mo_s w (10 + p) = nI kd) (hk : kd ≤ 6) {t : Nat} (ht : t < nt) : d_Mo_becomes (nI p) (nI t) w = some (nI (nHe kd p np nt W O L t)) := by
  have h4 := r.1
  have h7 := r.2.1
  have k2 : (nI kd = 2) ↔ kd = 2 := nI_eq (b := 2) (by omega) (by omega)
  have k5 : (nI kd = 5) ↔ kd = 5 := nI_eq (b := 5) (by omega) (by omega)
  have e1 : inb (10 + nI p) 901 = true := in9 10 (by omega)
  have c1 : (10 + nI p).toNatClampNeg = 10 + p := cl9 10 (by omega)
  have e2 : inb (58 + nI t) 901 = true := in9 58 (by omega)
  have c2 : (58 + nI t).toNatClampNeg = 58 + t := cl9 58 (by omega)
  have wt := r.2.2.1 t ht
  have z0 : ¬ nI np = 0 := nI_ne0 (by omega) (by omega)
  have h1 : d_Mo_becomes_L28 (nI p) (nI t) w 1000 1 = some (nI ((fi (fun k => if nLd W O nt ((p + k) % np) + W t ≤ L ((p + k) % np) then some ((p + k) % np) else none) none (np - 1) 1).getD 4)) := by
    have h1 := lpE (z := fun _ => none) (B := fun self => B_Mo_becomes_L28 (nI p) (nI t) w self) (n := np) (fun k => (if nLd W O nt ((p + k) % np) + W t ≤ L ((p + k) % np) then some ((p + k) % np) else none).map nI) (some (nI 4))
      (by
        intro self k hk
        have e3 : ¬ nI np ≤ nI k := nI_ge hk (by omega)
        have hq : (p + k) % np < np := Nat.mod_lt _ (by omega)
        have e4 : inb (nI ((p + k) % np)) 4 = true := inb_n (by omega) (by omega)
        have c4 : (nI ((p + k) % np)).toNatClampNeg = (p + k) % np := nI_clamp (by omega)
        have hL := r.2.2.2.2.2 _ hq
        have hl := nLd_le (O := O) (p := (p + k) % np) h7 r.2.2.1
        have z1 : (nI (L ((p + k) % np)) < nI (nLd W O nt ((p + k) % np) + W t)) ↔ ¬ nLd W O nt ((p + k) % np) + W t ≤ L ((p + k) % np) := by
          rw [nI_ltI (by omega) (by omega)]; omega
        have z3 : nI (p + k) - nI (p + k) / nI np * nI np = nI ((p + k) % np) := pk_rem (by omega) (by omega) (by omega)
        simp only [B_Mo_becomes_L28, h.1, e3, z0, z3, Mo_loadOf h.2.1 h7 (fun t ht => r.o4 ht) (show (p + k) % np < 4 by omega), Option.bind_some, e2, c2, e4, c4, h.2.1.2.1 t ht, h.2.2.2 _ hq, nI_add, z1, if_true, if_false, nI_1]
        by_cases y1 : nLd W O nt ((p + k) % np) + W t ≤ L ((p + k) % np)
        · simp [y1]
        · simp [y1])
      (by
        intro self
        simp only [B_Mo_becomes_L28, h.1, Int32.le_refl, if_true]
        rfl)
      1000 1 (by omega) (by omega)
    refine Eq.trans h1 ?_
    rw [fi_map, ow_fi4]
  unfold d_Mo_becomes nHe
  rw [h1]
  simp only [e1, c1, hkd, k2, k5, if_true]
  by_cases q2 : kd = 2
  · simp [q2]
  · by_cases q5 : kd = 5
    · simp [q5]
    · simp [q2, q5]; rfl
end BE

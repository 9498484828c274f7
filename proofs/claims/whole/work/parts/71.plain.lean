/-! The calls that ask a field, and those that set one. -/
theorem orNob {x : Int32} (h : rg x 4) : d_Mo_orNobody x = some (oC (NN x)) := by
  have h4 := h.2
  have e := h.1
  unfold d_Mo_orNobody oC
  by_cases q : NN x = 4
  · rw [if_pos (by rw [e, q]; rfl), if_pos q]
  · rw [if_neg (fun q2 => q (by rw [q2]; decide +kernel)), if_neg q, ← e]
theorem s_when : S_when Rl := by
  intro z w h
  obtain ⟨⟨cl, hR⟩, -⟩ := id h
  refine ⟨_, z, w, ?_, rfl, h, rfl, rfl⟩
  unfold d_OL_when
  rw [hR.2.1.2.2.2.2.2]
theorem s_count : S_count Rl := by
  intro z w x h
  obtain ⟨⟨cl, hR⟩, -, -, k, k1, k2, k3, -⟩ := id h
  obtain ⟨e0, e1, e2, e3, e4, e5⟩ := hR.2.1
  have he : d_OL_count x z = d_Mo_count x w := by
    unfold d_OL_count
    rw [e0, e1, e2, e3, e4, k3, ← k2]
    rfl
  have ht : ∃ r, d_Mo_count x w = some r := by
    unfold d_Mo_count
    (repeat' split) <;> exact ⟨_, rfl⟩
  obtain ⟨r, hr⟩ := ht
  exact ⟨r, z, w, he.trans hr, hr, h, rfl, rfl⟩
theorem s_trace : S_trace Rl := by
  intro z w x h
  obtain ⟨-, -, -, k, k1, k2, k3, k4⟩ := id h
  have e20 : (20 : Int32) = nI 20 := rfl
  have hm : ∃ r, d_Mo_trace x w = some r ∧ d_OL_trace x z = some r := by
    unfold d_Mo_trace d_OL_trace
    rw [k2, k3]
    by_cases q : 20 ≤ k
    · have y : (20 : Int32) ≤ nI k := nI_le (a := 20) q (by omega)
      rw [if_pos y]
      rcases ix_cases (c := 20) (m := 20) (by omega) (rg_n (k := 20) (by omega) (by omega)) x with ⟨h1, h2⟩ | ⟨j, h1, h2, h3, h4, h5⟩
      · rw [h2]
        refine ⟨-1, rfl, ?_⟩
        rcases h1 with q1 | ⟨q1, q2⟩
        · rw [if_pos q1]
        · rw [if_neg q1]
          by_cases y2 : nI k ≤ x
          · rw [if_pos y2]
          · rw [if_neg y2, if_neg (Int32.not_lt.mpr q2)]
      · have hj : j < 20 := h1
        rw [h5]
        subst h2
        have i1 : inb (nI j) 20 = true := inb_n hj (by omega)
        have c1 : (nI j).toNatClampNeg = j := nI_clamp (by omega)
        have n1 : ¬ nI k ≤ nI j := nI_ge (by omega) (by omega)
        have n2 : nI j < 20 := nI_lt (b := 20) hj (by omega)
        refine ⟨q_Mo_bodies w j, ?_, ?_⟩
        · simp [i1, c1]
        · rw [if_neg h3, if_neg n1, if_pos n2, if_pos i1, c1, k4 j (by omega) hj]
    · have y : ¬ (20 : Int32) ≤ nI k := nI_ge (b := 20) (by omega) (by omega)
      rw [if_neg y]
      rcases ix_cases (c := nI k) (m := 20) (by omega) (rg_n (k := k) (by omega) (by omega)) x with ⟨h1, h2⟩ | ⟨j, h1, h2, h3, h4, h5⟩
      · rw [h2]
        refine ⟨-1, rfl, ?_⟩
        rcases h1 with q1 | ⟨q1, q2⟩
        · rw [if_pos q1]
        · rw [if_neg q1, if_pos q2]
      · have hj : j < k := by rw [rg_N (by omega)] at h1; exact h1
        rw [h5]
        subst h2
        have i1 : inb (nI j) 20 = true := inb_n (by omega) (by omega)
        have c1 : (nI j).toNatClampNeg = j := nI_clamp (by omega)
        have n2 : nI j < 20 := nI_lt (b := 20) (by omega) (by omega)
        refine ⟨q_Mo_bodies w j, ?_, ?_⟩
        · simp [i1, c1]
        · rw [if_neg h3, if_neg h4, if_pos n2, if_pos i1, c1, k4 j hj (by omega)]
  obtain ⟨r, h1, h2⟩ := hm
  exact ⟨r, z, w, h2, h1, h, rfl, rfl⟩
theorem s_at : S_at Rl := by
  intro z w x x2 h
  obtain ⟨⟨cl, hR⟩, -⟩ := id h
  have h7 := hR.1.2.1.2
  have hm : ∃ r, d_Mo_at x x2 w = some r ∧ d_OL_at x x2 z = some r := by
    unfold d_Mo_at d_OL_at
    rcases thi_cases (t := q_Re_things (q_OL_now z)) (w := w) hR.2.1.2.1 hR.1.2.1 x with ⟨h1, h2⟩ | ⟨t, ht, rfl, h1, h2⟩
    · rw [h1, h2]
      exact ⟨_, rfl, rfl⟩
    · rw [h1, h2, within_in]
      have hT := (hR.2.2.2.1 t ht)
      have i1 : inb (58 + nI t) 901 = true := in9 58 (by omega)
      have i2 : inb (65 + nI t) 901 = true := in9 65 (by omega)
      have i3 : inb (nI t) 7 = true := inb_n (by omega) (by omega)
      have c1 : (58 + nI t).toNatClampNeg = 58 + t := cl9 58 (by omega)
      have c2 : (65 + nI t).toNatClampNeg = 65 + t := cl9 65 (by omega)
      have c3 : (nI t).toNatClampNeg = t := nI_clamp (by omega)
      rcases in_cases x2 1 with h3 | ⟨h3, -, -⟩
      · rw [h3]
        exact ⟨_, rfl, rfl⟩
      · rw [h3]
        simp only [Option.bind_some, i1, i2, i3, c1, c2, c3, orNob hT.1.2.1, hT.2.1, hT.2.2, if_true]
        by_cases q : x2 = 0
        · rw [if_pos q]
          exact ⟨_, rfl, by simp [q]⟩
        · rw [if_neg q]
          exact ⟨_, rfl, by simp [q]⟩
  obtain ⟨r, h1, h2⟩ := hm
  exact ⟨r, z, w, h2, h1, h, rfl, rfl⟩
theorem s_like : S_like Rl := by
  intro z w x x2 h
  obtain ⟨⟨cl, hR⟩, -⟩ := id h
  unfold d_OL_like d_Mo_like
  rcases per_cases (y := q_Re_people (q_OL_now z)) (w := w) hR.2.1.1 hR.1.1 x with ⟨h1, h2⟩ | ⟨p, hp, rfl, h1, h2⟩
  · rw [h1, h2]
    exact ⟨_, z, w, rfl, rfl, h⟩
  · rw [h1, h2]
    rcases thi_cases (t := q_Re_things (q_OL_now z)) (w := w) hR.2.1.2.1 hR.1.2.1 x2 with ⟨h3, h4⟩ | ⟨t, ht, rfl, h3, h4⟩
    · rw [h3, h4]
      exact ⟨_, z, w, rfl, rfl, h⟩
    · rw [h3, h4]
      obtain ⟨F, y1⟩ := Re_likeOf hR.re hR.rg hp ht
      obtain ⟨B, T, y2⟩ := Mo_likeOf (w := w) hR.lc hR.rg hp ht
      simp only [Option.bind_some]
      rw [y1, y2]
      refine ⟨_, u_OL_now z (u_Re_facts (q_OL_now z) F), u_Mo_truths (u_Mo_by w B) T, rfl, rfl, ?_⟩
      exact Rl.set (cl := cl) h hR rfl rfl rfl FrM.rf
/-- the KIND k or the first above it that is k or less -/
def abK (x : Nat) : Nat := if x = 4 then 1 else if x = 5 then 2 else if x = 6 then 3 else 0
def upK (x k : Nat) : Nat := if x ≤ k then x else if abK x ≤ k then abK x else abK (abK x)
theorem abK_C : ∀ x, x < 7 → 0 < x → aboveC x = nI (abK x) ∧ abK x < x := by decide +kernel
theorem upK_all : ∀ x, x < 7 → ∀ k, k < 7 → d_Mo_isUnder (nI x) (nI k) = some (bI (decide (upK x k = k))) := by decide +kernel
theorem upK_le : ∀ x, x < 7 → ∀ k, k < 7 → upK x k ≤ 6 ∧ (¬ x ≤ k → ¬ abK x ≤ k → abK (abK x) ≤ k) := by decide +kernel
section ASK
variable {x1 : Int32} {z : T_OL} {kk : Int32 → Option Int32}
theorem as_stop {x k i m : Nat} (hk : k < 7) (hx : x ≤ k) (hi : i < 7) : d_OL_as_L39 x1 (nI k) z kk (m + 1) (nI x) (nI i) = kk (nI x) := by
  have hB : d_OL_as_L39 x1 (nI k) z kk (m + 1) (nI x) (nI i) = B_OL_as_L39 x1 (nI k) z kk (d_OL_as_L39 x1 (nI k) z kk m) (nI x) (nI i) := rfl
  have e1 : ¬ (7 : Int32) ≤ nI i := nI_ge (b := 7) hi (by omega)
  have e2 : nI x ≤ nI k := nI_le hx (by omega)
  rw [hB]
  unfold B_OL_as_L39
  rw [if_neg e1, if_pos e2]
theorem as_step {x k i m : Nat} (hk : k < 7) (hx : ¬ x ≤ k) (hx7 : x < 7) (hi : i < 7) : d_OL_as_L39 x1 (nI k) z kk (m + 1) (nI x) (nI i) = d_OL_as_L39 x1 (nI k) z kk m (nI (abK x)) (nI (i + 1)) := by
  have hB : d_OL_as_L39 x1 (nI k) z kk (m + 1) (nI x) (nI i) = B_OL_as_L39 x1 (nI k) z kk (d_OL_as_L39 x1 (nI k) z kk m) (nI x) (nI i) := rfl
  have e1 : ¬ (7 : Int32) ≤ nI i := nI_ge (b := 7) hi (by omega)
  have e2 : ¬ nI x ≤ nI k := nI_ge (by omega) (by omega)
  have e3 : inb (nI x) 7 = true := inb_n hx7 (by omega)
  have e4 : (nI x).toNatClampNeg = x := nI_clamp (by omega)
  rw [hB]
  unfold B_OL_as_L39
  rw [if_neg e1, if_neg e2, if_pos e3, e4, (abK_C x hx7 (by omega)).1, nI_1]
theorem as_all {x k : Nat} (hx : x < 7) (hk : k < 7) : d_OL_as_L39 x1 (nI k) z kk 1000 (nI x) (nI 0) = kk (nI (upK x k)) := by
  unfold upK
  by_cases h1 : x ≤ k
  · rw [if_pos h1]
    exact as_stop hk h1 (by omega)
  · rw [if_neg h1, show (1000 : Nat) = 999 + 1 from rfl, as_step hk h1 hx (by omega)]
    have ha := (abK_C x hx (by omega)).2
    by_cases h2 : abK x ≤ k
    · rw [if_pos h2]
      exact as_stop hk h2 (by omega)
    · rw [if_neg h2, show (999 : Nat) = 998 + 1 from rfl, as_step hk h2 (by omega) (by omega)]
      exact as_stop hk ((upK_le x hx k hk).2 h1 h2) (by omega)
end ASK
theorem s_as : S_as Rl := by
  intro z w x x2 h
  obtain ⟨⟨cl, hR⟩, -⟩ := id h
  have h4 := hR.1.1.2
  have hm : ∃ r, d_Mo_as x x2 w = some r ∧ d_OL_as x x2 z = some r := by
    unfold d_Mo_as d_OL_as
    rcases per_cases (y := q_Re_people (q_OL_now z)) (w := w) hR.2.1.1 hR.1.1 x with ⟨h1, h2⟩ | ⟨p, hp, rfl, h1, h2⟩
    · rw [h1, h2]
      exact ⟨_, rfl, rfl⟩
    · rw [h1, h2]
      rcases kind_cases x2 with ⟨h3, h4⟩ | ⟨k, hk, rfl, h3, h5⟩
      · rw [h3, h4]
        exact ⟨_, rfl, rfl⟩
      · rw [h3, h5]
        have hP := (hR.2.2.1 p hp)
        have i1 : inb (10 + nI p) 901 = true := in9 10 (by omega)
        have i2 : inb (14 + nI p) 901 = true := in9 14 (by omega)
        have i3 : inb (nI p) 4 = true := inb_n (by omega) (by omega)
        have c1 : (10 + nI p).toNatClampNeg = 10 + p := cl9 10 (by omega)
        have c2 : (14 + nI p).toNatClampNeg = 14 + p := cl9 14 (by omega)
        have c3 : (nI p).toNatClampNeg = p := nI_clamp (by omega)
        have kd := hP.1.1
        have kd6 := kd.2
        have u1 := upK_all (NN (q_Mo_s w (10 + p))) (by omega) k (by omega)
        rw [← kd.1] at u1
        have u2 := (upK_le (NN (q_Mo_s w (10 + p))) (by omega) k (by omega)).1
        have u3 := as_all (x1 := nI p) (z := z) (kk := fun x3_39 => if x3_39 = nI k then (if inb (nI p) 4 = true then (some ((q_Pe_v (q_Re_people (q_OL_now z))) (nI p).toNatClampNeg)) else none) else (some ((-6)))) (x := NN (q_Mo_s w (10 + p))) (k := k) (by omega) (by omega)
        rw [← kd.1] at u3
        have u4 : (nI (upK (NN (q_Mo_s w (10 + p))) k) = nI k) ↔ upK (NN (q_Mo_s w (10 + p))) k = k := nI_eq (by omega) (by omega)
        have u3 : d_OL_as_L39 (nI p) (nI k) z _ 1000 (q_Mo_s w (10 + p)) 0 = _ := u3
        have z9 : ¬ (1 : Int32) = 0 := by decide
        simp only [Option.bind_some, z9, i1, i2, c1, c2, u1, bI_0, if_true, if_false, decide_eq_false_iff_not]
        rw [if_pos i3, c3, hP.2.1]
        rw [c3] at u3
        rw [u3]
        simp only [u4, i3, if_true, hP.2.2.1]
        by_cases q : upK (NN (q_Mo_s w (10 + p))) k = k
        · rw [if_pos q, if_neg (fun y => y q)]
          exact ⟨_, rfl, rfl⟩
        · rw [if_neg q, if_pos q]
          exact ⟨_, rfl, rfl⟩
  obtain ⟨r, h1, h2⟩ := hm
  exact ⟨r, z, w, h2, h1, h, rfl, rfl⟩

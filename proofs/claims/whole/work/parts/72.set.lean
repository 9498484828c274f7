/-! The calls that set a field. -/
theorem s_feed : S_feed Rl := by
  intro z w x h
  obtain ⟨⟨cl, hR⟩, -⟩ := id h
  have hg := hR.1.2.2.2.2.1
  obtain ⟨e0, e1, e2, e3, e4, e5⟩ := hR.2.1
  unfold d_OL_feed d_Mo_feed
  by_cases n0 : x < 0
  · rw [if_pos n0, show d_Mo_in x 0 127 = some 0 from if_pos n0]
    exact ⟨_, z, w, rfl, rfl, h⟩
  · rw [if_neg n0]
    by_cases n1 : x ≤ 127
    · have y1 : ¬ (127 : Int32) < x := Int32.not_lt.mpr n1
      rw [if_pos n1, show d_Mo_in x 0 127 = some 1 from (if_neg n0).trans (if_neg y1)]
      have hx : rg x 127 := rg_of (M := 127) (by decide) n0 y1 (by omega)
      have hn := hg.2
      have en := hg.1
      generalize hN : NN (q_Mo_s w 4) = n at *
      have k1 : (q_Re_signs (q_OL_now z) < 100) ↔ n < 100 := by rw [e4, en]; exact nI_ltI (b := 100) (by omega) (by omega)
      have k2 : (q_Mo_s w 4 = 100) ↔ n = 100 := by rw [en]; exact nI_eq (b := 100) (by omega) (by omega)
      have z9 : ¬ (1 : Int32) = 0 := by decide
      simp only [Option.bind_some, z9, if_false]
      by_cases q : n < 100
      · have i1 : inb (q_Re_signs (q_OL_now z)) 100 = true := by rw [e4, en]; exact inb_n q (by omega)
        have i2 : inb (96 + q_Mo_s w 4) 901 = true := by rw [en]; exact in9 96 (by omega)
        have c1 : (q_Re_signs (q_OL_now z)).toNatClampNeg = n := by rw [e4]; exact hN
        have c2 : (96 + q_Mo_s w 4).toNatClampNeg = 96 + n := by rw [en]; exact cl9 96 (by omega)
        rw [if_pos (k1.mpr q), if_pos i1, if_neg (fun y => (by have := k2.mp y; omega)), if_pos i2, c2, c1]
        refine ⟨nI (n + 1), u_OL_now z (u_Re_signs (u_Re_tape (q_OL_now z) (upd (q_Re_tape (q_OL_now z)) n x)) (nI (n + 1))), u_Mo_s w (upd (upd (q_Mo_s w) (96 + n) x) 4 (nI (n + 1))), ?_, ?_, ?_⟩
        · have y : q_Re_signs (q_OL_now z) + 1 = nI (n + 1) := by rw [e4, en, nI_1]
          show some (q_Re_signs (q_OL_now z) + 1, u_OL_now z (u_Re_signs (u_Re_tape (q_OL_now z) (upd (q_Re_tape (q_OL_now z)) n x)) (q_Re_signs (q_OL_now z) + 1))) = _
          rw [y]
        · have y : upd (q_Mo_s w) (96 + n) x 4 + 1 = nI (n + 1) := by rw [pk_un (by omega), en, nI_1]
          show some (upd (upd (q_Mo_s w) (96 + n) x) 4 (upd (q_Mo_s w) (96 + n) x 4 + 1) 4, u_Mo_s w (upd (upd (q_Mo_s w) (96 + n) x) 4 (upd (q_Mo_s w) (96 + n) x 4 + 1))) = _
          rw [y, pk_us]
        · have hs : ∀ i, i ≠ 4 → i ≠ 96 + n → upd (upd (q_Mo_s w) (96 + n) x) 4 (nI (n + 1)) i = q_Mo_s w i := fun i a b => by rw [pk_un a, pk_un b]
          have h4 : upd (upd (q_Mo_s w) (96 + n) x) 4 (nI (n + 1)) 4 = nI (n + 1) := pk_us
          have h9 : upd (upd (q_Mo_s w) (96 + n) x) 4 (nI (n + 1)) (96 + n) = x := by rw [pk_un (by omega), pk_us]
          refine Rl.set (cl := cl) h (hk := rfl) (hi := rfl) (ha := rfl) (hF := FrM.rf) ?_
          show RC _ (upd (upd (q_Mo_s w) (96 + n) x) 4 (nI (n + 1))) cl
          generalize upd (upd (q_Mo_s w) (96 + n) x) 4 (nI (n + 1)) = s' at *
          have a0 := hs 0 (by omega) (by omega)
          have a1 := hs 1 (by omega) (by omega)
          have a2 := hs 2 (by omega) (by omega)
          have a3 := hs 3 (by omega) (by omega)
          have a6 := hs 6 (by omega) (by omega)
          have a5 := hs 5 (by omega) (by omega)
          have p4 := hR.1.1.2
          have t7 := hR.1.2.1.2
          have w12 := hR.1.2.2.2.1.2
          refine ⟨⟨a0 ▸ hR.1.1, a1 ▸ hR.1.2.1, a2 ▸ hR.1.2.2.1, a3 ▸ hR.1.2.2.2.1, by rw [h4]; exact rg_n (by omega) (by omega), a6 ▸ hR.1.2.2.2.2.2⟩, ⟨a0 ▸ e0, a1 ▸ e1, a2 ▸ e2, a3 ▸ e3, h4.symm, a6 ▸ e5⟩, ?_, ?_, ?_, ?_, hR.2.2.2.2.2.2.1.same a5 (fun i hi hi2 => hs i (by omega) (by omega)), hR.2.2.2.2.2.2.2.same a5 a2⟩
          · rw [a0, a1]
            intro p hp
            have hP := hR.2.2.1 p hp
            have hs1 : ∀ i, 10 ≤ i → i < 58 → s' i = q_Mo_s w i := fun i _ _ => hs i (by omega) (by omega)
            exact ⟨hP.1.same (by omega) hs1 (Nat.le_refl _), hP.2.same hP.1 (by omega) hs1 rfl rfl rfl rfl rfl rfl⟩
          · rw [a0, a1]
            intro t ht
            have hT := hR.2.2.2.1 t ht
            have hs1 : ∀ i, 58 ≤ i → i < 72 → s' i = q_Mo_s w i := fun i _ _ => hs i (by omega) (by omega)
            exact ⟨hT.1.same (by omega) hs1 (Nat.le_refl _), hT.2.same (by omega) hs1⟩
          · rw [a0, a3]
            intro i hi
            have hW := hR.2.2.2.2.1 i hi
            have hs1 : ∀ i, 72 ≤ i → i < 96 → s' i = q_Mo_s w i := fun i _ _ => hs i (by omega) (by omega)
            exact ⟨hW.1.same (by omega) hs1 (Nat.le_refl _), hW.2.same (by omega) hs1⟩
          · rw [h4, rg_N (by omega)]
            intro i hi
            show rg (s' (96 + i)) 127 ∧ upd (q_Re_tape (q_OL_now z)) n x i = s' (96 + i)
            by_cases e : i = n
            · subst e
              rw [h9]
              exact ⟨hx, pk_us⟩
            · rw [hs (96 + i) (by omega) (by omega), pk_un e]
              exact hR.2.2.2.2.2.1 i (by omega)
      · have q2 : n = 100 := by omega
        rw [if_neg (fun y => q (k1.mp y)), if_pos (k2.mpr q2)]
        exact ⟨_, z, w, rfl, rfl, h⟩
    · have y1 : (127 : Int32) < x := Int32.not_le.mp n1
      rw [if_neg n1, show d_Mo_in x 0 127 = some 0 from (if_neg n0).trans (if_pos y1)]
      exact ⟨_, z, w, rfl, rfl, h⟩
/-- a change of the row of people alone -/
theorem RC_people {r r' : T_Re} {s s' : Nat → Int32} {cl : CL} (h : RC r s cl) (hs : ∀ i, 1 ≤ i → (i < 10 ∨ 58 ≤ i) → s' i = s i) (h0 : rg (s' 0) 4) (h00 : NN (s 0) ≤ NN (s' 0)) (hz : q_Pe_size (q_Re_people r') = s' 0)
    (hP : ∀ p, p < NN (s' 0) → RgP s' (NN (s 1)) p ∧ ReP (q_Re_people r') s' p) (k1 : q_Re_things r' = q_Re_things r) (k2 : q_Re_lands r' = q_Re_lands r) (k3 : q_Re_seen r' = q_Re_seen r) (k4 : q_Re_signs r' = q_Re_signs r) (k5 : q_Re_year r' = q_Re_year r)
    (k6 : q_Re_seenWho r' = q_Re_seenWho r) (k7 : q_Re_seenCould r' = q_Re_seenCould r) (k8 : q_Re_tape r' = q_Re_tape r) (k9 : q_Re_land r' = q_Re_land r) : RC r' s' cl := by
  have a1 := hs 1 (by omega) (by omega)
  have a2 := hs 2 (by omega) (by omega)
  have a3 := hs 3 (by omega) (by omega)
  have a4 := hs 4 (by omega) (by omega)
  have a5 := hs 5 (by omega) (by omega)
  have a6 := hs 6 (by omega) (by omega)
  have t7 := h.1.2.1.2
  have w12 := h.1.2.2.2.1.2
  refine ⟨⟨h0, a1 ▸ h.1.2.1, a2 ▸ h.1.2.2.1, a3 ▸ h.1.2.2.2.1, a4 ▸ h.1.2.2.2.2.1, a6 ▸ h.1.2.2.2.2.2⟩, ⟨hz, by rw [k1, a1]; exact h.2.1.2.1, by rw [k2, a2]; exact h.2.1.2.2.1, by rw [k3, a3]; exact h.2.1.2.2.2.1, by rw [k4, a4]; exact h.2.1.2.2.2.2.1, by rw [k5, a6]; exact h.2.1.2.2.2.2.2⟩, by rw [a1]; exact hP, ?_, ?_, ?_, ?_, h.2.2.2.2.2.2.2.same a5 a2⟩
  · rw [a1, k1]
    intro t ht
    have hT := h.2.2.2.1 t ht
    have hs1 : ∀ i, 58 ≤ i → i < 72 → s' i = s i := fun i _ _ => hs i (by omega) (by omega)
    exact ⟨hT.1.same (by omega) hs1 h00, hT.2.same (by omega) hs1⟩
  · rw [a3]
    intro i hi
    have hW := h.2.2.2.2.1 i hi
    have hs1 : ∀ i, 72 ≤ i → i < 96 → s' i = s i := fun i _ _ => hs i (by omega) (by omega)
    have hW2 : ReW r' s i := ⟨by rw [k6]; exact hW.2.1, by rw [k7]; exact hW.2.2⟩
    exact ⟨hW.1.same (by omega) hs1 h00, hW2.same (by omega) hs1⟩
  · rw [a4, k8]
    intro i hi
    rw [hs (96 + i) (by omega) (by omega)]
    exact h.2.2.2.2.2.1 i hi
  · rw [k9]
    exact h.2.2.2.2.2.2.1.same a5 (fun i hi _ => hs i (by omega) (by omega))
/-- a change of the row of things alone -/
theorem RC_things {r r' : T_Re} {s s' : Nat → Int32} {cl : CL} (h : RC r s cl) (hs : ∀ i, i ≠ 1 → (i < 58 ∨ 72 ≤ i) → s' i = s i) (h1 : rg (s' 1) 7) (h11 : NN (s 1) ≤ NN (s' 1)) (hz : q_Th_size (q_Re_things r') = s' 1)
    (hT : ∀ t, t < NN (s' 1) → RgT s' (NN (s 0)) t ∧ ReT (q_Re_things r') s' t) (k1 : q_Re_people r' = q_Re_people r) (k2 : q_Re_lands r' = q_Re_lands r) (k3 : q_Re_seen r' = q_Re_seen r) (k4 : q_Re_signs r' = q_Re_signs r) (k5 : q_Re_year r' = q_Re_year r)
    (k6 : q_Re_seenWho r' = q_Re_seenWho r) (k7 : q_Re_seenCould r' = q_Re_seenCould r) (k8 : q_Re_tape r' = q_Re_tape r) (k9 : q_Re_land r' = q_Re_land r) : RC r' s' cl := by
  have a0 := hs 0 (by omega) (by omega)
  have a2 := hs 2 (by omega) (by omega)
  have a3 := hs 3 (by omega) (by omega)
  have a4 := hs 4 (by omega) (by omega)
  have a5 := hs 5 (by omega) (by omega)
  have a6 := hs 6 (by omega) (by omega)
  have p4 := h.1.1.2
  have w12 := h.1.2.2.2.1.2
  refine ⟨⟨a0 ▸ h.1.1, h1, a2 ▸ h.1.2.2.1, a3 ▸ h.1.2.2.2.1, a4 ▸ h.1.2.2.2.2.1, a6 ▸ h.1.2.2.2.2.2⟩, ⟨by rw [k1, a0]; exact h.2.1.1, hz, by rw [k2, a2]; exact h.2.1.2.2.1, by rw [k3, a3]; exact h.2.1.2.2.2.1, by rw [k4, a4]; exact h.2.1.2.2.2.2.1, by rw [k5, a6]; exact h.2.1.2.2.2.2.2⟩, ?_, by rw [a0]; exact hT, ?_, ?_, ?_, h.2.2.2.2.2.2.2.same a5 a2⟩
  · rw [a0, k1]
    intro p hp
    have hP := h.2.2.1 p hp
    have hs1 : ∀ i, 10 ≤ i → i < 58 → s' i = s i := fun i _ _ => hs i (by omega) (by omega)
    exact ⟨hP.1.same (by omega) hs1 h11, hP.2.same hP.1 (by omega) hs1 rfl rfl rfl rfl rfl rfl⟩
  · rw [a0, a3]
    intro i hi
    have hW := h.2.2.2.2.1 i hi
    have hs1 : ∀ i, 72 ≤ i → i < 96 → s' i = s i := fun i _ _ => hs i (by omega) (by omega)
    have hW2 : ReW r' s i := ⟨by rw [k6]; exact hW.2.1, by rw [k7]; exact hW.2.2⟩
    exact ⟨hW.1.same (by omega) hs1 (Nat.le_refl _), hW2.same (by omega) hs1⟩
  · rw [a4, k8]
    intro i hi
    rw [hs (96 + i) (by omega) (by omega)]
    exact h.2.2.2.2.2.1 i hi
  · rw [k9]
    exact h.2.2.2.2.2.2.1.same a5 (fun i hi _ => hs i (by omega) (by omega))
theorem s_strength : S_strength Rl := by
  intro z w x x2 h
  obtain ⟨⟨cl, hR⟩, -⟩ := id h
  have h4 := hR.1.1.2
  unfold d_OL_strength d_Mo_strength
  rcases per_cases (y := q_Re_people (q_OL_now z)) (w := w) hR.2.1.1 hR.1.1 x with ⟨h1, h2⟩ | ⟨p, hp, rfl, h1, h2⟩
  · rw [h1, h2]
    exact ⟨_, z, w, rfl, rfl, h⟩
  · rw [h1, h2, within_in]
    rcases in_cases x2 99 with h3 | ⟨h3, n0, n1⟩
    · rw [h3]
      exact ⟨_, z, w, rfl, rfl, h⟩
    · rw [h3]
      have hx : rg x2 99 := rg_of (M := 99) (by decide) n0 n1 (by omega)
      have hP := hR.2.2.1 p hp
      have i1 : inb (18 + nI p) 901 = true := in9 18 (by omega)
      have c1 : (18 + nI p).toNatClampNeg = 18 + p := cl9 18 (by omega)
      have i3 : inb (nI p) 4 = true := inb_n (by omega) (by omega)
      have c3 : (nI p).toNatClampNeg = p := nI_clamp (by omega)
      have z9 : ¬ (1 : Int32) = 0 := by decide
      simp only [Option.bind_some, z9, i1, i3, c1, c3, if_true, if_false]
      refine ⟨q_Mo_s w (18 + p), u_OL_now z (u_Re_people (q_OL_now z) (u_Pe_strength (q_Re_people (q_OL_now z)) (upd (q_Pe_strength (q_Re_people (q_OL_now z))) p x2))), u_Mo_s w (upd (q_Mo_s w) (18 + p) x2), ?_, rfl, ?_⟩
      · rw [hP.2.2.2.1]
      · refine Rl.set (cl := cl) h (hk := rfl) (hi := rfl) (ha := rfl) (hF := FrM.rf) ?_
        show RC _ (upd (q_Mo_s w) (18 + p) x2) cl
        have hs : ∀ i, i ≠ 18 + p → upd (q_Mo_s w) (18 + p) x2 i = q_Mo_s w i := fun i a => pk_un a
        have hv : upd (q_Mo_s w) (18 + p) x2 (18 + p) = x2 := pk_us
        generalize upd (q_Mo_s w) (18 + p) x2 = s' at *
        have a0 := hs 0 (by omega)
        refine RC_people hR (fun i _ _ => hs i (by omega)) (a0 ▸ hR.1.1) (by rw [a0]; exact Nat.le_refl _) (by rw [a0]; exact hR.2.1.1) ?_ rfl rfl rfl rfl rfl rfl rfl rfl rfl
        rw [a0]
        intro q hq
        have hQ := hR.2.2.1 q hq
        obtain ⟨r1, r2, r3, r4, r5, r6⟩ := hQ.1
        obtain ⟨t1, t2, t3, t4, t5, t6⟩ := hQ.2
        have r7 := r5.2
        have b1 := hs (10 + q) (by omega)
        have b2 := hs (14 + q) (by omega)
        have b4 := hs (22 + q) (by omega)
        have b5 := hs (26 + q) (by omega)
        have b3 : (q = p ∧ s' (18 + q) = x2) ∨ (q ≠ p ∧ s' (18 + q) = q_Mo_s w (18 + q)) := by
          by_cases e : q = p
          · subst e; exact Or.inl ⟨rfl, hv⟩
          · exact Or.inr ⟨e, hs _ (by omega)⟩
        refine ⟨⟨b1 ▸ r1, b2 ▸ r2, ?_, b4 ▸ r4, b5 ▸ r5, ?_⟩, b1 ▸ t1, b2 ▸ t2, ?_, b4 ▸ t4, b5 ▸ t5, ?_⟩
        · rcases b3 with ⟨_, e⟩ | ⟨_, e⟩
          · rw [e]; exact hx
          · rw [e]; exact r3
        · rw [b5]
          intro i hi
          rw [hs (30 + 7 * q + i) (by omega)]
          exact r6 i hi
        · show upd (q_Pe_strength (q_Re_people (q_OL_now z))) p x2 q = _
          rcases b3 with ⟨e1, e⟩ | ⟨e1, e⟩
          · rw [e, e1]; exact pk_us
          · rw [e, pk_un e1]; exact t3
        · rw [b5]
          intro i hi
          rw [hs (30 + 7 * q + i) (by omega)]
          exact t6 i hi
theorem s_thing : S_thing Rl := by
  intro z w x h
  obtain ⟨⟨cl, hR⟩, -⟩ := id h
  unfold d_OL_thing d_Mo_thing
  rw [within_in]
  rcases in_cases x 50 with h3 | ⟨h3, n0, n1⟩
  · rw [h3]
    exact ⟨_, z, w, rfl, rfl, h⟩
  · rw [h3]
    have hx : rg x 50 := rg_of (M := 50) (by decide) n0 n1 (by omega)
    have hn := hR.1.2.1.2
    have en := hR.1.2.1.1
    have e1 := hR.2.1.2.1
    generalize hN : NN (q_Mo_s w 1) = n at *
    have k1 : (q_Th_size (q_Re_things (q_OL_now z)) < 7) ↔ n < 7 := by rw [e1, en]; exact nI_ltI (b := 7) (by omega) (by omega)
    have k2 : (q_Mo_s w 1 = 7) ↔ n = 7 := by rw [en]; exact nI_eq (b := 7) (by omega) (by omega)
    have z9 : ¬ (1 : Int32) = 0 := by decide
    simp only [Option.bind_some, z9, if_false]
    by_cases q : n < 7
    · have i1 : inb (q_Th_size (q_Re_things (q_OL_now z))) 7 = true := by rw [e1, en]; exact inb_n q (by omega)
      have c1 : (q_Th_size (q_Re_things (q_OL_now z))).toNatClampNeg = n := by rw [e1]; exact hN
      have i2 : inb (58 + q_Mo_s w 1) 901 = true := by rw [en]; exact in9 58 (by omega)
      have i3 : inb (65 + q_Mo_s w 1) 901 = true := by rw [en]; exact in9 65 (by omega)
      have c2 : (58 + q_Mo_s w 1).toNatClampNeg = 58 + n := by rw [en]; exact cl9 58 (by omega)
      have c3 : (65 + q_Mo_s w 1).toNatClampNeg = 65 + n := by rw [en]; exact cl9 65 (by omega)
      rw [if_pos (k1.mpr q), if_neg (fun y => (by have := k2.mp y; omega)), if_pos i2, if_pos i3, c2, c3]
      refine ⟨nI n, u_OL_now z (u_Re_things (q_OL_now z) (u_Th_size (u_Th_owner (u_Th_weight (q_Re_things (q_OL_now z)) (upd (q_Th_weight (q_Re_things (q_OL_now z))) n x)) (upd (q_Th_owner (q_Re_things (q_OL_now z))) n (-5))) (nI (n + 1)))), u_Mo_s w (upd (upd (upd (q_Mo_s w) (58 + n) x) (65 + n) 4) 1 (nI (n + 1))), ?_, ?_, ?_⟩
      · unfold d_Th_add
        rw [if_pos i1, if_pos i1, c1]
        have y : q_Th_size (q_Re_things (q_OL_now z)) + 1 = nI (n + 1) := by rw [e1, en, nI_1]
        show some (q_Th_size (q_Re_things (q_OL_now z)), u_OL_now z (u_Re_things (q_OL_now z) (u_Th_size (u_Th_owner (u_Th_weight (q_Re_things (q_OL_now z)) (upd (q_Th_weight (q_Re_things (q_OL_now z))) n x)) (upd (q_Th_owner (q_Re_things (q_OL_now z))) n (-5))) (q_Th_size (q_Re_things (q_OL_now z)) + 1)))) = _
        rw [y, e1, en]
      · have y : upd (upd (q_Mo_s w) (58 + n) x) (65 + n) 4 1 + 1 = nI (n + 1) := by rw [pk_un (by omega), pk_un (by omega), en, nI_1]
        show some (q_Mo_s w 1, u_Mo_s w (upd (upd (upd (q_Mo_s w) (58 + n) x) (65 + n) 4) 1 (upd (upd (q_Mo_s w) (58 + n) x) (65 + n) 4 1 + 1))) = _
        rw [y, en]
      · refine Rl.set (cl := cl) h (hk := rfl) (hi := rfl) (ha := rfl) (hF := FrM.rf) ?_
        show RC _ (upd (upd (upd (q_Mo_s w) (58 + n) x) (65 + n) 4) 1 (nI (n + 1))) cl
        have hs : ∀ i, i ≠ 1 → i ≠ 58 + n → i ≠ 65 + n → upd (upd (upd (q_Mo_s w) (58 + n) x) (65 + n) 4) 1 (nI (n + 1)) i = q_Mo_s w i := fun i a b c => by rw [pk_un a, pk_un c, pk_un b]
        have v1 : upd (upd (upd (q_Mo_s w) (58 + n) x) (65 + n) 4) 1 (nI (n + 1)) 1 = nI (n + 1) := pk_us
        have v2 : upd (upd (upd (q_Mo_s w) (58 + n) x) (65 + n) 4) 1 (nI (n + 1)) (58 + n) = x := by rw [pk_un (by omega), pk_un (by omega), pk_us]
        have v3 : upd (upd (upd (q_Mo_s w) (58 + n) x) (65 + n) 4) 1 (nI (n + 1)) (65 + n) = nI 4 := by rw [pk_un (by omega), pk_us]; rfl
        generalize upd (upd (upd (q_Mo_s w) (58 + n) x) (65 + n) 4) 1 (nI (n + 1)) = s' at *
        refine RC_things hR (fun i _ _ => hs i (by omega) (by omega) (by omega)) (by rw [v1]; exact rg_n (by omega) (by omega)) (by rw [v1, rg_N (by omega), hN]; omega) v1.symm ?_ rfl rfl rfl rfl rfl rfl rfl rfl rfl
        rw [v1, rg_N (by omega)]
        intro t ht
        show RgT s' _ t ∧ upd (q_Th_weight (q_Re_things (q_OL_now z))) n x t = _ ∧ upd (q_Th_owner (q_Re_things (q_OL_now z))) n (-5) t = _
        by_cases e : t = n
        · subst e
          unfold RgT
          rw [v2, v3, pk_us, pk_us, rg_N (by omega)]
          exact ⟨⟨hx, rg_n (by omega) (by omega), Or.inr rfl⟩, rfl, rfl⟩
        · have hT := hR.2.2.2.1 t (by omega)
          unfold RgT
          rw [hs (58 + t) (by omega) (by omega) (by omega), hs (65 + t) (by omega) (by omega) (by omega), pk_un e, pk_un e]
          exact ⟨hT.1, hT.2⟩
    · have q2 : n = 7 := by omega
      rw [if_neg (fun y => q (k1.mp y)), if_pos (k2.mpr q2)]
      exact ⟨_, z, w, rfl, rfl, h⟩
theorem nI_m1 (n : Nat) (h : n < 2 ^ 31) : ¬ nI n = -1 := nI_neg_ne n h _ (by decide)
/-- whose a thing becomes, by the row -/
theorem RC.give {r : T_Re} {s : Nat → Int32} {cl : CL} (hR : RC r s cl) {t o : Nat} (ht : t < NN (s 1)) (ho : o < NN (s 0) ∨ o = 4) : RC (u_Re_things r (u_Th_owner (q_Re_things r) (upd (q_Th_owner (q_Re_things r)) t (oC o)))) (upd s (65 + t) (nI o)) cl := by
  have h4 := hR.1.1.2
  have h7 := hR.1.2.1.2
  have hs : ∀ i, i ≠ 65 + t → upd s (65 + t) (nI o) i = s i := fun i a => pk_un a
  have hv : upd s (65 + t) (nI o) (65 + t) = nI o := pk_us
  generalize upd s (65 + t) (nI o) = s' at *
  have a1 := hs 1 (by omega)
  refine RC_things hR (fun i _ _ => hs i (by omega)) (a1 ▸ hR.1.2.1) (by rw [a1]; exact Nat.le_refl _) (by rw [a1]; exact hR.2.1.2.1) ?_ rfl rfl rfl rfl rfl rfl rfl rfl rfl
  rw [a1]
  intro u hu
  show RgT s' _ u ∧ q_Th_weight (q_Re_things r) u = _ ∧ upd (q_Th_owner (q_Re_things r)) t (oC o) u = _
  have hT := hR.2.2.2.1 u hu
  unfold RgT
  rw [hs (58 + u) (by omega)]
  by_cases e : u = t
  · subst e
    rw [hv, pk_us, rg_N (by omega)]
    exact ⟨⟨hT.1.1, rg_n (by omega) (by omega), ho⟩, hT.2.1, rfl⟩
  · rw [hs (65 + u) (by omega), pk_un e]
    exact ⟨hT.1, hT.2⟩
theorem s_give : S_give Rl := by
  intro z w x x2 h
  obtain ⟨⟨cl, hR⟩, -⟩ := id h
  have h4 := hR.1.1.2
  have h7 := hR.1.2.1.2
  unfold d_OL_give d_Mo_give
  rcases thi_cases (t := q_Re_things (q_OL_now z)) (w := w) hR.2.1.2.1 hR.1.2.1 x with ⟨h1, h2⟩ | ⟨t, ht, rfl, h1, h2⟩
  · rw [h1, h2]
    exact ⟨_, z, w, rfl, rfl, h⟩
  · rw [h1, h2]
    have hT := hR.2.2.2.1 t ht
    have i1 : inb (65 + nI t) 901 = true := in9 65 (by omega)
    have c1 : (65 + nI t).toNatClampNeg = 65 + t := cl9 65 (by omega)
    have i3 : inb (nI t) 7 = true := inb_n (by omega) (by omega)
    have c3 : (nI t).toNatClampNeg = t := nI_clamp (by omega)
    have z9 : ¬ (1 : Int32) = 0 := by decide
    have fin : ∀ o, (o < NN (q_Mo_s w 0) ∨ o = 4) → Rl (u_OL_now z (u_Re_things (q_OL_now z) (u_Th_owner (q_Re_things (q_OL_now z)) (upd (q_Th_owner (q_Re_things (q_OL_now z))) t (oC o))))) (u_Mo_s w (upd (q_Mo_s w) (65 + t) (nI o))) := fun o ho =>
      Rl.set (cl := cl) h (hR.give ht ho) rfl rfl rfl FrM.rf
    by_cases q : x2 = -1
    · subst q
      simp only [Option.bind_some, z9, i1, i3, c1, c3, orNob hT.1.2.1, hT.2.2, if_true, if_false]
      exact ⟨_, _, _, rfl, rfl, fin 4 (Or.inr rfl)⟩
    · simp only [Option.bind_some, z9, q, if_false]
      rcases per_cases (y := q_Re_people (q_OL_now z)) (w := w) hR.2.1.1 hR.1.1 x2 with ⟨h3, h4⟩ | ⟨p, hp, rfl, h3, h5⟩
      · rw [h3, h4]
        exact ⟨_, z, w, rfl, rfl, h⟩
      · rw [h3, h5]
        simp only [Option.bind_some, z9, i1, i3, c1, c3, orNob hT.1.2.1, hT.2.2, if_true, if_false]
        have y := fin p (Or.inl hp)
        rw [oC_lt (by omega)] at y
        exact ⟨_, _, _, rfl, rfl, y⟩

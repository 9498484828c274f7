/-! person, row, see. -/
theorem Pe_add {y : T_Pe} {n : Nat} (hn : n < 4) (hy : q_Pe_size y = nI n) (x1 x2 x3 x4 : Int32) : d_Pe_add x1 x2 x3 x4 y = some (nI n, (nI (n + 1), upd (q_Pe_kind y) n x1, upd (q_Pe_v y) n x2, upd (q_Pe_strength y) n x3, upd (q_Pe_age y) n x4, upd (q_Pe_rowSize y) n 0, q_Pe_rows y)) := by
  have i1 : inb (nI n) 4 = true := inb_n hn (by omega)
  have c1 : (nI n).toNatClampNeg = n := nI_clamp (by omega)
  unfold d_Pe_add
  rw [hy, if_pos i1, if_pos i1, if_pos i1, if_pos i1, if_pos i1, c1]
  show some (nI n, (nI n + 1, _)) = _
  rw [nI_1]
theorem s_person : S_person Rl := by
  intro z w x1 x2 x3 x4 h
  obtain ⟨⟨cl, hR⟩, -⟩ := id h
  unfold d_OL_person d_Mo_person
  rcases kind_cases x1 with ⟨h1, h2⟩ | ⟨kd, hkd, rfl, h1, h2⟩
  · rw [h1, h2]
    exact ⟨_, z, w, rfl, rfl, h⟩
  rw [h1, h2, within_in, within_in, within_in]
  have z9 : ¬ (1 : Int32) = 0 := by decide
  simp only [Option.bind_some, z9, if_false]
  rcases in_cases x2 9 with h3 | ⟨h3, n0, n1⟩
  · rw [h3]
    exact ⟨_, z, w, rfl, rfl, h⟩
  rw [h3]
  simp only [Option.bind_some, z9, if_false]
  rcases in_cases x3 99 with h4 | ⟨h4, n2, n3⟩
  · rw [h4]
    exact ⟨_, z, w, rfl, rfl, h⟩
  rw [h4]
  simp only [Option.bind_some, z9, if_false]
  rcases in_cases x4 99 with h5 | ⟨h5, n4, n5⟩
  · rw [h5]
    exact ⟨_, z, w, rfl, rfl, h⟩
  rw [h5]
  simp only [Option.bind_some, z9, if_false]
  have g2 : rg x2 9 := rg_of (M := 9) (by decide) n0 n1 (by omega)
  have g3 : rg x3 99 := rg_of (M := 99) (by decide) n2 n3 (by omega)
  have g4 : rg x4 99 := rg_of (M := 99) (by decide) n4 n5 (by omega)
  have hn := hR.1.1.2
  have en := hR.1.1.1
  have e1 := hR.2.1.1
  generalize hN : NN (q_Mo_s w 0) = n at *
  have k1 : (q_Pe_size (q_Re_people (q_OL_now z)) < 4) ↔ n < 4 := by rw [e1, en]; exact nI_ltI (b := 4) (by omega) (by omega)
  have k2 : (q_Mo_s w 0 = 4) ↔ n = 4 := by rw [en]; exact nI_eq (b := 4) (by omega) (by omega)
  by_cases q : n < 4
  · have i1 : inb (10 + q_Mo_s w 0) 901 = true := by rw [en]; exact in9 10 (by omega)
    have i2 : inb (14 + q_Mo_s w 0) 901 = true := by rw [en]; exact in9 14 (by omega)
    have i3 : inb (18 + q_Mo_s w 0) 901 = true := by rw [en]; exact in9 18 (by omega)
    have i4 : inb (22 + q_Mo_s w 0) 901 = true := by rw [en]; exact in9 22 (by omega)
    have i5 : inb (26 + q_Mo_s w 0) 901 = true := by rw [en]; exact in9 26 (by omega)
    have c1 : (10 + q_Mo_s w 0).toNatClampNeg = 10 + n := by rw [en]; exact cl9 10 (by omega)
    have c2 : (14 + q_Mo_s w 0).toNatClampNeg = 14 + n := by rw [en]; exact cl9 14 (by omega)
    have c3 : (18 + q_Mo_s w 0).toNatClampNeg = 18 + n := by rw [en]; exact cl9 18 (by omega)
    have c4 : (22 + q_Mo_s w 0).toNatClampNeg = 22 + n := by rw [en]; exact cl9 22 (by omega)
    have c5 : (26 + q_Mo_s w 0).toNatClampNeg = 26 + n := by rw [en]; exact cl9 26 (by omega)
    rw [if_pos (k1.mpr q), if_neg (fun y => (by have := k2.mp y; omega)), if_pos i1, if_pos i2, if_pos i3, if_pos i4, if_pos i5, c1, c2, c3, c4, c5, Pe_add q (e1.trans en)]
    refine ⟨nI n, u_OL_now z (u_Re_people (q_OL_now z) (nI (n + 1), upd (q_Pe_kind (q_Re_people (q_OL_now z))) n (nI kd), upd (q_Pe_v (q_Re_people (q_OL_now z))) n x2, upd (q_Pe_strength (q_Re_people (q_OL_now z))) n x3, upd (q_Pe_age (q_Re_people (q_OL_now z))) n x4, upd (q_Pe_rowSize (q_Re_people (q_OL_now z))) n 0, q_Pe_rows (q_Re_people (q_OL_now z)))), u_Mo_s w (upd (upd (upd (upd (upd (upd (q_Mo_s w) (10 + n) (nI kd)) (14 + n) x2) (18 + n) x3) (22 + n) x4) (26 + n) 0) 0 (nI (n + 1))), rfl, ?_, ?_⟩
    · have y : upd (upd (upd (upd (upd (q_Mo_s w) (10 + n) (nI kd)) (14 + n) x2) (18 + n) x3) (22 + n) x4) (26 + n) 0 0 + 1 = nI (n + 1) := by
        rw [pk_un (by omega), pk_un (by omega), pk_un (by omega), pk_un (by omega), pk_un (by omega), en, nI_1]
      show some (q_Mo_s w 0, u_Mo_s w (upd (upd (upd (upd (upd (upd (q_Mo_s w) (10 + n) (nI kd)) (14 + n) x2) (18 + n) x3) (22 + n) x4) (26 + n) 0) 0 (upd (upd (upd (upd (upd (q_Mo_s w) (10 + n) (nI kd)) (14 + n) x2) (18 + n) x3) (22 + n) x4) (26 + n) 0 0 + 1))) = _
      rw [y, en]
    · refine Rl.set (cl := cl) h (hk := rfl) (hi := rfl) (ha := rfl) (hF := FrM.rf) ?_
      show RC _ (upd (upd (upd (upd (upd (upd (q_Mo_s w) (10 + n) (nI kd)) (14 + n) x2) (18 + n) x3) (22 + n) x4) (26 + n) 0) 0 (nI (n + 1))) cl
      have hs : ∀ i, i ≠ 0 → i ≠ 10 + n → i ≠ 14 + n → i ≠ 18 + n → i ≠ 22 + n → i ≠ 26 + n → upd (upd (upd (upd (upd (upd (q_Mo_s w) (10 + n) (nI kd)) (14 + n) x2) (18 + n) x3) (22 + n) x4) (26 + n) 0) 0 (nI (n + 1)) i = q_Mo_s w i := fun i a b c d e f => by rw [pk_un a, pk_un f, pk_un e, pk_un d, pk_un c, pk_un b]
      have v0 : upd (upd (upd (upd (upd (upd (q_Mo_s w) (10 + n) (nI kd)) (14 + n) x2) (18 + n) x3) (22 + n) x4) (26 + n) 0) 0 (nI (n + 1)) 0 = nI (n + 1) := pk_us
      have v1 : upd (upd (upd (upd (upd (upd (q_Mo_s w) (10 + n) (nI kd)) (14 + n) x2) (18 + n) x3) (22 + n) x4) (26 + n) 0) 0 (nI (n + 1)) (10 + n) = nI kd := by rw [pk_un (by omega), pk_un (by omega), pk_un (by omega), pk_un (by omega), pk_un (by omega), pk_us]
      have v2 : upd (upd (upd (upd (upd (upd (q_Mo_s w) (10 + n) (nI kd)) (14 + n) x2) (18 + n) x3) (22 + n) x4) (26 + n) 0) 0 (nI (n + 1)) (14 + n) = x2 := by rw [pk_un (by omega), pk_un (by omega), pk_un (by omega), pk_un (by omega), pk_us]
      have v3 : upd (upd (upd (upd (upd (upd (q_Mo_s w) (10 + n) (nI kd)) (14 + n) x2) (18 + n) x3) (22 + n) x4) (26 + n) 0) 0 (nI (n + 1)) (18 + n) = x3 := by rw [pk_un (by omega), pk_un (by omega), pk_un (by omega), pk_us]
      have v4 : upd (upd (upd (upd (upd (upd (q_Mo_s w) (10 + n) (nI kd)) (14 + n) x2) (18 + n) x3) (22 + n) x4) (26 + n) 0) 0 (nI (n + 1)) (22 + n) = x4 := by rw [pk_un (by omega), pk_un (by omega), pk_us]
      have v5 : upd (upd (upd (upd (upd (upd (q_Mo_s w) (10 + n) (nI kd)) (14 + n) x2) (18 + n) x3) (22 + n) x4) (26 + n) 0) 0 (nI (n + 1)) (26 + n) = nI 0 := by rw [pk_un (by omega), pk_us]; rfl
      generalize upd (upd (upd (upd (upd (upd (q_Mo_s w) (10 + n) (nI kd)) (14 + n) x2) (18 + n) x3) (22 + n) x4) (26 + n) 0) 0 (nI (n + 1)) = s' at *
      refine RC_people hR (fun i _ _ => hs i (by omega) (by omega) (by omega) (by omega) (by omega) (by omega)) (by rw [v0]; exact rg_n (by omega) (by omega)) (by rw [v0, rg_N (by omega), hN]; omega) v0.symm ?_ rfl rfl rfl rfl rfl rfl rfl rfl rfl
      rw [v0, rg_N (by omega)]
      intro p hp
      by_cases e : p = n
      · subst e
        unfold RgP ReP
        rw [v1, v2, v3, v4, v5, rg_N (by omega)]
        exact ⟨⟨rg_n hkd (by omega), g2, g3, g4, rg_n (by omega) (by omega), fun i hi => absurd hi (by omega)⟩, pk_us, pk_us, pk_us, pk_us, pk_us, fun i hi => absurd hi (by omega)⟩
      · have hP := hR.2.2.1 p (by omega)
        obtain ⟨r1, r2, r3, r4, r5, r6⟩ := hP.1
        obtain ⟨t1, t2, t3, t4, t5, t6⟩ := hP.2
        have r7 := r5.2
        have b1 := hs (10 + p) (by omega) (by omega) (by omega) (by omega) (by omega) (by omega)
        have b2 := hs (14 + p) (by omega) (by omega) (by omega) (by omega) (by omega) (by omega)
        have b3 := hs (18 + p) (by omega) (by omega) (by omega) (by omega) (by omega) (by omega)
        have b4 := hs (22 + p) (by omega) (by omega) (by omega) (by omega) (by omega) (by omega)
        have b5 := hs (26 + p) (by omega) (by omega) (by omega) (by omega) (by omega) (by omega)
        refine ⟨⟨b1 ▸ r1, b2 ▸ r2, b3 ▸ r3, b4 ▸ r4, b5 ▸ r5, ?_⟩, (pk_un e).trans (t1.trans b1.symm), (pk_un e).trans (t2.trans b2.symm), (pk_un e).trans (t3.trans b3.symm), (pk_un e).trans (t4.trans b4.symm), (pk_un e).trans (t5.trans b5.symm), ?_⟩
        · rw [b5]
          intro i hi
          rw [hs (30 + 7 * p + i) (by omega) (by omega) (by omega) (by omega) (by omega) (by omega)]
          exact r6 i hi
        · rw [b5]
          intro i hi
          rw [hs (30 + 7 * p + i) (by omega) (by omega) (by omega) (by omega) (by omega) (by omega)]
          exact t6 i hi
  · have q2 : n = 4 := by omega
    rw [if_neg (fun y => q (k1.mp y)), if_pos (k2.mpr q2)]
    exact ⟨_, z, w, rfl, rfl, h⟩
/-- a row's size becomes nought -/
theorem RC_row0 {r : T_Re} {s : Nat → Int32} {cl : CL} (hR : RC r s cl) {p : Nat} (hp : p < NN (s 0)) : RC (u_Re_people r (u_Pe_rowSize (q_Re_people r) (upd (q_Pe_rowSize (q_Re_people r)) p 0))) (upd s (26 + p) 0) cl := by
  have h4 := hR.1.1.2
  have hs : ∀ i, i ≠ 26 + p → upd s (26 + p) 0 i = s i := fun i a => pk_un a
  have hv : upd s (26 + p) 0 (26 + p) = nI 0 := by rw [pk_us]; rfl
  generalize upd s (26 + p) 0 = s' at *
  have a0 := hs 0 (by omega)
  refine RC_people hR (fun i _ _ => hs i (by omega)) (a0 ▸ hR.1.1) (by rw [a0]; exact Nat.le_refl _) (by rw [a0]; exact hR.2.1.1) ?_ rfl rfl rfl rfl rfl rfl rfl rfl rfl
  rw [a0]
  intro q hq
  have hP := hR.2.2.1 q hq
  obtain ⟨r1, r2, r3, r4, r5, r6⟩ := hP.1
  obtain ⟨t1, t2, t3, t4, t5, t6⟩ := hP.2
  have r7 := r5.2
  have b1 := hs (10 + q) (by omega)
  have b2 := hs (14 + q) (by omega)
  have b3 := hs (18 + q) (by omega)
  have b4 := hs (22 + q) (by omega)
  by_cases e : q = p
  · subst e
    refine ⟨⟨b1 ▸ r1, b2 ▸ r2, b3 ▸ r3, b4 ▸ r4, by rw [hv]; exact rg_n (by omega) (by omega), ?_⟩, t1.trans b1.symm, t2.trans b2.symm, t3.trans b3.symm, t4.trans b4.symm, by rw [hv]; exact pk_us, ?_⟩
    · rw [hv, rg_N (by omega)]
      exact fun i hi => absurd hi (by omega)
    · rw [hv, rg_N (by omega)]
      exact fun i hi => absurd hi (by omega)
  · have b5 := hs (26 + q) (by omega)
    refine ⟨⟨b1 ▸ r1, b2 ▸ r2, b3 ▸ r3, b4 ▸ r4, b5 ▸ r5, ?_⟩, t1.trans b1.symm, t2.trans b2.symm, t3.trans b3.symm, t4.trans b4.symm, (pk_un e).trans (t5.trans b5.symm), ?_⟩
    · rw [b5]
      intro i hi
      rw [hs (30 + 7 * q + i) (by omega)]
      exact r6 i hi
    · rw [b5]
      intro i hi
      rw [hs (30 + 7 * q + i) (by omega)]
      exact t6 i hi
/-- a thing comes to a row -/
theorem RC_rowt {r : T_Re} {s : Nat → Int32} {cl : CL} (hR : RC r s cl) {p t k : Nat} (hp : p < NN (s 0)) (ht : t < NN (s 1)) (hk : s (26 + p) = nI k) (hk7 : k < 7) : RC (u_Re_people r (u_Pe_rowSize (u_Pe_rows (q_Re_people r) (upd2 (q_Pe_rows (q_Re_people r)) p k (nI t))) (upd (q_Pe_rowSize (q_Re_people r)) p (nI (k + 1))))) (upd (upd s (30 + 7 * p + k) (nI t)) (26 + p) (nI (k + 1))) cl := by
  have h4 := hR.1.1.2
  have h7 := hR.1.2.1.2
  have hs : ∀ i, i ≠ 26 + p → i ≠ 30 + 7 * p + k → upd (upd s (30 + 7 * p + k) (nI t)) (26 + p) (nI (k + 1)) i = s i := fun i a b => by rw [pk_un a, pk_un b]
  have hv : upd (upd s (30 + 7 * p + k) (nI t)) (26 + p) (nI (k + 1)) (26 + p) = nI (k + 1) := pk_us
  have hu : upd (upd s (30 + 7 * p + k) (nI t)) (26 + p) (nI (k + 1)) (30 + 7 * p + k) = nI t := by rw [pk_un (by omega), pk_us]
  generalize upd (upd s (30 + 7 * p + k) (nI t)) (26 + p) (nI (k + 1)) = s' at *
  have a0 := hs 0 (by omega) (by omega)
  refine RC_people hR (fun i _ _ => hs i (by omega) (by omega)) (a0 ▸ hR.1.1) (by rw [a0]; exact Nat.le_refl _) (by rw [a0]; exact hR.2.1.1) ?_ rfl rfl rfl rfl rfl rfl rfl rfl rfl
  rw [a0]
  intro q hq
  have hP := hR.2.2.1 q hq
  obtain ⟨r1, r2, r3, r4, r5, r6⟩ := hP.1
  obtain ⟨t1, t2, t3, t4, t5, t6⟩ := hP.2
  have r7 := r5.2
  have b1 := hs (10 + q) (by omega) (by omega)
  have b2 := hs (14 + q) (by omega) (by omega)
  have b3 := hs (18 + q) (by omega) (by omega)
  have b4 := hs (22 + q) (by omega) (by omega)
  by_cases e : q = p
  · subst e
    rw [hk, rg_N (by omega)] at r6 t6
    refine ⟨⟨b1 ▸ r1, b2 ▸ r2, b3 ▸ r3, b4 ▸ r4, by rw [hv]; exact rg_n (by omega) (by omega), ?_⟩, t1.trans b1.symm, t2.trans b2.symm, t3.trans b3.symm, t4.trans b4.symm, by rw [hv]; exact pk_us, ?_⟩
    · rw [hv, rg_N (by omega)]
      intro i hi
      by_cases ei : i = k
      · subst ei
        rw [hu, rg_N (by omega)]
        exact ⟨rg_n (by omega) (by omega), ht⟩
      · rw [hs (30 + 7 * q + i) (by omega) (by omega)]
        exact r6 i (by omega)
    · rw [hv, rg_N (by omega)]
      intro i hi
      show upd2 (q_Pe_rows (q_Re_people r)) q k (nI t) q i = _
      unfold upd2
      rw [if_pos rfl]
      by_cases ei : i = k
      · subst ei
        rw [hu, pk_us]
      · rw [hs (30 + 7 * q + i) (by omega) (by omega), pk_un ei]
        exact t6 i (by omega)
  · have b5 := hs (26 + q) (by omega) (by omega)
    refine ⟨⟨b1 ▸ r1, b2 ▸ r2, b3 ▸ r3, b4 ▸ r4, b5 ▸ r5, ?_⟩, t1.trans b1.symm, t2.trans b2.symm, t3.trans b3.symm, t4.trans b4.symm, (pk_un e).trans (t5.trans b5.symm), ?_⟩
    · rw [b5]
      intro i hi
      rw [hs (30 + 7 * q + i) (by omega) (by omega)]
      exact r6 i hi
    · rw [b5]
      intro i hi
      show upd2 (q_Pe_rows (q_Re_people r)) p k (nI t) q i = _
      unfold upd2
      rw [if_neg e, hs (30 + 7 * q + i) (by omega) (by omega)]
      exact t6 i hi
theorem Pe_addToRow {y : T_Pe} {p k : Nat} (hp : p < 4) (hk : q_Pe_rowSize y p = nI k) (hk7 : k < 7) (t : Int32) : d_Pe_addToRow (nI p) t y = some (nI (k + 1), u_Pe_rowSize (u_Pe_rows y (upd2 (q_Pe_rows y) p k t)) (upd (q_Pe_rowSize y) p (nI (k + 1)))) := by
  have i1 : inb (nI p) 4 = true := inb_n hp (by omega)
  have c1 : (nI p).toNatClampNeg = p := nI_clamp (by omega)
  have i2 : inb (nI k) 7 = true := inb_n hk7 (by omega)
  have c2 : (nI k).toNatClampNeg = k := nI_clamp (by omega)
  unfold d_Pe_addToRow
  rw [c1, hk, if_pos i1, if_pos i1, if_pos i2, if_pos i1, if_pos i1, if_pos i1, c2]
  show some (upd (q_Pe_rowSize y) p (nI k + 1) p, u_Pe_rowSize (u_Pe_rows y (upd2 (q_Pe_rows y) p k t)) (upd (q_Pe_rowSize y) p (nI k + 1))) = _
  rw [nI_1, pk_us]
theorem s_row : S_row Rl := by
  intro z w x x2 h
  obtain ⟨⟨cl, hR⟩, -⟩ := id h
  have h4 := hR.1.1.2
  have h7 := hR.1.2.1.2
  unfold d_OL_row d_Mo_row
  rcases per_cases (y := q_Re_people (q_OL_now z)) (w := w) hR.2.1.1 hR.1.1 x with ⟨h1, h2⟩ | ⟨p, hp, rfl, h1, h2⟩
  · rw [h1, h2]
    exact ⟨_, z, w, rfl, rfl, h⟩
  rw [h1, h2]
  have z9 : ¬ (1 : Int32) = 0 := by decide
  have hP := hR.2.2.1 p hp
  have i1 : inb (10 + nI p) 901 = true := in9 10 (by omega)
  have i2 : inb (26 + nI p) 901 = true := in9 26 (by omega)
  have i3 : inb (nI p) 4 = true := inb_n (by omega) (by omega)
  have c1 : (10 + nI p).toNatClampNeg = 10 + p := cl9 10 (by omega)
  have c2 : (26 + nI p).toNatClampNeg = 26 + p := cl9 26 (by omega)
  have c3 : (nI p).toNatClampNeg = p := nI_clamp (by omega)
  simp only [Option.bind_some, z9, i1, i2, i3, c1, c2, c3, hP.2.1, hP.2.2.2.2.2.1, if_true, if_false]
  by_cases q : x2 = -1
  · subst q
    simp only [if_true]
    by_cases q6 : q_Mo_s w (10 + p) = 6
    · rw [if_pos q6, if_pos q6]
      exact ⟨_, _, _, rfl, rfl, Rl.set (cl := cl) h (RC_row0 hR hp) rfl rfl rfl FrM.rf⟩
    · rw [if_neg q6, if_neg q6]
      exact ⟨_, z, w, rfl, rfl, h⟩
  · simp only [q, if_false]
    rcases thi_cases (t := q_Re_things (q_OL_now z)) (w := w) hR.2.1.2.1 hR.1.2.1 x2 with ⟨h3, h5⟩ | ⟨t, ht, rfl, h3, h5⟩
    · rw [h3, h5]
      exact ⟨_, z, w, rfl, rfl, h⟩
    rw [h3, h5]
    simp only [Option.bind_some, z9, if_false]
    by_cases q6 : q_Mo_s w (10 + p) = 6
    · rw [if_pos q6, if_pos q6]
      have ek := hP.1.2.2.2.2.1.1
      have hk := hP.1.2.2.2.2.1.2
      have e5 := hP.2.2.2.2.2.1
      generalize hK : NN (q_Mo_s w (26 + p)) = k at *
      have k1 : (q_Mo_s w (26 + p) < 7) ↔ k < 7 := by rw [ek]; exact nI_ltI (b := 7) (by omega) (by omega)
      have k2 : (q_Mo_s w (26 + p) = 7) ↔ k = 7 := by rw [ek]; exact nI_eq (b := 7) (by omega) (by omega)
      by_cases qk : k < 7
      · have i5 : inb ((30 + (7 * nI p)) + q_Mo_s w (26 + p)) 901 = true := by rw [ek, ow_30]; exact inb_n (by omega) (by omega)
        have c5 : ((30 + (7 * nI p)) + q_Mo_s w (26 + p)).toNatClampNeg = 30 + 7 * p + k := by rw [ek, ow_30]; exact nI_clamp (by omega)
        rw [if_pos (k1.mpr qk), if_neg (fun y => (by have := k2.mp y; omega)), if_pos i5, c5, Pe_addToRow (by omega) (e5.trans ek) qk]
        refine ⟨nI (k + 1), _, u_Mo_s w (upd (upd (q_Mo_s w) (30 + 7 * p + k) (nI t)) (26 + p) (nI (k + 1))), rfl, ?_, Rl.set (cl := cl) h (RC_rowt hR hp ht ek qk) rfl rfl rfl FrM.rf⟩
        have y : upd (q_Mo_s w) (30 + 7 * p + k) (nI t) (26 + p) + 1 = nI (k + 1) := by rw [pk_un (by omega), ek, nI_1]
        show some (upd (upd (q_Mo_s w) (30 + 7 * p + k) (nI t)) (26 + p) (upd (q_Mo_s w) (30 + 7 * p + k) (nI t) (26 + p) + 1) (26 + p), u_Mo_s w (upd (upd (q_Mo_s w) (30 + 7 * p + k) (nI t)) (26 + p) (upd (q_Mo_s w) (30 + 7 * p + k) (nI t) (26 + p) + 1))) = _
        rw [y, pk_us]
      · rw [if_neg (fun y => qk (k1.mp y)), if_pos (k2.mpr (by omega))]
        exact ⟨_, z, w, rfl, rfl, h⟩
    · rw [if_neg q6, if_neg q6]
      exact ⟨_, z, w, rfl, rfl, h⟩
/-- SEEN's row changed -/
theorem RC_seen {r r' : T_Re} {s s' : Nat → Int32} {cl : CL} (h : RC r s cl) (hs : ∀ i, i ≠ 3 → (i < 72 ∨ 96 ≤ i) → s' i = s i) (h3 : rg (s' 3) 12) (hz : q_Re_seen r' = s' 3)
    (hW : ∀ i, i < NN (s' 3) → RgW s' (NN (s 0)) i ∧ ReW r' s' i) (k0 : q_Re_people r' = q_Re_people r) (k1 : q_Re_things r' = q_Re_things r) (k2 : q_Re_lands r' = q_Re_lands r) (k4 : q_Re_signs r' = q_Re_signs r) (k5 : q_Re_year r' = q_Re_year r)
    (k8 : q_Re_tape r' = q_Re_tape r) (k9 : q_Re_land r' = q_Re_land r) : RC r' s' cl := by
  have a0 := hs 0 (by omega) (by omega)
  have a1 := hs 1 (by omega) (by omega)
  have a2 := hs 2 (by omega) (by omega)
  have a4 := hs 4 (by omega) (by omega)
  have a5 := hs 5 (by omega) (by omega)
  have a6 := hs 6 (by omega) (by omega)
  have p4 := h.1.1.2
  have t7 := h.1.2.1.2
  refine ⟨⟨a0 ▸ h.1.1, a1 ▸ h.1.2.1, a2 ▸ h.1.2.2.1, h3, a4 ▸ h.1.2.2.2.2.1, a6 ▸ h.1.2.2.2.2.2⟩, ⟨by rw [k0, a0]; exact h.2.1.1, by rw [k1, a1]; exact h.2.1.2.1, by rw [k2, a2]; exact h.2.1.2.2.1, hz, by rw [k4, a4]; exact h.2.1.2.2.2.2.1, by rw [k5, a6]; exact h.2.1.2.2.2.2.2⟩, ?_, ?_, by rw [a0]; exact hW, ?_, ?_, h.2.2.2.2.2.2.2.same a5 a2⟩
  · rw [a0, a1, k0]
    intro p hp
    have hP := h.2.2.1 p hp
    have hs1 : ∀ i, 10 ≤ i → i < 58 → s' i = s i := fun i _ _ => hs i (by omega) (by omega)
    exact ⟨hP.1.same (by omega) hs1 (Nat.le_refl _), hP.2.same hP.1 (by omega) hs1 rfl rfl rfl rfl rfl rfl⟩
  · rw [a0, a1, k1]
    intro t ht
    have hT := h.2.2.2.1 t ht
    have hs1 : ∀ i, 58 ≤ i → i < 72 → s' i = s i := fun i _ _ => hs i (by omega) (by omega)
    exact ⟨hT.1.same (by omega) hs1 (Nat.le_refl _), hT.2.same (by omega) hs1⟩
  · rw [a4, k8]
    intro i hi
    rw [hs (96 + i) (by omega) (by omega)]
    exact h.2.2.2.2.2.1 i hi
  · rw [k9]
    exact h.2.2.2.2.2.2.1.same a5 (fun i hi _ => hs i (by omega) (by omega))
theorem RC_see {r : T_Re} {s : Nat → Int32} {cl : CL} (hR : RC r s cl) {p n c : Nat} (hp : p < NN (s 0)) (hn : s 3 = nI n) (hn12 : n < 12) (hc : c ≤ 1) : RC (u_Re_seen (u_Re_seenCould (u_Re_seenWho r (upd (q_Re_seenWho r) n (nI p))) (upd (q_Re_seenCould r) n (nI c))) (nI (n + 1))) (upd (upd (upd s (72 + n) (nI p)) (84 + n) (nI c)) 3 (nI (n + 1))) cl := by
  have h4 := hR.1.1.2
  have hs : ∀ i, i ≠ 3 → i ≠ 72 + n → i ≠ 84 + n → upd (upd (upd s (72 + n) (nI p)) (84 + n) (nI c)) 3 (nI (n + 1)) i = s i := fun i a b d => by rw [pk_un a, pk_un d, pk_un b]
  have v1 : upd (upd (upd s (72 + n) (nI p)) (84 + n) (nI c)) 3 (nI (n + 1)) 3 = nI (n + 1) := pk_us
  have v2 : upd (upd (upd s (72 + n) (nI p)) (84 + n) (nI c)) 3 (nI (n + 1)) (72 + n) = nI p := by rw [pk_un (by omega), pk_un (by omega), pk_us]
  have v3 : upd (upd (upd s (72 + n) (nI p)) (84 + n) (nI c)) 3 (nI (n + 1)) (84 + n) = nI c := by rw [pk_un (by omega), pk_us]
  generalize upd (upd (upd s (72 + n) (nI p)) (84 + n) (nI c)) 3 (nI (n + 1)) = s' at *
  refine RC_seen hR (fun i _ _ => hs i (by omega) (by omega) (by omega)) (by rw [v1]; exact rg_n (by omega) (by omega)) v1.symm ?_ rfl rfl rfl rfl rfl rfl rfl
  rw [v1, rg_N (by omega)]
  intro i hi
  show RgW s' _ i ∧ upd (q_Re_seenWho r) n (nI p) i = _ ∧ upd (q_Re_seenCould r) n (nI c) i = _
  unfold RgW
  by_cases e : i = n
  · subst e
    rw [v2, v3, pk_us, pk_us, rg_N (by omega)]
    refine ⟨⟨rg_n (by omega) (by omega), hp, ?_⟩, rfl, rfl⟩
    rcases (show c = 0 ∨ c = 1 by omega) with q | q
    · subst q; exact Or.inl rfl
    · subst q; exact Or.inr rfl
  · have hW := hR.2.2.2.2.1 i (by rw [hn, rg_N (by omega)]; omega)
    rw [hs (72 + i) (by omega) (by omega) (by omega), hs (84 + i) (by omega) (by omega) (by omega), pk_un e, pk_un e]
    exact ⟨hW.1, hW.2⟩
theorem s_see : S_see Rl := by
  intro z w x x2 h
  obtain ⟨⟨cl, hR⟩, -⟩ := id h
  have h4 := hR.1.1.2
  unfold d_OL_see d_Mo_see
  by_cases q : x = -1
  · rw [if_pos q, if_pos q]
    refine ⟨_, _, _, rfl, rfl, Rl.set (cl := cl) h (hk := rfl) (hi := rfl) (ha := rfl) (hF := FrM.rf) ?_⟩
    refine RC_seen (s' := upd (q_Mo_s w) 3 0) hR (fun i a _ => pk_un a) (by rw [pk_us]; exact rg_n (k := 0) (by omega) (by omega)) (by rw [pk_us]) ?_ rfl rfl rfl rfl rfl rfl rfl
    intro i hi
    rw [pk_us] at hi
    exact absurd hi (by rw [show (0 : Int32) = nI 0 from rfl, rg_N (by omega)]; omega)
  rw [if_neg q, if_neg q]
  rcases per_cases (y := q_Re_people (q_OL_now z)) (w := w) hR.2.1.1 hR.1.1 x with ⟨h1, h2⟩ | ⟨p, hp, rfl, h1, h2⟩
  · rw [h1, h2]
    exact ⟨_, z, w, rfl, rfl, h⟩
  rw [h1, h2]
  have z9 : ¬ (1 : Int32) = 0 := by decide
  simp only [Option.bind_some, z9, if_false]
  have hn := hR.1.2.2.2.1.2
  have en := hR.1.2.2.2.1.1
  have e3 := hR.2.1.2.2.2.1
  generalize hN : NN (q_Mo_s w 3) = n at *
  have k1 : (q_Re_seen (q_OL_now z) < 12) ↔ n < 12 := by rw [e3, en]; exact nI_ltI (b := 12) (by omega) (by omega)
  have k2 : (q_Mo_s w 3 = 12) ↔ n = 12 := by rw [en]; exact nI_eq (b := 12) (by omega) (by omega)
  by_cases qn : n < 12
  · have i1 : inb (q_Re_seen (q_OL_now z)) 12 = true := by rw [e3, en]; exact inb_n qn (by omega)
    have c1 : (q_Re_seen (q_OL_now z)).toNatClampNeg = n := by rw [e3]; exact hN
    have i2 : inb (72 + q_Mo_s w 3) 901 = true := by rw [en]; exact in9 72 (by omega)
    have c2 : (72 + q_Mo_s w 3).toNatClampNeg = 72 + n := by rw [en]; exact cl9 72 (by omega)
    have i3 : inb (84 + q_Mo_s w 3) 901 = true := by rw [en]; exact in9 84 (by omega)
    have c3 : (84 + q_Mo_s w 3).toNatClampNeg = 84 + n := by rw [en]; exact cl9 84 (by omega)
    have e9 : q_Re_seen (q_OL_now z) + 1 = nI (n + 1) := by rw [e3, en, nI_1]
    have u3 : q_Mo_s (u_Mo_s w (upd (q_Mo_s w) (72 + n) (nI p))) 3 = q_Mo_s w 3 := pk_un (by omega)
    have n12 : ¬ q_Mo_s w 3 = 12 := fun y => by have := k2.mp y; omega
    rw [if_pos (k1.mpr qn), if_pos i1, if_neg n12, if_pos i2, c2, c1, u3, c3]
    have u4 : ∀ c : Int32, upd (upd (q_Mo_s w) (72 + n) (nI p)) (84 + n) c 3 + 1 = nI (n + 1) := fun c => by rw [pk_un (by omega), pk_un (by omega), en, nI_1]
    have fin : ∀ c, c ≤ 1 → Rl (u_OL_now z (u_Re_seen (u_Re_seenCould (u_Re_seenWho (q_OL_now z) (upd (q_Re_seenWho (q_OL_now z)) n (nI p))) (upd (q_Re_seenCould (q_OL_now z)) n (nI c))) (nI (n + 1)))) (u_Mo_s w (upd (upd (upd (q_Mo_s w) (72 + n) (nI p)) (84 + n) (nI c)) 3 (nI (n + 1)))) := fun c hc =>
      Rl.set (cl := cl) h (RC_see hR hp en qn hc) rfl rfl rfl FrM.rf
    by_cases q0 : x2 = 0
    · rw [if_pos q0, if_pos q0, if_pos i3]
      refine ⟨nI (n + 1), _, _, ?_, ?_, fin 0 (by omega)⟩
      · rw [if_pos (show inb (q_Re_seen (q_OL_now (u_OL_now z (u_Re_seenWho (q_OL_now z) (upd (q_Re_seenWho (q_OL_now z)) n (nI p)))))) 12 = true from i1)]
        show some (q_Re_seen (q_OL_now z) + 1, u_OL_now z (u_Re_seen (u_Re_seenCould (u_Re_seenWho (q_OL_now z) (upd (q_Re_seenWho (q_OL_now z)) n (nI p))) (upd (q_Re_seenCould (q_OL_now z)) n 0)) (q_Re_seen (q_OL_now z) + 1))) = _
        rw [e9]
        rfl
      · show some (upd (upd (upd (q_Mo_s w) (72 + n) (nI p)) (84 + n) 0) 3 (upd (upd (q_Mo_s w) (72 + n) (nI p)) (84 + n) 0 3 + 1) 3, u_Mo_s w (upd (upd (upd (q_Mo_s w) (72 + n) (nI p)) (84 + n) 0) 3 (upd (upd (q_Mo_s w) (72 + n) (nI p)) (84 + n) 0 3 + 1))) = _
        rw [u4, pk_us]
        rfl
    · rw [if_neg q0, if_neg q0, if_pos i3]
      refine ⟨nI (n + 1), _, _, ?_, ?_, fin 1 (by omega)⟩
      · rw [if_pos (show inb (q_Re_seen (q_OL_now (u_OL_now z (u_Re_seenWho (q_OL_now z) (upd (q_Re_seenWho (q_OL_now z)) n (nI p)))))) 12 = true from i1)]
        show some (q_Re_seen (q_OL_now z) + 1, u_OL_now z (u_Re_seen (u_Re_seenCould (u_Re_seenWho (q_OL_now z) (upd (q_Re_seenWho (q_OL_now z)) n (nI p))) (upd (q_Re_seenCould (q_OL_now z)) n 1)) (q_Re_seen (q_OL_now z) + 1))) = _
        rw [e9]
        rfl
      · show some (upd (upd (upd (q_Mo_s w) (72 + n) (nI p)) (84 + n) 1) 3 (upd (upd (q_Mo_s w) (72 + n) (nI p)) (84 + n) 1 3 + 1) 3, u_Mo_s w (upd (upd (upd (q_Mo_s w) (72 + n) (nI p)) (84 + n) 1) 3 (upd (upd (q_Mo_s w) (72 + n) (nI p)) (84 + n) 1 3 + 1))) = _
        rw [u4, pk_us]
        rfl
  · rw [if_neg (fun y => qn (k1.mp y)), if_pos (k2.mpr (by omega))]
    exact ⟨_, z, w, rfl, rfl, h⟩

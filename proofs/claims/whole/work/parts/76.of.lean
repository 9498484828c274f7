/-! of, year. -/
/-- both sides asked how all stands -/
theorem ask2 {z : T_OL} {w : T_Mo} {cl : CL} (hR : RC (q_OL_now z) (q_Mo_s w) cl) : ∃ z1 F w1, d_St_take (q_OL_standing z) (q_OL_now z) = some (z1, u_Re_facts (q_OL_now z) F) ∧ d_Mo_looksForAll w = some w1 ∧
    TkO (q_Mo_s w) cl (NN (q_Mo_s w 0)) z1 ∧ SW z1 (NN (q_Mo_s w 0)) (NN (q_Mo_s w 1)) (xWt (q_Mo_s w)) (xOw (q_Mo_s w)) (xK cl (q_Mo_s w)) (xL cl (q_Mo_s w)) ∧ q_Mo_s w1 = q_Mo_s w ∧ MW w1 (NN (q_Mo_s w 0)) (NN (q_Mo_s w 1)) (xWt (q_Mo_s w)) (xOw (q_Mo_s w)) (xK cl (q_Mo_s w)) (xL cl (q_Mo_s w)) ∧ FrM w w1 := by
  obtain ⟨z1, F, y1, y2⟩ := St_take hR.re hR.rg (q_OL_standing z)
  obtain ⟨w1, y3, y4, y5⟩ := Mo_looksForAll hR.lc hR.rg
  exact ⟨z1, F, w1, y1, y3, y2, TkO_SW hR.rg y2, y4.1, LkO_MW hR.rg y4, y5⟩
theorem s_of : S_of Rl := by
  intro z w x x2 h
  obtain ⟨⟨cl, hR⟩, -⟩ := id h
  have h4 := hR.1.1.2
  have h7 := hR.1.2.1.2
  unfold d_OL_of d_Mo_of
  rcases per_cases (y := q_Re_people (q_OL_now z)) (w := w) hR.2.1.1 hR.1.1 x with ⟨h1, h2⟩ | ⟨p, hp, rfl, h1, h2⟩
  · rw [h1, h2]
    exact ⟨_, z, w, rfl, rfl, h⟩
  rw [h1, h2]
  have z9 : ¬ (1 : Int32) = 0 := by decide
  obtain ⟨z1, F, w1, y1, -, hT, hS, -⟩ := ask2 hR
  simp only [Option.bind_some, z9, if_false]
  rw [y1]
  have hP := hR.2.2.1 p hp
  have hG := hR.RG
  have i3 : inb (nI p) 4 = true := inb_n (by omega) (by omega)
  have c3 : (nI p).toNatClampNeg = p := nI_clamp (by omega)
  have i9 : inb (26 + nI p) 901 = true := in9 26 (by omega)
  have c9 : (26 + nI p).toNatClampNeg = 26 + p := cl9 26 (by omega)
  have hz : ∀ w', q_Mo_s w' = q_Mo_s w → FrM w w' → Rl (u_OL_now (u_OL_standing z z1) (u_Re_facts (q_OL_now z) F)) w' := fun w' a b => by
    refine Rl.set (cl := cl) h ?_ rfl rfl rfl b
    rw [a]
    exact hR
  have f1 : q_St_lifts (q_OL_standing (u_OL_now (u_OL_standing z z1) (u_Re_facts (q_OL_now z) F))) p = nI (xL cl (q_Mo_s w) p) := hS.2.2.2.2.2 p hp
  have f2 : d_St_load (nI p) (q_OL_standing (u_OL_now (u_OL_standing z z1) (u_Re_facts (q_OL_now z) F))) = _ := St_load hS hG (p := p) (by omega)
  have f3 : d_St_over (nI p) (q_OL_standing (u_OL_now (u_OL_standing z z1) (u_Re_facts (q_OL_now z) F))) = _ := St_over hS hG (p := p) hp
  have f4 : q_St_ill (q_OL_standing (u_OL_now (u_OL_standing z z1) (u_Re_facts (q_OL_now z) F))) p = nI (xI cl (q_Mo_s w) p) := (hT.2.2.2.2 p hp).2.1
  have f5 : d_St_bits (nI p) (q_OL_standing (u_OL_now (u_OL_standing z z1) (u_Re_facts (q_OL_now z) F))) = _ := St_bits hS hG (p := p) (by omega)
  have g1 : q_Pe_kind (q_Re_people (q_OL_now (u_OL_now (u_OL_standing z z1) (u_Re_facts (q_OL_now z) F)))) p = q_Mo_s w (10 + p) := hP.2.1
  have g2 : q_Pe_v (q_Re_people (q_OL_now (u_OL_now (u_OL_standing z z1) (u_Re_facts (q_OL_now z) F)))) p = q_Mo_s w (14 + p) := hP.2.2.1
  have g3 : q_Pe_strength (q_Re_people (q_OL_now (u_OL_now (u_OL_standing z z1) (u_Re_facts (q_OL_now z) F)))) p = q_Mo_s w (18 + p) := hP.2.2.2.1
  have g4 : q_Pe_age (q_Re_people (q_OL_now (u_OL_now (u_OL_standing z z1) (u_Re_facts (q_OL_now z) F)))) p = q_Mo_s w (22 + p) := hP.2.2.2.2.1
  have g5 : q_Pe_rowSize (q_Re_people (q_OL_now (u_OL_now (u_OL_standing z z1) (u_Re_facts (q_OL_now z) F)))) p = q_Mo_s w (26 + p) := hP.2.2.2.2.2.1
  obtain ⟨B1, T1, l1⟩ := Mo_liftsOf (w := w) hR.lc hR.rg hp
  obtain ⟨B2, T2, l2⟩ := Mo_illOf (w := w) hR.lc hR.rg hp
  have l3 := Mo_loadOf (w := w) (MT_of hR.rg) h7 (fun t ht => hG.o4 ht) (p := p) (by omega)
  have l4 := Mo_thingsOf (w := w) (MT_of hR.rg) h7 (fun t ht => hG.o4 ht) (p := p) (by omega)
  have hl := nLd_le (O := xOw (q_Mo_s w)) (p := p) h7 hG.2.2.1
  have hL := hG.2.2.2.2.2 p hp
  simp only [Option.bind_some, i3, c3, i9, c9, if_true, f1, f2, f3, f4, f5, g1, g2, g3, g4, g5, l1, l2, l3, l4, bI_0]
  by_cases q4 : x2 = 4
  · subst q4
    exact ⟨nI (xL cl (q_Mo_s w) p), _, _, rfl, rfl, hz _ rfl FrM.rf⟩
  by_cases q5 : x2 = 5
  · subst q5
    exact ⟨nI (nLd (xWt (q_Mo_s w)) (xOw (q_Mo_s w)) (NN (q_Mo_s w 1)) p), _, _, rfl, rfl, hz _ rfl FrM.rf⟩
  by_cases q6 : x2 = 6
  · subst q6
    have k1 : (nI (nLd (xWt (q_Mo_s w)) (xOw (q_Mo_s w)) (NN (q_Mo_s w 1)) p) ≤ nI (xL cl (q_Mo_s w) p)) ↔ nLd (xWt (q_Mo_s w)) (xOw (q_Mo_s w)) (NN (q_Mo_s w 1)) p ≤ xL cl (q_Mo_s w) p := nI_leI (by omega) (by omega)
    by_cases y : nLd (xWt (q_Mo_s w)) (xOw (q_Mo_s w)) (NN (q_Mo_s w 1)) p ≤ xL cl (q_Mo_s w) p
    · refine ⟨0, _, u_Mo_truths (u_Mo_by w B1) T1, ?_, ?_, hz _ rfl FrM.rf⟩
      · rw [if_neg (by decide), if_neg (by decide), if_neg (by decide), if_neg (by decide), if_neg (by decide), if_neg (by decide), if_pos rfl, if_pos (by simp; omega)]
      · rw [if_neg (by decide), if_neg (by decide), if_pos rfl, if_pos (k1.mpr y)]
    · refine ⟨1, _, u_Mo_truths (u_Mo_by w B1) T1, ?_, ?_, hz _ rfl FrM.rf⟩
      · rw [if_neg (by decide), if_neg (by decide), if_neg (by decide), if_neg (by decide), if_neg (by decide), if_neg (by decide), if_pos rfl, if_neg (by simp; omega)]
      · rw [if_neg (by decide), if_neg (by decide), if_pos rfl, if_neg (fun q => y (k1.mp q))]
  by_cases q7 : x2 = 7
  · subst q7
    exact ⟨nI (xI cl (q_Mo_s w) p), _, _, rfl, rfl, hz _ rfl FrM.rf⟩
  by_cases q8 : x2 = 8
  · subst q8
    exact ⟨nI (nBt (xOw (q_Mo_s w)) (NN (q_Mo_s w 1)) p), _, _, rfl, rfl, hz _ rfl FrM.rf⟩
  by_cases q9 : x2 = 9
  · subst q9
    exact ⟨q_Mo_s w (26 + p), _, _, rfl, rfl, hz _ rfl FrM.rf⟩
  simp only [q4, q5, q6, q7, q8, q9, if_false]
  rcases in_cases x2 3 with h3 | ⟨h3, n0, n1⟩
  · rw [h3]
    have r0 : ¬ x2 = 0 := fun q => by subst q; exact absurd h3 (by decide)
    have r1 : ¬ x2 = 1 := fun q => by subst q; exact absurd h3 (by decide)
    have r2 : ¬ x2 = 2 := fun q => by subst q; exact absurd h3 (by decide)
    have r3 : ¬ x2 = 3 := fun q => by subst q; exact absurd h3 (by decide)
    simp only [r0, r1, r2, r3, if_false]
    exact ⟨-1, _, w, rfl, rfl, hz _ rfl FrM.rf⟩
  · rw [h3]
    simp only [Option.bind_some, z9, if_false]
    obtain ⟨j, hj, ej⟩ := nI_of2 (M := 3) (n := 3) (by decide) n0 (Int32.not_lt.mp n1)
    subst ej
    have ij : (10 + (4 * nI j)) + nI p = nI (10 + 4 * j + p) := by
      show (nI 10 + (nI 4 * nI j)) + nI p = _
      rw [pk_mul, nI_add, nI_add]
    rw [ij, if_pos (inb_n (show 10 + 4 * j + p < 901 by omega) (by omega)), nI_clamp (show 10 + 4 * j + p < 2 ^ 31 by omega)]
    match j, hj with
    | 0, _ => exact ⟨_, _, w, rfl, rfl, hz _ rfl FrM.rf⟩
    | 1, _ => exact ⟨_, _, w, rfl, rfl, hz _ rfl FrM.rf⟩
    | 2, _ => exact ⟨_, _, w, rfl, rfl, hz _ rfl FrM.rf⟩
    | 3, _ => exact ⟨_, _, w, rfl, rfl, hz _ rfl FrM.rf⟩
/-- a year more -/
theorem RC_year {r : T_Re} {s : Nat → Int32} {cl : CL} (h : RC r s cl) {y : Nat} (hy : y ≤ 99) : RC (u_Re_year r (nI y)) (upd s 6 (nI y)) cl := by
  have hs : ∀ i, i ≠ 6 → upd s 6 (nI y) i = s i := fun i a => pk_un a
  have hv : upd s 6 (nI y) 6 = nI y := pk_us
  generalize upd s 6 (nI y) = s' at *
  have a0 := hs 0 (by omega)
  have a1 := hs 1 (by omega)
  have a2 := hs 2 (by omega)
  have a3 := hs 3 (by omega)
  have a4 := hs 4 (by omega)
  have a5 := hs 5 (by omega)
  have p4 := h.1.1.2
  have t7 := h.1.2.1.2
  have w12 := h.1.2.2.2.1.2
  refine ⟨⟨a0 ▸ h.1.1, a1 ▸ h.1.2.1, a2 ▸ h.1.2.2.1, a3 ▸ h.1.2.2.2.1, a4 ▸ h.1.2.2.2.2.1, by rw [hv]; exact rg_n hy (by omega)⟩, ⟨a0 ▸ h.2.1.1, a1 ▸ h.2.1.2.1, a2 ▸ h.2.1.2.2.1, a3 ▸ h.2.1.2.2.2.1, a4 ▸ h.2.1.2.2.2.2.1, hv.symm⟩, ?_, ?_, ?_, ?_, h.lc.same a5 (fun i _ _ => hs i (by omega)), h.2.2.2.2.2.2.2.same a5 a2⟩
  · rw [a0, a1]
    intro p hp
    have hP := h.2.2.1 p hp
    have hs1 : ∀ i, 10 ≤ i → i < 58 → s' i = s i := fun i _ _ => hs i (by omega)
    exact ⟨hP.1.same (by omega) hs1 (Nat.le_refl _), hP.2.same hP.1 (by omega) hs1 rfl rfl rfl rfl rfl rfl⟩
  · rw [a0, a1]
    intro t ht
    have hT := h.2.2.2.1 t ht
    have hs1 : ∀ i, 58 ≤ i → i < 72 → s' i = s i := fun i _ _ => hs i (by omega)
    exact ⟨hT.1.same (by omega) hs1 (Nat.le_refl _), hT.2.same (by omega) hs1⟩
  · rw [a0, a3]
    intro i hi
    have hW := h.2.2.2.2.1 i hi
    have hs1 : ∀ i, 72 ≤ i → i < 96 → s' i = s i := fun i _ _ => hs i (by omega)
    exact ⟨hW.1.same (by omega) hs1 (Nat.le_refl _), hW.2.same (by omega) hs1⟩
  · rw [a4]
    intro i hi
    rw [hs (96 + i) (by omega)]
    exact h.2.2.2.2.2.1 i hi
/-- an AGE changed -/
theorem RC_age {r : T_Re} {s : Nat → Int32} {cl : CL} (hR : RC r s cl) {p g : Nat} (hp : p < NN (s 0)) (hg : g ≤ 99) : RC (u_Re_people r (u_Pe_age (q_Re_people r) (upd (q_Pe_age (q_Re_people r)) p (nI g)))) (upd s (22 + p) (nI g)) cl := by
  have h4 := hR.1.1.2
  have hs : ∀ i, i ≠ 22 + p → upd s (22 + p) (nI g) i = s i := fun i a => pk_un a
  have hv : upd s (22 + p) (nI g) (22 + p) = nI g := pk_us
  generalize upd s (22 + p) (nI g) = s' at *
  have a0 := hs 0 (by omega)
  refine RC_people hR (fun i _ _ => hs i (by omega)) (a0 ▸ hR.1.1) (by rw [a0]; exact Nat.le_refl _) (by rw [a0]; exact hR.2.1.1) ?_ rfl rfl rfl rfl rfl rfl rfl rfl rfl
  rw [a0]
  intro q hq
  have hP := hR.2.2.1 q hq
  obtain ⟨r1, r2, r3, r4, r5, r6⟩ := hP.1
  obtain ⟨t1, t2, t3, t4, t5, t6⟩ := hP.2
  have r7 := r5.2
  have b1 := hs (10 + q) (by omega)
  have b2 := hs (14 + q) (by omega)
  have b3 := hs (18 + q) (by omega)
  have b5 := hs (26 + q) (by omega)
  have b4 : (q = p ∧ s' (22 + q) = nI g) ∨ (q ≠ p ∧ s' (22 + q) = s (22 + q)) := by
    by_cases e : q = p
    · subst e; exact Or.inl ⟨rfl, hv⟩
    · exact Or.inr ⟨e, hs _ (by omega)⟩
  refine ⟨⟨b1 ▸ r1, b2 ▸ r2, b3 ▸ r3, ?_, b5 ▸ r5, ?_⟩, b1 ▸ t1, b2 ▸ t2, b3 ▸ t3, ?_, b5 ▸ t5, ?_⟩
  · rcases b4 with ⟨_, e⟩ | ⟨_, e⟩
    · rw [e]; exact rg_n hg (by omega)
    · rw [e]; exact r4
  · rw [b5]
    intro i hi
    rw [hs (30 + 7 * q + i) (by omega)]
    exact r6 i hi
  · show upd (q_Pe_age (q_Re_people r)) p (nI g) q = _
    rcases b4 with ⟨e1, e⟩ | ⟨e1, e⟩
    · rw [e, e1]; exact pk_us
    · rw [e, pk_un e1]; exact t4
  · rw [b5]
    intro i hi
    rw [hs (30 + 7 * q + i) (by omega)]
    exact t6 i hi
/-- a WEIGHT changed -/
theorem RC_weight {r : T_Re} {s : Nat → Int32} {cl : CL} (hR : RC r s cl) {t g : Nat} (ht : t < NN (s 1)) (hg : g ≤ 50) : RC (u_Re_things r (u_Th_weight (q_Re_things r) (upd (q_Th_weight (q_Re_things r)) t (nI g)))) (upd s (58 + t) (nI g)) cl := by
  have h4 := hR.1.1.2
  have h7 := hR.1.2.1.2
  have hs : ∀ i, i ≠ 58 + t → upd s (58 + t) (nI g) i = s i := fun i a => pk_un a
  have hv : upd s (58 + t) (nI g) (58 + t) = nI g := pk_us
  generalize upd s (58 + t) (nI g) = s' at *
  have a1 := hs 1 (by omega)
  refine RC_things hR (fun i _ _ => hs i (by omega)) (a1 ▸ hR.1.2.1) (by rw [a1]; exact Nat.le_refl _) (by rw [a1]; exact hR.2.1.2.1) ?_ rfl rfl rfl rfl rfl rfl rfl rfl rfl
  rw [a1]
  intro u hu
  show RgT s' _ u ∧ upd (q_Th_weight (q_Re_things r)) t (nI g) u = _ ∧ q_Th_owner (q_Re_things r) u = _
  have hT := hR.2.2.2.1 u hu
  unfold RgT
  rw [hs (65 + u) (by omega)]
  by_cases e : u = t
  · subst e
    rw [hv, pk_us]
    exact ⟨⟨rg_n hg (by omega), hT.1.2⟩, rfl, hT.2.2⟩
  · rw [hs (58 + u) (by omega), pk_un e]
    exact ⟨hT.1, hT.2⟩
/-- the row as ages go, as things wear -/
def yA (s : Nat → Int32) (p : Nat) : Nat := if NN (s (22 + p)) < 99 then NN (s (22 + p)) + 1 else 99
def yAs (s : Nat → Int32) : Nat → Nat → Int32 := fun p => fo (fun i a => upd a (22 + i) (nI (yA a i))) p 0 s
def yWs (cl : CL) (s : Nat → Int32) : Nat → Nat → Int32 := fun t => fo (fun i a => upd a (58 + i) (nI (NN (a (58 + i)) - xW cl a i))) t 0 s
theorem yAs_s (s : Nat → Int32) (p : Nat) : yAs s (p + 1) = upd (yAs s p) (22 + p) (nI (yA (yAs s p) p)) := by
  unfold yAs
  rw [fo_last, Nat.zero_add]
theorem yWs_s (cl : CL) (s : Nat → Int32) (t : Nat) : yWs cl s (t + 1) = upd (yWs cl s t) (58 + t) (nI (NN (yWs cl s t (58 + t)) - xW cl (yWs cl s t) t)) := by
  unfold yWs
  rw [fo_last, Nat.zero_add]
theorem yA_99 (s : Nat → Int32) (p : Nat) : yA s p ≤ 99 := by
  unfold yA
  split <;> omega
theorem yAs_0 (s : Nat → Int32) : ∀ p, yAs s p 0 = s 0 ∧ yAs s p 1 = s 1
  | 0 => ⟨rfl, rfl⟩
  | p + 1 => by
    rw [yAs_s, pk_un (by omega), pk_un (by omega)]
    exact yAs_0 s p
theorem yWs_0 (cl : CL) (s : Nat → Int32) : ∀ p, yWs cl s p 0 = s 0 ∧ yWs cl s p 1 = s 1
  | 0 => ⟨rfl, rfl⟩
  | p + 1 => by
    rw [yWs_s, pk_un (by omega), pk_un (by omega)]
    exact yWs_0 cl s p
section YE
variable {cl : CL} {s : Nat → Int32}
theorem Re_ages {r : T_Re} (hR : RC r s cl) (k : T_Re → Option T_Re) : ∃ r', d_Re_pass_L12 k 1000 0 r = k r' ∧ RC r' (yAs s (NN (s 0))) cl := by
  have h4 := hR.1.1.2
  obtain ⟨r', h1, h2⟩ := lpIx (z := fun _ _ => none) (B := fun self => B_Re_pass_L12 k self) (n := NN (s 0)) k (fun p a => RC a (yAs s p) cl)
    (by
      intro self p a hp hA
      have e0 := (yAs_0 s p).1
      have hp' : p < NN (yAs s p 0) := by rw [e0]; exact hp
      have hP := hA.2.2.1 p hp'
      have c0 : inb (nI p) 4 = true := inb_n (by omega) (by omega)
      have c1 : (nI p).toNatClampNeg = p := nI_clamp (by omega)
      have c2 : ¬ q_Pe_size (q_Re_people a) ≤ nI p := by rw [hA.2.1.1, e0, hR.1.1.1]; exact nI_ge hp (by omega)
      have ga := hP.1.2.2.2.1.2
      have ea : q_Pe_age (q_Re_people a) p = nI (NN (yAs s p (22 + p))) := hP.2.2.2.2.1.trans hP.1.2.2.2.1.1
      refine ⟨u_Re_people a (u_Pe_age (q_Re_people a) (upd (q_Pe_age (q_Re_people a)) p (nI (yA (yAs s p) p)))), ?_, ?_⟩
      · unfold B_Re_pass_L12
        rw [if_neg c2, if_pos c0, if_pos c0, c1, ea, nI_1, nI_1]
        have k1 : (nI (NN (yAs s p (22 + p)) + 1) < 99) ↔ NN (yAs s p (22 + p)) + 1 < 99 := nI_ltI (b := 99) (by omega) (by omega)
        have y : (if nI (NN (yAs s p (22 + p)) + 1) < 99 then nI (NN (yAs s p (22 + p)) + 1) else 99) = nI (yA (yAs s p) p) := by
          unfold yA
          by_cases q : NN (yAs s p (22 + p)) + 1 < 99
          · rw [if_pos (k1.mpr q), if_pos (by omega)]
          · rw [if_neg (fun y => q (k1.mp y))]
            by_cases q2 : NN (yAs s p (22 + p)) < 99
            · rw [if_pos q2, show NN (yAs s p (22 + p)) + 1 = 99 by omega]; rfl
            · rw [if_neg q2]; rfl
        rw [y]
      · rw [yAs_s]
        exact RC_age hA hp' (yA_99 _ _))
    (by
      intro self a hA
      have c2 : q_Pe_size (q_Re_people a) ≤ nI (NN (s 0)) := by rw [hA.2.1.1, (yAs_0 s _).1, ← hR.1.1.1]; exact Int32.le_refl _
      unfold B_Re_pass_L12
      rw [if_pos c2])
    1000 0 r (Nat.zero_le _) (by omega) hR
  exact ⟨r', h2, h1⟩
theorem Re_wears {r : T_Re} (hR : RC r s cl) : ∃ r', d_Re_pass_L56 1000 0 r = some r' ∧ RC r' (yWs cl s (NN (s 1))) cl := by
  have h7 := hR.1.2.1.2
  obtain ⟨r', h1, h2⟩ := lpIx (z := fun _ _ => none) (B := fun self => B_Re_pass_L56 self) (n := NN (s 1)) some (fun t a => RC a (yWs cl s t) cl)
    (by
      intro self t a ht hA
      have e1 := (yWs_0 cl s t).2
      have ht' : t < NN (yWs cl s t 1) := by rw [e1]; exact ht
      have hT := hA.2.2.2.1 t ht'
      have c0 : inb (nI t) 7 = true := inb_n (by omega) (by omega)
      have c1 : (nI t).toNatClampNeg = t := nI_clamp (by omega)
      have c2 : ¬ q_Th_size (q_Re_things a) ≤ nI t := by rw [hA.2.1.2.1, e1, hR.1.2.1.1]; exact nI_ge ht (by omega)
      have gw := hT.1.1.2
      have ew : q_Th_weight (q_Re_things a) t = nI (NN (yWs cl s t (58 + t))) := hT.2.1.trans hT.1.1.1
      obtain ⟨F, y1⟩ := Re_wearOf hA.re hA.rg ht'
      have hx := toO_1000 (fa := fT (yWs cl s t) t) (a := 2) hA.lc
      have hx : xW cl (yWs cl s t) t ≤ 990 := hx
      refine ⟨u_Re_things (u_Re_facts a F) (u_Th_weight (q_Re_things (u_Re_facts a F)) (upd (q_Th_weight (q_Re_things (u_Re_facts a F))) t (nI (NN (yWs cl s t (58 + t)) - xW cl (yWs cl s t) t)))), ?_, ?_⟩
      · unfold B_Re_pass_L56
        rw [if_neg c2, if_pos c0, y1]
        simp only [Option.bind_some, c0, c1, if_true, ew, nI_1]
        have y : (if (0 : Int32) < nI (NN (yWs cl s t (58 + t))) - nI (xW cl (yWs cl s t) t) then nI (NN (yWs cl s t (58 + t))) - nI (xW cl (yWs cl s t) t) else 0) = nI (NN (yWs cl s t (58 + t)) - xW cl (yWs cl s t) t) := by
          by_cases q : xW cl (yWs cl s t) t ≤ NN (yWs cl s t (58 + t))
          · rw [pk_sub q]
            by_cases q2 : 0 < NN (yWs cl s t (58 + t)) - xW cl (yWs cl s t) t
            · exact if_pos ((nI_ltI (a := 0) (by omega) (by omega)).mpr q2)
            · have q3 : NN (yWs cl s t (58 + t)) - xW cl (yWs cl s t) t = 0 := by omega
              rw [q3]
              exact ite_self _
          · have n0 := pk_sneg (a := NN (yWs cl s t (58 + t))) (b := xW cl (yWs cl s t) t) (by omega) (by omega)
            rw [if_neg (fun y => by
              rw [Int32.lt_iff_toInt_lt] at y n0
              omega), show NN (yWs cl s t (58 + t)) - xW cl (yWs cl s t) t = 0 by omega]
            rfl
        rw [y]
      · rw [yWs_s]
        have hA' : RC (u_Re_facts a F) (yWs cl s t) cl := hA
        exact RC_weight hA' ht' (by omega))
    (by
      intro self a hA
      have c2 : q_Th_size (q_Re_things a) ≤ nI (NN (s 1)) := by rw [hA.2.1.2.1, (yWs_0 cl s _).2, ← hR.1.2.1.1]; exact Int32.le_refl _
      unfold B_Re_pass_L56
      rw [if_pos c2])
    1000 0 r (Nat.zero_le _) (by omega) hR
  exact ⟨r', h2, h1⟩
end YE
/-! The model's year. -/
section YM
variable {cl : CL} {s : Nat → Int32}
/-- the rows alone: what the class's side shows of them (a realm that stands for the row) -/
theorem Mo_ages {r : T_Re} {w : T_Mo} (hR : RC r (q_Mo_s w) cl) (k : T_Mo → Option (Int32 × T_Mo)) : d_Mo_year_L28 k 1000 0 w = k (u_Mo_s w (yAs (q_Mo_s w) (NN (q_Mo_s w 0)))) := by
  have h4 := hR.1.1.2
  have h7 := hR.1.2.1.2
  obtain ⟨w', ⟨h1, h3⟩, h2⟩ := lpIx (z := fun _ _ => none) (B := fun self => B_Mo_year_L28 k self) (n := NN (q_Mo_s w 0)) k (fun p a => a = u_Mo_s w (yAs (q_Mo_s w) p) ∧ ∃ r', RC r' (yAs (q_Mo_s w) p) cl)
    (by
      intro self p a hp ⟨ha, r', hA⟩
      subst ha
      have e0 := (yAs_0 (q_Mo_s w) p).1
      have hp' : p < NN (yAs (q_Mo_s w) p 0) := by rw [e0]; exact hp
      have hP := hA.2.2.1 p hp'
      have c0 : inb (22 + nI p) 901 = true := in9 22 (by omega)
      have c1 : (22 + nI p).toNatClampNeg = 22 + p := cl9 22 (by omega)
      have c2 : ¬ q_Mo_s (u_Mo_s w (yAs (q_Mo_s w) p)) 0 ≤ nI p := by
        show ¬ yAs (q_Mo_s w) p 0 ≤ nI p
        rw [e0, hR.1.1.1]; exact nI_ge hp (by omega)
      have ga := hP.1.2.2.2.1.2
      have ea : q_Mo_s (u_Mo_s w (yAs (q_Mo_s w) p)) (22 + p) = nI (NN (yAs (q_Mo_s w) p (22 + p))) := hP.1.2.2.2.1.1
      have k1 : ((99 : Int32) ≤ nI (NN (yAs (q_Mo_s w) p (22 + p)))) ↔ 99 ≤ NN (yAs (q_Mo_s w) p (22 + p)) := nI_leI (a := 99) (by omega) (by omega)
      refine ⟨u_Mo_s w (upd (yAs (q_Mo_s w) p) (22 + p) (nI (yA (yAs (q_Mo_s w) p) p))), ?_, by rw [yAs_s], ?_⟩
      · unfold B_Mo_year_L28
        rw [if_neg c2, if_pos c0, if_pos c0, c1, ea, nI_1, nI_1, Int32.add_zero]
        unfold yA
        by_cases q : 99 ≤ NN (yAs (q_Mo_s w) p (22 + p))
        · rw [if_pos (k1.mpr q), if_pos c0, if_neg (by omega), show NN (yAs (q_Mo_s w) p (22 + p)) = 99 by omega]
        · rw [if_neg (fun y => q (k1.mp y)), if_pos c0, if_pos (by omega)]
      · rw [yAs_s]
        exact ⟨_, RC_age hA hp' (yA_99 _ _)⟩)
    (by
      intro self a ⟨ha, _⟩
      subst ha
      have c2 : q_Mo_s (u_Mo_s w (yAs (q_Mo_s w) (NN (q_Mo_s w 0)))) 0 ≤ nI (NN (q_Mo_s w 0)) := by
        show yAs (q_Mo_s w) (NN (q_Mo_s w 0)) 0 ≤ _
        rw [(yAs_0 (q_Mo_s w) _).1, ← hR.1.1.1]; exact Int32.le_refl _
      unfold B_Mo_year_L28
      rw [if_pos c2])
    1000 0 w (Nat.zero_le _) (by omega) ⟨rfl, r, hR⟩
  rw [← h1]
  exact h2
theorem Mo_wears {r : T_Re} {w : T_Mo} (hR : RC r (q_Mo_s w) cl) : ∃ w', d_Mo_year_L77 1000 0 w = some (q_Mo_s w' 6, w') ∧ q_Mo_s w' = yWs cl (q_Mo_s w) (NN (q_Mo_s w 1)) ∧ FrM w w' := by
  have h4 := hR.1.1.2
  have h7 := hR.1.2.1.2
  obtain ⟨w', ⟨h1, -, h3⟩, h2⟩ := lpIx (z := fun _ _ => none) (B := fun self => B_Mo_year_L77 self) (n := NN (q_Mo_s w 1)) (fun a => some (q_Mo_s a 6, a)) (fun t a => q_Mo_s a = yWs cl (q_Mo_s w) t ∧ (∃ r', RC r' (yWs cl (q_Mo_s w) t) cl) ∧ FrM w a)
    (by
      intro self t a ht ⟨ha, ⟨r', hA⟩, hF⟩
      have e1 := (yWs_0 cl (q_Mo_s w) t).2
      have ht' : t < NN (yWs cl (q_Mo_s w) t 1) := by rw [e1]; exact ht
      have hT := hA.2.2.2.1 t ht'
      have c0 : inb (58 + nI t) 901 = true := in9 58 (by omega)
      have c1 : (58 + nI t).toNatClampNeg = 58 + t := cl9 58 (by omega)
      have c2 : ¬ q_Mo_s a 1 ≤ nI t := by rw [ha, e1, hR.1.2.1.1]; exact nI_ge ht (by omega)
      have gw := hT.1.1.2
      have ew : q_Mo_s a (58 + t) = nI (NN (yWs cl (q_Mo_s w) t (58 + t))) := by rw [ha]; exact hT.1.1.1
      obtain ⟨B, T, y1⟩ := Mo_tellsT (r := r') (cl := cl) (w := a) (t := t) (a := 2) (by rw [ha]; exact hA.lc) (by rw [ha]; exact hA.rg) (by omega) (by rw [ha]; exact ht')
      have y1 : d_Mo_tells (-400) 99 (nI t) a = some (nI (xW cl (q_Mo_s a) t), _) := y1
      have hx := toO_1000 (fa := fT (yWs cl (q_Mo_s w) t) t) (a := 2) hA.lc
      have hx : xW cl (yWs cl (q_Mo_s w) t) t ≤ 990 := hx
      refine ⟨u_Mo_s (u_Mo_truths (u_Mo_by a B) T) (upd (q_Mo_s a) (58 + t) (nI (NN (yWs cl (q_Mo_s w) t (58 + t)) - xW cl (yWs cl (q_Mo_s w) t) t))), ?_, ?_, ?_, hF⟩
      · unfold B_Mo_year_L77
        rw [if_neg c2, if_pos c0, y1]
        simp only [Option.bind_some, c0, c1, if_true, ew, nI_1]
        rw [ha]
        by_cases q : xW cl (yWs cl (q_Mo_s w) t) t ≤ NN (yWs cl (q_Mo_s w) t (58 + t))
        · rw [pk_sub q, if_pos (nI_pos' (by omega)), ← ha]
        · have n0 := pk_sneg (a := NN (yWs cl (q_Mo_s w) t (58 + t))) (b := xW cl (yWs cl (q_Mo_s w) t) t) (by omega) (by omega)
          rw [if_neg (fun y => by
            rw [Int32.lt_iff_toInt_lt] at n0
            rw [Int32.le_iff_toInt_le] at y
            omega), show NN (yWs cl (q_Mo_s w) t (58 + t)) - xW cl (yWs cl (q_Mo_s w) t) t = 0 by omega, ← ha]
          rfl
      · rw [yWs_s, ← ha]
      · rw [yWs_s]
        exact ⟨_, RC_weight hA ht' (by omega)⟩)
    (by
      intro self a ⟨ha, _⟩
      have c2 : q_Mo_s a 1 ≤ nI (NN (q_Mo_s w 1)) := by rw [ha, (yWs_0 cl (q_Mo_s w) _).2, ← hR.1.2.1.1]; exact Int32.le_refl _
      unfold B_Mo_year_L77
      rw [if_pos c2])
    1000 0 w (Nat.zero_le _) (by omega) ⟨rfl, ⟨r, hR⟩, FrM.rf⟩
  exact ⟨w', h2, h1, h3⟩
end YM
theorem s_year : S_year Rl := by
  intro z w h
  obtain ⟨⟨cl, hR⟩, -⟩ := id h
  have hy := hR.1.2.2.2.2.2.2
  have ey := hR.1.2.2.2.2.2.1
  have e6 := hR.2.1.2.2.2.2.2
  unfold d_OL_year d_Mo_year
  generalize hY : NN (q_Mo_s w 6) = y at *
  have k1 : (q_Re_year (q_OL_now z) < 99) ↔ y < 99 := by rw [e6, ey]; exact nI_ltI (b := 99) (by omega) (by omega)
  have k2 : (q_Mo_s w 6 = 99) ↔ y = 99 := by rw [ey]; exact nI_eq (b := 99) (by omega) (by omega)
  by_cases q : y < 99
  · rw [if_pos (k1.mpr q), if_neg (fun a => by have := k2.mp a; omega)]
    unfold d_Re_pass
    rw [e6, ey, nI_1]
    have hR1 : RC (u_Re_year (q_OL_now z) (nI (y + 1))) (q_Mo_s (u_Mo_s w (upd (q_Mo_s w) 6 (nI (y + 1))))) cl := RC_year hR (by omega)
    obtain ⟨r2, a1, a2⟩ := Re_ages hR1 (fun z_12 => d_Re_pass_L56 1000 0 z_12)
    obtain ⟨r3, b1, b2⟩ := Re_wears a2
    rw [a1, b1, Mo_ages hR1]
    have hR2 : RC r2 (q_Mo_s (u_Mo_s (u_Mo_s w (upd (q_Mo_s w) 6 (nI (y + 1)))) (yAs (q_Mo_s (u_Mo_s w (upd (q_Mo_s w) 6 (nI (y + 1))))) (NN (q_Mo_s (u_Mo_s w (upd (q_Mo_s w) 6 (nI (y + 1)))) 0))))) cl := a2
    obtain ⟨w', m1, m2, m3⟩ := Mo_wears hR2
    have hfin : RC r3 (q_Mo_s w') cl := by rw [m2]; exact b2
    refine ⟨q_Mo_s w' 6, u_OL_now z r3, w', ?_, m1, Rl.set (cl := cl) h hfin rfl rfl rfl m3⟩
    show some (q_Re_year r3, u_OL_now z r3) = _
    rw [hfin.2.1.2.2.2.2.2]
  · rw [if_neg (fun a => q (k1.mp a)), if_pos (k2.mpr (by omega))]
    exact ⟨_, z, w, rfl, rfl, h⟩

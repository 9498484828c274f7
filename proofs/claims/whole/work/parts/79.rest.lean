/-! swap and rest as calls. -/
theorem s_swap : S_swap Rl := by
  intro z w x h
  obtain ⟨⟨cl, hR⟩, -⟩ := id h
  unfold d_OL_swap d_Mo_swap
  rw [within_in]
  rcases in_cases x 1 with h3 | ⟨h3, n0, n1⟩
  · rw [h3]
    exact ⟨_, z, w, rfl, rfl, h⟩
  rw [h3]
  have z9 : ¬ (1 : Int32) = 0 := by decide
  simp only [Option.bind_some, z9, if_false]
  obtain ⟨z1, F, w1, y1, y2, hT, hS, hw1, hM, hF⟩ := ask2 hR
  rw [y1, y2]
  simp only [Option.bind_some]
  rw [Mo_firstSwap hM hR.RG]
  have g1 : d_Sw_number (q_OL_standing (u_OL_now (u_OL_standing z z1) (u_Re_facts (q_OL_now z) F))) = _ := Sw_number hS hR.RG
  have g2 : d_Sw_first (q_OL_standing (u_OL_now (u_OL_standing z z1) (u_Re_facts (q_OL_now z) F))) = _ := Sw_first hS hR.RG
  have fin : ∀ c, Rl (u_OL_now (u_OL_standing z z1) (u_Re_facts (q_OL_now z) F)) (u_Mo_swaps w1 c) := fun c => by
    refine Rl.set (cl := cl) h ?_ rfl rfl rfl hF
    show RC _ (q_Mo_s w1) cl
    rw [hw1]
    exact hR
  by_cases q : x = 0
  · rw [if_pos q, g1]
    simp only [Option.bind_some]
    exact ⟨_, _, _, rfl, if_pos q, fin _⟩
  · rw [if_neg q, g2]
    simp only [Option.bind_some]
    exact ⟨_, _, _, rfl, if_neg q, fin _⟩
def swp (O : Nat → Nat) (q : Nat × Nat) : Nat → Nat := fun i => if i = q.2 then O q.1 else if i = q.1 then O q.2 else O i
def nRs (nt : Nat) (W : Nat → Nat) (K : Nat → Nat → Nat) (L : Nat → Nat) : Nat → (Nat → Nat) → Nat
  | 0, _ => 0
  | k + 1, O => match (swA nt (nSv nt W O K L)).1 with
    | none => 0
    | some q => nRs nt W K L k (swp O q) + 1
theorem RG_swp {np nt : Nat} {W O : Nat → Nat} {K : Nat → Nat → Nat} {L : Nat → Nat} (r : RG np nt W O K L) {q : Nat × Nat} (h1 : q.1 < nt) (h2 : q.2 < nt) : RG np nt W (swp O q) K L := by
  refine ⟨r.1, r.2.1, r.2.2.1, fun j hj => ?_, r.2.2.2.2⟩
  unfold swp
  split
  · exact r.2.2.2.1 _ h1
  · split
    · exact r.2.2.2.1 _ h2
    · exact r.2.2.2.1 _ hj
theorem pr5_d {t u : Nat} (ht : t < 7) (hu : u < 7) : pr5 (some (t, u)) / 10 = nI t ∧ pr5 (some (t, u)) - pr5 (some (t, u)) / 10 * 10 = nI u ∧ ¬ pr5 (some (t, u)) = -5 := by
  show nI (10 * t + u) / 10 = nI t ∧ nI (10 * t + u) - nI (10 * t + u) / 10 * 10 = nI u ∧ ¬ nI (10 * t + u) = -5
  refine ⟨?_, ?_, nI_neg_ne _ (by omega) _ (by decide)⟩
  · rw [show (10 : Int32) = nI 10 from rfl, pk_div (by omega) (by omega) (by omega), show (10 * t + u) / 10 = t by omega]
  · rw [show (10 : Int32) = nI 10 from rfl, pk_rem (by omega) (by omega) (by omega), show (10 * t + u) % 10 = u by omega]
section RE
variable {np nt : Nat} {W : Nat → Nat} {K : Nat → Nat → Nat} {L : Nat → Nat}
theorem Sw_until : ∀ (k m i : Nat) (z : T_St) (O : Nat → Nat), i + k = 21 → k < m → RG np nt W O K L → SW z np nt W O K L →
    ∃ z', d_Sw_untilNone_L2 m (nI i) z = some (if nRs nt W K L k O = k then (-5) else nI (i + nRs nt W K L k O), z')
  | k, 0, _, _, _, _, hm, _, _ => by omega
  | 0, m + 1, i, z, O, hi, hm, r, h => by
    have hB : d_Sw_untilNone_L2 (m + 1) (nI i) z = B_Sw_untilNone_L2 (d_Sw_untilNone_L2 m) (nI i) z := rfl
    have e : (20 : Int32) < nI i := nI_lt (a := 20) (by omega) (by omega)
    rw [hB]
    unfold B_Sw_untilNone_L2
    rw [if_pos e]
    exact ⟨z, rfl⟩
  | k + 1, m + 1, i, z, O, hi, hm, r, h => by
    have hB : d_Sw_untilNone_L2 (m + 1) (nI i) z = B_Sw_untilNone_L2 (d_Sw_untilNone_L2 m) (nI i) z := rfl
    have e : ¬ (20 : Int32) < nI i := nI_nlt (a := 20) (by omega) (by omega)
    have h7 := r.2.1
    rw [hB]
    unfold B_Sw_untilNone_L2
    rw [if_neg e, Sw_first h r]
    simp only [Option.bind_some]
    unfold nRs
    cases hq : (swA nt (nSv nt W O K L)).1 with
    | none => exact ⟨z, rfl⟩
    | some q =>
      obtain ⟨t, u⟩ := q
      obtain ⟨o1, o2, o3⟩ := sw_ok nt (nSv nt W O K L) (t, u) hq
      simp only at o1 o2
      obtain ⟨d1, d2, d3⟩ := pr5_d (t := t) (u := u) (by omega) (by omega)
      have i1 : inb (nI t) 7 = true := inb_n (by omega) (by omega)
      have i2 : inb (nI u) 7 = true := inb_n (by omega) (by omega)
      have c1 : (nI t).toNatClampNeg = t := nI_clamp (by omega)
      have c2 : (nI u).toNatClampNeg = u := nI_clamp (by omega)
      have hX : ∀ j, j < nt → upd (upd (q_St_owner z) t (q_St_owner z u)) u (q_St_owner z t) j = oC (swp O (t, u) j) := fun j hj => by
        unfold swp upd
        by_cases a : j = u
        · rw [if_pos a, if_pos a]; exact h.2.2.2.1 t (by omega)
        · rw [if_neg a, if_neg a]
          by_cases b : j = t
          · rw [if_pos b, if_pos b]; exact h.2.2.2.1 u o2
          · rw [if_neg b, if_neg b]; exact h.2.2.2.1 j hj
      obtain ⟨z', g⟩ := Sw_until k m (i + 1) (u_St_owner z (upd (upd (q_St_owner z) t (q_St_owner z u)) u (q_St_owner z t))) (swp O (t, u)) (by omega) (by omega) (RG_swp r (by show t < nt; omega) o2) (h.upd' hX)
      refine ⟨z', ?_⟩
      rw [if_neg d3, d2, d1, if_pos i1, if_pos i2, if_pos i1, if_pos i2, c1, c2, nI_1]
      show d_Sw_untilNone_L2 m (nI (i + 1)) (u_St_owner z (upd (upd (q_St_owner z) t (q_St_owner z u)) u (q_St_owner z t))) = some (if nRs nt W K L k (swp O (t, u)) + 1 = k + 1 then (-5) else nI (i + (nRs nt W K L k (swp O (t, u)) + 1)), z')
      rw [g, show i + 1 + nRs nt W K L k (swp O (t, u)) = i + (nRs nt W K L k (swp O (t, u)) + 1) by omega]
      by_cases y : nRs nt W K L k (swp O (t, u)) = k
      · rw [if_pos y, if_pos (by omega)]
      · rw [if_neg y, if_neg (by omega)]
theorem nRs_le : ∀ (k : Nat) (O : Nat → Nat), nRs nt W K L k O ≤ k
  | 0, _ => Nat.le_refl _
  | k + 1, O => by
    unfold nRs
    split
    · omega
    · have := nRs_le k (swp O (by assumption))
      omega
theorem Mo_restL (kk : Int32 → T_Mo → Option (Int32 × T_Mo)) : ∀ (k m i : Nat) (w : T_Mo) (O : Nat → Nat), i + k = 21 → k < m → RG np nt W O K L → MW w np nt W O K L →
    ∃ w', d_Mo_rest_L15 kk m (nI i) (pr5 (swA nt (nSv nt W O K L)).1) w = kk (nI (i + nRs nt W K L k O)) w' ∧ q_Mo_owners w' = q_Mo_owners w ∧ (∀ j, (j < 65 ∨ 72 ≤ j) → q_Mo_s w' j = q_Mo_s w j) ∧ FrM w w'
  | k, 0, _, _, _, _, hm, _, _ => by omega
  | 0, m + 1, i, w, O, hi, hm, r, h => by
    have hB : d_Mo_rest_L15 kk (m + 1) (nI i) (pr5 (swA nt (nSv nt W O K L)).1) w = B_Mo_rest_L15 kk (d_Mo_rest_L15 kk m) (nI i) (pr5 (swA nt (nSv nt W O K L)).1) w := rfl
    have e : (21 : Int32) ≤ nI i := nI_le (a := 21) (by omega) (by omega)
    rw [hB]
    unfold B_Mo_rest_L15
    refine ⟨w, ?_, rfl, fun _ _ => rfl, FrM.rf⟩
    by_cases q : pr5 (swA nt (nSv nt W O K L)).1 = -5
    · rw [if_pos q]; rfl
    · rw [if_neg q, if_pos e]; rfl
  | k + 1, m + 1, i, w, O, hi, hm, r, h => by
    have hB : d_Mo_rest_L15 kk (m + 1) (nI i) (pr5 (swA nt (nSv nt W O K L)).1) w = B_Mo_rest_L15 kk (d_Mo_rest_L15 kk m) (nI i) (pr5 (swA nt (nSv nt W O K L)).1) w := rfl
    have e : ¬ (21 : Int32) ≤ nI i := nI_ge (b := 21) (by omega) (by omega)
    have h7 := r.2.1
    rw [hB]
    unfold B_Mo_rest_L15 nRs
    cases hq : (swA nt (nSv nt W O K L)).1 with
    | none => exact ⟨w, rfl, rfl, fun _ _ => rfl, FrM.rf⟩
    | some q =>
      obtain ⟨t, u⟩ := q
      obtain ⟨o1, o2, o3⟩ := sw_ok nt (nSv nt W O K L) (t, u) hq
      simp only at o1 o2
      obtain ⟨d1, d2, d3⟩ := pr5_d (t := t) (u := u) (by omega) (by omega)
      have i1 : inb (65 + nI t) 901 = true := in9 65 (by omega)
      have i2 : inb (65 + nI u) 901 = true := in9 65 (by omega)
      have c1 : (65 + nI t).toNatClampNeg = 65 + t := cl9 65 (by omega)
      have c2 : (65 + nI u).toNatClampNeg = 65 + u := cl9 65 (by omega)
      have hT : MT (upd (upd (q_Mo_s w) (65 + t) (q_Mo_s w (65 + u))) (65 + u) (q_Mo_s w (65 + t))) nt W (swp O (t, u)) := by
        refine ⟨(pk_un (by omega)).trans ((pk_un (by omega)).trans h.2.1.1), fun j hj => (pk_un (by omega)).trans ((pk_un (by omega)).trans (h.2.1.2.1 j hj)), fun j hj => ?_⟩
        unfold swp upd
        by_cases a : j = u
        · rw [if_pos (by omega), if_pos a]; exact h.2.1.2.2 t (by omega)
        · rw [if_neg (by omega), if_neg a]
          by_cases b : j = t
          · rw [if_pos (by omega), if_pos b]; exact h.2.1.2.2 u o2
          · rw [if_neg (by omega), if_neg b]; exact h.2.1.2.2 j hj
      have hs : ∀ j, (j < 65 ∨ 72 ≤ j) → upd (upd (q_Mo_s w) (65 + t) (q_Mo_s w (65 + u))) (65 + u) (q_Mo_s w (65 + t)) j = q_Mo_s w j := fun j hj => by rw [pk_un (by omega), pk_un (by omega)]
      have hM := h.upd' hT hs
      have hRG := RG_swp r (q := (t, u)) (by show t < nt; omega) o2
      have hf := Mo_firstSwap hM hRG
      have hM2 : MW (u_Mo_swaps (u_Mo_s w (upd (upd (q_Mo_s w) (65 + t) (q_Mo_s w (65 + u))) (65 + u) (q_Mo_s w (65 + t)))) (nI (swA nt (nSv nt W (swp O (t, u)) K L)).2)) np nt W (swp O (t, u)) K L := ⟨hM.1, hM.2.1, hM.2.2.1, hM.2.2.2⟩
      obtain ⟨w', g1, g2, g3, g4⟩ := Mo_restL kk k m (i + 1) _ (swp O (t, u)) (by omega) (by omega) hRG hM2
      refine ⟨w', ?_, g2, fun j hj => (g3 j hj).trans (hs j hj), g4⟩
      rw [if_neg d3, if_neg e, d2, d1, if_pos i1, if_pos i2, if_pos i1, if_pos i2, c1, c2]
      have hf : d_Mo_firstSwap (u_Mo_s (u_Mo_s w (upd (q_Mo_s w) (65 + t) (q_Mo_s w (65 + u)))) (upd (q_Mo_s (u_Mo_s w (upd (q_Mo_s w) (65 + t) (q_Mo_s w (65 + u))))) (65 + u) (q_Mo_s w (65 + t)))) = _ := hf
      rw [hf, Option.bind_some, nI_1, g1]
      show kk (nI (i + 1 + nRs nt W K L k (swp O (t, u)))) w' = kk (nI (i + (nRs nt W K L k (swp O (t, u)) + 1))) w'
      rw [show i + 1 + nRs nt W K L k (swp O (t, u)) = i + (nRs nt W K L k (swp O (t, u)) + 1) by omega]
end RE
/-- REST by the row -/
def xRe (cl : CL) (s : Nat → Int32) : Int32 := if nRs (NN (s 1)) (xWt s) (xK cl s) (xL cl s) 21 (xOw s) = 21 then (-5) else nI (nRs (NN (s 1)) (xWt s) (xK cl s) (xL cl s) 21 (xOw s))
theorem OL_rest {z : T_OL} {w : T_Mo} {cl : CL} (hR : RC (q_OL_now z) (q_Mo_s w) cl) : ∃ z1 F, d_OL_rest z = some (xRe cl (q_Mo_s w), u_OL_standing (u_OL_now z (u_Re_facts (q_OL_now z) F)) z1) := by
  obtain ⟨z1, F, w1, y1, -, hT, hS, -⟩ := ask2 hR
  obtain ⟨z', g⟩ := Sw_until 21 1000 0 z1 (xOw (q_Mo_s w)) rfl (by omega) hR.RG hS
  rw [Nat.zero_add] at g
  have g : d_Sw_untilNone z1 = some (xRe cl (q_Mo_s w), z') := g
  refine ⟨z', F, ?_⟩
  unfold d_OL_rest
  rw [y1, Option.bind_some]
  show (d_Sw_untilNone z1).bind _ = _
  rw [g]
  rfl
theorem Mo_rest2 {r : T_Re} {s : Nat → Int32} {w1 : T_Mo} {cl : CL} (hR : RC r s cl) (hM : MW w1 (NN (s 0)) (NN (s 1)) (xWt s) (xOw s) (xK cl s) (xL cl s)) (kk : Int32 → T_Mo → Option (Int32 × T_Mo)) :
    ∃ w', d_Mo_rest_L15 kk 1000 0 (pr5 (swA (NN (s 1)) (nSv (NN (s 1)) (xWt s) (xOw s) (xK cl s) (xL cl s))).1) w1 = kk (nI (nRs (NN (s 1)) (xWt s) (xK cl s) (xL cl s) 21 (xOw s))) w' ∧ q_Mo_owners w' = q_Mo_owners w1 ∧ (∀ j, (j < 65 ∨ 72 ≤ j) → q_Mo_s w' j = q_Mo_s w1 j) ∧ FrM w1 w' := by
  obtain ⟨w', g1, g2⟩ := Mo_restL kk 21 1000 0 w1 (xOw s) rfl (by omega) hR.RG hM
  rw [Nat.zero_add] at g1
  exact ⟨w', g1, g2⟩
theorem Mo_rest {r : T_Re} {w : T_Mo} {cl : CL} (hR : RC r (q_Mo_s w) cl) : ∃ w', d_Mo_rest w = some (xRe cl (q_Mo_s w), w') ∧ q_Mo_s w' = q_Mo_s w ∧ FrM w w' := by
  obtain ⟨w1, y2, y4, hF⟩ := Mo_looksForAll hR.lc hR.rg
  have hw1 := y4.1
  have hM := LkO_MW hR.rg y4
  obtain ⟨Q, q1, q2⟩ := Mo_keeps w1
  rw [hw1] at q2
  have hM1 := Mo_looked1 (Q := Q) hR hw1 hM
  have hf := Mo_firstSwap hM1 hR.RG
  generalize hc : nI (swA (NN (q_Mo_s w 1)) (nSv (NN (q_Mo_s w 1)) (xWt (q_Mo_s w)) (xOw (q_Mo_s w)) (xK cl (q_Mo_s w)) (xL cl (q_Mo_s w)))).2 = c at hf
  have hM2 : MW (u_Mo_swaps (u_Mo_owners w1 Q) c) (NN (q_Mo_s w 0)) (NN (q_Mo_s w 1)) (xWt (q_Mo_s w)) (xOw (q_Mo_s w)) (xK cl (q_Mo_s w)) (xL cl (q_Mo_s w)) := ⟨hM1.1, hM1.2.1, hM1.2.2.1, hM1.2.2.2⟩
  obtain ⟨w2, g1, g2, g3, g4⟩ := Mo_rest2 hR hM2 (fun x1_15 z_15 => (d_Mo_goesBack z_15).bind fun v_15 => if x1_15 ≤ 20 then (some (x1_15, v_15)) else (some ((-5), v_15)))
  obtain ⟨S2, b1, b2, b3⟩ := Mo_goesBack w2
  have hS2 : S2 = q_Mo_s w := back_eq q2 (fun t ht => by rw [b2 t ht, g2]) (fun i hi => by
    rw [b3 i hi, g3 i hi]
    show q_Mo_s w1 i = _
    rw [hw1])
  have hn := nRs_le (nt := NN (q_Mo_s w 1)) (W := xWt (q_Mo_s w)) (K := xK cl (q_Mo_s w)) (L := xL cl (q_Mo_s w)) 21 (xOw (q_Mo_s w))
  refine ⟨u_Mo_s w2 S2, ?_, hS2, ?_⟩
  · unfold d_Mo_rest
    rw [y2, Option.bind_some, q1, Option.bind_some, hf, Option.bind_some, g1, b1, Option.bind_some]
    unfold xRe
    generalize nRs (NN (q_Mo_s w 1)) (xWt (q_Mo_s w)) (xK cl (q_Mo_s w)) (xL cl (q_Mo_s w)) 21 (xOw (q_Mo_s w)) = n at *
    have k : (nI n ≤ 20) ↔ n ≤ 20 := nI_leI (b := 20) (by omega) (by omega)
    by_cases q : n ≤ 20
    · rw [if_pos (k.mpr q), if_neg (by omega)]
    · rw [if_neg (fun y => q (k.mp y)), if_pos (by omega)]
  · refine hF.tr ⟨?_, ?_, ?_, ?_⟩
    · exact g4.1
    · exact g4.2.1
    · exact g4.2.2.1
    · exact g4.2.2.2
theorem s_rest : S_rest Rl := by
  intro z w h
  obtain ⟨⟨cl, hR⟩, -⟩ := id h
  obtain ⟨z1, F, g1⟩ := OL_rest hR
  obtain ⟨w', m1, m2, m3⟩ := Mo_rest hR
  refine ⟨_, _, w', g1, m1, Rl.set (cl := cl) h ?_ rfl rfl rfl m3⟩
  rw [m2]
  exact hR

/-! best, most, moved. -/
theorem iI_neg (x : Int) : -(iI x) = iI (-x) := by
  apply Int32.toInt_inj.1
  unfold iI
  rw [Int32.toInt_neg, Int32.toInt_ofInt, Int32.toInt_ofInt]
  simp
theorem eW_some {np nt : Nat} {W cap : Nat → Nat} {wo : Nat → Nat → Int} (hn : ∀ t, t < nt → ¬ wo t np = NV) (hW50 : ∀ t, t < nt → W t ≤ 50) (hc : cap np = 350) (h7 : nt ≤ 7) : ∀ (k t : Nat) (r : Int) (u y : Nat → Nat) (b : WB), t + k = nt → u np ≤ 50 * t → ∃ q, eW np W cap wo k t r u y b = some q
  | 0, t, r, u, y, b, ht, hu => by
    show ∃ q, upB b r y = some q
    cases b with
    | none => exact ⟨_, rfl⟩
    | some q =>
      show ∃ q', (if q.1 < r then some (r, y) else some q) = some q'
      split
      · exact ⟨_, rfl⟩
      · exact ⟨_, rfl⟩
  | k + 1, t, r, u, y, b, ht, hu => by
    have wt := hW50 t (by omega)
    rw [eW_succ]
    unfold fE
    rw [if_pos ⟨hn t (by omega), by omega⟩]
    refine eW_some hn hW50 hc h7 k (t + 1) _ _ _ _ (by omega) ?_
    unfold upn
    rw [if_pos rfl]
    omega
def bK (np nt : Nat) (W : Nat → Nat) (K : Nat → Nat → Nat) (L : Nat → Nat) (b : WB) : WB := eW np W (cpL np L) (woK np K) nt 0 0 (fun _ => 0) (fun _ => 0) b
def bN (np nt : Nat) (W : Nat → Nat) (L : Nat → Nat) (b : WB) : WB := eW np W (cpL np L) (woN np) nt 0 0 (fun _ => 0) (fun _ => 0) b
def bS (np nt : Nat) (W O : Nat → Nat) (L : Nat → Nat) : WB := eW np W (cpL np L) (woS np O) nt 0 0 (fun _ => 0) (fun _ => 0) none
section BE
variable {np nt : Nat} {W O L : Nat → Nat} {K : Nat → Nat → Nat}
theorem cp_le (hL : ∀ p, p < np → L p ≤ 2900) : ∀ p, p ≤ np → cpL np L p ≤ 3000 := fun p _ => by
  unfold cpL
  split
  · have := hL p (by assumption)
    omega
  · omega
theorem Sh_best {z1 : T_St} (h : SW z1 np nt W O K L) (h4 : np ≤ 4) (h7 : nt ≤ 7) (hW50 : ∀ t, t < nt → W t ≤ 50) (hK : ∀ p t, p < np → t < nt → 1 ≤ K p t ∧ K p t ≤ 1000) (hL : ∀ p, p < np → L p ≤ 2900) (z : T_Sh) :
    ∃ s1 s2 q, d_Sh_byLike z z1 = some s1 ∧ d_Sh_solve s1 = some s2 ∧ bK np nt W K L none = some q ∧ q_Sh_sum s2 = iI q.1 ∧ ∀ t, t < nt → q_Sh_owner s2 t = wC np (q.2 t) := by
  obtain ⟨s1, g1, g2⟩ := Sh_byLikeL h h4 h7 z
  obtain ⟨s2, g3, g4⟩ := Sh_solveL h4 h7 (woK_O hK) hW50 (cp_le hL) g2 (fun _ => 0)
  obtain ⟨q, hq⟩ := eW_some (np := np) (nt := nt) (W := W) (cap := cpL np L) (wo := woK np K) (fun t _ => by unfold woK; rw [if_neg (by omega)]; unfold NV; omega) hW50 (if_neg (by omega)) h7 nt 0 0 (fun _ => 0) (fun _ => 0) none (by omega) (by omega)
  rw [hq] at g4
  exact ⟨s1, s2, q, g1, g3, hq, g4.2.1, g4.2.2⟩
theorem Sh_most {z1 : T_St} (h : SW z1 np nt W O K L) (h4 : np ≤ 4) (h7 : nt ≤ 7) (hW50 : ∀ t, t < nt → W t ≤ 50) (hL : ∀ p, p < np → L p ≤ 2900) (z : T_Sh) :
    ∃ s1 s2 q, d_Sh_byNumber z z1 = some s1 ∧ d_Sh_solve s1 = some s2 ∧ bN np nt W L none = some q ∧ q_Sh_sum s2 = iI q.1 := by
  obtain ⟨s1, g1, g2⟩ := Sh_byNumberL h h4 h7 z
  obtain ⟨s2, g3, g4⟩ := Sh_solveL h4 h7 woN_O hW50 (cp_le hL) g2 (fun _ => 0)
  obtain ⟨q, hq⟩ := eW_some (np := np) (nt := nt) (W := W) (cap := cpL np L) (wo := woN np) (fun t _ => by unfold woN; rw [if_neg (by omega)]; unfold NV; omega) hW50 (if_neg (by omega)) h7 nt 0 0 (fun _ => 0) (fun _ => 0) none (by omega) (by omega)
  rw [hq] at g4
  exact ⟨s1, s2, q, g1, g3, hq, g4.2.1⟩
theorem Sh_moved {z1 : T_St} (h : SW z1 np nt W O K L) (hO : ∀ t, t < nt → O t < np ∨ O t = 4) (h4 : np ≤ 4) (h7 : nt ≤ 7) (hW50 : ∀ t, t < nt → W t ≤ 50) (hL : ∀ p, p < np → L p ≤ 2900) (z : T_Sh) :
    ∃ s1 s2, d_Sh_byStaying z z1 = some s1 ∧ d_Sh_solve s1 = some s2 ∧ ShB np nt (bS np nt W O L) s2 := by
  obtain ⟨s1, g1, g2⟩ := Sh_byStayingL h hO h4 h7 z
  obtain ⟨s2, g3, g4⟩ := Sh_solveL h4 h7 woS_O hW50 (cp_le hL) g2 (fun _ => 0)
  exact ⟨s1, s2, g1, g3, g4⟩
theorem orNobody_wM {x : Nat} (h4 : np ≤ 4) : d_Mo_orNobody (wM np x) = some (wC np x) := by
  unfold d_Mo_orNobody wM wC
  by_cases h : x < np
  · have n4 : ¬ nI x = 4 := fun y => absurd ((nI_eq (a := x) (b := 4) (by omega) (by omega)).mp y) (by omega)
    rw [if_pos h, if_pos h, if_neg n4]
  · rw [if_neg h, if_neg h, if_pos rfl]
end BE
section AW
variable {z : T_OL} {w : T_Mo} {cl : CL}
/-- how both begin -/
theorem askW (hR : RC (q_OL_now z) (q_Mo_s w) cl) : ∃ z1 F w2, d_St_take (q_OL_standing z) (q_OL_now z) = some (z1, u_Re_facts (q_OL_now z) F) ∧ d_Mo_begins w = some w2 ∧
    SW z1 (NN (q_Mo_s w 0)) (NN (q_Mo_s w 1)) (xWt (q_Mo_s w)) (xOw (q_Mo_s w)) (xK cl (q_Mo_s w)) (xL cl (q_Mo_s w)) ∧ q_Mo_s w2 = q_Mo_s w ∧ MW w2 (NN (q_Mo_s w 0)) (NN (q_Mo_s w 1)) (xWt (q_Mo_s w)) (xOw (q_Mo_s w)) (xK cl (q_Mo_s w)) (xL cl (q_Mo_s w)) ∧ FrM w w2 ∧
    q_Mo_bestLike w2 = -1 ∧ q_Mo_mostOwned w2 = 0 ∧ q_Mo_fewest w2 = -5 ∧ ∀ p, p < 5 → q_Mo_loads w2 p = nI 0 := by
  obtain ⟨z1, F, w1, y1, y2, hT, hS, hw1, hM, hF⟩ := ask2 hR
  obtain ⟨w2, k1, k2, k3, k4, k5, k6⟩ := Mo_beginsL (w := w1)
  refine ⟨z1, F, w2, y1, ?_, hS, k2.1.trans hw1, MW_FrW hM k2, hF.tr k2.2.2.2, k3, k4, k5, k6⟩
  unfold d_Mo_begins
  rw [y2]
  exact k1
theorem Mo_ways2 {w2 : T_Mo} {np nt : Nat} {W O L : Nat → Nat} {K : Nat → Nat → Nat} (r : RG np nt W O K L) (hM : MW w2 np nt W O K L) (h1 : q_Mo_bestLike w2 = -1) (h2 : q_Mo_mostOwned w2 = 0) (h3 : ∀ p, p < 5 → q_Mo_loads w2 p = nI 0) :
    ∃ w3, d_Mo_waysFrom 64 0 0 0 w2 = some w3 ∧ FrW w2 w3 ∧ MwB np nt (bK np nt W K L none) (bN np nt W L none) w3 ∧ ∀ p, p < np → q_Mo_loads w3 p = nI 0 := by
  have h4 := r.1
  have h7 := r.2.1
  obtain ⟨w3, g1, g2, g3, g4⟩ := Mo_waysL h4 h7 hM r.2.2.2.2.1 r.2.2.1 (fun p hp => by have := r.2.2.2.2.2 p hp; omega) nt 64 0 0 0 (fun _ => 0) (fun _ => 0) none none w2 (by omega) (by omega) (by omega) (by omega) (by omega) (by omega) (by omega) (fun q hq => by cases hq) (fun q hq => by cases hq) ⟨rfl, rfl, rfl, FrM.rf⟩ ⟨h1, h2⟩ ⟨fun p hp => ⟨h3 p (by omega), Nat.zero_le _⟩, fun j hj => by omega⟩
  exact ⟨w3, g1, g2, g3, fun p hp => (g4.1 p hp).1⟩
end AW
theorem s_most : S_most Rl := by
  intro z w h
  obtain ⟨⟨cl, hR⟩, -⟩ := id h
  have r := hR.RG
  have hL : ∀ p, p < NN (q_Mo_s w 0) → xL cl (q_Mo_s w) p ≤ 2900 := fun p hp => by have := r.2.2.2.2.2 p hp; omega
  obtain ⟨z1, F, w2, y1, y2, hS, hw, hM, hF, b1, b2, b3, b4⟩ := askW hR
  obtain ⟨s1, s2, q, g1, g2, g3, g4⟩ := Sh_most hS r.1 r.2.1 r.2.2.1 hL (q_OL_shares z)
  obtain ⟨w3, k1, k2, k3, k4⟩ := Mo_ways2 r hM b1 b2 b4
  rw [g3] at k3
  refine ⟨iI q.1, u_OL_shares (u_OL_shares (u_OL_now (u_OL_standing z z1) (u_Re_facts (q_OL_now z) F)) s1) s2, w3, ?_, ?_, ?_⟩
  · unfold d_OL_most
    rw [y1, Option.bind_some]
    refine Eq.trans (congrArg (fun o => Option.bind o _) g1) ?_
    rw [Option.bind_some]
    refine Eq.trans (congrArg (fun o => Option.bind o _) g2) ?_
    rw [Option.bind_some]
    show some (q_Sh_sum s2, _) = _
    rw [g4]
  · unfold d_Mo_most
    rw [y2, Option.bind_some, k1, Option.bind_some, k3.2]
    rfl
  · refine Rl.set (cl := cl) h ?_ rfl rfl rfl (hF.tr k2.2.2.2)
    rw [k2.1, hw]
    exact hR
theorem s_moved : S_moved Rl := by
  intro z w h
  obtain ⟨⟨cl, hR⟩, -⟩ := id h
  have r := hR.RG
  have hL : ∀ p, p < NN (q_Mo_s w 0) → xL cl (q_Mo_s w) p ≤ 2900 := fun p hp => by have := r.2.2.2.2.2 p hp; omega
  obtain ⟨z1, F, w2, y1, y2, hS, hw, hM, hF, b1, b2, b3, b4⟩ := askW hR
  obtain ⟨s1, s2, g1, g2, g3⟩ := Sh_moved hS r.2.2.2.1 r.1 r.2.1 r.2.2.1 hL (q_OL_shares z)
  obtain ⟨w3, k1, k2, k3, -⟩ := Mo_movesL r.1 r.2.1 hM r.2.2.2.1 r.2.2.1 hL (NN (q_Mo_s w 1)) 64 0 0 (fun _ => 0) (fun _ => 0) none w2 (by omega) (by have := r.2.1; omega) (by omega) (by omega) (by omega) (fun q hq => by cases hq) ⟨rfl, rfl, rfl, FrM.rf⟩ b3 (fun p hp => ⟨b4 p (by have := r.1; omega), Nat.zero_le _⟩)
  have k1 : d_Mo_movesFrom 64 0 0 w2 = some w3 := k1
  have k3 : MvB (bS (NN (q_Mo_s w 0)) (NN (q_Mo_s w 1)) (xWt (q_Mo_s w)) (xOw (q_Mo_s w)) (xL cl (q_Mo_s w))) w3 := k3
  refine ⟨q_Mo_fewest w3, u_OL_shares (u_OL_shares (u_OL_now (u_OL_standing z z1) (u_Re_facts (q_OL_now z) F)) s1) s2, w3, ?_, ?_, ?_⟩
  · unfold d_OL_moved
    rw [y1, Option.bind_some]
    refine Eq.trans (congrArg (fun o => Option.bind o _) g1) ?_
    rw [Option.bind_some]
    refine Eq.trans (congrArg (fun o => Option.bind o _) g2) ?_
    rw [Option.bind_some]
    show (if q_Sh_found s2 = 0 then some ((-5), _) else some (-(q_Sh_sum s2), _)) = _
    generalize bS (NN (q_Mo_s w 0)) (NN (q_Mo_s w 1)) (xWt (q_Mo_s w)) (xOw (q_Mo_s w)) (xL cl (q_Mo_s w)) = b at *
    cases b with
    | none =>
      have e1 : q_Sh_found s2 = 0 := g3
      have e2 : q_Mo_fewest w3 = -5 := k3
      rw [if_pos e1, e2]
    | some q =>
      have e1 : ¬ q_Sh_found s2 = 0 := by rw [g3.1]; decide
      have e2 : q_Mo_fewest w3 = iI (-q.1) := k3
      rw [if_neg e1, e2, g3.2.1, iI_neg]
  · unfold d_Mo_moved
    rw [y2, Option.bind_some, k1, Option.bind_some]
  · refine Rl.set (cl := cl) h ?_ rfl rfl rfl (hF.tr k2.2.2.2)
    rw [k2.1, hw]
    exact hR
theorem s_best : S_best Rl := by
  intro z w x h
  obtain ⟨⟨cl, hR⟩, -⟩ := id h
  have r := hR.RG
  have hL : ∀ p, p < NN (q_Mo_s w 0) → xL cl (q_Mo_s w) p ≤ 2900 := fun p hp => by have := r.2.2.2.2.2 p hp; omega
  obtain ⟨z1, F, w2, y1, y2, hS, hw, hM, hF, b1, b2, b3, b4⟩ := askW hR
  obtain ⟨s1, s2, q, g1, g2, g3, g4, g5⟩ := Sh_best hS r.1 r.2.1 r.2.2.1 r.2.2.2.2.1 hL (q_OL_shares z)
  obtain ⟨w3, k1, k2, k3, k4⟩ := Mo_ways2 r hM b1 b2 b4
  rw [g3] at k3
  have fin : Rl (u_OL_shares (u_OL_shares (u_OL_now (u_OL_standing z z1) (u_Re_facts (q_OL_now z) F)) s1) s2) w3 := by
    refine Rl.set (cl := cl) h ?_ rfl rfl rfl (hF.tr k2.2.2.2)
    rw [k2.1, hw]
    exact hR
  unfold d_OL_best d_Mo_best
  by_cases c : x = -1
  · refine ⟨iI q.1, u_OL_shares (u_OL_shares (u_OL_now (u_OL_standing z z1) (u_Re_facts (q_OL_now z) F)) s1) s2, w3, ?_, ?_, fin⟩
    · rw [if_pos c, y1, Option.bind_some]
      refine Eq.trans (congrArg (fun o => Option.bind o _) g1) ?_
      rw [Option.bind_some]
      refine Eq.trans (congrArg (fun o => Option.bind o _) g2) ?_
      rw [Option.bind_some, if_pos c]
      show some (q_Sh_sum s2, _) = _
      rw [g4]
    · rw [if_pos c, y2, Option.bind_some, k1, Option.bind_some, if_pos c, k3.1.1]
  · rw [if_neg c, if_neg c]
    rcases thi_cases (t := q_Re_things (q_OL_now z)) (w := w) hR.2.1.2.1 hR.1.2.1 x with ⟨h1, h2⟩ | ⟨t, ht, rfl, h1, h2⟩
    · rw [h1, h2]
      exact ⟨_, z, w, rfl, rfl, h⟩
    have z9 : ¬ (1 : Int32) = 0 := by decide
    have h7 := r.2.1
    have c0 : inb (nI t) 7 = true := inb_n (by omega) (by omega)
    have c1 : (nI t).toNatClampNeg = t := nI_clamp (by omega)
    rw [h1, h2, Option.bind_some, Option.bind_some, if_neg z9, if_neg z9]
    refine ⟨wC (NN (q_Mo_s w 0)) (q.2 t), u_OL_shares (u_OL_shares (u_OL_now (u_OL_standing z z1) (u_Re_facts (q_OL_now z) F)) s1) s2, w3, ?_, ?_, fin⟩
    · rw [y1, Option.bind_some]
      refine Eq.trans (congrArg (fun o => Option.bind o _) g1) ?_
      rw [Option.bind_some]
      refine Eq.trans (congrArg (fun o => Option.bind o _) g2) ?_
      rw [Option.bind_some, if_neg c, if_pos c0, c1]
      show some (q_Sh_owner s2 t, _) = _
      rw [g5 t ht]
    · rw [y2, Option.bind_some, k1, Option.bind_some, if_neg c, if_pos c0, c1, k3.1.2 t ht, orNobody_wM r.1, Option.bind_some]

theorem Mo_looked1 {r : T_Re} {s : Nat → Int32} {w1 : T_Mo} {cl : CL} {Q : Nat → Int32} (hR : RC r s cl) (hw1 : q_Mo_s w1 = s) (hM : MW w1 (NN (s 0)) (NN (s 1)) (xWt s) (xOw s) (xK cl s) (xL cl s)) : MW (u_Mo_owners w1 Q) (NN (s 0)) (NN (s 1)) (xWt s) (xOw s) (xK cl s) (xL cl s) := ⟨hM.1, hM.2.1, hM.2.2.1, hM.2.2.2⟩
set_option maxHeartbeats 20000 in
theorem Mo_looked2 {r : T_Re} {s : Nat → Int32} {w1 : T_Mo} {cl : CL} {Q : Nat → Int32} (hR : RC r s cl) (hw1 : q_Mo_s w1 = s) (hM : MW w1 (NN (s 0)) (NN (s 1)) (xWt s) (xOw s) (xK cl s) (xL cl s)) : ∃ S, d_Mo_looked_L13 1000 (-5) 0 (u_Mo_owners w1 Q) = ((d_Mo_goesBack (u_Mo_s (u_Mo_owners w1 Q) S)).bind fun v => some (lk5 (xLk cl s (NN (s 3)) 0 (xOw s)), v)) ∧ ∀ j, (j < 65 ∨ 72 ≤ j) → S j = s j := by
  have w12 := hR.1.2.2.2.1.2
  exact Mo_lookedL hR (NN (s 3)) 1000 0 (u_Mo_owners w1 Q) (xOw s) (by omega) (by omega) hR.RG (Mo_looked1 hR hw1 hM) (fun j _ => by show q_Mo_s w1 j = _; rw [hw1])
set_option maxHeartbeats 20000 in
theorem Mo_looked3 {s S : Nat → Int32} {w1 : T_Mo} {Q : Nat → Int32} (q2 : ∀ t, t < 7 → Q t = s (65 + t)) (m2 : ∀ j, (j < 65 ∨ 72 ≤ j) → S j = s j) : ∃ S2, d_Mo_goesBack (u_Mo_s (u_Mo_owners w1 Q) S) = some (u_Mo_s (u_Mo_s (u_Mo_owners w1 Q) S) S2) ∧ S2 = s := by
  obtain ⟨S2, b1, b2, b3⟩ := Mo_goesBack (u_Mo_s (u_Mo_owners w1 Q) S)
  exact ⟨S2, b1, back_eq q2 b2 (fun i hi => (b3 i hi).trans (m2 i hi))⟩
set_option maxHeartbeats 20000 in
theorem Mo_looked {r : T_Re} {w : T_Mo} {cl : CL} (hR : RC r (q_Mo_s w) cl) : ∃ w', d_Mo_looked w = some (lk5 (xLk cl (q_Mo_s w) (NN (q_Mo_s w 3)) 0 (xOw (q_Mo_s w))), w') ∧ q_Mo_s w' = q_Mo_s w ∧ FrM w w' := by
  obtain ⟨w1, y2, y4, hF⟩ := Mo_looksForAll hR.lc hR.rg
  have hw1 := y4.1
  have hM := LkO_MW hR.rg y4
  obtain ⟨Q, q1, q2⟩ := Mo_keeps w1
  rw [hw1] at q2
  obtain ⟨S, m1, m2⟩ := Mo_looked2 (Q := Q) hR hw1 hM
  obtain ⟨S2, b1, b2⟩ := Mo_looked3 (w1 := w1) q2 m2
  rw [b1] at m1
  generalize lk5 (xLk cl (q_Mo_s w) (NN (q_Mo_s w 3)) 0 (xOw (q_Mo_s w))) = o at *
  refine ⟨u_Mo_s (u_Mo_s (u_Mo_owners w1 Q) S) S2, ?_, b2, hF.1, hF.2.1, hF.2.2.1, hF.2.2.2⟩
  unfold d_Mo_looked
  rw [y2, Option.bind_some, q1, Option.bind_some]
  exact m1
theorem s_looked : S_looked Rl := by
  intro z w h
  obtain ⟨⟨cl, hR⟩, -⟩ := id h
  obtain ⟨z1, F, g1⟩ := OL_looked hR
  obtain ⟨w', m1, m2, m3⟩ := Mo_looked hR
  refine ⟨_, _, w', g1, m1, Rl.set (cl := cl) h ?_ rfl rfl rfl m3⟩
  rw [m2]
  exact hR

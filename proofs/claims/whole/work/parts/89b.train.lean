/-! train: what one more to lift brings. -/
def mx (a b : Option Int) : Option Int := match a, b with
  | none, b => b
  | some x, none => some x
  | some x, some y => some (if x < y then y else x)
theorem mx_none (a : Option Int) : mx a none = a := by cases a <;> rfl
theorem mx_assoc (a b c : Option Int) : mx (mx a b) c = mx a (mx b c) := by
  cases a with
  | none => rfl
  | some x =>
    cases b with
    | none => rfl
    | some y =>
      cases c with
      | none => rfl
      | some v =>
        simp only [mx]
        congr 1
        by_cases a1 : x < y <;> by_cases a2 : y < v <;> by_cases a3 : x < v <;> simp only [a1, a2, a3, if_true, if_false] <;> omega
theorem mx_comm (a b : Option Int) : mx a b = mx b a := by
  cases a with
  | none => exact (mx_none b).symm
  | some x =>
    cases b with
    | none => rfl
    | some y =>
      simp only [mx]
      congr 1
      split <;> split <;> omega
theorem mx_self (a : Option Int) : mx a a = a := by
  cases a with
  | none => rfl
  | some x =>
    simp only [mx]
    congr 1
    split <;> omega
def vW (b : WB) : Option Int := b.map (·.1)
def mW (np : Nat) (W cap : Nat → Nat) (wo : Nat → Nat → Int) : Nat → Nat → Int → (Nat → Nat) → Option Int → Option Int
  | 0, _, r, _, a => mx a (some r)
  | k + 1, t, r, u, a => fo (fun p a => if ¬ wo t p = NV ∧ u p + W t ≤ cap p then mW np W cap wo k (t + 1) (r + wo t p) (upn u p (u p + W t)) a else a) (np + 1) 0 a
section VW
variable {np : Nat} {W cap cap' : Nat → Nat} {wo : Nat → Nat → Int}
theorem vW_eW : ∀ (k t : Nat) (r : Int) (u y : Nat → Nat) (b : WB), vW (eW np W cap wo k t r u y b) = mW np W cap wo k t r u (vW b)
  | 0, t, r, u, y, b => by
    show vW (upB b r y) = mx (vW b) (some r)
    cases b with
    | none => rfl
    | some q =>
      show vW (if q.1 < r then some (r, y) else some q) = some (if q.1 < r then r else q.1)
      split <;> rfl
  | k + 1, t, r, u, y, b => by
    refine fo_two (fun _ (b : WB) (a : Option Int) => vW b = a) (np + 1) 0 b (vW b) rfl (fun p b a _ _ hP => ?_)
    subst hP
    by_cases c : ¬ wo t p = NV ∧ u p + W t ≤ cap p
    · show vW (if _ then _ else _) = (if _ then _ else _)
      rw [if_pos c, if_pos c]
      exact vW_eW k (t + 1) _ _ _ b
    · show vW (if _ then _ else _) = (if _ then _ else _)
      rw [if_neg c, if_neg c]
theorem mW_mx : ∀ (k t : Nat) (r : Int) (u : Nat → Nat) (a : Option Int), mW np W cap wo k t r u a = mx a (mW np W cap wo k t r u none)
  | 0, _, _, _, _ => rfl
  | k + 1, t, r, u, a => by
    refine fo_two (fun _ x n => x = mx a n) (np + 1) 0 a none (mx_none a).symm (fun p x n _ _ hP => ?_)
    subst hP
    by_cases c : ¬ wo t p = NV ∧ u p + W t ≤ cap p
    · show (if _ then _ else _) = mx a (if _ then _ else _)
      rw [if_pos c, if_pos c, mW_mx k _ _ _ (mx a n), mW_mx k _ _ _ n, mx_assoc]
    · show (if _ then _ else _) = mx a (if _ then _ else _)
      rw [if_neg c, if_neg c]
theorem mW_mono (hc : ∀ p, p ≤ np → cap p ≤ cap' p) : ∀ (k t : Nat) (r : Int) (u : Nat → Nat), mx (mW np W cap wo k t r u none) (mW np W cap' wo k t r u none) = mW np W cap' wo k t r u none
  | 0, _, r, _ => mx_self (some r)
  | k + 1, t, r, u => by
    refine fo_two (fun _ x n => mx x n = n) (np + 1) 0 none none rfl (fun p x n _ hp hP => ?_)
    show mx (if _ then _ else _) (if _ then _ else _) = (if _ then _ else _)
    by_cases c : ¬ wo t p = NV ∧ u p + W t ≤ cap p
    · have c' : ¬ wo t p = NV ∧ u p + W t ≤ cap' p := ⟨c.1, by have := hc p (by omega); have := c.2; omega⟩
      have ih := mW_mono hc k (t + 1) (r + wo t p) (upn u p (u p + W t))
      rw [if_pos c, if_pos c', mW_mx k _ _ _ x, mW_mx k _ _ _ n]
      generalize mW np W cap wo k (t + 1) (r + wo t p) (upn u p (u p + W t)) none = A at *
      generalize mW np W cap' wo k (t + 1) (r + wo t p) (upn u p (u p + W t)) none = B at *
      rw [mx_assoc, ← mx_assoc A n B, mx_comm A n, mx_assoc n A B, ih, ← mx_assoc, hP]
    · rw [if_neg c]
      by_cases c' : ¬ wo t p = NV ∧ u p + W t ≤ cap' p
      · rw [if_pos c', mW_mx k _ _ _ n, ← mx_assoc, hP]
      · rw [if_neg c']
        exact hP
end VW
theorem bK_more {np nt : Nat} {W L L' : Nat → Nat} {K : Nat → Nat → Nat} (h : ∀ p, p < np → L p ≤ L' p) : vW (bK np nt W K L' (bK np nt W K L none)) = vW (bK np nt W K L' none) := by
  unfold bK
  rw [vW_eW, vW_eW, vW_eW, mW_mx]
  exact mW_mono (fun p _ => by
    unfold cpL
    split
    · exact h p (by assumption)
    · omega) nt 0 0 _
theorem s_train : S_train Rl := by
  intro z w x h
  obtain ⟨⟨cl, hR⟩, -⟩ := id h
  have r := hR.RG
  have h4 := r.1
  have h7 := r.2.1
  unfold d_OL_train d_Mo_train
  rcases per_cases (y := q_Re_people (q_OL_now z)) (w := w) hR.2.1.1 hR.1.1 x with ⟨h1, h2⟩ | ⟨p, hp, rfl, h1, h2⟩
  · rw [h1, h2]
    exact ⟨_, z, w, rfl, rfl, h⟩
  have z9 : ¬ (1 : Int32) = 0 := by decide
  rw [h1, h2, Option.bind_some, Option.bind_some, if_neg z9, if_neg z9]
  have hL : ∀ p, p < NN (q_Mo_s w 0) → xL cl (q_Mo_s w) p ≤ 2800 := fun p hp => by have := r.2.2.2.2.2 p hp; omega
  obtain ⟨z1, F, w2, y1, y2, hS, hw, hM, hF, b1, b2, b3, b4⟩ := askW hR
  obtain ⟨s1, s2, q, g1, g2, g3, g4, g5⟩ := Sh_best hS h4 h7 r.2.2.1 r.2.2.2.2.1 (fun p hp => by have := hL p hp; omega) (q_OL_shares z)
  obtain ⟨w3, k1, k2, k3, k4⟩ := Mo_ways2 r hM b1 b2 b4
  have hM3 := MW_FrW hM k2
  have w3s : q_Mo_s w3 = q_Mo_s w := k2.1.trans hw
  have w3F : FrM w w3 := hF.tr k2.2.2.2
  have rK := r.2.2.2.2.1
  have rW := r.2.2.1
  have c0 : inb (nI p) 4 = true := inb_n (by omega) (by omega)
  have c1 : (nI p).toNatClampNeg = p := nI_clamp (by omega)
  clear hM b1 b2 b3 b4 k2 hF
  generalize hnp : NN (q_Mo_s w 0) = np at *
  generalize hnt : NN (q_Mo_s w 1) = nt at *
  generalize xWt (q_Mo_s w) = W at *
  generalize xOw (q_Mo_s w) = O at *
  generalize xK cl (q_Mo_s w) = K at *
  generalize xL cl (q_Mo_s w) = L at *
  have hlp := hL p hp
  have hL' : ∀ j, j < np → upn L p (L p + 1) j ≤ 2900 := fun j hj => by
    have := hL j hj
    unfold upn
    split <;> omega
  have eS : q_St_lifts z1 p + 1 = nI (L p + 1) := by rw [hS.2.2.2.2.2 p hp, nI_1]
  have eM : q_Mo_lifts w3 p + 1 = nI (L p + 1) := by rw [hM3.2.2.2 p hp, nI_1]
  have hS' : SW (u_St_lifts z1 (upd (q_St_lifts z1) p (q_St_lifts z1 p + 1))) np nt W O K (upn L p (L p + 1)) := by
    refine ⟨hS.1, hS.2.1, hS.2.2.1, hS.2.2.2.1, hS.2.2.2.2.1, fun j hj => ?_⟩
    show upd (q_St_lifts z1) p (q_St_lifts z1 p + 1) j = _
    unfold upd upn
    by_cases e : j = p
    · rw [if_pos e, if_pos e]
      exact eS
    · rw [if_neg e, if_neg e]
      exact hS.2.2.2.2.2 j hj
  have hM' : MW (u_Mo_lifts w3 (upd (q_Mo_lifts w3) p (q_Mo_lifts w3 p + 1))) np nt W O K (upn L p (L p + 1)) := by
    refine ⟨hM3.1, hM3.2.1, hM3.2.2.1, fun j hj => ?_⟩
    show upd (q_Mo_lifts w3) p (q_Mo_lifts w3 p + 1) j = _
    unfold upd upn
    by_cases e : j = p
    · rw [if_pos e, if_pos e]
      exact eM
    · rw [if_neg e, if_neg e]
      exact hM3.2.2.2 j hj
  obtain ⟨s3, s4, q', m1, m2, m3, m4, m5⟩ := Sh_best hS' h4 h7 rW rK hL' s2
  have bb1 : BO (bK np nt W K L none) := eW_BO (woK_O rK) h7 nt 0 0 _ _ none (by omega) (by omega) (by omega) (fun q hq => by cases hq)
  have bb2 : BO (bN np nt W L none) := eW_BO woN_O h7 nt 0 0 _ _ none (by omega) (by omega) (by omega) (fun q hq => by cases hq)
  obtain ⟨w4, n1, n2, n3, -⟩ := Mo_waysL h4 h7 hM' rK rW hL' nt 64 0 0 0 (fun _ => 0) (fun _ => 0) (bK np nt W K L none) (bN np nt W L none) (u_Mo_lifts w3 (upd (q_Mo_lifts w3) p (q_Mo_lifts w3 p + 1))) (by omega) (by omega) (by omega) (by omega) (by omega) (by omega) (by omega) bb1 bb2 ⟨rfl, rfl, rfl, FrM.rf⟩ ⟨MwL_same k3.1 rfl rfl, k3.2⟩ ⟨fun p hp => ⟨k4 p hp, Nat.zero_le _⟩, fun j hj => by omega⟩
  have n1 : d_Mo_waysFrom 64 0 0 0 (u_Mo_lifts w3 (upd (q_Mo_lifts w3) p (q_Mo_lifts w3 p + 1))) = some w4 := n1
  have n3 : MwL np nt (bK np nt W K (upn L p (L p + 1)) (bK np nt W K L none)) w4 := n3.1
  have key := bK_more (np := np) (nt := nt) (W := W) (K := K) (L := L) (L' := upn L p (L p + 1)) (fun j hj => by unfold upn; split <;> (try subst j) <;> omega)
  rw [m3] at key
  have k5 : q_Mo_bestLike w3 = iI q.1 := by
    have := k3.1
    rw [g3] at this
    exact this.1
  have n5 : q_Mo_bestLike w4 = iI q'.1 := by
    generalize bK np nt W K (upn L p (L p + 1)) (bK np nt W K L none) = b at *
    cases b with
    | none => cases key
    | some q2 =>
      have : q2.1 = q'.1 := Option.some.inj key
      rw [← this]
      exact n3.1
  refine ⟨iI q'.1 - iI q.1, u_OL_shares (u_OL_shares (u_OL_standing (u_OL_shares (u_OL_shares (u_OL_now (u_OL_standing z z1) (u_Re_facts (q_OL_now z) F)) s1) s2) (u_St_lifts z1 (upd (q_St_lifts z1) p (q_St_lifts z1 p + 1)))) s3) s4, w4, ?_, ?_, ?_⟩
  · rw [y1, Option.bind_some]
    refine Eq.trans (congrArg (fun o => Option.bind o _) g1) ?_
    rw [Option.bind_some]
    refine Eq.trans (congrArg (fun o => Option.bind o _) g2) ?_
    rw [Option.bind_some, if_pos c0, if_pos c0, c1]
    refine Eq.trans (congrArg (fun o => Option.bind o _) m1) ?_
    rw [Option.bind_some]
    refine Eq.trans (congrArg (fun o => Option.bind o _) m2) ?_
    rw [Option.bind_some]
    show some (q_Sh_sum s4 - q_Sh_sum s2, _) = _
    rw [m4, g4]
  · rw [y2, Option.bind_some, k1, Option.bind_some, if_pos c0, if_pos c0, c1, n1, Option.bind_some, n5, k5]
  · have e4 : q_Mo_s w4 = q_Mo_s w := n2.1.trans w3s
    refine Rl.set (cl := cl) h ?_ rfl rfl rfl (w3F.tr n2.2.2.2)
    rw [e4]
    exact hR

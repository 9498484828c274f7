/-! bench, looked. -/
/-- p's KIND and ROW by the row s -/
def xKd (s : Nat → Int32) (p : Nat) : Nat := NN (s (10 + p))
def xRs (s : Nat → Int32) (p : Nat) : Nat := NN (s (26 + p))
def xR (s : Nat → Int32) (p i : Nat) : Nat := NN (s (30 + 7 * p + i))
theorem RC.pw {r : T_Re} {s : Nat → Int32} {cl : CL} (h : RC r s cl) {p : Nat} (hp : p < NN (s 0)) : PW (q_Re_people r) p (xKd s p) (xRs s p) (xR s p) ∧ PM s p (xKd s p) (xRs s p) (xR s p) ∧ PR (xKd s p) (xRs s p) (NN (s 1)) (xR s p) := by
  obtain ⟨⟨r1, r2, r3, r4, r5, r6⟩, t1, t2, t3, t4, t5, t6⟩ := h.2.2.1 p hp
  exact ⟨⟨t1.trans r1.1, t5.trans r5.1, fun i hi => (t6 i hi).trans (r6 i hi).1.1⟩, ⟨r1.1, r5.1, fun i hi => (r6 i hi).1.1⟩, r1.2, r5.2, fun i hi => (r6 i hi).2⟩
/-- the bench of p, from owners O -/
def xBe (cl : CL) (s : Nat → Int32) (p : Nat) (O : Nat → Nat) : Nat × (Nat → Nat) :=
  nBe (xKd s p) p (NN (s 0)) (NN (s 1)) (xRs s p) (xR s p) (xWt s) (xK cl s p) (xL cl s) 1000 O
theorem xBe_RG {r : T_Re} {s : Nat → Int32} {cl : CL} (h : RC r s cl) {p : Nat} (hp : p < NN (s 0)) {O : Nat → Nat} (hO : RG (NN (s 0)) (NN (s 1)) (xWt s) O (xK cl s) (xL cl s)) : RG (NN (s 0)) (NN (s 1)) (xWt s) (xBe cl s p O).2 (xK cl s) (xL cl s) :=
  nBe_RG hp (h.pw hp).2.2 1000 O hO
theorem St_lighten {r : T_Re} {s : Nat → Int32} {cl : CL} (h : RC r s cl) {p : Nat} (hp : p < NN (s 0)) {O : Nat → Nat} (hO : RG (NN (s 0)) (NN (s 1)) (xWt s) O (xK cl s) (xL cl s)) {z : T_St} (hS : SW z (NN (s 0)) (NN (s 1)) (xWt s) O (xK cl s) (xL cl s)) :
    ∃ X, d_St_lighten (nI p) z (q_Re_people r) = some (nI (xBe cl s p O).1, u_St_owner z X) ∧ ∀ t, t < NN (s 1) → X t = oC ((xBe cl s p O).2 t) := by
  have hn := nOw_le O (NN (s 1)) p
  have h7 := hO.2.1
  obtain ⟨X, y1, y2⟩ := St_lightenL hp (h.pw hp).1 (h.pw hp).2.2 1000 0 O z hS hO (by omega) (by omega)
  rw [Nat.zero_add] at y1
  exact ⟨X, y1, y2⟩
theorem Mo_benches {r : T_Re} {s : Nat → Int32} {cl : CL} (h : RC r s cl) {p : Nat} (hp : p < NN (s 0)) {O : Nat → Nat} (hO : RG (NN (s 0)) (NN (s 1)) (xWt s) O (xK cl s) (xL cl s)) {w : T_Mo} (hM : MW w (NN (s 0)) (NN (s 1)) (xWt s) O (xK cl s) (xL cl s)) (hs : ∀ i, (i < 65 ∨ 72 ≤ i) → q_Mo_s w i = s i) :
    ∃ s', d_Mo_benches (nI p) w = some (nI (xBe cl s p O).1, u_Mo_s w s') ∧ MT s' (NN (s 1)) (xWt s) (xBe cl s p O).2 ∧ ∀ i, (i < 65 ∨ 72 ≤ i) → s' i = s i := by
  have hn := nOw_le O (NN (s 1)) p
  have h7 := hO.2.1
  have h4 := hO.1
  obtain ⟨s', y1, y2, y3⟩ := Mo_benchesL hp (h.pw hp).2.2 1000 0 O w hM ((h.pw hp).2.1.same (by omega) (h.pw hp).2.2.2.1 hs) hO (by omega)
  rw [Nat.zero_add] at y1
  exact ⟨s', y1, y2, fun i hi => (y3 i hi).trans (hs i hi)⟩
/-- other owners -/
theorem RC_owners {r : T_Re} {s s' : Nat → Int32} {cl : CL} (hR : RC r s cl) {O : Nat → Nat} (hO : RG (NN (s 0)) (NN (s 1)) (xWt s) O (xK cl s) (xL cl s)) (hT : MT s' (NN (s 1)) (xWt s) O) (hs : ∀ i, (i < 65 ∨ 72 ≤ i) → s' i = s i) {X : Nat → Int32} (hX : ∀ t, t < NN (s 1) → X t = oC (O t)) :
    RC (u_Re_things r (u_Th_owner (q_Re_things r) X)) s' cl := by
  have h4 := hR.1.1.2
  have h7 := hR.1.2.1.2
  have a1 := hs 1 (by omega)
  refine RC_things hR (fun i _ _ => hs i (by omega)) (a1 ▸ hR.1.2.1) (by rw [a1]; exact Nat.le_refl _) (by rw [a1]; exact hR.2.1.2.1) ?_ rfl rfl rfl rfl rfl rfl rfl rfl rfl
  rw [a1]
  intro u hu
  show RgT s' _ u ∧ q_Th_weight (q_Re_things r) u = _ ∧ X u = _
  have hU := hR.2.2.2.1 u hu
  have o4 := hO.o4 hu
  unfold RgT
  rw [hs (58 + u) (by omega), hT.2.2 u hu, hX u hu, rg_N (by omega)]
  exact ⟨⟨hU.1.1, rg_n o4 (by omega), hO.2.2.2.1 u hu⟩, hU.2.1, rfl⟩
theorem s_bench : S_bench Rl := by
  intro z w x h
  obtain ⟨⟨cl, hR⟩, -⟩ := id h
  have h7 := hR.1.2.1.2
  unfold d_OL_bench d_Mo_bench
  rcases per_cases (y := q_Re_people (q_OL_now z)) (w := w) hR.2.1.1 hR.1.1 x with ⟨h1, h2⟩ | ⟨p, hp, rfl, h1, h2⟩
  · rw [h1, h2]
    exact ⟨_, z, w, rfl, rfl, h⟩
  rw [h1, h2]
  have z9 : ¬ (1 : Int32) = 0 := by decide
  obtain ⟨z1, F, w1, y1, y2, hT, hS, hw1, hM, hF⟩ := ask2 hR
  simp only [Option.bind_some, z9, if_false]
  rw [y1, y2]
  simp only [Option.bind_some]
  obtain ⟨X, l1, l2⟩ := St_lighten hR hp hR.RG hS
  obtain ⟨s', m1, m2, m3⟩ := Mo_benches hR hp hR.RG hM (fun i _ => by rw [hw1])
  have l1 : d_St_lighten (nI p) (q_OL_standing (u_OL_now (u_OL_standing z z1) (u_Re_facts (q_OL_now z) F))) (q_Re_people (q_OL_now (u_OL_now (u_OL_standing z z1) (u_Re_facts (q_OL_now z) F)))) = _ := l1
  rw [l1, m1]
  have hR' : RC (u_Re_facts (q_OL_now z) F) (q_Mo_s w) cl := hR
  have hfin := RC_owners (X := va_cpy X (q_Th_owner (q_Re_things (q_OL_now z))) 0 0 7) hR' (xBe_RG hR hp hR.RG) m2 m3 (fun t ht => by rw [cpy0 (by omega)]; exact l2 t ht)
  exact ⟨nI (xBe cl (q_Mo_s w) p (xOw (q_Mo_s w))).1, _, u_Mo_s w1 s', rfl, rfl, Rl.set (cl := cl) h hfin rfl rfl rfl hF⟩
/-- owners set aside and given back -/
theorem Mo_keeps (w : T_Mo) : ∃ Q, d_Mo_keeps w = some (u_Mo_owners w Q) ∧ ∀ t, t < 7 → Q t = q_Mo_s w (65 + t) := by
  unfold d_Mo_keeps
  obtain ⟨a, ⟨Q, h1, h2⟩, h3⟩ := lpIx (z := fun _ _ => none) (B := fun self => B_Mo_keeps_L2 self) (n := 7) some (fun i a => ∃ Q, a = u_Mo_owners w Q ∧ ∀ t, t < i → Q t = q_Mo_s w (65 + t))
    (by
      intro self i a hi ⟨Q, ha, hQ⟩
      subst ha
      have e1 : ¬ (7 : Int32) ≤ nI i := nI_ge (b := 7) hi (by omega)
      have e2 : inb (nI i) 7 = true := inb_n hi (by omega)
      have e3 : (nI i).toNatClampNeg = i := nI_clamp (by omega)
      have e4 : inb (65 + nI i) 901 = true := in9 65 (by omega)
      have e5 : (65 + nI i).toNatClampNeg = 65 + i := cl9 65 (by omega)
      refine ⟨u_Mo_owners w (upd Q i (q_Mo_s w (65 + i))), ?_, _, rfl, ?_⟩
      · unfold B_Mo_keeps_L2
        rw [if_neg e1, if_pos e4, if_pos e2, e3, e5, nI_1]
      · intro j hj
        by_cases e : j = i
        · subst e; exact pk_us
        · rw [pk_un e]; exact hQ j (by omega))
    (by
      intro self a _
      unfold B_Mo_keeps_L2
      exact if_pos (Int32.le_refl _))
    1000 0 w (by omega) (by omega) ⟨q_Mo_owners w, rfl, fun j hj => absurd hj (by omega)⟩
  subst h1
  exact ⟨Q, h3, h2⟩
theorem Mo_goesBack (w : T_Mo) : ∃ S, d_Mo_goesBack w = some (u_Mo_s w S) ∧ (∀ t, t < 7 → S (65 + t) = q_Mo_owners w t) ∧ ∀ i, (i < 65 ∨ 72 ≤ i) → S i = q_Mo_s w i := by
  unfold d_Mo_goesBack
  obtain ⟨a, ⟨S, h1, h2, h2'⟩, h3⟩ := lpIx (z := fun _ _ => none) (B := fun self => B_Mo_goesBack_L2 self) (n := 7) some (fun i a => ∃ S, a = u_Mo_s w S ∧ (∀ t, t < i → S (65 + t) = q_Mo_owners w t) ∧ ∀ j, (j < 65 ∨ 72 ≤ j) → S j = q_Mo_s w j)
    (by
      intro self i a hi ⟨S, ha, hQ, hQ'⟩
      subst ha
      have e1 : ¬ (7 : Int32) ≤ nI i := nI_ge (b := 7) hi (by omega)
      have e2 : inb (nI i) 7 = true := inb_n hi (by omega)
      have e3 : (nI i).toNatClampNeg = i := nI_clamp (by omega)
      have e4 : inb (65 + nI i) 901 = true := in9 65 (by omega)
      have e5 : (65 + nI i).toNatClampNeg = 65 + i := cl9 65 (by omega)
      refine ⟨u_Mo_s w (upd S (65 + i) (q_Mo_owners w i)), ?_, _, rfl, ?_, ?_⟩
      · unfold B_Mo_goesBack_L2
        rw [if_neg e1, if_pos e2, if_pos e4, e3, e5, nI_1]
      · intro j hj
        by_cases e : j = i
        · subst e; exact pk_us
        · rw [pk_un (by omega)]; exact hQ j (by omega)
      · intro j hj
        rw [pk_un (by omega)]
        exact hQ' j hj)
    (by
      intro self a _
      unfold B_Mo_goesBack_L2
      exact if_pos (Int32.le_refl _))
    1000 0 w (by omega) (by omega) ⟨q_Mo_s w, rfl, fun j hj => absurd hj (by omega), fun _ _ => rfl⟩
  subst h1
  exact ⟨S, h3, h2, h2'⟩
/-- the row is as it was -/
theorem back_eq {s S : Nat → Int32} {Q : Nat → Int32} (hQ : ∀ t, t < 7 → Q t = s (65 + t)) (h1 : ∀ t, t < 7 → S (65 + t) = Q t) (h2 : ∀ i, (i < 65 ∨ 72 ≤ i) → S i = s i) : S = s := by
  funext i
  by_cases h : i < 65 ∨ 72 ≤ i
  · exact h2 i h
  · have e : i = 65 + (i - 65) := by omega
    rw [e, h1 (i - 65) (by omega), hQ (i - 65) (by omega)]
/-- the first told otherwise -/
def xLk (cl : CL) (s : Nat → Int32) : Nat → Nat → (Nat → Nat) → Option Nat
  | 0, _, _ => none
  | k + 1, i, O => if (decide (xL cl s (NN (s (72 + i))) < nLd (xWt s) O (NN (s 1)) (NN (s (72 + i)))) == decide (s (84 + i) = 1)) = true then some i else xLk cl s k (i + 1) (xBe cl s (NN (s (72 + i))) O).2
def lk5 (o : Option Nat) : Int32 := match o with
  | none => (-5)
  | some i => nI i
theorem xBe_0 {r : T_Re} {s : Nat → Int32} {cl : CL} (h : RC r s cl) {p : Nat} (hp : p < NN (s 0)) {O : Nat → Nat} (hO : RG (NN (s 0)) (NN (s 1)) (xWt s) O (xK cl s) (xL cl s)) : (xBe cl s p O).1 ≤ 7 ∧ ((xBe cl s p O).1 = 0 ↔ ¬ xL cl s p < nLd (xWt s) O (NN (s 1)) p) := by
  have key : ∀ (m : Nat) (O : Nat → Nat), RG (NN (s 0)) (NN (s 1)) (xWt s) O (xK cl s) (xL cl s) → (nBe (xKd s p) p (NN (s 0)) (NN (s 1)) (xRs s p) (xR s p) (xWt s) (xK cl s p) (xL cl s) m O).1 ≤ nOw O (NN (s 1)) p := by
    intro m
    induction m with
    | zero => intro O _; exact Nat.zero_le _
    | succ m ih =>
      intro O hO
      rw [nBe_s]
      by_cases hov : nLd (xWt s) O (NN (s 1)) p ≤ xL cl s p
      · rw [if_pos hov]; exact Nat.zero_le _
      · rw [if_neg hov]
        obtain ⟨t, ht1, ht2, ht3, ht4⟩ := nBe_turn hO hp (h.pw hp).2.2 hov
        rw [ht1]
        have := ih _ (hO.upd' (t := t) (nHe_P (kd := xKd s p) (nt := NN (s 1)) (W := xWt s) (O := O) (L := xL cl s) (t := t) hp hO.1).1)
        show _ + 1 ≤ _
        omega
  refine ⟨Nat.le_trans (key 1000 O hO) (Nat.le_trans (nOw_le _ _ _) hO.2.1), ?_⟩
  unfold xBe
  rw [show (1000 : Nat) = 999 + 1 from rfl, nBe_s]
  by_cases hov : nLd (xWt s) O (NN (s 1)) p ≤ xL cl s p
  · rw [if_pos hov]
    exact ⟨fun _ => by omega, fun _ => rfl⟩
  · rw [if_neg hov]
    obtain ⟨t, ht1, -⟩ := nBe_turn hO hp (h.pw hp).2.2 hov
    rw [ht1]
    refine ⟨fun y => ?_, fun y => by omega⟩
    exact absurd (show _ + 1 = 0 from y) (by omega)
theorem OL_lookedL {r : T_Re} {s : Nat → Int32} {cl : CL} (hR : RC r s cl) : ∀ (k m i : Nat) (z : T_OL) (O : Nat → Nat), q_OL_now z = r → i + k = NN (s 3) → k < m → RG (NN (s 0)) (NN (s 1)) (xWt s) O (xK cl s) (xL cl s) → SW (q_OL_standing z) (NN (s 0)) (NN (s 1)) (xWt s) O (xK cl s) (xL cl s) →
    ∃ z', d_OL_looked_L13 m (nI i) z = some (lk5 (xLk cl s k i O), u_OL_standing z z')
  | k, 0, i, z, O, _, _, hm, _, _ => by omega
  | 0, m + 1, i, z, O, hz, hi, hm, hO, hS => by
    have hB : d_OL_looked_L13 (m + 1) (nI i) z = B_OL_looked_L13 (d_OL_looked_L13 m) (nI i) z := rfl
    have c2 : q_Re_seen (q_OL_now z) ≤ nI i := by rw [hz, hR.2.1.2.2.2.1, hR.1.2.2.2.1.1, ← hi]; exact Int32.le_refl _
    rw [hB]
    unfold B_OL_looked_L13
    rw [if_pos c2]
    exact ⟨q_OL_standing z, rfl⟩
  | k + 1, m + 1, i, z, O, hz, hi, hm, hO, hS => by
    have hB : d_OL_looked_L13 (m + 1) (nI i) z = B_OL_looked_L13 (d_OL_looked_L13 m) (nI i) z := rfl
    have w12 := hR.1.2.2.2.1.2
    have c2 : ¬ q_Re_seen (q_OL_now z) ≤ nI i := by rw [hz, hR.2.1.2.2.2.1, hR.1.2.2.2.1.1]; exact nI_ge (by omega) (by omega)
    have c0 : inb (nI i) 12 = true := inb_n (by omega) (by omega)
    have c1 : (nI i).toNatClampNeg = i := nI_clamp (by omega)
    obtain ⟨⟨wa, wb, wc⟩, wd, we⟩ := hR.2.2.2.2.1 i (by omega)
    have ep : q_Re_seenWho (q_OL_now z) i = nI (NN (s (72 + i))) := by rw [hz, wd]; exact wa.1
    have ec : q_Re_seenCould (q_OL_now z) i = s (84 + i) := by rw [hz, we]
    obtain ⟨X, l1, l2⟩ := St_lighten hR wb hO hS
    have l1' : d_St_lighten (nI (NN (s (72 + i)))) (q_OL_standing z) (q_Re_people (q_OL_now z)) = some (nI (xBe cl s (NN (s (72 + i))) O).1, u_St_owner (q_OL_standing z) X) := by rw [hz]; exact l1
    obtain ⟨z', g1⟩ := OL_lookedL hR k m (i + 1) (u_OL_standing z (u_St_owner (q_OL_standing z) X)) (xBe cl s (NN (s (72 + i))) O).2 hz (by omega) (by omega) (xBe_RG hR wb hO) (hS.upd' l2)
    have e10 : ¬ (1 : Int32) = 0 := by decide
    have e01 : ¬ (0 : Int32) = 1 := by decide
    rw [hB]
    unfold B_OL_looked_L13
    rw [if_neg c2, if_pos c0, c1, ep, St_over hS hO wb, ec]
    simp only [Option.bind_some, bI_0, c0, if_true, l1', nI_1]
    show ∃ z', _ = some (lk5 (if (decide (xL cl s (NN (s (72 + i))) < nLd (xWt s) O (NN (s 1)) (NN (s (72 + i)))) == decide (s (84 + i) = 1)) = true then some i else xLk cl s k (i + 1) (xBe cl s (NN (s (72 + i))) O).2), u_OL_standing z z')
    by_cases ho : xL cl s (NN (s (72 + i))) < nLd (xWt s) O (NN (s 1)) (NN (s (72 + i)))
    · rcases wc with q | q
      · rw [q]
        simp only [ho, e01, decide_true, decide_false, Bool.true_eq_false, if_false, if_true, show ((true == false) = true) = False by simp]
        exact ⟨z', g1⟩
      · rw [q]
        simp only [ho, e01, decide_true, decide_false, Bool.true_eq_false, if_false, if_true, BEq.rfl]
        exact ⟨q_OL_standing z, rfl⟩
    · rcases wc with q | q
      · rw [q]
        simp only [ho, e10, e01, decide_true, decide_false, if_false, if_true, BEq.rfl]
        exact ⟨q_OL_standing z, rfl⟩
      · rw [q]
        simp only [ho, e10, decide_true, decide_false, if_false, if_true, show ((false == true) = true) = False by simp]
        exact ⟨z', g1⟩
theorem Mo_lookedE (m : Nat) {i : Nat} {w : T_Mo} {f : Int32} (hf : ¬ f = -5) : d_Mo_looked_L13 (m + 1) f (nI i) w = (d_Mo_goesBack w).bind fun v => some (f, v) := by
  have hB : d_Mo_looked_L13 (m + 1) f (nI i) w = B_Mo_looked_L13 (d_Mo_looked_L13 m) f (nI i) w := rfl
  rw [hB]
  unfold B_Mo_looked_L13
  by_cases q : q_Mo_s w 3 ≤ nI i
  · rw [if_pos q]
  · rw [if_neg q, if_neg hf]
theorem Mo_lookedL {r : T_Re} {s : Nat → Int32} {cl : CL} (hR : RC r s cl) : ∀ (k m i : Nat) (w : T_Mo) (O : Nat → Nat), i + k = NN (s 3) → k + 1 < m → RG (NN (s 0)) (NN (s 1)) (xWt s) O (xK cl s) (xL cl s) → MW w (NN (s 0)) (NN (s 1)) (xWt s) O (xK cl s) (xL cl s) → (∀ j, (j < 65 ∨ 72 ≤ j) → q_Mo_s w j = s j) →
    ∃ S, d_Mo_looked_L13 m (-5) (nI i) w = ((d_Mo_goesBack (u_Mo_s w S)).bind fun v => some (lk5 (xLk cl s k i O), v)) ∧ ∀ j, (j < 65 ∨ 72 ≤ j) → S j = s j
  | k, 0, i, w, O, _, hm, _, _, _ => by omega
  | 0, m + 1, i, w, O, hi, hm, hO, hM, hs => by
    have hB : d_Mo_looked_L13 (m + 1) (-5) (nI i) w = B_Mo_looked_L13 (d_Mo_looked_L13 m) (-5) (nI i) w := rfl
    have c2 : q_Mo_s w 3 ≤ nI i := by rw [hs 3 (by omega), hR.1.2.2.2.1.1, ← hi]; exact Int32.le_refl _
    rw [hB]
    unfold B_Mo_looked_L13
    rw [if_pos c2]
    exact ⟨q_Mo_s w, rfl, hs⟩
  | k + 1, m + 1, i, w, O, hi, hm, hO, hM, hs => by
    have hB : d_Mo_looked_L13 (m + 1) (-5) (nI i) w = B_Mo_looked_L13 (d_Mo_looked_L13 m) (-5) (nI i) w := rfl
    have w12 := hR.1.2.2.2.1.2
    have c2 : ¬ q_Mo_s w 3 ≤ nI i := by rw [hs 3 (by omega), hR.1.2.2.2.1.1]; exact nI_ge (by omega) (by omega)
    have c0 : inb (72 + nI i) 901 = true := in9 72 (by omega)
    have c1 : (72 + nI i).toNatClampNeg = 72 + i := cl9 72 (by omega)
    have c3 : inb (84 + nI i) 901 = true := in9 84 (by omega)
    have c4 : (84 + nI i).toNatClampNeg = 84 + i := cl9 84 (by omega)
    obtain ⟨⟨wa, wb, wc⟩, -⟩ := hR.2.2.2.2.1 i (by omega)
    have ep : q_Mo_s w (72 + i) = nI (NN (s (72 + i))) := by rw [hs _ (by omega)]; exact wa.1
    obtain ⟨s', l1, l2, l3⟩ := Mo_benches hR wb hO hM hs
    have hb := xBe_0 hR wb hO
    have ec : q_Mo_s (u_Mo_s w s') (84 + i) = s (84 + i) := l3 _ (by omega)
    obtain ⟨S, g1, g2⟩ := Mo_lookedL hR k m (i + 1) (u_Mo_s w s') (xBe cl s (NN (s (72 + i))) O).2 (by omega) (by omega) (xBe_RG hR wb hO) ⟨(l3 0 (by omega)).trans hR.1.1.1, l2, hM.2.2⟩ l3
    obtain ⟨m', rfl⟩ : ∃ m', m = m' + 1 := ⟨m - 1, by omega⟩
    have hE := Mo_lookedE m' (i := i + 1) (w := u_Mo_s w s') (f := nI i) (nI_neg_ne i (by omega) _ (by decide))
    have k0 : (nI (xBe cl s (NN (s (72 + i))) O).1 = 0) ↔ ¬ xL cl s (NN (s (72 + i))) < nLd (xWt s) O (NN (s 1)) (NN (s (72 + i))) := by
      rw [← hb.2]
      exact nI_eq (b := 0) (by omega) (by omega)
    have e01 : ¬ (0 : Int32) = 1 := by decide
    rw [hB]
    unfold B_Mo_looked_L13
    rw [if_neg c2, if_pos rfl, if_pos c0, c1, ep, l1]
    simp only [Option.bind_some, c3, c4, ec, if_true, nI_1]
    show ∃ S, _ = ((d_Mo_goesBack (u_Mo_s w S)).bind fun v => some (lk5 (if (decide (xL cl s (NN (s (72 + i))) < nLd (xWt s) O (NN (s 1)) (NN (s (72 + i)))) == decide (s (84 + i) = 1)) = true then some i else xLk cl s k (i + 1) (xBe cl s (NN (s (72 + i))) O).2), v)) ∧ _
    by_cases ho : xL cl s (NN (s (72 + i))) < nLd (xWt s) O (NN (s 1)) (NN (s (72 + i)))
    · rw [if_neg (fun y => k0.mp y ho)]
      rcases wc with q | q
      · rw [q]
        simp only [ho, e01, decide_true, decide_false, if_false, show ((true == false) = true) = False by simp]
        exact ⟨S, g1, g2⟩
      · rw [q]
        simp only [ho, decide_true, if_true, BEq.rfl]
        rw [hE]
        exact ⟨s', rfl, l3⟩
    · rw [if_pos (k0.mpr ho)]
      rcases wc with q | q
      · rw [q]
        simp only [ho, e01, decide_false, if_false, if_true, BEq.rfl]
        rw [hE]
        exact ⟨s', rfl, l3⟩
      · rw [q]
        simp only [ho, decide_true, decide_false, if_true, if_false, show ((false == true) = true) = False by simp]
        exact ⟨S, g1, g2⟩
theorem OL_looked {z : T_OL} {w : T_Mo} {cl : CL} (hR : RC (q_OL_now z) (q_Mo_s w) cl) : ∃ z1 F, d_OL_looked z = some (lk5 (xLk cl (q_Mo_s w) (NN (q_Mo_s w 3)) 0 (xOw (q_Mo_s w))), u_OL_standing (u_OL_now z (u_Re_facts (q_OL_now z) F)) z1) := by
  have w12 := hR.1.2.2.2.1.2
  obtain ⟨z1, F, w1, y1, -, hT, hS, -⟩ := ask2 hR
  have hR' : RC (u_Re_facts (q_OL_now z) F) (q_Mo_s w) cl := hR
  obtain ⟨z', g1⟩ := OL_lookedL hR' (NN (q_Mo_s w 3)) 1000 0 (u_OL_now (u_OL_standing z z1) (u_Re_facts (q_OL_now z) F)) (xOw (q_Mo_s w)) rfl (by omega) (by omega) hR.RG hS
  refine ⟨z', F, ?_⟩
  unfold d_OL_looked
  rw [y1]
  exact g1

/-! fair as a call; gives. -/
theorem s_fair : S_fair Rl := by
  intro z w x x2 x3 h
  obtain ⟨⟨cl, hR⟩, -⟩ := id h
  have h4 := hR.1.1.2
  have h7 := hR.1.2.1.2
  unfold d_OL_fair d_Mo_fair
  rcases per_cases (y := q_Re_people (q_OL_now z)) (w := w) hR.2.1.1 hR.1.1 x with ⟨h1, h2⟩ | ⟨p, hp, rfl, h1, h2⟩
  · rw [h1, h2]
    exact ⟨_, z, w, rfl, rfl, h⟩
  rw [h1, h2]
  have z9 : ¬ (1 : Int32) = 0 := by decide
  simp only [Option.bind_some, z9, if_false]
  rcases per_cases (y := q_Re_people (q_OL_now z)) (w := w) hR.2.1.1 hR.1.1 x2 with ⟨h3, h5⟩ | ⟨q, hq, rfl, h3, h5⟩
  · rw [h3, h5]
    exact ⟨_, z, w, rfl, rfl, h⟩
  rw [h3, h5, within_in]
  simp only [Option.bind_some, z9, if_false]
  rcases in_cases x3 1 with h6 | ⟨h6, -, -⟩
  · rw [h6]
    exact ⟨_, z, w, rfl, rfl, h⟩
  rw [h6]
  simp only [Option.bind_some, z9, if_false]
  by_cases e : nI p = nI q
  · rw [if_pos e, if_pos e]
    exact ⟨_, z, w, rfl, rfl, h⟩
  rw [if_neg e, if_neg e]
  obtain ⟨z1, F, w1, y1, y2, hT, hS, hw1, hM, hF⟩ := ask2 hR
  rw [y1, y2]
  simp only [Option.bind_some]
  have o4 : ∀ t, t < NN (q_Mo_s w 1) → xOw (q_Mo_s w) t ≤ 4 := fun t ht => hR.RG.o4 ht
  have hb : nBt (xOw (q_Mo_s w)) (NN (q_Mo_s w 1)) p ||| nBt (xOw (q_Mo_s w)) (NN (q_Mo_s w 1)) q < 128 := Nat.or_lt_two_pow (n := 7) (nBt_lt h7) (nBt_lt h7)
  rw [Mo_thingsOf hM.2.1 h7 o4 (show p < 4 by omega), Option.bind_some, Mo_thingsOf hM.2.1 h7 o4 (show q < 4 by omega), Option.bind_some, ow_or, Mo_fairL hM hR.RG hp hq hb]
  have g1 : d_Se_fairNumber (nI p) (nI q) (q_OL_standing (u_OL_now (u_OL_standing z z1) (u_Re_facts (q_OL_now z) F))) = _ := Se_fairNumber hS hR.RG hp hq
  have g2 : d_Se_fairLeast (nI p) (nI q) (q_OL_standing (u_OL_now (u_OL_standing z z1) (u_Re_facts (q_OL_now z) F))) = _ := Se_fairLeast hS hR.RG hp hq
  have fin : Rl (u_OL_now (u_OL_standing z z1) (u_Re_facts (q_OL_now z) F)) w1 := by
    refine Rl.set (cl := cl) h ?_ rfl rfl rfl hF
    rw [hw1]
    exact hR
  by_cases q0 : x3 = 0
  · rw [if_pos q0, if_pos q0, g1]
    exact ⟨_, _, w1, rfl, rfl, fin⟩
  · rw [if_neg q0, if_neg q0, g2]
    exact ⟨_, _, w1, rfl, rfl, fin⟩
/-- does a set serve to be given -/
def gvC (W : Nat → Nat) (nt l own S : Nat) : Bool := decide (nWo S own = 0) && decide (nS W (fun t => (nWo own S).testBit t) nt ≤ l)
def gvS (k : Nat → Nat) (c : Nat → Bool) (S : Nat) (a : Option (Nat × Nat)) : Option (Nat × Nat) := if c S = true then (match a with
  | none => some (S, k S)
  | some q => if k S < q.2 then some (S, k S) else some q) else a
def gvA (k : Nat → Nat) (c : Nat → Bool) (n : Nat) : Option (Nat × Nat) := fo (gvS k c) n 0 none
/-- the class's: from the whole -/
def gvB (k : Nat → Nat) (c : Nat → Bool) (S : Nat) (a : Nat × Nat) : Nat × Nat := if c S = true then (if k S < a.2 then (S, k S) else a) else a
theorem nS_sub {f : Nat → Nat} {c d : Nat → Bool} : ∀ n : Nat, (∀ t, t < n → c t = true → d t = true) → nS f c n ≤ nS f d n
  | 0, _ => Nat.le_refl _
  | n + 1, h => by
    rw [nS_s, nS_s]
    have ih := nS_sub n (fun t ht => h t (by omega)) (f := f)
    by_cases q : c n = true
    · rw [if_pos q, if_pos (h n (by omega) q)]; omega
    · rw [if_neg q]
      split <;> omega
theorem nS_lts {f : Nat → Nat} {c d : Nat → Bool} {u : Nat} (hu : d u = true) (hc : c u = false) (hf : 1 ≤ f u) : ∀ n : Nat, u < n → (∀ t, t < n → c t = true → d t = true) → nS f c n < nS f d n
  | 0, h, _ => by omega
  | n + 1, h, hs => by
    rw [nS_s, nS_s]
    by_cases e : u = n
    · subst e
      have ih := nS_sub u (fun t ht => hs t (by omega)) (f := f)
      rw [hc, if_pos hu]
      simp only [Bool.false_eq_true, if_false]
      omega
    · have ih := nS_lts hu hc hf n (by omega) (fun t ht => hs t (by omega))
      by_cases q : c n = true
      · rw [if_pos q, if_pos (hs n (by omega) q)]; omega
      · rw [if_neg q]
        split <;> omega
section GV
variable {z : T_St} {w : T_Mo} {np nt : Nat} {W O : Nat → Nat} {K : Nat → Nat → Nat} {L : Nat → Nat}
/-- LIKE of a set -/
def lkS (K : Nat → Nat → Nat) (nt p S : Nat) : Nat := nS (K p) (fun t => S.testBit t) nt
theorem lkS_lt (r : RG np nt W O K L) {p S : Nat} (hp : p < np) (hS : S < nBt O nt p) (hw : nWo S (nBt O nt p) = 0) : lkS K nt p S < lkS K nt p (nBt O nt p) := by
  have h7 := r.2.1
  have hb := nBt_lt (O := O) (p := p) h7
  have hsub := nWo_sub (S := S) (b := nBt O nt p) (by omega) hw
  have hex : ∃ u, (nBt O nt p).testBit u = true ∧ S.testBit u = false := by
    apply Classical.byContradiction
    intro hn
    have : S = nBt O nt p := by
      apply Nat.eq_of_testBit_eq
      intro i
      cases hi : S.testBit i with
      | true => exact (hsub i hi).symm
      | false =>
        cases hj : (nBt O nt p).testBit i with
        | false => rfl
        | true => exact absurd ⟨i, hj, hi⟩ hn
    omega
  obtain ⟨u, hu, hc⟩ := hex
  have hun : u < nt := by
    have h1 := nB_bit (fun t => decide (O t = p)) u nt
    unfold nBt at hu
    rw [hu] at h1
    have := h1.symm
    simp at this
    exact this.1
  exact nS_lts hu hc (r.2.2.2.2.1 p u hp hun).1 nt hun (fun t _ ht => hsub t ht)
theorem gvC_no {l own S : Nat} (h : ¬ nWo S own = 0) : gvC W nt l own S = false := by
  unfold gvC
  simp [h]
theorem nWo_self (b : Nat) (hb : b < 128) : nWo b b = 0 := by
  apply Nat.eq_of_testBit_eq
  intro i
  rw [nWo_bit hb]
  cases b.testBit i <;> simp
theorem gvC_own {l own : Nat} (hb : own < 128) : gvC W nt l own own = true := by
  unfold gvC
  rw [nWo_self own hb, nS_none nt (fun t _ => Nat.zero_testBit t)]
  simp
/-- both choices come to one -/
theorem gv_same (r : RG np nt W O K L) {p : Nat} (hp : p < np) : gvA (lkS K nt p) (gvC W nt (L p) (nBt O nt p)) (2 ^ nt) = some (fo (gvB (lkS K nt p) (gvC W nt (L p) (nBt O nt p))) (nBt O nt p) 0 (nBt O nt p, lkS K nt p (nBt O nt p))) ∧
    (fo (gvB (lkS K nt p) (gvC W nt (L p) (nBt O nt p))) (nBt O nt p) 0 (nBt O nt p, lkS K nt p (nBt O nt p))).2 = lkS K nt p (fo (gvB (lkS K nt p) (gvC W nt (L p) (nBt O nt p))) (nBt O nt p) 0 (nBt O nt p, lkS K nt p (nBt O nt p))).1 ∧
    (fo (gvB (lkS K nt p) (gvC W nt (L p) (nBt O nt p))) (nBt O nt p) 0 (nBt O nt p, lkS K nt p (nBt O nt p))).1 < 128 := by
  have h7 := r.2.1
  have h128 := pow_128 h7
  have hb := nBt_pow O nt p
  have hlt := fun S (h : S < nBt O nt p) hw => lkS_lt r hp (S := S) h hw
  generalize nBt O nt p = own at *
  have hown := gvC_own (W := W) (nt := nt) (l := L p) (own := own) (by omega)
  have h1 := fo_two (f := gvS (lkS K nt p) (gvC W nt (L p) own)) (g := gvB (lkS K nt p) (gvC W nt (L p) own)) (fun S a b => ((a = none ∧ b = (own, lkS K nt p own)) ∨ (a = some b ∧ b.2 < lkS K nt p own)) ∧ b.2 = lkS K nt p b.1 ∧ b.1 < 128) own 0 none (own, lkS K nt p own) ⟨Or.inl ⟨rfl, rfl⟩, rfl, by show own < 128; omega⟩ (fun S a b _ hS ⟨hP, hQ, hQ2⟩ => by
    unfold gvS gvB
    by_cases q : gvC W nt (L p) own S = true
    · rw [if_pos q, if_pos q]
      have hw : nWo S own = 0 := by
        apply Classical.byContradiction
        intro y
        rw [gvC_no y] at q
        cases q
      have hl := hlt S (by omega) hw
      rcases hP with ⟨a1, a2⟩ | ⟨a1, a2⟩
      · subst a1 a2
        rw [if_pos hl]
        exact ⟨Or.inr ⟨rfl, hl⟩, rfl, by show S < 128; omega⟩
      · subst a1
        show ((if lkS K nt p S < b.2 then some (S, lkS K nt p S) else some b) = none ∧ _ ∨ (if lkS K nt p S < b.2 then some (S, lkS K nt p S) else some b) = some _ ∧ _) ∧ _
        by_cases y : lkS K nt p S < b.2
        · rw [if_pos y, if_pos y]
          exact ⟨Or.inr ⟨rfl, hl⟩, rfl, by show S < 128; omega⟩
        · rw [if_neg y, if_neg y]
          exact ⟨Or.inr ⟨rfl, a2⟩, hQ, hQ2⟩
    · rw [if_neg q, if_neg q]
      exact ⟨hP, hQ, hQ2⟩)
  obtain ⟨h2, h3, h4⟩ := h1
  refine ⟨?_, h3, h4⟩
  generalize fo (gvB (lkS K nt p) (gvC W nt (L p) own)) own 0 (own, lkS K nt p own) = b at *
  have h5 : gvA (lkS K nt p) (gvC W nt (L p) own) (own + 1) = some b := by
    unfold gvA
    rw [fo_last, Nat.zero_add]
    unfold gvS
    rw [if_pos hown]
    unfold gvS at h2
    rcases h2 with ⟨a1, a2⟩ | ⟨a1, a2⟩
    · rw [a1, a2]
    · rw [a1]
      show (if lkS K nt p own < b.2 then some (own, lkS K nt p own) else some b) = some b
      rw [if_neg (by omega)]
  have ext : ∀ k, own + 1 + k ≤ 2 ^ nt → gvA (lkS K nt p) (gvC W nt (L p) own) (own + 1 + k) = some b := by
    intro k
    induction k with
    | zero => intro _; exact h5
    | succ k ih =>
      intro hk
      have ih := ih (by omega)
      unfold gvA at ih ⊢
      rw [show own + 1 + (k + 1) = (own + 1 + k) + 1 by omega, fo_last, Nat.zero_add, ih]
      unfold gvS
      rw [gvC_no (fun y => by
        have := nWo_le (S := own + 1 + k) (b := own) (by omega) y
        omega)]
      simp
  have := ext (2 ^ nt - (own + 1)) (by omega)
  rw [show own + 1 + (2 ^ nt - (own + 1)) = 2 ^ nt by omega] at this
  exact this
theorem Se_leastGiven (h : SW z np nt W O K L) (r : RG np nt W O K L) {p : Nat} (hp : p < np) : d_Se_leastGiven (nI p) z = some (nI (fo (gvB (lkS K nt p) (gvC W nt (L p) (nBt O nt p))) (nBt O nt p) 0 (nBt O nt p, lkS K nt p (nBt O nt p))).1) := by
  have h4 := r.1
  have h7 := r.2.1
  have hb := nBt_lt (O := O) (p := p) h7
  have i1 : inb (nI p) 4 = true := inb_n (by omega) (by omega)
  have c1 : (nI p).toNatClampNeg = p := nI_clamp (by omega)
  unfold d_Se_leastGiven
  rw [St_bits h r (show p < 4 by omega), Option.bind_some, St_likeOfSet h r hp, Option.bind_some]
  have h1 := lpA2 (z := fun _ _ _ => none) (B := fun self => B_Se_leastGiven_L19 (nI p) (nI (nBt O nt p)) z self) (n := nBt O nt p) (fun a : Nat × Nat => nI a.1) (fun a => nI a.2) (gvB (lkS K nt p) (gvC W nt (L p) (nBt O nt p))) (fun a => some (nI a.1)) (fun _ a => a.2 ≤ 7000)
    (by
      intro self S a hS hP
      have e1 : ¬ nI (nBt O nt p) ≤ nI S := nI_ge hS (by omega)
      have hS8 : S < 128 := by omega
      have kk : (nI (nWo S (nBt O nt p)) = 0) ↔ nWo S (nBt O nt p) = 0 := nI_eq (b := 0) (by have := nWo_lt (nBt O nt p) hS8; omega) (by omega)
      have b1 := nS_350 r (fun t => (nWo (nBt O nt p) S).testBit t)
      have b2 : lkS K nt p S ≤ 7000 := nS_7000 r hp (fun t => S.testBit t)
      have l1 := r.2.2.2.2.2 p hp
      refine ⟨?_, ?_⟩
      · unfold B_Se_leastGiven_L19 gvB
        rw [if_neg e1, ow_wo _ hS8, ow_wo _ hb]
        by_cases y : nWo S (nBt O nt p) = 0
        · rw [if_pos (kk.mpr y), St_weightOfSet h r, Option.bind_some, if_pos i1, c1, h.2.2.2.2.2 p hp, St_likeOfSet h r hp]
          simp only [Option.bind_some, nI_1, nI_ltI (show L p < 2 ^ 31 by omega) (show nS W (fun t => (nWo (nBt O nt p) S).testBit t) nt < 2 ^ 31 by omega)]
          show (if L p < nS W (fun t => (nWo (nBt O nt p) S).testBit t) nt then self (nI a.1) (nI a.2) (nI (S + 1)) else if nI a.2 ≤ nI (lkS K nt p S) then self (nI a.1) (nI a.2) (nI (S + 1)) else self (nI S) (nI (lkS K nt p S)) (nI (S + 1))) = _
          simp only [nI_leI (show a.2 < 2 ^ 31 by omega) (show lkS K nt p S < 2 ^ 31 by omega)]
          unfold gvC
          by_cases q1 : L p < nS W (fun t => (nWo (nBt O nt p) S).testBit t) nt
          · have r1 : ¬ nS W (fun t => (nWo (nBt O nt p) S).testBit t) nt ≤ L p := by omega
            simp [q1, r1]
          have r1 : nS W (fun t => (nWo (nBt O nt p) S).testBit t) nt ≤ L p := by omega
          by_cases q2 : a.2 ≤ lkS K nt p S
          · have r2 : ¬ lkS K nt p S < a.2 := by omega
            simp [q1, q2, r1, r2]
          · have r2 : lkS K nt p S < a.2 := by omega
            simp [q1, q2, r1, r2, y]
        · rw [if_neg (fun y2 => y (kk.mp y2)), gvC_no y, nI_1]
          simp
      · unfold gvB
        split
        · split
          · exact b2
          · exact hP
        · exact hP)
    (by
      intro self a _
      unfold B_Se_leastGiven_L19
      rw [if_pos (Int32.le_refl _)])
    1000 0 (nBt O nt p, lkS K nt p (nBt O nt p)) (Nat.zero_le _) (by omega) (nS_7000 r hp _)
  exact h1
def gv1 (a : Option (Nat × Nat)) : Int32 := match a with
  | none => (-1)
  | some q => nI q.1
def gv2 (a : Option (Nat × Nat)) : Int32 := match a with
  | none => 0
  | some q => nI q.2
theorem Mo_givesL (h : MW w np nt W O K L) (r : RG np nt W O K L) {p own : Nat} (hp : p < np) (hown : own < 128) (x2 : Int32) (k : Int32 → Int32 → Option (Int32 × T_Mo)) : d_Mo_gives_L38 (nI p) x2 (nI own) w k 1000 (-1) 0 0 = k (gv1 (gvA (lkS K nt p) (gvC W nt (L p) own) (2 ^ nt))) (gv2 (gvA (lkS K nt p) (gvC W nt (L p) own) (2 ^ nt))) := by
  have h4 := r.1
  have h7 := r.2.1
  have h128 := pow_128 h7
  have i1 : inb (nI p) 4 = true := inb_n (by omega) (by omega)
  have c1 : (nI p).toNatClampNeg = p := nI_clamp (by omega)
  exact lpA2 (z := fun _ _ _ => none) (B := fun self => B_Mo_gives_L38 (nI p) x2 (nI own) w k self) (n := 2 ^ nt) gv1 gv2 (gvS (lkS K nt p) (gvC W nt (L p) own)) (fun a => k (gv1 a) (gv2 a)) (fun _ a => ∀ q, a = some q → q.1 < 128 ∧ q.2 ≤ 7000)
    (by
      intro self S a hS hP
      have e1 : ¬ nI (2 ^ nt) ≤ nI S := nI_ge hS (by omega)
      have hS8 : S < 128 := by omega
      have kk : (nI (nWo S own) = 0) ↔ nWo S own = 0 := nI_eq (b := 0) (by have := nWo_lt own hS8; omega) (by omega)
      have b1 := nS_350 r (fun t => (nWo own S).testBit t)
      have b2 : lkS K nt p S ≤ 7000 := nS_7000 r hp (fun t => S.testBit t)
      have l1 := r.2.2.2.2.2 p hp
      refine ⟨?_, ?_⟩
      · unfold B_Mo_gives_L38
        rw [h.2.1.1, ow_two (by omega), if_neg e1, ow_wo _ hS8, ow_wo _ hown]
        by_cases y : nWo S own = 0
        · rw [if_pos (kk.mpr y), Mo_weightsOf h.2.1 h7, Option.bind_some, if_pos i1, c1, h.2.2.2 p hp, Mo_likesOf h r hp]
          simp only [Option.bind_some, nI_1, nI_ltI (show L p < 2 ^ 31 by omega) (show nS W (fun t => (nWo own S).testBit t) nt < 2 ^ 31 by omega)]
          unfold gvS gvC
          by_cases q1 : L p < nS W (fun t => (nWo own S).testBit t) nt
          · have r1 : ¬ nS W (fun t => (nWo own S).testBit t) nt ≤ L p := by omega
            simp [q1, r1]
          have r1 : nS W (fun t => (nWo own S).testBit t) nt ≤ L p := by omega
          simp only [q1, r1, y, decide_true, Bool.and_self, if_true, if_false]
          cases a with
          | none =>
            rw [if_pos (show gv1 none = -1 from rfl)]
            rfl
          | some q =>
            have hq := hP q rfl
            rw [if_neg (show ¬ gv1 (some q) = -1 from nI_neg_ne _ (by omega) _ (by decide))]
            show (if nI q.2 ≤ nI (lkS K nt p S) then self (nI q.1) (nI q.2) (nI (S + 1)) else self (nI S) (nI (lkS K nt p S)) (nI (S + 1))) = _
            have kq : (nI q.2 ≤ nI (lkS K nt p S)) ↔ (q.2 ≤ lkS K nt p S) := nI_leI (by omega) (by omega)
            by_cases q2 : q.2 ≤ lkS K nt p S
            · rw [if_pos (kq.mpr q2)]
              simp only [show ¬ lkS K nt p S < q.2 by omega, if_false]
              rfl
            · rw [if_neg (fun y9 => q2 (kq.mp y9))]
              simp only [show lkS K nt p S < q.2 by omega, if_true]
              rfl
        · unfold gvS
          rw [if_neg (fun y2 => y (kk.mp y2)), gvC_no y, nI_1]
          simp
      · intro q hq
        unfold gvS at hq
        split at hq
        · cases a with
          | none =>
            simp only [Option.some.injEq] at hq
            subst hq
            exact ⟨hS8, b2⟩
          | some q' =>
            simp only at hq
            split at hq
            · simp only [Option.some.injEq] at hq
              subst hq
              exact ⟨hS8, b2⟩
            · exact hP q hq
        · exact hP q hq)
    (by
      intro self a _
      unfold B_Mo_gives_L38
      rw [h.2.1.1, ow_two (by omega), if_pos (Int32.le_refl _)])
    1000 0 none (Nat.zero_le _) (by omega) (fun q hq => by cases hq)
end GV
theorem s_gives : S_gives Rl := by
  intro z w x x2 h
  obtain ⟨⟨cl, hR⟩, -⟩ := id h
  have h4 := hR.1.1.2
  have h7 := hR.1.2.1.2
  unfold d_OL_gives d_Mo_gives
  rcases per_cases (y := q_Re_people (q_OL_now z)) (w := w) hR.2.1.1 hR.1.1 x with ⟨h1, h2⟩ | ⟨p, hp, rfl, h1, h2⟩
  · rw [h1, h2]
    exact ⟨_, z, w, rfl, rfl, h⟩
  rw [h1, h2, within_in]
  have z9 : ¬ (1 : Int32) = 0 := by decide
  simp only [Option.bind_some, z9, if_false]
  rcases in_cases x2 1 with h6 | ⟨h6, -, -⟩
  · rw [h6]
    exact ⟨_, z, w, rfl, rfl, h⟩
  rw [h6]
  simp only [Option.bind_some, z9, if_false]
  obtain ⟨z1, F, w1, y1, y2, hT, hS, hw1, hM, hF⟩ := ask2 hR
  rw [y1, y2]
  simp only [Option.bind_some]
  have o4 : ∀ t, t < NN (q_Mo_s w 1) → xOw (q_Mo_s w) t ≤ 4 := fun t ht => hR.RG.o4 ht
  have hb := nBt_lt (O := xOw (q_Mo_s w)) (nt := NN (q_Mo_s w 1)) (p := p) h7
  obtain ⟨a1, a2, a3⟩ := gv_same hR.RG hp
  have g1 : d_Se_leastGiven (nI p) (q_OL_standing (u_OL_now (u_OL_standing z z1) (u_Re_facts (q_OL_now z) F))) = _ := Se_leastGiven hS hR.RG hp
  rw [Mo_thingsOf hM.2.1 h7 o4 (show p < 4 by omega), Option.bind_some, Mo_givesL hM hR.RG hp hb, a1, g1]
  generalize fo (gvB (lkS (xK cl (q_Mo_s w)) (NN (q_Mo_s w 1)) p) (gvC (xWt (q_Mo_s w)) (NN (q_Mo_s w 1)) (xL cl (q_Mo_s w) p) (nBt (xOw (q_Mo_s w)) (NN (q_Mo_s w 1)) p))) (nBt (xOw (q_Mo_s w)) (NN (q_Mo_s w 1)) p) 0 (nBt (xOw (q_Mo_s w)) (NN (q_Mo_s w 1)) p, lkS (xK cl (q_Mo_s w)) (NN (q_Mo_s w 1)) p (nBt (xOw (q_Mo_s w)) (NN (q_Mo_s w 1)) p)) = b at *
  have g2 : d_St_likeOfSet (nI p) (nI b.1) (q_OL_standing (u_OL_now (u_OL_standing z z1) (u_Re_facts (q_OL_now z) F))) = some (nI b.2) := (St_likeOfSet hS hR.RG hp b.1).trans (by rw [a2]; rfl)
  have fin : Rl (u_OL_now (u_OL_standing z z1) (u_Re_facts (q_OL_now z) F)) w1 := by
    refine Rl.set (cl := cl) h ?_ rfl rfl rfl hF
    rw [hw1]
    exact hR
  simp only [Option.bind_some]
  by_cases q0 : x2 = 0
  · rw [if_pos q0, if_pos q0]
    exact ⟨nI b.1, _, w1, rfl, rfl, fin⟩
  · rw [if_neg q0, if_neg q0, g2]
    exact ⟨nI b.2, _, w1, rfl, rfl, fin⟩

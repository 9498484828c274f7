/-! The model's search by staying, and how its searches begin. -/
def MvB (b : WB) (w : T_Mo) : Prop := match b with
  | none => q_Mo_fewest w = -5
  | some q => q_Mo_fewest w = iI (-q.1)
/-- loads alone -/
def MvD (np : Nat) (L : Nat → Nat) (u : Nat → Nat) (w : T_Mo) : Prop := ∀ p, p < np → q_Mo_loads w p = nI (u p) ∧ u p ≤ L p
def BN (b : WB) : Prop := ∀ q, b = some q → -1000 ≤ q.1 ∧ q.1 ≤ 0
theorem eW_P {np : Nat} {W cap : Nat → Nat} {wo : Nat → Nat → Int} (P : Nat → Int → Prop) (Q : Int → Prop) (nt : Nat) (hQ : ∀ r, P nt r → Q r) (hP : ∀ t r p, t < nt → p ≤ np → P t r → ¬ wo t p = NV → P (t + 1) (r + wo t p)) : ∀ (k t : Nat) (r : Int) (u y : Nat → Nat) (b : WB), t + k = nt → P t r → (∀ q, b = some q → Q q.1) → ∀ q, eW np W cap wo k t r u y b = some q → Q q.1
  | 0, t, r, u, y, b, ht, h1, hb => by
    have e : t = nt := by omega
    subst e
    intro q hq
    unfold eW upB at hq
    cases b with
    | none =>
      simp only [Option.some.injEq] at hq
      subst hq
      exact hQ r h1
    | some q' =>
      simp only at hq
      split at hq
      · simp only [Option.some.injEq] at hq
        subst hq
        exact hQ r h1
      · exact hb q hq
  | k + 1, t, r, u, y, b, ht, h1, hb => by
    refine fo_inv (fun _ b => ∀ q, b = some q → Q q.1) (np + 1) 0 b hb (fun p b' _ hp1 hb' => ?_)
    by_cases c : ¬ wo t p = NV ∧ u p + W t ≤ cap p
    · rw [if_pos c]
      exact eW_P P Q nt hQ hP k (t + 1) _ _ _ b' (by omega) (hP t r p (by omega) (by omega) h1 c.1) hb'
    · rw [if_neg c]
      exact hb'
section MV
variable {np nt : Nat} {W O L : Nat → Nat} {K : Nat → Nat → Nat}
theorem woS_v {t p : Nat} : woS np O t p = NV ∨ woS np O t p = 0 ∨ woS np O t p = -1 := by
  unfold woS
  split
  · split
    · exact Or.inl rfl
    · exact Or.inr (Or.inl rfl)
  · split
    · split
      · exact Or.inr (Or.inl rfl)
      · exact Or.inr (Or.inr rfl)
    · exact Or.inl rfl
theorem eW_BN {k t : Nat} {r : Int} {u y cap : Nat → Nat} {b : WB} (h7 : nt ≤ 7) (ht : t + k = nt) (h1 : -(t : Int) ≤ r) (h2 : r ≤ 0) (hb : BN b) : BN (eW np W cap (woS np O) k t r u y b) :=
  eW_P (fun t r => -(t : Int) ≤ r ∧ r ≤ 0) (fun x => -1000 ≤ x ∧ x ≤ 0) nt (fun r h => by omega) (fun t r p _ _ h hn => by
    rcases woS_v (np := np) (O := O) (t := t) (p := p) with q | q | q
    · exact absurd q hn
    · rw [q]; omega
    · rw [q]; omega) k t r u y b ht ⟨h1, h2⟩ hb
theorem MvB_same {b : WB} {w w' : T_Mo} (h : MvB b w) (h1 : q_Mo_fewest w' = q_Mo_fewest w) : MvB b w' := by
  cases b with
  | none => exact h1.trans h
  | some q => exact h1.trans h
theorem Mo_movesL {w0 : T_Mo} (h4 : np ≤ 4) (h7 : nt ≤ 7) (hM : MW w0 np nt W O K L) (hO : ∀ t, t < nt → O t < np ∨ O t = 4) (hW50 : ∀ t, t < nt → W t ≤ 50) (hL : ∀ p, p < np → L p ≤ 2900) : ∀ (k n t : Nat) (r : Int) (u y : Nat → Nat) (b : WB) (w : T_Mo), t + k = nt → k < n → -(t : Int) ≤ r → r ≤ 0 → u np ≤ 50 * t → BN b → FrW w0 w → MvB b w → MvD np L u w →
    ∃ w', d_Mo_movesFrom n (nI t) (iI (-r)) w = some w' ∧ FrW w0 w' ∧ MvB (eW np W (cpL np L) (woS np O) k t r u y b) w' ∧ MvD np L u w'
  | k, 0, _, _, _, _, _, _, _, hn, _, _, _, _, _, _, _ => by omega
  | 0, n + 1, t, r, u, y, b, w, ht, hn, r1, r2, hu, hb, hF, hB, hD => by
    have e : t = nt := by omega
    subst e
    have es : q_Mo_s w 1 = nI t := by rw [hF.1]; exact hM.2.1.1
    show ∃ w', B_Mo_movesFrom (d_Mo_movesFrom n) (nI t) (iI (-r)) w = some w' ∧ _ ∧ MvB (upB b r y) w' ∧ _
    unfold B_Mo_movesFrom
    rw [if_pos es.symm]
    cases b with
    | none =>
      rw [if_pos (show q_Mo_fewest w = -5 from hB)]
      exact ⟨_, rfl, hF, rfl, hD⟩
    | some q =>
      have hq := hb q rfl
      have e : q_Mo_fewest w = iI (-q.1) := hB
      have n5 : ¬ iI (-q.1) = -5 := by
        intro y
        have : (iI (-q.1) = iI (-5)) ↔ -q.1 = -5 := iI_eq (by omega) (by omega) (by omega) (by omega)
        have := this.mp y
        omega
      have k2 : (iI (-q.1) ≤ iI (-r)) ↔ r ≤ q.1 := by
        rw [Int32.le_iff_toInt_le, iI_t (by omega) (by omega), iI_t (by omega) (by omega)]
        omega
      rw [e, if_neg n5]
      show ∃ w', _ ∧ _ ∧ MvB (if q.1 < r then some (r, y) else some q) w' ∧ _
      by_cases h : r ≤ q.1
      · rw [if_pos (k2.mpr h), if_neg (show ¬ q.1 < r by omega)]
        exact ⟨w, rfl, hF, hB, hD⟩
      · rw [if_neg (fun y => h (k2.mp y)), if_pos (show q.1 < r by omega)]
        exact ⟨_, rfl, hF, rfl, hD⟩
  | k + 1, n + 1, t, r, u, y, b, w, ht, hn, r1, r2, hu, hb, hF, hB, hD => by
    have ht' : t < nt := by omega
    have n1 : ¬ nI t = q_Mo_s w 1 := by
      rw [hF.1, hM.2.1.1]
      exact fun y => absurd ((nI_eq (by omega) (by omega)).mp y) (by omega)
    have e4 : inb (58 + nI t) 901 = true := in9 58 (by omega)
    have e5 : (58 + nI t).toNatClampNeg = 58 + t := cl9 58 (by omega)
    have e6 : inb (65 + nI t) 901 = true := in9 65 (by omega)
    have e7 : (65 + nI t).toNatClampNeg = 65 + t := cl9 65 (by omega)
    have wt := hW50 t ht'
    have ho := hO t ht'
    have eo : ∀ a, FrW w0 a → q_Mo_s a (65 + t) = nI (O t) := fun a ha => by rw [ha.1]; exact hM.2.1.2.2 t ht'
    show ∃ w', B_Mo_movesFrom (d_Mo_movesFrom n) (nI t) (iI (-r)) w = some w' ∧ _
    unfold B_Mo_movesFrom
    rw [if_neg n1, if_pos e6, e7, eo w hF, eW_succ]
    have k4 : (nI (O t) = 4) ↔ O t = 4 := nI_eq (b := 4) (by omega) (by omega)
    by_cases q4 : O t = 4
    · -- nobody's: it stays nobody's
      rw [if_pos (k4.mpr q4)]
      have e0 : fo (fE np W (cpL np L) (woS np O) k t r u y) np 0 b = b := by
        refine fo_inv (fun _ c => c = b) np 0 b rfl (fun p c _ hp1 hc => ?_)
        subst hc
        unfold fE
        refine if_neg (fun y => y.1 ?_)
        unfold woS
        rw [if_pos q4, if_pos (by omega)]
      have eS : woS np O t np = 0 := by unfold woS; rw [if_pos q4, if_neg (by omega)]
      have eC : cpL np L np = 350 := if_neg (by omega)
      have hD1 : MvD np L (upn u np (u np + W t)) w := fun q hq => by
        unfold upn
        rw [if_neg (by omega)]
        exact hD q hq
      have hu1 : upn u np (u np + W t) np ≤ 50 * (t + 1) := by
        unfold upn
        rw [if_pos rfl]
        omega
      obtain ⟨w2, s1, s2, s3, s4⟩ := Mo_movesL h4 h7 hM hO hW50 hL k n (t + 1) (r + 0) (upn u np (u np + W t)) (upn y t np) b w (by omega) (by omega) (by omega) (by omega) hu1 hb hF hB hD1
      rw [e0]
      unfold fE
      rw [eS, eC, if_pos (show ¬ (0 : Int) = NV ∧ u np + W t ≤ 350 from ⟨by unfold NV; omega, by omega⟩)]
      refine ⟨w2, ?_, s2, s3, fun q hq => ?_⟩
      · rw [Int.add_zero] at s1
        rw [nI_1, s1]
        rfl
      · have := s4 q hq
        unfold upn at this
        rw [if_neg (by omega)] at this
        exact this
    · rw [if_neg (fun y => q4 (k4.mp y))]
      obtain ⟨w1, ⟨g1, g2, g3, g4⟩, g6⟩ := lpIx (z := fun _ _ => none) (B := fun self => B_Mo_movesFrom_L64 (d_Mo_movesFrom n) (nI t) (iI (-r)) self) (n := np) some
        (fun p a => FrW w0 a ∧ MvB (fo (fE np W (cpL np L) (woS np O) k t r u y) p 0 b) a ∧ MvD np L u a ∧ BN (fo (fE np W (cpL np L) (woS np O) k t r u y) p 0 b))
        (by
          intro self p a hp ⟨aF, aB, aD, aL⟩
          rw [fo_last, Nat.zero_add]
          generalize fo (fE np W (cpL np L) (woS np O) k t r u y) p 0 b = b1 at *
          have d1 : ¬ nI np ≤ nI p := nI_ge hp (by omega)
          have d2 : inb (nI p) 5 = true := inb_n (by omega) (by omega)
          have d4 : inb (nI p) 4 = true := inb_n (by omega) (by omega)
          have d3 : (nI p).toNatClampNeg = p := nI_clamp (by omega)
          have el : q_Mo_lifts a p = nI (L p) := by rw [aF.2.1]; exact hM.2.2.2 p hp
          have eu := aD p hp
          have es0 : q_Mo_s a 0 = nI np := by rw [aF.1]; exact hM.1
          have est : q_Mo_s a (58 + t) = nI (W t) := by rw [aF.1]; exact hM.2.1.2.1 t ht'
          have hc := hL p hp
          have eC : cpL np L p = L p := if_pos hp
          have eS : woS np O t p = if O t = p then 0 else -1 := by unfold woS; rw [if_neg q4, if_pos hp]
          have kr : (nI (L p) < nI (u p) + nI (W t)) ↔ L p < u p + W t := by rw [nI_add]; exact nI_ltI (by omega) (by omega)
          have ko : (nI (O t) = nI p) ↔ O t = p := nI_eq (by omega) (by omega)
          unfold B_Mo_movesFrom_L64 fE
          rw [es0, if_neg d1, if_pos d2, if_pos e4, if_pos d4, d3, e5, el, eu.1, est, eC]
          by_cases q : L p < u p + W t
          · rw [if_pos (kr.mpr q), if_neg (show ¬ (¬ woS np O t p = NV ∧ u p + W t ≤ L p) from fun y => by omega), nI_1]
            exact ⟨a, rfl, aF, aB, aD, aL⟩
          · have nS : ¬ woS np O t p = NV := by rw [eS]; unfold NV; split <;> omega
            rw [if_neg (fun y => q (kr.mp y)), if_pos (show ¬ woS np O t p = NV ∧ u p + W t ≤ L p from ⟨nS, by omega⟩)]
            have aF1 : FrW w0 (u_Mo_loads a (upd (q_Mo_loads a) p (nI (u p + W t)))) := aF
            have aB1 : MvB b1 (u_Mo_loads a (upd (q_Mo_loads a) p (nI (u p + W t)))) := MvB_same aB rfl
            have aD1 : MvD np L (upn u p (u p + W t)) (u_Mo_loads a (upd (q_Mo_loads a) p (nI (u p + W t)))) := by
              intro q hq
              show upd (q_Mo_loads a) p (nI (u p + W t)) q = _ ∧ _
              unfold upn upd
              by_cases e : q = p
              · subst e
                rw [if_pos rfl, if_pos rfl]
                exact ⟨rfl, by omega⟩
              · rw [if_neg e, if_neg e]
                exact aD q hq
            have hu1 : upn u p (u p + W t) np ≤ 50 * (t + 1) := by
              unfold upn
              rw [if_neg (by omega)]
              omega
            have vS : woS np O t p = 0 ∨ woS np O t p = -1 := by rw [eS]; split <;> omega
            obtain ⟨w2, s1, s2, s3, s4⟩ := Mo_movesL h4 h7 hM hO hW50 hL k n (t + 1) (r + woS np O t p) (upn u p (u p + W t)) (upn y t p) b1 _ (by omega) (by omega) (by omega) (by omega) hu1 aL aF1 aB1 aD1
            have f1 : q_Mo_loads w2 p = nI (u p + W t) := by
              have := (s4 p hp).1
              unfold upn at this
              rw [if_pos rfl] at this
              exact this
            have f2 : q_Mo_s w2 (58 + t) = nI (W t) := by rw [s2.1]; exact hM.2.1.2.1 t ht'
            have f3 : q_Mo_loads w2 p - q_Mo_s w2 (58 + t) = nI (u p) := by rw [f1, f2, pk_sub (by omega), Nat.add_sub_cancel]
            refine ⟨u_Mo_loads w2 (upd (q_Mo_loads w2) p (nI (u p))), ?_, s2, MvB_same s3 rfl, ?_, ?_⟩
            · rw [if_pos d2, if_pos e4, if_pos d2, if_pos e6, e7]
              show (if q_Mo_s a (65 + t) = nI p then _ else _) = _
              rw [eo a aF]
              by_cases c : O t = p
              · rw [if_pos (ko.mpr c)]
                rw [eS, if_pos c] at s1
                have hk : d_Mo_movesFrom n (nI t + 1) (iI (-r) + 0) (u_Mo_loads a (upd (q_Mo_loads a) p (nI (u p) + nI (W t)))) = some w2 := by
                  show d_Mo_movesFrom n (nI t + 1) (iI (-r) + iI 0) (u_Mo_loads a (upd (q_Mo_loads a) p (nI (u p) + nI (W t)))) = some w2
                  rw [iI_add, nI_add, nI_1, show -r + 0 = -(r + 0) by omega]
                  exact s1
                refine Eq.trans (congrArg (fun o => Option.bind o _) hk) ?_
                show (if inb (nI p) 5 = true then (if inb (58 + nI t) 901 = true then (if inb (nI p) 5 = true then (self (nI p + 1) (u_Mo_loads w2 (upd (q_Mo_loads w2) p (q_Mo_loads w2 p - q_Mo_s w2 (58 + t))))) else none) else none) else none) = _
                rw [if_pos d2, if_pos e4, if_pos d2, f3, nI_1]
              · rw [if_neg (fun y => c (ko.mp y))]
                rw [eS, if_neg c] at s1
                have hk : d_Mo_movesFrom n (nI t + 1) (iI (-r) + 1) (u_Mo_loads a (upd (q_Mo_loads a) p (nI (u p) + nI (W t)))) = some w2 := by
                  show d_Mo_movesFrom n (nI t + 1) (iI (-r) + iI 1) (u_Mo_loads a (upd (q_Mo_loads a) p (nI (u p) + nI (W t)))) = some w2
                  rw [iI_add, nI_add, nI_1, show -r + 1 = -(r + -1) by omega]
                  exact s1
                refine Eq.trans (congrArg (fun o => Option.bind o _) hk) ?_
                show (if inb (nI p) 5 = true then (if inb (58 + nI t) 901 = true then (if inb (nI p) 5 = true then (self (nI p + 1) (u_Mo_loads w2 (upd (q_Mo_loads w2) p (q_Mo_loads w2 p - q_Mo_s w2 (58 + t))))) else none) else none) else none) = _
                rw [if_pos d2, if_pos e4, if_pos d2, f3, nI_1]
            · intro q hq
              show upd (q_Mo_loads w2) p (nI (u p)) q = _ ∧ _
              have := s4 q hq
              unfold upn at this
              unfold upd
              by_cases e : q = p
              · subst e
                rw [if_pos rfl]
                exact ⟨rfl, eu.2⟩
              · rw [if_neg e]
                rw [if_neg e] at this
                exact this
            · exact eW_BN h7 (by omega) (by omega) (by omega) aL)
        (by
          intro self a ⟨aF, _⟩
          unfold B_Mo_movesFrom_L64
          rw [if_pos (by rw [aF.1, hM.1]; exact Int32.le_refl _)])
        1000 0 w (by omega) (by omega) ⟨hF, hB, hD, hb⟩
      refine ⟨w1, g6, g1, ?_, g3⟩
      have eS : woS np O t np = NV := by unfold woS; rw [if_neg q4, if_neg (by omega)]
      unfold fE at g2 ⊢
      rw [if_neg (fun y => y.1 eS)]
      exact g2
theorem Mo_beginsL {w : T_Mo} : ∃ w', d_Mo_begins_L6 1000 0 w = some w' ∧ FrW w w' ∧ q_Mo_bestLike w' = -1 ∧ q_Mo_mostOwned w' = 0 ∧ q_Mo_fewest w' = -5 ∧ ∀ p, p < 5 → q_Mo_loads w' p = nI 0 := by
  obtain ⟨a, ⟨g1, g2⟩, g3⟩ := lpIx (z := fun _ _ => none) (B := fun self => B_Mo_begins_L6 self) (n := 5) (fun a => some (u_Mo_fewest (u_Mo_mostOwned (u_Mo_bestLike a (-1)) 0) (-5))) (fun p a => FrW w a ∧ ∀ q, q < p → q_Mo_loads a q = nI 0)
    (by
      intro self p a hp ⟨aF, aL⟩
      have d2 : inb (nI p) 5 = true := inb_n (by omega) (by omega)
      have d3 : (nI p).toNatClampNeg = p := nI_clamp (by omega)
      have d1 : ¬ (5 : Int32) ≤ nI p := nI_ge (b := 5) (by omega) (by omega)
      refine ⟨u_Mo_loads a (upd (q_Mo_loads a) p 0), ?_, aF, fun q hq => ?_⟩
      · unfold B_Mo_begins_L6
        rw [if_neg d1, if_pos d2, nI_1, d3]
      · show upd (q_Mo_loads a) p 0 q = _
        unfold upd
        by_cases e : q = p
        · rw [if_pos e]
          rfl
        · rw [if_neg e]
          exact aL q (by omega))
    (by
      intro self a _
      unfold B_Mo_begins_L6
      exact if_pos (by decide))
    1000 0 w (by omega) (by omega) ⟨⟨rfl, rfl, rfl, FrM.rf⟩, fun q hq => by omega⟩
  exact ⟨_, g3, g1, rfl, rfl, rfl, g2⟩
theorem MW_FrW {w w' : T_Mo} (h : MW w np nt W O K L) (hF : FrW w w') : MW w' np nt W O K L := by
  obtain ⟨h1, ⟨h2, h3, h4⟩, h5, h6⟩ := h
  exact ⟨by rw [hF.1]; exact h1, ⟨by rw [hF.1]; exact h2, fun t ht => by rw [hF.1]; exact h3 t ht, fun t ht => by rw [hF.1]; exact h4 t ht⟩, fun p t hp ht => by rw [hF.2.2.1]; exact h5 p t hp ht, fun p hp => by rw [hF.2.1]; exact h6 p hp⟩
end MV

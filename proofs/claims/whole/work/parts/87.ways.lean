/-! The model's search, by like and by number at once. -/
def fE (np : Nat) (W cap : Nat → Nat) (wo : Nat → Nat → Int) (k t : Nat) (r : Int) (u y : Nat → Nat) (p : Nat) (b : WB) : WB :=
  if ¬ wo t p = NV ∧ u p + W t ≤ cap p then eW np W cap wo k (t + 1) (r + wo t p) (upn u p (u p + W t)) (upn y t p) b else b
theorem eW_succ {np : Nat} {W cap : Nat → Nat} {wo : Nat → Nat → Int} {k t : Nat} {r : Int} {u y : Nat → Nat} {b : WB} : eW np W cap wo (k + 1) t r u y b = fE np W cap wo k t r u y np (fo (fE np W cap wo k t r u y) np 0 b) := by
  show fo (fE np W cap wo k t r u y) (np + 1) 0 b = _
  rw [fo_last, Nat.zero_add]
/-- whose, in the model -/
def wM (np x : Nat) : Int32 := if x < np then nI x else 4
def FrW (w0 w : T_Mo) : Prop := q_Mo_s w = q_Mo_s w0 ∧ q_Mo_lifts w = q_Mo_lifts w0 ∧ q_Mo_likes w = q_Mo_likes w0 ∧ FrM w0 w
def MwL (np nt : Nat) (b : WB) (w : T_Mo) : Prop := match b with
  | none => q_Mo_bestLike w = -1
  | some q => q_Mo_bestLike w = iI q.1 ∧ ∀ t, t < nt → q_Mo_bestWay w t = wM np (q.2 t)
def vO (b : WB) : Int := match b with
  | none => 0
  | some q => q.1
def MwB (np nt : Nat) (bL bM : WB) (w : T_Mo) : Prop := MwL np nt bL w ∧ q_Mo_mostOwned w = iI (vO bM)
def MwD (np : Nat) (L : Nat → Nat) (t : Nat) (u y : Nat → Nat) (w : T_Mo) : Prop :=
  (∀ p, p < np → q_Mo_loads w p = nI (u p) ∧ u p ≤ L p) ∧ ∀ j, j < t → q_Mo_way w j = wM np (y j)
def WBn (b : WB) : Prop := ∀ q, b = some q → 0 ≤ q.1
section MWs
variable {np nt : Nat} {W O L : Nat → Nat} {K : Nat → Nat → Nat}
theorem Mo_copyWay {w0 w : T_Mo} {u y : Nat → Nat} {r : Int} {t : Nat} (h7 : t ≤ 7) (hF : FrW w0 w) (hD : MwD np L t u y w) (rc : Int32 → Int32 → Int32 → T_Mo → Option T_Mo) :
    ∃ w', d_Mo_waysFrom_L46 rc 1000 0 (u_Mo_bestLike w (iI r)) = some w' ∧ FrW w0 w' ∧ MwL np t (some (r, y)) w' ∧ q_Mo_mostOwned w' = q_Mo_mostOwned w ∧ MwD np L t u y w' := by
  obtain ⟨w', ⟨g1, g2, g3, g4, g5⟩, g6⟩ := lpIx (z := fun _ _ => none) (B := fun self => B_Mo_waysFrom_L46 rc self) (n := 7) some
    (fun i a => FrW w0 a ∧ q_Mo_bestLike a = iI r ∧ (∀ j, j < i → j < t → q_Mo_bestWay a j = wM np (y j)) ∧ q_Mo_mostOwned a = q_Mo_mostOwned w ∧ MwD np L t u y a)
    (by
      intro self i a hi ⟨a1, a2, a3, a4, a5⟩
      have c0 : inb (nI i) 7 = true := inb_n (by omega) (by omega)
      have c1 : (nI i).toNatClampNeg = i := nI_clamp (by omega)
      have c2 : ¬ (7 : Int32) ≤ nI i := nI_ge (b := 7) (by omega) (by omega)
      refine ⟨u_Mo_bestWay a (upd (q_Mo_bestWay a) i (q_Mo_way a i)), ?_, a1, a2, fun j hj hjt => ?_, a4, a5⟩
      · unfold B_Mo_waysFrom_L46
        rw [if_neg c2, if_pos c0, if_pos c0, nI_1, c1]
      · show upd (q_Mo_bestWay a) i (q_Mo_way a i) j = _
        unfold upd
        by_cases e : j = i
        · subst e
          rw [if_pos rfl]
          exact a5.2 j hjt
        · rw [if_neg e]
          exact a3 j (by omega) hjt)
    (by
      intro self a _
      unfold B_Mo_waysFrom_L46
      exact if_pos (by decide))
    1000 0 (u_Mo_bestLike w (iI r)) (by omega) (by omega) ⟨hF, rfl, fun j hj => by omega, rfl, hD⟩
  exact ⟨w', g6, g1, ⟨g2, fun j hj => g3 j (by omega) hj⟩, g4, g5⟩
theorem MwL_same {b : WB} {w w' : T_Mo} (h : MwL np nt b w) (h1 : q_Mo_bestLike w' = q_Mo_bestLike w) (h2 : q_Mo_bestWay w' = q_Mo_bestWay w) : MwL np nt b w' := by
  cases b with
  | none => exact h1.trans h
  | some q => exact ⟨h1.trans h.1, fun t ht => by rw [h2]; exact h.2 t ht⟩
/-- the leaf -/
theorem Mo_leafL {w0 w : T_Mo} {u y : Nat → Nat} {r c : Int} {t : Nat} {bL bM : WB} (h7 : t ≤ 7) (hF : FrW w0 w) (hB : MwB np t bL bM w) (hD : MwD np L t u y w) (hr : 0 ≤ r ∧ r ≤ 8000) (hc : 0 ≤ c ∧ c ≤ 8000) (hbL : BO bL) (hbM : BO bM) (es : q_Mo_s w 1 = nI t) (rc : Int32 → Int32 → Int32 → T_Mo → Option T_Mo) :
    ∃ w', B_Mo_waysFrom rc (nI t) (iI r) (iI c) w = some w' ∧ FrW w0 w' ∧ MwB np t (upB bL r y) (upB bM c y) w' ∧ MwD np L t u y w' := by
  obtain ⟨hL, hM⟩ := hB
  have vB : -8000 ≤ vO bM ∧ vO bM ≤ 8000 := by
    unfold vO
    cases bM with
    | none => exact (by decide : -8000 ≤ (0 : Int) ∧ (0 : Int) ≤ 8000)
    | some q => exact hbM q rfl
  have k1 : (iI c ≤ iI (vO bM)) ↔ c ≤ vO bM := by
    rw [Int32.le_iff_toInt_le, iI_t (by omega) (by omega), iI_t (by omega) (by omega)]
  have eM : vO (upB bM c y) = if c ≤ vO bM then vO bM else c := by
    cases bM with
    | none =>
      show c = if c ≤ 0 then 0 else c
      split <;> omega
    | some q =>
      show vO (if q.1 < c then some (c, y) else some q) = if c ≤ q.1 then q.1 else c
      by_cases h : q.1 < c
      · rw [if_pos h, if_neg (by omega)]
        rfl
      · rw [if_neg h, if_pos (by omega)]
        rfl
  -- the likes
  have like : ∀ w1 : T_Mo, FrW w0 w1 → MwL np t bL w1 → MwD np L t u y w1 → ∃ w', (if iI r ≤ q_Mo_bestLike w1 then some w1 else d_Mo_waysFrom_L46 rc 1000 0 (u_Mo_bestLike w1 (iI r))) = some w' ∧ FrW w0 w' ∧ MwL np t (upB bL r y) w' ∧ q_Mo_mostOwned w' = q_Mo_mostOwned w1 ∧ MwD np L t u y w' := by
    intro w1 hF1 hL1 hD1
    cases bL with
    | none =>
      have e : q_Mo_bestLike w1 = -1 := hL1
      have n1 : ¬ iI r ≤ -1 := by
        rw [Int32.le_iff_toInt_le, iI_t (by omega) (by omega), show (-1 : Int32).toInt = -1 from rfl]
        omega
      rw [e, if_neg n1]
      exact Mo_copyWay h7 hF1 hD1 rc
    | some q =>
      have hq := hbL q rfl
      have k2 : (iI r ≤ iI q.1) ↔ r ≤ q.1 := by
        rw [Int32.le_iff_toInt_le, iI_t (by omega) (by omega), iI_t (by omega) (by omega)]
      show ∃ w', _ ∧ _ ∧ MwL np t (if q.1 < r then some (r, y) else some q) w' ∧ _
      rw [hL1.1]
      by_cases h : r ≤ q.1
      · rw [if_pos (k2.mpr h), if_neg (show ¬ q.1 < r by omega)]
        exact ⟨w1, rfl, hF1, hL1, rfl, hD1⟩
      · rw [if_neg (fun y => h (k2.mp y)), if_pos (show q.1 < r by omega)]
        exact Mo_copyWay h7 hF1 hD1 rc
  unfold B_Mo_waysFrom
  rw [if_pos es.symm, hM]
  by_cases h : c ≤ vO bM
  · rw [if_pos (k1.mpr h)]
    obtain ⟨w', r1, r2, r3, r4, r5⟩ := like w hF hL hD
    refine ⟨w', r1, r2, ⟨r3, ?_⟩, r5⟩
    rw [r4, hM, eM, if_pos h]
  · rw [if_neg (fun y => h (k1.mp y))]
    obtain ⟨w', r1, r2, r3, r4, r5⟩ := like (u_Mo_mostOwned w (iI c)) hF (MwL_same hL rfl rfl) hD
    refine ⟨w', r1, r2, ⟨r3, ?_⟩, r5⟩
    rw [r4, eM, if_neg h]
theorem Mo_waysL {w0 : T_Mo} (h4 : np ≤ 4) (h7 : nt ≤ 7) (hM : MW w0 np nt W O K L) (hK : ∀ p t, p < np → t < nt → 1 ≤ K p t ∧ K p t ≤ 1000) (hW50 : ∀ t, t < nt → W t ≤ 50) (hL : ∀ p, p < np → L p ≤ 2900) : ∀ (k n t : Nat) (r c : Int) (u y : Nat → Nat) (bL bM : WB) (w : T_Mo), t + k = nt → k < n → 0 ≤ r → r ≤ 1000 * (t : Int) → 0 ≤ c → c ≤ (t : Int) → u np ≤ 50 * t → BO bL → BO bM → FrW w0 w → MwB np nt bL bM w → MwD np L t u y w →
    ∃ w', d_Mo_waysFrom n (nI t) (iI r) (iI c) w = some w' ∧ FrW w0 w' ∧ MwB np nt (eW np W (cpL np L) (woK np K) k t r u y bL) (eW np W (cpL np L) (woN np) k t c u y bM) w' ∧ MwD np L t u y w'
  | k, 0, _, _, _, _, _, _, _, _, _, hn, _, _, _, _, _, _, _, _, _, _ => by omega
  | 0, n + 1, t, r, c, u, y, bL, bM, w, ht, hn, r1, r2, c1, c2, hu, hbL, hbM, hF, hB, hD => by
    have e : t = nt := by omega
    subst e
    exact Mo_leafL h7 hF hB hD ⟨r1, by omega⟩ ⟨c1, by omega⟩ hbL hbM (by rw [hF.1]; exact hM.2.1.1) (d_Mo_waysFrom n)
  | k + 1, n + 1, t, r, c, u, y, bL, bM, w, ht, hn, r1, r2, c1, c2, hu, hbL, hbM, hF, hB, hD => by
    have ht' : t < nt := by omega
    have n1 : ¬ nI t = q_Mo_s w 1 := by
      rw [hF.1, hM.2.1.1]
      exact fun y => absurd ((nI_eq (by omega) (by omega)).mp y) (by omega)
    have e2 : inb (nI t) 7 = true := inb_n (by omega) (by omega)
    have e3 : (nI t).toNatClampNeg = t := nI_clamp (by omega)
    have e4 : inb (58 + nI t) 901 = true := in9 58 (by omega)
    have e5 : (58 + nI t).toNatClampNeg = 58 + t := cl9 58 (by omega)
    have wt := hW50 t ht'
    have OK := woK_O (nt := nt) hK
    have ON : WoO np nt (woN np) := woN_O
    show ∃ w', B_Mo_waysFrom (d_Mo_waysFrom n) (nI t) (iI r) (iI c) w = some w' ∧ _
    unfold B_Mo_waysFrom
    rw [if_neg n1, eW_succ, eW_succ]
    obtain ⟨w1, ⟨g1, g2, g3, g4, g5⟩, g6⟩ := lpIx (z := fun _ _ => none) (B := fun self => B_Mo_waysFrom_L77 (d_Mo_waysFrom n) (nI t) (iI r) (iI c) self) (n := np)
      (fun z => (d_Mo_waysFrom n (nI (t + 1)) (iI r) (iI c) (u_Mo_way z (upd (q_Mo_way z) t 4))).bind fun v_3 => some v_3)
      (fun p a => FrW w0 a ∧ MwB np nt (fo (fE np W (cpL np L) (woK np K) k t r u y) p 0 bL) (fo (fE np W (cpL np L) (woN np) k t c u y) p 0 bM) a ∧ MwD np L t u y a ∧ BO (fo (fE np W (cpL np L) (woK np K) k t r u y) p 0 bL) ∧ BO (fo (fE np W (cpL np L) (woN np) k t c u y) p 0 bM))
      (by
        intro self p a hp ⟨aF, aB, aD, aL, aM⟩
        rw [fo_last, fo_last, Nat.zero_add]
        generalize fo (fE np W (cpL np L) (woK np K) k t r u y) p 0 bL = b1 at *
        generalize fo (fE np W (cpL np L) (woN np) k t c u y) p 0 bM = b2 at *
        have d1 : ¬ nI np ≤ nI p := nI_ge hp (by omega)
        have d2 : inb (nI p) 5 = true := inb_n (by omega) (by omega)
        have d4 : inb (nI p) 4 = true := inb_n (by omega) (by omega)
        have d3 : (nI p).toNatClampNeg = p := nI_clamp (by omega)
        have d5 : inb (nI (7 * p + t)) 28 = true := inb_n (by omega) (by omega)
        have d6 : (nI (7 * p + t)).toNatClampNeg = 7 * p + t := nI_clamp (by omega)
        have el : q_Mo_lifts a p = nI (L p) := by rw [aF.2.1]; exact hM.2.2.2 p hp
        have ek : q_Mo_likes a (7 * p + t) = nI (K p t) := by rw [aF.2.2.1]; exact hM.2.2.1 p t hp ht'
        have eo := aD.1 p hp
        have es0 : q_Mo_s a 0 = nI np := by rw [aF.1]; exact hM.1
        have est : q_Mo_s a (58 + t) = nI (W t) := by rw [aF.1]; exact hM.2.1.2.1 t ht'
        have hc := hL p hp
        have kb := hK p t hp ht'
        have eK : woK np K t p = (K p t : Int) := if_pos hp
        have eN : woN np t p = 1 := if_pos hp
        have eC : cpL np L p = L p := if_pos hp
        have kr : (nI (L p) < nI (u p) + nI (W t)) ↔ L p < u p + W t := by rw [nI_add]; exact nI_ltI (by omega) (by omega)
        unfold B_Mo_waysFrom_L77 fE
        rw [es0, if_neg d1, if_pos d2, if_pos e4, if_pos d4, d3, e5, el, eo.1, est, eK, eN, eC]
        by_cases q : L p < u p + W t
        · rw [if_pos (kr.mpr q), if_neg (show ¬ (¬ (K p t : Int) = NV ∧ u p + W t ≤ L p) from fun y => by omega), if_neg (show ¬ (¬ (1 : Int) = NV ∧ u p + W t ≤ L p) from fun y => by omega), nI_1]
          exact ⟨a, rfl, aF, aB, aD, aL, aM⟩
        · rw [if_neg (fun y => q (kr.mp y)), if_pos (show ¬ (K p t : Int) = NV ∧ u p + W t ≤ L p from ⟨by unfold NV; omega, by omega⟩), if_pos (show ¬ (1 : Int) = NV ∧ u p + W t ≤ L p from ⟨by unfold NV; omega, by omega⟩)]
          have aB1 : MwB np nt b1 b2 (u_Mo_way (u_Mo_loads a (upd (q_Mo_loads a) p (nI (u p + W t)))) (upd (q_Mo_way a) t (nI p))) := ⟨MwL_same aB.1 rfl rfl, aB.2⟩
          have aD1 : MwD np L (t + 1) (upn u p (u p + W t)) (upn y t p) (u_Mo_way (u_Mo_loads a (upd (q_Mo_loads a) p (nI (u p + W t)))) (upd (q_Mo_way a) t (nI p))) := by
            refine ⟨fun q hq => ?_, fun j hj => ?_⟩
            · show upd (q_Mo_loads a) p (nI (u p + W t)) q = _ ∧ _
              unfold upn upd
              by_cases e : q = p
              · subst e
                rw [if_pos rfl, if_pos rfl]
                exact ⟨rfl, by omega⟩
              · rw [if_neg e, if_neg e]
                exact aD.1 q hq
            · show upd (q_Mo_way a) t (nI p) j = _
              unfold upn upd
              by_cases e : j = t
              · rw [if_pos e, if_pos e]
                unfold wM
                rw [if_pos hp]
              · rw [if_neg e, if_neg e]
                exact aD.2 j (by omega)
          have aF1 : FrW w0 (u_Mo_way (u_Mo_loads a (upd (q_Mo_loads a) p (nI (u p + W t)))) (upd (q_Mo_way a) t (nI p))) := aF
          have hu1 : upn u p (u p + W t) np ≤ 50 * (t + 1) := by
            unfold upn
            rw [if_neg (by omega)]
            omega
          obtain ⟨w2, s1, s2, s3, s4⟩ := Mo_waysL h4 h7 hM hK hW50 hL k n (t + 1) (r + (K p t : Int)) (c + 1) (upn u p (u p + W t)) (upn y t p) b1 b2 _ (by omega) (by omega) (by omega) (by omega) (by omega) (by omega) hu1 aL aM aF1 aB1 aD1
          have f1 : q_Mo_loads w2 p = nI (u p + W t) := by
            have := (s4.1 p hp).1
            unfold upn at this
            rw [if_pos rfl] at this
            exact this
          have f2 : q_Mo_s w2 (58 + t) = nI (W t) := by rw [s2.1]; exact hM.2.1.2.1 t ht'
          have f3 : q_Mo_loads w2 p - q_Mo_s w2 (58 + t) = nI (u p) := by rw [f1, f2, pk_sub (by omega), Nat.add_sub_cancel]
          refine ⟨u_Mo_loads w2 (upd (q_Mo_loads w2) p (nI (u p))), ?_, s2, ⟨MwL_same s3.1 rfl rfl, s3.2⟩, ?_, ?_, ?_⟩
          · rw [if_pos d2, if_pos e4, if_pos d2, if_pos e2, ow_7, if_pos d5, d6, e3]
            have hk : d_Mo_waysFrom n (nI t + 1) (iI r + q_Mo_likes (u_Mo_way (u_Mo_loads a (upd (q_Mo_loads a) p (nI (u p) + nI (W t)))) (upd (q_Mo_way (u_Mo_loads a (upd (q_Mo_loads a) p (nI (u p) + nI (W t))))) t (nI p))) (7 * p + t)) (iI c + 1) (u_Mo_way (u_Mo_loads a (upd (q_Mo_loads a) p (nI (u p) + nI (W t)))) (upd (q_Mo_way (u_Mo_loads a (upd (q_Mo_loads a) p (nI (u p) + nI (W t))))) t (nI p))) = some w2 := by
              show d_Mo_waysFrom n (nI t + 1) (iI r + q_Mo_likes a (7 * p + t)) (iI c + iI 1) (u_Mo_way (u_Mo_loads a (upd (q_Mo_loads a) p (nI (u p) + nI (W t)))) (upd (q_Mo_way a) t (nI p))) = some w2
              rw [ek, ← iI_nat (K p t), iI_add, iI_add, nI_add, nI_1]
              exact s1
            refine Eq.trans (congrArg (fun o => Option.bind o _) hk) ?_
            show (if inb (nI p) 5 = true then (if inb (58 + nI t) 901 = true then (if inb (nI p) 5 = true then (self (nI p + 1) (u_Mo_loads w2 (upd (q_Mo_loads w2) p (q_Mo_loads w2 p - q_Mo_s w2 (58 + t))))) else none) else none) else none) = _
            rw [if_pos d2, if_pos e4, if_pos d2, f3, nI_1]
          · refine ⟨fun q hq => ?_, fun j hj => ?_⟩
            · show upd (q_Mo_loads w2) p (nI (u p)) q = _ ∧ _
              have := s4.1 q hq
              unfold upn at this
              unfold upd
              by_cases e : q = p
              · subst e
                rw [if_pos rfl]
                exact ⟨rfl, eo.2⟩
              · rw [if_neg e]
                rw [if_neg e] at this
                exact this
            · have := s4.2 j (by omega)
              unfold upn at this
              rw [if_neg (by omega)] at this
              exact this
          · exact eW_BO OK h7 k (t + 1) _ _ _ b1 (by omega) (by omega) (by omega) aL
          · exact eW_BO ON h7 k (t + 1) _ _ _ b2 (by omega) (by omega) (by omega) aM)
      (by
        intro self a ⟨aF, _⟩
        unfold B_Mo_waysFrom_L77
        rw [if_pos (by rw [aF.1, hM.1]; exact Int32.le_refl _), if_pos e2, nI_1, e3])
      1000 0 w (by omega) (by omega) ⟨hF, hB, hD, hbL, hbM⟩
    generalize fo (fE np W (cpL np L) (woK np K) k t r u y) np 0 bL = b1 at *
    generalize fo (fE np W (cpL np L) (woN np) k t c u y) np 0 bM = b2 at *
    have eK : woK np K t np = 0 := if_neg (by omega)
    have eN : woN np t np = 0 := if_neg (by omega)
    have eC : cpL np L np = 350 := if_neg (by omega)
    have aB1 : MwB np nt b1 b2 (u_Mo_way w1 (upd (q_Mo_way w1) t 4)) := ⟨MwL_same g2.1 rfl rfl, g2.2⟩
    have aD1 : MwD np L (t + 1) (upn u np (u np + W t)) (upn y t np) (u_Mo_way w1 (upd (q_Mo_way w1) t 4)) := by
      refine ⟨fun q hq => ?_, fun j hj => ?_⟩
      · show q_Mo_loads w1 q = _ ∧ _
        unfold upn
        rw [if_neg (by omega)]
        exact g3.1 q hq
      · show upd (q_Mo_way w1) t 4 j = _
        unfold upn upd
        by_cases e : j = t
        · rw [if_pos e, if_pos e]
          unfold wM
          rw [if_neg (by omega)]
        · rw [if_neg e, if_neg e]
          exact g3.2 j (by omega)
    have aF1 : FrW w0 (u_Mo_way w1 (upd (q_Mo_way w1) t 4)) := g1
    have hu1 : upn u np (u np + W t) np ≤ 50 * (t + 1) := by
      unfold upn
      rw [if_pos rfl]
      omega
    obtain ⟨w2, s1, s2, s3, s4⟩ := Mo_waysL h4 h7 hM hK hW50 hL k n (t + 1) (r + 0) (c + 0) (upn u np (u np + W t)) (upn y t np) b1 b2 _ (by omega) (by omega) (by omega) (by omega) (by omega) (by omega) hu1 g4 g5 aF1 aB1 aD1
    unfold fE
    rw [eK, eN, eC, if_pos (show ¬ (0 : Int) = NV ∧ u np + W t ≤ 350 from ⟨by unfold NV; omega, by omega⟩), if_pos (show ¬ (0 : Int) = NV ∧ u np + W t ≤ 350 from ⟨by unfold NV; omega, by omega⟩)]
    refine ⟨w2, g6.trans ?_, s2, s3, fun q hq => ?_, fun j hj => ?_⟩
    · rw [Int.add_zero, Int.add_zero] at s1
      rw [s1]
      rfl
    · have := s4.1 q hq
      unfold upn at this
      rw [if_neg (by omega)] at this
      exact this
    · have := s4.2 j (by omega)
      unfold upn at this
      rw [if_neg (by omega)] at this
      exact this
end MWs

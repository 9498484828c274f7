/-! The relation of both sides, block by block. -/
def RgP (s : Nat → Int32) (nt p : Nat) : Prop := rg (s (10 + p)) 6 ∧ rg (s (14 + p)) 9 ∧ rg (s (18 + p)) 99 ∧ rg (s (22 + p)) 99 ∧ rg (s (26 + p)) 7 ∧ ∀ i, i < NN (s (26 + p)) → rg (s (30 + 7 * p + i)) 6 ∧ NN (s (30 + 7 * p + i)) < nt
def ReP (y : T_Pe) (s : Nat → Int32) (p : Nat) : Prop := q_Pe_kind y p = s (10 + p) ∧ q_Pe_v y p = s (14 + p) ∧ q_Pe_strength y p = s (18 + p) ∧ q_Pe_age y p = s (22 + p) ∧ q_Pe_rowSize y p = s (26 + p) ∧ ∀ i, i < NN (s (26 + p)) → q_Pe_rows y p i = s (30 + 7 * p + i)
def RgT (s : Nat → Int32) (np t : Nat) : Prop := rg (s (58 + t)) 50 ∧ rg (s (65 + t)) 4 ∧ (NN (s (65 + t)) < np ∨ NN (s (65 + t)) = 4)
def ReT (y : T_Th) (s : Nat → Int32) (t : Nat) : Prop := q_Th_weight y t = s (58 + t) ∧ q_Th_owner y t = oC (NN (s (65 + t)))
def RgW (s : Nat → Int32) (np i : Nat) : Prop := rg (s (72 + i)) 3 ∧ NN (s (72 + i)) < np ∧ (s (84 + i) = 0 ∨ s (84 + i) = 1)
def ReW (r : T_Re) (s : Nat → Int32) (i : Nat) : Prop := q_Re_seenWho r i = s (72 + i) ∧ q_Re_seenCould r i = s (84 + i)
def Hol (s : Nat → Int32) : Prop := s 5 = -1 ∨ ∃ h, s 5 = nI h ∧ h < NN (s 2)
def RC (r : T_Re) (s : Nat → Int32) (cl : CL) : Prop :=
  (rg (s 0) 4 ∧ rg (s 1) 7 ∧ rg (s 2) 5 ∧ rg (s 3) 12 ∧ rg (s 4) 100 ∧ rg (s 6) 99) ∧
  (q_Pe_size (q_Re_people r) = s 0 ∧ q_Th_size (q_Re_things r) = s 1 ∧ q_Re_lands r = s 2 ∧ q_Re_seen r = s 3 ∧ q_Re_signs r = s 4 ∧ q_Re_year r = s 6) ∧
  (∀ p, p < NN (s 0) → RgP s (NN (s 1)) p ∧ ReP (q_Re_people r) s p) ∧
  (∀ t, t < NN (s 1) → RgT s (NN (s 0)) t ∧ ReT (q_Re_things r) s t) ∧
  (∀ i, i < NN (s 3) → RgW s (NN (s 0)) i ∧ ReW r s i) ∧
  (∀ i, i < NN (s 4) → rg (s (96 + i)) 127 ∧ q_Re_tape r i = s (96 + i)) ∧
  (LcR (q_Re_land r) s cl ∧ Hol s)
theorem RC.rg {r : T_Re} {s : Nat → Int32} {cl : CL} (h : RC r s cl) : RgS s :=
  ⟨h.1.1, h.1.2.1, h.1.2.2.1, h.1.2.2.2.1, h.1.2.2.2.2.1, h.1.2.2.2.2.2, fun p hp => (h.2.2.1 p hp).1, fun t ht => (h.2.2.2.1 t ht).1, fun i hi => (h.2.2.2.2.1 i hi).1, fun i hi => (h.2.2.2.2.2.1 i hi).1, h.2.2.2.2.2.2.2⟩
theorem RC.re {r : T_Re} {s : Nat → Int32} {cl : CL} (h : RC r s cl) : ReC r s cl :=
  ⟨h.2.1.1, h.2.1.2.1, h.2.1.2.2.1, h.2.1.2.2.2.1, h.2.1.2.2.2.2.1, h.2.1.2.2.2.2.2, fun p hp => (h.2.2.1 p hp).2, fun t ht => (h.2.2.2.1 t ht).2, fun i hi => (h.2.2.2.2.1 i hi).2, fun i hi => (h.2.2.2.2.2.1 i hi).2, h.2.2.2.2.2.2.1⟩
theorem RC.lc {r : T_Re} {s : Nat → Int32} {cl : CL} (h : RC r s cl) : LcR (q_Re_land r) s cl := h.2.2.2.2.2.2.1
theorem RC.RG {r : T_Re} {s : Nat → Int32} {cl : CL} (h : RC r s cl) : RG (NN (s 0)) (NN (s 1)) (xWt s) (xOw s) (xK cl s) (xL cl s) := RG_of ⟨r, h.lc⟩ h.rg
section SA
variable {s s' : Nat → Int32}
theorem RgP.same {nt nt' p : Nat} (h : RgP s nt p) (hp : p < 4) (hs : ∀ i, 10 ≤ i → i < 58 → s' i = s i) (hn : nt ≤ nt') : RgP s' nt' p := by
  obtain ⟨h1, h2, h3, h4, h5, h6⟩ := h
  have e5 := hs (26 + p) (by omega) (by omega)
  refine ⟨by rw [hs _ (by omega) (by omega)]; exact h1, by rw [hs _ (by omega) (by omega)]; exact h2, by rw [hs _ (by omega) (by omega)]; exact h3, by rw [hs _ (by omega) (by omega)]; exact h4, by rw [e5]; exact h5, fun i hi => ?_⟩
  rw [e5] at hi
  have h7 := h5.2
  rw [hs (30 + 7 * p + i) (by omega) (by omega)]
  exact ⟨(h6 i hi).1, by have := (h6 i hi).2; omega⟩
theorem ReP.same {y y' : T_Pe} {nt p : Nat} (h : ReP y s p) (hg : RgP s nt p) (hp : p < 4) (hs : ∀ i, 10 ≤ i → i < 58 → s' i = s i)
    (k1 : q_Pe_kind y' p = q_Pe_kind y p) (k2 : q_Pe_v y' p = q_Pe_v y p) (k3 : q_Pe_strength y' p = q_Pe_strength y p) (k4 : q_Pe_age y' p = q_Pe_age y p) (k5 : q_Pe_rowSize y' p = q_Pe_rowSize y p) (k6 : q_Pe_rows y' p = q_Pe_rows y p) : ReP y' s' p := by
  obtain ⟨h1, h2, h3, h4, h5, h6⟩ := h
  have e5 := hs (26 + p) (by omega) (by omega)
  refine ⟨by rw [k1, hs _ (by omega) (by omega)]; exact h1, by rw [k2, hs _ (by omega) (by omega)]; exact h2, by rw [k3, hs _ (by omega) (by omega)]; exact h3, by rw [k4, hs _ (by omega) (by omega)]; exact h4, by rw [k5, e5]; exact h5, fun i hi => ?_⟩
  rw [e5] at hi
  have h7 := hg.2.2.2.2.1.2
  rw [k6, hs (30 + 7 * p + i) (by omega) (by omega)]
  exact h6 i hi
theorem RgT.same {np np' t : Nat} (h : RgT s np t) (ht : t < 7) (hs : ∀ i, 58 ≤ i → i < 72 → s' i = s i) (hn : np ≤ np') : RgT s' np' t := by
  obtain ⟨h1, h2, h3⟩ := h
  refine ⟨by rw [hs _ (by omega) (by omega)]; exact h1, by rw [hs _ (by omega) (by omega)]; exact h2, ?_⟩
  rw [hs (65 + t) (by omega) (by omega)]
  omega
theorem ReT.same {y : T_Th} {t : Nat} (h : ReT y s t) (ht : t < 7) (hs : ∀ i, 58 ≤ i → i < 72 → s' i = s i) : ReT y s' t :=
  ⟨by rw [hs _ (by omega) (by omega)]; exact h.1, by rw [hs _ (by omega) (by omega)]; exact h.2⟩
theorem RgW.same {np np' i : Nat} (h : RgW s np i) (hi : i < 12) (hs : ∀ i, 72 ≤ i → i < 96 → s' i = s i) (hn : np ≤ np') : RgW s' np' i := by
  obtain ⟨h1, h2, h3⟩ := h
  refine ⟨by rw [hs _ (by omega) (by omega)]; exact h1, by rw [hs _ (by omega) (by omega)]; omega, by rw [hs _ (by omega) (by omega)]; exact h3⟩
theorem ReW.same {r : T_Re} {i : Nat} (h : ReW r s i) (hi : i < 12) (hs : ∀ i, 72 ≤ i → i < 96 → s' i = s i) : ReW r s' i :=
  ⟨by rw [hs _ (by omega) (by omega)]; exact h.1, by rw [hs _ (by omega) (by omega)]; exact h.2⟩
theorem LmR.same : ∀ (cl : CL) (m : Nat), 196 ≤ m → m + (szO cl + cl.length) ≤ 901 → (∀ i, 196 ≤ i → i < 901 → s' i = s i) → LmR s m cl → LmR s' m cl
  | [], _, _, _, _, _ => trivial
  | q :: r, m, hm, hb, hs, h => by
    have hz : szO (q :: r) = q.2.2.length + szO r := rfl
    simp only [List.length_cons] at hb
    exact ⟨fun j hj => by rw [hs _ (by omega) (by omega)]; exact h.1 j hj, by rw [hs _ (by omega) (by omega)]; exact h.2.1, LmR.same r _ (by omega) (by omega) hs h.2.2⟩
theorem LcR.same {L : T_La} {cl : CL} (h : LcR L s cl) (h5 : s' 5 = s 5) (hs : ∀ i, 196 ≤ i → i < 901 → s' i = s i) : LcR L s' cl := by
  obtain ⟨h1, h2, h3, h4, h6, h7⟩ := h
  refine ⟨h1, h2, h3, h4, h6, ?_⟩
  rw [h5]
  rcases h7 with q | ⟨j, q1, q2, q3, q4⟩
  · exact Or.inl q
  · exact Or.inr ⟨j, q1, q2, by rw [hs _ (by omega) (by omega)]; exact q3, LmR.same cl _ (by omega) (by omega) hs q4⟩
theorem Hol.same (h : Hol s) (h5 : s' 5 = s 5) (h2 : s' 2 = s 2) : Hol s' := by
  unfold Hol
  rw [h5, h2]
  exact h
end SA
/-- THE TRACE alike -/
def TrC (a : T_Ac) (w : T_Mo) : Prop := ∃ k, k ≤ 1000 ∧ q_Mo_ran w = nI k ∧ q_Ac_ran a = nI k ∧ ∀ i, i < k → i < 20 → q_Ac_bodies a i = q_Mo_bodies w i
def Rl (z : T_OL) (w : T_Mo) : Prop :=
  (∃ cl, RC (q_OL_now z) (q_Mo_s w) cl) ∧ q_OL_hasImage z = q_Mo_hasImage w ∧ (¬ q_Mo_hasImage w = 0 → ∃ cl, RC (q_OL_kept z) (q_Mo_image w) cl) ∧ TrC (q_OL_acts z) w
/-- what a call leaves as it was, but the realm -/
theorem Rl.set {z z' : T_OL} {w w' : T_Mo} {cl : CL} (h : Rl z w) (hR : RC (q_OL_now z') (q_Mo_s w') cl) (hk : q_OL_kept z' = q_OL_kept z) (hi : q_OL_hasImage z' = q_OL_hasImage z) (ha : q_OL_acts z' = q_OL_acts z) (hF : FrM w w') : Rl z' w' := by
  obtain ⟨h1, h2, h3, k, k1, k2, k3, k4⟩ := h
  refine ⟨⟨cl, hR⟩, ?_, ?_, k, k1, ?_, ?_, ?_⟩
  · rw [hi, hF.2.1]; exact h2
  · rw [hF.2.1, hF.1, hk]; exact h3
  · rw [hF.2.2.2]; exact k2
  · rw [ha]; exact k3
  · rw [ha, hF.2.2.1]; exact k4
section CA
variable {y : T_Pe} {t : T_Th} {w : T_Mo} {x M : Int32}
theorem in_cases (x M : Int32) : d_Mo_in x 0 M = some 0 ∨ (d_Mo_in x 0 M = some 1 ∧ ¬ x < 0 ∧ ¬ M < x) := by
  unfold d_Mo_in
  by_cases h : x < 0
  · exact Or.inl (if_pos h)
  · rw [if_neg h]
    by_cases h2 : M < x
    · exact Or.inl (if_pos h2)
    · exact Or.inr ⟨if_neg h2, h, h2⟩
theorem within_in (x M : Int32) : d_OL_within x M = d_Mo_in x 0 M := rfl
theorem kind_cases (x : Int32) : (d_OL_isKind x = some 0 ∧ d_Mo_in x 0 6 = some 0) ∨ (∃ k, k ≤ 6 ∧ x = nI k ∧ d_OL_isKind x = some 1 ∧ d_Mo_in x 0 6 = some 1) := by
  unfold d_OL_isKind d_Mo_in
  rcases pk_ix x (n := 7) (by omega) with h | h | ⟨j, h1, h2⟩
  · exact Or.inl ⟨if_pos h, if_pos h⟩
  · have n0 : ¬ x < 0 := fun q => by
      rw [Int32.lt_iff_toInt_lt] at q
      rw [Int32.le_iff_toInt_le, nI_toInt (by omega)] at h
      rw [Int32.toInt_zero] at q
      omega
    have n6 : (6 : Int32) < x := by
      rw [Int32.lt_iff_toInt_lt]
      rw [Int32.le_iff_toInt_le, nI_toInt (by omega)] at h
      show (nI 6).toInt < _
      rw [nI_toInt (by omega)]
      omega
    have h : (7 : Int32) ≤ x := h
    refine Or.inl ⟨?_, ?_⟩
    · rw [if_neg n0, if_pos h]
    · rw [if_neg n0, if_pos n6]
  · subst h2
    have n0 : ¬ nI j < 0 := nI_pos (by omega)
    have n7 : ¬ (7 : Int32) ≤ nI j := nI_ge (b := 7) h1 (by omega)
    have n6 : ¬ (6 : Int32) < nI j := nI_nlt (b := j) (a := 6) (by omega) (by omega)
    refine Or.inr ⟨j, by omega, rfl, ?_, ?_⟩
    · rw [if_neg n0, if_neg n7]
    · rw [if_neg n0, if_neg n6]
theorem ix_cases {c : Int32} {m : Nat} (hm : m < 2 ^ 30) (hc : rg c m) (x : Int32) : ((x < 0 ∨ (¬ x < 0 ∧ c ≤ x)) ∧ d_Mo_in x 0 (c - 1) = some 0) ∨ (∃ p, p < NN c ∧ x = nI p ∧ ¬ x < 0 ∧ ¬ c ≤ x ∧ d_Mo_in x 0 (c - 1) = some 1) := by
  have h7 := hc.2
  have e := hc.1
  rcases pk_ix x (n := NN c) (by omega) with h | h | ⟨j, h1, h2⟩
  · exact Or.inl ⟨Or.inl h, if_pos h⟩
  · have n0 : ¬ x < 0 := fun q => by
      rw [Int32.lt_iff_toInt_lt] at q
      rw [Int32.le_iff_toInt_le, nI_toInt (by omega)] at h
      rw [Int32.toInt_zero] at q
      omega
    have n1 : c - 1 < x := by
      rw [e]
      rw [Int32.le_iff_toInt_le, nI_toInt (by omega)] at h
      rw [Int32.lt_iff_toInt_lt, show (1 : Int32) = nI 1 from rfl, pk_sub_toInt (by omega) (by omega)]
      omega
    refine Or.inl ⟨Or.inr ⟨n0, by rw [e]; exact h⟩, ?_⟩
    unfold d_Mo_in
    rw [if_neg n0, if_pos n1]
  · subst h2
    have n0 : ¬ nI j < 0 := nI_pos (by omega)
    have n1 : ¬ c ≤ nI j := by rw [e]; exact nI_ge h1 (by omega)
    have n2 : ¬ c - 1 < nI j := by
      rw [e, show (1 : Int32) = nI 1 from rfl, pk_sub (by omega)]
      exact nI_nlt (by omega) (by omega)
    refine Or.inr ⟨j, h1, rfl, n0, n1, ?_⟩
    unfold d_Mo_in
    rw [if_neg n0, if_neg n2]
theorem rg.mono {x : Int32} {a b : Nat} (h : rg x a) (hab : a ≤ b) : rg x b := ⟨h.1, Nat.le_trans h.2 hab⟩
theorem per_cases (hy : q_Pe_size y = q_Mo_s w 0) (h : rg (q_Mo_s w 0) 4) (x : Int32) : (d_Pe_has x y = some 0 ∧ d_Mo_isPerson x w = some 0) ∨ (∃ p, p < NN (q_Mo_s w 0) ∧ x = nI p ∧ d_Pe_has x y = some 1 ∧ d_Mo_isPerson x w = some 1) := by
  unfold d_Pe_has d_Mo_isPerson
  rw [hy]
  rcases ix_cases (by omega) h x with ⟨h1, h2⟩ | ⟨p, h1, h2, h3, h4, h5⟩
  · rw [h2]
    refine Or.inl ⟨?_, rfl⟩
    rcases h1 with q | ⟨q1, q2⟩
    · rw [if_pos q]
    · rw [if_neg q1, if_pos q2]
  · rw [h5]
    exact Or.inr ⟨p, h1, h2, by rw [if_neg h3, if_neg h4], rfl⟩
theorem thi_cases (hy : q_Th_size t = q_Mo_s w 1) (h : rg (q_Mo_s w 1) 7) (x : Int32) : (d_Th_has x t = some 0 ∧ d_Mo_isThing x w = some 0) ∨ (∃ p, p < NN (q_Mo_s w 1) ∧ x = nI p ∧ d_Th_has x t = some 1 ∧ d_Mo_isThing x w = some 1) := by
  unfold d_Th_has d_Mo_isThing
  rw [hy]
  rcases ix_cases (by omega) h x with ⟨h1, h2⟩ | ⟨p, h1, h2, h3, h4, h5⟩
  · rw [h2]
    refine Or.inl ⟨?_, rfl⟩
    rcases h1 with q | ⟨q1, q2⟩
    · rw [if_pos q]
    · rw [if_neg q1, if_pos q2]
  · rw [h5]
    exact Or.inr ⟨p, h1, h2, by rw [if_neg h3, if_neg h4], rfl⟩
end CA

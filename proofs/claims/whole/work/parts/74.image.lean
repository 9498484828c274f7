/-! THE IMAGE: taken and given back. -/
theorem LaR.same {L L' : T_La} (h1 : ∀ i, i < 10 → q_La_word L' i = q_La_word L i ∧ q_La_n L' i = q_La_n L i ∧ q_La_end L' i = q_La_end L i) (h2 : ∀ j, j < 100 → q_La_code L' j = q_La_code L j) : ∀ (cl : CL) (i c : Nat), i + cl.length ≤ 10 → c + szO cl ≤ 100 → LaR L i c cl → LaR L' i c cl
  | [], _, _, _, _, _ => trivial
  | q :: r, i, c, hi, hc, h => by
    have hz : szO (q :: r) = q.2.2.length + szO r := rfl
    simp only [List.length_cons] at hi
    obtain ⟨a, b, d, e, f⟩ := h
    have h3 := h1 i (by omega)
    refine ⟨h3.1.trans a, h3.2.1.trans b, h3.2.2.trans d, fun j hj => (h2 _ (by omega)).trans (e j hj), LaR.same h1 h2 r _ _ (by omega) (by omega) f⟩
theorem LcR.copy {L L' : T_La} {s : Nat → Int32} {cl : CL} (h : LcR L s cl) (h0 : q_La_clauses L' = q_La_clauses L) (h1 : ∀ i, i < 10 → q_La_word L' i = q_La_word L i ∧ q_La_n L' i = q_La_n L i ∧ q_La_end L' i = q_La_end L i) (h2 : ∀ j, j < 100 → q_La_code L' j = q_La_code L j) : LcR L' s cl := by
  obtain ⟨a, b, c, d, e, f⟩ := h
  exact ⟨h0.trans a, b, c, d, LaR.same h1 h2 cl 0 0 (by omega) (by omega) e, f⟩
theorem cpy0 {f g : Nat → Int32} {N j : Nat} (h : j < N) : va_cpy f g 0 0 N j = f j := by
  rw [pk_cpy_in (by omega) (by omega), Nat.sub_zero, Nat.zero_add]
theorem La_copyFrom (z w : T_La) : d_La_copyFrom z w = some (q_La_clauses w, va_cpy (q_La_word w) (q_La_word z) 0 0 10, va_cpy (q_La_n w) (q_La_n z) 0 0 10, va_cpy (q_La_end w) (q_La_end z) 0 0 10, va_cpy (q_La_code w) (q_La_code z) 0 0 100, q_La_codes w) := rfl
theorem Th_copyFrom (z w : T_Th) : d_Th_copyFrom z w = some (q_Th_size w, va_cpy (q_Th_weight w) (q_Th_weight z) 0 0 7, va_cpy (q_Th_owner w) (q_Th_owner z) 0 0 7) := rfl
theorem Pe_copyFrom (z w : T_Pe) : ∃ R, d_Pe_copyFrom z w = some (q_Pe_size w, va_cpy (q_Pe_kind w) (q_Pe_kind z) 0 0 4, va_cpy (q_Pe_v w) (q_Pe_v z) 0 0 4, va_cpy (q_Pe_strength w) (q_Pe_strength z) 0 0 4, va_cpy (q_Pe_age w) (q_Pe_age z) 0 0 4, va_cpy (q_Pe_rowSize w) (q_Pe_rowSize z) 0 0 4, R) ∧ ∀ p, p < 4 → ∀ i, i < 7 → R p i = q_Pe_rows w p i := by
  unfold d_Pe_copyFrom
  obtain ⟨a, ⟨R, h1, h2⟩, h3⟩ := lpIx (z := fun _ _ => none) (B := fun self => B_Pe_copyFrom_L80 w self) (n := 4) some (fun p a => ∃ R, a = (q_Pe_size w, va_cpy (q_Pe_kind w) (q_Pe_kind z) 0 0 4, va_cpy (q_Pe_v w) (q_Pe_v z) 0 0 4, va_cpy (q_Pe_strength w) (q_Pe_strength z) 0 0 4, va_cpy (q_Pe_age w) (q_Pe_age z) 0 0 4, va_cpy (q_Pe_rowSize w) (q_Pe_rowSize z) 0 0 4, R) ∧ ∀ q, q < p → ∀ i, i < 7 → R q i = q_Pe_rows w q i)
    (by
      intro self p a hp ⟨R, ha, hR⟩
      subst ha
      have e1 : ¬ (4 : Int32) ≤ nI p := nI_ge (b := 4) hp (by omega)
      have e2 : inb (nI p) 4 = true := inb_n hp (by omega)
      have e3 : (nI p).toNatClampNeg = p := nI_clamp (by omega)
      refine ⟨(q_Pe_size w, va_cpy (q_Pe_kind w) (q_Pe_kind z) 0 0 4, va_cpy (q_Pe_v w) (q_Pe_v z) 0 0 4, va_cpy (q_Pe_strength w) (q_Pe_strength z) 0 0 4, va_cpy (q_Pe_age w) (q_Pe_age z) 0 0 4, va_cpy (q_Pe_rowSize w) (q_Pe_rowSize z) 0 0 4, updR R p (va_cpy (q_Pe_rows w p) (R p) 0 0 7)), ?_, updR R p (va_cpy (q_Pe_rows w p) (R p) 0 0 7), rfl, ?_⟩
      · unfold B_Pe_copyFrom_L80
        rw [if_neg e1, if_pos e2, if_pos e2, e3, nI_1]
      · intro q hq i hi
        unfold updR
        by_cases e : q = p
        · subst e
          rw [if_pos rfl]
          exact cpy0 hi
        · rw [if_neg e]
          exact hR q (by omega) i hi)
    (by
      intro self a _
      unfold B_Pe_copyFrom_L80
      exact if_pos (Int32.le_refl _))
    1000 0 (q_Pe_size w, va_cpy (q_Pe_kind w) (q_Pe_kind z) 0 0 4, va_cpy (q_Pe_v w) (q_Pe_v z) 0 0 4, va_cpy (q_Pe_strength w) (q_Pe_strength z) 0 0 4, va_cpy (q_Pe_age w) (q_Pe_age z) 0 0 4, va_cpy (q_Pe_rowSize w) (q_Pe_rowSize z) 0 0 4, q_Pe_rows z) (by omega) (by omega) ⟨q_Pe_rows z, rfl, fun q hq => absurd hq (by omega)⟩
  subst h1
  exact ⟨R, h3, h2⟩
theorem Re_copyFrom {w : T_Re} {s : Nat → Int32} {cl : CL} (h : RC w s cl) (z : T_Re) : ∃ z', d_Re_copyFrom z w = some z' ∧ RC z' s cl := by
  obtain ⟨R, h1, h2⟩ := Pe_copyFrom (q_Re_people z) (q_Re_people w)
  unfold d_Re_copyFrom
  rw [La_copyFrom]
  simp only [Option.bind_some]
  have h1' : d_Pe_copyFrom (q_Re_people (u_Re_lands (u_Re_land (u_Re_signs (u_Re_tape z (va_cpy (q_Re_tape w) (q_Re_tape z) 0 0 100)) (q_Re_signs w)) (q_La_clauses (q_Re_land w), va_cpy (q_La_word (q_Re_land w)) (q_La_word (q_Re_land (u_Re_signs (u_Re_tape z (va_cpy (q_Re_tape w) (q_Re_tape z) 0 0 100)) (q_Re_signs w)))) 0 0 10, va_cpy (q_La_n (q_Re_land w)) (q_La_n (q_Re_land (u_Re_signs (u_Re_tape z (va_cpy (q_Re_tape w) (q_Re_tape z) 0 0 100)) (q_Re_signs w)))) 0 0 10, va_cpy (q_La_end (q_Re_land w)) (q_La_end (q_Re_land (u_Re_signs (u_Re_tape z (va_cpy (q_Re_tape w) (q_Re_tape z) 0 0 100)) (q_Re_signs w)))) 0 0 10, va_cpy (q_La_code (q_Re_land w)) (q_La_code (q_Re_land (u_Re_signs (u_Re_tape z (va_cpy (q_Re_tape w) (q_Re_tape z) 0 0 100)) (q_Re_signs w)))) 0 0 100, q_La_codes (q_Re_land w))) (q_Re_lands w))) (q_Re_people w) = _ := h1
  rw [h1']
  simp only [Option.bind_some]
  rw [Th_copyFrom]
  refine ⟨_, rfl, ?_⟩
  have p4 := h.1.1.2
  have t7 := h.1.2.1.2
  have w12 := h.1.2.2.2.1.2
  have g100 := h.1.2.2.2.2.1.2
  refine ⟨h.1, h.2.1, fun p hp => ⟨(h.2.2.1 p hp).1, ?_⟩, fun t ht => ⟨(h.2.2.2.1 t ht).1, ?_⟩, fun i hi => ⟨(h.2.2.2.2.1 i hi).1, ?_⟩, fun i hi => ⟨(h.2.2.2.2.2.1 i hi).1, ?_⟩, ?_, h.2.2.2.2.2.2.2⟩
  · obtain ⟨a, b, c, d, e, f⟩ := (h.2.2.1 p hp).2
    have r5 := (h.2.2.1 p hp).1.2.2.2.2.1.2
    exact ⟨(cpy0 (by omega)).trans a, (cpy0 (by omega)).trans b, (cpy0 (by omega)).trans c, (cpy0 (by omega)).trans d, (cpy0 (by omega)).trans e, fun i hi => (h2 p (by omega) i (by omega)).trans (f i hi)⟩
  · obtain ⟨a, b⟩ := (h.2.2.2.1 t ht).2
    exact ⟨(cpy0 (by omega)).trans a, (cpy0 (by omega)).trans b⟩
  · obtain ⟨a, b⟩ := (h.2.2.2.2.1 i hi).2
    exact ⟨(cpy0 (by omega)).trans a, (cpy0 (by omega)).trans b⟩
  · exact (cpy0 (by omega)).trans (h.2.2.2.2.2.1 i hi).2
  · exact h.lc.copy rfl (fun i hi => ⟨cpy0 hi, cpy0 hi, cpy0 hi⟩) (fun j hj => cpy0 hj)
/-- the row's places from 901 on say nothing -/
theorem RC_901 {r : T_Re} {s s' : Nat → Int32} {cl : CL} (h : RC r s cl) (hs : ∀ i, i < 901 → s' i = s i) : RC r s' cl := by
  have a0 := hs 0 (by omega)
  have a1 := hs 1 (by omega)
  have a2 := hs 2 (by omega)
  have a3 := hs 3 (by omega)
  have a4 := hs 4 (by omega)
  have a5 := hs 5 (by omega)
  have a6 := hs 6 (by omega)
  have p4 := h.1.1.2
  have t7 := h.1.2.1.2
  have w12 := h.1.2.2.2.1.2
  have g100 := h.1.2.2.2.2.1.2
  refine ⟨⟨a0 ▸ h.1.1, a1 ▸ h.1.2.1, a2 ▸ h.1.2.2.1, a3 ▸ h.1.2.2.2.1, a4 ▸ h.1.2.2.2.2.1, a6 ▸ h.1.2.2.2.2.2⟩, ⟨a0 ▸ h.2.1.1, a1 ▸ h.2.1.2.1, a2 ▸ h.2.1.2.2.1, a3 ▸ h.2.1.2.2.2.1, a4 ▸ h.2.1.2.2.2.2.1, a6 ▸ h.2.1.2.2.2.2.2⟩, ?_, ?_, ?_, ?_, h.lc.same a5 (fun i _ hi => hs i hi), h.2.2.2.2.2.2.2.same a5 a2⟩
  · rw [a0, a1]
    intro p hp
    have hP := h.2.2.1 p hp
    have hs1 : ∀ i, 10 ≤ i → i < 58 → s' i = s i := fun i _ _ => hs i (by omega)
    exact ⟨hP.1.same (by omega) hs1 (Nat.le_refl _), hP.2.same hP.1 (by omega) hs1 rfl rfl rfl rfl rfl rfl⟩
  · rw [a0, a1]
    intro t ht
    have hT := h.2.2.2.1 t ht
    have hs1 : ∀ i, 58 ≤ i → i < 72 → s' i = s i := fun i _ _ => hs i (by omega)
    exact ⟨hT.1.same (by omega) hs1 (Nat.le_refl _), hT.2.same (by omega) hs1⟩
  · rw [a0, a3]
    intro i hi
    have hW := h.2.2.2.2.1 i hi
    have hs1 : ∀ i, 72 ≤ i → i < 96 → s' i = s i := fun i _ _ => hs i (by omega)
    exact ⟨hW.1.same (by omega) hs1 (Nat.le_refl _), hW.2.same (by omega) hs1⟩
  · rw [a4]
    intro i hi
    rw [hs (96 + i) (by omega)]
    exact h.2.2.2.2.2.1 i hi
theorem s_image : S_image Rl := by
  intro z w h
  obtain ⟨⟨cl, hR⟩, h1, h2, h3⟩ := id h
  obtain ⟨k', y1, y2⟩ := Re_copyFrom hR (q_OL_kept z)
  unfold d_OL_image d_Mo_image
  rw [y1]
  obtain ⟨a, ⟨I, g1, g2⟩, g3⟩ := lpIx (z := fun _ _ => none) (B := fun self => B_Mo_image_L2 self) (n := 901) (fun a => some ((q_Mo_s (u_Mo_hasImage a 1)) 0, (u_Mo_hasImage a 1))) (fun i a => ∃ I, a = u_Mo_image w I ∧ ∀ j, j < i → I j = q_Mo_s w j)
    (by
      intro self i a hi ⟨I, ha, hI⟩
      subst ha
      have e1 : ¬ (901 : Int32) ≤ nI i := nI_ge (b := 901) hi (by omega)
      have e2 : inb (nI i) 901 = true := inb_n hi (by omega)
      have e3 : (nI i).toNatClampNeg = i := nI_clamp (by omega)
      refine ⟨u_Mo_image w (upd I i (q_Mo_s w i)), ?_, _, rfl, ?_⟩
      · unfold B_Mo_image_L2
        rw [if_neg e1, if_pos e2, if_pos e2, e3, nI_1]
      · intro j hj
        by_cases e : j = i
        · subst e; exact pk_us
        · rw [pk_un e]; exact hI j (by omega))
    (by
      intro self a _
      unfold B_Mo_image_L2
      exact if_pos (Int32.le_refl _))
    1000 0 w (by omega) (by omega) ⟨q_Mo_image w, rfl, fun j hj => absurd hj (by omega)⟩
  subst g1
  refine ⟨q_Mo_s w 0, u_OL_hasImage (u_OL_kept z k') 1, u_Mo_hasImage (u_Mo_image w I) 1, ?_, g3, ⟨cl, hR⟩, rfl, fun _ => ⟨cl, RC_901 y2 g2⟩, h3⟩
  show some (q_Pe_size (q_Re_people (q_OL_now z)), _) = _
  rw [hR.2.1.1]
theorem s_undo : S_undo Rl := by
  intro z w h
  obtain ⟨⟨cl, hR⟩, h1, h2, h3⟩ := id h
  unfold d_OL_undo d_Mo_undo
  rw [h1]
  by_cases q : q_Mo_hasImage w = 0
  · rw [if_pos q, if_pos q]
    exact ⟨_, z, w, rfl, rfl, h⟩
  rw [if_neg q, if_neg q]
  obtain ⟨cl2, hK⟩ := h2 q
  obtain ⟨n', y1, y2⟩ := Re_copyFrom hK (q_OL_now z)
  rw [y1]
  obtain ⟨a, ⟨I, g1, g2⟩, g3⟩ := lpIx (z := fun _ _ => none) (B := fun self => B_Mo_undo_L12 self) (n := 901) (fun a => some ((q_Mo_s a) 0, a)) (fun i a => ∃ I, a = u_Mo_s w I ∧ ∀ j, j < i → I j = q_Mo_image w j)
    (by
      intro self i a hi ⟨I, ha, hI⟩
      subst ha
      have e1 : ¬ (901 : Int32) ≤ nI i := nI_ge (b := 901) hi (by omega)
      have e2 : inb (nI i) 901 = true := inb_n hi (by omega)
      have e3 : (nI i).toNatClampNeg = i := nI_clamp (by omega)
      refine ⟨u_Mo_s w (upd I i (q_Mo_image w i)), ?_, _, rfl, ?_⟩
      · unfold B_Mo_undo_L12
        rw [if_neg e1, if_pos e2, if_pos e2, e3, nI_1]
      · intro j hj
        by_cases e : j = i
        · subst e; exact pk_us
        · rw [pk_un e]; exact hI j (by omega))
    (by
      intro self a _
      unfold B_Mo_undo_L12
      exact if_pos (Int32.le_refl _))
    1000 0 w (by omega) (by omega) ⟨q_Mo_s w, rfl, fun j hj => absurd hj (by omega)⟩
  subst g1
  have hRC : RC n' I cl2 := RC_901 y2 g2
  refine ⟨I 0, u_OL_now z n', u_Mo_s w I, ?_, g3, Rl.set (cl := cl2) h hRC rfl rfl rfl FrM.rf⟩
  show some (q_Pe_size (q_Re_people n'), _) = _
  rw [hRC.2.1.1]

/-! A LAND read, and kept. -/
/-- the model's end of a read -/
def mEnd (z : T_Mo) : Option (Int32 × T_Mo) := if q_Mo_isWrong z = 0 then (if q_Mo_spot z = q_Mo_end z then some (q_Mo_act z, u_Mo_s z (upd (upd (q_Mo_s z) 2 (q_Mo_s z 2 + 1)) 5 (q_Mo_act z))) else some ((-10) - q_Mo_spot z, z)) else some ((-10) - q_Mo_spot z, z)
def rEnd (z : T_Rd) : Option (Int32 × T_Rd) := if q_Rd_place z = q_Rd_size z then some (1, z) else some (0, z)
section WL
variable {w0 : T_Mo} {h e : Nat} {tx : Nat → Nat}
theorem pRead (t : Nat → Int32) : ∀ (N k p c : Nat) (cl : CL) (nc f : Nat) (z : T_Rd) (w : T_Mo), c + N = 10 → N ≤ nc → N ≤ f → cl.length = c → 0 < N → LdS w0 h e tx k p cl [] z w → q_Mo_open w = nI 0 →
    ∃ b z' w', d_Rd_read_L31 t rEnd rEnd nc (nI c) z = some (b, z') ∧ ((d_Mo_clauseHere w).bind fun v => d_Mo_land_L75 mEnd f (nI (c + 1)) v) = mEnd w' ∧
      ((b = 1 ∧ ∃ cl' p', cl'.length ≤ 10 ∧ LdS w0 h e tx e p' cl' [] z' w') ∨ (b = 0 ∧ (LdB w0 h e tx z' w' ∨ ∃ k' p' cl', k' ≠ e ∧ LdS w0 h e tx k' p' cl' [] z' w')))
  | 0, _, _, _, _, _, _, _, _, _, _, _, _, h0, _, _ => by omega
  | N + 1, k, p, c, cl, nc, f, z, w, hN, hnc, hf, hcl, _, hS, ho => by
    obtain ⟨nc, rfl⟩ : ∃ m, nc = m + 1 := ⟨nc - 1, by omega⟩
    obtain ⟨f, rfl⟩ : ∃ m, f = m + 1 := ⟨f - 1, by omega⟩
    have h100 := hS.1.2.1
    have hB : d_Rd_read_L31 t rEnd rEnd (nc + 1) (nI c) z = B_Rd_read_L31 t rEnd rEnd (d_Rd_read_L31 t rEnd rEnd nc) (nI c) z := rfl
    have e0 : ¬ (10 : Int32) ≤ nI c := nI_ge (b := 10) (by omega) (by omega)
    obtain ⟨b, z1, w1, y1, y2, y3⟩ := pClause hS (by omega) ho
    have hM : d_Mo_land_L75 mEnd (f + 1) (nI (c + 1)) w1 = B_Mo_land_L75 mEnd (d_Mo_land_L75 mEnd f) (nI (c + 1)) w1 := rfl
    rw [hB, y2, Option.bind_some, hM]
    unfold B_Rd_read_L31 B_Mo_land_L75
    rw [if_neg e0, y1, Option.bind_some]
    rcases y3 with ⟨rfl, q, k1, hk1, hS1, o1⟩ | ⟨rfl, hB1⟩
    · have hke := hS1.2.2.2.1.2.2
      have hlen : (cl ++ [q]).length = c + 1 := by rw [List.length_append, List.length_singleton, hcl]
      have k1p : (q_Rd_place z1 = q_Rd_size z1) ↔ k1 = e := by rw [hS1.2.2.2.1.1, hS1.2.1.1]; exact nI_eq (by omega) (by omega)
      have kc : (nI c = 9) ↔ c = 9 := nI_eq (b := 9) (by omega) (by omega)
      have kc2 : ((10 : Int32) ≤ nI (c + 1)) ↔ 10 ≤ c + 1 := nI_leI (a := 10) (by omega) (by omega)
      rw [if_pos hS1.nw, hS1.here, Option.bind_some, if_neg n10]
      by_cases a1 : k1 = e
      · subst a1
        have n59 : ¬ lC tx k1 k1 = 59 := by rw [lC_out (by omega)]; decide
        refine ⟨1, z1, w1, (if_pos (k1p.mpr rfl)).trans (if_pos (k1p.mpr rfl)), ?_, Or.inl ⟨rfl, cl ++ [q], p, by omega, hS1⟩⟩
        by_cases a2 : 10 ≤ c + 1
        · rw [if_pos (kc2.mpr a2)]
        · rw [if_neg (fun y => a2 (kc2.mp y)), if_neg n59]
      · have a1' : ¬ q_Rd_place z1 = q_Rd_size z1 := fun y => a1 (k1p.mp y)
        rw [if_neg a1']
        by_cases a2 : c = 9
        · rw [if_pos (kc.mpr a2), if_pos (kc2.mpr (by omega))]
          exact ⟨0, z1, w1, if_neg a1', rfl, Or.inr ⟨rfl, Or.inr ⟨k1, p, _, a1, hS1⟩⟩⟩
        · rw [if_neg (fun y => a2 (kc.mp y)), if_neg (fun y => a2 (by have := kc2.mp y; omega))]
          by_cases a3 : lC tx e k1 = 59
          · have q1 := lC_lt (by decide) a3
            rw [if_pos a3, Rd_eat_y hS1.1 hS1.2.1 hS1.2.2.2.1.1 (by decide) a3, Option.bind_some, hS1.2.2.2.1.2.1, nI_1, nI_1, nI_1]
            have hS2 := hS1.go (k' := k1 + 1) (by omega) (by omega)
            obtain ⟨b, z2, w2, x1, x2, x3⟩ := pRead t N (k1 + 1) _ (c + 1) (cl ++ [q]) nc f _ _ (by omega) (by omega) (by omega) hlen (by omega) hS2 o1
            exact ⟨b, z2, w2, (if_neg n10).trans x1, x2, x3⟩
          · rw [if_neg a3, Rd_eat_n hS1.1 hS1.2.1 hS1.2.2.2.1.1 hS1.2.2.2.1.2.2 a3, Option.bind_some]
            exact ⟨0, z1, w1, (if_pos rfl).trans (if_neg a1'), rfl, Or.inr ⟨rfl, Or.inr ⟨k1, p, _, a1, hS1⟩⟩⟩
    · exact ⟨0, z1, w1, if_pos rfl, if_neg hB1.n0, Or.inr ⟨rfl, Or.inl hB1⟩⟩
end WL
/-- a change of the signs, and of the LAND -/
theorem RC_land {r r' : T_Re} {s s' : Nat → Int32} {cl cl' : CL} (h : RC r s cl) (hs : ∀ i, i < 196 → i ≠ 2 → i ≠ 4 → i ≠ 5 → s' i = s i) (h4 : s' 4 = 0) (h2 : rg (s' 2) 5) (hk : q_Re_signs r' = 0) (hl : q_Re_lands r' = s' 2)
    (k1 : q_Re_things r' = q_Re_things r) (k2 : q_Re_people r' = q_Re_people r) (k3 : q_Re_seen r' = q_Re_seen r) (k5 : q_Re_year r' = q_Re_year r)
    (k6 : q_Re_seenWho r' = q_Re_seenWho r) (k7 : q_Re_seenCould r' = q_Re_seenCould r) (hL : LcR (q_Re_land r') s' cl') (hH : Hol s') : RC r' s' cl' := by
  have a0 := hs 0 (by omega) (by omega) (by omega) (by omega)
  have a1 := hs 1 (by omega) (by omega) (by omega) (by omega)
  have a3 := hs 3 (by omega) (by omega) (by omega) (by omega)
  have a6 := hs 6 (by omega) (by omega) (by omega) (by omega)
  have p4 := h.1.1.2
  have t7 := h.1.2.1.2
  have w12 := h.1.2.2.2.1.2
  have r4 : rg (s' 4) 100 := by rw [h4]; exact rg_n (k := 0) (by omega) (by omega)
  refine ⟨⟨a0 ▸ h.1.1, a1 ▸ h.1.2.1, h2, a3 ▸ h.1.2.2.2.1, r4, a6 ▸ h.1.2.2.2.2.2⟩, ⟨by rw [k2, a0]; exact h.2.1.1, by rw [k1, a1]; exact h.2.1.2.1, hl, by rw [k3, a3]; exact h.2.1.2.2.2.1, by rw [hk, h4], by rw [k5, a6]; exact h.2.1.2.2.2.2.2⟩, ?_, ?_, ?_, ?_, hL, hH⟩
  · rw [a0, a1, k2]
    intro p hp
    have hP := h.2.2.1 p hp
    have hs1 : ∀ i, 10 ≤ i → i < 58 → s' i = s i := fun i _ _ => hs i (by omega) (by omega) (by omega) (by omega)
    exact ⟨hP.1.same (by omega) hs1 (Nat.le_refl _), hP.2.same hP.1 (by omega) hs1 rfl rfl rfl rfl rfl rfl⟩
  · rw [a0, a1, k1]
    intro t ht
    have hT := h.2.2.2.1 t ht
    have hs1 : ∀ i, 58 ≤ i → i < 72 → s' i = s i := fun i _ _ => hs i (by omega) (by omega) (by omega) (by omega)
    exact ⟨hT.1.same (by omega) hs1 (Nat.le_refl _), hT.2.same (by omega) hs1⟩
  · rw [a0, a3]
    intro i hi
    have hW := h.2.2.2.2.1 i hi
    have hs1 : ∀ i, 72 ≤ i → i < 96 → s' i = s i := fun i _ _ => hs i (by omega) (by omega) (by omega) (by omega)
    have hW2 : ReW r' s i := ⟨by rw [k6]; exact hW.2.1, by rw [k7]; exact hW.2.2⟩
    exact ⟨hW.1.same (by omega) hs1 (Nat.le_refl _), hW2.same (by omega) hs1⟩
  · rw [h4]
    intro i hi
    exact absurd hi (Nat.not_lt_zero _)
theorem mland_eq (w : T_Mo) : d_Mo_land w = if q_Mo_s w 2 = 5 then some (-4, w) else if inb (196 + q_Mo_s w 2) 901 = true then ((d_Mo_clauseHere (u_Mo_open (u_Mo_isWrong (u_Mo_spot (u_Mo_s (u_Mo_end (u_Mo_act w (q_Mo_s w 2)) (q_Mo_s w 4)) (upd (upd (q_Mo_s w) 4 0) (196 + q_Mo_s w 2).toNatClampNeg 0)) 0) 0) 0)).bind fun v => d_Mo_land_L75 mEnd 1000 1 v) else none := rfl
theorem cland_eq (z : T_OL) : d_OL_land z = if q_Re_lands (q_OL_now z) < 5 then ((d_Rd_read (q_Re_signs (q_OL_now z)) (q_OL_reader z) (q_Re_tape (q_OL_now z))).bind fun v => if v.1 = 0 then some ((-10) - q_Rd_place v.2, u_OL_now (u_OL_reader z v.2) (u_Re_signs (q_OL_now z) 0)) else (d_La_copyFrom (q_Re_land (q_OL_now z)) (q_Rd_draft v.2)).bind fun l => some (q_Re_lands (q_OL_now z) + 1 - 1, u_OL_now (u_OL_reader z v.2) (u_Re_lands (u_Re_land (u_Re_signs (q_OL_now z) 0) l) (q_Re_lands (q_OL_now z) + 1)))) else some (-4, z) := rfl
theorem read_eq (x : Int32) (z : T_Rd) (t : Nat → Int32) : d_Rd_read x z t = d_Rd_read_L31 t rEnd rEnd 1000 0 (u_Rd_draft (u_Rd_place (u_Rd_size (u_Rd_text z (va_cpy t (q_Rd_text z) 0 0 100)) x) 0) (u_La_codes (u_La_clauses (q_Rd_draft z) 0) 0)) := by
  unfold d_Rd_read d_La_clear
  rw [Option.bind_some]
  rfl
/-- the LAND of an elder place stands -/
theorem LcR.old {L : T_La} {s s' : Nat → Int32} {cl : CL} {h : Nat} (hL : LcR L s cl) (hH : Hol s) (h2 : NN (s 2) = h) (h4 : h ≤ 4) (h5 : s' 5 = s 5) (hs : ∀ i, i < 201 + 140 * h → i ≠ 196 + h → 5 < i → s' i = s i) : LcR L s' cl := by
  obtain ⟨h1, h2', h3, h4', h6, h7⟩ := hL
  refine ⟨h1, h2', h3, h4', h6, ?_⟩
  rw [h5]
  rcases h7 with q | ⟨j, q1, q2, q3, q4⟩
  · exact Or.inl q
  · rcases hH with y | ⟨j', y1, y2⟩
    · exact absurd (q2.symm.trans y) (nI_m1 j (by omega))
    · have ej : j = j' := (nI_eq (by omega) (by omega)).mp (q2.symm.trans y1)
      subst ej
      refine Or.inr ⟨j, q1, q2, ?_, LmR.keep cl _ (fun i a b => hs i (by omega) (by omega) (by omega)) q4⟩
      rw [hs _ (by omega) (by omega) (by omega)]
      exact q3
theorem s_land : S_land Rl := by
  intro z w hR0
  obtain ⟨⟨cl, hR⟩, -⟩ := id hR0
  obtain ⟨e0, e1, e2, e3, e4, e5⟩ := hR.2.1
  have hg2 := hR.1.2.2.1
  have hg4 := hR.1.2.2.2.2.1
  have hH := hR.2.2.2.2.2.2.2
  have hTp := hR.2.2.2.2.2.1
  rw [cland_eq, mland_eq, e2, e4]
  have q1 := hg2.1
  have q2 := hg2.2
  have q3 := hg4.1
  have q4 := hg4.2
  generalize hh : NN (q_Mo_s w 2) = h at *
  generalize he : NN (q_Mo_s w 4) = e at *
  have k1 : (q_Mo_s w 2 = 5) ↔ h = 5 := by rw [q1]; exact nI_eq (b := 5) (by omega) (by omega)
  have k2 : (q_Mo_s w 2 < 5) ↔ h < 5 := by rw [q1]; exact nI_ltI (b := 5) (by omega) (by omega)
  by_cases c : h = 5
  · rw [if_pos (k1.mpr c), if_neg (fun y => by have := k2.mp y; omega)]
    exact ⟨-4, z, w, rfl, rfl, hR0⟩
  have c5 : h < 5 := by omega
  have i1 : inb (196 + q_Mo_s w 2) 901 = true := by rw [q1]; exact in9 196 (by omega)
  have i2 : (196 + q_Mo_s w 2).toNatClampNeg = 196 + h := by rw [q1]; exact cl9 196 (by omega)
  rw [if_neg (fun y => c (k1.mp y)), if_pos (k2.mpr c5), if_pos i1, i2, read_eq]
  have hs0 : ∀ i, i ≠ 4 → i ≠ 196 + h → upd (upd (q_Mo_s w) 4 0) (196 + h) 0 i = q_Mo_s w i := fun i a b => by rw [pk_un b, pk_un a]
  have hs4 : upd (upd (q_Mo_s w) 4 0) (196 + h) 0 4 = 0 := by rw [pk_un (by omega), pk_us]
  have hsh : upd (upd (q_Mo_s w) 4 0) (196 + h) 0 (196 + h) = 0 := pk_us
  generalize upd (upd (q_Mo_s w) 4 0) (196 + h) 0 = s0 at *
  obtain ⟨w0, hw0⟩ : ∃ w0, w0 = u_Mo_open (u_Mo_isWrong (u_Mo_spot (u_Mo_s (u_Mo_end (u_Mo_act w (q_Mo_s w 2)) (q_Mo_s w 4)) s0) 0) 0) 0 := ⟨_, rfl⟩
  obtain ⟨z0, hz0⟩ : ∃ z0, z0 = u_Rd_draft (u_Rd_place (u_Rd_size (u_Rd_text (q_OL_reader z) (va_cpy (q_Re_tape (q_OL_now z)) (q_Rd_text (q_OL_reader z)) 0 0 100)) (q_Mo_s w 4)) 0) (u_La_codes (u_La_clauses (q_Rd_draft (q_OL_reader z)) 0) 0) := ⟨_, rfl⟩
  have w0s : q_Mo_s w0 = s0 := by rw [hw0]
  have hFr : FrM w w0 := by rw [hw0]; exact ⟨rfl, rfl, rfl, rfl⟩
  have hS : LdS w0 h e (fun i => NN (q_Mo_s w (96 + i))) 0 0 [] [] z0 w0 := by
    refine ⟨⟨by omega, q4, fun i hi => ?_⟩, ⟨by rw [hz0]; exact q3, fun i hi => ?_⟩, ⟨by rw [hw0]; exact q3, by rw [hw0]; exact q1, fun i _ _ => rfl, FrM.rf⟩, ⟨by rw [hz0]; rfl, by rw [hw0]; rfl, Nat.zero_le _⟩, by rw [hw0], Nat.le_refl _, ⟨by rw [hz0]; rfl, by rw [hz0]; rfl, trivial, fun j hj => absurd hj (Nat.not_lt_zero _)⟩, ⟨?_, trivial, fun j hj => absurd hj (Nat.not_lt_zero _)⟩, fun q hq => absurd hq List.not_mem_nil, fun q hq => absurd hq List.not_mem_nil⟩
    · rw [w0s, hs0 _ (by omega) (by omega)]
      have := (hTp i hi).1
      exact ⟨this.1, this.2⟩
    · rw [hz0]
      show va_cpy (q_Re_tape (q_OL_now z)) (q_Rd_text (q_OL_reader z)) 0 0 100 i = _
      rw [cpy0 (by omega), (hTp i hi).2]
      exact (hTp i hi).1.1
    · rw [w0s]
      exact hsh
  obtain ⟨b, z1, w1, y1, y2, y3⟩ := pRead (q_Re_tape (q_OL_now z)) 10 0 0 0 [] 1000 1000 z0 w0 (by omega) (by omega) (by omega) rfl (by omega) hS (by rw [hw0]; rfl)
  have y1 : d_Rd_read_L31 (q_Re_tape (q_OL_now z)) rEnd rEnd 1000 0 z0 = some (b, z1) := y1
  have y2 : ((d_Mo_clauseHere w0).bind fun v => d_Mo_land_L75 mEnd 1000 1 v) = mEnd w1 := y2
  rw [← hz0, ← hw0, y1, y2, Option.bind_some]
  have bad : ∀ {k : Nat}, q_Rd_place z1 = nI k → q_Mo_spot w1 = nI k → LdW w0 h e w1 → mEnd w1 = some ((-10) - nI k, w1) → ∃ (r : Int32) (z' : T_OL) (w' : T_Mo), some ((-10) - q_Rd_place z1, u_OL_now (u_OL_reader z z1) (u_Re_signs (q_OL_now z) 0)) = some (r, z') ∧ mEnd w1 = some (r, w') ∧ Rl z' w' := by
    intro k b1 b2 b3 b4
    rw [b4, b1]
    refine ⟨_, _, _, rfl, rfl, ?_⟩
    have a1 : ∀ i, i < 201 + 140 * h → i ≠ 196 + h → i ≠ 4 → q_Mo_s w1 i = q_Mo_s w i := fun i a b c => by rw [b3.2.2.1 i a b, w0s, hs0 i c b]
    have a4 : q_Mo_s w1 4 = 0 := by rw [b3.2.2.1 4 (by omega) (by omega), w0s, hs4]
    have a2 := a1 2 (by omega) (by omega) (by omega)
    have a5 := a1 5 (by omega) (by omega) (by omega)
    refine Rl.set (cl := cl) hR0 ?_ rfl rfl rfl (hFr.tr b3.2.2.2)
    refine RC_land hR (fun i a _ c _ => a1 i (by omega) (by omega) c) a4 (by rw [a2, q1]; exact rg_n (by omega) (by omega)) rfl ?_ rfl rfl rfl rfl rfl rfl (hR.lc.old hH hh (by omega) a5 (fun i a b c => a1 i a b (by omega))) (hH.same a5 a2)
    rw [a2]
    exact e2
  rcases y3 with ⟨rfl, cl', p', hl, hS1⟩ | ⟨rfl, hS1 | ⟨k', p', cl', hk, hS1⟩⟩
  · rw [if_neg n10, La_copyFrom, Option.bind_some]
    obtain ⟨b1, b2, b3, b4⟩ := hS1.2.2.1
    have b5 : q_Mo_spot w1 = q_Mo_end w1 := hS1.2.2.2.1.2.1.trans b1.symm
    have hm : mEnd w1 = some (nI h, u_Mo_s w1 (upd (upd (q_Mo_s w1) 2 (nI (h + 1))) 5 (nI h))) := by
      unfold mEnd
      rw [if_pos hS1.nw, if_pos b5, b2]
      have : q_Mo_s w1 2 + 1 = nI (h + 1) := by rw [b3 2 (by omega) (by omega), w0s, hs0 2 (by omega) (by omega), q1, nI_1]
      rw [this]
    rw [hm]
    have er : q_Mo_s w 2 + 1 - 1 = nI h := by rw [q1, nI_1, nI_pred]
    refine ⟨nI h, _, _, congrArg some (Prod.ext er rfl), rfl, ?_⟩
    have a1 : ∀ i, i < 201 + 140 * h → i ≠ 196 + h → i ≠ 4 → i ≠ 2 → i ≠ 5 → upd (upd (q_Mo_s w1) 2 (nI (h + 1))) 5 (nI h) i = q_Mo_s w i := fun i a b c d f => by rw [pk_un f, pk_un d, b3 i a b, w0s, hs0 i c b]
    have a6 : ∀ i, 5 < i → upd (upd (q_Mo_s w1) 2 (nI (h + 1))) 5 (nI h) i = q_Mo_s w1 i := fun i a => by rw [pk_un (by omega), pk_un (by omega)]
    have a4 : upd (upd (q_Mo_s w1) 2 (nI (h + 1))) 5 (nI h) 4 = 0 := by rw [pk_un (by omega), pk_un (by omega), b3 4 (by omega) (by omega), w0s, hs4]
    have a2 : upd (upd (q_Mo_s w1) 2 (nI (h + 1))) 5 (nI h) 2 = nI (h + 1) := by rw [pk_un (by omega), pk_us]
    have a5 : upd (upd (q_Mo_s w1) 2 (nI (h + 1))) 5 (nI h) 5 = nI h := pk_us
    refine Rl.set (cl := cl') hR0 ?_ rfl rfl rfl (hFr.tr b4)
    show RC _ (upd (upd (q_Mo_s w1) 2 (nI (h + 1))) 5 (nI h)) cl'
    generalize upd (upd (q_Mo_s w1) 2 (nI (h + 1))) 5 (nI h) = s' at *
    have hke := hS1.2.2.2.2.2.1
    obtain ⟨⟨d1, d2, d3, -⟩, ⟨d4, d5, -⟩, -, d6⟩ := hS1.2.2.2.2.2.2
    simp only [List.length_nil, Nat.add_zero] at d2 d4 hke
    refine RC_land hR (fun i a b c d => a1 i (by omega) (by omega) c b d) a4 (by rw [a2]; exact rg_n (by omega) (by omega)) rfl ?_ rfl rfl rfl rfl rfl rfl ?_ (Or.inr ⟨h, a5, by rw [a2, rg_N (by omega)]; omega⟩)
    · rw [a2]
      show q_Mo_s w 2 + 1 = _
      rw [q1, nI_1]
    · refine ⟨d1, hl, by omega, d6, LaR.same (fun i hi => ⟨cpy0 hi, cpy0 hi, cpy0 hi⟩) (fun j hj => cpy0 hj) cl' 0 0 (by omega) (by omega) d3, Or.inr ⟨h, by omega, a5, ?_, LmR.keep cl' _ (fun i a b => a6 i (by omega)) d5⟩⟩
      rw [a6 _ (by omega)]
      exact d4
  · rw [if_pos rfl]
    obtain ⟨k, -, g1, g2⟩ := hS1.2.2.2.1
    refine bad g1 g2 hS1.2.2.1 ?_
    unfold mEnd
    rw [if_neg hS1.n0, g2]
  · rw [if_pos rfl]
    have h100 := hS1.1.2.1
    have hke := hS1.2.2.2.1.2.2
    refine bad hS1.2.2.2.1.1 hS1.2.2.2.1.2.1 hS1.2.2.1 ?_
    unfold mEnd
    rw [if_pos hS1.nw, hS1.2.2.1.1, hS1.2.2.2.1.2.1, if_neg (fun y => hk ((nI_eq (by omega) (by omega)).mp y))]

/-! How all stands: take in the class, looksForAll in the model. -/
theorem lpIx {σ ρ : Type} {z : Int32 → σ → Option ρ} {B : (Int32 → σ → Option ρ) → Int32 → σ → Option ρ} {n : Nat} (k : σ → Option ρ) (P : Nat → σ → Prop)
    (hs : ∀ self t a, t < n → P t a → ∃ a', B self (nI t) a = self (nI (t + 1)) a' ∧ P (t + 1) a') (he : ∀ self a, P n a → B self (nI n) a = k a) :
    ∀ (m t : Nat) (a : σ), t ≤ n → n < m + t → P t a → ∃ a', P n a' ∧ recN z B m (nI t) a = k a'
  | 0, t, a, h1, h2, _ => absurd h2 (by omega)
  | m + 1, t, a, h1, h2, hP => by
    show ∃ a', P n a' ∧ B (recN z B m) (nI t) a = k a'
    by_cases h : t < n
    · obtain ⟨a1, e, hP'⟩ := hs (recN z B m) t a h hP
      rw [e]
      exact lpIx k P hs he m (t + 1) a1 (by omega) (by omega) hP'
    · have e : t = n := by omega
      subst e
      exact ⟨a, hP, he _ a hP⟩
theorem lpIx2 {σ τ ρ : Type} {z : Int32 → σ → τ → Option ρ} {B : (Int32 → σ → τ → Option ρ) → Int32 → σ → τ → Option ρ} {n : Nat} (k : σ → τ → Option ρ) (P : Nat → σ → τ → Prop)
    (hs : ∀ self t a b, t < n → P t a b → ∃ a' b', B self (nI t) a b = self (nI (t + 1)) a' b' ∧ P (t + 1) a' b') (he : ∀ self a b, P n a b → B self (nI n) a b = k a b) :
    ∀ (m t : Nat) (a : σ) (b : τ), t ≤ n → n < m + t → P t a b → ∃ a' b', P n a' b' ∧ recN z B m (nI t) a b = k a' b'
  | 0, t, a, b, h1, h2, _ => absurd h2 (by omega)
  | m + 1, t, a, b, h1, h2, hP => by
    show ∃ a' b', P n a' b' ∧ B (recN z B m) (nI t) a b = k a' b'
    by_cases h : t < n
    · obtain ⟨a1, b1, e, hP'⟩ := hs (recN z B m) t a b h hP
      rw [e]
      exact lpIx2 k P hs he m (t + 1) a1 b1 (by omega) (by omega) hP'
    · have e : t = n := by omega
      subst e
      exact ⟨a, b, hP, he _ a b hP⟩
def xWt (s : Nat → Int32) (t : Nat) : Nat := NN (s (58 + t))
def xOw (s : Nat → Int32) (t : Nat) : Nat := NN (s (65 + t))
/-- the Standing so far: rows of the first i people -/
def TkO (s : Nat → Int32) (cl : CL) (i : Nat) (z : T_St) : Prop :=
  q_St_people z = s 0 ∧ q_St_things z = s 1 ∧ (∀ t, t < NN (s 1) → q_St_weight z t = nI (xWt s t)) ∧ (∀ t, t < NN (s 1) → q_St_owner z t = oC (xOw s t)) ∧
  (∀ p, p < i → q_St_lifts z p = nI (xL cl s p) ∧ q_St_ill z p = nI (xI cl s p) ∧ ∀ t, t < NN (s 1) → q_St_like z p t = nI (xK cl s p t))
def TkI (s : Nat → Int32) (cl : CL) (p j : Nat) (z : T_St) : Prop :=
  TkO s cl p z ∧ q_St_lifts z p = nI (xL cl s p) ∧ q_St_ill z p = nI (xI cl s p) ∧ ∀ t, t < j → q_St_like z p t = nI (xK cl s p t)
section TK
variable {r : T_Re} {s : Nat → Int32} {cl : CL}
theorem TkI_step {p j : Nat} {z : T_St} (h : TkI s cl p j z) : TkI s cl p (j + 1) (u_St_like z (upd2 (q_St_like z) p j (nI (xK cl s p j)))) := by
  obtain ⟨⟨h1, h2, h3, h4, h5⟩, h6, h7, h8⟩ := h
  refine ⟨⟨h1, h2, h3, h4, fun q hq => ⟨(h5 q hq).1, (h5 q hq).2.1, fun t ht => ?_⟩⟩, h6, h7, fun t ht => ?_⟩
  · show upd2 (q_St_like z) p j _ q t = _
    unfold upd2
    rw [if_neg (by omega)]
    exact (h5 q hq).2.2 t ht
  · show upd2 (q_St_like z) p j _ p t = _
    unfold upd2
    rw [if_pos rfl]
    by_cases e : t = j
    · subst e; exact pk_us
    · rw [pk_un e]; exact h8 t (by omega)
theorem St_take (hr : ReC r s cl) (hs : RgS s) (z : T_St) : ∃ z' F, d_St_take z r = some (z', u_Re_facts r F) ∧ TkO s cl (NN (s 0)) z' := by
  have h4 := hs.1.2
  have h7 := hs.2.1.2
  have e0 : s 0 = nI (NN (s 0)) := hs.1.1
  have e1 : s 1 = nI (NN (s 1)) := hs.2.1.1
  unfold d_St_take
  obtain ⟨z', w', ⟨hP1, F, hP2⟩, hP⟩ := lpIx2 (z := fun _ _ _ => none) (B := fun self => B_St_take_L60 self) (n := NN (s 0)) (fun a b => some (a, b)) (fun i a b => TkO s cl i a ∧ ∃ F, b = u_Re_facts r F)
    (by
      intro self p a b hp ⟨hT, F, hb⟩
      subst hb
      have c0 : inb (nI p) 4 = true := inb_n (by omega) (by omega)
      have c1 : (nI p).toNatClampNeg = p := nI_clamp (by omega)
      have c2 : ¬ q_St_people a ≤ nI p := by rw [hT.1, e0]; exact nI_ge hp (by omega)
      obtain ⟨F1, y1⟩ := Re_liftsOf (r := u_Re_facts r F) (s := s) (cl := cl) hr hs hp
      obtain ⟨F2, y2⟩ := Re_illOf (r := u_Re_facts (u_Re_facts r F) F1) (s := s) (cl := cl) hr hs hp
      have hI : TkI s cl p 0 (u_St_ill (u_St_lifts a (upd (q_St_lifts a) p (nI (xL cl s p)))) (upd (q_St_ill (u_St_lifts a (upd (q_St_lifts a) p (nI (xL cl s p))))) p (nI (xI cl s p)))) := by
        refine ⟨⟨hT.1, hT.2.1, hT.2.2.1, hT.2.2.2.1, fun q hq => ⟨?_, ?_, (hT.2.2.2.2 q hq).2.2⟩⟩, pk_us, pk_us, fun t ht => absurd ht (by omega)⟩
        · exact (pk_un (by omega)).trans (hT.2.2.2.2 q hq).1
        · exact (pk_un (by omega)).trans (hT.2.2.2.2 q hq).2.1
      obtain ⟨z1, w1, ⟨hQ1, F3, hQ2⟩, hQ⟩ := lpIx2 (z := fun _ _ _ => none) (B := fun sf => B_St_take_L92 (nI p) (fun z_92 w_92 => self (nI (p + 1)) z_92 w_92) sf) (n := NN (s 1)) (fun z_92 w_92 => self (nI (p + 1)) z_92 w_92) (fun j a b => TkI s cl p j a ∧ ∃ F, b = u_Re_facts r F)
        (by
          intro sf t a b ht ⟨hT, F, hb⟩
          subst hb
          have d0 : inb (nI t) 7 = true := inb_n (by omega) (by omega)
          have d1 : (nI t).toNatClampNeg = t := nI_clamp (by omega)
          have d2 : ¬ q_St_things a ≤ nI t := by rw [hT.1.2.1, e1]; exact nI_ge ht (by omega)
          obtain ⟨F1, y⟩ := Re_likeOf (r := u_Re_facts r F) (s := s) (cl := cl) hr hs hp ht
          refine ⟨_, u_Re_facts r F1, ?_, TkI_step hT, F1, rfl⟩
          simp only [B_St_take_L92, d2, c0, d0, c1, d1, if_false, if_true, nI_1]
          rw [y]
          rfl)
        (by
          intro sf a b ⟨hT, _⟩
          have d2 : q_St_things a ≤ nI (NN (s 1)) := by rw [hT.1.2.1, ← e1]; exact Int32.le_refl _
          simp only [B_St_take_L92, d2, if_true])
        1000 0 _ _ (Nat.zero_le _) (by omega) ⟨hI, F2, rfl⟩
      refine ⟨z1, w1, ?_, ⟨hQ1.1.1, hQ1.1.2.1, hQ1.1.2.2.1, hQ1.1.2.2.2.1, fun q hq => ?_⟩, F3, hQ2⟩
      · simp only [B_St_take_L60, c2, c0, c1, if_false, if_true, nI_1]
        rw [y1]
        simp only [Option.bind_some]
        rw [y2]
        exact hQ
      · by_cases e : q = p
        · subst e
          exact ⟨hQ1.2.1, hQ1.2.2.1, hQ1.2.2.2⟩
        · exact hQ1.1.2.2.2.2 q (by omega))
    (by
      intro self a b ⟨hT, _⟩
      have d2 : q_St_people a ≤ nI (NN (s 0)) := by rw [hT.1, ← e0]; exact Int32.le_refl _
      simp only [B_St_take_L60, d2, if_true])
    1000 0 (u_St_owner (u_St_weight (u_St_things (u_St_people z (q_Pe_size (q_Re_people r))) (q_Th_size (q_Re_things r))) (va_cpy (q_Th_weight (q_Re_things r)) (q_St_weight (u_St_things (u_St_people z (q_Pe_size (q_Re_people r))) (q_Th_size (q_Re_things r)))) 0 0 7)) (va_cpy (q_Th_owner (q_Re_things r)) (q_St_owner (u_St_weight (u_St_things (u_St_people z (q_Pe_size (q_Re_people r))) (q_Th_size (q_Re_things r))) (va_cpy (q_Th_weight (q_Re_things r)) (q_St_weight (u_St_things (u_St_people z (q_Pe_size (q_Re_people r))) (q_Th_size (q_Re_things r)))) 0 0 7))) 0 0 7)) r (Nat.zero_le _) (by omega)
    ⟨⟨hr.1, hr.2.1, fun t ht => by
        have cT := hr.2.2.2.2.2.2.2.1 t ht
        show va_cpy _ _ 0 0 7 t = _
        rw [pk_cpy_in (by omega) (by omega), Nat.sub_zero, Nat.zero_add, cT.1]
        exact (hs.2.2.2.2.2.2.2.1 t ht).1.1, fun t ht => by
        have cT := hr.2.2.2.2.2.2.2.1 t ht
        show va_cpy _ _ 0 0 7 t = _
        rw [pk_cpy_in (by omega) (by omega), Nat.sub_zero, Nat.zero_add, cT.2]
        rfl, fun p hp => absurd hp (by omega)⟩, q_Re_facts r, rfl⟩
  subst hP2
  exact ⟨z', F, hP, hP1⟩
/-- the world of a realm is in range -/
theorem RG_of (hL : ∃ r : T_Re, LcR (q_Re_land r) s cl) (hs : RgS s) : RG (NN (s 0)) (NN (s 1)) (xWt s) (xOw s) (xK cl s) (xL cl s) := by
  obtain ⟨r, hL⟩ := hL
  refine ⟨hs.1.2, hs.2.1.2, fun t ht => (hs.2.2.2.2.2.2.2.1 t ht).1.2, fun t ht => (hs.2.2.2.2.2.2.2.1 t ht).2.2, fun p t _ _ => ?_, fun p hp => ?_⟩
  · have h1 := toO_1000 (fa := fPT s p t) (a := 0) hL
    unfold xK
    omega
  · have h1 := toO_1000 (fa := fP s p) (a := 1) hL
    have hP := hs.2.2.2.2.2.2.1 p hp
    have h2 := hP.2.2.1.2
    have h3 := hP.2.1.2
    unfold xL
    split <;> omega
theorem TkO_SW {z : T_St} (hs : RgS s) (h : TkO s cl (NN (s 0)) z) : SW z (NN (s 0)) (NN (s 1)) (xWt s) (xOw s) (xK cl s) (xL cl s) :=
  ⟨h.1.trans hs.1.1, h.2.1.trans hs.2.1.1, h.2.2.1, h.2.2.2.1, fun p t hp ht => (h.2.2.2.2 p hp).2.2 t ht, fun p hp => (h.2.2.2.2 p hp).1⟩
end TK
/-- what a question of the model leaves as it was, but its row -/
def FrM (w w' : T_Mo) : Prop := q_Mo_image w' = q_Mo_image w ∧ q_Mo_hasImage w' = q_Mo_hasImage w ∧ q_Mo_bodies w' = q_Mo_bodies w ∧ q_Mo_ran w' = q_Mo_ran w
theorem FrM.rf {w : T_Mo} : FrM w w := ⟨rfl, rfl, rfl, rfl⟩
theorem FrM.tr {a b c : T_Mo} (h : FrM a b) (k : FrM b c) : FrM a c := ⟨k.1.trans h.1, k.2.1.trans h.2.1, k.2.2.1.trans h.2.2.1, k.2.2.2.trans h.2.2.2⟩
/-- the model's rows of LIFTS and LIKES so far -/
def LkO (s : Nat → Int32) (cl : CL) (i : Nat) (w : T_Mo) : Prop :=
  q_Mo_s w = s ∧ ∀ p, p < i → q_Mo_lifts w p = nI (xL cl s p) ∧ ∀ t, t < NN (s 1) → q_Mo_likes w (7 * p + t) = nI (xK cl s p t)
def LkI (s : Nat → Int32) (cl : CL) (p j : Nat) (w : T_Mo) : Prop :=
  LkO s cl p w ∧ q_Mo_lifts w p = nI (xL cl s p) ∧ ∀ t, t < j → q_Mo_likes w (7 * p + t) = nI (xK cl s p t)
theorem Mo_looksForAll {w : T_Mo} {r : T_Re} {cl : CL} (hL : LcR (q_Re_land r) (q_Mo_s w) cl) (hs : RgS (q_Mo_s w)) : ∃ w', d_Mo_looksForAll w = some w' ∧ LkO (q_Mo_s w) cl (NN (q_Mo_s w 0)) w' ∧ FrM w w' := by
  have h4 := hs.1.2
  have h7 := hs.2.1.2
  have e0 : q_Mo_s w 0 = nI (NN (q_Mo_s w 0)) := hs.1.1
  have e1 : q_Mo_s w 1 = nI (NN (q_Mo_s w 1)) := hs.2.1.1
  generalize hS : q_Mo_s w = s at *
  obtain ⟨w', ⟨hP1, hP2⟩, hP⟩ := lpIx (z := fun _ _ => none) (B := fun self => B_Mo_looksForAll_L2 self) (n := NN (s 0)) some (fun i a => LkO s cl i a ∧ FrM w a)
    (by
      intro self p a hp ⟨hT, hF⟩
      have c0 : inb (nI p) 4 = true := inb_n (by omega) (by omega)
      have c1 : (nI p).toNatClampNeg = p := nI_clamp (by omega)
      have c2 : ¬ q_Mo_s a 0 ≤ nI p := by rw [hT.1, e0]; exact nI_ge hp (by omega)
      have hLa : LcR (q_Re_land r) (q_Mo_s a) cl := by rw [hT.1]; exact hL
      have hsa : RgS (q_Mo_s a) := by rw [hT.1]; exact hs
      obtain ⟨B1, T1, y1⟩ := Mo_liftsOf (w := a) hLa hsa (p := p) (by rw [hT.1]; exact hp)
      rw [hT.1] at y1
      have hI : LkI s cl p 0 (u_Mo_lifts (u_Mo_truths (u_Mo_by a B1) T1) (upd (q_Mo_lifts (u_Mo_truths (u_Mo_by a B1) T1)) p (nI (xL cl s p)))) :=
        ⟨⟨hT.1, fun q hq => ⟨(pk_un (by omega)).trans (hT.2 q hq).1, (hT.2 q hq).2⟩⟩, pk_us, fun t ht => absurd ht (by omega)⟩
      obtain ⟨w1, ⟨hQ1, hQ2⟩, hQ⟩ := lpIx (z := fun _ _ => none) (B := fun sf => B_Mo_looksForAll_L25 (nI p) (fun z_25 => self (nI (p + 1)) z_25) sf) (n := NN (s 1)) (fun z_25 => self (nI (p + 1)) z_25) (fun j a => LkI s cl p j a ∧ FrM w a)
        (by
          intro sf t a ht ⟨hT, hF⟩
          have d2 : ¬ q_Mo_s a 1 ≤ nI t := by rw [hT.1.1, e1]; exact nI_ge ht (by omega)
          have hLa : LcR (q_Re_land r) (q_Mo_s a) cl := by rw [hT.1.1]; exact hL
          have hsa : RgS (q_Mo_s a) := by rw [hT.1.1]; exact hs
          have d3 : inb (nI (7 * p + t)) 28 = true := inb_n (by omega) (by omega)
          have d4 : (nI (7 * p + t)).toNatClampNeg = 7 * p + t := nI_clamp (by omega)
          obtain ⟨B1, T1, y⟩ := Mo_likeOf (w := a) hLa hsa (p := p) (t := t) (by rw [hT.1.1]; exact hp) (by rw [hT.1.1]; exact ht)
          rw [hT.1.1] at y
          refine ⟨u_Mo_likes (u_Mo_truths (u_Mo_by a B1) T1) (upd (q_Mo_likes (u_Mo_truths (u_Mo_by a B1) T1)) (7 * p + t) (nI (xK cl s p t))), ?_, ⟨⟨hT.1.1, fun q hq => ⟨(hT.1.2 q hq).1, fun u hu => (pk_un (by omega)).trans ((hT.1.2 q hq).2 u hu)⟩⟩, hT.2.1, fun u hu => ?_⟩, hF⟩
          · simp only [B_Mo_looksForAll_L25, d2, if_false]
            rw [y]
            simp only [Option.bind_some, ow_7, d3, d4, if_true, nI_1]
          · show upd _ _ _ _ = _
            by_cases e : u = t
            · subst e; exact pk_us
            · rw [pk_un (by omega)]; exact hT.2.2 u (by omega))
        (by
          intro sf a ⟨hT, _⟩
          have d2 : q_Mo_s a 1 ≤ nI (NN (s 1)) := by rw [hT.1.1, ← e1]; exact Int32.le_refl _
          simp only [B_Mo_looksForAll_L25, d2, if_true])
        1000 0 _ (Nat.zero_le _) (by omega) ⟨hI, hF⟩
      refine ⟨w1, ?_, ⟨hQ1.1.1, fun q hq => ?_⟩, hQ2⟩
      · simp only [B_Mo_looksForAll_L2, c2, if_false]
        rw [y1]
        simp only [Option.bind_some, c0, c1, if_true, nI_1]
        exact hQ
      · by_cases e : q = p
        · subst e
          exact ⟨hQ1.2.1, hQ1.2.2⟩
        · exact hQ1.1.2 q (by omega))
    (by
      intro self a ⟨hT, _⟩
      have d2 : q_Mo_s a 0 ≤ nI (NN (s 0)) := by rw [hT.1, ← e0]; exact Int32.le_refl _
      simp only [B_Mo_looksForAll_L2, d2, if_true])
    1000 0 w (Nat.zero_le _) (by omega) ⟨⟨hS, fun p hp => absurd hp (by omega)⟩, FrM.rf⟩
  exact ⟨w', hP, hP1, hP2⟩
theorem MT_of {s : Nat → Int32} (hs : RgS s) : MT s (NN (s 1)) (xWt s) (xOw s) :=
  ⟨hs.2.1.1, fun t ht => (hs.2.2.2.2.2.2.2.1 t ht).1.1, fun t ht => (hs.2.2.2.2.2.2.2.1 t ht).2.1.1⟩
theorem LkO_MW {s : Nat → Int32} {cl : CL} {w : T_Mo} (hs : RgS s) (h : LkO s cl (NN (s 0)) w) : MW w (NN (s 0)) (NN (s 1)) (xWt s) (xOw s) (xK cl s) (xL cl s) := by
  refine ⟨?_, ?_, fun p t hp ht => (h.2 p hp).2 t ht, fun p hp => (h.2 p hp).1⟩
  · rw [h.1]; exact hs.1.1
  · rw [h.1]; exact MT_of hs

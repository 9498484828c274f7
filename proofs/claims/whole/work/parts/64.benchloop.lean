/-! A BENCH whole, on both sides. -/
theorem RG.upd' {np nt : Nat} {W O : Nat → Nat} {K : Nat → Nat → Nat} {L : Nat → Nat} (r : RG np nt W O K L) {t x : Nat} (hx : x < np ∨ x = 4) : RG np nt W (upn O t x) K L := by
  refine ⟨r.1, r.2.1, r.2.2.1, fun j hj => ?_, r.2.2.2.2⟩
  unfold upn
  by_cases q : j = t
  · rw [if_pos q]; exact hx
  · rw [if_neg q]; exact r.2.2.2.1 j hj
theorem SW.upd' {z : T_St} {np nt : Nat} {W O : Nat → Nat} {K : Nat → Nat → Nat} {L : Nat → Nat} (h : SW z np nt W O K L) {X : Nat → Int32} {O' : Nat → Nat} (hX : ∀ t, t < nt → X t = oC (O' t)) : SW (u_St_owner z X) np nt W O' K L :=
  ⟨h.1, h.2.1, h.2.2.1, hX, h.2.2.2.2⟩
theorem MW.upd' {w : T_Mo} {np nt : Nat} {W O : Nat → Nat} {K : Nat → Nat → Nat} {L : Nat → Nat} (h : MW w np nt W O K L) {s' : Nat → Int32} {O' : Nat → Nat} (hT : MT s' nt W O') (hs : ∀ i, (i < 65 ∨ 72 ≤ i) → s' i = q_Mo_s w i) : MW (u_Mo_s w s') np nt W O' K L :=
  ⟨(hs 0 (by omega)).trans h.1, hT, h.2.2⟩
theorem PM.same {s s' : Nat → Int32} {p kd rs : Nat} {R : Nat → Nat} (h : PM s p kd rs R) (hp : p < 4) (hrs : rs ≤ 7) (hs : ∀ i, (i < 65 ∨ 72 ≤ i) → s' i = s i) : PM s' p kd rs R :=
  ⟨(hs _ (by omega)).trans h.1, (hs _ (by omega)).trans h.2.1, fun i hi => (hs _ (by omega)).trans (h.2.2 i hi)⟩
theorem nBe_s {kd p np nt rs : Nat} {R W : Nat → Nat} {k L : Nat → Nat} (m : Nat) (O : Nat → Nat) : nBe kd p np nt rs R W k L (m + 1) O = if nLd W O nt p ≤ L p then (0, O) else match nCh kd p nt rs R W O k with
    | none => (0, O)
    | some t => ((nBe kd p np nt rs R W k L m (upn O t (nHe kd p np nt W O L t))).1 + 1, (nBe kd p np nt rs R W k L m (upn O t (nHe kd p np nt W O L t))).2) := rfl
theorem nBe_RG {np nt p kd rs : Nat} {R W : Nat → Nat} {K : Nat → Nat → Nat} {L : Nat → Nat} (hp : p < np) (hr : PR kd rs nt R) : ∀ (m : Nat) (O : Nat → Nat), RG np nt W O K L → RG np nt W (nBe kd p np nt rs R W (K p) L m O).2 K L
  | 0, _, r => r
  | m + 1, O, r => by
    rw [nBe_s]
    split
    · exact r
    · split
      · exact r
      · exact nBe_RG hp hr m _ (r.upd' (nHe_P hp r.1).1)
/-- how a turn of a bench goes when one is over -/
theorem nBe_turn {np nt p kd rs : Nat} {R W O : Nat → Nat} {K : Nat → Nat → Nat} {L : Nat → Nat} (r : RG np nt W O K L) (hp : p < np) (hr : PR kd rs nt R) (hov : ¬ nLd W O nt p ≤ L p) :
    ∃ t, nCh kd p nt rs R W O (K p) = some t ∧ t < nt ∧ O t = p ∧ nOw O nt p = nOw (upn O t (nHe kd p np nt W O L t)) nt p + 1 := by
  cases hc : nCh kd p nt rs R W O (K p) with
  | none => exact absurd (nCh_some hc) (by omega)
  | some t =>
    have h1 := nCh_P hr.2.2 hc
    exact ⟨t, rfl, h1.1, h1.2, nOw_drop h1.1 h1.2 (nHe_P hp r.1).2⟩
section BL
variable {y : T_Pe} {np nt p kd rs : Nat} {R W : Nat → Nat} {K : Nat → Nat → Nat} {L : Nat → Nat}
theorem St_lightenL (hp : p < np) (hy : PW y p kd rs R) (hr : PR kd rs nt R) : ∀ (m c : Nat) (O : Nat → Nat) (z : T_St), SW z np nt W O K L → RG np nt W O K L → c + nOw O nt p ≤ nt → nOw O nt p < m →
    ∃ X, d_St_lighten_L2 (nI p) y m (nI c) z = some (nI (c + (nBe kd p np nt rs R W (K p) L m O).1), u_St_owner z X) ∧ (∀ t, t < nt → X t = oC ((nBe kd p np nt rs R W (K p) L m O).2 t))
  | 0, _, _, _, _, _, _, q => by omega
  | m + 1, c, O, z, h, r, hc, hm => by
    have h4 := r.1
    have h7 := r.2.1
    have e1 : inb (nI p) 4 = true := inb_n (by omega) (by omega)
    have c1 : (nI p).toNatClampNeg = p := nI_clamp (by omega)
    have hB : d_St_lighten_L2 (nI p) y (m + 1) (nI c) z = B_St_lighten_L2 (nI p) y (d_St_lighten_L2 (nI p) y m) (nI c) z := rfl
    rw [hB, nBe_s]
    unfold B_St_lighten_L2
    by_cases hov : nLd W O nt p ≤ L p
    · rw [if_pos hov]
      refine ⟨q_St_owner z, ?_, h.2.2.2.1⟩
      have q1 : ¬ L p < nLd W O nt p := by omega
      simp only [St_over h r hp, q1, decide_false, bI_f, Option.bind_some, if_true, ite_self]
      rfl
    · rw [if_neg hov]
      obtain ⟨t, ht1, ht2, ht3, ht4⟩ := nBe_turn r hp hr hov
      have e2 : ¬ nI nt ≤ nI c := nI_ge (by omega) (by omega)
      have e3 : inb (nI t) 7 = true := inb_n (by omega) (by omega)
      have c3 : (nI t).toNatClampNeg = t := nI_clamp (by omega)
      have e5 : (0 : Int32) ≤ nI t := nI_pos' (by omega)
      have q1 : L p < nLd W O nt p := by omega
      have hX : ∀ j, j < nt → upd (q_St_owner z) t (oC (nHe kd p np nt W O L t)) j = oC (upn O t (nHe kd p np nt W O L t) j) := fun j hj => by
        unfold upd upn
        by_cases q : j = t
        · rw [if_pos q, if_pos q]
        · rw [if_neg q, if_neg q]; exact h.2.2.2.1 j hj
      obtain ⟨X, g1, g2⟩ := St_lightenL hp hy hr m (c + 1) (upn O t (nHe kd p np nt W O L t)) (u_St_owner z (upd (q_St_owner z) t (oC (nHe kd p np nt W O L t)))) (h.upd' hX) (r.upd' (nHe_P hp h4).1) (by omega) (by omega)
      have z9 : ¬ (1 : Int32) = 0 := by decide
      have g0 : oI (some t) = nI t := rfl
      simp only [ht1, h.2.1, e2, St_over h r hp, q1, decide_true, bI_t, Option.bind_some, if_false, if_true, z9, St_choose h r hp hy hr, g0, e5, e1, c1, hy.1, St_heir h r hp hr.1 ht2, e3, c3, nI_1]
      refine ⟨X, ?_, g2⟩
      refine Eq.trans g1 ?_
      rw [show c + 1 + (nBe kd p np nt rs R W (K p) L m (upn O t (nHe kd p np nt W O L t))).1 = c + ((nBe kd p np nt rs R W (K p) L m (upn O t (nHe kd p np nt W O L t))).1 + 1) by omega]
theorem Mo_benchesL (hp : p < np) (hr : PR kd rs nt R) : ∀ (m c : Nat) (O : Nat → Nat) (w : T_Mo), MW w np nt W O K L → PM (q_Mo_s w) p kd rs R → RG np nt W O K L → nOw O nt p < m →
    ∃ s', d_Mo_benches_L2 (nI p) m (nI c) w = some (nI (c + (nBe kd p np nt rs R W (K p) L m O).1), u_Mo_s w s') ∧ MT s' nt W (nBe kd p np nt rs R W (K p) L m O).2 ∧ ∀ i, (i < 65 ∨ 72 ≤ i) → s' i = q_Mo_s w i
  | 0, _, _, _, _, _, _, q => by omega
  | m + 1, c, O, w, h, hy, r, hm => by
    have h4 := r.1
    have h7 := r.2.1
    have hL := r.2.2.2.2.2 p hp
    have hl := nLd_le (O := O) (p := p) h7 r.2.2.1
    have e1 : inb (nI p) 4 = true := inb_n (by omega) (by omega)
    have c1 : (nI p).toNatClampNeg = p := nI_clamp (by omega)
    have hB : d_Mo_benches_L2 (nI p) (m + 1) (nI c) w = B_Mo_benches_L2 (nI p) (d_Mo_benches_L2 (nI p) m) (nI c) w := rfl
    have z1 : (nI (nLd W O nt p) ≤ nI (L p)) ↔ nLd W O nt p ≤ L p := nI_leI (by omega) (by omega)
    rw [hB, nBe_s]
    unfold B_Mo_benches_L2
    by_cases hov : nLd W O nt p ≤ L p
    · rw [if_pos hov]
      refine ⟨q_Mo_s w, ?_, h.2.1, fun _ _ => rfl⟩
      simp only [Mo_loadOf h.2.1 h7 (fun t ht => r.o4 ht) (show p < 4 by omega), Option.bind_some, e1, c1, h.2.2.2 p hp, z1, hov, if_true]
      rfl
    · rw [if_neg hov]
      obtain ⟨t, ht1, ht2, ht3, ht4⟩ := nBe_turn r hp hr hov
      have e3 : inb (65 + nI t) 901 = true := in9 65 (by omega)
      have c3 : (65 + nI t).toNatClampNeg = 65 + t := cl9 65 (by omega)
      have hT : MT (upd (q_Mo_s w) (65 + t) (nI (nHe kd p np nt W O L t))) nt W (upn O t (nHe kd p np nt W O L t)) := by
        refine ⟨(pk_un (by omega)).trans h.2.1.1, fun j hj => (pk_un (by omega)).trans (h.2.1.2.1 j hj), fun j hj => ?_⟩
        unfold upd upn
        by_cases q : j = t
        · rw [if_pos (by omega), if_pos q]
        · rw [if_neg (by omega), if_neg q]; exact h.2.1.2.2 j hj
      have hs : ∀ i, (i < 65 ∨ 72 ≤ i) → upd (q_Mo_s w) (65 + t) (nI (nHe kd p np nt W O L t)) i = q_Mo_s w i := fun i hi => pk_un (by omega)
      obtain ⟨s', g1, g2, g3⟩ := Mo_benchesL hp hr m (c + 1) (upn O t (nHe kd p np nt W O L t)) (u_Mo_s w (upd (q_Mo_s w) (65 + t) (nI (nHe kd p np nt W O L t)))) (h.upd' hT hs) (hy.same (by omega) hr.2.1 hs) (r.upd' (nHe_P hp h4).1) (by omega)
      have g0 : oI (some t) = nI t := rfl
      simp only [ht1, Mo_loadOf h.2.1 h7 (fun t ht => r.o4 ht) (show p < 4 by omega), Option.bind_some, e1, c1, h.2.2.2 p hp, z1, hov, if_false, if_true, Mo_drops h r hp hy hr, g0, Mo_becomes h r hp hy.1 hr.1 ht2, e3, c3, nI_1]
      refine ⟨s', ?_, g2, fun i hi => (g3 i hi).trans (hs i hi)⟩
      refine Eq.trans g1 ?_
      rw [show c + 1 + (nBe kd p np nt rs R W (K p) L m (upn O t (nHe kd p np nt W O L t))).1 = c + ((nBe kd p np nt rs R W (K p) L m (upn O t (nHe kd p np nt W O L t))).1 + 1) by omega]
end BL

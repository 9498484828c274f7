/-! ACTS. -/
def AcR (w0 : T_Mo) (k : Nat) (num v : Int32) (kd : Nat) (a : T_Ac) (w : T_Mo) : Prop :=
  (q_Ac_ran a = nI k ∧ q_Mo_ran w = nI k ∧ ∀ i, i < k → q_Ac_bodies a i = q_Mo_bodies w i) ∧
  (q_Ac_number a = num ∧ q_Mo_number w = num ∧ q_Ac_v a = v ∧ q_Mo_tellsV w = v ∧ q_Ac_kind a = nI kd ∧ q_Mo_kind w = nI kd) ∧
  (q_Mo_s w = q_Mo_s w0 ∧ q_Mo_image w = q_Mo_image w0 ∧ q_Mo_hasImage w = q_Mo_hasImage w0)
section AC
variable {w0 : T_Mo} {num v : Int32} {kd : Nat}
theorem ac_note {k : Nat} {a : T_Ac} {w : T_Mo} (h : AcR w0 k num v kd a w) (hk : k < 20) (b : Int32) : ∃ a' w', d_Ac_note b a = some a' ∧ d_Mo_ranBody b w = some w' ∧ AcR w0 (k + 1) num v kd a' w' := by
  obtain ⟨⟨h1, h2, h3⟩, h4, h5⟩ := h
  have e1 : ¬ (20 : Int32) ≤ nI k := nI_ge (b := 20) hk (by omega)
  have e2 : inb (nI k) 20 = true := inb_n hk (by omega)
  have e3 : (nI k).toNatClampNeg = k := nI_clamp (by omega)
  refine ⟨u_Ac_ran (u_Ac_bodies a (upd (q_Ac_bodies a) k b)) (nI (k + 1)), u_Mo_ran (u_Mo_bodies w (upd (q_Mo_bodies w) k b)) (nI (k + 1)), ?_, ?_, ⟨rfl, rfl, fun i hi => ?_⟩, h4, h5⟩
  · unfold d_Ac_note
    rw [h1, if_neg e1, if_pos e2, e3]
    rw [nI_1]
  · unfold d_Mo_ranBody
    rw [h2, if_neg e1, if_pos e2, e3]
    rw [nI_1]
  · show upd (q_Ac_bodies a) k b i = upd (q_Mo_bodies w) k b i
    by_cases e : i = k
    · subst e; rw [pk_us, pk_us]
    · rw [pk_un e, pk_un e]; exact h3 i (by omega)
theorem ac_run (n : Nat) (fr ac x : Int32) {o : Nat} (ho : o < 20) (a a' : T_Ac) {b : Int32} (hb : d_Ac_bodyOf fr ac = some b) (hn : d_Ac_note b a = some a') : d_Ac_run (n + 1) fr ac x (nI o) a = (if b = 1 then (some (x + (q_Ac_number a'), a')) else (if b = 2 then ((d_Ac_run n (q_Ac_kind a') 0 x (nI (o + 1)) a').bind fun v_8 => some (v_8.1 - (q_Ac_v v_8.2), v_8.2)) else (if b = 3 then ((d_Ac_run n (q_Ac_kind a') 1 x (nI (o + 1)) a').bind fun v_11 => some (v_11.1 * 2, v_11.2)) else (if b = 11 then ((d_Ac_run n 0 0 (x * 3) (nI (o + 1)) a').bind fun v_15 => some (v_15.1, v_15.2)) else (if b = 21 then ((d_Ac_run n 0 1 x (nI (o + 1)) a').bind fun v_19 => some (-v_19.1, v_19.2)) else (if b = 31 then ((d_Ac_run n 0 2 x (nI (o + 1)) a').bind fun v_23 => some (v_23.1 ^^^ 7, v_23.2)) else (if b = 41 then ((d_Ac_run n 1 2 (x - 1) (nI (o + 1)) a').bind fun v_27 => (d_Ac_run n (q_Ac_kind v_27.2) 0 2 (nI (o + 1)) v_27.2).bind fun v_29 => some (v_27.1 + v_29.1, v_29.2)) else (if b = 51 then ((d_Ac_run n 2 0 x (nI (o + 1)) a').bind fun v_33 => some (v_33.1 ^^^ (q_Ac_number v_33.2), v_33.2)) else (if b = 61 then ((d_Ac_run n 3 1 x (nI (o + 1)) a').bind fun v_37 => some (v_37.1 + (q_Ac_v v_37.2), v_37.2)) else some (0, a')))))))))) := by
  have e1 : nI o < 20 := nI_lt (b := 20) ho (by omega)
  have hB : d_Ac_run (n + 1) fr ac x (nI o) a = B_Ac_run (d_Ac_run n) fr ac x (nI o) a := rfl
  have i1 : inb 1 7 = true := by decide +kernel
  have i2 : inb 2 7 = true := by decide +kernel
  have i3 : inb 3 7 = true := by decide +kernel
  have i4 : inb 4 7 = true := by decide +kernel
  have i5 : inb 5 7 = true := by decide +kernel
  have i6 : inb 6 7 = true := by decide +kernel
  have a1 : aboveC 1 = 0 := rfl
  have a2 : aboveC 2 = 0 := rfl
  have a3 : aboveC 3 = 0 := rfl
  have a4 : aboveC 4 = 1 := rfl
  have a5 : aboveC 5 = 2 := rfl
  have a6 : aboveC 6 = 3 := rfl
  rw [hB]
  unfold B_Ac_run
  rw [if_pos e1, hb]
  simp only [Option.bind_some, hn, i1, i2, i3, i4, i5, i6, a1, a2, a3, a4, a5, a6, if_true, nI_1]
/-- both sides end, alike -/
def AcE (w0 : T_Mo) (k' : Nat) (num v : Int32) (kd : Nat) (c : Option (Int32 × T_Ac)) (m : Option (Int32 × T_Mo)) : Prop := ∃ r a' w' j, c = some (r, a') ∧ m = some (r, w') ∧ j ≤ k' ∧ AcR w0 j num v kd a' w'
theorem ac_1 {k : Nat} {a : T_Ac} {w : T_Mo} (h : AcR w0 k num v kd a w) (hk : k < 20) (n : Nat) (fr ac x : Int32) {o : Nat} (ho : o < 20) (hb : d_Ac_bodyOf fr ac = some 1) : AcE w0 (k + 1) num v kd (d_Ac_run (n + 1) fr ac x (nI o) a) (d_Mo_plainLifts x w) := by
  obtain ⟨a', w', h1, h2, h3⟩ := ac_note h hk 1
  rw [ac_run n fr ac x ho a a' hb h1]
  unfold d_Mo_plainLifts
  rw [h2]
  refine ⟨x + num, a', w', k + 1, ?_, ?_, Nat.le_refl _, h3⟩
  · rw [if_pos rfl, h3.2.1.1]
  · simp only [Option.bind_some, h3.2.1.2.1]
theorem bo_L : ∀ x, x < 7 → d_Ac_bodyOf (nI x) 0 = some (if x = 1 ∨ x = 4 then 11 else if x = 5 then 51 else 1) := by decide +kernel
theorem bo_D : ∀ x, x < 7 → d_Ac_bodyOf (nI x) 1 = some (if x = 2 ∨ x = 5 then 21 else if x = 6 then 61 else 2) := by decide +kernel
theorem bo_T : ∀ x, x < 7 → d_Ac_bodyOf (nI x) 2 = some (if x = 3 ∨ x = 6 then 31 else if x = 4 then 41 else 3) := by decide +kernel
theorem iu_1 : ∀ x, x < 7 → d_Mo_isUnder (nI x) 1 = some (bI (decide (x = 1 ∨ x = 4))) := by decide +kernel
theorem iu_2 : ∀ x, x < 7 → d_Mo_isUnder (nI x) 2 = some (bI (decide (x = 2 ∨ x = 5))) := by decide +kernel
theorem iu_3 : ∀ x, x < 7 → d_Mo_isUnder (nI x) 3 = some (bI (decide (x = 3 ∨ x = 6))) := by decide +kernel
theorem ac_L {k : Nat} {a : T_Ac} {w : T_Mo} (h : AcR w0 k num v kd a w) (hkd : kd < 7) (hk : k + 1 < 20) (n : Nat) (x : Int32) {o : Nat} (ho : o + 1 < 20) : AcE w0 (k + 2) num v kd (d_Ac_run (n + 2) (nI kd) 0 x (nI o) a) (d_Mo_liftsActs x w) := by
  have hb := bo_L kd hkd
  have hi := iu_1 kd hkd
  have k5 : (nI kd = 5) ↔ kd = 5 := nI_eq (b := 5) (by omega) (by omega)
  unfold d_Mo_liftsActs
  rw [h.2.1.2.2.2.2.2, hi]
  simp only [Option.bind_some, bI_0, decide_eq_false_iff_not, k5]
  by_cases q1 : kd = 1 ∨ kd = 4
  · rw [if_pos q1] at hb
    rw [if_neg (fun y => y q1)]
    obtain ⟨a', w', h1, h2, h3⟩ := ac_note h (by omega) 11
    rw [ac_run (n + 1) (nI kd) 0 x (by omega) a a' hb h1, h2]
    obtain ⟨r, a2, w2, j, e1, e2, e3, e4⟩ := ac_1 h3 (by omega) n 0 0 (x * 3) (o := o + 1) (by omega) (by decide +kernel)
    simp only [Option.bind_some]
    rw [e2]
    refine ⟨r, a2, w2, j, ?_, rfl, e3, e4⟩
    rw [if_neg (by decide), if_neg (by decide), if_neg (by decide), if_pos trivial, e1]
    rfl
  · rw [if_neg q1] at hb
    rw [if_pos q1]
    by_cases q5 : kd = 5
    · rw [if_pos q5] at hb
      rw [if_pos q5]
      obtain ⟨a', w', h1, h2, h3⟩ := ac_note h (by omega) 51
      rw [ac_run (n + 1) (nI kd) 0 x (by omega) a a' hb h1, h2]
      obtain ⟨r, a2, w2, j, e1, e2, e3, e4⟩ := ac_1 h3 (by omega) n 2 0 x (o := o + 1) (by omega) (by decide +kernel)
      simp only [Option.bind_some]
      rw [e2]
      refine ⟨r ^^^ num, a2, w2, j, ?_, ?_, e3, e4⟩
      · rw [if_neg (by decide), if_neg (by decide), if_neg (by decide), if_neg (by decide), if_neg (by decide), if_neg (by decide), if_neg (by decide), if_pos trivial, e1]
        simp only [Option.bind_some, e4.2.1.1]
      · simp only [Option.bind_some, e4.2.1.2.1]
    · rw [if_neg q5] at hb
      rw [if_neg q5]
      obtain ⟨r, a2, w2, j, e1, e2, e3, e4⟩ := ac_1 h (by omega) (n + 1) (nI kd) 0 x (o := o) (by omega) hb
      rw [e2]
      exact ⟨r, a2, w2, j, e1, rfl, by omega, e4⟩
theorem ac_2 {k : Nat} {a : T_Ac} {w : T_Mo} (h : AcR w0 k num v kd a w) (hkd : kd < 7) (hk : k + 2 < 20) (n : Nat) (fr ac x : Int32) {o : Nat} (ho : o + 2 < 20) (hb : d_Ac_bodyOf fr ac = some 2) : AcE w0 (k + 3) num v kd (d_Ac_run (n + 3) fr ac x (nI o) a) (d_Mo_plainDrops x w) := by
  obtain ⟨a', w', h1, h2, h3⟩ := ac_note h (by omega) 2
  rw [ac_run (n + 2) fr ac x (by omega) a a' hb h1]
  unfold d_Mo_plainDrops
  rw [h2]
  obtain ⟨r, a2, w2, j, e1, e2, e3, e4⟩ := ac_L h3 hkd (by omega) n x (o := o + 1) (by omega)
  simp only [Option.bind_some]
  rw [e2, h3.2.1.2.2.2.2.1]
  refine ⟨r - v, a2, w2, j, ?_, ?_, by omega, e4⟩
  · rw [if_neg (by decide), if_pos trivial, e1]
    simp only [Option.bind_some, e4.2.1.2.2.1]
  · simp only [Option.bind_some, e4.2.1.2.2.2.1]
theorem ac_D {k : Nat} {a : T_Ac} {w : T_Mo} (h : AcR w0 k num v kd a w) (hkd : kd < 7) (hk : k + 3 < 20) (n : Nat) (x : Int32) {o : Nat} (ho : o + 3 < 20) : AcE w0 (k + 4) num v kd (d_Ac_run (n + 4) (nI kd) 1 x (nI o) a) (d_Mo_dropsActs x w) := by
  have hb := bo_D kd hkd
  have hi := iu_2 kd hkd
  have k6 : (nI kd = 6) ↔ kd = 6 := nI_eq (b := 6) (by omega) (by omega)
  unfold d_Mo_dropsActs
  rw [h.2.1.2.2.2.2.2, hi]
  simp only [Option.bind_some, bI_0, decide_eq_false_iff_not, k6]
  by_cases q1 : kd = 2 ∨ kd = 5
  · rw [if_pos q1] at hb
    rw [if_neg (fun y => y q1)]
    obtain ⟨a', w', h1, h2, h3⟩ := ac_note h (by omega) 21
    rw [ac_run (n + 3) (nI kd) 1 x (by omega) a a' hb h1, h2]
    obtain ⟨r, a2, w2, j, e1, e2, e3, e4⟩ := ac_2 h3 hkd (by omega) n 0 1 x (o := o + 1) (by omega) (by decide +kernel)
    simp only [Option.bind_some]
    rw [e2]
    refine ⟨-r, a2, w2, j, ?_, rfl, by omega, e4⟩
    rw [if_neg (by decide), if_neg (by decide), if_neg (by decide), if_neg (by decide), if_pos trivial, e1]
    rfl
  · rw [if_neg q1] at hb
    rw [if_pos q1]
    by_cases q6 : kd = 6
    · rw [if_pos q6] at hb
      rw [if_pos q6]
      obtain ⟨a', w', h1, h2, h3⟩ := ac_note h (by omega) 61
      rw [ac_run (n + 3) (nI kd) 1 x (by omega) a a' hb h1, h2]
      obtain ⟨r, a2, w2, j, e1, e2, e3, e4⟩ := ac_2 h3 hkd (by omega) n 3 1 x (o := o + 1) (by omega) (by decide +kernel)
      simp only [Option.bind_some]
      rw [e2]
      refine ⟨r + v, a2, w2, j, ?_, ?_, by omega, e4⟩
      · rw [if_neg (by decide), if_neg (by decide), if_neg (by decide), if_neg (by decide), if_neg (by decide), if_neg (by decide), if_neg (by decide), if_neg (by decide), if_pos trivial, e1]
        simp only [Option.bind_some, e4.2.1.2.2.1]
      · simp only [Option.bind_some, e4.2.1.2.2.2.1]
    · rw [if_neg q6] at hb
      rw [if_neg q6]
      obtain ⟨r, a2, w2, j, e1, e2, e3, e4⟩ := ac_2 h hkd (by omega) (n + 1) (nI kd) 1 x (o := o) (by omega) hb
      rw [e2]
      exact ⟨r, a2, w2, j, e1, rfl, by omega, e4⟩
theorem ac_3 {k : Nat} {a : T_Ac} {w : T_Mo} (h : AcR w0 k num v kd a w) (hkd : kd < 7) (hk : k + 4 < 20) (n : Nat) (fr ac x : Int32) {o : Nat} (ho : o + 4 < 20) (hb : d_Ac_bodyOf fr ac = some 3) : AcE w0 (k + 5) num v kd (d_Ac_run (n + 5) fr ac x (nI o) a) (d_Mo_plainTells x w) := by
  obtain ⟨a', w', h1, h2, h3⟩ := ac_note h (by omega) 3
  rw [ac_run (n + 4) fr ac x (by omega) a a' hb h1]
  unfold d_Mo_plainTells
  rw [h2]
  obtain ⟨r, a2, w2, j, e1, e2, e3, e4⟩ := ac_D h3 hkd (by omega) n x (o := o + 1) (by omega)
  simp only [Option.bind_some]
  rw [e2, h3.2.1.2.2.2.2.1]
  refine ⟨r * 2, a2, w2, j, ?_, rfl, by omega, e4⟩
  rw [if_neg (by decide), if_neg (by decide), if_pos trivial, e1]
  rfl
theorem ac_T {k : Nat} {a : T_Ac} {w : T_Mo} (h : AcR w0 k num v kd a w) (hkd : kd < 7) (hk : k + 7 < 20) (n : Nat) (x : Int32) {o : Nat} (ho : o + 5 < 20) : AcE w0 (k + 8) num v kd (d_Ac_run (n + 6) (nI kd) 2 x (nI o) a) (d_Mo_tellsActs x w) := by
  have hb := bo_T kd hkd
  have hi := iu_3 kd hkd
  have k4 : (nI kd = 4) ↔ kd = 4 := nI_eq (b := 4) (by omega) (by omega)
  unfold d_Mo_tellsActs
  rw [h.2.1.2.2.2.2.2, hi]
  simp only [Option.bind_some, bI_0, decide_eq_false_iff_not, k4]
  by_cases q1 : kd = 3 ∨ kd = 6
  · rw [if_pos q1] at hb
    rw [if_neg (fun y => y q1)]
    obtain ⟨a', w', h1, h2, h3⟩ := ac_note h (by omega) 31
    rw [ac_run (n + 5) (nI kd) 2 x (by omega) a a' hb h1, h2]
    obtain ⟨r, a2, w2, j, e1, e2, e3, e4⟩ := ac_3 h3 hkd (by omega) n 0 2 x (o := o + 1) (by omega) (by decide +kernel)
    simp only [Option.bind_some]
    rw [e2]
    refine ⟨r ^^^ 7, a2, w2, j, ?_, rfl, by omega, e4⟩
    rw [if_neg (by decide), if_neg (by decide), if_neg (by decide), if_neg (by decide), if_neg (by decide), if_pos trivial, e1]
    rfl
  · rw [if_neg q1] at hb
    rw [if_pos q1]
    by_cases q4 : kd = 4
    · rw [if_pos q4] at hb
      rw [if_pos q4]
      obtain ⟨a', w', h1, h2, h3⟩ := ac_note h (by omega) 41
      rw [ac_run (n + 5) (nI kd) 2 x (by omega) a a' hb h1, h2]
      obtain ⟨r, a2, w2, j, e1, e2, e3, e4⟩ := ac_3 h3 hkd (by omega) n 1 2 (x - 1) (o := o + 1) (by omega) (by decide +kernel)
      obtain ⟨r3, a3, w3, j3, f1, f2, f3, f4⟩ := ac_L e4 hkd (by omega) (n + 3) 2 (o := o + 1) (by omega)
      simp only [Option.bind_some]
      rw [e2]
      simp only [Option.bind_some]
      rw [f2]
      refine ⟨r + r3, a3, w3, j3, ?_, rfl, by omega, f4⟩
      rw [if_neg (by decide), if_neg (by decide), if_neg (by decide), if_neg (by decide), if_neg (by decide), if_neg (by decide), if_pos trivial, e1]
      simp only [Option.bind_some, e4.2.1.2.2.2.2.1]
      rw [f1]
      rfl
    · rw [if_neg q4] at hb
      rw [if_neg q4]
      obtain ⟨r, a2, w2, j, e1, e2, e3, e4⟩ := ac_3 h hkd (by omega) (n + 1) (nI kd) 2 x (o := o) (by omega) hb
      rw [e2]
      exact ⟨r, a2, w2, j, e1, rfl, by omega, e4⟩
end AC
theorem s_act : S_act Rl := by
  intro z w x x2 x3 h
  obtain ⟨⟨cl, hR⟩, hi, hk, -⟩ := id h
  have h4 := hR.1.1.2
  have hno : Rl (u_OL_acts z (u_Ac_ran (q_OL_acts z) 0)) (u_Mo_ran w 0) := ⟨⟨cl, hR⟩, hi, hk, 0, by omega, rfl, rfl, fun i q => absurd q (by omega)⟩
  have hf : d_Ac_forget (q_OL_acts z) = some (u_Ac_ran (q_OL_acts z) 0) := rfl
  unfold d_OL_act d_Mo_act
  rw [hf]
  simp only [Option.bind_some]
  rcases per_cases (y := q_Re_people (q_OL_now (u_OL_acts z (u_Ac_ran (q_OL_acts z) 0)))) (w := u_Mo_ran w 0) hR.2.1.1 hR.1.1 x with ⟨h1, h2⟩ | ⟨p, hp, rfl, h1, h2⟩
  · rw [h1, h2]
    exact ⟨_, _, _, rfl, rfl, hno⟩
  rw [h1, h2, within_in]
  have z9 : ¬ (1 : Int32) = 0 := by decide
  simp only [Option.bind_some, z9, if_false]
  have hp : p < NN (q_Mo_s w 0) := hp
  have hP := hR.2.2.1 p hp
  have i1 : inb (10 + nI p) 901 = true := in9 10 (by omega)
  have i2 : inb (14 + nI p) 901 = true := in9 14 (by omega)
  have i3 : inb (nI p) 4 = true := inb_n (by omega) (by omega)
  have c1 : (10 + nI p).toNatClampNeg = 10 + p := cl9 10 (by omega)
  have c2 : (14 + nI p).toNatClampNeg = 14 + p := cl9 14 (by omega)
  have c3 : (nI p).toNatClampNeg = p := nI_clamp (by omega)
  have kd6 := hP.1.1.2
  have kde := hP.1.1.1
  have ht : d_Ac_take (nI p) (q_OL_acts (u_OL_acts z (u_Ac_ran (q_OL_acts z) 0))) (q_Re_people (q_OL_now (u_OL_acts z (u_Ac_ran (q_OL_acts z) 0)))) = some (q_Ac_bodies (q_OL_acts z), nI 0, nI p, q_Mo_s w (14 + p), nI (NN (q_Mo_s w (10 + p)))) := by
    unfold d_Ac_take
    rw [if_pos i3, if_pos i3, c3]
    show some (q_Ac_bodies (q_OL_acts z), 0, nI p, q_Pe_v (q_Re_people (q_OL_now z)) p, q_Pe_kind (q_Re_people (q_OL_now z)) p) = _
    rw [hP.2.1, hP.2.2.1, ← kde]
    rfl
  have hA : AcR w 0 (nI p) (q_Mo_s w (14 + p)) (NN (q_Mo_s w (10 + p))) (q_Ac_bodies (q_OL_acts z), nI 0, nI p, q_Mo_s w (14 + p), nI (NN (q_Mo_s w (10 + p)))) (u_Mo_tellsV (u_Mo_number (u_Mo_kind (u_Mo_ran w 0) (q_Mo_s w (10 + p))) (nI p)) (q_Mo_s w (14 + p))) :=
    ⟨⟨rfl, rfl, fun i q => absurd q (by omega)⟩, ⟨rfl, rfl, rfl, rfl, rfl, kde⟩, rfl, rfl, rfl⟩
  have fin : ∀ c m, AcE w 8 (nI p) (q_Mo_s w (14 + p)) (NN (q_Mo_s w (10 + p))) c m → ∃ r z' w', (c.bind fun v_11 => some (v_11.1, u_OL_acts (u_OL_acts (u_OL_acts z (u_Ac_ran (q_OL_acts z) 0)) (q_Ac_bodies (q_OL_acts z), nI 0, nI p, q_Mo_s w (14 + p), nI (NN (q_Mo_s w (10 + p))))) v_11.2)) = some (r, z') ∧ (m.bind fun v_9 => some (v_9.1, v_9.2)) = some (r, w') ∧ Rl z' w' := by
    rintro c m ⟨r, a', w', j, e1, e2, e3, e4⟩
    rw [e1, e2]
    refine ⟨r, _, w', rfl, rfl, ⟨cl, ?_⟩, ?_, ?_, j, by omega, e4.1.2.1, e4.1.1, fun i q _ => e4.1.2.2 i q⟩
    · rw [e4.2.2.1]; exact hR
    · rw [e4.2.2.2.2]; exact hi
    · rw [e4.2.2.2.2, e4.2.2.2.1]; exact hk
  rcases in_cases x2 2 with h3 | ⟨h3, n0, n1⟩
  · rw [h3]
    exact ⟨_, _, _, rfl, rfl, hno⟩
  rw [h3]
  simp only [Option.bind_some, z9, if_false]
  rw [ht]
  simp only [Option.bind_some, i1, i2, i3, c1, c2, c3, if_true]
  have hkk : q_Pe_kind (q_Re_people (q_OL_now (u_OL_acts (u_OL_acts z (u_Ac_ran (q_OL_acts z) 0)) (q_Ac_bodies (q_OL_acts z), nI 0, nI p, q_Mo_s w (14 + p), nI (NN (q_Mo_s w (10 + p))))))) p = nI (NN (q_Mo_s w (10 + p))) := by
    show q_Pe_kind (q_Re_people (q_OL_now z)) p = _
    rw [hP.2.1, ← kde]
  rw [hkk]
  obtain ⟨j, hj, ej⟩ := nI_of2 (M := 2) (n := 2) (by decide) n0 (Int32.not_lt.mp n1)
  subst ej
  match j, hj with
  | 0, _ =>
    rw [if_pos (show nI 0 = 0 from rfl)]
    obtain ⟨r, a', w', j', e1, e2, e3, e4⟩ := ac_L hA (by omega) (by omega) 62 x3 (o := 0) (by omega)
    exact fin _ _ ⟨r, a', w', j', e1, e2, by omega, e4⟩
  | 1, _ =>
    rw [if_neg (show ¬ nI 1 = 0 by decide), if_pos (show nI 1 = 1 from rfl)]
    obtain ⟨r, a', w', j', e1, e2, e3, e4⟩ := ac_D hA (by omega) (by omega) 60 x3 (o := 0) (by omega)
    exact fin _ _ ⟨r, a', w', j', e1, e2, by omega, e4⟩
  | 2, _ =>
    rw [if_neg (show ¬ nI 2 = 0 by decide), if_neg (show ¬ nI 2 = 1 by decide)]
    obtain ⟨r, a', w', j', e1, e2, e3, e4⟩ := ac_T hA (by omega) (by omega) 58 x3 (o := 0) (by omega)
    exact fin _ _ ⟨r, a', w', j', e1, e2, by omega, e4⟩

/-! The model's steps. -/
theorem nar_0 : vp_nar .boolean 0 = 0 := by decide +kernel
theorem nar_1 : vp_nar .boolean 1 = 1 := by decide +kernel
theorem TrR_push {T : Nat → Int32} {st : List Bool} {x : Int32} {b : Bool} (h : TrR T st) (hx : x = bI b) : TrR (upd T st.length x) (b :: st) := by
  intro i hi
  simp only [List.length_cons] at hi ⊢
  cases i with
  | zero => simp only [Nat.add_sub_cancel, Nat.sub_zero, List.getD_cons_zero]; rw [← hx]; exact pk_us
  | succ j =>
    rw [show st.length + 1 - 1 - (j + 1) = st.length - 1 - j by omega, pk_un (by omega), h j (by omega)]
    simp
theorem TrR_not {T : Nat → Int32} {st : List Bool} {x : Int32} {b : Bool} (h : TrR T (b :: st)) (hx : x = bI (!b)) : TrR (upd T st.length x) ((!b) :: st) := by
  intro i hi
  simp only [List.length_cons] at hi ⊢
  cases i with
  | zero => simp only [Nat.add_sub_cancel, Nat.sub_zero, List.getD_cons_zero]; rw [← hx]; exact pk_us
  | succ j =>
    have h1 := h (j + 1) (by simp; omega)
    simp only [List.length_cons, List.getD_cons_succ] at h1 ⊢
    rw [pk_un (by omega), h1]
theorem TrR_two {T : Nat → Int32} {st : List Bool} {x : Int32} {b a r : Bool} (h : TrR T (b :: a :: st)) (hx : x = bI r) : TrR (upd T st.length x) (r :: st) := by
  intro i hi
  simp only [List.length_cons] at hi ⊢
  cases i with
  | zero => simp only [Nat.add_sub_cancel, Nat.sub_zero, List.getD_cons_zero]; rw [← hx]; exact pk_us
  | succ j =>
    have h1 := h (j + 2) (by simp; omega)
    simp only [List.length_cons, List.getD_cons_succ] at h1 ⊢
    rw [pk_un (by omega), ← h1, show st.length + 1 + 1 - 1 - (j + 2) = st.length + 1 - 1 - (j + 1) by omega]
section MS9
variable {fa : Nat → Nat} {s F : Nat → Int32} {srt mn fr sum : Int32} {e : Nat}
theorem Mo_steps (hF : ∀ i, i < 6 → F i = nI (fa i) ∧ fa i ≤ 99) (hE : fr + mn = nI e) (he9 : e ≤ 901) : ∀ (ops : List (Nat × Nat × Nat)) (i m : Nat) (w : T_Mo) (st : List Bool) (d : Nat), q_Mo_s w = s → q_Mo_by w = F → (∀ j, j < ops.length → s (i + j) = mO (ops.getD j (0, 0, 0))) → (∀ q ∈ ops, okO q) → i + ops.length ≤ e → TrR (q_Mo_truths w) st → dpO ops st.length = some d → st.length ≤ 20 →
    ∃ T', d_Mo_sumOf_L55 srt mn fr (ops.length + m) sum (nI st.length) (nI i) w = d_Mo_sumOf_L55 srt mn fr m sum (nI (evO fa ops st).length) (nI (i + ops.length)) (u_Mo_truths w T') ∧ TrR T' (evO fa ops st)
  | [], i, m, w, st, d, _, _, _, _, _, hT, _, _ => by
    refine ⟨q_Mo_truths w, ?_, hT⟩
    simp only [List.length_nil, Nat.zero_add, Nat.add_zero]
    rfl
  | q :: r, i, m, w, st, d, hs, hb, hc, hok, hi, hT, hd, h20 => by
    simp only [List.length_cons] at hc hi
    have hB : d_Mo_sumOf_L55 srt mn fr ((q :: r).length + m) sum (nI st.length) (nI i) w = B_Mo_sumOf_L55 srt mn fr (d_Mo_sumOf_L55 srt mn fr (r.length + m)) sum (nI st.length) (nI i) w := by
      rw [List.length_cons, show r.length + 1 + m = (r.length + m) + 1 by omega]
      rfl
    have e1 : ¬ nI e ≤ nI i := nI_ge (by omega) (by omega)
    have e2 : inb (nI i) 901 = true := inb_n (by omega) (by omega)
    have e3 : (nI i).toNatClampNeg = i := nI_clamp (by omega)
    have e4 : q_Mo_s w i = mO q := by rw [hs]; exact hc 0 (by omega)
    have hq := hok q List.mem_cons_self
    obtain ⟨l1, l2, l3, l4, l5⟩ := evS_len (fa := fa) hd h20
    have go : ∀ X, TrR X (evS fa q st) → ∃ T', d_Mo_sumOf_L55 srt mn fr (r.length + m) sum (nI (evS fa q st).length) (nI (i + 1)) (u_Mo_truths w X) = d_Mo_sumOf_L55 srt mn fr m sum (nI (evO fa (q :: r) st).length) (nI (i + (q :: r).length)) (u_Mo_truths w T') ∧ TrR T' (evO fa (q :: r) st) := fun X hX => by
      obtain ⟨T', g1, g2⟩ := Mo_steps hF hE he9 r (i + 1) m (u_Mo_truths w X) (evS fa q st) d hs hb (fun j hj => by
        have h9 := hc (j + 1) (by omega)
        rw [show i + 1 + j = i + (j + 1) by omega, h9]
        rfl) (fun q' h' => hok q' (List.mem_cons_of_mem _ h')) (by omega) hX l1 l2
      refine ⟨T', ?_, g2⟩
      rw [List.length_cons, show i + (r.length + 1) = i + 1 + r.length by omega]
      exact g1
    rw [hB]
    unfold B_Mo_sumOf_L55
    rw [hE]
    simp only [e1, e2, e3, e4, if_false, if_true, nI_1]
    by_cases h6 : q.1 < 6
    · obtain ⟨lq, g, n⟩ := q
      obtain ⟨hb1, hb2, hb3⟩ := hq
      simp only at h6 hb1 hb2 hb3
      have c1 : mO (lq, g, n) = nI (lq + 8 * g + 32 * n) := if_pos h6
      have n0 : ¬ nI (lq + 8 * g + 32 * n) < 0 := nI_pos (by omega)
      have f1 : nI (lq + 8 * g + 32 * n) - nI (lq + 8 * g + 32 * n) / 8 * 8 = nI lq := by
        rw [show (8 : Int32) = nI 8 from rfl, pk_rem (by omega) (by omega) (by omega), show (lq + 8 * g + 32 * n) % 8 = lq by omega]
      have f2 : nI (lq + 8 * g + 32 * n) / 8 = nI (g + 4 * n) := by
        rw [show (8 : Int32) = nI 8 from rfl, pk_div (by omega) (by omega) (by omega), show (lq + 8 * g + 32 * n) / 8 = g + 4 * n by omega]
      have f3 : nI (g + 4 * n) - nI (g + 4 * n) / 4 * 4 = nI g := by
        rw [show (4 : Int32) = nI 4 from rfl, pk_rem (by omega) (by omega) (by omega), show (g + 4 * n) % 4 = g by omega]
      have f4 : nI (lq + 8 * g + 32 * n) / 32 = nI n := by
        rw [show (32 : Int32) = nI 32 from rfl, pk_div (by omega) (by omega) (by omega), show (lq + 8 * g + 32 * n) / 32 = n by omega]
      have f1' : nI (lq + 8 * g + 32 * n) - nI (g + 4 * n) * 8 = nI lq := by rw [← f2]; exact f1
      have e5 : inb (nI lq) 6 = true := inb_n h6 (by omega)
      have e6 : (nI lq).toNatClampNeg = lq := nI_clamp (by omega)
      have hf := hF lq h6
      have hfw : q_Mo_by w lq = nI (fa lq) := by rw [hb]; exact hf.1
      have k0 : (nI g = 0) ↔ g = 0 := nI_eq (b := 0) (by omega) (by omega)
      have k1 : (nI g = 1) ↔ g = 1 := nI_eq (b := 1) (by omega) (by omega)
      have k2 : (nI n ≤ nI (fa lq)) ↔ n ≤ fa lq := nI_leI (by omega) (by omega)
      have k3 : (nI (fa lq) ≤ nI n) ↔ fa lq ≤ n := nI_leI (by omega) (by omega)
      have k4 : (nI (fa lq) = nI n) ↔ fa lq = n := nI_eq (by omega) (by omega)
      have hl := l5 h6
      have t1 : inb (nI st.length) 64 = true := inb_n (by omega) (by omega)
      have t2 : (nI st.length).toNatClampNeg = st.length := nI_clamp (by omega)
      have hv : evS fa (lq, g, n) st = tsO fa (lq, g, n) :: st := if_pos h6
      have fin : ∀ b : Bool, tsO fa (lq, g, n) = b → ∃ T', d_Mo_sumOf_L55 srt mn fr (r.length + m) sum (nI (st.length + 1)) (nI (i + 1)) (u_Mo_truths w (upd (q_Mo_truths w) st.length (bI b))) = d_Mo_sumOf_L55 srt mn fr m sum (nI (evO fa ((lq, g, n) :: r) st).length) (nI (i + ((lq, g, n) :: r).length)) (u_Mo_truths w T') ∧ TrR T' (evO fa ((lq, g, n) :: r) st) := fun b hbb => by
        have h1 := go (upd (q_Mo_truths w) st.length (bI b)) (by rw [hv, hbb]; exact TrR_push hT rfl)
        rw [hv] at h1
        exact h1
      simp only [c1, n0, f2, f1', f3, f4, e5, e6, hfw, k0, k1, k2, k3, k4, t1, t2, nar_0, nar_1, if_false, if_true]
      unfold tsO at fin
      simp only at fin
      by_cases g0 : g = 0
      · rw [if_pos g0]
        rw [if_pos g0] at fin
        by_cases y : n ≤ fa lq
        · rw [if_pos y]
          exact fin false (by simp; omega)
        · rw [if_neg y]
          exact fin true (by simp; omega)
      · rw [if_neg g0]
        rw [if_neg g0] at fin
        by_cases g1 : g = 1
        · rw [if_pos g1]
          rw [if_pos g1] at fin
          by_cases y : fa lq = n
          · rw [if_pos y]
            exact fin true (by simp [y])
          · rw [if_neg y]
            exact fin false (by simp [y])
        · rw [if_neg g1]
          rw [if_neg g1] at fin
          by_cases y : fa lq ≤ n
          · rw [if_pos y]
            exact fin false (by simp; omega)
          · rw [if_neg y]
            exact fin true (by simp; omega)
    · by_cases h7 : q.1 = 6
      · have c1 : mO q = -1 := by unfold mO; rw [if_neg h6, if_pos h7]
        match st, hT, l3 (by omega), go, h20 with
        | b :: st', hT, _, go, h20 =>
          have hv : evS fa q (b :: st') = (!b) :: st' := by unfold evS; rw [if_neg h6, if_pos h7]
          have hl : st'.length < 20 := by simp at h20; omega
          have t0 : nI (st'.length + 1) - 1 = nI st'.length := nI_pred _
          have t1 : inb (nI st'.length) 64 = true := inb_n (by omega) (by omega)
          have t2 : (nI st'.length).toNatClampNeg = st'.length := nI_clamp (by omega)
          have t3 : q_Mo_truths w st'.length = bI b := by
            have := hT 0 (by simp)
            simpa using this
          have z1 : ((-1) : Int32) < 0 := by decide
          simp only [c1, z1, List.length_cons, t0, t1, t2, t3, bI_0, nar_0, nar_1, if_true]
          have h1 := go (upd (q_Mo_truths w) st'.length (bI (!b))) (by rw [hv]; exact TrR_not hT rfl)
          rw [hv] at h1
          cases b
          · exact h1
          · exact h1
      · match st, hT, l4 (by omega), go, h20 with
        | b :: a :: st', hT, _, go, h20 =>
          have hl : st'.length < 20 := by simp at h20; omega
          have t0 : nI (st'.length + 1 + 1) + (-1) = nI (st'.length + 1) := pk_m1 _
          have t0' : nI (st'.length + 1) - 1 = nI st'.length := nI_pred _
          have t1 : inb (nI st'.length) 64 = true := inb_n (by omega) (by omega)
          have t2 : (nI st'.length).toNatClampNeg = st'.length := nI_clamp (by omega)
          have t4 : inb (nI (st'.length + 1)) 64 = true := inb_n (by omega) (by omega)
          have t5 : (nI (st'.length + 1)).toNatClampNeg = st'.length + 1 := nI_clamp (by omega)
          have t6 : q_Mo_truths w (st'.length + 1) = bI b := by
            have := hT 0 (by simp)
            simpa using this
          have t3 : q_Mo_truths w st'.length = bI a := by
            have := hT 1 (by simp)
            simpa using this
          have z1 : ((-2) : Int32) < 0 := by decide
          have z2 : ¬ ((-2) : Int32) = -1 := by decide
          have z3 : ¬ ((-2) : Int32) ≤ -10 := by decide
          have y1 : ((-3) : Int32) < 0 := by decide
          have y2 : ¬ ((-3) : Int32) = -1 := by decide
          have y3 : ¬ ((-3) : Int32) ≤ -10 := by decide
          have y4 : ¬ ((-3) : Int32) = -2 := by decide
          by_cases h8 : q.1 = 7
          · have c1 : mO q = -2 := by unfold mO; rw [if_neg h6, if_neg h7, if_pos h8]
            have hv : evS fa q (b :: a :: st') = (a && b) :: st' := by unfold evS; rw [if_neg h6, if_neg h7]; simp [h8]
            simp only [c1, z1, z2, z3, List.length_cons, t0, t0', t1, t2, t3, t4, t5, t6, bI_0, nar_0, nar_1, if_true, if_false]
            have h1 := go (upd (q_Mo_truths w) st'.length (bI (a && b))) (by rw [hv]; exact TrR_two hT rfl)
            rw [hv] at h1
            cases a
            · exact h1
            · cases b
              · exact h1
              · exact h1
          · have c1 : mO q = -3 := by unfold mO; rw [if_neg h6, if_neg h7, if_neg h8]
            have hv : evS fa q (b :: a :: st') = (a || b) :: st' := by unfold evS; rw [if_neg h6, if_neg h7]; simp [h8]
            simp only [c1, y1, y2, y3, y4, List.length_cons, t0, t0', t1, t2, t3, t4, t5, t6, bI_0, nar_0, nar_1, if_true, if_false]
            have h1 := go (upd (q_Mo_truths w) st'.length (bI (a || b))) (by rw [hv]; exact TrR_two hT rfl)
            rw [hv] at h1
            cases a
            · cases b
              · exact h1
              · exact h1
            · exact h1
        | [_], _, h, _, _ => simp at h
        | [], _, h, _, _ => simp at h
end MS9

/-! A LAND read: words and CLAUSES, on both sides. -/
def ldMu : List Int32 → T_Mo → Option T_Mo
  | [], w => some w
  | c :: r, w => (d_Mo_must c w).bind (ldMu r)
/-- how many signs of r stand at k -/
def ldMt (tx : Nat → Nat) (e : Nat) : List Int32 → Nat → Nat
  | [], _ => 0
  | c :: r, k => if lC tx e k = c then ldMt tx e r (k + 1) + 1 else 0
theorem ldMt_nil (tx : Nat → Nat) (e k : Nat) : ldMt tx e [] k = 0 := rfl
theorem ldMt_cons (tx : Nat → Nat) (e k : Nat) (c : Int32) (r : List Int32) : ldMt tx e (c :: r) k = if lC tx e k = c then ldMt tx e r (k + 1) + 1 else 0 := rfl
theorem ldMt_app (tx : Nat → Nat) (e : Nat) (c : Int32) : ∀ (W : List Int32) (k : Nat), ldMt tx e (W ++ [c]) k = if ldMt tx e W k = W.length then W.length + (if lC tx e (k + W.length) = c then 1 else 0) else ldMt tx e W k
  | [], k => by
    rw [List.nil_append, ldMt_cons, ldMt_nil, ldMt_nil, List.length_nil, if_pos rfl]
    simp
  | d :: W, k => by
    rw [List.cons_append, ldMt_cons, ldMt_cons, List.length_cons]
    by_cases q : lC tx e k = d
    · rw [if_pos q, if_pos q, ldMt_app tx e c W (k + 1), show k + 1 + W.length = k + (W.length + 1) by omega]
      by_cases y : ldMt tx e W (k + 1) = W.length
      · rw [if_pos y, if_pos (show ldMt tx e W (k + 1) + 1 = W.length + 1 by omega)]
        omega
      · rw [if_neg y, if_neg (show ¬ ldMt tx e W (k + 1) + 1 = W.length + 1 by omega)]
    · rw [if_neg q, if_neg q, if_neg (show ¬ 0 = W.length + 1 by omega)]
theorem ldMt_le (tx : Nat → Nat) (e : Nat) : ∀ (W : List Int32) (k : Nat), ldMt tx e W k ≤ W.length
  | [], _ => Nat.le_refl _
  | d :: W, k => by
    show (if lC tx e k = d then ldMt tx e W (k + 1) + 1 else 0) ≤ W.length + 1
    have := ldMt_le tx e W (k + 1)
    split <;> omega
theorem ldMt_e (tx : Nat → Nat) (e : Nat) : ∀ (W : List Int32) (k : Nat), (∀ c ∈ W, ¬ c = -1) → k ≤ e → k + ldMt tx e W k ≤ e
  | [], _, _, hk => hk
  | d :: W, k, hm, hk => by
    show k + (if lC tx e k = d then ldMt tx e W (k + 1) + 1 else 0) ≤ e
    by_cases q : lC tx e k = d
    · have q1 := lC_lt (hm d List.mem_cons_self) q
      have := ldMt_e tx e W (k + 1) (fun c hc => hm c (List.mem_cons_of_mem _ hc)) q1
      rw [if_pos q]
      omega
    · rw [if_neg q]
      omega
section WO
variable {w0 : T_Mo} {h e : Nat} {tx : Nat → Nat} {k p : Nat} {cl : CL} {ops : List (Nat × Nat × Nat)} {z : T_Rd} {w : T_Mo}
theorem sp_L {t L : Nat} (hl : d_JS_length t = some (nI L)) (hL : L ≤ 10) : ∀ (r : List Int32) (i n : Nat) (w : T_Mo), i + r.length = L → r.length < n → (∀ j, j < r.length → d_JS_charAt t (nI (i + j)) = some (r.getD j 0)) → d_Mo_spells_L2 t n (nI i) w = ldMu r w
  | [], i, n, w, hi, hn, _ => by
    obtain ⟨n, rfl⟩ : ∃ m, n = m + 1 := ⟨n - 1, by omega⟩
    have hB : d_Mo_spells_L2 t (n + 1) (nI i) w = B_Mo_spells_L2 t (d_Mo_spells_L2 t n) (nI i) w := rfl
    have hi : i = L := hi
    rw [hB]
    unfold B_Mo_spells_L2
    rw [hl, Option.bind_some, hi, if_pos (Int32.le_refl _)]
    rfl
  | c :: r, i, n, w, hi, hn, hc => by
    obtain ⟨n, rfl⟩ : ∃ m, n = m + 1 := ⟨n - 1, by omega⟩
    have hB : d_Mo_spells_L2 t (n + 1) (nI i) w = B_Mo_spells_L2 t (d_Mo_spells_L2 t n) (nI i) w := rfl
    simp only [List.length_cons] at hi hn hc
    have h0 : d_JS_charAt t (nI i) = some c := hc 0 (by omega)
    rw [hB]
    unfold B_Mo_spells_L2
    rw [hl, Option.bind_some, if_neg (nI_ge (by omega) (by omega)), h0, Option.bind_some, nI_1]
    show _ = (d_Mo_must c w).bind (ldMu r)
    congr 1
    funext v
    exact sp_L hl hL r (i + 1) n v (by omega) (by omega) (fun j hj => by rw [show i + 1 + j = i + (j + 1) by omega]; exact hc (j + 1) (by omega))
theorem sp_T {t L : Nat} (r : List Int32) (hl : d_JS_length t = some (nI L)) (hL : L ≤ 10) (hr : r.length = L) (hc : ∀ j, j < L → d_JS_charAt t (nI j) = some (r.getD j 0)) (w : T_Mo) : d_Mo_spells t w = ldMu r w := by
  unfold d_Mo_spells
  exact sp_L hl hL r 0 1000 w (by omega) (by omega) (fun j hj => by rw [Nat.zero_add]; exact hc j (by omega))
theorem sp6 (w : T_Mo) : d_Mo_spells 6 w = ldMu [107, 101, 32] w := sp_T (L := 3) _ (by decide +kernel) (by decide) rfl (by decide +kernel) w
theorem sp7 (w : T_Mo) : d_Mo_spells 7 w = ldMu [102, 116, 32] w := sp_T (L := 3) _ (by decide +kernel) (by decide) rfl (by decide +kernel) w
theorem sp8 (w : T_Mo) : d_Mo_spells 8 w = ldMu [119, 101, 97, 114, 32] w := sp_T (L := 5) _ (by decide +kernel) (by decide) rfl (by decide +kernel) w
theorem sp9 (w : T_Mo) : d_Mo_spells 9 w = ldMu [105, 108, 108, 32] w := sp_T (L := 4) _ (by decide +kernel) (by decide) rfl (by decide +kernel) w
theorem al_L {t L : Nat} (hl : d_JS_length t = some (nI L)) (hL : L ≤ 10) (hH : LdH w0 h e tx) (hZ : LdZ e tx z) (hk : q_Rd_place z = nI k) (hk9 : k ≤ e) : ∀ (r : List Int32) (i n : Nat), i + r.length = L → r.length < n → (∀ j, j < r.length → d_JS_charAt t (nI (i + j)) = some (r.getD j 0)) → (∀ c ∈ r, ¬ c = -1) → d_Rd_alike_L2 t z n (nI i) = some (nI (i + ldMt tx e r (k + i)))
  | [], i, n, hi, hn, _, _ => by
    obtain ⟨n, rfl⟩ : ∃ m, n = m + 1 := ⟨n - 1, by omega⟩
    have hB : d_Rd_alike_L2 t z (n + 1) (nI i) = B_Rd_alike_L2 t z (d_Rd_alike_L2 t z n) (nI i) := rfl
    have hi : i = L := hi
    rw [hB]
    unfold B_Rd_alike_L2
    rw [hl, Option.bind_some, hi, if_pos (Int32.le_refl _)]
    rfl
  | c :: r, i, n, hi, hn, hc, hm => by
    obtain ⟨n, rfl⟩ : ∃ m, n = m + 1 := ⟨n - 1, by omega⟩
    have hB : d_Rd_alike_L2 t z (n + 1) (nI i) = B_Rd_alike_L2 t z (d_Rd_alike_L2 t z n) (nI i) := rfl
    simp only [List.length_cons] at hi hn hc
    have h0 : d_JS_charAt t (nI i) = some c := hc 0 (by omega)
    have h100 := hH.2.1
    have hmt : ldMt tx e (c :: r) (k + i) = if lC tx e (k + i) = c then ldMt tx e r (k + i + 1) + 1 else 0 := rfl
    rw [hB, hmt]
    unfold B_Rd_alike_L2
    rw [hl, Option.bind_some, if_neg (nI_ge (by omega) (by omega)), hZ.1, hk, nI_add]
    by_cases q : k + i < e
    · have e1 : ¬ nI e ≤ nI (k + i) := nI_ge q (by omega)
      have e2 : inb (nI (k + i)) 100 = true := inb_n (by omega) (by omega)
      have e3 : (nI (k + i)).toNatClampNeg = k + i := nI_clamp (by omega)
      rw [if_neg e1, if_pos e2, h0, Option.bind_some, e3, hZ.2 _ q, ← lC_in q, nI_1]
      by_cases y : lC tx e (k + i) = c
      · rw [if_pos y, if_pos y, al_L hl hL hH hZ hk hk9 r (i + 1) n (by omega) (by omega) (fun j hj => by rw [show i + 1 + j = i + (j + 1) by omega]; exact hc (j + 1) (by omega)) (fun c' h' => hm c' (List.mem_cons_of_mem _ h'))]
        rw [show k + (i + 1) = k + i + 1 by omega, show i + 1 + ldMt tx e r (k + i + 1) = i + (ldMt tx e r (k + i + 1) + 1) by omega]
      · rw [if_neg y, if_neg y, Nat.add_zero]
    · have y : ¬ lC tx e (k + i) = c := by
        rw [lC_out q]
        exact fun t => hm c List.mem_cons_self t.symm
      rw [if_pos (nI_le (by omega) (by omega)), if_neg y, Nat.add_zero]
theorem al_T {t L : Nat} (r : List Int32) (hl : d_JS_length t = some (nI L)) (hL : L ≤ 10) (hr : r.length = L) (hc : ∀ j, j < L → d_JS_charAt t (nI j) = some (r.getD j 0)) (hm : ∀ c ∈ r, ¬ c = -1) (hS : LdS w0 h e tx k p cl ops z w) : d_Rd_alike t z = some (nI (ldMt tx e r k)) := by
  unfold d_Rd_alike
  have := al_L hl hL hS.1 hS.2.1 hS.2.2.2.1.1 hS.2.2.2.1.2.2 r 0 1000 (by omega) (by omega) (fun j hj => by rw [Nat.zero_add]; exact hc j (by omega)) hm
  rw [Nat.zero_add] at this
  exact this
theorem mx2 {a b : Nat} (ha : a < 2 ^ 31) (hb : b < 2 ^ 31) : (if nI a < nI b then nI b else nI a) = nI (max a b) := by
  by_cases q : a < b
  · rw [if_pos (nI_lt q hb), Nat.max_eq_right (by omega)]
  · rw [if_neg (nI_nlt (by omega) ha), Nat.max_eq_left (by omega)]
theorem wd_y {t a b L n : Nat} {x : Int32} (hx : ¬ (4 : Int32) ≤ x) (hs : d_Rd_spelling x = some t) (ha : d_Rd_alike t z = some (nI a)) (hl : d_JS_length t = some (nI L)) (hL : L < 2 ^ 31) (ha9 : a < 2 ^ 31) (hb : b < 2 ^ 31) (hk : q_Rd_place z = nI k) : d_Rd_word_L4 z (n + 1) (nI b) x = if a = L then some (x, u_Rd_place z (nI (k + a))) else d_Rd_word_L4 z n (nI (max b a)) (x + 1) := by
  have hB : d_Rd_word_L4 z (n + 1) (nI b) x = B_Rd_word_L4 z (d_Rd_word_L4 z n) (nI b) x := rfl
  rw [hB]
  unfold B_Rd_word_L4
  rw [if_neg hx, hs, Option.bind_some, ha, Option.bind_some, hl, Option.bind_some, hk, nI_add, mx2 hb ha9]
  by_cases q : a = L
  · rw [if_pos q, if_pos ((nI_eq ha9 hL).mpr q)]
  · rw [if_neg q, if_neg (fun y => q ((nI_eq ha9 hL).mp y))]
theorem wd_e {b n : Nat} (hk : q_Rd_place z = nI k) : d_Rd_word_L4 z (n + 1) (nI b) 4 = some (-1, u_Rd_place z (nI (k + b))) := by
  have hB : d_Rd_word_L4 z (n + 1) (nI b) 4 = B_Rd_word_L4 z (d_Rd_word_L4 z n) (nI b) 4 := rfl
  rw [hB]
  unfold B_Rd_word_L4
  rw [if_pos (Int32.le_refl 4), hk, nI_add]
theorem word_eq (hS : LdS w0 h e tx k p cl ops z w) : d_Rd_word z = if ldMt tx e [108, 105, 107, 101] k = 4 then some (0, u_Rd_place z (nI (k + ldMt tx e [108, 105, 107, 101] k))) else if ldMt tx e [108, 105, 102, 116] k = 4 then some (1, u_Rd_place z (nI (k + ldMt tx e [108, 105, 102, 116] k))) else if ldMt tx e [119, 101, 97, 114] k = 4 then some (2, u_Rd_place z (nI (k + ldMt tx e [119, 101, 97, 114] k))) else if ldMt tx e [105, 108, 108] k = 3 then some (3, u_Rd_place z (nI (k + ldMt tx e [105, 108, 108] k))) else some (-1, u_Rd_place z (nI (k + max (max (max (max 0 (ldMt tx e [108, 105, 107, 101] k)) (ldMt tx e [108, 105, 102, 116] k)) (ldMt tx e [119, 101, 97, 114] k)) (ldMt tx e [105, 108, 108] k)))) := by
  have hk := hS.2.2.2.1.1
  have a0 := al_T (t := 0) (L := 4) [108, 105, 107, 101] (by decide +kernel) (by decide) rfl (by decide +kernel) (by decide) hS
  have a1 := al_T (t := 1) (L := 4) [108, 105, 102, 116] (by decide +kernel) (by decide) rfl (by decide +kernel) (by decide) hS
  have a2 := al_T (t := 2) (L := 4) [119, 101, 97, 114] (by decide +kernel) (by decide) rfl (by decide +kernel) (by decide) hS
  have a3 := al_T (t := 3) (L := 3) [105, 108, 108] (by decide +kernel) (by decide) rfl (by decide +kernel) (by decide) hS
  have b0 := ldMt_le tx e [108, 105, 107, 101] k
  have b1 := ldMt_le tx e [108, 105, 102, 116] k
  have b2 := ldMt_le tx e [119, 101, 97, 114] k
  have b3 := ldMt_le tx e [105, 108, 108] k
  simp only [List.length_cons, List.length_nil] at b0 b1 b2 b3
  generalize ldMt tx e [108, 105, 107, 101] k = m0 at *
  generalize ldMt tx e [108, 105, 102, 116] k = m1 at *
  generalize ldMt tx e [119, 101, 97, 114] k = m2 at *
  generalize ldMt tx e [105, 108, 108] k = m3 at *
  unfold d_Rd_word
  have s0 := wd_y (z := z) (n := 999) (x := 0) (b := 0) (by decide) (by decide +kernel) a0 (L := 4) (by decide +kernel) (by omega) (by omega) (by omega) hk
  have s1 := wd_y (z := z) (n := 998) (x := 1) (b := max 0 m0) (by decide) (by decide +kernel) a1 (L := 4) (by decide +kernel) (by omega) (by omega) (by omega) hk
  have s2 := wd_y (z := z) (n := 997) (x := 2) (b := max (max 0 m0) m1) (by decide) (by decide +kernel) a2 (L := 4) (by decide +kernel) (by omega) (by omega) (by omega) hk
  have s3 := wd_y (z := z) (n := 996) (x := 3) (b := max (max (max 0 m0) m1) m2) (by decide) (by decide +kernel) a3 (L := 3) (by decide +kernel) (by omega) (by omega) (by omega) hk
  have s4 := wd_e (z := z) (n := 995) (b := max (max (max (max 0 m0) m1) m2) m3) hk
  refine s0.trans ?_
  by_cases c0 : m0 = 4
  · rw [if_pos c0, if_pos c0]
  rw [if_neg c0, if_neg c0]
  refine s1.trans ?_
  by_cases c1 : m1 = 4
  · rw [if_pos c1, if_pos c1]
  rw [if_neg c1, if_neg c1]
  refine s2.trans ?_
  by_cases c2 : m2 = 4
  · rw [if_pos c2, if_pos c2]
  rw [if_neg c2, if_neg c2]
  refine s3.trans ?_
  by_cases c3 : m3 = 3
  · rw [if_pos c3, if_pos c3]
  rw [if_neg c3, if_neg c3]
  exact s4
/-- the model's CLAUSE behind its word -/
def mTl (x : Int32) (v : T_Mo) : Option T_Mo := (d_Mo_figures v).bind fun f => (d_Mo_must 32 f.2).bind fun v => (d_Mo_some 64 v).bind fun v => (d_Mo_emits (x - f.1) v).bind fun v => some v
theorem much_eq (x : Int32) (t : Nat) (w : T_Mo) : d_Mo_much x t w = (d_Mo_spells t w).bind (mTl x) := rfl
theorem mTl_bad (hB : LdB w0 h e tx z w) (x : Int32) : ∃ w', mTl x w = some w' ∧ LdB w0 h e tx z w' := by
  obtain ⟨w1, g1, g2⟩ := hB.one.must 32
  have hs : d_Mo_some 64 w1 = some w1 := (mG_bad 61 g2.2.2.2.2).2
  refine ⟨w1, ?_, g2⟩
  unfold mTl
  rw [fig_bad hB.n0, Option.bind_some, g1, Option.bind_some, hs, Option.bind_some, g2.emits, Option.bind_some]
theorem mu_bad : ∀ (r : List Int32) (w : T_Mo), LdB w0 h e tx z w → ∃ w', ldMu r w = some w' ∧ LdB w0 h e tx z w'
  | [], w, hB => ⟨w, rfl, hB⟩
  | c :: r, w, hB => by
    obtain ⟨w1, g1, g2⟩ := hB.must c
    obtain ⟨w2, g3, g4⟩ := mu_bad r w1 g2
    refine ⟨w2, ?_, g4⟩
    show (d_Mo_must c w).bind (ldMu r) = _
    rw [g1, Option.bind_some, g3]
theorem LdS.rp (hS : LdS w0 h e tx k p cl ops z w) : LdS w0 h e tx k p cl ops (u_Rd_place z (nI k)) w := by
  obtain ⟨a, b, c, d, f, g, i⟩ := hS
  exact ⟨a, b, c, ⟨rfl, d.2⟩, f, g, i⟩
theorem mu_run : ∀ (r : List Int32) (k p : Nat) (z : T_Rd) (w : T_Mo), (∀ c ∈ r, ¬ c = -1) → LdS w0 h e tx k p cl ops z w → ∃ w', ldMu r w = some w' ∧ ((ldMt tx e r k = r.length ∧ LdS w0 h e tx (k + r.length) (p + r.length) cl ops (u_Rd_place z (nI (k + r.length))) w' ∧ q_Mo_open w' = q_Mo_open w) ∨ (ldMt tx e r k < r.length ∧ LdB w0 h e tx (u_Rd_place z (nI (k + ldMt tx e r k))) w'))
  | [], k, p, z, w, _, hS => ⟨w, rfl, Or.inl ⟨rfl, hS.rp, rfl⟩⟩
  | c :: r, k, p, z, w, hm, hS => by
    have hmt : ldMt tx e (c :: r) k = if lC tx e k = c then ldMt tx e r (k + 1) + 1 else 0 := rfl
    have hmu : ldMu (c :: r) w = (d_Mo_must c w).bind (ldMu r) := rfl
    rw [hmt, hmu]
    simp only [List.length_cons]
    by_cases q : lC tx e k = c
    · obtain ⟨w1, g1, g2, g3⟩ := Mo_must_y hS (hm c List.mem_cons_self) q
      obtain ⟨w2, g4, g5⟩ := mu_run r (k + 1) (p + 1) _ w1 (fun c' h' => hm c' (List.mem_cons_of_mem _ h')) g2
      rw [g1, Option.bind_some, if_pos q]
      refine ⟨w2, g4, ?_⟩
      rcases g5 with ⟨a, b, d⟩ | ⟨a, b⟩
      · refine Or.inl ⟨by omega, ?_, d.trans g3⟩
        rw [show k + (r.length + 1) = k + 1 + r.length by omega]
        exact b.weak (by omega)
      · refine Or.inr ⟨by omega, ?_⟩
        rw [show k + (ldMt tx e r (k + 1) + 1) = k + 1 + ldMt tx e r (k + 1) by omega]
        exact b
    · obtain ⟨w1, g1, g2⟩ := Mo_must_n hS.rp q
      obtain ⟨w2, g4, g5⟩ := mu_bad r w1 g2
      rw [g1, Option.bind_some, if_neg q]
      exact ⟨w2, g4, Or.inr ⟨by omega, g5⟩⟩
/-- both behind the word and its space, or both at the FAULT -/
def LdP (w0 : T_Mo) (h e : Nat) (tx : Nat → Nat) (k p : Nat) (cl : CL) (ops : List (Nat × Nat × Nat)) (z : T_Rd) (w : T_Mo) : Prop :=
  (∃ a k' w1, a < 4 ∧ d_Rd_word z = some (nI a, u_Rd_place z (nI k')) ∧ lC tx e k' = 32 ∧ k ≤ k' ∧ d_Mo_clauseHere w = mTl (kM a) w1 ∧ LdS w0 h e tx (k' + 1) (p + 1) cl ops (u_Rd_place z (nI (k' + 1))) w1 ∧ q_Mo_open w1 = q_Mo_open w) ∨
  (∃ k' b w1, k' ≤ e ∧ d_Rd_word z = some (b, u_Rd_place z (nI k')) ∧ (b < 0 ∨ (¬ b < 0 ∧ ¬ lC tx e k' = 32)) ∧ LdB w0 h e tx (u_Rd_place z (nI k')) w1 ∧ d_Mo_clauseHere w = some w1)
theorem pW {a : Nat} (ha : a < 4) (W : List Int32) (hW : ∀ c ∈ W ++ [32], ¬ c = -1) (hS : LdS w0 h e tx k p cl ops z w) (h1 : ldMt tx e W k = W.length → d_Rd_word z = some (nI a, u_Rd_place z (nI (k + ldMt tx e W k)))) (h2 : ldMt tx e W k ≠ W.length → d_Rd_word z = some (-1, u_Rd_place z (nI (k + ldMt tx e W k)))) (h3 : d_Mo_clauseHere w = (ldMu (W ++ [32]) w).bind (mTl (kM a))) : LdP w0 h e tx k p cl ops z w := by
  obtain ⟨w1, g1, g2⟩ := mu_run (W ++ [32]) k p z w hW hS
  have hke := hS.2.2.2.1.2.2
  rw [g1, Option.bind_some] at h3
  rw [ldMt_app] at g2
  simp only [List.length_append, List.length_singleton] at g2
  by_cases q : ldMt tx e W k = W.length
  · rw [if_pos q] at g2
    have h4 := h1 q
    rw [q] at h4
    by_cases y : lC tx e (k + W.length) = 32
    · rw [if_pos y] at g2
      rcases g2 with ⟨a1, b, c⟩ | ⟨a1, -⟩
      · refine Or.inl ⟨a, k + W.length, w1, ha, h4, y, by omega, h3, ?_, c⟩
        exact b.weak (by omega)
      · omega
    · rw [if_neg y] at g2
      rcases g2 with ⟨a1, -⟩ | ⟨-, b⟩
      · omega
      · obtain ⟨w2, g4, g5⟩ := mTl_bad b (kM a)
        have hk9 := ldMt_e tx e W k (fun c hc => hW c (List.mem_append_left _ hc)) hke
        rw [q] at hk9
        exact Or.inr ⟨k + W.length, nI a, w2, hk9, h4, Or.inr ⟨nI_pos (by omega), y⟩, g5, h3.trans g4⟩
  · rw [if_neg q] at g2
    rcases g2 with ⟨a1, -⟩ | ⟨-, b⟩
    · have := ldMt_le tx e W k
      omega
    · obtain ⟨w2, g4, g5⟩ := mTl_bad b (kM a)
      exact Or.inr ⟨k + ldMt tx e W k, -1, w2, ldMt_e tx e W k (fun c hc => hW c (List.mem_append_left _ hc)) hke, h2 q, Or.inl (by decide), g5, h3.trans g4⟩
end WO

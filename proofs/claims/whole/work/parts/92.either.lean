/-! A LAND read: E's loops, on both sides. -/
def eT3 (self : Int32 → Int32 → Int32 → T_Rd → Option (Int32 × T_Rd)) (a x4 : Int32) (z : T_Rd) : Option (Int32 × T_Rd) := (d_Rd_eat 124 z).bind fun v => if v.1 = 0 then some (1, v.2) else self a v.1 (x4 + 1) v.2
def eT2 (self : Int32 → Int32 → Int32 → T_Rd → Option (Int32 × T_Rd)) (a jT x4 : Int32) (z : T_Rd) : Option (Int32 × T_Rd) := if jT = 0 then eT3 self a x4 z else (d_La_emit (-3) (q_Rd_draft z)).bind fun v => eT3 self a x4 (u_Rd_draft z v)
def eT1 (self : Int32 → Int32 → Int32 → T_Rd → Option (Int32 × T_Rd)) (jT x4 : Int32) (z : T_Rd) : Option (Int32 × T_Rd) := (d_Rd_eat 38 z).bind fun v => if v.1 = 0 then eT2 self v.1 jT x4 v.2 else self v.1 jT (x4 + 1) v.2
theorem eB (rc : (Int32 → T_Rd → Option (Int32 × T_Rd)) × (Int32 → T_Rd → Option (Int32 × T_Rd))) (x1 : Int32) (self : Int32 → Int32 → Int32 → T_Rd → Option (Int32 × T_Rd)) (jF jT x4 : Int32) (z : T_Rd) :
    B_Rd_either_L7 rc x1 self jF jT x4 z = if 100 ≤ x4 then some (0, z) else (rc.2 x1 z).bind fun v => if v.1 = 0 then some (0, v.2) else if jF = 0 then eT1 self jT x4 v.2 else (d_La_emit (-2) (q_Rd_draft v.2)).bind fun u => eT1 self jT x4 (u_Rd_draft v.2 u) := rfl
def jn (j : Bool) : Nat := if j = true then 1 else 0
def jl (j : Bool) (q : Nat × Nat × Nat) : List (Nat × Nat × Nat) := if j = true then [q] else []
theorem jn_t : jn true = 1 := rfl
theorem jn_f : jn false = 0 := rfl
theorem jn_le (j : Bool) : jn j ≤ 1 := by cases j <;> decide
def mJ (j : Bool) (x : Int32) (w : T_Mo) : Option T_Mo := if j = true then d_Mo_emits x w else some w
def MK (r2 r1 : (T_Mo → Option T_Mo) × (T_Mo → Option T_Mo) × (T_Mo → Option T_Mo)) (f g : Nat) (jF jT : Bool) (v : T_Mo) : Option T_Mo := (mJ jF (-2) v).bind fun v => (d_Mo_every_L4 r2 f v).bind fun v => (mJ jT (-3) v).bind fun v => d_Mo_some_L4 r1 g v
theorem dp_jl (j : Bool) {q : Nat × Nat × Nat} (hq : 7 ≤ q.1) (d : Nat) : dpO (jl j q) (d + jn j + 1) = some (d + 1) := by
  cases j with
  | false => rfl
  | true =>
    show (if q.1 < 6 then _ else if q.1 = 6 then _ else (if 2 ≤ d + 1 + 1 then some (d + 1 + 1 - 1) else none)) = _
    rw [if_neg (by omega), if_neg (by omega), if_pos (by omega)]
    rfl
section LO
variable {w0 : T_Mo} {h e : Nat} {tx : Nat → Nat} {cl : CL}
theorem pJoin {k p : Nat} {ops : List (Nat × Nat × Nat)} {z : T_Rd} {w : T_Mo} (j : Bool) {q : Nat × Nat × Nat} {x y : Int32} (hS : LdS w0 h e tx k (p + jn j) cl ops z w) (hq : okO q) (hx : x = cO q) (hy : y = mO q) :
    ∃ z' w', (∀ T : T_Rd → Option (Int32 × T_Rd), (if bI j = 0 then T z else (d_La_emit x (q_Rd_draft z)).bind fun u => T (u_Rd_draft z u)) = T z') ∧ mJ j y w = some w' ∧ LdS w0 h e tx k p cl (ops ++ jl j q) z' w' ∧ q_Mo_open w' = q_Mo_open w := by
  cases j with
  | false =>
    refine ⟨z, w, fun T => if_pos rfl, rfl, ?_, rfl⟩
    show LdS w0 h e tx k p cl (ops ++ []) z w
    rw [List.append_nil]
    exact hS
  | true =>
    obtain ⟨dr, w', g1, g2, g3, g4⟩ := pEmit hS hq hx hy
    exact ⟨u_Rd_draft z dr, w', fun T => by rw [if_neg (by decide), g1, Option.bind_some], g2, g3, g4⟩
section MB
variable {r r1 r2 : (T_Mo → Option T_Mo) × (T_Mo → Option T_Mo) × (T_Mo → Option T_Mo)} {w : T_Mo}
theorem mE_succ (f : Nat) : d_Mo_every_L4 r (f + 1) w = B_Mo_every_L4 r (d_Mo_every_L4 r f) w := rfl
theorem mS_succ (f : Nat) : d_Mo_some_L4 r (f + 1) w = B_Mo_some_L4 r (d_Mo_some_L4 r f) w := rfl
theorem mE_bad (f : Nat) (hw : q_Mo_isWrong w = 1) : d_Mo_every_L4 r (f + 1) w = some w := by
  rw [mE_succ]
  unfold B_Mo_every_L4
  exact if_neg (by rw [hw]; exact n10)
theorem mS_bad (f : Nat) (hw : q_Mo_isWrong w = 1) : d_Mo_some_L4 r (f + 1) w = some w := by
  rw [mS_succ]
  unfold B_Mo_some_L4
  exact if_neg (by rw [hw]; exact n10)
theorem mJ_bad (j : Bool) {x : Int32} (hw : q_Mo_isWrong w = 1) : mJ j x w = some w := by
  cases j with
  | false => rfl
  | true => exact emits_bad hw
theorem MK_bad (f g : Nat) (jF jT : Bool) (hw : q_Mo_isWrong w = 1) : MK r2 r1 (f + 1) (g + 1) jF jT w = some w := by
  unfold MK
  rw [mJ_bad jF hw, Option.bind_some, mE_bad f hw, Option.bind_some, mJ_bad jT hw, Option.bind_some, mS_bad g hw]
end MB
theorem ok7 : okO (7, 0, 0) := ⟨by decide, by decide, by decide⟩
theorem ok8 : okO (8, 0, 0) := ⟨by decide, by decide, by decide⟩
theorem ok6 : okO (6, 0, 0) := ⟨by decide, by decide, by decide⟩
theorem pLoop {n o : Nat} {rc : (Int32 → T_Rd → Option (Int32 × T_Rd)) × (Int32 → T_Rd → Option (Int32 × T_Rd))} {r1 r2 : (T_Mo → Option T_Mo) × (T_Mo → Option T_Mo) × (T_Mo → Option T_Mo)}
    (h1 : ∀ w, r1.1 w = (r2.2.1 w).bind fun v => d_Mo_every_L4 r2 1000 v)
    (hF : ∀ (k p : Nat) (ops : List (Nat × Nat × Nat)) (z : T_Rd) (w : T_Mo), LdS w0 h e tx k p cl ops z w → q_Mo_open w = nI o → LdF w0 h e tx k p cl ops n (nI o) (rc.2 (nI o) z) (r2.2.1 w)) :
    ∀ (N k p j : Nat) (ops P : List (Nat × Nat × Nat)) (jF jT : Bool) (nc f g : Nat) (z : T_Rd) (w : T_Mo), e - k < N → N ≤ nc → N ≤ f → N ≤ g → N ≤ 1000 → 2 * j ≤ k →
      LdS w0 h e tx k (p + jn jF + jn jT) cl (ops ++ P) z w → q_Mo_open w = nI o → (∀ d, d + (n + 2) ≤ 20 → dpO P d = some (d + jn jF + jn jT)) →
      LdF w0 h e tx k p cl ops (n + 2) (nI o) (d_Rd_either_L7 rc (nI o) nc (bI jF) (bI jT) (nI j) z) ((r2.2.1 w).bind (MK r2 r1 f g jF jT))
  | 0, _, _, _, _, _, _, _, _, _, _, _, _, hN, _, _, _, _, _, _, _, _ => by omega
  | N + 1, k, p, j, ops, P, jF, jT, nc, f, g, z, w, hN, hnc, hf, hg, hN9, hj, hS, ho, hd => by
    obtain ⟨nc, rfl⟩ : ∃ m, nc = m + 1 := ⟨nc - 1, by omega⟩
    obtain ⟨f, rfl⟩ : ∃ m, f = m + 1 := ⟨f - 1, by omega⟩
    obtain ⟨g, rfl⟩ : ∃ m, g = m + 1 := ⟨g - 1, by omega⟩
    have hB : d_Rd_either_L7 rc (nI o) (nc + 1) (bI jF) (bI jT) (nI j) z = B_Rd_either_L7 rc (nI o) (d_Rd_either_L7 rc (nI o) nc) (bI jF) (bI jT) (nI j) z := rfl
    have hke := hS.2.2.2.1.2.2
    have h100 := hS.1.2.1
    have e0 : ¬ (100 : Int32) ≤ nI j := nI_ge (b := 100) (by omega) (by omega)
    have jf1 := jn_le jF
    have jt1 := jn_le jT
    rw [hB, eB, if_neg e0]
    obtain ⟨b, z1, w1, y1, y2, y3⟩ := hF k (p + jn jF + jn jT) (ops ++ P) z w hS ho
    rw [y1, y2, Option.bind_some, Option.bind_some]
    rcases y3 with ⟨rfl, o1, Q, k1, hk1, hS1, hd1⟩ | ⟨rfl, hB1⟩
    · obtain ⟨z2, w2, x1, x2, hS2, o2⟩ := pJoin (p := p + jn jT) jF (q := (7, 0, 0)) (x := -2) (y := -2) (hS1.weak (by omega)) ok7 (by decide) (by decide)
      have hke1 := hS1.2.2.2.1.2.2
      refine LdF.cong ((if_neg n10).trans (x1 (eT1 (d_Rd_either_L7 rc (nI o) nc) (bI jT) (nI j)))) rfl ?_
      have hM : MK r2 r1 (f + 1) (g + 1) jF jT w1 = (d_Mo_every_L4 r2 (f + 1) w2).bind fun v => (mJ jT (-3) v).bind fun v => d_Mo_some_L4 r1 (g + 1) v := by
        unfold MK
        rw [x2, Option.bind_some]
      rw [hM, mE_succ]
      unfold B_Mo_every_L4 eT1
      rw [if_pos hS2.nw, hS2.here, Option.bind_some]
      have hP : ∀ d, d + (n + 2) ≤ 20 → dpO (P ++ Q ++ jl jF (7, 0, 0)) d = some (d + jn jT + 1) := fun d h2 => by
        rw [dpO_app, dpO_app, hd d h2, Option.bind_some, hd1 _ (by omega), Option.bind_some, show d + jn jF + jn jT + 1 = d + jn jT + jn jF + 1 by omega]
        exact dp_jl jF (Nat.le_refl _) _
      have hl : ops ++ P ++ Q ++ jl jF (7, 0, 0) = ops ++ (P ++ Q ++ jl jF (7, 0, 0)) := by simp only [List.append_assoc]
      rw [hl] at hS2
      by_cases c1 : lC tx e k1 = 38
      · have q1 := lC_lt (by decide) c1
        rw [if_pos c1, Rd_eat_y hS2.1 hS2.2.1 hS2.2.2.2.1.1 (by decide) c1, Option.bind_some, Option.bind_assoc]
        refine LdF.mono (k' := k1 + 1) (by omega) ?_
        refine LdF.cong (if_neg n10) (B' := (r2.2.1 (u_Mo_spot w2 (nI (k1 + 1)))).bind (MK r2 r1 f (g + 1) true jT)) ?_ ?_
        · rw [hS2.2.2.2.1.2.1, nI_1]
          congr 1
          funext v
          rw [Option.bind_assoc]
          rfl
        · have hS3 := hS2.go (k' := k1 + 1) (by omega) (by omega)
          rw [nI_1]
          exact pLoop h1 hF N (k1 + 1) p (j + 1) ops (P ++ Q ++ jl jF (7, 0, 0)) true jT nc f (g + 1) _ _ (by omega) (by omega) (by omega) (by omega) (by omega) (by omega) (hS3.weak (by rw [jn_t]; omega)) (o2.trans o1) (fun d h2 => by rw [hP d h2, jn_t, show d + jn jT + 1 = d + 1 + jn jT by omega])
      · rw [if_neg c1, Rd_eat_n hS2.1 hS2.2.1 hS2.2.2.2.1.1 hS2.2.2.2.1.2.2 c1, Option.bind_some, Option.bind_some]
        obtain ⟨z3, w3, x3, x4, hS3, o3⟩ := pJoin (p := p) jT (q := (8, 0, 0)) (x := -3) (y := -3) hS2 ok8 (by decide) (by decide)
        refine LdF.cong ((if_pos rfl).trans (x3 (eT3 (d_Rd_either_L7 rc (nI o) nc) 0 (nI j)))) rfl ?_
        rw [x4, Option.bind_some, mS_succ]
        unfold B_Mo_some_L4 eT3
        rw [if_pos hS3.nw, hS3.here, Option.bind_some]
        have hP2 : ∀ d, d + (n + 2) ≤ 20 → dpO (P ++ Q ++ jl jF (7, 0, 0) ++ jl jT (8, 0, 0)) d = some (d + 1) := fun d h2 => by
          rw [dpO_app, hP d h2, Option.bind_some]
          exact dp_jl jT (by decide) _
        rw [List.append_assoc ops] at hS3
        by_cases c2 : lC tx e k1 = 124
        · have q1 := lC_lt (by decide) c2
          rw [if_pos c2, Rd_eat_y hS3.1 hS3.2.1 hS3.2.2.2.1.1 (by decide) c2, Option.bind_some]
          refine LdF.mono (k' := k1 + 1) (by omega) ?_
          refine LdF.cong (if_neg n10) (B' := (r2.2.1 (u_Mo_spot w3 (nI (k1 + 1)))).bind (MK r2 r1 1000 g false true)) ?_ ?_
          · rw [hS3.2.2.2.1.2.1, nI_1, h1, Option.bind_assoc]
            rfl
          · have hS4 := hS3.go (k' := k1 + 1) (by omega) (by omega)
            rw [nI_1]
            exact pLoop h1 hF N (k1 + 1) p (j + 1) ops (P ++ Q ++ jl jF (7, 0, 0) ++ jl jT (8, 0, 0)) false true nc 1000 g _ _ (by omega) (by omega) (by omega) (by omega) (by omega) (by omega) (hS4.weak (by rw [jn_t, jn_f]; omega)) (o3.trans (o2.trans o1)) (fun d h2 => by rw [hP2 d h2, jn_t, jn_f, Nat.add_zero])
        · rw [if_neg c2, Rd_eat_n hS3.1 hS3.2.1 hS3.2.2.2.1.1 hS3.2.2.2.1.2.2 c2, Option.bind_some]
          exact ⟨1, z3, w3, if_pos rfl, rfl, Or.inl ⟨rfl, o3.trans (o2.trans o1), _, k1, hk1, hS3, hP2⟩⟩
    · refine LdF.bad (if_pos rfl) (MK_bad f g jF jT hB1.2.2.2.2) hB1
theorem pE_of {n o n1 n2 : Nat} (hF : ∀ (k p : Nat) (ops : List (Nat × Nat × Nat)) (z : T_Rd) (w : T_Mo), LdS w0 h e tx k p cl ops z w → q_Mo_open w = nI o → LdF w0 h e tx k p cl ops n (nI o) (d_Rd_factor n1 (nI o) z) (d_Mo_factor n2 w)) (k p : Nat) (ops : List (Nat × Nat × Nat)) (z : T_Rd) (w : T_Mo) (hS : LdS w0 h e tx k p cl ops z w) (ho : q_Mo_open w = nI o) :
    LdF w0 h e tx k p cl ops (n + 2) (nI o) (d_Rd_either (n1 + 1) (nI o) z) (d_Mo_some (n2 + 2) w) := by
  have h100 := hS.1.2.1
  refine LdF.cong (A' := d_Rd_either_L7 (d_G_Rd_either n1) (nI o) 1000 (bI false) (bI false) (nI 0) z) rfl (B' := ((d_G_Mo_every n2).2.1 w).bind (MK (d_G_Mo_every n2) (d_G_Mo_every (n2 + 1)) 1000 1000 false false)) ?_ ?_
  · show (((d_G_Mo_every n2).2.1 w).bind fun v => d_Mo_every_L4 (d_G_Mo_every n2) 1000 v).bind (fun v => d_Mo_some_L4 (d_G_Mo_every (n2 + 1)) 1000 v) = _
    rw [Option.bind_assoc]
    rfl
  · refine pLoop (fun _ => rfl) hF 101 k p 0 ops [] false false 1000 1000 1000 z w (by omega) (by omega) (by omega) (by omega) (by omega) (by omega) ?_ ho (fun d _ => rfl)
    rw [List.append_nil]
    exact hS
theorem test_no {k p : Nat} {ops : List (Nat × Nat × Nat)} {z : T_Rd} {w : T_Mo} (hS : LdS w0 h e tx k p cl ops z w) (hc : lC tx e k = 33 ∨ lC tx e k = 40) : d_Rd_test z = some (0, z) := by
  have hh := hS.here
  rcases pOne4 hS with ⟨l, hl, -, -, y2⟩ | ⟨y1, -⟩
  · have hx : lx4 (lC tx e k) = -1 := by
      rcases hc with c | c
      · rw [c]; decide
      · rw [c]; decide
    have h9 := congrArg Prod.fst (Option.some.inj ((among4 hh).symm.trans y2))
    exact absurd (h9.symm.trans hx) (nI_m1 l (by omega))
  · unfold d_Rd_test
    rw [y1, Option.bind_some]
    exact if_neg (show ¬ (0 : Int32) ≤ -1 by decide)
theorem mG_bad (b : Nat) {w : T_Mo} (hw : q_Mo_isWrong w = 1) : (d_G_Mo_every (b + 3)).2.1 w = some w ∧ (d_G_Mo_every (b + 3)).2.2 w = some w := by
  have n0 : ¬ q_Mo_isWrong w = 0 := by rw [hw]; exact n10
  refine ⟨mF_bad n0, ?_⟩
  show (((d_G_Mo_every (b + 1)).2.1 w).bind fun v => d_Mo_every_L4 (d_G_Mo_every (b + 1)) 1000 v).bind (fun v => d_Mo_some_L4 (d_G_Mo_every (b + 2)) 1000 v) = _
  have h1 : (d_G_Mo_every (b + 1)).2.1 w = some w := mF_bad n0
  rw [h1, Option.bind_some, mE_bad 999 hw, Option.bind_some, mS_bad 999 hw]
theorem must_bad {x : Int32} {w : T_Mo} (hw : q_Mo_isWrong w = 1) : d_Mo_must x w = some (u_Mo_spot (u_Mo_isWrong w 1) (q_Mo_spot w + 0)) := by
  unfold d_Mo_must
  rw [if_neg (by rw [hw]; exact n10)]
  exact if_neg n10
theorem bind_eta (A : Option (Int32 × T_Rd)) : (A.bind fun v => some (v.1, v.2)) = A := by cases A <;> rfl
theorem pF : ∀ (m o n1 n2 : Nat), o + m = 5 → 2 * m + 1 ≤ n1 → 3 * m + 4 ≤ n2 → ∀ (k p : Nat) (ops : List (Nat × Nat × Nat)) (z : T_Rd) (w : T_Mo), LdS w0 h e tx k p cl ops z w → q_Mo_open w = nI o → LdF w0 h e tx k p cl ops (2 * m + 1) (nI o) (d_Rd_factor n1 (nI o) z) (d_Mo_factor n2 w)
  | 0, o, n1, n2, ho, h1, h2, k, p, ops, z, w, hS, hop => by
    obtain ⟨a, rfl⟩ : ∃ a, n1 = a + 1 := ⟨n1 - 1, by omega⟩
    obtain ⟨b, rfl⟩ : ∃ b, n2 = b + 3 + 1 := ⟨n2 - 4, by omega⟩
    have o5 : o = 5 := by omega
    subst o5
    have hA : d_Rd_factor (a + 1) (nI 5) z = d_Rd_test z := by
      show B_Rd_factor (d_G_Rd_either a) (nI 5) z = _
      unfold B_Rd_factor
      rw [if_pos (show (5 : Int32) ≤ nI 5 from Int32.le_refl 5)]
      exact bind_eta _
    have hB : d_Mo_factor (b + 3 + 1) w = B_Mo_factor (d_G_Mo_every (b + 3)) w := rfl
    have hsp := hS.2.2.2.1.2.1
    rw [hA, hB]
    by_cases c1 : lC tx e k = 33
    · have hbad : LdB w0 h e tx z (u_Mo_spot (u_Mo_open (u_Mo_isWrong w 1) (q_Mo_open w + 1)) (q_Mo_spot w + 0)) := hS.bad hS.2.2.1 (by show q_Mo_spot w + 0 = _; rw [Int32.add_zero]; exact hsp) rfl
      rw [test_no hS (Or.inl c1), mF_not5 hS.nw (c1 ▸ hS.here) hop, (mG_bad b (w := u_Mo_spot (u_Mo_open (u_Mo_isWrong w 1) (q_Mo_open w + 1)) (q_Mo_spot w + 0)) rfl).1, Option.bind_some, hbad.emits, Option.bind_some]
      exact LdF.bad rfl rfl (hbad.opn _)
    by_cases c2 : lC tx e k = 40
    · have hbad : LdB w0 h e tx z (u_Mo_spot (u_Mo_open (u_Mo_isWrong w 1) (q_Mo_open w + 1)) (q_Mo_spot w + 0)) := hS.bad hS.2.2.1 (by show q_Mo_spot w + 0 = _; rw [Int32.add_zero]; exact hsp) rfl
      rw [test_no hS (Or.inr c2), mF_par5 hS.nw (c2 ▸ hS.here) hop, (mG_bad b (w := u_Mo_spot (u_Mo_open (u_Mo_isWrong w 1) (q_Mo_open w + 1)) (q_Mo_spot w + 0)) rfl).2, Option.bind_some]
      obtain ⟨w', g1, g2⟩ := hbad.must 41
      rw [g1, Option.bind_some]
      exact LdF.bad rfl rfl (g2.opn _)
    · rw [mF_test hS hS.here c1 c2, ← hop]
      exact pTest hS
  | m + 1, o, n1, n2, ho, h1, h2, k, p, ops, z, w, hS, hop => by
    obtain ⟨a, rfl⟩ : ∃ a, n1 = a + 1 + 1 := ⟨n1 - 2, by omega⟩
    obtain ⟨b, rfl⟩ : ∃ b, n2 = b + 2 + 1 := ⟨n2 - 3, by omega⟩
    have hke := hS.2.2.2.1.2.2
    have e5 : ¬ (5 : Int32) ≤ nI o := nI_ge (b := 5) (by omega) (by omega)
    have ho5 : ¬ q_Mo_open w = 5 := by
      rw [hop]
      exact fun t => absurd ((nI_eq (a := o) (b := 5) (by omega) (by omega)).mp t) (by omega)
    have hA : d_Rd_factor (a + 1 + 1) (nI o) z = B_Rd_factor (d_G_Rd_either (a + 1)) (nI o) z := rfl
    have hB : d_Mo_factor (b + 2 + 1) w = B_Mo_factor (d_G_Mo_every (b + 2)) w := rfl
    have hsp := hS.2.2.2.1.2.1
    have hopn : q_Mo_open w + 1 = nI (o + 1) := by rw [hop, nI_1]
    have hopm : nI (o + 1) - 1 = nI o := nI_pred o
    rw [hA, hB]
    unfold B_Rd_factor
    rw [if_neg e5]
    by_cases c1 : lC tx e k = 33
    · have q1 := lC_lt (by decide) c1
      rw [mF_not hS.nw (c1 ▸ hS.here) ho5, Rd_eat_y hS.1 hS.2.1 hS.2.2.2.1.1 (by decide) c1, Option.bind_some, hopn, hsp, nI_1, nI_1]
      refine LdF.cong (if_neg n10) rfl ?_
      have hS1 : LdS w0 h e tx (k + 1) (p + 1) cl ops (u_Rd_place z (nI (k + 1))) (u_Mo_spot (u_Mo_open (u_Mo_isWrong w 0) (nI (o + 1))) (nI (k + 1))) := ((hS.zero.opn (nI (o + 1))).go (k' := k + 1) (by omega) (by omega)).weak (by omega)
      obtain ⟨b', z1, w1, y1, y2, y3⟩ := pF m (o + 1) (a + 1) (b + 2) (by omega) (by omega) (by omega) (k + 1) (p + 1) ops _ _ hS1 rfl
      have y1' : (d_G_Rd_either (a + 1)).2 (nI (o + 1)) (u_Rd_place z (nI (k + 1))) = some (b', z1) := y1
      have y2' : (d_G_Mo_every (b + 2)).2.1 (u_Mo_spot (u_Mo_open (u_Mo_isWrong w 0) (nI (o + 1))) (nI (k + 1))) = some w1 := y2
      rw [y1', y2', Option.bind_some, Option.bind_some]
      rcases y3 with ⟨rfl, o1, Q, k1, hk1, hS2, hd⟩ | ⟨rfl, hB1⟩
      · obtain ⟨dr, w2, g1, g2, g3, g4⟩ := pEmit (p := p) (q := (6, 0, 0)) (x := -1) (y := -1) hS2 ok6 (by decide) (by decide)
        rw [g2, Option.bind_some]
        refine ⟨1, u_Rd_draft z1 dr, u_Mo_open w2 (q_Mo_open w2 - 1), ?_, rfl, Or.inl ⟨rfl, ?_, Q ++ [(6, 0, 0)], k1, by omega, ?_, fun d h3 => ?_⟩⟩
        · refine (if_neg n10).trans ?_
          show (d_La_emit (-1) (q_Rd_draft z1)).bind _ = _
          rw [g1]
          rfl
        · show q_Mo_open w2 - 1 = nI o
          rw [g4, o1, hopm]
        · rw [← List.append_assoc]
          exact g3.opn _
        · rw [dpO_app, hd d (by omega), Option.bind_some]
          rfl
      · rw [hB1.emits, Option.bind_some]
        exact LdF.bad (if_pos rfl) rfl (hB1.opn _)
    · rw [Rd_eat_n hS.1 hS.2.1 hS.2.2.2.1.1 hS.2.2.2.1.2.2 c1, Option.bind_some]
      refine LdF.cong (if_pos rfl) rfl ?_
      by_cases c2 : lC tx e k = 40
      · have q1 := lC_lt (by decide) c2
        show LdF w0 h e tx k p cl ops _ _ ((d_Rd_eat 40 z).bind _) _
        rw [mF_par hS.nw (c2 ▸ hS.here) ho5, Rd_eat_y hS.1 hS.2.1 hS.2.2.2.1.1 (by decide) c2, Option.bind_some, hopn, hsp, nI_1, nI_1]
        refine LdF.cong (if_neg n10) rfl ?_
        have hS1 : LdS w0 h e tx (k + 1) (p + 1) cl ops (u_Rd_place z (nI (k + 1))) (u_Mo_spot (u_Mo_open (u_Mo_isWrong w 0) (nI (o + 1))) (nI (k + 1))) := ((hS.zero.opn (nI (o + 1))).go (k' := k + 1) (by omega) (by omega)).weak (by omega)
        obtain ⟨b', z1, w1, y1, y2, y3⟩ := pE_of (pF m (o + 1) a b (by omega) (by omega) (by omega)) (k + 1) (p + 1) ops _ _ hS1 rfl
        have y1' : (d_G_Rd_either (a + 1)).1 (nI (o + 1)) (u_Rd_place z (nI (k + 1))) = some (b', z1) := y1
        have y2' : (d_G_Mo_every (b + 2)).2.2 (u_Mo_spot (u_Mo_open (u_Mo_isWrong w 0) (nI (o + 1))) (nI (k + 1))) = some w1 := y2
        rw [y1', y2', Option.bind_some, Option.bind_some]
        rcases y3 with ⟨rfl, o1, Q, k1, hk1, hS2, hd⟩ | ⟨rfl, hB1⟩
        · refine LdF.cong (if_neg n10) rfl ?_
          show LdF w0 h e tx k p cl ops _ _ ((d_Rd_eat 41 z1).bind _) _
          have hke1 := hS2.2.2.2.1.2.2
          by_cases c3 : lC tx e k1 = 41
          · have q2 := lC_lt (by decide) c3
            obtain ⟨w2, g1, g2, g3⟩ := Mo_must_y hS2 (by decide) c3
            rw [Rd_eat_y hS2.1 hS2.2.1 hS2.2.2.2.1.1 (by decide) c3, g1, Option.bind_some, Option.bind_some]
            refine ⟨1, u_Rd_place z1 (nI (k1 + 1)), u_Mo_open w2 (q_Mo_open w2 - 1), if_neg n10, rfl, Or.inl ⟨rfl, ?_, Q, k1 + 1, by omega, (g2.opn _).weak (by omega), fun d h3 => hd d (by omega)⟩⟩
            show q_Mo_open w2 - 1 = nI o
            rw [g3, o1, hopm]
          · obtain ⟨w2, g1, g2⟩ := Mo_must_n hS2 c3
            rw [Rd_eat_n hS2.1 hS2.2.1 hS2.2.2.2.1.1 hS2.2.2.2.1.2.2 c3, g1, Option.bind_some, Option.bind_some]
            exact LdF.bad (if_pos rfl) rfl (g2.opn _)
        · obtain ⟨w2, g1, g2⟩ := hB1.must 41
          rw [g1, Option.bind_some]
          exact LdF.bad (if_pos rfl) rfl (g2.opn _)
      · show LdF w0 h e tx k p cl ops _ _ ((d_Rd_eat 40 z).bind _) _
        rw [mF_test hS hS.here c1 c2, Rd_eat_n hS.1 hS.2.1 hS.2.2.2.1.1 hS.2.2.2.1.2.2 c2, Option.bind_some]
        refine LdF.cong ((if_pos rfl).trans (bind_eta _)) rfl ?_
        obtain ⟨b', z1, w1, y1, y2, y3⟩ := pTest hS
        refine ⟨b', z1, w1, y1, y2, ?_⟩
        rcases y3 with ⟨g1, g2, Q, k1, g3, g4, g5⟩ | g
        · exact Or.inl ⟨g1, g2.trans hop, Q, k1, g3, g4, fun d h3 => g5 d (by omega)⟩
        · exact Or.inr g
end LO

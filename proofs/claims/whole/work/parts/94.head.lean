/-! A LAND read: a CLAUSE, on both sides. -/
section WH
variable {w0 : T_Mo} {h e : Nat} {tx : Nat → Nat} {k p : Nat} {cl : CL} {ops : List (Nat × Nat × Nat)} {z : T_Rd} {w : T_Mo}
theorem bind_eta1 (A : Option T_Mo) : (A.bind fun v => some v) = A := by cases A <;> rfl
theorem ch_eq {x : Int32} (hh : d_Mo_here w = some x) : d_Mo_clauseHere w = if x = 105 then d_Mo_much (-600) 9 w else if x = 108 then d_Mo_clauseOfL w else if x = 119 then d_Mo_much (-400) 8 w else some (u_Mo_isWrong w 1) := by
  unfold d_Mo_clauseHere
  rw [hh, Option.bind_some]
  rw [bind_eta1, bind_eta1, bind_eta1]
theorem pHead (hS : LdS w0 h e tx k p cl ops z w) : LdP w0 h e tx k p cl ops z w := by
  have hwd := word_eq hS
  have hch := ch_eq hS.here
  have hke := hS.2.2.2.1.2.2
  by_cases c1 : lC tx e k = 105
  · have n1 : ¬ lC tx e k = 108 := by rw [c1]; decide
    have n2 : ¬ lC tx e k = 119 := by rw [c1]; decide
    rw [if_pos c1, much_eq, sp9] at hch
    simp only [ldMt_cons tx e k 108, ldMt_cons tx e k 119, n1, n2, if_false] at hwd
    have hl := ldMt_le tx e [105, 108, 108] k
    refine pW (a := 3) (by decide) [105, 108, 108] (by decide) hS (fun y => ?_) (fun y => ?_) hch
    · rw [hwd]
      exact (if_neg (by decide)).trans ((if_neg (by decide)).trans ((if_neg (by decide)).trans (if_pos y)))
    · have hm : max (max (max (max 0 0) 0) 0) (ldMt tx e [105, 108, 108] k) = ldMt tx e [105, 108, 108] k := by omega
      rw [hm] at hwd
      rw [hwd]
      exact (if_neg (by decide)).trans ((if_neg (by decide)).trans ((if_neg (by decide)).trans (if_neg y)))
  rw [if_neg c1] at hch
  by_cases c2 : lC tx e k = 108
  · have n2 : ¬ lC tx e k = 119 := by rw [c2]; decide
    rw [if_pos c2] at hch
    unfold d_Mo_clauseOfL at hch
    obtain ⟨w1, g1, g2, g3⟩ := Mo_must_y hS (by decide) c2
    rw [g1, Option.bind_some] at hch
    simp only [ldMt_cons tx e k 119, ldMt_cons tx e k 105, n2, c1, if_false] at hwd
    by_cases c3 : lC tx e (k + 1) = 105
    · obtain ⟨w2, g4, g5, g6⟩ := Mo_must_y g2 (by decide) c3
      rw [g4, Option.bind_some, g5.here, Option.bind_some, bind_eta1, bind_eta1] at hch
      have hmu : ∀ r, ldMu (108 :: 105 :: r) w = ldMu r w2 := fun r => by
        show (d_Mo_must 108 w).bind (fun v => (d_Mo_must 105 v).bind (ldMu r)) = _
        rw [g1, Option.bind_some, g4, Option.bind_some]
      have hmt : ∀ r, ldMt tx e (108 :: 105 :: r) k = ldMt tx e r (k + 1 + 1) + 1 + 1 := fun r => by
        rw [ldMt_cons, if_pos c2, ldMt_cons, if_pos c3]
      by_cases c4 : lC tx e (k + 1 + 1) = 107
      · rw [if_pos c4, much_eq, sp6, ← hmu] at hch
        have n4 : ¬ lC tx e (k + 1 + 1) = 102 := by rw [c4]; decide
        have hm1 : ldMt tx e [108, 105, 102, 116] k = 2 := by rw [hmt, ldMt_cons, if_neg n4]
        have hm0 : 2 ≤ ldMt tx e [108, 105, 107, 101] k := by rw [hmt]; omega
        have hl := ldMt_le tx e [108, 105, 107, 101] k
        rw [hm1] at hwd
        refine pW (a := 0) (by decide) [108, 105, 107, 101] (by decide) hS (fun y => ?_) (fun y => ?_) hch
        · rw [hwd]
          exact if_pos y
        · have hm : max (max (max (max 0 (ldMt tx e [108, 105, 107, 101] k)) 2) 0) 0 = ldMt tx e [108, 105, 107, 101] k := by omega
          rw [hm] at hwd
          rw [hwd]
          exact (if_neg y).trans ((if_neg (by decide)).trans ((if_neg (by decide)).trans (if_neg (by decide))))
      · rw [if_neg c4, much_eq, sp7, ← hmu] at hch
        have hm0 : ldMt tx e [108, 105, 107, 101] k = 2 := by rw [hmt, ldMt_cons, if_neg c4]
        have hm1 : 2 ≤ ldMt tx e [108, 105, 102, 116] k := by rw [hmt]; omega
        have hl := ldMt_le tx e [108, 105, 102, 116] k
        rw [hm0] at hwd
        refine pW (a := 1) (by decide) [108, 105, 102, 116] (by decide) hS (fun y => ?_) (fun y => ?_) hch
        · rw [hwd]
          exact (if_neg (by decide)).trans (if_pos y)
        · have hm : max (max (max (max 0 2) (ldMt tx e [108, 105, 102, 116] k)) 0) 0 = ldMt tx e [108, 105, 102, 116] k := by omega
          rw [hm] at hwd
          rw [hwd]
          exact (if_neg (by decide)).trans ((if_neg y).trans ((if_neg (by decide)).trans (if_neg (by decide))))
    · obtain ⟨w2, g4, g5⟩ := Mo_must_n g2 c3
      have hq1 := lC_lt (by decide) c2
      obtain ⟨k9, k91, k92, k93⟩ := g5.2.2.2.1
      rw [g4, Option.bind_some, Mo_hereL g5.1 g5.2.2.1 k93 k91, Option.bind_some, bind_eta1, bind_eta1] at hch
      have hm0 : ldMt tx e [108, 105, 107, 101] k = 1 := by rw [ldMt_cons, if_pos c2, ldMt_cons, if_neg c3]
      have hm1 : ldMt tx e [108, 105, 102, 116] k = 1 := by rw [ldMt_cons, if_pos c2, ldMt_cons, if_neg c3]
      rw [hm0, hm1] at hwd
      have hwd : d_Rd_word z = some (-1, u_Rd_place z (nI (k + 1))) := hwd
      have hmb : ∃ w3, (if lC tx e k9 = 107 then d_Mo_much (-10) 6 w2 else d_Mo_much (-200) 7 w2) = some w3 ∧ LdB w0 h e tx (u_Rd_place z (nI (k + 1))) w3 := by
        by_cases c4 : lC tx e k9 = 107
        · obtain ⟨w3, y1, y2⟩ := mu_bad [107, 101, 32] w2 g5
          obtain ⟨w4, y3, y4⟩ := mTl_bad y2 (-10)
          exact ⟨w4, by rw [if_pos c4, much_eq, sp6, y1, Option.bind_some, y3], y4⟩
        · obtain ⟨w3, y1, y2⟩ := mu_bad [102, 116, 32] w2 g5
          obtain ⟨w4, y3, y4⟩ := mTl_bad y2 (-200)
          exact ⟨w4, by rw [if_neg c4, much_eq, sp7, y1, Option.bind_some, y3], y4⟩
      obtain ⟨w3, y1, y2⟩ := hmb
      exact Or.inr ⟨k + 1, -1, w3, hq1, hwd, Or.inl (by decide), y2, hch.trans y1⟩
  rw [if_neg c2] at hch
  simp only [ldMt_cons tx e k 108, ldMt_cons tx e k 105, c1, c2, if_false] at hwd
  by_cases c3 : lC tx e k = 119
  · rw [if_pos c3, much_eq, sp8] at hch
    have hl := ldMt_le tx e [119, 101, 97, 114] k
    refine pW (a := 2) (by decide) [119, 101, 97, 114] (by decide) hS (fun y => ?_) (fun y => ?_) hch
    · rw [hwd]
      exact (if_neg (by decide)).trans ((if_neg (by decide)).trans (if_pos y))
    · have hm : max (max (max (max 0 0) 0) (ldMt tx e [119, 101, 97, 114] k)) 0 = ldMt tx e [119, 101, 97, 114] k := by omega
      rw [hm] at hwd
      rw [hwd]
      exact (if_neg (by decide)).trans ((if_neg (by decide)).trans ((if_neg y).trans (if_neg (by decide))))
  · rw [if_neg c3] at hch
    simp only [ldMt_cons tx e k 119, c3, if_false] at hwd
    have hwd : d_Rd_word z = some (-1, u_Rd_place z (nI (k + 0))) := hwd
    exact Or.inr ⟨k, -1, u_Mo_isWrong w 1, hke, hwd, Or.inl (by decide), hS.rp.bad (w' := u_Mo_isWrong w 1) hS.2.2.1 hS.2.2.2.1.2.1 rfl, hch⟩
theorem close_eq {D : T_La} {x y : Int32} {C : Nat} (hC : q_La_clauses D = nI C) (h10 : C < 10) : d_La_close x y D = some (nI (C + 1), upd (q_La_word D) C x, upd (q_La_n D) C y, upd (q_La_end D) C (q_La_codes D), q_La_code D, q_La_codes D) := by
  have e0 : ¬ (10 : Int32) ≤ nI C := nI_ge (b := 10) h10 (by omega)
  have e1 : inb (nI C) 10 = true := inb_n h10 (by omega)
  have e2 : (nI C).toNatClampNeg = C := nI_clamp (by omega)
  obtain ⟨a, b, c, d, f, g⟩ := D
  have hC : a = nI C := hC
  subst hC
  unfold d_La_close
  refine (if_neg e0).trans ((if_pos e1).trans ((if_pos e1).trans ((if_pos e1).trans ?_)))
  show some (nI C + 1, upd b (nI C).toNatClampNeg x, upd c (nI C).toNatClampNeg y, upd d (nI C).toNatClampNeg g, f, g) = _
  rw [e2, nI_1]
theorem pClose {a n : Nat} (ha : a < 4) (hn : n ≤ 99) (h10 : cl.length < 10) (hd : dpO ops 0 = some 1) (hS : LdS w0 h e tx k (p + 1) cl ops z w) : ∃ dr w', d_La_close (nI a) (nI n) (q_Rd_draft z) = some dr ∧ d_Mo_emits (kM a - nI n) w = some w' ∧ LdS w0 h e tx k p (cl ++ [(a, n, ops)]) [] (u_Rd_draft z dr) w' ∧ q_Mo_open w' = q_Mo_open w := by
  obtain ⟨a1, b, c, d, f, g, ⟨i1, i2, i3, i4⟩, ⟨j1, j2, j3⟩, l1, l2⟩ := hS
  have h4 := a1.1
  have h100 := a1.2.1
  have hke := d.2.2
  obtain ⟨c1, c2, c3, c4⟩ := c
  generalize hM : szO cl + cl.length + ops.length = M at *
  have e3 : inb (196 + nI h) 901 = true := in9 196 (by omega)
  have e4 : (196 + nI h).toNatClampNeg = 196 + h := cl9 196 (by omega)
  have e5 : (201 + 140 * nI h) + nI M = nI (201 + 140 * h + M) := by
    show nI 201 + nI 140 * nI h + nI M = _
    rw [pk_mul, nI_add, nI_add]
  have e6 : inb (nI (201 + 140 * h + M)) 901 = true := inb_n (by omega) (by omega)
  have e7 : (nI (201 + 140 * h + M)).toNatClampNeg = 201 + 140 * h + M := nI_clamp (by omega)
  refine ⟨_, u_Mo_s (u_Mo_s w (upd (q_Mo_s w) (201 + 140 * h + M) (kM a - nI n))) (upd (upd (q_Mo_s w) (201 + 140 * h + M) (kM a - nI n)) (196 + h) (nI (M + 1))), close_eq i1 h10, ?_, ?_, rfl⟩
  · have hem : ∀ (A M : Int32), q_Mo_act w = A → q_Mo_s w (196 + A).toNatClampNeg = M → inb (196 + A) 901 = true → inb ((201 + 140 * A) + M) 901 = true → d_Mo_emits (kM a - nI n) w = some (u_Mo_s (u_Mo_s w (upd (q_Mo_s w) ((201 + 140 * A) + M).toNatClampNeg (kM a - nI n))) (upd (upd (q_Mo_s w) ((201 + 140 * A) + M).toNatClampNeg (kM a - nI n)) (196 + A).toNatClampNeg (upd (q_Mo_s w) ((201 + 140 * A) + M).toNatClampNeg (kM a - nI n) (196 + A).toNatClampNeg + 1))) := by
      intro A M y1 y2 y3 y4
      subst y1
      subst y2
      unfold d_Mo_emits
      rw [if_pos f, if_pos y3, if_pos y4]
      exact (if_pos y3).trans (if_pos y3)
    rw [hem (nI h) (nI M) c2 (by rw [e4]; exact j1) e3 (by rw [e5]; exact e6), e5, e7, e4, pk_un (by omega), j1, nI_1]
  · have hs : ∀ i, i ≠ 196 + h → i ≠ 201 + 140 * h + M → upd (upd (q_Mo_s w) (201 + 140 * h + M) (kM a - nI n)) (196 + h) (nI (M + 1)) i = q_Mo_s w i := fun i a b => by rw [pk_un a, pk_un b]
    have hs1 : upd (upd (q_Mo_s w) (201 + 140 * h + M) (kM a - nI n)) (196 + h) (nI (M + 1)) (196 + h) = nI (M + 1) := pk_us
    have hs2 : upd (upd (q_Mo_s w) (201 + 140 * h + M) (kM a - nI n)) (196 + h) (nI (M + 1)) (201 + 140 * h + M) = eM a n := by rw [pk_un (by omega), pk_us]; rfl
    have hz := szO_snoc (a, n, ops) cl
    have hlen : (cl ++ [(a, n, ops)]).length = cl.length + 1 := by simp only [List.length_append, List.length_singleton]
    have hz : szO (cl ++ [(a, n, ops)]) = szO cl + ops.length := hz
    refine ⟨a1, b, ⟨c1, c2, fun i a b => ?_, c4⟩, d, f, by rw [hz, hlen, List.length_nil]; omega, ⟨?_, ?_, ?_, fun j hj => absurd hj (Nat.not_lt_zero _)⟩, ⟨?_, ?_, fun j hj => absurd hj (Nat.not_lt_zero _)⟩, fun q hq => absurd hq List.not_mem_nil, fun q hq => ?_⟩
    · exact (hs i b (by omega)).trans (c3 i a b)
    · rw [hlen]
    · rw [hz]
      exact i2
    · refine LaR.snoc (a, n, ops) cl 0 0 (LaR.keep (L := q_Rd_draft z) cl 0 0 (fun j _ hj => ?_) (fun j hj => rfl) i3) ?_ ?_ ?_ ?_
      · have : j ≠ cl.length := by omega
        exact ⟨pk_un this, pk_un this, pk_un this⟩
      · rw [Nat.zero_add]; exact pk_us
      · rw [Nat.zero_add]; exact pk_us
      · rw [Nat.zero_add, Nat.zero_add]
        exact pk_us.trans i2
      · intro j hj
        rw [Nat.zero_add]
        exact i4 j hj
    · refine hs1.trans ?_
      rw [hz, hlen, List.length_nil, show szO cl + ops.length + (cl.length + 1) + 0 = M + 1 by omega]
    · refine LmR.snoc (a, n, ops) cl _ (LmR.keep cl _ (fun i a b => hs i (by omega) (by omega)) j2) (fun j hj => ?_) ?_
      · have hj : j < ops.length := hj
        refine (hs _ (by omega) (by omega)).trans (j3 j hj)
      · show upd (upd (q_Mo_s w) (201 + 140 * h + M) (kM a - nI n)) (196 + h) (nI (M + 1)) (201 + 140 * h + (szO cl + cl.length) + ops.length) = eM a n
        rw [show 201 + 140 * h + (szO cl + cl.length) + ops.length = 201 + 140 * h + M by omega]
        exact hs2
    · rcases List.mem_append.mp hq with t | t
      · exact l2 q t
      · rw [List.mem_singleton.mp t]
        exact ⟨ha, hn, l1, hd⟩
def rC2 (x y : Int32) (v : Int32 × T_Rd) : Option (Int32 × T_Rd) := if v.1 = 0 then some (0, v.2) else (d_La_close x y (q_Rd_draft v.2)).bind fun u => some (1, u_Rd_draft v.2 u)
def rC1 (x : Int32) (z : T_Rd) : Option (Int32 × T_Rd) := (d_Rd_number z).bind fun v7 => if v7.1 < 0 then some (0, v7.2) else (d_Rd_eat 32 v7.2).bind fun v10 => if v10.1 = 0 then some (0, v10.2) else (d_Rd_either 64 0 v10.2).bind (rC2 x v7.1)
theorem cl_eq (z : T_Rd) : d_Rd_clause z = (d_Rd_word z).bind fun v1 => if v1.1 < 0 then some (0, v1.2) else (d_Rd_eat 32 v1.2).bind fun v4 => if v4.1 = 0 then some (0, v4.2) else rC1 v1.1 v4.2 := rfl
theorem pClause (hS : LdS w0 h e tx k p cl [] z w) (h10 : cl.length < 10) (ho : q_Mo_open w = nI 0) : ∃ b z' w', d_Rd_clause z = some (b, z') ∧ d_Mo_clauseHere w = some w' ∧ ((b = 1 ∧ ∃ q k', k < k' ∧ LdS w0 h e tx k' p (cl ++ [q]) [] z' w' ∧ q_Mo_open w' = nI 0) ∨ (b = 0 ∧ LdB w0 h e tx z' w')) := by
  rcases pHead hS with ⟨a, k1, w1, ha, y1, y2, y3, y4, hS1, o1⟩ | ⟨k1, b, w1, y1, y2, y3, y4, y5⟩
  · have hH := hS1.1
    have hZ : LdZ e tx (u_Rd_place z (nI k1)) := hS1.2.1
    have n1 : ¬ nI a < 0 := nI_pos (by omega)
    have hcl : d_Rd_clause z = rC1 (nI a) (u_Rd_place z (nI (k1 + 1))) := by
      rw [cl_eq, y1, Option.bind_some]
      refine (if_neg n1).trans ?_
      show (d_Rd_eat 32 (u_Rd_place z (nI k1))).bind _ = _
      rw [Rd_eat_y hH hZ rfl (by decide) y2, Option.bind_some]
      exact if_neg n10
    rw [hcl, y4]
    unfold mTl rC1
    generalize u_Rd_place z (nI (k1 + 1)) = z1 at *
    rcases pNum hS1 with ⟨n, k2, w2, hn, hk2, v1, v2, hS2, o2⟩ | ⟨w2, v1, v2, hB⟩
    · rw [v1, v2, Option.bind_some, Option.bind_some]
      have n2 : ¬ nI n < 0 := nI_pos (by omega)
      rw [if_neg n2]
      show ∃ b z' w', (d_Rd_eat 32 (u_Rd_place z1 (nI k2))).bind _ = _ ∧ _ ∧ _
      by_cases c : lC tx e k2 = 32
      · obtain ⟨w3, g1, hS3, o3⟩ := Mo_must_y hS2 (by decide) c
        rw [g1, Option.bind_some, Rd_eat_y hH hS2.2.1 rfl (by decide) c, Option.bind_some, if_neg n10]
        have hp3 := hS3.weak (p' := p + 1) (by omega)
        obtain ⟨b, z4, w4, x1, x2, x3⟩ := pE_of (pF 5 0 63 62 (by omega) (by omega) (by omega)) (k2 + 1) (p + 1) [] _ _ hp3 (o3.trans (o2.trans (o1.trans ho)))
        have x2 : d_Mo_some 64 w3 = some w4 := x2
        have x1 : d_Rd_either 64 0 (u_Rd_place (u_Rd_place z1 (nI k2)) (nI (k2 + 1))) = some (b, z4) := x1
        rw [x2, Option.bind_some, x1, Option.bind_some]
        rcases x3 with ⟨rfl, o4, Q, k5, hk5, hS4, hd⟩ | ⟨rfl, hB⟩
        · have hS4 : LdS w0 h e tx k5 (p + 1) cl Q z4 w4 := hS4
          obtain ⟨dr, w5, t1, t2, t3, t4⟩ := pClose ha hn h10 (hd 0 (by omega)) hS4
          rw [t2, Option.bind_some]
          refine ⟨1, u_Rd_draft z4 dr, w5, ?_, rfl, Or.inl ⟨rfl, (a, n, Q), k5, by omega, t3, t4.trans o4⟩⟩
          refine (if_neg n10).trans ?_
          show (d_La_close (nI a) (nI n) (q_Rd_draft z4)).bind _ = _
          rw [t1]
          rfl
        · rw [hB.emits, Option.bind_some]
          exact ⟨0, z4, w4, if_pos rfl, rfl, Or.inr ⟨rfl, hB⟩⟩
      · obtain ⟨w3, g1, hB⟩ := Mo_must_n hS2 c
        rw [g1, Option.bind_some, show d_Mo_some 64 w3 = some w3 from (mG_bad 61 hB.2.2.2.2).2, Option.bind_some, hB.emits, Option.bind_some, Rd_eat_n hH hS2.2.1 rfl hS2.2.2.2.1.2.2 c, Option.bind_some]
        exact ⟨0, u_Rd_place z1 (nI k2), w3, if_pos rfl, rfl, Or.inr ⟨rfl, hB⟩⟩
    · rw [v1, v2, Option.bind_some, Option.bind_some]
      obtain ⟨w3, g1, hB3⟩ := hB.must 32
      rw [g1, Option.bind_some, show d_Mo_some 64 w3 = some w3 from (mG_bad 61 hB3.2.2.2.2).2, Option.bind_some, hB3.emits, Option.bind_some]
      exact ⟨0, z1, w3, if_pos (show (-1 : Int32) < 0 by decide), rfl, Or.inr ⟨rfl, hB3⟩⟩
  · rw [cl_eq, y2, Option.bind_some]
    rcases y3 with c | ⟨c, c2⟩
    · exact ⟨0, _, w1, if_pos c, y5, Or.inr ⟨rfl, y4⟩⟩
    · refine ⟨0, u_Rd_place z (nI k1), w1, (if_neg c).trans ?_, y5, Or.inr ⟨rfl, y4⟩⟩
      show (d_Rd_eat 32 (u_Rd_place z (nI k1))).bind _ = _
      rw [Rd_eat_n y4.1 y4.2.1 rfl y1 c2, Option.bind_some]
      exact if_pos rfl
end WH

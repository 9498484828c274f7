/-! The way to the search: how the class prepares it. -/
/-- the same as lpIx, state first -/
theorem lpSx {σ ρ : Type} {z : σ → Int32 → Option ρ} {B : (σ → Int32 → Option ρ) → σ → Int32 → Option ρ} {n : Nat} (k : σ → Option ρ) (P : Nat → σ → Prop)
    (hs : ∀ self t a, t < n → P t a → ∃ a', B self a (nI t) = self a' (nI (t + 1)) ∧ P (t + 1) a') (he : ∀ self a, P n a → B self a (nI n) = k a) :
    ∀ (m t : Nat) (a : σ), t ≤ n → n < m + t → P t a → ∃ a', P n a' ∧ recN z B m a (nI t) = k a'
  | 0, t, a, h1, h2, _ => absurd h2 (by omega)
  | m + 1, t, a, h1, h2, hP => by
    show ∃ a', P n a' ∧ B (recN z B m) a (nI t) = k a'
    by_cases h : t < n
    · obtain ⟨a1, e, hP'⟩ := hs (recN z B m) t a h hP
      rw [e]
      exact lpSx k P hs he m (t + 1) a1 (by omega) (by omega) hP'
    · have e : t = n := by omega
      subst e
      exact ⟨a, hP, he _ a hP⟩
def ShF (np nt : Nat) (W cap : Nat → Nat) (z : T_Sh) : Prop :=
  q_Sh_people z = nI np ∧ q_Sh_things z = nI nt ∧ (∀ t, t < nt → q_Sh_weight z t = nI (W t)) ∧ (∀ p, p ≤ np → q_Sh_room z p = nI (cap p))
def ShQ (np nt : Nat) (W cap : Nat → Nat) (wo : Nat → Nat → Int) (z : T_Sh) : Prop :=
  ShF np nt W cap z ∧ ∀ t, t < nt → ∀ p, p ≤ np → q_Sh_worth z t p = iI (wo t p)
def HpJ (np nt : Nat) (W cap : Nat → Nat) (wo : Nat → Nat → Int) (j : Nat) (hp : Nat → Int) : Prop :=
  hp nt = 0 ∧ (∀ t, j ≤ t → t < nt → ∀ p, p ≤ np → ¬ wo t p = NV → W t ≤ cap p → wo t p + hp (t + 1) ≤ hp t) ∧ ∀ t, j ≤ t → t ≤ nt → -1000000 * ((nt : Int) - t) ≤ hp t ∧ hp t ≤ 1000 * ((nt : Int) - t)
def pI (j : Nat) : Int32 := if j = 0 then (-1) else nI (j - 1)
theorem pI_1 {j : Nat} (h : j < 9) : nI j - 1 = pI j := (by decide +kernel : ∀ j, j < 9 → nI j - 1 = pI j) j h
theorem pI_2 {j : Nat} (h : j < 9) : nI j + (-1) = pI j := (by decide +kernel : ∀ j, j < 9 → nI j + (-1) = pI j) j h
section SQ
variable {np nt : Nat} {W cap : Nat → Nat} {wo : Nat → Nat → Int}
theorem Sh_top {z : T_Sh} (h4 : np ≤ 4) (h7 : nt ≤ 7) (hW : WoO np nt wo) (hW50 : ∀ t, t < nt → W t ≤ 50) (hcap : ∀ p, p ≤ np → cap p ≤ 3000) (hQ : ShQ np nt W cap wo z) {t : Nat} (ht : t < nt) (k : Int32 → Option T_Sh) :
    ∃ x : Int, d_Sh_solve_L45 (nI t) z k 1000 (q_Sh_worth z t np) 0 = k (iI x) ∧ (-1000000 ≤ x ∧ x ≤ 1000) ∧ ∀ p, p ≤ np → W t ≤ cap p → wo t p ≤ x := by
  have c0 : inb (nI t) 7 = true := inb_n (by omega) (by omega)
  have c1 : (nI t).toNatClampNeg = t := nI_clamp (by omega)
  have wb : ∀ p, p ≤ np → -1000000 ≤ wo t p ∧ wo t p ≤ 1000 := fun p hp => by
    have := hW t ht p hp
    unfold NV at this
    omega
  have wt := hW50 t ht
  have et : q_Sh_weight z t = nI (W t) := hQ.1.2.2.1 t ht
  rw [hQ.2 t ht np (Nat.le_refl _)]
  obtain ⟨a, ⟨x, g1, g2, g3, g4⟩, g5⟩ := lpSx (z := fun _ _ => none) (B := fun self => B_Sh_solve_L45 (nI t) z k self) (n := np) k (fun p a => ∃ x : Int, a = iI x ∧ (-1000000 ≤ x ∧ x ≤ 1000) ∧ wo t np ≤ x ∧ ∀ q, q < p → W t ≤ cap q → wo t q ≤ x)
    (by
      intro self p a hp ⟨x, e, hx, hn, hq⟩
      subst e
      have d0 : inb (nI p) 5 = true := inb_n (by omega) (by omega)
      have d1 : (nI p).toNatClampNeg = p := nI_clamp (by omega)
      have d2 : ¬ nI np ≤ nI p := nI_ge hp (by omega)
      have wp := wb p (by omega)
      have hc := hcap p (by omega)
      have kr : (nI (cap p) < nI (W t)) ↔ cap p < W t := nI_ltI (by omega) (by omega)
      have kx : (iI x < iI (wo t p)) ↔ x < wo t p := iI_lt (by omega) (by omega) (by omega) (by omega)
      have er : q_Sh_room z p = nI (cap p) := hQ.1.2.2.2 p (by omega)
      have ew : q_Sh_worth z t p = iI (wo t p) := hQ.2 t ht p (by omega)
      unfold B_Sh_solve_L45
      simp only [hQ.1.1, c0, c1, d0, d1, d2, er, et, ew, kr, kx, if_true, if_false, nI_1]
      by_cases q1 : cap p < W t
      · rw [if_pos q1]
        refine ⟨_, rfl, x, rfl, hx, hn, fun q hq1 hq2 => ?_⟩
        by_cases e : q = p
        · subst e
          omega
        · exact hq q (by omega) hq2
      · rw [if_neg q1]
        by_cases q2 : x < wo t p
        · rw [if_pos q2]
          refine ⟨_, rfl, wo t p, rfl, wp, by omega, fun q hq1 hq2 => ?_⟩
          by_cases e : q = p
          · subst e
            exact Int.le_refl _
          · have := hq q (by omega) hq2
            omega
        · rw [if_neg q2]
          refine ⟨_, rfl, x, rfl, hx, hn, fun q hq1 hq2 => ?_⟩
          by_cases e : q = p
          · subst e
            omega
          · exact hq q (by omega) hq2)
    (by
      intro self a _
      unfold B_Sh_solve_L45
      rw [if_pos (by rw [hQ.1.1]; exact Int32.le_refl _)])
    1000 0 (iI (wo t np)) (by omega) (by omega) ⟨_, rfl, wb np (Nat.le_refl _), Int.le_refl _, fun q hq => by omega⟩
  subst g1
  refine ⟨x, g5, g2, fun p hp hw => ?_⟩
  by_cases e : p = np
  · subst e
    exact g3
  · exact g4 p (by omega) hw
theorem Sh_hopes (h4 : np ≤ 4) (h7 : nt ≤ 7) (hW : WoO np nt wo) (hW50 : ∀ t, t < nt → W t ≤ 50) (hcap : ∀ p, p ≤ np → cap p ≤ 3000) : ∀ (j m : Nat) (z : T_Sh) (hp : Nat → Int), j ≤ nt → j < m → ShQ np nt W cap wo z → q_Sh_found z = 0 → HpJ np nt W cap wo j hp → (∀ t, j ≤ t → t ≤ nt → q_Sh_hope z t = iI (hp t)) →
    ∃ z' hp', d_Sh_solve_L27 m (pI j) z = (d_Sh_deal 64 0 0 z').bind some ∧ ShQ np nt W cap wo z' ∧ q_Sh_found z' = 0 ∧ HpJ np nt W cap wo 0 hp' ∧ ∀ t, t ≤ nt → q_Sh_hope z' t = iI (hp' t)
  | j, 0, _, _, _, hm, _, _, _, _ => by omega
  | 0, m + 1, z, hp, hj, hm, hQ, hf, hH, hh => by
    refine ⟨z, hp, ?_, hQ, hf, hH, fun t ht => hh t (by omega) ht⟩
    show B_Sh_solve_L27 (d_Sh_solve_L27 m) (pI 0) z = _
    unfold B_Sh_solve_L27
    rw [if_pos (by decide : pI 0 < 0)]
  | j + 1, m + 1, z, hp, hj, hm, hQ, hf, hH, hh => by
    have eI : pI (j + 1) = nI j := rfl
    have n0 : ¬ nI j < 0 := nI_pos (by omega)
    have c0 : inb (nI j) 7 = true := inb_n (by omega) (by omega)
    have c1 : (nI j).toNatClampNeg = j := nI_clamp (by omega)
    have c2 : inb (nI np) 5 = true := inb_n (by omega) (by omega)
    have c3 : (nI np).toNatClampNeg = np := nI_clamp (by omega)
    have c4 : inb (nI (j + 1)) 8 = true := inb_n (by omega) (by omega)
    have c5 : inb (nI j) 8 = true := inb_n (by omega) (by omega)
    have c6 : (nI (j + 1)).toNatClampNeg = j + 1 := nI_clamp (by omega)
    obtain ⟨x, g1, g2, g3⟩ := Sh_top h4 h7 hW hW50 hcap hQ (show j < nt by omega) (fun x2_45 => if inb (nI j + 1) 8 = true then (if inb (nI j) 8 = true then (d_Sh_solve_L27 m (nI j + (-1)) (u_Sh_hope z (upd (q_Sh_hope z) (nI j).toNatClampNeg (((q_Sh_hope z) (nI j + 1).toNatClampNeg) + x2_45)))) else none) else none)
    have hj1 := hH.2.2 (j + 1) (Nat.le_refl _) hj
    have hH1 : HpJ np nt W cap wo j (fun t => if t = j then hp (j + 1) + x else hp t) := by
      refine ⟨?_, fun t t1 t2 p hp1 hn hw => ?_, fun t t1 t2 => ?_⟩
      · show (if nt = j then _ else hp nt) = 0
        rw [if_neg (by omega)]
        exact hH.1
      · show wo t p + (if t + 1 = j then _ else hp (t + 1)) ≤ (if t = j then hp (j + 1) + x else hp t)
        rw [if_neg (by omega)]
        by_cases e : t = j
        · subst e
          rw [if_pos rfl]
          have := g3 p hp1 hw
          omega
        · rw [if_neg e]
          exact hH.2.1 t (by omega) t2 p hp1 hn hw
      · show _ ≤ (if t = j then hp (j + 1) + x else hp t) ∧ (if t = j then hp (j + 1) + x else hp t) ≤ _
        by_cases e : t = j
        · subst e
          rw [if_pos rfl]
          omega
        · rw [if_neg e]
          exact hH.2.2 t (by omega) t2
    obtain ⟨z', hp', r1, r2⟩ := Sh_hopes h4 h7 hW hW50 hcap j m (u_Sh_hope z (upd (q_Sh_hope z) j (iI (hp (j + 1) + x)))) (fun t => if t = j then hp (j + 1) + x else hp t) (by omega) (by omega) hQ hf hH1
      (fun t t1 t2 => by
        show upd (q_Sh_hope z) j (iI (hp (j + 1) + x)) t = iI (if t = j then hp (j + 1) + x else hp t)
        unfold upd
        by_cases e : t = j
        · rw [if_pos e, if_pos e]
        · rw [if_neg e, if_neg e]
          exact hh t (by omega) t2)
    refine ⟨z', hp', ?_, r2⟩
    rw [← r1]
    show B_Sh_solve_L27 (d_Sh_solve_L27 m) (pI (j + 1)) z = _
    unfold B_Sh_solve_L27
    rw [eI, if_neg n0, if_pos c0, hQ.1.1, if_pos c2, c1, c3]
    rw [c1] at g1
    refine Eq.trans g1 ?_
    simp only [nI_1, c4, c5, c6, if_true, pI_2 (show j < 9 by omega), hh (j + 1) (Nat.le_refl _) hj, iI_add]
theorem Sh_solveL (h4 : np ≤ 4) (h7 : nt ≤ 7) (hW : WoO np nt wo) (hW50 : ∀ t, t < nt → W t ≤ 50) (hcap : ∀ p, p ≤ np → cap p ≤ 3000) {z : T_Sh} (hQ : ShQ np nt W cap wo z) (y : Nat → Nat) :
    ∃ z', d_Sh_solve z = some z' ∧ ShB np nt (eW np W cap wo nt 0 0 (fun _ => 0) y none) z' := by
  have c0 : inb (nI nt) 8 = true := inb_n (by omega) (by omega)
  have c1 : (nI nt).toNatClampNeg = nt := nI_clamp (by omega)
  have hQ1 : ShQ np nt W cap wo (u_Sh_hope (u_Sh_sum (u_Sh_found z 0) 0) (upd (q_Sh_hope (u_Sh_sum (u_Sh_found z 0) 0)) nt 0)) := hQ
  obtain ⟨z1, hp, g1, g2, g3, g4, g5⟩ := Sh_hopes h4 h7 hW hW50 hcap nt 1000 _ (fun _ => 0) (Nat.le_refl _) (by omega) hQ1 rfl ⟨rfl, fun t t1 t2 => by omega, fun t t1 t2 => by show _ ≤ (0 : Int) ∧ (0 : Int) ≤ _; omega⟩
    (fun t t1 t2 => by
      have e : t = nt := by omega
      subst e
      show upd _ t 0 t = _
      unfold upd
      rw [if_pos rfl]
      rfl)
  have hS : ShS np nt W wo hp z1 := ⟨g2.1.1, g2.1.2.1, g2.2, g2.1.2.2.1, g5⟩
  have hH : HpO np nt W cap wo hp := ⟨g4.1, fun t ht p hp1 hn hw => g4.2.1 t (by omega) ht p hp1 hn hw, fun t ht => by have := g4.2.2 t (by omega) ht; omega⟩
  obtain ⟨z', s1, s2, s3, s4⟩ := Sh_dealL (hp := hp) h4 h7 hW hH hW50 hcap nt 64 0 0 (fun _ => 0) y none z1 (by omega) (by omega) (by omega) (by omega) (fun q hq => by cases hq) hS g3 ⟨fun p hp1 => ⟨g2.1.2.2.2 p hp1, Nat.zero_le _⟩, fun j hj => by omega⟩
  refine ⟨z', ?_, s3⟩
  have s1 : d_Sh_deal 64 0 0 z1 = some z' := s1
  unfold d_Sh_solve
  show (if inb (q_Sh_things z) 8 = true then d_Sh_solve_L27 1000 (q_Sh_things z - 1) (u_Sh_hope (u_Sh_sum (u_Sh_found z 0) 0) (upd (q_Sh_hope (u_Sh_sum (u_Sh_found z 0) 0)) (q_Sh_things z).toNatClampNeg 0)) else none) = _
  rw [hQ.1.2.1, if_pos c0, c1, pI_1 (by omega), g1, s1]
  rfl
end SQ

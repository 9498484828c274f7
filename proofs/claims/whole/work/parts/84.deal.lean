/-! Who should own what: the search, and that what is cut off says nothing. -/
def iI (x : Int) : Int32 := Int32.ofInt x
theorem iI_t {x : Int} (h1 : -2000000000 ≤ x) (h2 : x ≤ 2000000000) : (iI x).toInt = x := Int32.toInt_ofInt_of_le (by omega) (by omega)
theorem iI_nat (n : Nat) : iI (n : Int) = nI n := Int32.ofInt_eq_ofNat
theorem iI_lt {x y : Int} (h1 : -2000000000 ≤ x) (h2 : x ≤ 2000000000) (h3 : -2000000000 ≤ y) (h4 : y ≤ 2000000000) : (iI x < iI y) ↔ x < y := by
  rw [Int32.lt_iff_toInt_lt, iI_t h1 h2, iI_t h3 h4]
theorem iI_eq {x y : Int} (h1 : -2000000000 ≤ x) (h2 : x ≤ 2000000000) (h3 : -2000000000 ≤ y) (h4 : y ≤ 2000000000) : (iI x = iI y) ↔ x = y := by
  rw [← Int32.toInt_inj, iI_t h1 h2, iI_t h3 h4]
theorem iI_add (x y : Int) : iI x + iI y = iI (x + y) := by
  apply Int32.toInt_inj.1
  unfold iI
  rw [Int32.toInt_add, Int32.toInt_ofInt, Int32.toInt_ofInt, Int32.toInt_ofInt]
  simp
abbrev WB : Type := Option (Int × (Nat → Nat))
def NV : Int := -1000000
def upB (b : WB) (r : Int) (y : Nat → Nat) : WB := match b with
  | none => some (r, y)
  | some q => if q.1 < r then some (r, y) else some q
/-- all ways from t on: k things are left, r is reached, u loads, y the way so far, b the best one -/
def eW (np : Nat) (W cap : Nat → Nat) (wo : Nat → Nat → Int) : Nat → Nat → Int → (Nat → Nat) → (Nat → Nat) → WB → WB
  | 0, _, r, _, y, b => upB b r y
  | k + 1, t, r, u, y, b => fo (fun p b => if ¬ wo t p = NV ∧ u p + W t ≤ cap p then eW np W cap wo k (t + 1) (r + wo t p) (upn u p (u p + W t)) (upn y t p) b else b) (np + 1) 0 b
/-- hp says at most what the things from each one on are worth -/
def HpO (np nt : Nat) (W cap : Nat → Nat) (wo : Nat → Nat → Int) (hp : Nat → Int) : Prop :=
  hp nt = 0 ∧ (∀ t, t < nt → ∀ p, p ≤ np → ¬ wo t p = NV → W t ≤ cap p → wo t p + hp (t + 1) ≤ hp t) ∧ ∀ t, t ≤ nt → -8000000 ≤ hp t ∧ hp t ≤ 8000000
def WoO (np nt : Nat) (wo : Nat → Nat → Int) : Prop := ∀ t, t < nt → ∀ p, p ≤ np → wo t p = NV ∨ (-1000 ≤ wo t p ∧ wo t p ≤ 1000)
theorem eW_pr {np nt : Nat} {W cap : Nat → Nat} {wo : Nat → Nat → Int} {hp : Nat → Int} (hH : HpO np nt W cap wo hp) : ∀ (k t : Nat) (r : Int) (u y : Nat → Nat) (q : Int × (Nat → Nat)), t + k = nt → r + hp t ≤ q.1 → eW np W cap wo k t r u y (some q) = some q
  | 0, t, r, u, y, q, ht, hq => by
    have e : t = nt := by omega
    subst e
    have h0 := hH.1
    show (if q.1 < r then some (r, y) else some q) = some q
    rw [if_neg (by omega)]
  | k + 1, t, r, u, y, q, ht, hq => by
    refine fo_inv (fun _ b => b = some q) (np + 1) 0 (some q) rfl (fun p b _ hp1 hb => ?_)
    subst hb
    by_cases c : ¬ wo t p = NV ∧ u p + W t ≤ cap p
    · rw [if_pos c]
      have h1 := hH.2.1 t (by omega) p (by omega) c.1 (by omega)
      exact eW_pr hH k (t + 1) _ _ _ q (by omega) (by omega)
    · rw [if_neg c]
def BO (b : WB) : Prop := ∀ q, b = some q → -8000 ≤ q.1 ∧ q.1 ≤ 8000
theorem eW_BO {np nt : Nat} {W cap : Nat → Nat} {wo : Nat → Nat → Int} (hW : WoO np nt wo) (h7 : nt ≤ 7) : ∀ (k t : Nat) (r : Int) (u y : Nat → Nat) (b : WB), t + k = nt → -1000 * (t : Int) ≤ r → r ≤ 1000 * (t : Int) → BO b → BO (eW np W cap wo k t r u y b)
  | 0, t, r, u, y, b, ht, h1, h2, hb => by
    intro q hq
    unfold eW upB at hq
    cases b with
    | none =>
      simp only [Option.some.injEq] at hq
      subst hq
      show -8000 ≤ r ∧ r ≤ 8000
      omega
    | some q' =>
      simp only at hq
      split at hq
      · simp only [Option.some.injEq] at hq
        subst hq
        show -8000 ≤ r ∧ r ≤ 8000
        omega
      · exact hb q hq
  | k + 1, t, r, u, y, b, ht, h1, h2, hb => by
    refine fo_inv (fun _ b => BO b) (np + 1) 0 b hb (fun p b' _ hp1 hb' => ?_)
    by_cases c : ¬ wo t p = NV ∧ u p + W t ≤ cap p
    · rw [if_pos c]
      rcases hW t (by omega) p (by omega) with q | ⟨q1, q2⟩
      · exact absurd q c.1
      · exact eW_BO hW h7 k (t + 1) _ _ _ b' (by omega) (by omega) (by omega) hb'
    · rw [if_neg c]
      exact hb'
/-- whose, in the class: behind the last one of the people nobody -/
def wC (np x : Nat) : Int32 := if x < np then nI x else (-5)
def ShS (np nt : Nat) (W : Nat → Nat) (wo : Nat → Nat → Int) (hp : Nat → Int) (z : T_Sh) : Prop :=
  q_Sh_people z = nI np ∧ q_Sh_things z = nI nt ∧ (∀ t, t < nt → ∀ p, p ≤ np → q_Sh_worth z t p = iI (wo t p)) ∧ (∀ t, t < nt → q_Sh_weight z t = nI (W t)) ∧ (∀ t, t ≤ nt → q_Sh_hope z t = iI (hp t))
def ShB (np nt : Nat) (b : WB) (z : T_Sh) : Prop := match b with
  | none => q_Sh_found z = 0
  | some q => q_Sh_found z = 1 ∧ q_Sh_sum z = iI q.1 ∧ ∀ t, t < nt → q_Sh_owner z t = wC np (q.2 t)
def ShD (np : Nat) (cap : Nat → Nat) (t : Nat) (u y : Nat → Nat) (z : T_Sh) : Prop :=
  (∀ p, p ≤ np → q_Sh_room z p = nI (cap p - u p) ∧ u p ≤ cap p) ∧ ∀ j, j < t → q_Sh_trial z j = wC np (y j)
section SD
variable {np nt : Nat} {W cap : Nat → Nat} {wo : Nat → Nat → Int} {hp : Nat → Int}
/-- a leaf taken -/
theorem Sh_leaf {z : T_Sh} {u y : Nat → Nat} {r : Int} (h7 : nt ≤ 7) (hS : ShS np nt W wo hp z) (hD : ShD np cap nt u y z) :
    ∃ z', some (u_Sh_owner (u_Sh_sum (u_Sh_found z 1) (iI r)) (va_cpy (q_Sh_trial (u_Sh_sum (u_Sh_found z 1) (iI r))) (q_Sh_owner (u_Sh_sum (u_Sh_found z 1) (iI r))) 0 0 7)) = some z' ∧ ShS np nt W wo hp z' ∧ ShB np nt (some (r, y)) z' ∧ ShD np cap nt u y z' :=
  ⟨_, rfl, hS, ⟨rfl, rfl, fun t ht => (cpy0 (by omega)).trans (hD.2 t ht)⟩, hD⟩
theorem Sh_dealL (h4 : np ≤ 4) (h7 : nt ≤ 7) (hW : WoO np nt wo) (hH : HpO np nt W cap wo hp) (hW50 : ∀ t, t < nt → W t ≤ 50) (hcap : ∀ p, p ≤ np → cap p ≤ 3000) : ∀ (k n t : Nat) (r : Int) (u y : Nat → Nat) (b : WB) (z : T_Sh), t + k = nt → k < n → -1000 * (t : Int) ≤ r → r ≤ 1000 * (t : Int) → BO b → ShS np nt W wo hp z → ShB np nt b z → ShD np cap t u y z →
    ∃ z', d_Sh_deal n (nI t) (iI r) z = some z' ∧ ShS np nt W wo hp z' ∧ ShB np nt (eW np W cap wo k t r u y b) z' ∧ ShD np cap t u y z'
  | k, 0, _, _, _, _, _, _, _, hn, _, _, _, _, _, _ => by omega
  | 0, n + 1, t, r, u, y, b, z, ht, hn, r1, r2, hb, hS, hB, hD => by
    have hE : d_Sh_deal (n + 1) (nI t) (iI r) z = B_Sh_deal (d_Sh_deal n) (nI t) (iI r) z := rfl
    have e : t = nt := by omega
    subst e
    have e1 : ¬ nI t < q_Sh_things z := by rw [hS.2.1]; exact nI_nlt (by omega) (by omega)
    rw [hE]
    unfold B_Sh_deal eW upB
    cases b with
    | none =>
      have hB : q_Sh_found z = 0 := hB
      rw [if_pos hB, if_neg e1]
      exact Sh_leaf h7 hS hD
    | some q =>
      have hB : q_Sh_found z = 1 ∧ q_Sh_sum z = iI q.1 ∧ ∀ t', t' < t → q_Sh_owner z t' = wC np (q.2 t') := hB
      have hq := hb q rfl
      have hh := hH.2.2 t (Nat.le_refl _)
      have n0 : ¬ q_Sh_found z = 0 := by rw [hB.1]; decide
      have e3 : (nI t).toNatClampNeg = t := nI_clamp (by omega)
      have k1 : (iI q.1 < iI (r + hp t)) ↔ q.1 < r + hp t := iI_lt (by omega) (by omega) (by omega) (by omega)
      rw [if_neg n0, if_pos (inb_n (show t < 8 by omega) (by omega)), e3, hS.2.2.2.2 t (Nat.le_refl _), hB.2.1, iI_add]
      have h0 := hH.1
      by_cases c : q.1 < r
      · rw [if_pos (k1.mpr (by omega)), if_neg e1]
        show ∃ z', _ ∧ _ ∧ ShB np t (if q.1 < r then some (r, y) else some q) z' ∧ _
        rw [if_pos c]
        exact Sh_leaf h7 hS hD
      · rw [if_neg (fun y => c (by have := k1.mp y; omega))]
        show ∃ z', _ ∧ _ ∧ ShB np t (if q.1 < r then some (r, y) else some q) z' ∧ _
        rw [if_neg c]
        exact ⟨z, rfl, hS, hB, hD⟩
  | k + 1, n + 1, t, r, u, y, b, z, ht, hn, r1, r2, hb, hS, hB, hD => by
    have hE : d_Sh_deal (n + 1) (nI t) (iI r) z = B_Sh_deal (d_Sh_deal n) (nI t) (iI r) z := rfl
    have e1 : nI t < q_Sh_things z := by rw [hS.2.1]; exact nI_lt (by omega) (by omega)
    have e2 : inb (nI t) 7 = true := inb_n (by omega) (by omega)
    have e3 : (nI t).toNatClampNeg = t := nI_clamp (by omega)
    have wt := hW50 t (by omega)
    -- the loop over the people
    have loop : ∃ z', d_Sh_deal_L59 (d_Sh_deal n) (nI t) (iI r) 1000 0 z = some z' ∧ ShS np nt W wo hp z' ∧ ShB np nt (eW np W cap wo (k + 1) t r u y b) z' ∧ ShD np cap t u y z' := by
      obtain ⟨z', ⟨g1, g2, g3, -⟩, g4⟩ := lpIx (z := fun _ _ => none) (B := fun self => B_Sh_deal_L59 (d_Sh_deal n) (nI t) (iI r) self) (n := np + 1) some (fun p a => ShS np nt W wo hp a ∧ ShB np nt (fo (fun p b => if ¬ wo t p = NV ∧ u p + W t ≤ cap p then eW np W cap wo k (t + 1) (r + wo t p) (upn u p (u p + W t)) (upn y t p) b else b) p 0 b) a ∧ ShD np cap t u y a ∧ BO (fo (fun p b => if ¬ wo t p = NV ∧ u p + W t ≤ cap p then eW np W cap wo k (t + 1) (r + wo t p) (upn u p (u p + W t)) (upn y t p) b else b) p 0 b))
        (by
          intro self p a hp1 ⟨aS, aB, aD, aO⟩
          rw [fo_last, Nat.zero_add]
          generalize fo (fun p b => if ¬ wo t p = NV ∧ u p + W t ≤ cap p then eW np W cap wo k (t + 1) (r + wo t p) (upn u p (u p + W t)) (upn y t p) b else b) p 0 b = b' at *
          have d1 : ¬ nI np < nI p := nI_nlt (by omega) (by omega)
          have d2 : inb (nI p) 5 = true := inb_n (by omega) (by omega)
          have d3 : (nI p).toNatClampNeg = p := nI_clamp (by omega)
          have ew : q_Sh_worth a t p = iI (wo t p) := aS.2.2.1 t (by omega) p (by omega)
          have er := (aD.1 p (by omega))
          have et : q_Sh_weight a t = nI (W t) := aS.2.2.2.1 t (by omega)
          have hw := hW t (by omega) p (by omega)
          have hc := hcap p (by omega)
          have kn : (iI (wo t p) = -1000000) ↔ wo t p = NV := by
            have : (iI (wo t p) = iI NV) ↔ wo t p = NV := by
              unfold NV at hw ⊢
              exact iI_eq (by omega) (by omega) (by omega) (by omega)
            exact this
          have kr : (nI (cap p - u p) < nI (W t)) ↔ cap p - u p < W t := nI_ltI (by omega) (by omega)
          have kp : (nI np ≤ nI p) ↔ np ≤ p := nI_leI (by omega) (by omega)
          unfold B_Sh_deal_L59
          simp only [d1, d2, d3, e2, e3, ew, er.1, et, kn, kr, aS.1, kp, if_true, if_false, nI_1]
          by_cases c1 : wo t p = NV
          · rw [if_pos c1, if_neg (show ¬ (¬ wo t p = NV ∧ u p + W t ≤ cap p) from fun y => y.1 c1)]
            exact ⟨a, rfl, aS, aB, aD, aO⟩
          rw [if_neg c1]
          by_cases c2 : cap p - u p < W t
          · rw [if_pos c2, if_neg (show ¬ (¬ wo t p = NV ∧ u p + W t ≤ cap p) from fun y => by have := y.2; omega)]
            exact ⟨a, rfl, aS, aB, aD, aO⟩
          rw [if_neg c2, if_pos (show ¬ wo t p = NV ∧ u p + W t ≤ cap p from ⟨c1, by omega⟩)]
          have hw2 : -1000 ≤ wo t p ∧ wo t p ≤ 1000 := by
            rcases hw with q | q
            · exact absurd q c1
            · exact q
          have aS1 : ShS np nt W wo hp (u_Sh_room (u_Sh_trial a (upd (q_Sh_trial a) t (wC np p))) (upd (q_Sh_room a) p (nI (cap p - u p - W t)))) := aS
          have aB1 : ShB np nt b' (u_Sh_room (u_Sh_trial a (upd (q_Sh_trial a) t (wC np p))) (upd (q_Sh_room a) p (nI (cap p - u p - W t)))) := by
            cases b' with
            | none => exact aB
            | some q => exact aB
          have aD1 : ShD np cap (t + 1) (upn u p (u p + W t)) (upn y t p) (u_Sh_room (u_Sh_trial a (upd (q_Sh_trial a) t (wC np p))) (upd (q_Sh_room a) p (nI (cap p - u p - W t)))) := by
            refine ⟨fun q hq => ?_, fun j hj => ?_⟩
            · show upd (q_Sh_room a) p (nI (cap p - u p - W t)) q = _ ∧ _
              unfold upn upd
              by_cases e : q = p
              · subst e
                rw [if_pos rfl, if_pos rfl]
                exact ⟨by rw [Nat.sub_sub], by omega⟩
              · rw [if_neg e, if_neg e]
                exact aD.1 q hq
            · show upd (q_Sh_trial a) t (wC np p) j = _
              unfold upn upd
              by_cases e : j = t
              · rw [if_pos e, if_pos e]
              · rw [if_neg e, if_neg e]
                exact aD.2 j (by omega)
          obtain ⟨z2, s1, s2, s3, s4⟩ := Sh_dealL h4 h7 hW hH hW50 hcap k n (t + 1) (r + wo t p) (upn u p (u p + W t)) (upn y t p) b' _ (by omega) (by omega) (by omega) (by omega) aO aS1 aB1 aD1
          have f1 : q_Sh_room z2 p = nI (cap p - (u p + W t)) := by
            have := (s4.1 p (by omega)).1
            unfold upn at this
            rw [if_pos rfl] at this
            exact this
          have f2 : q_Sh_weight z2 t = nI (W t) := s2.2.2.2.1 t (by omega)
          have f3 : q_Sh_room z2 p + q_Sh_weight z2 t = nI (cap p - u p) := by rw [f1, f2, nI_add, show cap p - (u p + W t) + W t = cap p - u p by omega]
          have key : ∀ x, x = wC np p → (d_Sh_deal n (nI (t + 1)) (iI r + q_Sh_worth a t p) (u_Sh_room (u_Sh_trial a (upd (q_Sh_trial a) t x)) (upd (q_Sh_room a) p (q_Sh_room a p - q_Sh_weight a t)))) = some z2 := fun x hx => by
            rw [hx, ew, iI_add, er.1, et, pk_sub (by omega)]
            exact s1
          refine ⟨u_Sh_room z2 (upd (q_Sh_room z2) p (nI (cap p - u p))), ?_, s2, ?_, ?_, eW_BO hW h7 k (t + 1) _ _ _ b' (by omega) (by omega) (by omega) aO⟩
          · by_cases c3 : np ≤ p
            · rw [if_pos c3]
              have hk := key (-5) (by unfold wC; rw [if_neg (by omega)])
              refine Eq.trans (congrArg (fun o => Option.bind o _) hk) ?_
              show self (nI (p + 1)) (u_Sh_room z2 (upd (q_Sh_room z2) p (q_Sh_room z2 p + q_Sh_weight z2 t))) = _
              rw [f3]
            · rw [if_neg c3]
              have hk := key (nI p) (by unfold wC; rw [if_pos (by omega)])
              refine Eq.trans (congrArg (fun o => Option.bind o _) hk) ?_
              show self (nI (p + 1)) (u_Sh_room z2 (upd (q_Sh_room z2) p (q_Sh_room z2 p + q_Sh_weight z2 t))) = _
              rw [f3]
          · generalize eW np W cap wo k (t + 1) (r + wo t p) (upn u p (u p + W t)) (upn y t p) b' = b2 at *
            cases b2 with
            | none => exact s3
            | some q => exact s3
          · refine ⟨fun q hq => ?_, fun j hj => ?_⟩
            · show upd (q_Sh_room z2) p (nI (cap p - u p)) q = _ ∧ _
              have := s4.1 q hq
              unfold upn at this
              unfold upd
              by_cases e : q = p
              · subst e
                rw [if_pos rfl]
                exact ⟨rfl, er.2⟩
              · rw [if_neg e]
                rw [if_neg e] at this
                exact this
            · have := s4.2 j (by omega)
              unfold upn at this
              rw [if_neg (by omega)] at this
              exact this)
        (by
          intro self a ⟨aS, _⟩
          have d1 : q_Sh_people a < nI (np + 1) := by rw [aS.1]; exact nI_lt (by omega) (by omega)
          unfold B_Sh_deal_L59
          rw [if_pos d1])
        1000 0 z (by omega) (by omega) ⟨hS, hB, hD, hb⟩
      exact ⟨z', g4, g1, g2, g3⟩
    rw [hE]
    unfold B_Sh_deal
    cases b with
    | none =>
      have hB : q_Sh_found z = 0 := hB
      rw [if_pos hB, if_pos e1]
      exact loop
    | some q =>
      have hB : q_Sh_found z = 1 ∧ q_Sh_sum z = iI q.1 ∧ ∀ t', t' < nt → q_Sh_owner z t' = wC np (q.2 t') := hB
      have hq := hb q rfl
      have hh := hH.2.2 t (by omega)
      have n0 : ¬ q_Sh_found z = 0 := by rw [hB.1]; decide
      have k1 : (iI q.1 < iI (r + hp t)) ↔ q.1 < r + hp t := iI_lt (by omega) (by omega) (by omega) (by omega)
      rw [if_neg n0, if_pos (inb_n (show t < 8 by omega) (by omega)), e3, hS.2.2.2.2 t (by omega), hB.2.1, iI_add]
      by_cases c : q.1 < r + hp t
      · rw [if_pos (k1.mpr c), if_pos e1]
        exact loop
      · rw [if_neg (fun y => c (k1.mp y)), eW_pr hH (k + 1) t r u y q ht (by omega)]
        exact ⟨z, rfl, hS, hB, hD⟩
end SD

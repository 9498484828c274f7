/-! had, fair, gives: sets of things. -/
theorem lpA2 {β ρ : Type} {z : Int32 → Int32 → Int32 → Option ρ} {B : (Int32 → Int32 → Int32 → Option ρ) → Int32 → Int32 → Int32 → Option ρ} {n : Nat} (e1 e2 : β → Int32) (f : Nat → β → β) (k : β → Option ρ) (P : Nat → β → Prop)
    (hs : ∀ self t b, t < n → P t b → B self (e1 b) (e2 b) (nI t) = self (e1 (f t b)) (e2 (f t b)) (nI (t + 1)) ∧ P (t + 1) (f t b)) (he : ∀ self b, P n b → B self (e1 b) (e2 b) (nI n) = k b) :
    ∀ (m t : Nat) (b : β), t ≤ n → n < m + t → P t b → recN z B m (e1 b) (e2 b) (nI t) = k (fo f (n - t) t b)
  | 0, t, a, h1, h2, _ => absurd h2 (by omega)
  | m + 1, t, a, h1, h2, hP => by
    show B (recN z B m) (e1 a) (e2 a) (nI t) = _
    by_cases h : t < n
    · obtain ⟨q, hP'⟩ := hs (recN z B m) t a h hP
      rw [q, lpA2 e1 e2 f k P hs he m (t + 1) (f t a) (by omega) (by omega) hP', show n - t = (n - (t + 1)) + 1 by omega]
      rfl
    · have q : t = n := by omega
      subst q
      rw [he _ a hP, Nat.sub_self]
      rfl
/-- how many sets serve, and the first -/
def cfS (c : Nat → Bool) (S : Nat) (a : Nat × Option Nat) : Nat × Option Nat := if c S = true then (a.1 + 1, a.2.or (some S)) else a
def cfA (c : Nat → Bool) (n : Nat) : Nat × Option Nat := fo (cfS c) n 0 (0, none)
theorem cf_fi (c : Nat → Bool) : ∀ (k S : Nat) (a : Nat × Option Nat), (fo (cfS c) k S a).2 = a.2.or (fi (fun S => if c S = true then some S else none) none k S)
  | 0, S, a => by
    show a.2 = a.2.or none
    rw [Option.or_none]
  | k + 1, S, a => by
    show (fo (cfS c) k (S + 1) (cfS c S a)).2 = a.2.or ((if c S = true then some S else none).or (fi (fun S => if c S = true then some S else none) none k (S + 1)))
    rw [cf_fi c k (S + 1)]
    unfold cfS
    by_cases q : c S = true
    · rw [if_pos q, if_pos q, Option.or_assoc]
    · rw [if_neg q, if_neg q, Option.none_or]
theorem cf_ext (c : Nat → Bool) (n : Nat) : ∀ (k : Nat), (∀ S, n ≤ S → S < n + k → c S = false) → cfA c (n + k) = cfA c n
  | 0, _ => rfl
  | k + 1, h => by
    unfold cfA
    rw [show n + (k + 1) = (n + k) + 1 by omega, fo_last, Nat.zero_add]
    have ih := cf_ext c n k (fun S a b => h S a (by omega))
    unfold cfA at ih
    rw [ih]
    unfold cfS
    rw [h (n + k) (by omega) (by omega)]
    simp
theorem cfA_first (c : Nat → Bool) (n : Nat) : fi (fun S => (if c S = true then some S else none).map nI) (some (-5)) n 0 = some (lk5 (cfA c n).2) := by
  rw [fi_map]
  have h := cf_fi c n 0 (0, none)
  rw [Option.none_or] at h
  unfold cfA
  rw [h]
  cases fi (fun S => if c S = true then some S else none) none n 0 <;> rfl
theorem cf_inv (c : Nat → Bool) (S : Nat) (a : Nat × Option Nat) (h : a.2 = none ↔ a.1 = 0) : (cfS c S a).2 = none ↔ (cfS c S a).1 = 0 := by
  unfold cfS
  by_cases q : c S = true
  · rw [if_pos q]
    cases ha : a.2 with
    | none => simp
    | some y => simp
  · rw [if_neg q]; exact h
theorem pow_128 {nt : Nat} (h : nt ≤ 7) : 2 ^ nt ≤ 128 := Nat.le_trans (Nat.pow_le_pow_right (by omega) h) (by decide)
section HA
variable {z : T_St} {w : T_Mo} {np nt : Nat} {W O : Nat → Nat} {K : Nat → Nat → Nat} {L : Nat → Nat}
def hdC (W : Nat → Nat) (nt x S : Nat) : Bool := decide (nS W (fun t => S.testBit t) nt = x)
theorem nS_350 (r : RG np nt W O K L) (c : Nat → Bool) : nS W c nt ≤ 350 := by
  have h := nS_le (c := c) nt r.2.2.1
  have h2 : nt * 50 ≤ 7 * 50 := Nat.mul_le_mul_right 50 r.2.1
  omega
theorem nS_7000 (r : RG np nt W O K L) {p : Nat} (hp : p < np) (c : Nat → Bool) : nS (K p) c nt ≤ 7000 := by
  have h := nS_le (f := K p) (c := c) (M := 1000) nt (fun t ht => (r.2.2.2.2.1 p t hp ht).2)
  have h2 : nt * 1000 ≤ 7 * 1000 := Nat.mul_le_mul_right 1000 r.2.1
  omega
theorem Se_weighingNumber (h : SW z np nt W O K L) (r : RG np nt W O K L) {x : Nat} (hx : x ≤ 400) : d_Se_weighingNumber (nI x) z = some (nI (cfA (hdC W nt x) (2 ^ nt)).1) := by
  have h7 := r.2.1
  have h128 := pow_128 h7
  unfold d_Se_weighingNumber
  have h1 := lpSe (z := fun _ _ => none) (B := fun self => B_Se_weighingNumber_L4 (nI x) z self) (n := 2 ^ nt) (fun a : Nat × Option Nat => nI a.1) (cfS (hdC W nt x)) (fun a => some (nI a.1)) (fun _ _ => True)
    (by
      intro self S a hS _
      have e1 : ¬ nI (2 ^ nt) ≤ nI S := nI_ge hS (by omega)
      have hb := nS_350 r (fun t => S.testBit t)
      have k : (nI (nS W (fun t => S.testBit t) nt) = nI x) ↔ nS W (fun t => S.testBit t) nt = x := nI_eq (by omega) (by omega)
      refine ⟨?_, trivial⟩
      unfold B_Se_weighingNumber_L4 cfS hdC
      rw [h.2.1, ow_two (by omega), if_neg e1, St_weightOfSet h r S]
      simp only [Option.bind_some, k, nI_1, decide_eq_true_eq]
      split <;> rfl)
    (by
      intro self a _
      unfold B_Se_weighingNumber_L4
      rw [h.2.1, ow_two (by omega), if_pos (Int32.le_refl _)])
    1000 0 (0, none) (Nat.zero_le _) (by omega) trivial
  exact h1
theorem Se_weighingLeast (h : SW z np nt W O K L) (r : RG np nt W O K L) {x : Nat} (hx : x ≤ 400) : d_Se_weighingLeast (nI x) z = some (lk5 (cfA (hdC W nt x) (2 ^ nt)).2) := by
  have h7 := r.2.1
  have h128 := pow_128 h7
  unfold d_Se_weighingLeast
  have h1 := lpE (z := fun _ => none) (B := fun self => B_Se_weighingLeast_L2 (nI x) z self) (n := 2 ^ nt) (fun S => (if hdC W nt x S = true then some S else none).map nI) (some (-5))
    (by
      intro self S hS
      have e1 : ¬ nI (2 ^ nt) ≤ nI S := nI_ge hS (by omega)
      have hb := nS_350 r (fun t => S.testBit t)
      have k : (nI (nS W (fun t => S.testBit t) nt) = nI x) ↔ nS W (fun t => S.testBit t) nt = x := nI_eq (by omega) (by omega)
      unfold B_Se_weighingLeast_L2 hdC
      rw [h.2.1, ow_two (by omega), if_neg e1, St_weightOfSet h r S]
      simp only [Option.bind_some, k, nI_1, decide_eq_true_eq]
      split <;> rfl)
    (by
      intro self
      unfold B_Se_weighingLeast_L2
      rw [h.2.1, ow_two (by omega), if_pos (Int32.le_refl _)])
    1000 0 (Nat.zero_le _) (by omega)
  exact Eq.trans h1 (cfA_first _ _)
theorem Mo_hadL (h : MT (q_Mo_s w) nt W O) (r : RG np nt W O K L) {x : Nat} (hx : x ≤ 400) (x2 : Int32) (k : Int32 → Int32 → Option Int32) : d_Mo_had_L34 (nI x) x2 w k 1000 0 (-5) 0 = k (nI (cfA (hdC W nt x) (2 ^ nt)).1) (lk5 (cfA (hdC W nt x) (2 ^ nt)).2) := by
  have h7 := r.2.1
  have h128 := pow_128 h7
  exact lpA2 (z := fun _ _ _ => none) (B := fun self => B_Mo_had_L34 (nI x) x2 w k self) (n := 2 ^ nt) (fun a : Nat × Option Nat => nI a.1) (fun a => lk5 a.2) (cfS (hdC W nt x)) (fun a => k (nI a.1) (lk5 a.2)) (fun S a => (a.2 = none ↔ a.1 = 0) ∧ a.1 ≤ S)
    (by
      intro self S a hS ⟨hP, hP2⟩
      have e1 : ¬ nI (2 ^ nt) ≤ nI S := nI_ge hS (by omega)
      have hb := nS_350 r (fun t => S.testBit t)
      have k1 : (nI (nS W (fun t => S.testBit t) nt) = nI x) ↔ nS W (fun t => S.testBit t) nt = x := nI_eq (by omega) (by omega)
      have k0 : (nI a.1 = 0) ↔ a.1 = 0 := nI_eq (b := 0) (by omega) (by omega)
      refine ⟨?_, cf_inv _ S a hP, ?_⟩
      · unfold B_Mo_had_L34 cfS hdC
        rw [h.1, ow_two (by omega), if_neg e1, Mo_weightsOf h h7 S]
        simp only [Option.bind_some, k1, k0, nI_1, decide_eq_true_eq]
        by_cases q : nS W (fun t => S.testBit t) nt = x
        · rw [if_pos q, if_pos q]
          by_cases q0 : a.1 = 0
          · rw [if_pos q0, hP.mpr q0]
            rfl
          · rw [if_neg q0]
            cases ha : a.2 with
            | none => exact absurd (hP.mp ha) q0
            | some y => rfl
        · rw [if_neg q, if_neg q]
      · unfold cfS
        split
        · show a.1 + 1 ≤ S + 1; omega
        · omega)
    (by
      intro self a _
      unfold B_Mo_had_L34
      rw [h.1, ow_two (by omega), if_pos (Int32.le_refl _)])
    1000 0 (0, none) (Nat.zero_le _) (by omega) ⟨by simp, by simp⟩
end HA
theorem s_had : S_had Rl := by
  intro z w x x2 h
  obtain ⟨⟨cl, hR⟩, -⟩ := id h
  unfold d_OL_had d_Mo_had
  rw [within_in, within_in]
  rcases in_cases x2 1 with h3 | ⟨h3, -, -⟩
  · rw [h3]
    exact ⟨_, z, w, rfl, rfl, h, rfl⟩
  rw [h3]
  have z9 : ¬ (1 : Int32) = 0 := by decide
  simp only [Option.bind_some, z9, if_false]
  rcases in_cases x 400 with h4 | ⟨h4, n0, n1⟩
  · rw [h4]
    exact ⟨_, z, w, rfl, rfl, h, rfl⟩
  rw [h4]
  simp only [Option.bind_some, z9, if_false]
  obtain ⟨j, hj, ej⟩ := nI_of2 (M := 400) (n := 400) (by decide) n0 (Int32.not_lt.mp n1)
  subst ej
  obtain ⟨z1, F, w1, y1, -, hT, hS, -⟩ := ask2 hR
  rw [y1]
  simp only [Option.bind_some]
  have g1 : d_Se_weighingNumber (nI j) (q_OL_standing (u_OL_now (u_OL_standing z z1) (u_Re_facts (q_OL_now z) F))) = _ := Se_weighingNumber hS hR.RG hj
  have g2 : d_Se_weighingLeast (nI j) (q_OL_standing (u_OL_now (u_OL_standing z z1) (u_Re_facts (q_OL_now z) F))) = _ := Se_weighingLeast hS hR.RG hj
  rw [Mo_hadL (MT_of hR.rg) hR.RG hj]
  have fin : Rl (u_OL_now (u_OL_standing z z1) (u_Re_facts (q_OL_now z) F)) w := Rl.set (cl := cl) h hR rfl rfl rfl FrM.rf
  by_cases q : x2 = 0
  · rw [if_pos q, if_pos q, g1]
    exact ⟨_, _, w, rfl, rfl, fin, rfl⟩
  · rw [if_neg q, if_neg q, g2]
    exact ⟨_, _, w, rfl, rfl, fin, rfl⟩
/-! fair -/
theorem nWo_sub {S b : Nat} (hS : S < 128) (h : nWo S b = 0) : ∀ i, S.testBit i = true → b.testBit i = true := fun i hi => by
  have h1 := nWo_bit (b := b) (i := i) hS
  rw [h, Nat.zero_testBit, hi] at h1
  simpa using h1.symm
theorem nWo_le {S b : Nat} (hS : S < 128) (h : nWo S b = 0) : S ≤ b := by
  have h1 : S &&& b = S := by
    apply Nat.eq_of_testBit_eq
    intro i
    rw [Nat.testBit_and]
    have := nWo_sub hS h i
    cases hi : S.testBit i with
    | false => rfl
    | true => rw [this hi]; rfl
  rw [← h1]
  exact Nat.and_le_right
/-- does a parting serve -/
def faC (W : Nat → Nat) (K : Nat → Nat → Nat) (L : Nat → Nat) (nt p q b S : Nat) : Bool :=
  decide (nWo S b = 0) && (decide (nS W (fun t => S.testBit t) nt ≤ L p) && (decide (nS W (fun t => (nWo b S).testBit t) nt ≤ L q) && (decide (nS (K p) (fun t => (nWo b S).testBit t) nt ≤ nS (K p) (fun t => S.testBit t) nt) && decide (nS (K q) (fun t => S.testBit t) nt ≤ nS (K q) (fun t => (nWo b S).testBit t) nt))))
section FA
variable {z : T_St} {w : T_Mo} {np nt : Nat} {W O : Nat → Nat} {K : Nat → Nat → Nat} {L : Nat → Nat}
theorem Se_partsFairly (h : SW z np nt W O K L) (r : RG np nt W O K L) {p q : Nat} (hp : p < np) (hq : q < np) {S : Nat} (hw : nWo S (nBt O nt p ||| nBt O nt q) = 0) : d_Se_partsFairly (nI p) (nI q) (nI S) z = some (bI (faC W K L nt p q (nBt O nt p ||| nBt O nt q) S)) := by
  have h4 := r.1
  have h7 := r.2.1
  have e1 : inb (nI p) 4 = true := inb_n (by omega) (by omega)
  have e2 : inb (nI q) 4 = true := inb_n (by omega) (by omega)
  have c1 : (nI p).toNatClampNeg = p := nI_clamp (by omega)
  have c2 : (nI q).toNatClampNeg = q := nI_clamp (by omega)
  have hb : nBt O nt p ||| nBt O nt q < 128 := Nat.or_lt_two_pow (n := 7) (nBt_lt h7) (nBt_lt h7)
  unfold d_Se_partsFairly
  rw [St_bits h r (show p < 4 by omega), Option.bind_some, St_bits h r (show q < 4 by omega), Option.bind_some, St_weightOfSet h r, Option.bind_some, ow_or, ow_wo _ hb]
  generalize nBt O nt p ||| nBt O nt q = b at *
  have b1 := nS_350 r (fun t => S.testBit t)
  have b2 := nS_350 r (fun t => (nWo b S).testBit t)
  have b3 := nS_7000 r hp (fun t => S.testBit t)
  have b4 := nS_7000 r hp (fun t => (nWo b S).testBit t)
  have b5 := nS_7000 r hq (fun t => S.testBit t)
  have b6 := nS_7000 r hq (fun t => (nWo b S).testBit t)
  have l1 := r.2.2.2.2.2 p hp
  have l2 := r.2.2.2.2.2 q hq
  rw [St_weightOfSet h r, St_likeOfSet h r hp, St_likeOfSet h r hp, St_likeOfSet h r hq, St_likeOfSet h r hq, if_pos e1, c1, c2, h.2.2.2.2.2 p hp, h.2.2.2.2.2 q hq]
  simp only [Option.bind_some, e2, if_true, nI_ltI (show L p < 2 ^ 31 by omega) (show nS W (fun t => S.testBit t) nt < 2 ^ 31 by omega), nI_ltI (show L q < 2 ^ 31 by omega) (show nS W (fun t => (nWo b S).testBit t) nt < 2 ^ 31 by omega),
    nI_ltI (show nS (K p) (fun t => S.testBit t) nt < 2 ^ 31 by omega) (show nS (K p) (fun t => (nWo b S).testBit t) nt < 2 ^ 31 by omega), nI_ltI (show nS (K q) (fun t => (nWo b S).testBit t) nt < 2 ^ 31 by omega) (show nS (K q) (fun t => S.testBit t) nt < 2 ^ 31 by omega)]
  unfold faC
  by_cases q1 : L p < nS W (fun t => S.testBit t) nt
  · have r1 : ¬ nS W (fun t => S.testBit t) nt ≤ L p := by omega
    simp [q1, r1, bI]
  have r1 : nS W (fun t => S.testBit t) nt ≤ L p := by omega
  by_cases q2 : L q < nS W (fun t => (nWo b S).testBit t) nt
  · have r2 : ¬ nS W (fun t => (nWo b S).testBit t) nt ≤ L q := by omega
    simp [q1, q2, r2, bI]
  have r2 : nS W (fun t => (nWo b S).testBit t) nt ≤ L q := by omega
  by_cases q3 : nS (K p) (fun t => S.testBit t) nt < nS (K p) (fun t => (nWo b S).testBit t) nt
  · have r3 : ¬ nS (K p) (fun t => (nWo b S).testBit t) nt ≤ nS (K p) (fun t => S.testBit t) nt := by omega
    simp [q1, q2, q3, r3, bI]
  have r3 : nS (K p) (fun t => (nWo b S).testBit t) nt ≤ nS (K p) (fun t => S.testBit t) nt := by omega
  by_cases q4 : nS (K q) (fun t => (nWo b S).testBit t) nt < nS (K q) (fun t => S.testBit t) nt
  · have r4 : ¬ nS (K q) (fun t => S.testBit t) nt ≤ nS (K q) (fun t => (nWo b S).testBit t) nt := by omega
    simp [q1, q2, q3, q4, r4, bI]
  have r4 : nS (K q) (fun t => S.testBit t) nt ≤ nS (K q) (fun t => (nWo b S).testBit t) nt := by omega
  simp [q1, q2, q3, q4, r1, r2, r3, r4, hw, bI]
theorem faC_no {p q b S : Nat} (h : ¬ nWo S b = 0) : faC W K L nt p q b S = false := by
  unfold faC
  simp [h]
theorem fa_ext (h7 : nt ≤ 7) {p q b : Nat} (hb : b < 2 ^ nt) : cfA (faC W K L nt p q b) (2 ^ nt) = cfA (faC W K L nt p q b) (b + 1) := by
  have h128 := pow_128 h7
  have h := cf_ext (faC W K L nt p q b) (b + 1) (2 ^ nt - (b + 1)) (fun S h1 h2 => faC_no (fun y => by
    have := nWo_le (S := S) (b := b) (by omega) y
    omega))
  rw [show b + 1 + (2 ^ nt - (b + 1)) = 2 ^ nt by omega] at h
  exact h
theorem nBt_pow (O : Nat → Nat) (nt p : Nat) : nBt O nt p < 2 ^ nt := nB_lt _ nt
theorem Se_fairNumber (h : SW z np nt W O K L) (r : RG np nt W O K L) {p q : Nat} (hp : p < np) (hq : q < np) : d_Se_fairNumber (nI p) (nI q) z = some (nI (cfA (faC W K L nt p q (nBt O nt p ||| nBt O nt q)) (2 ^ nt)).1) := by
  have h4 := r.1
  have h7 := r.2.1
  have h128 := pow_128 h7
  have hb : nBt O nt p ||| nBt O nt q < 2 ^ nt := Nat.or_lt_two_pow (nBt_pow O nt p) (nBt_pow O nt q)
  rw [fa_ext h7 hb]
  unfold d_Se_fairNumber
  rw [St_bits h r (show p < 4 by omega), Option.bind_some, St_bits h r (show q < 4 by omega), Option.bind_some, ow_or]
  have h1 := lpSe (z := fun _ _ => none) (B := fun self => B_Se_fairNumber_L18 (nI p) (nI q) (nI (nBt O nt p ||| nBt O nt q)) z self) (n := (nBt O nt p ||| nBt O nt q) + 1) (fun a : Nat × Option Nat => nI a.1) (cfS (faC W K L nt p q (nBt O nt p ||| nBt O nt q))) (fun a => some (nI a.1)) (fun _ _ => True)
    (by
      intro self S a hS _
      have e1 : ¬ nI (nBt O nt p ||| nBt O nt q) < nI S := nI_nlt (by omega) (by omega)
      have hS8 : S < 128 := by omega
      refine ⟨?_, trivial⟩
      unfold B_Se_fairNumber_L18 cfS
      rw [if_neg e1, ow_wo _ hS8]
      have k : (nI (nWo S (nBt O nt p ||| nBt O nt q)) = 0) ↔ nWo S (nBt O nt p ||| nBt O nt q) = 0 := nI_eq (b := 0) (by have := nWo_lt (nBt O nt p ||| nBt O nt q) hS8; omega) (by omega)
      by_cases y : nWo S (nBt O nt p ||| nBt O nt q) = 0
      · rw [if_pos (k.mpr y), Se_partsFairly h r hp hq y, Option.bind_some, nI_1, nI_1]
        simp only [bI_0]
        by_cases f : faC W K L nt p q (nBt O nt p ||| nBt O nt q) S = true
        · rw [if_neg (by simp [f]), if_pos f]
        · rw [if_pos (by simpa using f), if_neg f]
      · rw [if_neg (fun y2 => y (k.mp y2)), faC_no y, nI_1]
        simp)
    (by
      intro self a _
      unfold B_Se_fairNumber_L18
      rw [if_pos (nI_lt (by omega) (by omega))])
    1000 0 (0, none) (by omega) (by omega) trivial
  exact h1
theorem Se_fairLeast (h : SW z np nt W O K L) (r : RG np nt W O K L) {p q : Nat} (hp : p < np) (hq : q < np) : d_Se_fairLeast (nI p) (nI q) z = some (lk5 (cfA (faC W K L nt p q (nBt O nt p ||| nBt O nt q)) (2 ^ nt)).2) := by
  have h4 := r.1
  have h7 := r.2.1
  have h128 := pow_128 h7
  have hb : nBt O nt p ||| nBt O nt q < 2 ^ nt := Nat.or_lt_two_pow (nBt_pow O nt p) (nBt_pow O nt q)
  rw [fa_ext h7 hb]
  unfold d_Se_fairLeast
  rw [St_bits h r (show p < 4 by omega), Option.bind_some, St_bits h r (show q < 4 by omega), Option.bind_some, ow_or]
  have h1 := lpE (z := fun _ => none) (B := fun self => B_Se_fairLeast_L15 (nI p) (nI q) (nI (nBt O nt p ||| nBt O nt q)) z self) (n := (nBt O nt p ||| nBt O nt q) + 1) (fun S => (if faC W K L nt p q (nBt O nt p ||| nBt O nt q) S = true then some S else none).map nI) (some (-5))
    (by
      intro self S hS
      have e1 : ¬ nI (nBt O nt p ||| nBt O nt q) < nI S := nI_nlt (by omega) (by omega)
      have hS8 : S < 128 := by omega
      unfold B_Se_fairLeast_L15
      rw [if_neg e1, ow_wo _ hS8]
      have k : (nI (nWo S (nBt O nt p ||| nBt O nt q)) = 0) ↔ nWo S (nBt O nt p ||| nBt O nt q) = 0 := nI_eq (b := 0) (by have := nWo_lt (nBt O nt p ||| nBt O nt q) hS8; omega) (by omega)
      by_cases y : nWo S (nBt O nt p ||| nBt O nt q) = 0
      · rw [if_pos (k.mpr y), Se_partsFairly h r hp hq y, Option.bind_some, nI_1]
        simp only [bI_0]
        by_cases f : faC W K L nt p q (nBt O nt p ||| nBt O nt q) S = true
        · rw [if_neg (by simp [f]), if_pos f]; rfl
        · rw [if_pos (by simpa using f), if_neg f]; rfl
      · rw [if_neg (fun y2 => y (k.mp y2)), faC_no y, nI_1]
        simp)
    (by
      intro self
      unfold B_Se_fairLeast_L15
      rw [if_pos (nI_lt (by omega) (by omega))])
    1000 0 (by omega) (by omega)
  exact Eq.trans h1 (cfA_first _ _)
theorem Mo_fairL (h : MW w np nt W O K L) (r : RG np nt W O K L) {p q : Nat} (hp : p < np) (hq : q < np) {b : Nat} (hb : b < 128) (x3 : Int32) (k : Int32 → Int32 → Option (Int32 × T_Mo)) : d_Mo_fair_L62 (nI p) (nI q) x3 (nI b) w k 1000 0 (-5) 0 = k (nI (cfA (faC W K L nt p q b) (2 ^ nt)).1) (lk5 (cfA (faC W K L nt p q b) (2 ^ nt)).2) := by
  have h4 := r.1
  have h7 := r.2.1
  have h128 := pow_128 h7
  have i1 : inb (nI p) 4 = true := inb_n (by omega) (by omega)
  have i2 : inb (nI q) 4 = true := inb_n (by omega) (by omega)
  have c1 : (nI p).toNatClampNeg = p := nI_clamp (by omega)
  have c2 : (nI q).toNatClampNeg = q := nI_clamp (by omega)
  exact lpA2 (z := fun _ _ _ => none) (B := fun self => B_Mo_fair_L62 (nI p) (nI q) x3 (nI b) w k self) (n := 2 ^ nt) (fun a : Nat × Option Nat => nI a.1) (fun a => lk5 a.2) (cfS (faC W K L nt p q b)) (fun a => k (nI a.1) (lk5 a.2)) (fun S a => (a.2 = none ↔ a.1 = 0) ∧ a.1 ≤ S)
    (by
      intro self S a hS ⟨hP, hP2⟩
      have e1 : ¬ nI (2 ^ nt) ≤ nI S := nI_ge hS (by omega)
      have hS8 : S < 128 := by omega
      have kk : (nI (nWo S b) = 0) ↔ nWo S b = 0 := nI_eq (b := 0) (by have := nWo_lt b hS8; omega) (by omega)
      have k0 : (nI a.1 = 0) ↔ a.1 = 0 := nI_eq (b := 0) (by omega) (by omega)
      refine ⟨?_, cf_inv _ S a hP, ?_⟩
      · unfold B_Mo_fair_L62 cfS
        rw [h.2.1.1, ow_two (by omega), if_neg e1, ow_wo _ hS8, ow_wo _ hb]
        by_cases y : nWo S b = 0
        · have b1 := nS_350 r (fun t => S.testBit t)
          have b2 := nS_350 r (fun t => (nWo b S).testBit t)
          have b3 := nS_7000 r hp (fun t => S.testBit t)
          have b4 := nS_7000 r hp (fun t => (nWo b S).testBit t)
          have b5 := nS_7000 r hq (fun t => S.testBit t)
          have b6 := nS_7000 r hq (fun t => (nWo b S).testBit t)
          have l1 := r.2.2.2.2.2 p hp
          have l2 := r.2.2.2.2.2 q hq
          rw [if_pos (kk.mpr y)]
          simp only [Mo_weightsOf h.2.1 h7, Mo_likesOf h r hp, Mo_likesOf h r hq, Option.bind_some, i1, i2, c1, c2, h.2.2.2 p hp, h.2.2.2 q hq, if_true, k0, nI_1,
            nI_ltI (show L p < 2 ^ 31 by omega) (show nS W (fun t => S.testBit t) nt < 2 ^ 31 by omega), nI_ltI (show L q < 2 ^ 31 by omega) (show nS W (fun t => (nWo b S).testBit t) nt < 2 ^ 31 by omega),
            nI_ltI (show nS (K p) (fun t => S.testBit t) nt < 2 ^ 31 by omega) (show nS (K p) (fun t => (nWo b S).testBit t) nt < 2 ^ 31 by omega), nI_ltI (show nS (K q) (fun t => (nWo b S).testBit t) nt < 2 ^ 31 by omega) (show nS (K q) (fun t => S.testBit t) nt < 2 ^ 31 by omega)]
          unfold faC
          by_cases q1 : L p < nS W (fun t => S.testBit t) nt
          · have r1 : ¬ nS W (fun t => S.testBit t) nt ≤ L p := by omega
            simp [q1, r1]
          have r1 : nS W (fun t => S.testBit t) nt ≤ L p := by omega
          by_cases q2 : L q < nS W (fun t => (nWo b S).testBit t) nt
          · have r2 : ¬ nS W (fun t => (nWo b S).testBit t) nt ≤ L q := by omega
            simp [q1, q2, r2]
          have r2 : nS W (fun t => (nWo b S).testBit t) nt ≤ L q := by omega
          by_cases q3 : nS (K p) (fun t => S.testBit t) nt < nS (K p) (fun t => (nWo b S).testBit t) nt
          · have r3 : ¬ nS (K p) (fun t => (nWo b S).testBit t) nt ≤ nS (K p) (fun t => S.testBit t) nt := by omega
            simp [q1, q2, q3, r3]
          have r3 : nS (K p) (fun t => (nWo b S).testBit t) nt ≤ nS (K p) (fun t => S.testBit t) nt := by omega
          by_cases q4 : nS (K q) (fun t => (nWo b S).testBit t) nt < nS (K q) (fun t => S.testBit t) nt
          · have r4 : ¬ nS (K q) (fun t => S.testBit t) nt ≤ nS (K q) (fun t => (nWo b S).testBit t) nt := by omega
            simp [q1, q2, q3, q4, r4]
          have r4 : nS (K q) (fun t => S.testBit t) nt ≤ nS (K q) (fun t => (nWo b S).testBit t) nt := by omega
          simp only [q1, q2, q3, q4, r1, r2, r3, r4, y, decide_true, Bool.and_self, if_true, if_false]
          by_cases q0 : a.1 = 0
          · rw [if_pos q0, hP.mpr q0]
            rfl
          · rw [if_neg q0]
            cases ha : a.2 with
            | none => exact absurd (hP.mp ha) q0
            | some y => rfl
        · rw [if_neg (fun y2 => y (kk.mp y2)), faC_no y, nI_1]
          simp
      · unfold cfS
        split
        · show a.1 + 1 ≤ S + 1; omega
        · omega)
    (by
      intro self a _
      unfold B_Mo_fair_L62
      rw [h.2.1.1, ow_two (by omega), if_pos (Int32.le_refl _)])
    1000 0 (0, none) (Nat.zero_le _) (by omega) ⟨by simp, by simp⟩
end FA

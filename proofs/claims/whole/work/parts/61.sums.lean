/-! The world of a call in numbers: np people, nt things, W weights, O owners (4: nobody's), K likes, L lifts. SW: the class's Standing shows it; MW: the model's rows do. -/
def oC (o : Nat) : Int32 := if o = 4 then (-5) else nI o
theorem oC_eq {o p : Nat} (ho : o ≤ 4) (hp : p < 4) : (oC o = nI p) ↔ o = p :=
  (by decide +kernel : ∀ o, o < 5 → ∀ p, p < 4 → ((oC o = nI p) ↔ o = p)) o (by omega) p hp
theorem oC_4 {o : Nat} (ho : o ≤ 4) : (oC o = (-5)) ↔ o = 4 :=
  (by decide +kernel : ∀ o, o < 5 → ((oC o = (-5)) ↔ o = 4)) o (by omega)
theorem oC_inj {o p : Nat} (ho : o ≤ 4) (hp : p ≤ 4) : (oC o = oC p) ↔ o = p :=
  (by decide +kernel : ∀ o, o < 5 → ∀ p, p < 5 → ((oC o = oC p) ↔ o = p)) o (by omega) p (by omega)
theorem oC_lt {o : Nat} (ho : o < 4) : oC o = nI o := if_neg (by omega)
/-- bits of the places that are told -/
def nB (c : Nat → Bool) (n : Nat) : Nat := fo (fun t a => if c t = true then a ||| 2 ^ t else a) n 0 0
theorem nB_s (c : Nat → Bool) (n : Nat) : nB c (n + 1) = if c n = true then nB c n ||| 2 ^ n else nB c n := by
  unfold nB
  rw [fo_last]
  simp only [Nat.zero_add]
theorem nB_bit (c : Nat → Bool) (i : Nat) : ∀ n : Nat, (nB c n).testBit i = (decide (i < n) && c i)
  | 0 => by simp [nB, fo]
  | n + 1 => by
    rw [nB_s]
    have ih := nB_bit c i n
    by_cases hi : i = n
    · subst hi
      by_cases hc : c i = true
      · simp [hc, Nat.testBit_or, ih, Nat.testBit_two_pow_self]
      · simp [hc, ih]
    · have h2 : ¬ n = i := fun q => hi q.symm
      have h3 : decide (i < n + 1) = decide (i < n) := by
        by_cases q : i < n
        · simp [q, Nat.lt_succ_of_lt q]
        · have q2 : ¬ i < n + 1 := by omega
          simp [q, q2]
      rw [h3]
      by_cases hc : c n = true
      · simp [hc, Nat.testBit_or, ih, Nat.testBit_two_pow, h2]
      · simp [hc, ih]
theorem nB_lt (c : Nat → Bool) (n : Nat) : nB c n < 2 ^ n := by
  apply Nat.lt_pow_two_of_testBit
  intro i hi
  rw [nB_bit]
  have : ¬ i < n := by omega
  simp [this]
theorem ow_or (a b : Nat) : nI a ||| nI b = nI (a ||| b) := by
  apply b_ext
  intro i hi
  rw [b_or, b_nat _ _ hi, b_nat _ _ hi, b_nat _ _ hi, Nat.testBit_or]
theorem ow_and (a b : Nat) : nI a &&& nI b = nI (a &&& b) := by
  apply b_ext
  intro i hi
  rw [b_and, b_nat _ _ hi, b_nat _ _ hi, b_nat _ _ hi, Nat.testBit_and]
theorem ow_two {t : Nat} (ht : t < 31) : ((1 : Int32) <<< (nI t &&& 31)) = nI (2 ^ t) := by
  apply b_ext
  intro i hi
  rw [ow_shl (by omega) hi, b_nat _ _ hi, Nat.testBit_two_pow]
  by_cases h : i = t
  · subst h; simp
  · have h2 : ¬ t = i := fun q => h q.symm
    simp [h, h2]
theorem ow_orbit (a : Nat) {t : Nat} (ht : t < 31) : nI a ||| ((1 : Int32) <<< (nI t &&& 31)) = nI (a ||| 2 ^ t) := by
  rw [ow_two ht, ow_or]
/-- without: what is in a and not in b -/
def nWo (a b : Nat) : Nat := a &&& (127 ^^^ (b &&& 127))
theorem nWo_bit {a b i : Nat} (ha : a < 128) : (nWo a b).testBit i = (a.testBit i && !b.testBit i) := by
  unfold nWo
  rw [Nat.testBit_and, Nat.testBit_xor, Nat.testBit_and, show (127 : Nat) = 2 ^ 7 - 1 from rfl, Nat.testBit_two_pow_sub_one]
  by_cases hi : i < 7
  · simp [hi]
  · have h : a.testBit i = false := Nat.testBit_lt_two_pow (Nat.lt_of_lt_of_le ha (by
      have := Nat.pow_le_pow_right (n := 2) (by omega) (show 7 ≤ i by omega)
      omega))
    simp [h]
theorem ow_wo {a : Nat} (b : Nat) (ha : a < 128) : nI a &&& (nI b ^^^ (-1)) = nI (nWo a b) := by
  apply b_ext
  intro i hi
  rw [b_and, b_nat _ _ hi, ow_not _ hi, b_nat _ _ hi, b_nat _ _ hi, nWo_bit ha]
theorem nWo_lt {a : Nat} (b : Nat) (ha : a < 128) : nWo a b < 128 := Nat.lt_of_le_of_lt Nat.and_le_left ha
theorem ow_testbit {S t : Nat} (ht : t < 32) : (((nI S >>> (nI t &&& 31)) &&& 1) = 1) ↔ S.testBit t = true := by
  rw [ow_bit _ ht, b_nat _ _ ht]
def bI (b : Bool) : Int32 := if b = true then 1 else 0
theorem bI_0 (b : Bool) : (bI b = 0) ↔ b = false := by cases b <;> decide
theorem bI_t : bI true = 1 := rfl
theorem bI_f : bI false = 0 := rfl
/-- what stands first: t goes ahead of u by ah -/
def oI (o : Option Nat) : Int32 := match o with
  | none => (-1)
  | some t => nI t
def nFst (c : Nat → Bool) (ah : Nat → Nat → Bool) (t : Nat) (a : Option Nat) : Option Nat := match a with
  | none => if c t = true then some t else none
  | some u => if (c t && ah t u) = true then some t else some u
def nF (c : Nat → Bool) (ah : Nat → Nat → Bool) (n : Nat) : Option Nat := fo (nFst c ah) n 0 none
theorem nF_P (c : Nat → Bool) (ah : Nat → Nat → Bool) (n : Nat) : (∀ t, nF c ah n = some t → t < n ∧ c t = true) ∧ (nF c ah n = none → ∀ t, t < n → c t = false) := by
  have h := fo_inv (f := nFst c ah) (fun i a => (∀ t, a = some t → t < i ∧ c t = true) ∧ (a = none → ∀ t, t < i → c t = false)) n 0 none ⟨fun t q => (by cases q), fun _ t q => (by omega)⟩ (fun i b _ _ hb => by
    cases b with
    | none =>
      by_cases hc : c i = true
      · refine ⟨fun t q => ?_, fun q => ?_⟩
        · simp only [nFst, hc, if_true, Option.some.injEq] at q
          subst q
          exact ⟨by omega, hc⟩
        · simp only [nFst, hc, if_true, reduceCtorEq] at q
      · refine ⟨fun t q => ?_, fun _ t ht => ?_⟩
        · simp only [nFst, hc, if_false, Bool.false_eq_true, reduceCtorEq] at q
        · by_cases e : t = i
          · subst e; simpa using hc
          · exact hb.2 rfl t (by omega)
    | some u =>
      have hu := hb.1 u rfl
      by_cases hc : (c i && ah i u) = true
      · refine ⟨fun t q => ?_, fun q => ?_⟩
        · simp only [nFst, hc, if_true, Option.some.injEq] at q
          subst q
          simp only [Bool.and_eq_true] at hc
          exact ⟨by omega, hc.1⟩
        · simp only [nFst, hc, if_true, reduceCtorEq] at q
      · refine ⟨fun t q => ?_, fun q => ?_⟩
        · simp only [nFst, hc, if_false, Bool.false_eq_true, Option.some.injEq] at q
          subst q
          exact ⟨by omega, hu.2⟩
        · simp only [nFst, hc, if_false, Bool.false_eq_true, reduceCtorEq] at q)
  rw [Nat.zero_add] at h
  exact h
/-- the range of a world -/
def RG (np nt : Nat) (W O : Nat → Nat) (K : Nat → Nat → Nat) (L : Nat → Nat) : Prop :=
  np ≤ 4 ∧ nt ≤ 7 ∧ (∀ t, t < nt → W t ≤ 50) ∧ (∀ t, t < nt → O t < np ∨ O t = 4) ∧ (∀ p t, p < np → t < nt → 1 ≤ K p t ∧ K p t ≤ 1000) ∧ (∀ p, p < np → L p ≤ 2000)
theorem RG.o4 {np nt : Nat} {W O : Nat → Nat} {K : Nat → Nat → Nat} {L : Nat → Nat} (h : RG np nt W O K L) {t : Nat} (ht : t < nt) : O t ≤ 4 := by
  have h1 := h.1
  rcases h.2.2.2.1 t ht with q | q <;> omega
def SW (z : T_St) (np nt : Nat) (W O : Nat → Nat) (K : Nat → Nat → Nat) (L : Nat → Nat) : Prop :=
  q_St_people z = nI np ∧ q_St_things z = nI nt ∧ (∀ t, t < nt → q_St_weight z t = nI (W t)) ∧ (∀ t, t < nt → q_St_owner z t = oC (O t)) ∧
  (∀ p t, p < np → t < nt → q_St_like z p t = nI (K p t)) ∧ (∀ p, p < np → q_St_lifts z p = nI (L p))
/-- the model's things -/
def MT (s : Nat → Int32) (nt : Nat) (W O : Nat → Nat) : Prop :=
  s 1 = nI nt ∧ (∀ t, t < nt → s (58 + t) = nI (W t)) ∧ (∀ t, t < nt → s (65 + t) = nI (O t))
def MW (w : T_Mo) (np nt : Nat) (W O : Nat → Nat) (K : Nat → Nat → Nat) (L : Nat → Nat) : Prop :=
  q_Mo_s w 0 = nI np ∧ MT (q_Mo_s w) nt W O ∧ (∀ p t, p < np → t < nt → q_Mo_likes w (7 * p + t) = nI (K p t)) ∧ (∀ p, p < np → q_Mo_lifts w p = nI (L p))
/-- LOAD of p -/
def nLd (W O : Nat → Nat) (nt p : Nat) : Nat := nS W (fun t => decide (O t = p)) nt
/-- THINGS of p, as bits -/
def nBt (O : Nat → Nat) (nt p : Nat) : Nat := nB (fun t => decide (O t = p)) nt
theorem nBt_lt {O : Nat → Nat} {nt p : Nat} (h7 : nt ≤ 7) : nBt O nt p < 128 :=
  Nat.lt_of_lt_of_le (nB_lt _ nt) (Nat.le_trans (Nat.pow_le_pow_right (by omega) h7) (by decide))
theorem nLd_le {W O : Nat → Nat} {nt p : Nat} (h7 : nt ≤ 7) (hW : ∀ t, t < nt → W t ≤ 50) : nLd W O nt p ≤ 350 := by
  have h := nS_le (c := fun t => decide (O t = p)) nt hW
  have h2 : nt * 50 ≤ 7 * 50 := Nat.mul_le_mul_right 50 h7
  unfold nLd
  omega
section SM
variable {z : T_St} {np nt : Nat} {W O : Nat → Nat} {K : Nat → Nat → Nat} {L : Nat → Nat}
theorem St_bits (h : SW z np nt W O K L) (r : RG np nt W O K L) {p : Nat} (hp : p < 4) : d_St_bits (nI p) z = some (nI (nBt O nt p)) := by
  have h7 := r.2.1
  have h1 := lpS (z := fun _ _ => none) (B := fun self => B_St_bits_L4 (nI p) z self) (n := nt) (fun t a => if O t = p then a ||| ((1 : Int32) <<< (nI t &&& 31)) else a) some (fun _ _ => True)
    (by
      intro self t a ht _
      have e1 : ¬ nI nt ≤ nI t := nI_ge ht (by omega)
      have e2 : inb (nI t) 7 = true := inb_n (by omega) (by omega)
      have e3 : (nI t).toNatClampNeg = t := nI_clamp (by omega)
      refine ⟨?_, trivial⟩
      simp only [B_St_bits_L4, h.2.1, e1, e2, e3, h.2.2.2.1 t ht, oC_eq (r.o4 ht) hp, if_true, if_false, nI_1]
      split <;> rfl)
    (by
      intro self a _
      simp only [B_St_bits_L4, h.2.1, Int32.le_refl, if_true])
    1000 0 0 (Nat.zero_le _) (by omega) trivial
  refine Eq.trans h1 (congrArg some ?_)
  exact fo_two (f := fun t (a : Int32) => if O t = p then a ||| ((1 : Int32) <<< (nI t &&& 31)) else a) (g := fun t (a : Nat) => if decide (O t = p) = true then a ||| 2 ^ t else a) (fun _ a b => a = nI b) nt 0 0 0 rfl (fun i a b _ hi e => by
    subst e
    by_cases q : O i = p
    · simp only [q, if_true, decide_true]; exact ow_orbit b (by omega)
    · simp [q])
theorem St_weightOfSet (h : SW z np nt W O K L) (r : RG np nt W O K L) (S : Nat) : d_St_weightOfSet (nI S) z = some (nI (nS W (fun t => S.testBit t) nt)) := by
  have h7 := r.2.1
  have h1 := lpS (z := fun _ _ => none) (B := fun self => B_St_weightOfSet_L4 (nI S) z self) (n := nt) (fun t a => if S.testBit t = true then a + nI (W t) else a) some (fun _ _ => True)
    (by
      intro self t a ht _
      have e1 : ¬ nI nt ≤ nI t := nI_ge ht (by omega)
      have e2 : inb (nI t) 7 = true := inb_n (by omega) (by omega)
      have e3 : (nI t).toNatClampNeg = t := nI_clamp (by omega)
      refine ⟨?_, trivial⟩
      simp only [B_St_weightOfSet_L4, h.2.1, e1, e2, e3, h.2.2.1 t ht, ow_testbit (show t < 32 by omega), if_true, if_false, nI_1]
      split <;> rfl)
    (by
      intro self a _
      simp only [B_St_weightOfSet_L4, h.2.1, Int32.le_refl, if_true])
    1000 0 0 (Nat.zero_le _) (by omega) trivial
  refine Eq.trans h1 (congrArg some ?_)
  exact nS_fo nt (fun t _ a => by split <;> simp only [nI_add])
theorem St_likeOfSet (h : SW z np nt W O K L) (r : RG np nt W O K L) {p : Nat} (hp : p < np) (S : Nat) : d_St_likeOfSet (nI p) (nI S) z = some (nI (nS (K p) (fun t => S.testBit t) nt)) := by
  have h4 := r.1
  have h7 := r.2.1
  have e4 : inb (nI p) 4 = true := inb_n (by omega) (by omega)
  have e5 : (nI p).toNatClampNeg = p := nI_clamp (by omega)
  have h1 := lpS (z := fun _ _ => none) (B := fun self => B_St_likeOfSet_L5 (nI p) (nI S) z self) (n := nt) (fun t a => if S.testBit t = true then a + nI (K p t) else a) some (fun _ _ => True)
    (by
      intro self t a ht _
      have e1 : ¬ nI nt ≤ nI t := nI_ge ht (by omega)
      have e2 : inb (nI t) 7 = true := inb_n (by omega) (by omega)
      have e3 : (nI t).toNatClampNeg = t := nI_clamp (by omega)
      refine ⟨?_, trivial⟩
      simp only [B_St_likeOfSet_L5, h.2.1, e1, e2, e3, e4, e5, h.2.2.2.2.1 p t hp ht, ow_testbit (show t < 32 by omega), if_true, if_false, nI_1]
      split <;> rfl)
    (by
      intro self a _
      simp only [B_St_likeOfSet_L5, h.2.1, Int32.le_refl, if_true])
    1000 0 0 (Nat.zero_le _) (by omega) trivial
  refine Eq.trans h1 (congrArg some ?_)
  exact nS_fo nt (fun t _ a => by split <;> simp only [nI_add])
theorem nS_bt (F : Nat → Nat) (p : Nat) : nS F (fun t => (nBt O nt p).testBit t) nt = nS F (fun t => decide (O t = p)) nt :=
  nS_congr nt (fun t ht => by unfold nBt; rw [nB_bit]; simp [ht]) (fun _ _ _ => rfl)
theorem St_load (h : SW z np nt W O K L) (r : RG np nt W O K L) {p : Nat} (hp : p < 4) : d_St_load (nI p) z = some (nI (nLd W O nt p)) := by
  unfold d_St_load
  rw [St_bits h r hp]
  show (d_St_weightOfSet (nI (nBt O nt p)) z).bind _ = _
  rw [St_weightOfSet h r, nS_bt]
  rfl
theorem St_over (h : SW z np nt W O K L) (r : RG np nt W O K L) {p : Nat} (hp : p < np) : d_St_over (nI p) z = some (bI (decide (L p < nLd W O nt p))) := by
  have h4 := r.1
  have h7 := r.2.1
  have hL := r.2.2.2.2.2 p hp
  have hl := nLd_le (O := O) (p := p) h7 r.2.2.1
  have e4 : inb (nI p) 4 = true := inb_n (by omega) (by omega)
  have e5 : (nI p).toNatClampNeg = p := nI_clamp (by omega)
  unfold d_St_over
  rw [St_load h r (by omega)]
  simp only [Option.bind_some, e4, e5, h.2.2.2.2.2 p hp, if_true, nI_leI (show nLd W O nt p < 2 ^ 31 by omega) (show L p < 2 ^ 31 by omega)]
  by_cases q : nLd W O nt p ≤ L p
  · have q2 : ¬ L p < nLd W O nt p := by omega
    simp [q, q2, bI]
  · have q2 : L p < nLd W O nt p := by omega
    simp [q, q2, bI]
end SM

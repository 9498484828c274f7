/-! The pure part: loops by fuel as folds; bits; sums. (bt and the b_ rows began as kit/laws/BITS.to-paste, ow_lit, ow_or as rows of NUMBERS.to-paste.) -/
def bt (x : Int32) (i : Nat) : Bool := x.toBitVec.getLsbD i
theorem b_ext {x y : Int32} (h : ∀ i, i < 32 → bt x i = bt y i) : x = y := Int32.toBitVec_inj.mp (BitVec.eq_of_getLsbD_eq (fun i hi => h i hi))
theorem b_or (x y : Int32) (i : Nat) : bt (x ||| y) i = (bt x i || bt y i) := by unfold bt; rw [Int32.toBitVec_or, BitVec.getLsbD_or]
theorem b_and (x y : Int32) (i : Nat) : bt (x &&& y) i = (bt x i && bt y i) := by unfold bt; rw [Int32.toBitVec_and, BitVec.getLsbD_and]
theorem b_xor (x y : Int32) (i : Nat) : bt (x ^^^ y) i = (bt x i ^^ bt y i) := by unfold bt; rw [Int32.toBitVec_xor, BitVec.getLsbD_xor]
theorem b_big {x : Int32} {i : Nat} (h : 32 ≤ i) : bt x i = false := BitVec.getLsbD_of_ge _ _ h
theorem b_m1 : ∀ i, i < 32 → bt (-1) i = true := by decide +kernel
theorem b_m2 : ∀ i, i < 32 → bt (-2) i = decide (1 ≤ i) := by decide +kernel
theorem b_0 (i : Nat) : bt 0 i = false := BitVec.getLsbD_zero
theorem b_1 : ∀ i, i < 32 → bt 1 i = decide (i = 0) := by decide +kernel
theorem s_l : ∀ n, n < 32 → ((nI n &&& 31).toBitVec.smod 32).toNat = n := by decide +kernel
theorem b_shl (n : Nat) (hn : n < 32) (x : Int32) {i : Nat} (hi : i < 32) : bt (x <<< (nI n &&& 31)) i = (decide (n ≤ i) && bt x (i - n)) := by
  unfold bt
  rw [Int32.toBitVec_shiftLeft]
  show (x.toBitVec <<< ((nI n &&& 31).toBitVec.smod 32).toNat).getLsbD i = _
  rw [s_l n hn, BitVec.getLsbD_shiftLeft]
  rcases Nat.lt_or_ge i n with h | h
  · simp [h, Nat.not_le.mpr h]
  · simp [hi, h, Nat.not_lt.mpr h]
theorem b_sshr (n : Nat) (hn : n < 32) (x : Int32) {i : Nat} (hi : i < 32) : bt (x >>> (nI n &&& 31)) i = if n + i < 32 then bt x (n + i) else bt x 31 := by
  unfold bt
  rw [Int32.toBitVec_shiftRight]
  show (x.toBitVec.sshiftRight ((nI n &&& 31).toBitVec.smod 32).toNat).getLsbD i = _
  rw [s_l n hn, BitVec.getLsbD_sshiftRight, BitVec.msb_eq_getLsbD_last]
  simp [hi]
theorem ow_lit (n : Nat) : (OfNat.ofNat n : Int32) = nI n := rfl
theorem b_nat (n i : Nat) (hi : i < 32) : bt (nI n) i = n.testBit i := by
  show (BitVec.ofNat 32 n).getLsbD i = _
  rw [BitVec.getLsbD_ofNat]; simp [hi]
/-- the lowest bit, asked by a mask -/
theorem ow_and1 (x : Int32) : (x &&& 1) = if bt x 0 = true then 1 else 0 := by
  apply b_ext
  intro i hi
  rw [b_and, b_1 i hi]
  by_cases h : i = 0
  · subst h
    by_cases h2 : bt x 0 = true
    · simp [h2, b_1]
    · simp [h2, b_0]
  · by_cases h2 : bt x 0 = true
    · simp [h2, b_1 i hi, h]
    · simp [h2, b_0, h]
theorem ow_and1_1 (x : Int32) : ((x &&& 1) = 1) ↔ bt x 0 = true := by
  rw [ow_and1]
  by_cases h : bt x 0 = true
  · simp [h]
  · simp [h]
theorem ow_bit (x : Int32) {t : Nat} (ht : t < 32) : (((x >>> (nI t &&& 31)) &&& 1) = 1) ↔ bt x t = true := by
  rw [ow_and1_1, b_sshr t ht x (by omega), if_pos (by omega)]
  rfl
theorem ow_shl {t : Nat} (ht : t < 32) {i : Nat} (hi : i < 32) : bt ((1 : Int32) <<< (nI t &&& 31)) i = decide (i = t) := by
  rw [b_shl t ht _ hi]
  by_cases h : t ≤ i
  · rw [b_1 (i - t) (by omega)]
    by_cases h2 : i = t
    · simp [h2]
    · have h3 : ¬ i - t = 0 := by omega
      simp [h2, h3]
  · have h2 : ¬ i = t := by omega
    simp [h, h2]
theorem ow_not (x : Int32) {i : Nat} (hi : i < 32) : bt (x ^^^ (-1)) i = !bt x i := by
  rw [b_xor, b_m1 i hi]; simp
/-- a number without bits from n on is small -/
theorem ow_small {x : Int32} {n : Nat} (hn : n ≤ 31) (h : ∀ i, n ≤ i → i < 32 → bt x i = false) : ∃ S : Nat, S < 2 ^ n ∧ x = nI S := by
  refine ⟨x.toBitVec.toNat, ?_, ?_⟩
  · apply Nat.lt_pow_two_of_testBit
    intro i hi
    rcases Nat.lt_or_ge i 32 with q | q
    · exact h i hi q
    · exact BitVec.getLsbD_of_ge _ _ q
  · apply Int32.toBitVec_inj.mp
    show x.toBitVec = BitVec.ofNat 32 x.toBitVec.toNat
    simp
theorem inb_n {i n : Nat} (h : i < n) (hn : n < 2 ^ 31) : inb (nI i) n = true := by
  have h1 : ¬ nI i < 0 := nI_pos (by omega)
  have h2 : (nI i).toNatClampNeg = i := nI_clamp (by omega)
  have h3 : ¬ n ≤ i := by omega
  simp [inb, h1, h2, h3]
theorem inb_of {x : Int32} {n : Nat} (hn : n < 2 ^ 31) (h : inb x n = true) : ∃ j : Nat, j < n ∧ x = nI j := vp_in_of (inb_t h) hn
/-- folds: k turns from t on -/
def fo {α : Type} (f : Nat → α → α) : Nat → Nat → α → α
  | 0, _, a => a
  | k + 1, t, a => fo f k (t + 1) (f t a)
theorem fo_last {α : Type} (f : Nat → α → α) : ∀ (k t : Nat) (a : α), fo f (k + 1) t a = f (t + k) (fo f k t a)
  | 0, _, _ => rfl
  | k + 1, t, a => by
    show fo f (k + 1) (t + 1) (f t a) = f (t + (k + 1)) (fo f k (t + 1) (f t a))
    rw [fo_last f k (t + 1) (f t a), show t + 1 + k = t + (k + 1) by omega]
theorem fo_congr {α : Type} {f g : Nat → α → α} : ∀ (k t : Nat) (a : α), (∀ i, t ≤ i → i < t + k → ∀ b, f i b = g i b) → fo f k t a = fo g k t a
  | 0, _, _, _ => rfl
  | k + 1, t, a, h => by
    show fo f k (t + 1) (f t a) = fo g k (t + 1) (g t a)
    rw [h t (Nat.le_refl t) (by omega) a]
    exact fo_congr k (t + 1) (g t a) (fun i h1 h2 b => h i (by omega) (by omega) b)
theorem fo_inv {α : Type} {f : Nat → α → α} (P : Nat → α → Prop) : ∀ (k t : Nat) (a : α), P t a → (∀ i b, t ≤ i → i < t + k → P i b → P (i + 1) (f i b)) → P (t + k) (fo f k t a)
  | 0, _, _, h, _ => h
  | k + 1, t, a, h, hs => by
    have h1 := fo_inv P k (t + 1) (f t a) (hs t a (Nat.le_refl t) (by omega) h) (fun i b q1 q2 q3 => hs i b (by omega) (by omega) q3)
    rw [show t + (k + 1) = t + 1 + k by omega]
    exact h1
/-- two folds side by side -/
theorem fo_two {α β : Type} {f : Nat → α → α} {g : Nat → β → β} (P : Nat → α → β → Prop) : ∀ (k t : Nat) (a : α) (b : β), P t a b → (∀ i a b, t ≤ i → i < t + k → P i a b → P (i + 1) (f i a) (g i b)) → P (t + k) (fo f k t a) (fo g k t b)
  | 0, _, _, _, h, _ => h
  | k + 1, t, a, b, h, hs => by
    have h1 := fo_two P k (t + 1) (f t a) (g t b) (hs t a b (Nat.le_refl t) (by omega) h) (fun i a b q1 q2 q3 => hs i a b (by omega) (by omega) q3)
    rw [show t + (k + 1) = t + 1 + k by omega]
    exact h1
/-- the first of k places from t on at which something is told -/
def fi {ρ : Type} (g : Nat → Option ρ) (d : Option ρ) : Nat → Nat → Option ρ
  | 0, _ => d
  | k + 1, t => (g t).or (fi g d k (t + 1))
theorem fi_congr {ρ : Type} {g h : Nat → Option ρ} {d : Option ρ} : ∀ (k t : Nat), (∀ i, t ≤ i → i < t + k → g i = h i) → fi g d k t = fi h d k t
  | 0, _, _ => rfl
  | k + 1, t, q => by
    show (g t).or (fi g d k (t + 1)) = (h t).or (fi h d k (t + 1))
    rw [q t (Nat.le_refl t) (by omega), fi_congr k (t + 1) (fun i h1 h2 => q i (by omega) (by omega))]
/-- a loop over an index and a state (state first), n the end -/
theorem lpS {σ ρ : Type} {z : σ → Int32 → Option ρ} {B : (σ → Int32 → Option ρ) → σ → Int32 → Option ρ} {n : Nat} (f : Nat → σ → σ) (k : σ → Option ρ) (P : Nat → σ → Prop)
    (hs : ∀ self t a, t < n → P t a → B self a (nI t) = self (f t a) (nI (t + 1)) ∧ P (t + 1) (f t a)) (he : ∀ self a, P n a → B self a (nI n) = k a) :
    ∀ (m t : Nat) (a : σ), t ≤ n → n < m + t → P t a → recN z B m a (nI t) = k (fo f (n - t) t a)
  | 0, t, a, h1, h2, _ => absurd h2 (by omega)
  | m + 1, t, a, h1, h2, hP => by
    show B (recN z B m) a (nI t) = _
    by_cases h : t < n
    · obtain ⟨e, hP'⟩ := hs (recN z B m) t a h hP
      rw [e, lpS f k P hs he m (t + 1) (f t a) (by omega) (by omega) hP', show n - t = (n - (t + 1)) + 1 by omega]
      rfl
    · have e : t = n := by omega
      subst e
      rw [he _ a hP, Nat.sub_self]
      rfl
/-- the same, index first -/
theorem lpI {σ ρ : Type} {z : Int32 → σ → Option ρ} {B : (Int32 → σ → Option ρ) → Int32 → σ → Option ρ} {n : Nat} (f : Nat → σ → σ) (k : σ → Option ρ) (P : Nat → σ → Prop)
    (hs : ∀ self t a, t < n → P t a → B self (nI t) a = self (nI (t + 1)) (f t a) ∧ P (t + 1) (f t a)) (he : ∀ self a, P n a → B self (nI n) a = k a) :
    ∀ (m t : Nat) (a : σ), t ≤ n → n < m + t → P t a → recN z B m (nI t) a = k (fo f (n - t) t a)
  | 0, t, a, h1, h2, _ => absurd h2 (by omega)
  | m + 1, t, a, h1, h2, hP => by
    show B (recN z B m) (nI t) a = _
    by_cases h : t < n
    · obtain ⟨e, hP'⟩ := hs (recN z B m) t a h hP
      rw [e, lpI f k P hs he m (t + 1) (f t a) (by omega) (by omega) hP', show n - t = (n - (t + 1)) + 1 by omega]
      rfl
    · have e : t = n := by omega
      subst e
      rw [he _ a hP, Nat.sub_self]
      rfl
/-- a loop over an index alone, with ends on its way -/
theorem lpE {ρ : Type} {z : Int32 → Option ρ} {B : (Int32 → Option ρ) → Int32 → Option ρ} {n : Nat} (g : Nat → Option ρ) (d : Option ρ)
    (hs : ∀ self t, t < n → B self (nI t) = (g t).or (self (nI (t + 1)))) (he : ∀ self, B self (nI n) = d) :
    ∀ (m t : Nat), t ≤ n → n < m + t → recN z B m (nI t) = fi g d (n - t) t
  | 0, t, h1, h2 => absurd h2 (by omega)
  | m + 1, t, h1, h2 => by
    show B (recN z B m) (nI t) = _
    by_cases h : t < n
    · rw [hs (recN z B m) t h, lpE g d hs he m (t + 1) (by omega) (by omega), show n - t = (n - (t + 1)) + 1 by omega]
      rfl
    · have e : t = n := by omega
      subst e
      rw [he, Nat.sub_self]
      rfl
/-- a loop over an index and a state that a number or the like tells (e): state first -/
theorem lpSe {σ β ρ : Type} {z : σ → Int32 → Option ρ} {B : (σ → Int32 → Option ρ) → σ → Int32 → Option ρ} {n : Nat} (e : β → σ) (f : Nat → β → β) (k : β → Option ρ) (P : Nat → β → Prop)
    (hs : ∀ self t b, t < n → P t b → B self (e b) (nI t) = self (e (f t b)) (nI (t + 1)) ∧ P (t + 1) (f t b)) (he : ∀ self b, P n b → B self (e b) (nI n) = k b) :
    ∀ (m t : Nat) (b : β), t ≤ n → n < m + t → P t b → recN z B m (e b) (nI t) = k (fo f (n - t) t b)
  | 0, t, a, h1, h2, _ => absurd h2 (by omega)
  | m + 1, t, a, h1, h2, hP => by
    show B (recN z B m) (e a) (nI t) = _
    by_cases h : t < n
    · obtain ⟨q, hP'⟩ := hs (recN z B m) t a h hP
      rw [q, lpSe e f k P hs he m (t + 1) (f t a) (by omega) (by omega) hP', show n - t = (n - (t + 1)) + 1 by omega]
      rfl
    · have q : t = n := by omega
      subst q
      rw [he _ a hP, Nat.sub_self]
      rfl
/-- the same, index first -/
theorem lpIe {σ β ρ : Type} {z : Int32 → σ → Option ρ} {B : (Int32 → σ → Option ρ) → Int32 → σ → Option ρ} {n : Nat} (e : β → σ) (f : Nat → β → β) (k : β → Option ρ) (P : Nat → β → Prop)
    (hs : ∀ self t b, t < n → P t b → B self (nI t) (e b) = self (nI (t + 1)) (e (f t b)) ∧ P (t + 1) (f t b)) (he : ∀ self b, P n b → B self (nI n) (e b) = k b) :
    ∀ (m t : Nat) (b : β), t ≤ n → n < m + t → P t b → recN z B m (nI t) (e b) = k (fo f (n - t) t b)
  | 0, t, a, h1, h2, _ => absurd h2 (by omega)
  | m + 1, t, a, h1, h2, hP => by
    show B (recN z B m) (nI t) (e a) = _
    by_cases h : t < n
    · obtain ⟨q, hP'⟩ := hs (recN z B m) t a h hP
      rw [q, lpIe e f k P hs he m (t + 1) (f t a) (by omega) (by omega) hP', show n - t = (n - (t + 1)) + 1 by omega]
      rfl
    · have q : t = n := by omega
      subst q
      rw [he _ a hP, Nat.sub_self]
      rfl
theorem fi_map {ρ τ : Type} (g : Nat → Option ρ) (e : ρ → τ) (d : τ) : ∀ (k t : Nat), fi (fun i => (g i).map e) (some d) k t = some (((fi g none k t).map e).getD d)
  | 0, _ => rfl
  | k + 1, t => by
    show ((g t).map e).or (fi (fun i => (g i).map e) (some d) k (t + 1)) = some ((((g t).or (fi g none k (t + 1))).map e).getD d)
    cases g t with
    | none => simp only [Option.map_none, Option.none_or]; exact fi_map g e d k (t + 1)
    | some r => rfl
theorem fi_P {ρ : Type} {g : Nat → Option ρ} {P : ρ → Prop} : ∀ (k t : Nat), (∀ i, t ≤ i → i < t + k → ∀ r, g i = some r → P r) → ∀ r, fi g none k t = some r → P r
  | 0, _, _, _, h => by cases h
  | k + 1, t, q, r, h => by
    have h : (g t).or (fi g none k (t + 1)) = some r := h
    cases hg : g t with
    | none =>
      rw [hg, Option.none_or] at h
      exact fi_P k (t + 1) (fun i h1 h2 => q i (by omega) (by omega)) r h
    | some r' =>
      rw [hg, Option.some_or] at h
      cases h
      exact q t (Nat.le_refl t) (by omega) r hg
/-- sums of numbers at the places that are told -/
def nS (f : Nat → Nat) (c : Nat → Bool) (n : Nat) : Nat := fo (fun t a => if c t = true then a + f t else a) n 0 0
theorem nS_0 (f : Nat → Nat) (c : Nat → Bool) : nS f c 0 = 0 := rfl
theorem nS_s (f : Nat → Nat) (c : Nat → Bool) (n : Nat) : nS f c (n + 1) = if c n = true then nS f c n + f n else nS f c n := by
  unfold nS
  rw [fo_last]
  simp only [Nat.zero_add]
theorem nS_congr {f g : Nat → Nat} {c d : Nat → Bool} : ∀ n : Nat, (∀ t, t < n → c t = d t) → (∀ t, t < n → c t = true → f t = g t) → nS f c n = nS g d n
  | 0, _, _ => rfl
  | n + 1, h1, h2 => by
    rw [nS_s, nS_s, nS_congr n (fun t q => h1 t (by omega)) (fun t q => h2 t (by omega)), ← h1 n (by omega)]
    by_cases hc : c n = true
    · rw [if_pos hc, if_pos hc, h2 n (by omega) hc]
    · rw [if_neg hc, if_neg hc]
theorem nS_le {f : Nat → Nat} {c : Nat → Bool} {M : Nat} : ∀ n : Nat, (∀ t, t < n → f t ≤ M) → nS f c n ≤ n * M
  | 0, _ => by simp [nS_0]
  | n + 1, h => by
    have h1 := nS_le (c := c) n (fun t q => h t (by omega))
    have h2 := h n (by omega)
    rw [nS_s, Nat.succ_mul]
    split <;> omega
/-- a sum on the machine, the condition as a Prop -/
theorem nS_fo {f : Nat → Nat} {c : Nat → Bool} {g : Nat → Int32 → Int32} (n : Nat) (hg : ∀ t, t < n → ∀ a : Nat, g t (nI a) = nI (if c t = true then a + f t else a)) : fo g n 0 0 = nI (nS f c n) := by
  have h := fo_two (f := g) (g := fun t a => if c t = true then a + f t else a) (fun _ a b => a = nI b) n 0 0 0 rfl (fun i a b _ hi e => by
    subst e
    exact hg i (by omega) b)
  exact h

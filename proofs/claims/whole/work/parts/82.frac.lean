/-! Fractions in lowest terms. -/
theorem cmp_0 {n : Nat} (h : n < 2 ^ 63) : (lg_cmp (lN n) 0 = 0) ↔ n = 0 := by
  unfold lg_cmp
  have e0 : (0 : Int64) = lN 0 := rfl
  rw [e0]
  by_cases q : n = 0
  · subst q
    rw [if_neg (fun y => by
      have := (pk_lLT (a := 0) (b := 0) (by omega) (by omega)).mp y
      omega), if_pos rfl]
    simp
  · rw [if_pos ((pk_lLT (a := 0) (b := n) (by omega) h).mpr (by omega))]
    exact ⟨fun y => absurd y (by decide), fun y => absurd y q⟩
theorem cmp_le {n : Nat} (h : n < 2 ^ 63) : (lg_cmp (lN n) 0 ≤ 0) ↔ n = 0 := by
  unfold lg_cmp
  have e0 : (0 : Int64) = lN 0 := rfl
  rw [e0]
  by_cases q : n = 0
  · subst q
    rw [if_neg (fun y => by
      have := (pk_lLT (a := 0) (b := 0) (by omega) (by omega)).mp y
      omega), if_pos rfl]
    exact ⟨fun _ => rfl, fun _ => Int32.le_refl _⟩
  · rw [if_pos ((pk_lLT (a := 0) (b := n) (by omega) h).mpr (by omega))]
    exact ⟨fun y => absurd y (by decide), fun y => absurd y q⟩
theorem lN_0 {n : Nat} (h : n < 2 ^ 63) : (lN n = 0) ↔ n = 0 := pk_lEQ (a := n) (b := 0) h (by omega)
theorem half_rem {a b k : Nat} (hb : b < 2 ^ (k + 1)) (hb0 : 0 < b) (hr : 0 < a % b) : b % (a % b) < 2 ^ k := by
  have h1 : a % b < b := Nat.mod_lt _ hb0
  generalize a % b = r at *
  have h2 := Nat.mod_lt b hr
  have h3 := Nat.div_add_mod b r
  have h4 : 1 ≤ b / r := (Nat.one_le_div_iff hr).mpr (by omega)
  have h5 : r * 1 ≤ r * (b / r) := Nat.mul_le_mul_left r h4
  rw [Nat.pow_succ] at hb
  omega
theorem gcd_2 (a b : Nat) : Nat.gcd a b = Nat.gcd b (a % b) := by rw [Nat.gcd_comm a b, Nat.gcd_rec b a, Nat.gcd_comm]
theorem Fr_commonL : ∀ (k a b m i : Nat), b < 2 ^ k → a < 2 ^ 62 → b < 2 ^ 62 → i + 2 * k ≤ 100 → 2 * k < m → d_Fr_common_L9 m (lN a) (lN b) (nI i) = some (lN (Nat.gcd a b))
  | k, a, b, 0, i, _, _, _, _, hm => by omega
  | 0, a, b, m + 1, i, hb, ha, hb2, hi, _ => by
    have hB : d_Fr_common_L9 (m + 1) (lN a) (lN b) (nI i) = B_Fr_common_L9 (d_Fr_common_L9 m) (lN a) (lN b) (nI i) := rfl
    have b0 : b = 0 := by simp at hb; omega
    subst b0
    rw [hB]
    unfold B_Fr_common_L9
    rw [if_pos ((cmp_0 (by omega)).mpr rfl), Nat.gcd_zero_right]
    exact ite_self _
  | k + 1, a, b, m + 1, i, hb, ha, hb2, hi, hm => by
    have hB : d_Fr_common_L9 (m + 1) (lN a) (lN b) (nI i) = B_Fr_common_L9 (d_Fr_common_L9 m) (lN a) (lN b) (nI i) := rfl
    have e1 : ¬ (100 : Int32) ≤ nI i := nI_ge (b := 100) (by omega) (by omega)
    rw [hB]
    unfold B_Fr_common_L9
    rw [if_neg e1]
    by_cases b0 : b = 0
    · subst b0
      rw [if_pos ((cmp_0 (by omega)).mpr rfl), Nat.gcd_zero_right]
    · rw [if_neg (fun y => b0 ((cmp_0 (by omega)).mp y)), if_neg (fun y => b0 ((lN_0 (by omega)).mp y)), pk_lRem (by omega) (by omega) (by omega), nI_1, gcd_2 a b]
      have hr : a % b < b := Nat.mod_lt _ (by omega)
      obtain ⟨m', rfl⟩ : ∃ m', m = m' + 1 := ⟨m - 1, by omega⟩
      have hB2 : d_Fr_common_L9 (m' + 1) (lN b) (lN (a % b)) (nI (i + 1)) = B_Fr_common_L9 (d_Fr_common_L9 m') (lN b) (lN (a % b)) (nI (i + 1)) := rfl
      have e2 : ¬ (100 : Int32) ≤ nI (i + 1) := nI_ge (b := 100) (by omega) (by omega)
      rw [hB2]
      unfold B_Fr_common_L9
      rw [if_neg e2]
      by_cases r0 : a % b = 0
      · rw [r0, if_pos ((cmp_0 (by omega)).mpr rfl), Nat.gcd_zero_right]
      · rw [if_neg (fun y => r0 ((cmp_0 (by omega)).mp y)), if_neg (fun y => r0 ((lN_0 (by omega)).mp y)), pk_lRem (by omega) (by omega) (by omega), nI_1, gcd_2 b (a % b)]
        have hh := half_rem (a := a) hb (by omega) (by omega)
        have hh2 : b % (a % b) ≤ b := Nat.mod_le _ _
        exact Fr_commonL k (a % b) (b % (a % b)) m' (i + 2) hh (by omega) (by omega) (by omega) (by omega)
theorem Fr_put {a b : Nat} (hb : b < 2 ^ 14) (hb0 : 0 < b) (ha : a < 2 ^ 62) (z : T_Fr) : d_Fr_put (lN a) (lN b) z = some (lN (a / Nat.gcd a b), lN (b / Nat.gcd a b)) := by
  have hg : 0 < Nat.gcd a b := Nat.gcd_pos_of_pos_right a hb0
  have hgb : Nat.gcd a b ≤ b := Nat.gcd_le_right a hb0
  have h1 : d_Fr_common (lN a) (lN b) = some (lN (Nat.gcd a b)) := Fr_commonL 14 a b 1000 0 hb ha (by omega) (by omega) (by omega)
  unfold d_Fr_put
  rw [h1, Option.bind_some]
  generalize Nat.gcd a b = g at *
  rw [if_neg (fun y => by have := (cmp_le (n := g) (by omega)).mp y; omega), if_neg (fun y => by have := (lN_0 (n := g) (by omega)).mp y; omega), if_neg (fun y => by have := (lN_0 (n := g) (by omega)).mp y; omega), pk_lDiv (by omega) hg (by omega), pk_lDiv (by omega) hg (by omega)]
theorem Mo_lowestL (x0 x2 : Int64) (x4 : Int32) (kk : Int64 → Option Int64) : ∀ (k a b m : Nat), b < 2 ^ k → a < 2 ^ 62 → b < 2 ^ 62 → 2 * k < m → d_Mo_lowest_L6 x0 x2 x4 kk m (lN a) (lN b) = kk (lN (Nat.gcd a b))
  | k, a, b, 0, _, _, _, hm => by omega
  | 0, a, b, m + 1, hb, ha, hb2, _ => by
    have hB : d_Mo_lowest_L6 x0 x2 x4 kk (m + 1) (lN a) (lN b) = B_Mo_lowest_L6 x0 x2 x4 kk (d_Mo_lowest_L6 x0 x2 x4 kk m) (lN a) (lN b) := rfl
    have b0 : b = 0 := by simp at hb; omega
    subst b0
    rw [hB]
    unfold B_Mo_lowest_L6
    rw [if_pos ((cmp_0 (by omega)).mpr rfl), Nat.gcd_zero_right]
  | k + 1, a, b, m + 1, hb, ha, hb2, hm => by
    have hB : d_Mo_lowest_L6 x0 x2 x4 kk (m + 1) (lN a) (lN b) = B_Mo_lowest_L6 x0 x2 x4 kk (d_Mo_lowest_L6 x0 x2 x4 kk m) (lN a) (lN b) := rfl
    rw [hB]
    unfold B_Mo_lowest_L6
    by_cases b0 : b = 0
    · subst b0
      rw [if_pos ((cmp_0 (by omega)).mpr rfl), Nat.gcd_zero_right]
    · rw [if_neg (fun y => b0 ((cmp_0 (by omega)).mp y)), if_neg (fun y => b0 ((lN_0 (by omega)).mp y)), pk_lRem (by omega) (by omega) (by omega), gcd_2 a b]
      have hr : a % b < b := Nat.mod_lt _ (by omega)
      obtain ⟨m', rfl⟩ : ∃ m', m = m' + 1 := ⟨m - 1, by omega⟩
      have hB2 : d_Mo_lowest_L6 x0 x2 x4 kk (m' + 1) (lN b) (lN (a % b)) = B_Mo_lowest_L6 x0 x2 x4 kk (d_Mo_lowest_L6 x0 x2 x4 kk m') (lN b) (lN (a % b)) := rfl
      rw [hB2]
      unfold B_Mo_lowest_L6
      by_cases r0 : a % b = 0
      · rw [r0, if_pos ((cmp_0 (by omega)).mpr rfl), Nat.gcd_zero_right]
      · rw [if_neg (fun y => r0 ((cmp_0 (by omega)).mp y)), if_neg (fun y => r0 ((lN_0 (by omega)).mp y)), pk_lRem (by omega) (by omega) (by omega), gcd_2 b (a % b)]
        have hh := half_rem (a := a) hb (by omega) (by omega)
        have hh2 : b % (a % b) ≤ b := Nat.mod_le _ _
        exact Mo_lowestL x0 x2 x4 kk k (a % b) (b % (a % b)) m' hh (by omega) (by omega) (by omega)
theorem Mo_lowest {a b : Nat} (hb : b < 2 ^ 14) (hb0 : 0 < b) (ha : a < 2 ^ 62) (x : Int32) : d_Mo_lowest (lN a) (lN b) x = some (if x = 0 then lN (a / Nat.gcd a b) else lN (b / Nat.gcd a b)) := by
  have hg : 0 < Nat.gcd a b := Nat.gcd_pos_of_pos_right a hb0
  have hgb : Nat.gcd a b ≤ b := Nat.gcd_le_right a hb0
  unfold d_Mo_lowest
  rw [Mo_lowestL (lN a) (lN b) x _ 14 a b 1000 hb ha (by omega) (by omega)]
  generalize Nat.gcd a b = g at *
  have g0 : ¬ lN g = 0 := fun y => by have := (lN_0 (n := g) (by omega)).mp y; omega
  rw [if_neg g0, if_neg g0, pk_lDiv (by omega) hg (by omega), pk_lDiv (by omega) hg (by omega)]
  split <;> rfl
/-! odds -/
def oF (L I ld : Nat) : Nat := (if ld ≤ L then 10 - I else 0) + (if ld ≤ L / 2 then I else 0)
theorem oF_le {L I ld : Nat} (hI : I ≤ 10) : oF L I ld ≤ 10 := by
  unfold oF
  split <;> split <;> omega
/-- the choice of a factor, as the machines write it -/
theorem oF_if {α : Type} {L I ld : Nat} (hL : L ≤ 2000) (hI : I ≤ 10) (hl : ld ≤ 350) (f : Int64 → α) :
    (if nI L < nI ld then (if nI L / 2 < nI ld then f ((0 + 0 : Int32).toInt64) else f ((0 + nI I : Int32).toInt64)) else (if nI L / 2 < nI ld then f (((10 - nI I) + 0 : Int32).toInt64) else f (((10 - nI I) + nI I : Int32).toInt64))) = f (lN (oF L I ld)) := by
  have k1 : (nI L < nI ld) ↔ L < ld := nI_ltI (by omega) (by omega)
  have k2 : nI L / 2 = nI (L / 2) := by rw [show (2 : Int32) = nI 2 from rfl, pk_div (by omega) (by omega) (by omega)]
  have k3 : (nI (L / 2) < nI ld) ↔ L / 2 < ld := nI_ltI (by omega) (by omega)
  have e1 : (10 - nI I : Int32) = nI (10 - I) := pk_sub (a := 10) hI
  rw [k2, e1]
  unfold oF
  by_cases q1 : L < ld
  · rw [if_pos (k1.mpr q1), if_neg (show ¬ ld ≤ L by omega)]
    by_cases q2 : L / 2 < ld
    · rw [if_pos (k3.mpr q2), if_neg (show ¬ ld ≤ L / 2 by omega)]
      rfl
    · rw [if_neg (fun y => q2 (k3.mp y)), if_pos (show ld ≤ L / 2 by omega), Int32.zero_add, nI_l (by omega), Nat.zero_add]
  · rw [if_neg (fun y => q1 (k1.mp y)), if_pos (show ld ≤ L by omega)]
    by_cases q2 : L / 2 < ld
    · rw [if_pos (k3.mpr q2), if_neg (show ¬ ld ≤ L / 2 by omega), Int32.add_zero, nI_l (by omega), Nat.add_zero]
    · rw [if_neg (fun y => q2 (k3.mp y)), if_pos (show ld ≤ L / 2 by omega), nI_add, nI_l (by omega)]
/-- above and below -/
def oU (g : Nat → Nat) : Nat → Nat → Nat → Nat
  | 0, _, u => u
  | k + 1, p, u => oU g k (p + 1) (u * g p)
def oV : Nat → Nat → Nat
  | 0, v => v
  | k + 1, v => oV k (v * 10)
theorem oU_le {g : Nat → Nat} (hg : ∀ p, g p ≤ 10) : ∀ (k p u : Nat), oU g k p u ≤ u * 10 ^ k
  | 0, p, u => by simp [oU]
  | k + 1, p, u => by
    have h1 := oU_le hg k (p + 1) (u * g p)
    have h2 : u * g p * 10 ^ k ≤ u * 10 * 10 ^ k := Nat.mul_le_mul_right _ (Nat.mul_le_mul_left u (hg p))
    have h3 : u * 10 ^ (k + 1) = u * 10 * 10 ^ k := by rw [Nat.pow_succ, Nat.mul_assoc, Nat.mul_comm (10 ^ k) 10]
    show oU g k (p + 1) (u * g p) ≤ _
    omega
theorem oV_eq : ∀ (k v : Nat), oV k v = v * 10 ^ k
  | 0, v => by simp [oV]
  | k + 1, v => by
    show oV k (v * 10) = _
    rw [oV_eq k, Nat.pow_succ, Nat.mul_assoc, Nat.mul_comm (10 ^ k) 10]
theorem p10 {k : Nat} (h : k ≤ 4) : 10 ^ k ≤ 10000 ∧ 0 < 10 ^ k := ⟨Nat.le_trans (Nat.pow_le_pow_right (by omega) h) (by decide), Nat.pow_pos (by omega)⟩
section OD
variable {z : T_St} {np nt : Nat} {W O : Nat → Nat} {K : Nat → Nat → Nat} {L : Nat → Nat}
theorem St_weighL {I : Nat → Nat} (h : SW z np nt W O K L) (r : RG np nt W O K L) (hI : ∀ p, p < np → q_St_ill z p = nI (I p) ∧ I p ≤ 10) (y : T_Fr) : ∀ (k m p u v : Nat), p + k = np → k < m → u ≤ 10000 → v ≤ 10000 → u * 10 ^ k ≤ 10000 → v * 10 ^ k ≤ 10000 → 0 < v →
    d_St_weighOdds_L8 z y m (lN u) (lN v) (nI p) = some (lN (oU (fun p => oF (L p) (I p) (nLd W O nt p)) k p u / Nat.gcd (oU (fun p => oF (L p) (I p) (nLd W O nt p)) k p u) (oV k v)), lN (oV k v / Nat.gcd (oU (fun p => oF (L p) (I p) (nLd W O nt p)) k p u) (oV k v)))
  | k, 0, _, _, _, _, hm, _, _, _, _, _ => by omega
  | 0, m + 1, p, u, v, hp, hm, hu, hv, _, _, hv0 => by
    have hB : d_St_weighOdds_L8 z y (m + 1) (lN u) (lN v) (nI p) = B_St_weighOdds_L8 z y (d_St_weighOdds_L8 z y m) (lN u) (lN v) (nI p) := rfl
    rw [hB]
    unfold B_St_weighOdds_L8
    rw [h.1, show p = np by omega, if_pos (Int32.le_refl _), Fr_put (by omega) hv0 (by omega)]
    rfl
  | k + 1, m + 1, p, u, v, hp, hm, hu, hv, hu2, hv2, hv0 => by
    have hB : d_St_weighOdds_L8 z y (m + 1) (lN u) (lN v) (nI p) = B_St_weighOdds_L8 z y (d_St_weighOdds_L8 z y m) (lN u) (lN v) (nI p) := rfl
    have h4 := r.1
    have h7 := r.2.1
    have e1 : ¬ nI np ≤ nI p := nI_ge (by omega) (by omega)
    have e2 : inb (nI p) 4 = true := inb_n (by omega) (by omega)
    have e3 : (nI p).toNatClampNeg = p := nI_clamp (by omega)
    have hL := r.2.2.2.2.2 p (by omega)
    have hl := nLd_le (O := O) (p := p) h7 r.2.2.1
    have hi := hI p (by omega)
    rw [hB]
    unfold B_St_weighOdds_L8
    rw [h.1, if_neg e1, St_load h r (show p < 4 by omega), Option.bind_some]
    simp only [e2, e3, if_true, h.2.2.2.2.2 p (by omega), hi.1, nI_1]
    rw [oF_if hL hi.2 hl (fun q => d_St_weighOdds_L8 z y m (lN u * q) (lN v * 10) (nI (p + 1)))]
    have e4 : lN u * lN (oF (L p) (I p) (nLd W O nt p)) = lN (u * oF (L p) (I p) (nLd W O nt p)) := lN_mul _ _
    have e5 : lN v * 10 = lN (v * 10) := lN_mul v 10
    have hf := oF_le (L := L p) (ld := nLd W O nt p) hi.2
    have p1 := (p10 (k := k) (by omega)).2
    have x1 : u * oF (L p) (I p) (nLd W O nt p) * 10 ^ k ≤ u * 10 ^ (k + 1) := by
      have h2 : u * oF (L p) (I p) (nLd W O nt p) * 10 ^ k ≤ u * 10 * 10 ^ k := Nat.mul_le_mul_right _ (Nat.mul_le_mul_left u hf)
      have h3 : u * 10 ^ (k + 1) = u * 10 * 10 ^ k := by rw [Nat.pow_succ, Nat.mul_assoc, Nat.mul_comm (10 ^ k) 10]
      omega
    have x2 : v * 10 * 10 ^ k = v * 10 ^ (k + 1) := by rw [Nat.pow_succ, Nat.mul_assoc, Nat.mul_comm (10 ^ k) 10]
    have x3 : u * oF (L p) (I p) (nLd W O nt p) ≤ u * oF (L p) (I p) (nLd W O nt p) * 10 ^ k := Nat.le_mul_of_pos_right _ p1
    have x4 : v * 10 ≤ v * 10 * 10 ^ k := Nat.le_mul_of_pos_right _ p1
    rw [e4, e5]
    exact St_weighL h r hI y k m (p + 1) (u * oF (L p) (I p) (nLd W O nt p)) (v * 10) (by omega) (by omega) (by omega) (by omega) (by omega) (by omega) (by omega)
end OD
theorem Mo_oddsL {r : T_Re} {s : Nat → Int32} {cl : CL} (hR : RC r s cl) (x : Int32) : ∀ (k m p u v : Nat) (w : T_Mo), q_Mo_s w = s → p + k = NN (s 0) → k < m → u ≤ 10000 → v ≤ 10000 → u * 10 ^ k ≤ 10000 → v * 10 ^ k ≤ 10000 → 0 < v →
    ∃ w', d_Mo_odds_L21 x m (lN u) (lN v) (nI p) w = some (if x = 0 then lN (oU (fun p => oF (xL cl s p) (xI cl s p) (nLd (xWt s) (xOw s) (NN (s 1)) p)) k p u / Nat.gcd (oU (fun p => oF (xL cl s p) (xI cl s p) (nLd (xWt s) (xOw s) (NN (s 1)) p)) k p u) (oV k v)) else lN (oV k v / Nat.gcd (oU (fun p => oF (xL cl s p) (xI cl s p) (nLd (xWt s) (xOw s) (NN (s 1)) p)) k p u) (oV k v)), w') ∧ q_Mo_s w' = s ∧ FrM w w'
  | k, 0, _, _, _, _, _, _, hm, _, _, _, _, _ => by omega
  | 0, m + 1, p, u, v, w, hs, hp, hm, hu, hv, _, _, hv0 => by
    have hB : d_Mo_odds_L21 x (m + 1) (lN u) (lN v) (nI p) w = B_Mo_odds_L21 x (d_Mo_odds_L21 x m) (lN u) (lN v) (nI p) w := rfl
    refine ⟨w, ?_, hs, FrM.rf⟩
    rw [hB]
    unfold B_Mo_odds_L21
    rw [hs, if_pos (by rw [hR.1.1.1, ← hp, Nat.add_zero]; exact Int32.le_refl _), Mo_lowest (by omega) hv0 (by omega)]
    rfl
  | k + 1, m + 1, p, u, v, w, hs, hp, hm, hu, hv, hu2, hv2, hv0 => by
    have hB : d_Mo_odds_L21 x (m + 1) (lN u) (lN v) (nI p) w = B_Mo_odds_L21 x (d_Mo_odds_L21 x m) (lN u) (lN v) (nI p) w := rfl
    have rr := hR.RG
    have h4 := rr.1
    have h7 := rr.2.1
    have e1 : ¬ q_Mo_s w 0 ≤ nI p := by rw [hs, hR.1.1.1]; exact nI_ge (by omega) (by omega)
    have hL := rr.2.2.2.2.2 p (by omega)
    have hl := nLd_le (O := xOw s) (p := p) h7 rr.2.2.1
    have hi : xI cl s p ≤ 10 := by unfold xI; split <;> omega
    obtain ⟨B1, T1, y1⟩ := Mo_illOf (r := r) (w := w) (cl := cl) (p := p) (by rw [hs]; exact hR.lc) (by rw [hs]; exact hR.rg) (by rw [hs]; omega)
    obtain ⟨B2, T2, y2⟩ := Mo_liftsOf (r := r) (w := u_Mo_truths (u_Mo_by w B1) T1) (cl := cl) (p := p) (by show LcR _ (q_Mo_s w) cl; rw [hs]; exact hR.lc) (by show RgS (q_Mo_s w); rw [hs]; exact hR.rg) (by show p < NN (q_Mo_s w 0); rw [hs]; omega)
    have y3 := Mo_loadOf (w := u_Mo_truths (u_Mo_by (u_Mo_truths (u_Mo_by w B1) T1) B2) T2) (nt := NN (s 1)) (W := xWt s) (O := xOw s) (by show MT (q_Mo_s w) _ _ _; rw [hs]; exact MT_of hR.rg) h7 (fun t ht => rr.o4 ht) (p := p) (by omega)
    rw [hs] at y1
    have y2 : d_Mo_liftsOf (nI p) (u_Mo_truths (u_Mo_by w B1) T1) = some (nI (xL cl s p), u_Mo_truths (u_Mo_by (u_Mo_truths (u_Mo_by w B1) T1) B2) T2) := by
      have : q_Mo_s (u_Mo_truths (u_Mo_by w B1) T1) = s := hs
      rw [this] at y2
      exact y2
    have hf := oF_le (L := xL cl s p) (ld := nLd (xWt s) (xOw s) (NN (s 1)) p) hi
    have p1 := (p10 (k := k) (by omega)).2
    have x1 : u * oF (xL cl s p) (xI cl s p) (nLd (xWt s) (xOw s) (NN (s 1)) p) * 10 ^ k ≤ u * 10 ^ (k + 1) := by
      have h2 : u * oF (xL cl s p) (xI cl s p) (nLd (xWt s) (xOw s) (NN (s 1)) p) * 10 ^ k ≤ u * 10 * 10 ^ k := Nat.mul_le_mul_right _ (Nat.mul_le_mul_left u hf)
      have h3 : u * 10 ^ (k + 1) = u * 10 * 10 ^ k := by rw [Nat.pow_succ, Nat.mul_assoc, Nat.mul_comm (10 ^ k) 10]
      omega
    have x2 : v * 10 * 10 ^ k = v * 10 ^ (k + 1) := by rw [Nat.pow_succ, Nat.mul_assoc, Nat.mul_comm (10 ^ k) 10]
    have x3 : u * oF (xL cl s p) (xI cl s p) (nLd (xWt s) (xOw s) (NN (s 1)) p) ≤ u * oF (xL cl s p) (xI cl s p) (nLd (xWt s) (xOw s) (NN (s 1)) p) * 10 ^ k := Nat.le_mul_of_pos_right _ p1
    have x4 : v * 10 ≤ v * 10 * 10 ^ k := Nat.le_mul_of_pos_right _ p1
    obtain ⟨w', g1, g2, g3⟩ := Mo_oddsL hR x k m (p + 1) (u * oF (xL cl s p) (xI cl s p) (nLd (xWt s) (xOw s) (NN (s 1)) p)) (v * 10) (u_Mo_truths (u_Mo_by (u_Mo_truths (u_Mo_by w B1) T1) B2) T2) hs (by omega) (by omega) (by omega) (by omega) (by omega) (by omega) (by omega)
    refine ⟨w', ?_, g2, g3⟩
    rw [hB]
    unfold B_Mo_odds_L21
    rw [if_neg e1, y1, Option.bind_some]
    show Option.bind (d_Mo_liftsOf (nI p) (u_Mo_truths (u_Mo_by w B1) T1)) _ = _
    rw [y2, Option.bind_some]
    show Option.bind (d_Mo_loadOf (nI p) (u_Mo_truths (u_Mo_by (u_Mo_truths (u_Mo_by w B1) T1) B2) T2)) _ = _
    rw [y3, Option.bind_some]
    refine Eq.trans (oF_if hL hi hl (fun q => d_Mo_odds_L21 x m (lN u * q) (lN v * 10) (nI p + 1) (u_Mo_truths (u_Mo_by (u_Mo_truths (u_Mo_by w B1) T1) B2) T2))) ?_
    have e4 : lN u * lN (oF (xL cl s p) (xI cl s p) (nLd (xWt s) (xOw s) (NN (s 1)) p)) = lN (u * oF (xL cl s p) (xI cl s p) (nLd (xWt s) (xOw s) (NN (s 1)) p)) := lN_mul _ _
    have e5 : lN v * 10 = lN (v * 10) := lN_mul v 10
    show d_Mo_odds_L21 x m (lN u * lN (oF (xL cl s p) (xI cl s p) (nLd (xWt s) (xOw s) (NN (s 1)) p))) (lN v * 10) (nI p + 1) _ = _
    rw [e4, e5, nI_1]
    exact g1
theorem s_odds : S_odds Rl := by
  intro z w x h
  obtain ⟨⟨cl, hR⟩, -⟩ := id h
  have h4 := hR.1.1.2
  unfold d_OL_odds d_Mo_odds
  rw [within_in]
  rcases in_cases x 1 with h3 | ⟨h3, -, -⟩
  · rw [h3]
    exact ⟨_, z, w, rfl, rfl, h⟩
  rw [h3]
  have z9 : ¬ (1 : Int32) = 0 := by decide
  simp only [Option.bind_some, z9, if_false]
  obtain ⟨z1, F, w1, y1, -, hT, hS, -⟩ := ask2 hR
  rw [y1]
  simp only [Option.bind_some]
  have p1 := p10 (k := NN (q_Mo_s w 0)) h4
  obtain ⟨w', m1, m2, m3⟩ := Mo_oddsL hR x (NN (q_Mo_s w 0)) 1000 0 1 1 w rfl (by omega) (by omega) (by omega) (by omega) (by omega) (by omega) (by omega)
  have g1 := St_weighL (I := xI cl (q_Mo_s w)) hS hR.RG (fun p hp => ⟨(hT.2.2.2.2 p hp).2.1, by unfold xI; split <;> omega⟩) (q_OL_fraction z) (NN (q_Mo_s w 0)) 1000 0 1 1 (by omega) (by omega) (by omega) (by omega) (by omega) (by omega) (by omega)
  generalize oU (fun p => oF (xL cl (q_Mo_s w) p) (xI cl (q_Mo_s w) p) (nLd (xWt (q_Mo_s w)) (xOw (q_Mo_s w)) (NN (q_Mo_s w 1)) p)) (NN (q_Mo_s w 0)) 0 1 = A at *
  generalize oV (NN (q_Mo_s w 0)) 1 = V at *
  have g1 : d_St_weighOdds (q_OL_standing (u_OL_now (u_OL_standing z z1) (u_Re_facts (q_OL_now z) F))) (q_OL_fraction (u_OL_now (u_OL_standing z z1) (u_Re_facts (q_OL_now z) F))) = _ := g1
  have m1 : d_Mo_odds_L21 x 1000 1 1 0 w = _ := m1
  rw [g1, m1]
  simp only [Option.bind_some]
  have fin : Rl (u_OL_fraction (u_OL_now (u_OL_standing z z1) (u_Re_facts (q_OL_now z) F)) (lN (A / Nat.gcd A V), lN (V / Nat.gcd A V))) w' := by
    refine Rl.set (cl := cl) h ?_ rfl rfl rfl m3
    rw [m2]
    exact hR
  by_cases q0 : x = 0
  · rw [if_pos q0, if_pos q0]
    exact ⟨_, _, w', rfl, rfl, fin⟩
  · rw [if_neg q0, if_neg q0]
    exact ⟨_, _, w', rfl, rfl, fin⟩

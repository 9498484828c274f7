/-! A LAND's clauses asked, on both sides. An E is a list of steps: (l, g, n), l < 6 a test (letter, sign, number), 6 not, 7 and, 8 or. -/
def okO (q : Nat × Nat × Nat) : Prop := q.1 ≤ 8 ∧ q.2.1 < 3 ∧ q.2.2 ≤ 99
/-- a step as the class's code, as the model's step -/
def cO (q : Nat × Nat × Nat) : Int32 := if q.1 < 6 then nI (1000 * q.1 + 100 * q.2.1 + q.2.2) else if q.1 = 6 then (-1) else if q.1 = 7 then (-2) else (-3)
def mO (q : Nat × Nat × Nat) : Int32 := if q.1 < 6 then nI (q.1 + 8 * q.2.1 + 32 * q.2.2) else if q.1 = 6 then (-1) else if q.1 = 7 then (-2) else (-3)
def tsO (fa : Nat → Nat) (q : Nat × Nat × Nat) : Bool := if q.2.1 = 0 then decide (fa q.1 < q.2.2) else if q.2.1 = 1 then decide (fa q.1 = q.2.2) else decide (q.2.2 < fa q.1)
/-- how many truths wait behind the steps; none: they don't stand well -/
def dpO : List (Nat × Nat × Nat) → Nat → Option Nat
  | [], d => some d
  | q :: r, d => if q.1 < 6 then (if d < 20 then dpO r (d + 1) else none) else if q.1 = 6 then (if 1 ≤ d then dpO r d else none) else (if 2 ≤ d then dpO r (d - 1) else none)
/-- one step on the truths that wait, the latest ahead -/
def evS (fa : Nat → Nat) (q : Nat × Nat × Nat) (st : List Bool) : List Bool :=
  if q.1 < 6 then tsO fa q :: st else if q.1 = 6 then (match st with
    | b :: s => (!b) :: s
    | [] => []) else (match st with
    | b :: a :: s => (if q.1 = 7 then (a && b) else (a || b)) :: s
    | _ => [])
def evO (fa : Nat → Nat) : List (Nat × Nat × Nat) → List Bool → List Bool
  | [], st => st
  | q :: r, st => evO fa r (evS fa q st)
def vlO (fa : Nat → Nat) (ops : List (Nat × Nat × Nat)) : Bool := (evO fa ops []).getD 0 false
/-- the class's bits of the truths -/
def WtR (x : Int32) (st : List Bool) : Prop := ∀ i, i < st.length → bt x i = st.getD i false
/-- the model's row of the truths -/
def TrR (T : Nat → Int32) (st : List Bool) : Prop := ∀ i, i < st.length → T (st.length - 1 - i) = bI (st.getD i false)
theorem evS_len {fa : Nat → Nat} {q : Nat × Nat × Nat} {r : List (Nat × Nat × Nat)} {st : List Bool} {d : Nat} (h : dpO (q :: r) st.length = some d) (h20 : st.length ≤ 20) : dpO r (evS fa q st).length = some d ∧ (evS fa q st).length ≤ 20 ∧ (6 ≤ q.1 → 1 ≤ st.length) ∧ (7 ≤ q.1 → 2 ≤ st.length) ∧ (q.1 < 6 → st.length < 20) := by
  unfold dpO at h
  unfold evS
  by_cases h1 : q.1 < 6
  · rw [if_pos h1] at h
    by_cases h2 : st.length < 20
    · rw [if_pos h2] at h
      rw [if_pos h1]
      exact ⟨h, by simp; omega, by omega, by omega, fun _ => h2⟩
    · rw [if_neg h2] at h; cases h
  · rw [if_neg h1] at h
    rw [if_neg h1]
    by_cases h3 : q.1 = 6
    · rw [if_pos h3] at h
      rw [if_pos h3]
      by_cases h2 : 1 ≤ st.length
      · rw [if_pos h2] at h
        cases st with
        | nil => simp at h2
        | cons b s => exact ⟨by simpa using h, by simpa using h20, fun _ => h2, by omega, by omega⟩
      · rw [if_neg h2] at h; cases h
    · rw [if_neg h3] at h
      rw [if_neg h3]
      by_cases h2 : 2 ≤ st.length
      · rw [if_pos h2] at h
        match st, h2, h, h20 with
        | [], h2, _, _ => simp at h2
        | [_], h2, _, _ => simp at h2
        | b :: a :: s, h2, h, h20 => exact ⟨by simpa using h, by simp at h20 ⊢; omega, by simp, fun _ => h2, by omega⟩
      · rw [if_neg h2] at h; cases h
section LE
variable {fa : Nat → Nat} {z : T_La} {F : Nat → Int32}
theorem La_passes (hF : ∀ i, i < 6 → F i = nI (fa i) ∧ fa i ≤ 99) {q : Nat × Nat × Nat} (hq : okO q) (h6 : q.1 < 6) : d_La_passes (cO q) F = some (bI (tsO fa q)) := by
  obtain ⟨l, g, n⟩ := q
  obtain ⟨h1, h2, h3⟩ := hq
  simp only at h1 h2 h3 h6
  have e0 : cO (l, g, n) = nI (1000 * l + 100 * g + n) := if_pos h6
  have e1 : nI (1000 * l + 100 * g + n) / 1000 = nI l := by
    rw [show (1000 : Int32) = nI 1000 from rfl, pk_div (by omega) (by omega) (by omega), show (1000 * l + 100 * g + n) / 1000 = l by omega]
  have e2 : nI (1000 * l + 100 * g + n) / 100 = nI (10 * l + g) := by
    rw [show (100 : Int32) = nI 100 from rfl, pk_div (by omega) (by omega) (by omega), show (1000 * l + 100 * g + n) / 100 = 10 * l + g by omega]
  have e3 : nI (10 * l + g) - nI (10 * l + g) / 10 * 10 = nI g := by
    rw [show (10 : Int32) = nI 10 from rfl, pk_rem (by omega) (by omega) (by omega), show (10 * l + g) % 10 = g by omega]
  have e4 : nI (1000 * l + 100 * g + n) - nI (10 * l + g) * 100 = nI n := by
    rw [show (100 : Int32) = nI 100 from rfl, pk_mul, pk_sub (by omega), show 1000 * l + 100 * g + n - (10 * l + g) * 100 = n by omega]
  have e5 : inb (nI l) 6 = true := inb_n h6 (by omega)
  have e6 : (nI l).toNatClampNeg = l := nI_clamp (by omega)
  have hf := hF l h6
  have k0 : (nI g = 0) ↔ g = 0 := nI_eq (b := 0) (by omega) (by omega)
  have k1 : (nI g = 1) ↔ g = 1 := nI_eq (b := 1) (by omega) (by omega)
  have k2 : (nI n ≤ nI (fa l)) ↔ n ≤ fa l := nI_leI (by omega) (by omega)
  have k3 : (nI (fa l) ≤ nI n) ↔ fa l ≤ n := nI_leI (by omega) (by omega)
  have k4 : (nI (fa l) = nI n) ↔ fa l = n := nI_eq (by omega) (by omega)
  unfold d_La_passes
  rw [e0]
  simp only [e1, e2, e3, e4, e5, e6, hf.1, k0, k1, k2, k3, k4, if_true]
  unfold tsO
  by_cases g0 : g = 0
  · subst g0
    by_cases y : n ≤ fa l
    · have y2 : ¬ fa l < n := by omega
      simp [y, y2, bI]
    · have y2 : fa l < n := by omega
      simp [y, y2, bI]
  · by_cases g1 : g = 1
    · subst g1
      by_cases y : fa l = n
      · simp [y, bI]
      · simp [y, bI]
    · by_cases y : fa l ≤ n
      · have y2 : ¬ n < fa l := by omega
        simp [g0, g1, y, y2, bI]
      · have y2 : n < fa l := by omega
        simp [g0, g1, y, y2, bI]
theorem WtR_push {x : Int32} {st : List Bool} (b : Bool) (h : WtR x st) (hl : st.length < 20) : WtR ((x <<< (1 &&& 31)) ||| bI b) (b :: st) := by
  intro i hi
  simp only [List.length_cons] at hi
  rw [b_or, show bt (x <<< (1 &&& 31)) i = (decide (1 ≤ i) && bt x (i - 1)) from b_shl 1 (by omega) x (by omega)]
  cases i with
  | zero =>
    cases b
    · simp [bI, b_0]
    · simp [bI, b_1]
  | succ j =>
    have h1 : bt (bI b) (j + 1) = false := by
      cases b
      · exact b_0 _
      · exact (b_1 _ (by omega)).trans (by simp)
    rw [h1, Nat.add_sub_cancel, h j (by omega)]
    simp
theorem WtR_not {x : Int32} {b : Bool} {st : List Bool} (h : WtR x (b :: st)) (hl : st.length < 20) : WtR (x ^^^ 1) ((!b) :: st) := by
  intro i hi
  simp only [List.length_cons] at hi
  rw [b_xor, b_1 i (by omega), h i (by simpa using hi)]
  cases i with
  | zero => simp
  | succ j => simp
theorem WtR_and {x : Int32} {b a : Bool} {st : List Bool} (h : WtR x (b :: a :: st)) (hl : st.length < 20) : WtR ((x >>> (1 &&& 31)) &&& (x ||| (-2))) ((a && b) :: st) := by
  intro i hi
  simp only [List.length_cons] at hi
  have e1 : bt (x >>> (1 &&& 31)) i = bt x (1 + i) := (b_sshr 1 (by omega) x (by omega)).trans (if_pos (by omega))
  rw [b_and, b_or, e1, b_m2 i (by omega), h (1 + i) (by simp; omega), h i (by simp; omega)]
  cases i with
  | zero => simp
  | succ j => simp [show 1 + (j + 1) = (j + 1) + 1 by omega]
theorem WtR_or {x : Int32} {b a : Bool} {st : List Bool} (h : WtR x (b :: a :: st)) (hl : st.length < 20) : WtR ((x >>> (1 &&& 31)) ||| (x &&& 1)) ((a || b) :: st) := by
  intro i hi
  simp only [List.length_cons] at hi
  have e1 : bt (x >>> (1 &&& 31)) i = bt x (1 + i) := (b_sshr 1 (by omega) x (by omega)).trans (if_pos (by omega))
  rw [b_or, b_and, e1, b_1 i (by omega), h (1 + i) (by simp; omega), h i (by simp; omega)]
  cases i with
  | zero => simp
  | succ j => simp [show 1 + (j + 1) = (j + 1) + 1 by omega]
theorem nI_neg_ne (n : Nat) (h : n < 2 ^ 31) (k : Int32) (hk : k < 0) : ¬ nI n = k := fun q => nI_pos h (by rw [q]; exact hk)
theorem La_holdsL (hF : ∀ i, i < 6 → F i = nI (fa i) ∧ fa i ≤ 99) (k : Int32 → Option Int32) : ∀ (ops : List (Nat × Nat × Nat)) (c m : Nat) (x : Int32) (st : List Bool) (d e : Nat), e = c + ops.length → (∀ j, j < ops.length → q_La_code z (c + j) = cO (ops.getD j (0, 0, 0))) → (∀ q ∈ ops, okO q) → e ≤ 100 → WtR x st → dpO ops st.length = some d → st.length ≤ 20 → ops.length < m →
    ∃ x', d_La_holds_L6 (nI e) z F k m x (nI c) = k x' ∧ WtR x' (evO fa ops st)
  | [], c, 0, _, _, _, _, _, _, _, _, _, _, _, hm => by simp at hm
  | _ :: _, c, 0, _, _, _, _, _, _, _, _, _, _, _, hm => by simp at hm
  | [], c, m + 1, x, st, d, e, he, _, _, _, hW, _, _, _ => by
    refine ⟨x, ?_, hW⟩
    have hB : d_La_holds_L6 (nI e) z F k (m + 1) x (nI c) = B_La_holds_L6 (nI e) z F k (d_La_holds_L6 (nI e) z F k m) x (nI c) := rfl
    rw [hB]
    unfold B_La_holds_L6
    rw [he]
    exact if_pos (Int32.le_refl _)
  | q :: r, c, m + 1, x, st, d, e, he, hc, hok, h100, hW, hd, h20, hm => by
    have hB : d_La_holds_L6 (nI e) z F k (m + 1) x (nI c) = B_La_holds_L6 (nI e) z F k (d_La_holds_L6 (nI e) z F k m) x (nI c) := rfl
    simp only [List.length_cons] at he hc hm
    have e1 : ¬ nI e ≤ nI c := nI_ge (by omega) (by omega)
    have e2 : inb (nI c) 100 = true := inb_n (by omega) (by omega)
    have e3 : (nI c).toNatClampNeg = c := nI_clamp (by omega)
    have e4 : q_La_code z c = cO q := hc 0 (by omega)
    have hq := hok q List.mem_cons_self
    obtain ⟨l1, l2, l3, l4, l5⟩ := evS_len (fa := fa) hd h20
    have go : ∀ x', WtR x' (evS fa q st) → ∃ x'', d_La_holds_L6 (nI e) z F k m x' (nI (c + 1)) = k x'' ∧ WtR x'' (evO fa r (evS fa q st)) := fun x' hx' =>
      La_holdsL hF k r (c + 1) m x' (evS fa q st) d e (by omega) (fun j hj => by
        have h9 := hc (j + 1) (by omega)
        rw [show c + 1 + j = c + (j + 1) by omega, h9]
        rfl) (fun q' h' => hok q' (List.mem_cons_of_mem _ h')) h100 hx' l1 l2 (by omega)
    rw [hB]
    unfold B_La_holds_L6
    simp only [e1, e2, e3, e4, if_false, if_true, nI_1]
    show ∃ x', _ = k x' ∧ WtR x' (evO fa r (evS fa q st))
    by_cases h6 : q.1 < 6
    · have c1 : cO q = nI (1000 * q.1 + 100 * q.2.1 + q.2.2) := if_pos h6
      have hb1 := hq.1
      have hb2 := hq.2.1
      have hb3 := hq.2.2
      have n1 : ¬ cO q = -1 := by rw [c1]; exact nI_neg_ne _ (by omega) _ (by decide)
      have n2 : ¬ cO q = -2 := by rw [c1]; exact nI_neg_ne _ (by omega) _ (by decide)
      have n3 : ¬ cO q = -3 := by rw [c1]; exact nI_neg_ne _ (by omega) _ (by decide)
      have hv : evS fa q st = tsO fa q :: st := if_pos h6
      have hw : WtR ((x <<< (1 &&& 31)) ||| bI (tsO fa q)) (evS fa q st) := by rw [hv]; exact WtR_push _ hW (l5 h6)
      obtain ⟨x'', g1, g2⟩ := go _ hw
      refine ⟨x'', ?_, g2⟩
      rw [← g1]
      simp only [n1, n2, n3, if_false, La_passes hF hq h6, Option.bind_some, bI_0]
      cases tsO fa q <;> rfl
    · by_cases h7 : q.1 = 6
      · have c1 : cO q = -1 := by unfold cO; rw [if_neg h6, if_pos h7]
        match st, hW, l3 (by omega), go, h20 with
        | b :: s, hW, _, go, h20 =>
          have hv : evS fa q (b :: s) = (!b) :: s := by unfold evS; rw [if_neg h6, if_pos h7]
          obtain ⟨x'', g1, g2⟩ := go (x ^^^ 1) (by rw [hv]; exact WtR_not hW (by simp at h20; omega))
          refine ⟨x'', ?_, g2⟩
          rw [← g1, c1]
          rfl
      · match st, hW, l4 (by omega), go, h20 with
        | b :: a :: s, hW, _, go, h20 =>
          by_cases h8 : q.1 = 7
          · have c1 : cO q = -2 := by unfold cO; rw [if_neg h6, if_neg h7, if_pos h8]
            have hv : evS fa q (b :: a :: s) = (a && b) :: s := by unfold evS; rw [if_neg h6, if_neg h7]; simp [h8]
            obtain ⟨x'', g1, g2⟩ := go ((x >>> (1 &&& 31)) &&& (x ||| (-2))) (by rw [hv]; exact WtR_and hW (by simp at h20; omega))
            refine ⟨x'', ?_, g2⟩
            rw [← g1, c1]
            rfl
          · have c1 : cO q = -3 := by unfold cO; rw [if_neg h6, if_neg h7, if_neg h8]
            have hv : evS fa q (b :: a :: s) = (a || b) :: s := by unfold evS; rw [if_neg h6, if_neg h7]; simp [h8]
            obtain ⟨x'', g1, g2⟩ := go ((x >>> (1 &&& 31)) ||| (x &&& 1)) (by rw [hv]; exact WtR_or hW (by simp at h20; omega))
            refine ⟨x'', ?_, g2⟩
            rw [← g1, c1]
            rfl
        | [_], _, h, _, _ => simp at h
        | [], _, h, _, _ => simp at h
theorem evO_len (fa : Nat → Nat) : ∀ (ops : List (Nat × Nat × Nat)) (st : List Bool) (d : Nat), dpO ops st.length = some d → st.length ≤ 20 → (evO fa ops st).length = d
  | [], st, d, h, _ => by simpa [dpO, evO] using h
  | q :: r, st, d, h, h20 => by
    obtain ⟨l1, l2, -⟩ := evS_len (fa := fa) h h20
    exact evO_len fa r (evS fa q st) d l1 l2
theorem La_holds (hF : ∀ i, i < 6 → F i = nI (fa i) ∧ fa i ≤ 99) {ops : List (Nat × Nat × Nat)} {c : Nat} (hc : ∀ j, j < ops.length → q_La_code z (c + j) = cO (ops.getD j (0, 0, 0))) (hok : ∀ q ∈ ops, okO q) (h100 : c + ops.length ≤ 100) (hd : dpO ops 0 = some 1) :
    d_La_holds (nI c) (nI (c + ops.length)) z F = some (bI (vlO fa ops)) := by
  unfold d_La_holds
  obtain ⟨x', g1, g2⟩ := La_holdsL (z := z) hF (fun x4_6 => if (x4_6 &&& 1) = 1 then (some (1)) else (some (0))) ops c 1000 0 [] 1 (c + ops.length) rfl hc hok h100 (fun i hi => by simp at hi) hd (by simp) (by omega)
  refine Eq.trans g1 ?_
  have hl := evO_len fa ops [] 1 hd (by simp)
  have hb := g2 0 (by omega)
  simp only [ow_and1_1, hb]
  unfold vlO bI
  split <;> rfl
end LE

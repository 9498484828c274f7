/-! What a test asks, on both sides; the invariant of a realm and the model's row. -/
section TE
variable {w : T_Mo} {x1 x2 x3 : Int32}
theorem Mo_tells_pt (h2 : ¬ x2 = 99) (h3 : ¬ x3 = 99) (i10 : inb (10 + x2) 901 = true) (i22 : inb (22 + x2) 901 = true) (i58 : inb (58 + x3) 901 = true) :
    d_Mo_tells x1 x2 x3 w = (d_Mo_sumOf x1 (u_Mo_by w (upd (upd (upd (upd (upd (upd (q_Mo_by w) 0 x2) 1 (q_Mo_s w (10 + x2).toNatClampNeg)) 2 (q_Mo_s w (22 + x2).toNatClampNeg / 10)) 3 x3) 4 (q_Mo_s w (58 + x3).toNatClampNeg / 10)) 5 (q_Mo_s w 6 - q_Mo_s w 6 / 10 * 10)))).bind fun v => some (v.1, v.2) := by
  unfold d_Mo_tells
  rw [if_neg h2, if_neg h2, if_pos i10, if_neg h2, if_pos i22, if_neg h3, if_pos i58]
theorem Mo_tells_p (h2 : ¬ x2 = 99) (i10 : inb (10 + x2) 901 = true) (i22 : inb (22 + x2) 901 = true) :
    d_Mo_tells x1 x2 99 w = (d_Mo_sumOf x1 (u_Mo_by w (upd (upd (upd (upd (upd (upd (q_Mo_by w) 0 x2) 1 (q_Mo_s w (10 + x2).toNatClampNeg)) 2 (q_Mo_s w (22 + x2).toNatClampNeg / 10)) 3 99) 4 99) 5 (q_Mo_s w 6 - q_Mo_s w 6 / 10 * 10)))).bind fun v => some (v.1, v.2) := by
  unfold d_Mo_tells
  rw [if_neg h2, if_neg h2, if_pos i10, if_neg h2, if_pos i22, if_pos rfl]
theorem Mo_tells_t (h3 : ¬ x3 = 99) (i58 : inb (58 + x3) 901 = true) :
    d_Mo_tells x1 99 x3 w = (d_Mo_sumOf x1 (u_Mo_by w (upd (upd (upd (upd (upd (upd (q_Mo_by w) 0 99) 1 99) 2 99) 3 x3) 4 (q_Mo_s w (58 + x3).toNatClampNeg / 10)) 5 (q_Mo_s w 6 - q_Mo_s w 6 / 10 * 10)))).bind fun v => some (v.1, v.2) := by
  unfold d_Mo_tells
  rw [if_pos rfl, if_pos rfl, if_pos rfl, if_neg h3, if_pos i58]
end TE
section TC
variable {r : T_Re} {x : Int32}
theorem Re_tellPerson (i4 : inb x 4 = true) : d_Re_tellPerson x r = some (u_Re_facts r (upd (upd (upd (upd (q_Re_facts r) 0 x) 1 (q_Pe_kind (q_Re_people r) x.toNatClampNeg)) 2 (q_Pe_age (q_Re_people r) x.toNatClampNeg / 10)) 5 (q_Re_year r - q_Re_year r / 10 * 10))) := by
  unfold d_Re_tellPerson
  rw [if_pos i4, if_pos i4]
theorem Re_tellNobody : d_Re_tellNobody r = some (u_Re_facts r (upd (upd (upd (upd (q_Re_facts r) 0 99) 1 99) 2 99) 5 (q_Re_year r - q_Re_year r / 10 * 10))) := rfl
theorem Re_tellThing (i7 : inb x 7 = true) : d_Re_tellThing x r = some (u_Re_facts r (upd (upd (q_Re_facts r) 3 x) 4 (q_Th_weight (q_Re_things r) x.toNatClampNeg / 10))) := by
  unfold d_Re_tellThing
  rw [if_pos i7]
theorem Re_tellNoThing : d_Re_tellNoThing r = some (u_Re_facts r (upd (upd (q_Re_facts r) 3 99) 4 99)) := rfl
end TC
/-- six facts -/
def fV (a b c d e f : Nat) (i : Nat) : Nat := if i = 0 then a else if i = 1 then b else if i = 2 then c else if i = 3 then d else if i = 4 then e else f
theorem fV_of {F : Nat → Int32} {a b c d e f : Nat} (ha : a ≤ 99) (hb : b ≤ 99) (hc : c ≤ 99) (hd : d ≤ 99) (he : e ≤ 99) (hf : f ≤ 99) (h0 : F 0 = nI a) (h1 : F 1 = nI b) (h2 : F 2 = nI c) (h3 : F 3 = nI d) (h4 : F 4 = nI e) (h5 : F 5 = nI f) : ∀ i, i < 6 → F i = nI (fV a b c d e f i) ∧ fV a b c d e f i ≤ 99 := by
  intro i hi
  match i, hi with
  | 0, _ => exact ⟨h0, ha⟩
  | 1, _ => exact ⟨h1, hb⟩
  | 2, _ => exact ⟨h2, hc⟩
  | 3, _ => exact ⟨h3, hd⟩
  | 4, _ => exact ⟨h4, he⟩
  | 5, _ => exact ⟨h5, hf⟩
  | i + 6, hi => exact absurd hi (by omega)
abbrev NN (x : Int32) : Nat := x.toNatClampNeg
def rg (x : Int32) (m : Nat) : Prop := x = nI (NN x) ∧ NN x ≤ m
theorem rg_n {k m : Nat} (h : k ≤ m) (hm : m < 2 ^ 31) : rg (nI k) m := by
  have e : NN (nI k) = k := nI_clamp (by omega)
  exact ⟨by rw [e], by rw [e]; exact h⟩
theorem rg_N {k : Nat} (h : k < 2 ^ 31) : NN (nI k) = k := nI_clamp h
theorem rg_of {x M : Int32} {m : Nat} (hM : M.toInt = m) (h : ¬ x < 0) (h5 : ¬ M < x) (hm : m < 2 ^ 31) : rg x m := by
  obtain ⟨j, h1, h2⟩ := nI_of2 hM h (Int32.not_lt.mp h5)
  rw [h2]
  exact rg_n h1 hm
def RgS (s : Nat → Int32) : Prop :=
  rg (s 0) 4 ∧ rg (s 1) 7 ∧ rg (s 2) 5 ∧ rg (s 3) 12 ∧ rg (s 4) 100 ∧ rg (s 6) 99 ∧
  (∀ p, p < NN (s 0) → rg (s (10 + p)) 6 ∧ rg (s (14 + p)) 9 ∧ rg (s (18 + p)) 99 ∧ rg (s (22 + p)) 99 ∧ rg (s (26 + p)) 7 ∧ ∀ i, i < NN (s (26 + p)) → rg (s (30 + 7 * p + i)) 6 ∧ NN (s (30 + 7 * p + i)) < NN (s 1)) ∧
  (∀ t, t < NN (s 1) → rg (s (58 + t)) 50 ∧ rg (s (65 + t)) 4 ∧ (NN (s (65 + t)) < NN (s 0) ∨ NN (s (65 + t)) = 4)) ∧
  (∀ i, i < NN (s 3) → rg (s (72 + i)) 3 ∧ NN (s (72 + i)) < NN (s 0) ∧ (s (84 + i) = 0 ∨ s (84 + i) = 1)) ∧
  (∀ i, i < NN (s 4) → rg (s (96 + i)) 127) ∧
  (s 5 = -1 ∨ ∃ h, s 5 = nI h ∧ h < NN (s 2))
abbrev CL : Type := List (Nat × Nat × List (Nat × Nat × Nat))
def ReC (r : T_Re) (s : Nat → Int32) (cl : CL) : Prop :=
  q_Pe_size (q_Re_people r) = s 0 ∧ q_Th_size (q_Re_things r) = s 1 ∧ q_Re_lands r = s 2 ∧ q_Re_seen r = s 3 ∧ q_Re_signs r = s 4 ∧ q_Re_year r = s 6 ∧
  (∀ p, p < NN (s 0) → q_Pe_kind (q_Re_people r) p = s (10 + p) ∧ q_Pe_v (q_Re_people r) p = s (14 + p) ∧ q_Pe_strength (q_Re_people r) p = s (18 + p) ∧ q_Pe_age (q_Re_people r) p = s (22 + p) ∧ q_Pe_rowSize (q_Re_people r) p = s (26 + p) ∧ ∀ i, i < NN (s (26 + p)) → q_Pe_rows (q_Re_people r) p i = s (30 + 7 * p + i)) ∧
  (∀ t, t < NN (s 1) → q_Th_weight (q_Re_things r) t = s (58 + t) ∧ q_Th_owner (q_Re_things r) t = oC (NN (s (65 + t)))) ∧
  (∀ i, i < NN (s 3) → q_Re_seenWho r i = s (72 + i) ∧ q_Re_seenCould r i = s (84 + i)) ∧
  (∀ i, i < NN (s 4) → q_Re_tape r i = s (96 + i)) ∧ LcR (q_Re_land r) s cl
/-- LIKE, LIFTS, ILL, wear by the row -/
def fPT (s : Nat → Int32) (p t : Nat) : Nat → Nat := fV p (NN (s (10 + p))) (NN (s (22 + p)) / 10) t (NN (s (58 + t)) / 10) (NN (s 6) % 10)
def fP (s : Nat → Int32) (p : Nat) : Nat → Nat := fV p (NN (s (10 + p))) (NN (s (22 + p)) / 10) 99 99 (NN (s 6) % 10)
def fT (s : Nat → Int32) (t : Nat) : Nat → Nat := fV 99 99 99 t (NN (s (58 + t)) / 10) (NN (s 6) % 10)
def xK (cl : CL) (s : Nat → Int32) (p t : Nat) : Nat := 1 + toO (fPT s p t) 0 cl
def xL (cl : CL) (s : Nat → Int32) (p : Nat) : Nat := NN (s (18 + p)) + toO (fP s p) 1 cl + (if NN (s (10 + p)) = 3 ∨ NN (s (10 + p)) = 6 then NN (s (14 + p)) else 0)
def xI (cl : CL) (s : Nat → Int32) (p : Nat) : Nat := if toO (fP s p) 3 cl < 10 then toO (fP s p) 3 cl else 10
def xW (cl : CL) (s : Nat → Int32) (t : Nat) : Nat := toO (fT s t) 2 cl
section AS
variable {r : T_Re} {s : Nat → Int32} {cl : CL} {w : T_Mo}
theorem pk_d10 {x : Int32} {m : Nat} (h : rg x m) (hm : m < 2 ^ 31) : x / 10 = nI (NN x / 10) := by
  have h1 := h.2
  have e := h.1
  rw [show (10 : Int32) = nI 10 from rfl]
  conv => lhs; rw [e]
  exact pk_div (by omega) (by omega) (by omega)
theorem pk_r10 {x : Int32} {m : Nat} (h : rg x m) (hm : m < 2 ^ 31) : x - x / 10 * 10 = nI (NN x % 10) := by
  have h1 := h.2
  have e := h.1
  rw [show (10 : Int32) = nI 10 from rfl]
  conv => lhs; rw [e]
  exact pk_rem (by omega) (by omega) (by omega)
theorem toO_1000 {L : T_La} {fa : Nat → Nat} {a : Nat} (h : LcR L s cl) : toO fa a cl ≤ 990 := by
  have h1 := toO_le (fa := fa) (a := a) cl h.2.2.2.1
  have h2 := h.2.1
  omega
theorem Re_likeOf (hr : ReC r s cl) (hs : RgS s) {p t : Nat} (hp : p < NN (s 0)) (ht : t < NN (s 1)) : ∃ F, d_Re_likeOf (nI p) (nI t) r = some (nI (xK cl s p t), u_Re_facts r F) := by
  have h4 := hs.1.2
  have h7 := hs.2.1.2
  have hP := hs.2.2.2.2.2.2.1 p hp
  have hT := hs.2.2.2.2.2.2.2.1 t ht
  have cP := hr.2.2.2.2.2.2.1 p hp
  have cT := hr.2.2.2.2.2.2.2.1 t ht
  have e1 : (nI p).toNatClampNeg = p := nI_clamp (by omega)
  have e2 : (nI t).toNatClampNeg = t := nI_clamp (by omega)
  refine ⟨upd (upd (upd (upd (upd (upd (q_Re_facts r) 0 (nI p)) 1 (q_Pe_kind (q_Re_people r) p)) 2 (q_Pe_age (q_Re_people r) p / 10)) 5 (q_Re_year r - q_Re_year r / 10 * 10)) 3 (nI t)) 4 (q_Th_weight (q_Re_things r) t / 10), ?_⟩
  unfold d_Re_likeOf
  rw [Re_tellPerson (inb_n (by omega) (by omega))]
  simp only [Option.bind_some]
  rw [Re_tellThing (inb_n (by omega) (by omega))]
  simp only [Option.bind_some, e1, e2]
  have hto := La_together (L := q_Re_land r) (s := s) (cl := cl) (fa := fPT s p t) (a := 0) (F := upd (upd (upd (upd (upd (upd (q_Re_facts r) 0 (nI p)) 1 (q_Pe_kind (q_Re_people r) p)) 2 (q_Pe_age (q_Re_people r) p / 10)) 5 (q_Re_year r - q_Re_year r / 10 * 10)) 3 (nI t)) 4 (q_Th_weight (q_Re_things r) t / 10)) hr.2.2.2.2.2.2.2.2.2.2
    (by
      have a1 := hP.1.2
      have a2 := hP.2.2.2.1.2
      have a3 := hT.1.2
      refine fV_of (by omega) (by omega) (by omega) (by omega) (by omega) (by omega) ?_ ?_ ?_ ?_ ?_ ?_
      · rfl
      · show q_Pe_kind (q_Re_people r) p = _; rw [cP.1]; exact hP.1.1
      · show q_Pe_age (q_Re_people r) p / 10 = _; rw [cP.2.2.2.1]; exact pk_d10 hP.2.2.2.1 (by omega)
      · rfl
      · show q_Th_weight (q_Re_things r) t / 10 = _; rw [cT.1]; exact pk_d10 hT.1 (by omega)
      · show q_Re_year r - q_Re_year r / 10 * 10 = _; rw [hr.2.2.2.2.2.1]; exact pk_r10 hs.2.2.2.2.2.1 (by omega)) (by omega)
  refine Eq.trans (congrArg (fun o => Option.bind o _) hto) ?_
  show some (nI 1 + nI (toO (fPT s p t) 0 cl), _) = some (nI (xK cl s p t), _)
  rw [nI_add]
  rfl
theorem Re_factsP (hr : ReC r s cl) (hs : RgS s) {p : Nat} (hp : p < NN (s 0)) : ∀ i, i < 6 → upd (upd (upd (upd (upd (upd (q_Re_facts r) 0 (nI p)) 1 (q_Pe_kind (q_Re_people r) p)) 2 (q_Pe_age (q_Re_people r) p / 10)) 5 (q_Re_year r - q_Re_year r / 10 * 10)) 3 99) 4 99 i = nI (fP s p i) ∧ fP s p i ≤ 99 := by
  have h4 := hs.1.2
  have hP := hs.2.2.2.2.2.2.1 p hp
  have cP := hr.2.2.2.2.2.2.1 p hp
  have a1 := hP.1.2
  have a2 := hP.2.2.2.1.2
  refine fV_of (by omega) (by omega) (by omega) (by omega) (by omega) (by omega) ?_ ?_ ?_ ?_ ?_ ?_
  · rfl
  · show q_Pe_kind (q_Re_people r) p = _; rw [cP.1]; exact hP.1.1
  · show q_Pe_age (q_Re_people r) p / 10 = _; rw [cP.2.2.2.1]; exact pk_d10 hP.2.2.2.1 (by omega)
  · rfl
  · rfl
  · show q_Re_year r - q_Re_year r / 10 * 10 = _; rw [hr.2.2.2.2.2.1]; exact pk_r10 hs.2.2.2.2.2.1 (by omega)
theorem Re_liftsOf (hr : ReC r s cl) (hs : RgS s) {p : Nat} (hp : p < NN (s 0)) : ∃ F, d_Re_liftsOf (nI p) r = some (nI (xL cl s p), u_Re_facts r F) := by
  have h4 := hs.1.2
  have hP := hs.2.2.2.2.2.2.1 p hp
  have cP := hr.2.2.2.2.2.2.1 p hp
  have e0 : inb (nI p) 4 = true := inb_n (by omega) (by omega)
  have e1 : (nI p).toNatClampNeg = p := nI_clamp (by omega)
  have a1 := hP.1.2
  refine ⟨upd (upd (upd (upd (upd (upd (q_Re_facts r) 0 (nI p)) 1 (q_Pe_kind (q_Re_people r) p)) 2 (q_Pe_age (q_Re_people r) p / 10)) 5 (q_Re_year r - q_Re_year r / 10 * 10)) 3 99) 4 99, ?_⟩
  have hto := La_together (L := q_Re_land r) (s := s) (cl := cl) (fa := fP s p) (a := 1) hr.2.2.2.2.2.2.2.2.2.2 (Re_factsP hr hs hp) (by omega)
  have hto : d_La_together 1 (q_Re_land r) _ = _ := hto
  have k3 : (q_Pe_kind (q_Re_people r) p = 3) ↔ NN (s (10 + p)) = 3 := by
    rw [cP.1]
    conv => lhs; rw [hP.1.1]
    exact nI_eq (b := 3) (by omega) (by omega)
  have k6 : (q_Pe_kind (q_Re_people r) p = 6) ↔ NN (s (10 + p)) = 6 := by
    rw [cP.1]
    conv => lhs; rw [hP.1.1]
    exact nI_eq (b := 6) (by omega) (by omega)
  have ks : q_Pe_strength (q_Re_people r) p = nI (NN (s (18 + p))) := by rw [cP.2.2.1]; exact hP.2.2.1.1
  have kv : q_Pe_v (q_Re_people r) p = nI (NN (s (14 + p))) := by rw [cP.2.1]; exact hP.2.1.1
  unfold d_Re_liftsOf
  rw [Re_tellPerson e0]
  simp only [Option.bind_some, Re_tellNoThing, e0, e1, if_true]
  unfold xL
  by_cases q3 : NN (s (10 + p)) = 3
  · rw [if_pos (k3.mpr q3), hto, if_pos (Or.inl q3)]
    show some (q_Pe_strength (q_Re_people r) p + nI (toO (fP s p) 1 cl) + q_Pe_v (q_Re_people r) p, _) = _
    rw [ks, kv, nI_add, nI_add]
  · rw [if_neg (fun q => q3 (k3.mp q))]
    by_cases q6 : NN (s (10 + p)) = 6
    · rw [if_pos (k6.mpr q6), hto, if_pos (Or.inr q6)]
      show some (q_Pe_strength (q_Re_people r) p + nI (toO (fP s p) 1 cl) + q_Pe_v (q_Re_people r) p, _) = _
      rw [ks, kv, nI_add, nI_add]
    · rw [if_neg (fun q => q6 (k6.mp q)), hto, if_neg (fun q => by rcases q with q | q; exact q3 q; exact q6 q)]
      show some (q_Pe_strength (q_Re_people r) p + nI (toO (fP s p) 1 cl) + 0, _) = _
      rw [ks, nI_add, Int32.add_zero, Nat.add_zero]
theorem Re_illOf (hr : ReC r s cl) (hs : RgS s) {p : Nat} (hp : p < NN (s 0)) : ∃ F, d_Re_illOf (nI p) r = some (nI (xI cl s p), u_Re_facts r F) := by
  have h4 := hs.1.2
  have e0 : inb (nI p) 4 = true := inb_n (by omega) (by omega)
  have e1 : (nI p).toNatClampNeg = p := nI_clamp (by omega)
  refine ⟨upd (upd (upd (upd (upd (upd (q_Re_facts r) 0 (nI p)) 1 (q_Pe_kind (q_Re_people r) p)) 2 (q_Pe_age (q_Re_people r) p / 10)) 5 (q_Re_year r - q_Re_year r / 10 * 10)) 3 99) 4 99, ?_⟩
  have hto := La_together (L := q_Re_land r) (s := s) (cl := cl) (fa := fP s p) (a := 3) hr.2.2.2.2.2.2.2.2.2.2 (Re_factsP hr hs hp) (by omega)
  have hto : d_La_together 3 (q_Re_land r) _ = _ := hto
  have hl := toO_1000 (fa := fP s p) (a := 3) hr.2.2.2.2.2.2.2.2.2.2
  have k : (nI (toO (fP s p) 3 cl) < 10) ↔ toO (fP s p) 3 cl < 10 := nI_ltI (b := 10) (by omega) (by omega)
  unfold d_Re_illOf
  rw [Re_tellPerson e0]
  simp only [Option.bind_some, Re_tellNoThing, e1]
  rw [hto]
  simp only [Option.bind_some, k]
  unfold xI
  split <;> rfl
theorem Re_wearOf (hr : ReC r s cl) (hs : RgS s) {t : Nat} (ht : t < NN (s 1)) : ∃ F, d_Re_wearOf (nI t) r = some (nI (xW cl s t), u_Re_facts r F) := by
  have h7 := hs.2.1.2
  have hT := hs.2.2.2.2.2.2.2.1 t ht
  have cT := hr.2.2.2.2.2.2.2.1 t ht
  have e0 : inb (nI t) 7 = true := inb_n (by omega) (by omega)
  have e1 : (nI t).toNatClampNeg = t := nI_clamp (by omega)
  refine ⟨upd (upd (upd (upd (upd (upd (q_Re_facts r) 0 99) 1 99) 2 99) 5 (q_Re_year r - q_Re_year r / 10 * 10)) 3 (nI t)) 4 (q_Th_weight (q_Re_things r) t / 10), ?_⟩
  have hto := La_together (L := q_Re_land r) (s := s) (cl := cl) (fa := fT s t) (a := 2) (F := upd (upd (upd (upd (upd (upd (q_Re_facts r) 0 99) 1 99) 2 99) 5 (q_Re_year r - q_Re_year r / 10 * 10)) 3 (nI t)) 4 (q_Th_weight (q_Re_things r) t / 10)) hr.2.2.2.2.2.2.2.2.2.2
    (by
      have a3 := hT.1.2
      refine fV_of (by omega) (by omega) (by omega) (by omega) (by omega) (by omega) ?_ ?_ ?_ ?_ ?_ ?_
      · rfl
      · rfl
      · rfl
      · rfl
      · show q_Th_weight (q_Re_things r) t / 10 = _; rw [cT.1]; exact pk_d10 hT.1 (by omega)
      · show q_Re_year r - q_Re_year r / 10 * 10 = _; rw [hr.2.2.2.2.2.1]; exact pk_r10 hs.2.2.2.2.2.1 (by omega)) (by omega)
  have hto : d_La_together 2 (q_Re_land r) _ = _ := hto
  unfold d_Re_wearOf
  rw [Re_tellNobody]
  simp only [Option.bind_some]
  rw [Re_tellThing e0]
  simp only [Option.bind_some, e1]
  exact congrArg (fun o => Option.bind o _) hto
theorem Mo_likeOf (hr : LcR (q_Re_land r) (q_Mo_s w) cl) (hs : RgS (q_Mo_s w)) {p t : Nat} (hp : p < NN (q_Mo_s w 0)) (ht : t < NN (q_Mo_s w 1)) : ∃ B T, d_Mo_likeOf (nI p) (nI t) w = some (nI (xK cl (q_Mo_s w) p t), u_Mo_truths (u_Mo_by w B) T) := by
  have h4 := hs.1.2
  have h7 := hs.2.1.2
  have hP := hs.2.2.2.2.2.2.1 p hp
  have hT := hs.2.2.2.2.2.2.2.1 t ht
  unfold d_Mo_likeOf
  have n2 : ¬ nI p = 99 := fun q => by
    have := (nI_eq (a := p) (b := 99) (by omega) (by omega)).mp q
    omega
  have n3 : ¬ nI t = 99 := fun q => by
    have := (nI_eq (a := t) (b := 99) (by omega) (by omega)).mp q
    omega
  have c1 : (10 + nI p).toNatClampNeg = 10 + p := cl9 10 (by omega)
  have c2 : (22 + nI p).toNatClampNeg = 22 + p := cl9 22 (by omega)
  have c3 : (58 + nI t).toNatClampNeg = 58 + t := cl9 58 (by omega)
  rw [Mo_tells_pt n2 n3 (in9 10 (by omega)) (in9 22 (by omega)) (in9 58 (by omega)), c1, c2, c3]
  obtain ⟨T', y⟩ := Mo_sumOf (L := q_Re_land r) (cl := cl) (fa := fPT (q_Mo_s w) p t) (a := 0) (w := u_Mo_by w (upd (upd (upd (upd (upd (upd (q_Mo_by w) 0 (nI p)) 1 (q_Mo_s w (10 + p))) 2 (q_Mo_s w (22 + p) / 10)) 3 (nI t)) 4 (q_Mo_s w (58 + t) / 10)) 5 (q_Mo_s w 6 - q_Mo_s w 6 / 10 * 10))) hr
    (by
      have a1 := hP.1.2
      have a2 := hP.2.2.2.1.2
      have a3 := hT.1.2
      refine fV_of (by omega) (by omega) (by omega) (by omega) (by omega) (by omega) ?_ ?_ ?_ ?_ ?_ ?_
      · rfl
      · exact hP.1.1
      · exact pk_d10 hP.2.2.2.1 (by omega)
      · rfl
      · exact pk_d10 hT.1 (by omega)
      · exact pk_r10 hs.2.2.2.2.2.1 (by omega)) (by omega)
  have y : d_Mo_sumOf (-10) _ = _ := y
  refine ⟨upd (upd (upd (upd (upd (upd (q_Mo_by w) 0 (nI p)) 1 (q_Mo_s w (10 + p))) 2 (q_Mo_s w (22 + p) / 10)) 3 (nI t)) 4 (q_Mo_s w (58 + t) / 10)) 5 (q_Mo_s w 6 - q_Mo_s w 6 / 10 * 10), T', ?_⟩
  rw [y]
  show some (nI 1 + nI (toO (fPT (q_Mo_s w) p t) 0 cl), _) = some (nI (xK cl (q_Mo_s w) p t), _)
  rw [nI_add]
  rfl
theorem Mo_tellsP (hr : LcR (q_Re_land r) (q_Mo_s w) cl) (hs : RgS (q_Mo_s w)) {p a : Nat} (ha : a < 4) (hp : p < NN (q_Mo_s w 0)) : ∃ B T, d_Mo_tells (kM a) (nI p) 99 w = some (nI (toO (fP (q_Mo_s w) p) a cl), u_Mo_truths (u_Mo_by w B) T) := by
  have h4 := hs.1.2
  have hP := hs.2.2.2.2.2.2.1 p hp
  have n2 : ¬ nI p = 99 := fun q => by
    have := (nI_eq (a := p) (b := 99) (by omega) (by omega)).mp q
    omega
  have c1 : (10 + nI p).toNatClampNeg = 10 + p := cl9 10 (by omega)
  have c2 : (22 + nI p).toNatClampNeg = 22 + p := cl9 22 (by omega)
  rw [Mo_tells_p n2 (in9 10 (by omega)) (in9 22 (by omega)), c1, c2]
  obtain ⟨T', y⟩ := Mo_sumOf (L := q_Re_land r) (cl := cl) (fa := fP (q_Mo_s w) p) (a := a) (w := u_Mo_by w (upd (upd (upd (upd (upd (upd (q_Mo_by w) 0 (nI p)) 1 (q_Mo_s w (10 + p))) 2 (q_Mo_s w (22 + p) / 10)) 3 99) 4 99) 5 (q_Mo_s w 6 - q_Mo_s w 6 / 10 * 10))) hr
    (by
      have a1 := hP.1.2
      have a2 := hP.2.2.2.1.2
      refine fV_of (by omega) (by omega) (by omega) (by omega) (by omega) (by omega) ?_ ?_ ?_ ?_ ?_ ?_
      · rfl
      · exact hP.1.1
      · exact pk_d10 hP.2.2.2.1 (by omega)
      · rfl
      · rfl
      · exact pk_r10 hs.2.2.2.2.2.1 (by omega)) ha
  refine ⟨upd (upd (upd (upd (upd (upd (q_Mo_by w) 0 (nI p)) 1 (q_Mo_s w (10 + p))) 2 (q_Mo_s w (22 + p) / 10)) 3 99) 4 99) 5 (q_Mo_s w 6 - q_Mo_s w 6 / 10 * 10), T', ?_⟩
  rw [y]
  rfl
theorem Mo_tellsT (hr : LcR (q_Re_land r) (q_Mo_s w) cl) (hs : RgS (q_Mo_s w)) {t a : Nat} (ha : a < 4) (ht : t < NN (q_Mo_s w 1)) : ∃ B T, d_Mo_tells (kM a) 99 (nI t) w = some (nI (toO (fT (q_Mo_s w) t) a cl), u_Mo_truths (u_Mo_by w B) T) := by
  have h7 := hs.2.1.2
  have hT := hs.2.2.2.2.2.2.2.1 t ht
  have n3 : ¬ nI t = 99 := fun q => by
    have := (nI_eq (a := t) (b := 99) (by omega) (by omega)).mp q
    omega
  have c3 : (58 + nI t).toNatClampNeg = 58 + t := cl9 58 (by omega)
  rw [Mo_tells_t n3 (in9 58 (by omega)), c3]
  obtain ⟨T', y⟩ := Mo_sumOf (L := q_Re_land r) (cl := cl) (fa := fT (q_Mo_s w) t) (a := a) (w := u_Mo_by w (upd (upd (upd (upd (upd (upd (q_Mo_by w) 0 99) 1 99) 2 99) 3 (nI t)) 4 (q_Mo_s w (58 + t) / 10)) 5 (q_Mo_s w 6 - q_Mo_s w 6 / 10 * 10))) hr
    (by
      have a3 := hT.1.2
      refine fV_of (by omega) (by omega) (by omega) (by omega) (by omega) (by omega) ?_ ?_ ?_ ?_ ?_ ?_
      · rfl
      · rfl
      · rfl
      · rfl
      · exact pk_d10 hT.1 (by omega)
      · exact pk_r10 hs.2.2.2.2.2.1 (by omega)) ha
  refine ⟨upd (upd (upd (upd (upd (upd (q_Mo_by w) 0 99) 1 99) 2 99) 3 (nI t)) 4 (q_Mo_s w (58 + t) / 10)) 5 (q_Mo_s w 6 - q_Mo_s w 6 / 10 * 10), T', ?_⟩
  rw [y]
  rfl
theorem Mo_liftsOf (hr : LcR (q_Re_land r) (q_Mo_s w) cl) (hs : RgS (q_Mo_s w)) {p : Nat} (hp : p < NN (q_Mo_s w 0)) : ∃ B T, d_Mo_liftsOf (nI p) w = some (nI (xL cl (q_Mo_s w) p), u_Mo_truths (u_Mo_by w B) T) := by
  have h4 := hs.1.2
  have hP := hs.2.2.2.2.2.2.1 p hp
  have a1 := hP.1.2
  obtain ⟨B, T, y⟩ := Mo_tellsP (a := 1) hr hs (by omega) hp
  have y : d_Mo_tells (-200) (nI p) 99 w = _ := y
  have i1 : inb (10 + nI p) 901 = true := in9 10 (by omega)
  have i2 : inb (14 + nI p) 901 = true := in9 14 (by omega)
  have i3 : inb (18 + nI p) 901 = true := in9 18 (by omega)
  have c1 : (10 + nI p).toNatClampNeg = 10 + p := cl9 10 (by omega)
  have c2 : (14 + nI p).toNatClampNeg = 14 + p := cl9 14 (by omega)
  have c3 : (18 + nI p).toNatClampNeg = 18 + p := cl9 18 (by omega)
  have k3 : (q_Mo_s w (10 + p) = 3) ↔ NN (q_Mo_s w (10 + p)) = 3 := by
    conv => lhs; rw [hP.1.1]
    exact nI_eq (b := 3) (by omega) (by omega)
  have k6 : (q_Mo_s w (10 + p) = 6) ↔ NN (q_Mo_s w (10 + p)) = 6 := by
    conv => lhs; rw [hP.1.1]
    exact nI_eq (b := 6) (by omega) (by omega)
  have ks : q_Mo_s w (18 + p) = nI (NN (q_Mo_s w (18 + p))) := hP.2.2.1.1
  have kv : q_Mo_s w (14 + p) = nI (NN (q_Mo_s w (14 + p))) := hP.2.1.1
  refine ⟨B, T, ?_⟩
  unfold d_Mo_liftsOf
  rw [if_pos i3, y]
  simp only [Option.bind_some, i1, i2, c1, c2, c3, if_true]
  show (if q_Mo_s w (10 + p) = 3 then some (q_Mo_s w (18 + p) + nI (toO (fP (q_Mo_s w) p) 1 cl) + q_Mo_s w (14 + p), u_Mo_truths (u_Mo_by w B) T) else if q_Mo_s w (10 + p) = 6 then some (q_Mo_s w (18 + p) + nI (toO (fP (q_Mo_s w) p) 1 cl) + q_Mo_s w (14 + p), u_Mo_truths (u_Mo_by w B) T) else some (q_Mo_s w (18 + p) + nI (toO (fP (q_Mo_s w) p) 1 cl) + 0, u_Mo_truths (u_Mo_by w B) T)) = _
  unfold xL
  by_cases q3 : NN (q_Mo_s w (10 + p)) = 3
  · rw [if_pos (k3.mpr q3), if_pos (Or.inl q3), ks, kv, nI_add, nI_add, rg_N (by have := hP.2.2.1.2; omega), rg_N (by have := hP.2.1.2; omega)]
  · rw [if_neg (fun q => q3 (k3.mp q))]
    by_cases q6 : NN (q_Mo_s w (10 + p)) = 6
    · rw [if_pos (k6.mpr q6), if_pos (Or.inr q6), ks, kv, nI_add, nI_add, rg_N (by have := hP.2.2.1.2; omega), rg_N (by have := hP.2.1.2; omega)]
    · rw [if_neg (fun q => q6 (k6.mp q)), if_neg (fun q => by rcases q with q | q; exact q3 q; exact q6 q), ks, nI_add, Int32.add_zero, Nat.add_zero, rg_N (by have := hP.2.2.1.2; omega)]
theorem Mo_illOf (hr : LcR (q_Re_land r) (q_Mo_s w) cl) (hs : RgS (q_Mo_s w)) {p : Nat} (hp : p < NN (q_Mo_s w 0)) : ∃ B T, d_Mo_illOf (nI p) w = some (nI (xI cl (q_Mo_s w) p), u_Mo_truths (u_Mo_by w B) T) := by
  obtain ⟨B, T, y⟩ := Mo_tellsP (a := 3) hr hs (by omega) hp
  have y : d_Mo_tells (-600) (nI p) 99 w = _ := y
  have hl := toO_1000 (fa := fP (q_Mo_s w) p) (a := 3) hr
  have k : (nI (toO (fP (q_Mo_s w) p) 3 cl) ≤ 10) ↔ toO (fP (q_Mo_s w) p) 3 cl ≤ 10 := nI_leI (b := 10) (by omega) (by omega)
  refine ⟨B, T, ?_⟩
  unfold d_Mo_illOf
  rw [y]
  simp only [Option.bind_some, k]
  unfold xI
  by_cases q : toO (fP (q_Mo_s w) p) 3 cl < 10
  · rw [if_pos (by omega), if_pos q]
  · rw [if_neg q]
    by_cases q2 : toO (fP (q_Mo_s w) p) 3 cl ≤ 10
    · rw [if_pos q2, show toO (fP (q_Mo_s w) p) 3 cl = 10 by omega]
    · rw [if_neg q2]
      rfl
end AS

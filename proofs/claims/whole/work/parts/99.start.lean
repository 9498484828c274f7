/-! The law's start: what the Statement gives of it. -/
theorem tt_1 (i : Nat) {w : Cond} (hi : tables_1_1[i]? = some w) : w ∈ lw_tbl := List.mem_append_right _ (show w ∈ tables_1 from List.mem_append_left _ (List.mem_of_getElem? hi))
theorem tt_2 (i : Nat) {w : Cond} (hi : tables_1_2[i]? = some w) : w ∈ lw_tbl := List.mem_append_right _ (show w ∈ tables_1 from List.mem_append_right _ (List.mem_append_left _ (List.mem_of_getElem? hi)))
theorem tt_3 (i : Nat) {w : Cond} (hi : tables_1_3[i]? = some w) : w ∈ lw_tbl := List.mem_append_right _ (show w ∈ tables_1 from List.mem_append_right _ (List.mem_append_right _ (List.mem_append_left _ (List.mem_of_getElem? hi))))
theorem tt_4 (i : Nat) {w : Cond} (hi : tables_1_4[i]? = some w) : w ∈ lw_tbl := List.mem_append_right _ (show w ∈ tables_1 from List.mem_append_right _ (List.mem_append_right _ (List.mem_append_right _ (List.mem_append_left _ (List.mem_of_getElem? hi)))))
theorem tt_5 (i : Nat) {w : Cond} (hi : tables_1_5[i]? = some w) : w ∈ lw_tbl := List.mem_append_right _ (show w ∈ tables_1 from List.mem_append_right _ (List.mem_append_right _ (List.mem_append_right _ (List.mem_append_right _ (List.mem_append_left _ (List.mem_of_getElem? hi))))))
theorem tt_6 (i : Nat) {w : Cond} (hi : tables_1_6[i]? = some w) : w ∈ lw_tbl := List.mem_append_right _ (show w ∈ tables_1 from List.mem_append_right _ (List.mem_append_right _ (List.mem_append_right _ (List.mem_append_right _ (List.mem_append_right _ (List.mem_of_getElem? hi))))))
theorem sr_0 : (.stringRef "OwnsLift$Reader" 80 "like" : Cond) ∈ lw_tbl := tt_2 141 (by decide +kernel)
theorem sr_1 : (.stringRef "OwnsLift$Reader" 82 "lift" : Cond) ∈ lw_tbl := tt_2 142 (by decide +kernel)
theorem sr_2 : (.stringRef "OwnsLift$Reader" 84 "wear" : Cond) ∈ lw_tbl := tt_2 143 (by decide +kernel)
theorem sr_3 : (.stringRef "OwnsLift$Reader" 86 "ill" : Cond) ∈ lw_tbl := tt_2 144 (by decide +kernel)
theorem sr_4 : (.stringRef "OwnsLift$Reader" 102 "pkatwy" : Cond) ∈ lw_tbl := tt_2 228 (by decide +kernel)
theorem sr_5 : (.stringRef "OwnsLift$Reader" 107 "<=>" : Cond) ∈ lw_tbl := tt_3 50 (by decide +kernel)
theorem sr_6 : (.stringRef "OwnsLiftModel" 114 "ke " : Cond) ∈ lw_tbl := tt_5 69 (by decide +kernel)
theorem sr_7 : (.stringRef "OwnsLiftModel" 96 "pkatwy" : Cond) ∈ lw_tbl := tt_5 100 (by decide +kernel)
theorem sr_8 : (.stringRef "OwnsLiftModel" 102 "<=>" : Cond) ∈ lw_tbl := tt_5 105 (by decide +kernel)
theorem sr_9 : (.stringRef "OwnsLiftModel" 120 "ft " : Cond) ∈ lw_tbl := tt_5 106 (by decide +kernel)
theorem sr_10 : (.stringRef "OwnsLiftModel" 125 "wear " : Cond) ∈ lw_tbl := tt_5 107 (by decide +kernel)
theorem sr_11 : (.stringRef "OwnsLiftModel" 127 "ill " : Cond) ∈ lw_tbl := tt_5 108 (by decide +kernel)
theorem ls_C : (.laysStatic "java/lang/String" "COMPACT_STRINGS" "Z" : Cond) ∈ lw_tbl := tt_2 158 (by decide +kernel)
theorem ls_P : (.laysStatic "jdk/internal/util/Preconditions" "SIOOBE_FORMATTER" "Ljava/util/function/BiFunction;" : Cond) ∈ lw_tbl := tt_2 174 (by decide +kernel)
theorem ls_A : (.laysStatic "OwnsLift" "ABOVE" "[I" : Cond) ∈ lw_tbl := tt_4 154 (by decide +kernel)
theorem ls_B : (.laysStatic "OwnsLift" "BODIES" "[I" : Cond) ∈ lw_tbl := tt_4 152 (by decide +kernel)
theorem nt_0 : (.methodLinkNest "OwnsLift" 11 ⟨"OwnsLift$Realm", "<init>", "()V"⟩ "OwnsLift" : Cond) ∈ lw_tbl := tt_1 31 (by decide +kernel)
theorem nt_1 : (.methodLinkNest "OwnsLift$Realm" 17 ⟨"OwnsLift$Land", "<init>", "()V"⟩ "OwnsLift" : Cond) ∈ lw_tbl := tt_1 37 (by decide +kernel)
theorem nt_2 : (.methodLinkNest "OwnsLift$Realm" 24 ⟨"OwnsLift$People", "<init>", "()V"⟩ "OwnsLift" : Cond) ∈ lw_tbl := tt_1 63 (by decide +kernel)
theorem nt_3 : (.methodLinkNest "OwnsLift$Realm" 31 ⟨"OwnsLift$Things", "<init>", "()V"⟩ "OwnsLift" : Cond) ∈ lw_tbl := tt_1 110 (by decide +kernel)
theorem nt_4 : (.methodLinkNest "OwnsLift" 23 ⟨"OwnsLift$Reader", "<init>", "()V"⟩ "OwnsLift" : Cond) ∈ lw_tbl := tt_1 180 (by decide +kernel)
theorem nt_5 : (.methodLinkNest "OwnsLift$Reader" 11 ⟨"OwnsLift$Land", "<init>", "()V"⟩ "OwnsLift" : Cond) ∈ lw_tbl := tt_1 185 (by decide +kernel)
theorem nt_6 : (.methodLinkNest "OwnsLift" 30 ⟨"OwnsLift$Standing", "<init>", "()V"⟩ "OwnsLift" : Cond) ∈ lw_tbl := tt_1 203 (by decide +kernel)
theorem nt_7 : (.methodLinkNest "OwnsLift" 37 ⟨"OwnsLift$Shares", "<init>", "()V"⟩ "OwnsLift" : Cond) ∈ lw_tbl := tt_2 8 (by decide +kernel)
theorem nt_8 : (.methodLinkNest "OwnsLift" 44 ⟨"OwnsLift$Fraction", "<init>", "()V"⟩ "OwnsLift" : Cond) ∈ lw_tbl := tt_2 49 (by decide +kernel)
theorem nt_9 : (.methodLinkNest "OwnsLift" 51 ⟨"OwnsLift$Acts", "<init>", "()V"⟩ "OwnsLift" : Cond) ∈ lw_tbl := tt_2 64 (by decide +kernel)
theorem nt_10 : (.methodLinkNest "OwnsLift" 273 ⟨"OwnsLift$Acts", "run", "(IIII)I"⟩ "OwnsLift" : Cond) ∈ lw_tbl := tt_4 144 (by decide +kernel)
theorem fn_B : (.fieldLinkNest "OwnsLift$Acts" 49 "OwnsLift" "BODIES" "[I" "OwnsLift" : Cond) ∈ lw_tbl := tt_4 151 (by decide +kernel)
theorem fn_A : (.fieldLinkNest "OwnsLift$Acts" 46 "OwnsLift" "ABOVE" "[I" "OwnsLift" : Cond) ∈ lw_tbl := tt_4 153 (by decide +kernel)
theorem ao_w : (.arrayOver (.array .int) : Cond) ∈ lw_tbl := tt_1 68 (by decide +kernel)
def tmC (i : Nat) : Term := ([.string "OwnsLift$Reader" 80, .string "OwnsLift$Reader" 82, .string "OwnsLift$Reader" 84, .string "OwnsLift$Reader" 86, .string "OwnsLift$Reader" 102, .string "OwnsLift$Reader" 107, .string "OwnsLiftModel" 114, .string "OwnsLiftModel" 120, .string "OwnsLiftModel" 125, .string "OwnsLiftModel" 127] : List Term).getD i (.int 0)
abbrev nFl : List Cond := flatC (Jvm.Cond.and given_1 narrow_1)
theorem fx_ex : ∀ i, i < 10 → Cond.exactly (tmC i) "java/lang/String" ∈ nFl := by decide +kernel
theorem fx_co : ∀ i, i < 10 → Cond.eq (.field (tmC i) "java/lang/String" "coder" "B") (.int 0) ∈ nFl := by decide +kernel
theorem fx_ar : ∀ i, i < 10 → Cond.arrayOf (.field (tmC i) "java/lang/String" "value" "[B") .byte ∈ nFl := by decide +kernel
theorem fx_le : ∀ i, i < 10 → Cond.eq (.length (.field (tmC i) "java/lang/String" "value" "[B")) (.int (Int32.ofNat (lenC.getD i 0))) ∈ nFl := by decide +kernel
theorem fx_el : ∀ i, i < 10 → ∀ j, j < lenC.getD i 0 → Cond.eq (.elem (.field (tmC i) "java/lang/String" "value" "[B") (.int (Int32.ofNat j))) (.int ((bytC.getD i []).getD j 0)) ∈ nFl := by decide +kernel
theorem fx_ne : ∀ i, i < 10 → ∀ j, j < 10 → i < j → Cond.not (Cond.eq (tmC i) (tmC j)) ∈ nFl := by decide +kernel
theorem fx_e4 : Cond.eq (tmC 4) (.string "OwnsLiftModel" 96) ∈ nFl := by decide +kernel
theorem fx_e5 : Cond.eq (tmC 5) (.string "OwnsLiftModel" 102) ∈ nFl := by decide +kernel
theorem fx_cs : Cond.eq (.static "java/lang/String" "COMPACT_STRINGS" "Z") (.int 1) ∈ nFl := by decide +kernel
theorem fx_pr : Cond.isRef (.static "jdk/internal/util/Preconditions" "SIOOBE_FORMATTER" "Ljava/util/function/BiFunction;") ∈ nFl := by decide +kernel
theorem fx_Ba : Cond.arrayOf (.static "OwnsLift" "BODIES" "[I") .int ∈ nFl := by decide +kernel
theorem fx_Bl : Cond.eq (.length (.static "OwnsLift" "BODIES" "[I")) (.int 21) ∈ nFl := by decide +kernel
theorem fx_Be : ∀ j, j < 21 → Cond.eq (.elem (.static "OwnsLift" "BODIES" "[I") (.int (Int32.ofNat j))) (.int (bodiesC j)) ∈ nFl := by decide +kernel
theorem fx_Aa : Cond.arrayOf (.static "OwnsLift" "ABOVE" "[I") .int ∈ nFl := by decide +kernel
theorem fx_Al : Cond.eq (.length (.static "OwnsLift" "ABOVE" "[I")) (.int 7) ∈ nFl := by decide +kernel
theorem fx_Ae : ∀ j, j < 7 → Cond.eq (.elem (.static "OwnsLift" "ABOVE" "[I") (.int (Int32.ofNat j))) (.int (aboveC j)) ∈ nFl := by decide +kernel
/-- the names: classes of arrays, texts and their bytes, tables -/
def gS (c0 c1 c2 tA tB : Nat) (adK adV : Nat → Nat) : Nat → ClassId := fun i => if i = 0 then c0 else if i = 1 then c1 else if i = 2 then c2 else if i = 50 then tA else if i = 51 then tB else if i < 30 then adK (i - 10) else adV (i - 30)
theorem gS_K {c0 c1 c2 tA tB : Nat} {adK adV : Nat → Nat} {i : Nat} (h : i < 10) : gS c0 c1 c2 tA tB adK adV (10 + i) = adK i := by
  unfold gS
  rw [if_neg (by omega), if_neg (by omega), if_neg (by omega), if_neg (by omega), if_neg (by omega), if_pos (by omega), Nat.add_sub_cancel_left]
theorem gS_V {c0 c1 c2 tA tB : Nat} {adK adV : Nat → Nat} {i : Nat} (h : i < 10) : gS c0 c1 c2 tA tB adK adV (30 + i) = adV i := by
  unfold gS
  rw [if_neg (by omega), if_neg (by omega), if_neg (by omega), if_neg (by omega), if_neg (by omega), if_neg (by omega), Nat.add_sub_cancel_left]
theorem over_ex {args : Array Value} {s : State} {c0 : ClassId} (h : (Cond.arrayOver (.array .int)).before args s = true) (h0 : s.vm.findClass (FieldType.array .int).toString = some c0) : ∃ (c : ClassId) (k : Class), s.vm.classes[c]? = some k ∧ k.kind = .array c0 (.array .int) ∧ s.vm.findClass ("[" ++ (FieldType.array .int).toString) = some c := by
  have h : (Cond.arrayOver (.array .int)).holds args s none s [] = true := h
  simp only [Cond.holds, Cond.value, beq_iff_eq, h0, Option.bind_some, Option.bind_eq_some_iff, Option.map_eq_some_iff] at h
  obtain ⟨c, hi, k, hk, hb⟩ := h
  obtain ⟨hlt, hp, -⟩ := Array.findIdx?_eq_some_iff_getElem.mp hi
  have hkk : s.vm.classes[c] = k := (Array.getElem?_eq_some_iff.mp hk).2
  rw [hkk] at hp
  cases hkind : k.kind with
  | array component ty =>
    rw [hkind] at hb hp
    simp at hb hp
    exact ⟨c, k, hk, by rw [hkind, hp, hb.1], hb.2⟩
  | _ => rw [hkind] at hb; simp at hb
theorem arr_of {s : State} {cA comp : ClassId} {k : Class} {ty : FieldType} (h1 : s.vm.classes[cA]? = some k) (h2 : k.kind = .array comp ty) : ArrOfT s cA ty := fun _ _ => ⟨fun k h => (by cases h), k, h1, comp, h2⟩
theorem rl_0 : Rl i_T_OL i_T_Mo := by
  have e0 : NN (upd (fun _ => 0) 5 (-1) 0) = 0 := rg_N (k := 0) (by omega)
  have r0 : ∀ M, M < 2 ^ 31 → rg (nI 0) M := fun M hM => rg_n (Nat.zero_le _) hM
  refine ⟨⟨[], ?_⟩, rfl, fun h => absurd rfl h, 0, by omega, rfl, rfl, fun i hi => absurd hi (Nat.not_lt_zero _)⟩
  refine ⟨⟨r0 4 (by omega), r0 7 (by omega), r0 5 (by omega), r0 12 (by omega), r0 100 (by omega), r0 99 (by omega)⟩, ⟨rfl, rfl, rfl, rfl, rfl, rfl⟩, fun p hp => ?_, fun p hp => ?_, fun p hp => ?_, fun p hp => ?_, ⟨rfl, Nat.zero_le _, Nat.zero_le _, fun q hq => absurd hq List.not_mem_nil, trivial, Or.inl ⟨rfl, rfl⟩⟩, Or.inl rfl⟩
  · have hp : p < NN (upd (fun _ => 0) 5 (-1) 0) := hp
    rw [e0] at hp
    exact absurd hp (Nat.not_lt_zero _)
  · have hp : p < NN (upd (fun _ => 0) 5 (-1) 0) := hp
    rw [e0] at hp
    exact absurd hp (Nat.not_lt_zero _)
  · have hp : p < NN (upd (fun _ => 0) 5 (-1) 0) := hp
    rw [e0] at hp
    exact absurd hp (Nat.not_lt_zero _)
  · have hp : p < NN (upd (fun _ => 0) 5 (-1) 0) := hp
    rw [e0] at hp
    exact absurd hp (Nat.not_lt_zero _)
/-- all that stands fast at the law's entry -/
theorem at_start {p : Program} {s : State} {m : MethodId} {meth : Method} {c : Code} {b L : Nat} {xs : Nat → Int32} (C0 : lw_At p s m meth c b L xs) : ∃ (D : va_G) (g : Nat → ClassId), va_K D classes (TY g) s ∧ Cst g (fun q : Nat => s.heap.size ≤ q) s s.heap ∧ AO g s := by
  obtain ⟨hx, hb, hr, hml, hown, hts, hX, hbl, hlocks, hgv⟩ := id C0
  have hg : ∀ w ∈ GW, w.before #[Value.ref b] s = true := fun w hw => hts w (List.mem_filter.mp hw).1
  have hv := flat_of_before _ hgv
  have hA : ∀ a : Nat, a < s.heap.size → ¬ (fun q : Nat => s.heap.size ≤ q) a := fun a h => Nat.not_le.mpr h
  have hN : ∀ i : Nat, i < 10 → lenC.getD i 0 < 2 ^ 31 := by decide +kernel
  obtain ⟨adK, adV, hS, hE⟩ := vk_Sof (tm := tmC) (len := lenC) (byt := bytC) hN (fun i hi => hv _ (fx_ex i hi)) (fun i hi => hv _ (fx_co i hi)) (fun i hi => hv _ (fx_ar i hi)) (fun i hi => hv _ (fx_le i hi)) (fun i hi j hj => hv _ (fx_el i hi j hj)) (fun i j hi hj hne => by
    rcases Nat.lt_or_ge i j with q | q
    · exact Or.inl (hv _ (fx_ne i hi j hj q))
    · exact Or.inr (hv _ (fx_ne j hj i hi (by omega)))) hA
  obtain ⟨tB, eB, hTB⟩ := va_Tof (N := 21) (f := fun j => .int (bodiesC j)) (by decide) (hv _ fx_Ba) (va_eqt (hv _ fx_Bl)) (fun j hj => va_eqt (hv _ (fx_Be j hj))) hA
  obtain ⟨tA, eA, hTA⟩ := va_Tof (N := 7) (f := fun j => .int (aboveC j)) (by decide) (hv _ fx_Aa) (va_eqt (hv _ fx_Al)) (fun j hj => va_eqt (hv _ (fx_Ae j hj))) hA
  obtain ⟨c0, k0, m0, a1, a2, a3⟩ := Cond.arrayClass_spec (hg _ g_130)
  obtain ⟨c1, k1, m1, b1, b2, b3⟩ := Cond.arrayClass_spec (hg _ g_1071)
  obtain ⟨c2, k2, d2, d3, d1⟩ := over_ex (hts _ ao_w) a1
  have e4 := va_eqR (hv _ fx_e4) (hE 4 (by omega))
  have e5 := va_eqR (hv _ fx_e5) (hE 5 (by omega))
  have hZs : va_Z "java/lang/String" "COMPACT_STRINGS" "Z" (.int 1) (fun q : Nat => s.heap.size ≤ q) s s.heap := va_Zof (hts _ ls_C) (hg _ g_83) (va_eqt (hv _ fx_cs)) hA
  have hZp : va_Zq "jdk/internal/util/Preconditions" "SIOOBE_FORMATTER" "Ljava/util/function/BiFunction;" (fun q : Nat => s.heap.size ≤ q) s s.heap := va_Zqof (hts _ ls_P) (hg _ g_85) (hv _ fx_pr) hA
  have hZA : va_Z "OwnsLift" "ABOVE" "[I" (.ref tA) (fun q : Nat => s.heap.size ≤ q) s s.heap := va_Zof (hts _ ls_A) (hg _ g_71) eA hA
  have hZB : va_Z "OwnsLift" "BODIES" "[I" (.ref tB) (fun q : Nat => s.heap.size ≤ q) s s.heap := va_Zof (hts _ ls_B) (hg _ g_71) eB hA
  have hD : ∀ k : Nat, ∃ q : ClassId × (Nat → Nat), ∀ r : vw_C, classes[k]? = some r → u_Kn s r.1 r.2.1 r.2.2 q.1 q.2 := by
    intro k
    match k with
    | 0 => obtain ⟨cC, iS, h⟩ := u_known (C := R_OL) (T := F_OL) (N := 8) hg i_OL (hg _ g_92); exact ⟨(cC, iS), fun r hr => by cases hr; exact h⟩
    | 1 => obtain ⟨cC, iS, h⟩ := u_known (C := R_Mo) (T := F_Mo) (N := 26) hg i_Mo (hg _ g_988); exact ⟨(cC, iS), fun r hr => by cases hr; exact h⟩
    | 2 => obtain ⟨cC, iS, h⟩ := u_known (C := R_Ac) (T := F_Ac) (N := 5) hg i_Ac (hg _ g_373); exact ⟨(cC, iS), fun r hr => by cases hr; exact h⟩
    | 3 => obtain ⟨cC, iS, h⟩ := u_known (C := R_Fr) (T := F_Fr) (N := 2) hg i_Fr (hg _ g_358); exact ⟨(cC, iS), fun r hr => by cases hr; exact h⟩
    | 4 => obtain ⟨cC, iS, h⟩ := u_known (C := R_La) (T := F_La) (N := 6) hg i_La (hg _ g_106); exact ⟨(cC, iS), fun r hr => by cases hr; exact h⟩
    | 5 => obtain ⟨cC, iS, h⟩ := u_known (C := R_Pe) (T := F_Pe) (N := 7) hg i_Pe (hg _ g_132); exact ⟨(cC, iS), fun r hr => by cases hr; exact h⟩
    | 6 => obtain ⟨cC, iS, h⟩ := u_known (C := R_Rd) (T := F_Rd) (N := 4) hg i_Rd (hg _ g_249); exact ⟨(cC, iS), fun r hr => by cases hr; exact h⟩
    | 7 => obtain ⟨cC, iS, h⟩ := u_known (C := R_Re) (T := F_Re) (N := 11) hg i_Re (hg _ g_100); exact ⟨(cC, iS), fun r hr => by cases hr; exact h⟩
    | 8 => obtain ⟨cC, iS, h⟩ := u_known (C := R_Sh) (T := F_Sh) (N := 10) hg i_Sh (hg _ g_317); exact ⟨(cC, iS), fun r hr => by cases hr; exact h⟩
    | 9 => obtain ⟨cC, iS, h⟩ := u_known (C := R_St) (T := F_St) (N := 7) hg i_St (hg _ g_272); exact ⟨(cC, iS), fun r hr => by cases hr; exact h⟩
    | 10 => obtain ⟨cC, iS, h⟩ := u_known (C := R_Th) (T := F_Th) (N := 3) hg i_Th (hg _ g_179); exact ⟨(cC, iS), fun r hr => by cases hr; exact h⟩
    | k + 11 => exact ⟨(0, fun _ => 0), fun r hr => by cases hr⟩
  obtain ⟨dD, hdD⟩ := Classical.axiomOfChoice hD
  refine ⟨(fun k => (dD k).1, fun k => (dD k).2), gS c0 c1 c2 tA tB adK adV, ⟨fun k q hk => hdD k q hk, fun k q hk => ?_⟩, ⟨⟨?_, hZs, hZp, hZA, hTA, hZB, hTB⟩, ?_, ?_, ?_, ?_⟩, ⟨k2, d2, d3⟩⟩
  · match k, hk with
    | 0, hk => cases hk; exact ⟨arr_of a2 a3, a1⟩
    | 1, hk => cases hk; exact ⟨arr_of b2 b3, b1⟩
    | 2, hk => cases hk; exact ⟨arr_of d2 d3, d1⟩
    | k + 3, hk => cases hk
  · refine ⟨fun i hi => ?_, fun i j hi hj e => ?_⟩
    · have h := hS.1 i hi
      simp only [gS_K hi, gS_V hi]
      exact h
    · simp only [gS_K hi, gS_K hj] at e
      exact hS.2 i j hi hj e
  · intro q hq
    simp only [nestL, List.mem_cons, List.not_mem_nil, or_false] at hq
    rcases hq with rfl | rfl | rfl | rfl | rfl | rfl | rfl | rfl | rfl | rfl | rfl
    · exact hts _ nt_0
    · exact hts _ nt_1
    · exact hts _ nt_2
    · exact hts _ nt_3
    · exact hts _ nt_4
    · exact hts _ nt_5
    · exact hts _ nt_6
    · exact hts _ nt_7
    · exact hts _ nt_8
    · exact hts _ nt_9
    · exact hts _ nt_10
  · exact hts _ fn_B
  · exact hts _ fn_A
  · intro q hq
    simp only [List.mem_cons, List.not_mem_nil, or_false] at hq
    rcases hq with rfl | rfl | rfl | rfl | rfl | rfl | rfl | rfl | rfl | rfl | rfl | rfl
    · exact vk_R.of (hts _ sr_0) (hE 0 (by omega))
    · exact vk_R.of (hts _ sr_1) (hE 1 (by omega))
    · exact vk_R.of (hts _ sr_2) (hE 2 (by omega))
    · exact vk_R.of (hts _ sr_3) (hE 3 (by omega))
    · exact vk_R.of (hts _ sr_4) (hE 4 (by omega))
    · exact vk_R.of (hts _ sr_5) (hE 5 (by omega))
    · exact vk_R.of (hts _ sr_6) (hE 6 (by omega))
    · exact vk_R.of (hts _ sr_7) e4
    · exact vk_R.of (hts _ sr_8) e5
    · exact vk_R.of (hts _ sr_9) (hE 7 (by omega))
    · exact vk_R.of (hts _ sr_10) (hE 8 (by omega))
    · exact vk_R.of (hts _ sr_11) (hE 9 (by omega))

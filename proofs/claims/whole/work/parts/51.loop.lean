theorem law_left {L k : Nat} (hL : L ≤ 320) (hk : k ≤ 400) (h : ¬ Int32.ofNat L - 5 < nI k) : k + 5 ≤ L := by
  rcases Nat.lt_or_ge L (k + 5) with q | q
  · refine absurd ?_ h
    rw [Int32.lt_iff_toInt_lt]
    have e1 : (Int32.ofNat L - 5).toInt = (L : Int) - 5 := pk_sub_toInt (a := L) (b := 5) (by omega) (by omega)
    rw [e1, nI_toInt (by omega)]
    omega
  · exact q
set_option maxHeartbeats 8000000 in
set_option maxRecDepth 100000 in
theorem law_loop {p : Program} {l : Launch} {e : Env} {s : State} {m : MethodId} {below : List Frame} {meth : Method} {c : Code} {D : va_G} {g : Nat → ClassId} {b L : Nat} {xs : Nat → Int32} {a1 a2 : Nat → Nat} {Rl : T_OL → T_Mo → Prop} (hL : L ≤ 320) (C0 : lw_At p s m meth c b L xs) (hK : va_K D classes (TY g) s) (hCs : Cst g (fun q : Nat => s.heap.size ≤ q) s s.heap) (hs_feed : S_feed Rl) (hs_land : S_land Rl) (hs_person : S_person Rl) (hs_of : S_of Rl) (hs_strength : S_strength Rl) (hs_row : S_row Rl) (hs_thing : S_thing Rl) (hs_at : S_at Rl) (hs_give : S_give Rl) (hs_like : S_like Rl) (hs_when : S_when Rl) (hs_bench : S_bench Rl) (hs_year : S_year Rl) (hs_best : S_best Rl) (hs_most : S_most Rl) (hs_train : S_train Rl) (hs_moved : S_moved Rl) (hs_gives : S_gives Rl) (hs_parts : S_parts Rl) (hs_swap : S_swap Rl) (hs_rest : S_rest Rl) (hs_fair : S_fair Rl) (hs_had : S_had Rl) (hs_odds : S_odds Rl) (hs_see : S_see Rl) (hs_looked : S_looked Rl) (hs_act : S_act Rl) (hs_trace : S_trace Rl) (hs_as : S_as Rl) (hs_image : S_image Rl) (hs_undo : S_undo Rl) (hs_count : S_count Rl) :
    ∀ (n k : Nat) (x3 : Int32), k ≤ 400 → 400 < n + k → x3 = nI k → ∀ (z0 : T_OL) (w0 : T_Mo) (H : Heap) (locs : List Loc) (ls : Array Slot), Rl z0 w0 → va_P D classes (ws_OL g a1 z0 ++ ws_Mo g a2 w0) H → va_D (fun q : Nat => s.heap.size ≤ q) (ws_OL g a1 z0 ++ ws_Mo g a2 w0) → va_S (fun q : Nat => s.heap.size ≤ q) s.heap H locs → lv_has ls 4 [(0, .ref b), (1, .ref (a1 0)), (2, .ref (a2 0)), (3, .int x3)] → W p l e room_1 s m #[Value.ref b] below meth c H locs 600000 7302250 (lw_Z below #[Value.ref b] s) (F0 m 18 ls []) := by
  obtain ⟨hx, hb, hr, hml, hown, hts, hX, hbl, hlocks, hgv⟩ := id C0
  have hbA : ¬ (fun q : Nat => s.heap.size ≤ q) b := Nat.not_le.mpr hbl
  intro n
  induction n with
  | zero =>
    intro k x3 h1 h2
    exact absurd h2 (by omega)
  | succ n ih =>
    intro k x3 hk hn ex3 z0 w0 H locs ls hRl hP hD hS hl
    refine lv_iload_n hx hb d_law_18 rfl (lv_at hl 3 rfl) ?_
    refine lv_aload_n hx hb d_law_19 rfl (lv_at hl 0 rfl) ?_
    refine va_slen hx hb hX hbl hbA hS d_law_20 ?_
    refine lv_iconst (v := 5) hx hb d_law_21 (by decide) ?_
    refine lv_isub hx hb d_law_22 ?_
    refine lv_icmp_gt (tgt := 1026) hx hb d_law_23 (by decide) (fun h => ?_) (fun h => ?_)
    · refine lv_iconst (v := 1) hx hb d_law_1026 (by decide) ?_
      refine va_forget (fun q hq => hS.2.2 q hq) ?_
      exact lw_ret hx hb hr hlocks d_law_1027
    · have hk5 : k + 5 ≤ L := law_left hL hk (by rw [← ex3]; exact h)
      have h_in0 : vp_in (x3) L := by
        have e9 : x3 = nI (k + 0) := by rw [ex3]; rfl
        rw [e9]; exact vp_in_nI (by omega) (by omega)
      have h_in1 : vp_in (x3 + 1) L := by
        have e9 : x3 + 1 = nI (k + 1) := by rw [ex3]; exact nI_add k 1
        rw [e9]; exact vp_in_nI (by omega) (by omega)
      have h_in2 : vp_in (x3 + 2) L := by
        have e9 : x3 + 2 = nI (k + 2) := by rw [ex3]; exact nI_add k 2
        rw [e9]; exact vp_in_nI (by omega) (by omega)
      have h_in3 : vp_in (x3 + 3) L := by
        have e9 : x3 + 3 = nI (k + 3) := by rw [ex3]; exact nI_add k 3
        rw [e9]; exact vp_in_nI (by omega) (by omega)
      have h_in4 : vp_in (x3 + 4) L := by
        have e9 : x3 + 4 = nI (k + 4) := by rw [ex3]; exact nI_add k 4
        rw [e9]; exact vp_in_nI (by omega) (by omega)
      have hend : ∀ (z : T_OL) (w : T_Mo) (H : Heap) (locs : List Loc) (ls : Array Slot), Rl z w → va_P D classes (ws_OL g a1 z ++ ws_Mo g a2 w) H → va_D (fun q : Nat => s.heap.size ≤ q) (ws_OL g a1 z ++ ws_Mo g a2 w) → va_S (fun q : Nat => s.heap.size ≤ q) s.heap H locs → lv_has ls 4 [(0, .ref b), (1, .ref (a1 0)), (2, .ref (a2 0)), (3, .int x3)] → W p l e room_1 s m #[Value.ref b] below meth c H locs 600000 7302250 (lw_Z below #[Value.ref b] s) (F0 m 1020 ls []) := by
        intro z w H locs ls hRl hP hD hS hl
        refine lv_iinc (v := x3 + 5) (lv' := [(3, .int (x3 + 5)), (0, .ref b), (1, .ref (a1 0)), (2, .ref (a2 0))]) hx hb d_law_1020 hl (k := 3) rfl (by rfl) (by decide) rfl (fun ls hl => ?_)
        refine lv_goto (tgt := 18) hx hb d_law_1023 (by decide) ?_
        exact ih (k + 5) (x3 + 5) (by omega) (by omega) (by rw [ex3]; exact nI_add k 5) z w H locs ls hRl hP hD hS (lv_sub hl [1, 2, 3, 0] rfl)
      refine lv_aload_n hx hb d_law_26 rfl (lv_at hl 0 rfl) ?_
      refine lv_iload_n hx hb d_law_27 rfl (lv_at hl 3 rfl) ?_
      refine va_sld hx hb hX hbl hbA hS h_in0 d_law_28 ?_
      refine lv_bipush (v := 31) hx hb d_law_29 (by decide) ?_
      refine lv_iand hx hb d_law_31 ?_
      obtain ⟨j, hj, ej⟩ := pk_andE (xs x3.toNatClampNeg) (m := 31) 5 (by decide)
      rw [ej]
      match j, hj with
      | 0, _ =>
        refine lv_tableIn (tgt := 176) hx hb d_law_32 (by decide +kernel) (by decide +kernel) (off := 144) (by decide +kernel) (by decide) ?_
        exact lawc_0 C0 hK hCs hs_feed h_in0 h_in1 h_in2 h_in3 h_in4 hend hRl hP hD hS hl
      | 1, _ =>
        refine lv_tableIn (tgt := 199) hx hb d_law_32 (by decide +kernel) (by decide +kernel) (off := 167) (by decide +kernel) (by decide) ?_
        exact lawc_1 C0 hK hCs hs_land h_in0 h_in1 h_in2 h_in3 h_in4 hend hRl hP hD hS hl
      | 2, _ =>
        refine lv_tableIn (tgt := 212) hx hb d_law_32 (by decide +kernel) (by decide +kernel) (off := 180) (by decide +kernel) (by decide) ?_
        exact lawc_2 C0 hK hCs hs_person h_in0 h_in1 h_in2 h_in3 h_in4 hend hRl hP hD hS hl
      | 3, _ =>
        refine lv_tableIn (tgt := 265) hx hb d_law_32 (by decide +kernel) (by decide +kernel) (off := 233) (by decide +kernel) (by decide) ?_
        exact lawc_3 C0 hK hCs hs_of h_in0 h_in1 h_in2 h_in3 h_in4 hend hRl hP hD hS hl
      | 4, _ =>
        refine lv_tableIn (tgt := 298) hx hb d_law_32 (by decide +kernel) (by decide +kernel) (off := 266) (by decide +kernel) (by decide) ?_
        exact lawc_4 C0 hK hCs hs_strength h_in0 h_in1 h_in2 h_in3 h_in4 hend hRl hP hD hS hl
      | 5, _ =>
        refine lv_tableIn (tgt := 331) hx hb d_law_32 (by decide +kernel) (by decide +kernel) (off := 299) (by decide +kernel) (by decide) ?_
        exact lawc_5 C0 hK hCs hs_row h_in0 h_in1 h_in2 h_in3 h_in4 hend hRl hP hD hS hl
      | 6, _ =>
        refine lv_tableIn (tgt := 364) hx hb d_law_32 (by decide +kernel) (by decide +kernel) (off := 332) (by decide +kernel) (by decide) ?_
        exact lawc_6 C0 hK hCs hs_thing h_in0 h_in1 h_in2 h_in3 h_in4 hend hRl hP hD hS hl
      | 7, _ =>
        refine lv_tableIn (tgt := 387) hx hb d_law_32 (by decide +kernel) (by decide +kernel) (off := 355) (by decide +kernel) (by decide) ?_
        exact lawc_7 C0 hK hCs hs_at h_in0 h_in1 h_in2 h_in3 h_in4 hend hRl hP hD hS hl
      | 8, _ =>
        refine lv_tableIn (tgt := 420) hx hb d_law_32 (by decide +kernel) (by decide +kernel) (off := 388) (by decide +kernel) (by decide) ?_
        exact lawc_8 C0 hK hCs hs_give h_in0 h_in1 h_in2 h_in3 h_in4 hend hRl hP hD hS hl
      | 9, _ =>
        refine lv_tableIn (tgt := 453) hx hb d_law_32 (by decide +kernel) (by decide +kernel) (off := 421) (by decide +kernel) (by decide) ?_
        exact lawc_9 C0 hK hCs hs_like h_in0 h_in1 h_in2 h_in3 h_in4 hend hRl hP hD hS hl
      | 10, _ =>
        refine lv_tableIn (tgt := 486) hx hb d_law_32 (by decide +kernel) (by decide +kernel) (off := 454) (by decide +kernel) (by decide) ?_
        exact lawc_10 C0 hK hCs hs_when h_in0 h_in1 h_in2 h_in3 h_in4 hend hRl hP hD hS hl
      | 11, _ =>
        refine lv_tableIn (tgt := 499) hx hb d_law_32 (by decide +kernel) (by decide +kernel) (off := 467) (by decide +kernel) (by decide) ?_
        exact lawc_11 C0 hK hCs hs_bench h_in0 h_in1 h_in2 h_in3 h_in4 hend hRl hP hD hS hl
      | 12, _ =>
        refine lv_tableIn (tgt := 522) hx hb d_law_32 (by decide +kernel) (by decide +kernel) (off := 490) (by decide +kernel) (by decide) ?_
        exact lawc_12 C0 hK hCs hs_year h_in0 h_in1 h_in2 h_in3 h_in4 hend hRl hP hD hS hl
      | 13, _ =>
        refine lv_tableIn (tgt := 535) hx hb d_law_32 (by decide +kernel) (by decide +kernel) (off := 503) (by decide +kernel) (by decide) ?_
        exact lawc_13 C0 hK hCs hs_best h_in0 h_in1 h_in2 h_in3 h_in4 hend hRl hP hD hS hl
      | 14, _ =>
        refine lv_tableIn (tgt := 558) hx hb d_law_32 (by decide +kernel) (by decide +kernel) (off := 526) (by decide +kernel) (by decide) ?_
        exact lawc_14 C0 hK hCs hs_most h_in0 h_in1 h_in2 h_in3 h_in4 hend hRl hP hD hS hl
      | 15, _ =>
        refine lv_tableIn (tgt := 571) hx hb d_law_32 (by decide +kernel) (by decide +kernel) (off := 539) (by decide +kernel) (by decide) ?_
        exact lawc_15 C0 hK hCs hs_train h_in0 h_in1 h_in2 h_in3 h_in4 hend hRl hP hD hS hl
      | 16, _ =>
        refine lv_tableIn (tgt := 594) hx hb d_law_32 (by decide +kernel) (by decide +kernel) (off := 562) (by decide +kernel) (by decide) ?_
        exact lawc_16 C0 hK hCs hs_moved h_in0 h_in1 h_in2 h_in3 h_in4 hend hRl hP hD hS hl
      | 17, _ =>
        refine lv_tableIn (tgt := 607) hx hb d_law_32 (by decide +kernel) (by decide +kernel) (off := 575) (by decide +kernel) (by decide) ?_
        exact lawc_17 C0 hK hCs hs_gives h_in0 h_in1 h_in2 h_in3 h_in4 hend hRl hP hD hS hl
      | 18, _ =>
        refine lv_tableIn (tgt := 640) hx hb d_law_32 (by decide +kernel) (by decide +kernel) (off := 608) (by decide +kernel) (by decide) ?_
        exact lawc_18 C0 hK hCs hs_parts h_in0 h_in1 h_in2 h_in3 h_in4 hend hRl hP hD hS hl
      | 19, _ =>
        refine lv_tableIn (tgt := 674) hx hb d_law_32 (by decide +kernel) (by decide +kernel) (off := 642) (by decide +kernel) (by decide) ?_
        exact lawc_19 C0 hK hCs hs_swap h_in0 h_in1 h_in2 h_in3 h_in4 hend hRl hP hD hS hl
      | 20, _ =>
        refine lv_tableIn (tgt := 697) hx hb d_law_32 (by decide +kernel) (by decide +kernel) (off := 665) (by decide +kernel) (by decide) ?_
        exact lawc_20 C0 hK hCs hs_rest h_in0 h_in1 h_in2 h_in3 h_in4 hend hRl hP hD hS hl
      | 21, _ =>
        refine lv_tableIn (tgt := 710) hx hb d_law_32 (by decide +kernel) (by decide +kernel) (off := 678) (by decide +kernel) (by decide) ?_
        exact lawc_21 C0 hK hCs hs_fair h_in0 h_in1 h_in2 h_in3 h_in4 hend hRl hP hD hS hl
      | 22, _ =>
        refine lv_tableIn (tgt := 753) hx hb d_law_32 (by decide +kernel) (by decide +kernel) (off := 721) (by decide +kernel) (by decide) ?_
        exact lawc_22 C0 hK hCs hs_had h_in0 h_in1 h_in2 h_in3 h_in4 hend hRl hP hD hS hl
      | 23, _ =>
        refine lv_tableIn (tgt := 786) hx hb d_law_32 (by decide +kernel) (by decide +kernel) (off := 754) (by decide +kernel) (by decide) ?_
        exact lawc_23 C0 hK hCs hs_odds h_in0 h_in1 h_in2 h_in3 h_in4 hend hRl hP hD hS hl
      | 24, _ =>
        refine lv_tableIn (tgt := 810) hx hb d_law_32 (by decide +kernel) (by decide +kernel) (off := 778) (by decide +kernel) (by decide) ?_
        exact lawc_24 C0 hK hCs hs_see h_in0 h_in1 h_in2 h_in3 h_in4 hend hRl hP hD hS hl
      | 25, _ =>
        refine lv_tableIn (tgt := 859) hx hb d_law_32 (by decide +kernel) (by decide +kernel) (off := 827) (by decide +kernel) (by decide) ?_
        exact lawc_25 C0 hK hCs hs_looked h_in0 h_in1 h_in2 h_in3 h_in4 hend hRl hP hD hS hl
      | 26, _ =>
        refine lv_tableIn (tgt := 872) hx hb d_law_32 (by decide +kernel) (by decide +kernel) (off := 840) (by decide +kernel) (by decide) ?_
        exact lawc_26 C0 hK hCs hs_act h_in0 h_in1 h_in2 h_in3 h_in4 hend hRl hP hD hS hl
      | 27, _ =>
        refine lv_tableIn (tgt := 915) hx hb d_law_32 (by decide +kernel) (by decide +kernel) (off := 883) (by decide +kernel) (by decide) ?_
        exact lawc_27 C0 hK hCs hs_trace h_in0 h_in1 h_in2 h_in3 h_in4 hend hRl hP hD hS hl
      | 28, _ =>
        refine lv_tableIn (tgt := 938) hx hb d_law_32 (by decide +kernel) (by decide +kernel) (off := 906) (by decide +kernel) (by decide) ?_
        exact lawc_28 C0 hK hCs hs_as h_in0 h_in1 h_in2 h_in3 h_in4 hend hRl hP hD hS hl
      | 29, _ =>
        refine lv_tableIn (tgt := 971) hx hb d_law_32 (by decide +kernel) (by decide +kernel) (off := 939) (by decide +kernel) (by decide) ?_
        exact lawc_29 C0 hK hCs hs_image h_in0 h_in1 h_in2 h_in3 h_in4 hend hRl hP hD hS hl
      | 30, _ =>
        refine lv_tableIn (tgt := 984) hx hb d_law_32 (by decide +kernel) (by decide +kernel) (off := 952) (by decide +kernel) (by decide) ?_
        exact lawc_30 C0 hK hCs hs_undo h_in0 h_in1 h_in2 h_in3 h_in4 hend hRl hP hD hS hl
      | 31, _ =>
        refine lv_tableIn (tgt := 997) hx hb d_law_32 (by decide +kernel) (by decide +kernel) (off := 965) (by decide +kernel) (by decide) ?_
        exact lawc_31 C0 hK hCs hs_count h_in0 h_in1 h_in2 h_in3 h_in4 hend hRl hP hD hS hl
      | j + 32, hj => exact absurd hj (by omega)

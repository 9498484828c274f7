-- OwnsLiftModel.rest()I
def B_Mo_rest_L15 (k15_88 : Int32 → T_Mo → Option (Int32 × T_Mo)) (self15 : Int32 → Int32 → T_Mo → Option (Int32 × T_Mo)) (x1_15 : Int32) (x2_15 : Int32) (z_15 : T_Mo) : Option (Int32 × T_Mo) :=
  if x2_15 = (-5) then (k15_88 x1_15 z_15) else (if 21 ≤ x1_15 then (k15_88 x1_15 z_15) else (if inb (65 + (x2_15 / 10)) 901 = true then (if inb (65 + (x2_15 - x2_15 / 10 * 10)) 901 = true then (if inb (65 + (x2_15 / 10)) 901 = true then (if inb (65 + (x2_15 - x2_15 / 10 * 10)) 901 = true then ((d_Mo_firstSwap (u_Mo_s (u_Mo_s z_15 (upd (q_Mo_s z_15) (65 + (x2_15 / 10)).toNatClampNeg ((q_Mo_s z_15) (65 + (x2_15 - x2_15 / 10 * 10)).toNatClampNeg))) (upd (q_Mo_s (u_Mo_s z_15 (upd (q_Mo_s z_15) (65 + (x2_15 / 10)).toNatClampNeg ((q_Mo_s z_15) (65 + (x2_15 - x2_15 / 10 * 10)).toNatClampNeg)))) (65 + (x2_15 - x2_15 / 10 * 10)).toNatClampNeg ((q_Mo_s z_15) (65 + (x2_15 / 10)).toNatClampNeg)))).bind fun v_9 => self15 (x1_15 + 1) v_9.1 v_9.2) else none) else none) else none) else none))
def d_Mo_rest_L15 (k15_88 : Int32 → T_Mo → Option (Int32 × T_Mo)) (n : Nat) : Int32 → Int32 → T_Mo → Option (Int32 × T_Mo) := recN (fun _ _ _ => none) (fun self => B_Mo_rest_L15 k15_88 self) n
def d_Mo_rest (z : T_Mo) : Option (Int32 × T_Mo) :=
  (d_Mo_looksForAll z).bind fun v_1 => (d_Mo_keeps v_1).bind fun v_3 => (d_Mo_firstSwap v_3).bind fun v_5 => d_Mo_rest_L15 (fun x1_15 z_15 => (d_Mo_goesBack z_15).bind fun v_15 => if x1_15 ≤ 20 then (some (x1_15, v_15)) else (some ((-5), v_15))) 1000 0 v_5.1 v_5.2
theorem d_Mo_rest_0 : decode b_Mo_rest 0 = .ok (.aload_n 0, 1) := by decide +kernel
theorem d_Mo_rest_1 : decode b_Mo_rest 1 = .ok (.invokevirtual 178, 3) := by decide +kernel
theorem d_Mo_rest_4 : decode b_Mo_rest 4 = .ok (.aload_n 0, 1) := by decide +kernel
theorem d_Mo_rest_5 : decode b_Mo_rest 5 = .ok (.invokevirtual 229, 3) := by decide +kernel
theorem d_Mo_rest_8 : decode b_Mo_rest 8 = .ok (.iconst 0, 1) := by decide +kernel
theorem d_Mo_rest_9 : decode b_Mo_rest 9 = .ok (.istore_n 1, 1) := by decide +kernel
theorem d_Mo_rest_10 : decode b_Mo_rest 10 = .ok (.aload_n 0, 1) := by decide +kernel
theorem d_Mo_rest_11 : decode b_Mo_rest 11 = .ok (.invokevirtual 226, 3) := by decide +kernel
theorem d_Mo_rest_14 : decode b_Mo_rest 14 = .ok (.istore_n 2, 1) := by decide +kernel
theorem d_Mo_rest_15 : decode b_Mo_rest 15 = .ok (.iload_n 2, 1) := by decide +kernel
theorem d_Mo_rest_16 : decode b_Mo_rest 16 = .ok (.bipush (-5), 2) := by decide +kernel
theorem d_Mo_rest_18 : decode b_Mo_rest 18 = .ok (.if_icmp .eq 70, 3) := by decide +kernel
theorem d_Mo_rest_21 : decode b_Mo_rest 21 = .ok (.iload_n 1, 1) := by decide +kernel
theorem d_Mo_rest_22 : decode b_Mo_rest 22 = .ok (.bipush 21, 2) := by decide +kernel
theorem d_Mo_rest_24 : decode b_Mo_rest 24 = .ok (.if_icmp .ge 64, 3) := by decide +kernel
theorem d_Mo_rest_27 : decode b_Mo_rest 27 = .ok (.aload_n 0, 1) := by decide +kernel
theorem d_Mo_rest_28 : decode b_Mo_rest 28 = .ok (.getfield 9, 3) := by decide +kernel
theorem d_Mo_rest_31 : decode b_Mo_rest 31 = .ok (.bipush 65, 2) := by decide +kernel
theorem d_Mo_rest_33 : decode b_Mo_rest 33 = .ok (.iload_n 2, 1) := by decide +kernel
theorem d_Mo_rest_34 : decode b_Mo_rest 34 = .ok (.bipush 10, 2) := by decide +kernel
theorem d_Mo_rest_36 : decode b_Mo_rest 36 = .ok (.idiv, 1) := by decide +kernel
theorem d_Mo_rest_37 : decode b_Mo_rest 37 = .ok (.iadd, 1) := by decide +kernel
theorem d_Mo_rest_38 : decode b_Mo_rest 38 = .ok (.iaload, 1) := by decide +kernel
theorem d_Mo_rest_39 : decode b_Mo_rest 39 = .ok (.istore_n 3, 1) := by decide +kernel
theorem d_Mo_rest_40 : decode b_Mo_rest 40 = .ok (.aload_n 0, 1) := by decide +kernel
theorem d_Mo_rest_41 : decode b_Mo_rest 41 = .ok (.getfield 9, 3) := by decide +kernel
theorem d_Mo_rest_44 : decode b_Mo_rest 44 = .ok (.bipush 65, 2) := by decide +kernel
theorem d_Mo_rest_46 : decode b_Mo_rest 46 = .ok (.iload_n 2, 1) := by decide +kernel
theorem d_Mo_rest_47 : decode b_Mo_rest 47 = .ok (.bipush 10, 2) := by decide +kernel
theorem d_Mo_rest_49 : decode b_Mo_rest 49 = .ok (.idiv, 1) := by decide +kernel
theorem d_Mo_rest_50 : decode b_Mo_rest 50 = .ok (.iadd, 1) := by decide +kernel
theorem d_Mo_rest_51 : decode b_Mo_rest 51 = .ok (.aload_n 0, 1) := by decide +kernel
theorem d_Mo_rest_52 : decode b_Mo_rest 52 = .ok (.getfield 9, 3) := by decide +kernel
theorem d_Mo_rest_55 : decode b_Mo_rest 55 = .ok (.bipush 65, 2) := by decide +kernel
theorem d_Mo_rest_57 : decode b_Mo_rest 57 = .ok (.iload_n 2, 1) := by decide +kernel
theorem d_Mo_rest_58 : decode b_Mo_rest 58 = .ok (.bipush 10, 2) := by decide +kernel
theorem d_Mo_rest_60 : decode b_Mo_rest 60 = .ok (.irem, 1) := by decide +kernel
theorem d_Mo_rest_61 : decode b_Mo_rest 61 = .ok (.iadd, 1) := by decide +kernel
theorem d_Mo_rest_62 : decode b_Mo_rest 62 = .ok (.iaload, 1) := by decide +kernel
theorem d_Mo_rest_63 : decode b_Mo_rest 63 = .ok (.iastore, 1) := by decide +kernel
theorem d_Mo_rest_64 : decode b_Mo_rest 64 = .ok (.aload_n 0, 1) := by decide +kernel
theorem d_Mo_rest_65 : decode b_Mo_rest 65 = .ok (.getfield 9, 3) := by decide +kernel
theorem d_Mo_rest_68 : decode b_Mo_rest 68 = .ok (.bipush 65, 2) := by decide +kernel
theorem d_Mo_rest_70 : decode b_Mo_rest 70 = .ok (.iload_n 2, 1) := by decide +kernel
theorem d_Mo_rest_71 : decode b_Mo_rest 71 = .ok (.bipush 10, 2) := by decide +kernel
theorem d_Mo_rest_73 : decode b_Mo_rest 73 = .ok (.irem, 1) := by decide +kernel
theorem d_Mo_rest_74 : decode b_Mo_rest 74 = .ok (.iadd, 1) := by decide +kernel
theorem d_Mo_rest_75 : decode b_Mo_rest 75 = .ok (.iload_n 3, 1) := by decide +kernel
theorem d_Mo_rest_76 : decode b_Mo_rest 76 = .ok (.iastore, 1) := by decide +kernel
theorem d_Mo_rest_77 : decode b_Mo_rest 77 = .ok (.iinc 1 1, 3) := by decide +kernel
theorem d_Mo_rest_80 : decode b_Mo_rest 80 = .ok (.aload_n 0, 1) := by decide +kernel
theorem d_Mo_rest_81 : decode b_Mo_rest 81 = .ok (.invokevirtual 226, 3) := by decide +kernel
theorem d_Mo_rest_84 : decode b_Mo_rest 84 = .ok (.istore_n 2, 1) := by decide +kernel
theorem d_Mo_rest_85 : decode b_Mo_rest 85 = .ok (.goto (-70), 3) := by decide +kernel
theorem d_Mo_rest_88 : decode b_Mo_rest 88 = .ok (.aload_n 0, 1) := by decide +kernel
theorem d_Mo_rest_89 : decode b_Mo_rest 89 = .ok (.invokevirtual 232, 3) := by decide +kernel
theorem d_Mo_rest_92 : decode b_Mo_rest 92 = .ok (.iload_n 1, 1) := by decide +kernel
theorem d_Mo_rest_93 : decode b_Mo_rest 93 = .ok (.bipush 20, 2) := by decide +kernel
theorem d_Mo_rest_95 : decode b_Mo_rest 95 = .ok (.if_icmp .le 8, 3) := by decide +kernel
theorem d_Mo_rest_98 : decode b_Mo_rest 98 = .ok (.bipush (-5), 2) := by decide +kernel
theorem d_Mo_rest_100 : decode b_Mo_rest 100 = .ok (.goto 4, 3) := by decide +kernel
theorem d_Mo_rest_103 : decode b_Mo_rest 103 = .ok (.iload_n 1, 1) := by decide +kernel
theorem d_Mo_rest_104 : decode b_Mo_rest 104 = .ok (.ireturn, 1) := by decide +kernel
theorem o_Mo_rest : OkV y_Mo_rest "OwnsLiftModel" b_Mo_rest 4 (some .int) 0 := ⟨⟨rfl, by decide +kernel, by decide +kernel, by decide +kernel⟩, g_1311, g_1312, g_81, g_1313⟩
set_option maxHeartbeats 4000000 in
set_option maxRecDepth 100000 in
theorem c_Mo_rest (l : Launch) (D : va_G) (g : Nat → ClassId) (a : Nat → Nat) (z : T_Mo) (v : Int32 × T_Mo) (h : d_Mo_rest z = some v) :
    MI l y_Mo_rest b_Mo_rest 4 .int ({ frames := 4, cells := 0, slots := 0, locals := 97 } : Room) D g [.ref (a 0)] (ws_Mo g a z) (v.1) (ws_Mo g a v.2) := by
  have hd := h
  unfold d_Mo_rest at hd
  refine enterI rfl (Nat.le_of_ble_eq_true rfl) (fun p e s m below meth c A ls hx hb hml hr hown hg hlk hK hA hP hD hS hCs hl => ?_)
  have hown : s.vm.findClass "OwnsLiftModel" = some m.cls := hown
  have hl : lv_has ls 4 [(0, .ref (a 0))] := hl
  show GI p l e s m ({ frames := 4, cells := 0, slots := 0, locals := 97 } : Room) ([.ref (a 0)] : List Value).toArray below meth c A D g (ws_Mo g a v.2) (v.1) s.heap [] (F0 m 0 ls [])
  refine lv_aload_n hx hb d_Mo_rest_0 rfl (lv_at hl 0 rfl) ?_
  obtain ⟨v_1, e_2, hd⟩ := bind_s hd
  refine callVV (ws' := ws_Mo g a v_1) (rest := []) (As := []) hx hb hml hown hg hK hP hD hS hA hCs hl.1 (c_Mo_looksForAll l D g a z _ e_2) o_Mo_looksForAll g_1218 (ci := 1) (q0 := 0) rfl rfl (List.range' 0 12) (segC1 rfl rfl) (by decide) rfl (segP1 rfl rfl) rfl rfl (Nat.le_of_ble_eq_true rfl) ⟨rfl, rfl, Nat.le_of_ble_eq_true rfl, Nat.le_of_ble_eq_true rfl⟩ d_Mo_rest_1 (fun H locs hP hD hS => ?_)
  refine lv_aload_n hx hb d_Mo_rest_4 rfl (lv_at hl 0 rfl) ?_
  obtain ⟨v_3, e_4, hd⟩ := bind_s hd
  refine callVV (ws' := ws_Mo g a v_3) (rest := []) (As := []) hx hb hml hown hg hK hP hD hS hA hCs hl.1 (c_Mo_keeps l D g a v_1 _ e_4) o_Mo_keeps g_1314 (ci := 1) (q0 := 0) rfl rfl (List.range' 0 12) (segC1 rfl rfl) (by decide) rfl (segP1 rfl rfl) rfl rfl (Nat.le_of_ble_eq_true rfl) ⟨rfl, rfl, Nat.le_of_ble_eq_true rfl, Nat.le_of_ble_eq_true rfl⟩ d_Mo_rest_5 (fun H locs hP hD hS => ?_)
  refine lv_iconst (v := 0) hx hb d_Mo_rest_8 (by decide) ?_
  refine lv_istore_n (lv' := [(1, .int 0), (0, .ref (a 0))]) hx hb d_Mo_rest_9 rfl hl (by decide) rfl (fun ls hl => ?_)
  refine lv_aload_n hx hb d_Mo_rest_10 rfl (lv_at hl 1 rfl) ?_
  obtain ⟨v_5, e_6, hd⟩ := bind_s hd
  refine callVI (ws' := ws_Mo g a v_5.2) (rest := []) (As := []) hx hb hml hown hg hK hP hD hS hA hCs hl.1 (c_Mo_firstSwap l D g a v_3 _ e_6) o_Mo_firstSwap g_1302 (ci := 1) (q0 := 0) rfl rfl (List.range' 0 12) (segC1 rfl rfl) (by decide) rfl (segP1 rfl rfl) rfl rfl (Nat.le_of_ble_eq_true rfl) ⟨rfl, rfl, Nat.le_of_ble_eq_true rfl, Nat.le_of_ble_eq_true rfl⟩ d_Mo_rest_11 (fun H locs hP hD hS => ?_)
  refine lv_istore_n (lv' := [(2, .int v_5.1), (1, .int 0), (0, .ref (a 0))]) hx hb d_Mo_rest_14 rfl hl (by decide) rfl (fun ls hl => ?_)
  have ex15_88 : ∀ (x1_15 : Int32) (z_15 : T_Mo) (H : Heap) (locs : List Loc) (ls : Array Slot), va_P D classes (ws_Mo g a z_15) H → va_D A (ws_Mo g a z_15) → va_S A s.heap H locs → lv_has ls 4 [(0, .ref (a 0)), (1, .int x1_15)] → ((d_Mo_goesBack z_15).bind fun v_15 => if x1_15 ≤ 20 then (some (x1_15, v_15)) else (some ((-5), v_15))) = some v → GI p l e s m ({ frames := 4, cells := 0, slots := 0, locals := 97 } : Room) ([.ref (a 0)] : List Value).toArray below meth c A D g (ws_Mo g a v.2) (v.1) H locs (F0 m 88 ls []) := by
    intro x1_15 z_15 H locs ls hP hD hS hl hd
    refine lv_aload_n hx hb d_Mo_rest_88 rfl (lv_at hl 0 rfl) ?_
    obtain ⟨v_15, e_16, hd⟩ := bind_s hd
    refine callVV (ws' := ws_Mo g a v_15) (rest := []) (As := []) hx hb hml hown hg hK hP hD hS hA hCs hl.1 (c_Mo_goesBack l D g a z_15 _ e_16) o_Mo_goesBack g_1318 (ci := 1) (q0 := 0) rfl rfl (List.range' 0 12) (segC1 rfl rfl) (by decide) rfl (segP1 rfl rfl) rfl rfl (Nat.le_of_ble_eq_true rfl) ⟨rfl, rfl, Nat.le_of_ble_eq_true rfl, Nat.le_of_ble_eq_true rfl⟩ d_Mo_rest_89 (fun H locs hP hD hS => ?_)
    refine lv_iload_n hx hb d_Mo_rest_92 rfl (lv_at hl 1 rfl) ?_
    refine lv_bipush (v := 20) hx hb d_Mo_rest_93 (by decide) ?_
    refine lv_icmp_le (tgt := 103) hx hb d_Mo_rest_95 (by decide) (fun h_17 => ?_) (fun h_17 => ?_)
    · have hd := ite_t hd h_17
      refine lv_iload_n hx hb d_Mo_rest_103 rfl (lv_at hl 1 rfl) ?_
      obtain rfl := Option.some.inj hd
      exact retI hx hb hr hlk hK hP hD hS d_Mo_rest_104 rfl
    · have hd := ite_f hd h_17
      refine lv_bipush (v := (-5)) hx hb d_Mo_rest_98 (by decide) ?_
      refine lv_goto (tgt := 104) hx hb d_Mo_rest_100 (by decide) ?_
      obtain rfl := Option.some.inj hd
      exact retI hx hb hr hlk hK hP hD hS d_Mo_rest_104 rfl
  have lp15 : ∀ (k15_88 : Int32 → T_Mo → Option (Int32 × T_Mo)) (hk15_88 : ∀ (x1_15 : Int32) (z_15 : T_Mo) (H : Heap) (locs : List Loc) (ls : Array Slot), va_P D classes (ws_Mo g a z_15) H → va_D A (ws_Mo g a z_15) → va_S A s.heap H locs → lv_has ls 4 [(0, .ref (a 0)), (1, .int x1_15)] → k15_88 x1_15 z_15 = some v → GI p l e s m ({ frames := 4, cells := 0, slots := 0, locals := 97 } : Room) ([.ref (a 0)] : List Value).toArray below meth c A D g (ws_Mo g a v.2) (v.1) H locs (F0 m 88 ls [])) (n : Nat) (x1_15 : Int32) (x2_15 : Int32) (z_15 : T_Mo) (H : Heap) (locs : List Loc) (ls : Array Slot), va_P D classes (ws_Mo g a z_15) H → va_D A (ws_Mo g a z_15) → va_S A s.heap H locs → lv_has ls 4 [(0, .ref (a 0)), (1, .int x1_15), (2, .int x2_15)] → d_Mo_rest_L15 k15_88 n x1_15 x2_15 z_15 = some v → GI p l e s m ({ frames := 4, cells := 0, slots := 0, locals := 97 } : Room) ([.ref (a 0)] : List Value).toArray below meth c A D g (ws_Mo g a v.2) (v.1) H locs (F0 m 15 ls []) := by
    intro k15_88 hk15_88 n
    induction n with
    | zero =>
      intro  x1_15 x2_15 z_15 H locs ls hP hD hS hl hd
      have hd : none = some v := hd
      cases hd
    | succ n ih15 =>
      intro  x1_15 x2_15 z_15 H locs ls hP hD hS hl hd
      have hd : B_Mo_rest_L15 k15_88 (d_Mo_rest_L15 k15_88 n) x1_15 x2_15 z_15 = some v := hd
      generalize d_Mo_rest_L15 k15_88 n = self15 at ih15 hd
      unfold B_Mo_rest_L15 at hd
      refine lv_iload_n hx hb d_Mo_rest_15 rfl (lv_at hl 2 rfl) ?_
      refine lv_bipush (v := (-5)) hx hb d_Mo_rest_16 (by decide) ?_
      refine lv_icmp_eq (tgt := 88) hx hb d_Mo_rest_18 (by decide) (fun h_7 => ?_) (fun h_7 => ?_)
      · have hd := ite_t hd h_7
        exact hk15_88 x1_15 z_15 _ _ _ hP hD hS (lv_sub hl [0, 1] rfl) hd
      · have hd := ite_f hd h_7
        refine lv_iload_n hx hb d_Mo_rest_21 rfl (lv_at hl 1 rfl) ?_
        refine lv_bipush (v := 21) hx hb d_Mo_rest_22 (by decide) ?_
        refine lv_icmp_ge (tgt := 88) hx hb d_Mo_rest_24 (by decide) (fun h_8 => ?_) (fun h_8 => ?_)
        · have hd := ite_t hd h_8
          exact hk15_88 x1_15 z_15 _ _ _ hP hD hS (lv_sub hl [0, 1] rfl) hd
        · have hd := ite_f hd h_8
          refine lv_aload_n hx hb d_Mo_rest_27 rfl (lv_at hl 0 rfl) ?_
          refine va_get (D := D) (ci := 1) (v := .ref (a 1)) (C := R_Mo) (T := F_Mo) (N := 26) hx hb hg i_Mo hown hK hP 0 rfl rfl 1 (by decide) (hg _ g_993) (fun _ h9 => h9) rfl d_Mo_rest_28 ?_
          refine lv_bipush (v := 65) hx hb d_Mo_rest_31 (by decide) ?_
          refine lv_iload_n hx hb d_Mo_rest_33 rfl (lv_at hl 2 rfl) ?_
          refine lv_bipush (v := 10) hx hb d_Mo_rest_34 (by decide) ?_
          refine lv_idiv hx hb d_Mo_rest_36 (by decide) ?_
          refine lv_iadd hx hb d_Mo_rest_37 ?_
          obtain ⟨h_14, hd⟩ := ite_s hd
          refine ialdK hx hb hK hP 1 0 rfl rfl (inb_t h_14) rfl d_Mo_rest_38 ?_
          refine lv_istore_n (lv' := [(3, .int ((q_Mo_s z_15) (65 + (x2_15 / 10)).toNatClampNeg)), (0, .ref (a 0)), (1, .int x1_15), (2, .int x2_15)]) hx hb d_Mo_rest_39 rfl hl (by decide) rfl (fun ls hl => ?_)
          refine lv_aload_n hx hb d_Mo_rest_40 rfl (lv_at hl 1 rfl) ?_
          refine va_get (D := D) (ci := 1) (v := .ref (a 1)) (C := R_Mo) (T := F_Mo) (N := 26) hx hb hg i_Mo hown hK hP 0 rfl rfl 1 (by decide) (hg _ g_993) (fun _ h9 => h9) rfl d_Mo_rest_41 ?_
          refine lv_bipush (v := 65) hx hb d_Mo_rest_44 (by decide) ?_
          refine lv_iload_n hx hb d_Mo_rest_46 rfl (lv_at hl 3 rfl) ?_
          refine lv_bipush (v := 10) hx hb d_Mo_rest_47 (by decide) ?_
          refine lv_idiv hx hb d_Mo_rest_49 (by decide) ?_
          refine lv_iadd hx hb d_Mo_rest_50 ?_
          refine lv_aload_n hx hb d_Mo_rest_51 rfl (lv_at hl 1 rfl) ?_
          refine va_get (D := D) (ci := 1) (v := .ref (a 1)) (C := R_Mo) (T := F_Mo) (N := 26) hx hb hg i_Mo hown hK hP 0 rfl rfl 1 (by decide) (hg _ g_993) (fun _ h9 => h9) rfl d_Mo_rest_52 ?_
          refine lv_bipush (v := 65) hx hb d_Mo_rest_55 (by decide) ?_
          refine lv_iload_n hx hb d_Mo_rest_57 rfl (lv_at hl 3 rfl) ?_
          refine lv_bipush (v := 10) hx hb d_Mo_rest_58 (by decide) ?_
          refine lv_irem hx hb d_Mo_rest_60 (by decide) ?_
          refine lv_iadd hx hb d_Mo_rest_61 ?_
          obtain ⟨h_13, hd⟩ := ite_s hd
          refine ialdK hx hb hK hP 1 0 rfl rfl (inb_t h_13) rfl d_Mo_rest_62 ?_
          obtain ⟨h_12, hd⟩ := ite_s hd
          refine iastK hx hb hK hP hD hS 1 0 rfl rfl (inb_t h_12) rfl d_Mo_rest_63 (fun H locs hP hD hS => ?_)
          have hP : va_P D classes (ws_Mo g a (u_Mo_s z_15 (upd (q_Mo_s z_15) (65 + (x2_15 / 10)).toNatClampNeg ((q_Mo_s z_15) (65 + (x2_15 - x2_15 / 10 * 10)).toNatClampNeg)))) H := hP
          have hD : va_D A (ws_Mo g a (u_Mo_s z_15 (upd (q_Mo_s z_15) (65 + (x2_15 / 10)).toNatClampNeg ((q_Mo_s z_15) (65 + (x2_15 - x2_15 / 10 * 10)).toNatClampNeg)))) := hD
          refine lv_aload_n hx hb d_Mo_rest_64 rfl (lv_at hl 1 rfl) ?_
          refine va_get (D := D) (ci := 1) (v := .ref (a 1)) (C := R_Mo) (T := F_Mo) (N := 26) hx hb hg i_Mo hown hK hP 0 rfl rfl 1 (by decide) (hg _ g_993) (fun _ h9 => h9) rfl d_Mo_rest_65 ?_
          refine lv_bipush (v := 65) hx hb d_Mo_rest_68 (by decide) ?_
          refine lv_iload_n hx hb d_Mo_rest_70 rfl (lv_at hl 3 rfl) ?_
          refine lv_bipush (v := 10) hx hb d_Mo_rest_71 (by decide) ?_
          refine lv_irem hx hb d_Mo_rest_73 (by decide) ?_
          refine lv_iadd hx hb d_Mo_rest_74 ?_
          refine lv_iload_n hx hb d_Mo_rest_75 rfl (lv_at hl 0 rfl) ?_
          obtain ⟨h_11, hd⟩ := ite_s hd
          refine iastK hx hb hK hP hD hS 1 0 rfl rfl (inb_t h_11) rfl d_Mo_rest_76 (fun H locs hP hD hS => ?_)
          have hP : va_P D classes (ws_Mo g a (u_Mo_s (u_Mo_s z_15 (upd (q_Mo_s z_15) (65 + (x2_15 / 10)).toNatClampNeg ((q_Mo_s z_15) (65 + (x2_15 - x2_15 / 10 * 10)).toNatClampNeg))) (upd (q_Mo_s (u_Mo_s z_15 (upd (q_Mo_s z_15) (65 + (x2_15 / 10)).toNatClampNeg ((q_Mo_s z_15) (65 + (x2_15 - x2_15 / 10 * 10)).toNatClampNeg)))) (65 + (x2_15 - x2_15 / 10 * 10)).toNatClampNeg ((q_Mo_s z_15) (65 + (x2_15 / 10)).toNatClampNeg)))) H := hP
          have hD : va_D A (ws_Mo g a (u_Mo_s (u_Mo_s z_15 (upd (q_Mo_s z_15) (65 + (x2_15 / 10)).toNatClampNeg ((q_Mo_s z_15) (65 + (x2_15 - x2_15 / 10 * 10)).toNatClampNeg))) (upd (q_Mo_s (u_Mo_s z_15 (upd (q_Mo_s z_15) (65 + (x2_15 / 10)).toNatClampNeg ((q_Mo_s z_15) (65 + (x2_15 - x2_15 / 10 * 10)).toNatClampNeg)))) (65 + (x2_15 - x2_15 / 10 * 10)).toNatClampNeg ((q_Mo_s z_15) (65 + (x2_15 / 10)).toNatClampNeg)))) := hD
          refine lv_iinc (v := x1_15 + 1) (lv' := [(1, .int (x1_15 + 1)), (3, .int ((q_Mo_s z_15) (65 + (x2_15 / 10)).toNatClampNeg)), (0, .ref (a 0)), (2, .int x2_15)]) hx hb d_Mo_rest_77 hl (k := 2) rfl (by rfl) (by decide) rfl (fun ls hl => ?_)
          refine lv_aload_n hx hb d_Mo_rest_80 rfl (lv_at hl 2 rfl) ?_
          obtain ⟨v_9, e_10, hd⟩ := bind_s hd
          refine callVI (ws' := ws_Mo g a v_9.2) (rest := []) (As := []) hx hb hml hown hg hK hP hD hS hA hCs hl.1 (c_Mo_firstSwap l D g a (u_Mo_s (u_Mo_s z_15 (upd (q_Mo_s z_15) (65 + (x2_15 / 10)).toNatClampNeg ((q_Mo_s z_15) (65 + (x2_15 - x2_15 / 10 * 10)).toNatClampNeg))) (upd (q_Mo_s (u_Mo_s z_15 (upd (q_Mo_s z_15) (65 + (x2_15 / 10)).toNatClampNeg ((q_Mo_s z_15) (65 + (x2_15 - x2_15 / 10 * 10)).toNatClampNeg)))) (65 + (x2_15 - x2_15 / 10 * 10)).toNatClampNeg ((q_Mo_s z_15) (65 + (x2_15 / 10)).toNatClampNeg))) _ e_10) o_Mo_firstSwap g_1302 (ci := 1) (q0 := 0) rfl rfl (List.range' 0 12) (segC1 rfl rfl) (by decide) rfl (segP1 rfl rfl) rfl rfl (Nat.le_of_ble_eq_true rfl) ⟨rfl, rfl, Nat.le_of_ble_eq_true rfl, Nat.le_of_ble_eq_true rfl⟩ d_Mo_rest_81 (fun H locs hP hD hS => ?_)
          refine lv_istore_n (lv' := [(2, .int v_9.1), (1, .int (x1_15 + 1)), (3, .int ((q_Mo_s z_15) (65 + (x2_15 / 10)).toNatClampNeg)), (0, .ref (a 0))]) hx hb d_Mo_rest_84 rfl hl (by decide) rfl (fun ls hl => ?_)
          refine lv_goto (tgt := 15) hx hb d_Mo_rest_85 (by decide) ?_
          exact ih15 (x1_15 + 1) v_9.1 v_9.2 _ _ _ hP hD hS (lv_sub hl [3, 1, 0] rfl) hd
  exact lp15 _ ex15_88 1000 0 v_5.1 v_5.2 _ _ _ hP hD hS (lv_sub hl [2, 1, 0] rfl) hd
-- OwnsLiftModel.fair(III)I
def B_Mo_fair_L62 (x1_f62 : Int32) (x2_f62 : Int32) (x3_f62 : Int32) (x4_f62 : Int32) (z_f62 : T_Mo) (k62_193 : Int32 → Int32 → Option (Int32 × T_Mo)) (self62 : Int32 → Int32 → Int32 → Option (Int32 × T_Mo)) (x5_62 : Int32) (x6_62 : Int32) (x7_62 : Int32) : Option (Int32 × T_Mo) :=
  if ((1 : Int32) <<< (((q_Mo_s z_f62) 1) &&& 31)) ≤ x7_62 then (k62_193 x5_62 x6_62) else (if (x7_62 &&& (x4_f62 ^^^ (-1))) = 0 then ((d_Mo_weightsOf x7_62 z_f62).bind fun v_19 => if inb x1_f62 4 = true then (if ((q_Mo_lifts z_f62) x1_f62.toNatClampNeg) < v_19 then (self62 x5_62 x6_62 (x7_62 + 1)) else ((d_Mo_weightsOf (x4_f62 &&& (x7_62 ^^^ (-1))) z_f62).bind fun v_22 => if inb x2_f62 4 = true then (if ((q_Mo_lifts z_f62) x2_f62.toNatClampNeg) < v_22 then (self62 x5_62 x6_62 (x7_62 + 1)) else ((d_Mo_likesOf x1_f62 x7_62 z_f62).bind fun v_25 => (d_Mo_likesOf x1_f62 (x4_f62 &&& (x7_62 ^^^ (-1))) z_f62).bind fun v_27 => if v_25 < v_27 then (self62 x5_62 x6_62 (x7_62 + 1)) else ((d_Mo_likesOf x2_f62 (x4_f62 &&& (x7_62 ^^^ (-1))) z_f62).bind fun v_30 => (d_Mo_likesOf x2_f62 x7_62 z_f62).bind fun v_32 => if v_30 < v_32 then (self62 x5_62 x6_62 (x7_62 + 1)) else (if x5_62 = 0 then (self62 (x5_62 + 1) x7_62 (x7_62 + 1)) else (self62 (x5_62 + 1) x6_62 (x7_62 + 1)))))) else none)) else none) else (self62 x5_62 x6_62 (x7_62 + 1)))
def d_Mo_fair_L62 (x1_f62 : Int32) (x2_f62 : Int32) (x3_f62 : Int32) (x4_f62 : Int32) (z_f62 : T_Mo) (k62_193 : Int32 → Int32 → Option (Int32 × T_Mo)) (n : Nat) : Int32 → Int32 → Int32 → Option (Int32 × T_Mo) := recN (fun _ _ _ => none) (fun self => B_Mo_fair_L62 x1_f62 x2_f62 x3_f62 x4_f62 z_f62 k62_193 self) n
def d_Mo_fair (x1 : Int32) (x2 : Int32) (x3 : Int32) (z : T_Mo) : Option (Int32 × T_Mo) :=
  (d_Mo_isPerson x1 z).bind fun v_1 => if v_1 = 0 then (some ((-1), z)) else ((d_Mo_isPerson x2 z).bind fun v_4 => if v_4 = 0 then (some ((-1), z)) else ((d_Mo_in x3 0 1).bind fun v_7 => if v_7 = 0 then (some ((-1), z)) else (if x1 = x2 then (some ((-2), z)) else ((d_Mo_looksForAll z).bind fun v_11 => (d_Mo_thingsOf x1 v_11).bind fun v_13 => (d_Mo_thingsOf x2 v_11).bind fun v_15 => d_Mo_fair_L62 x1 x2 x3 (v_13 ||| v_15) v_11 (fun x5_62 x6_62 => if x3 = 0 then (some (x5_62, v_11)) else (some (x6_62, v_11))) 1000 0 (-5) 0))))
theorem d_Mo_fair_0 : decode b_Mo_fair 0 = .ok (.aload_n 0, 1) := by decide +kernel
theorem d_Mo_fair_1 : decode b_Mo_fair 1 = .ok (.iload_n 1, 1) := by decide +kernel
theorem d_Mo_fair_2 : decode b_Mo_fair 2 = .ok (.invokevirtual 147, 3) := by decide +kernel
theorem d_Mo_fair_5 : decode b_Mo_fair 5 = .ok (.ifCond .eq 20, 3) := by decide +kernel
theorem d_Mo_fair_8 : decode b_Mo_fair 8 = .ok (.aload_n 0, 1) := by decide +kernel
theorem d_Mo_fair_9 : decode b_Mo_fair 9 = .ok (.iload_n 2, 1) := by decide +kernel
theorem d_Mo_fair_10 : decode b_Mo_fair 10 = .ok (.invokevirtual 147, 3) := by decide +kernel
theorem d_Mo_fair_13 : decode b_Mo_fair 13 = .ok (.ifCond .eq 12, 3) := by decide +kernel
theorem d_Mo_fair_16 : decode b_Mo_fair 16 = .ok (.iload_n 3, 1) := by decide +kernel
theorem d_Mo_fair_17 : decode b_Mo_fair 17 = .ok (.iconst 0, 1) := by decide +kernel
theorem d_Mo_fair_18 : decode b_Mo_fair 18 = .ok (.iconst 1, 1) := by decide +kernel
theorem d_Mo_fair_19 : decode b_Mo_fair 19 = .ok (.invokestatic 50, 3) := by decide +kernel
theorem d_Mo_fair_22 : decode b_Mo_fair 22 = .ok (.ifCond .ne 5, 3) := by decide +kernel
theorem d_Mo_fair_25 : decode b_Mo_fair 25 = .ok (.iconst (-1), 1) := by decide +kernel
theorem d_Mo_fair_26 : decode b_Mo_fair 26 = .ok (.ireturn, 1) := by decide +kernel
theorem d_Mo_fair_27 : decode b_Mo_fair 27 = .ok (.iload_n 1, 1) := by decide +kernel
theorem d_Mo_fair_28 : decode b_Mo_fair 28 = .ok (.iload_n 2, 1) := by decide +kernel
theorem d_Mo_fair_29 : decode b_Mo_fair 29 = .ok (.if_icmp .ne 6, 3) := by decide +kernel
theorem d_Mo_fair_32 : decode b_Mo_fair 32 = .ok (.bipush (-2), 2) := by decide +kernel
theorem d_Mo_fair_34 : decode b_Mo_fair 34 = .ok (.ireturn, 1) := by decide +kernel
theorem d_Mo_fair_35 : decode b_Mo_fair 35 = .ok (.aload_n 0, 1) := by decide +kernel
theorem d_Mo_fair_36 : decode b_Mo_fair 36 = .ok (.invokevirtual 178, 3) := by decide +kernel
theorem d_Mo_fair_39 : decode b_Mo_fair 39 = .ok (.aload_n 0, 1) := by decide +kernel
theorem d_Mo_fair_40 : decode b_Mo_fair 40 = .ok (.iload_n 1, 1) := by decide +kernel
theorem d_Mo_fair_41 : decode b_Mo_fair 41 = .ok (.invokevirtual 157, 3) := by decide +kernel
theorem d_Mo_fair_44 : decode b_Mo_fair 44 = .ok (.aload_n 0, 1) := by decide +kernel
theorem d_Mo_fair_45 : decode b_Mo_fair 45 = .ok (.iload_n 2, 1) := by decide +kernel
theorem d_Mo_fair_46 : decode b_Mo_fair 46 = .ok (.invokevirtual 157, 3) := by decide +kernel
theorem d_Mo_fair_49 : decode b_Mo_fair 49 = .ok (.ior, 1) := by decide +kernel
theorem d_Mo_fair_50 : decode b_Mo_fair 50 = .ok (.istore 4, 2) := by decide +kernel
theorem d_Mo_fair_52 : decode b_Mo_fair 52 = .ok (.iconst 0, 1) := by decide +kernel
theorem d_Mo_fair_53 : decode b_Mo_fair 53 = .ok (.istore 5, 2) := by decide +kernel
theorem d_Mo_fair_55 : decode b_Mo_fair 55 = .ok (.bipush (-5), 2) := by decide +kernel
theorem d_Mo_fair_57 : decode b_Mo_fair 57 = .ok (.istore 6, 2) := by decide +kernel
theorem d_Mo_fair_59 : decode b_Mo_fair 59 = .ok (.iconst 0, 1) := by decide +kernel
theorem d_Mo_fair_60 : decode b_Mo_fair 60 = .ok (.istore 7, 2) := by decide +kernel
theorem d_Mo_fair_62 : decode b_Mo_fair 62 = .ok (.iload 7, 2) := by decide +kernel
theorem d_Mo_fair_64 : decode b_Mo_fair 64 = .ok (.iconst 1, 1) := by decide +kernel
theorem d_Mo_fair_65 : decode b_Mo_fair 65 = .ok (.aload_n 0, 1) := by decide +kernel
theorem d_Mo_fair_66 : decode b_Mo_fair 66 = .ok (.getfield 9, 3) := by decide +kernel
theorem d_Mo_fair_69 : decode b_Mo_fair 69 = .ok (.iconst 1, 1) := by decide +kernel
theorem d_Mo_fair_70 : decode b_Mo_fair 70 = .ok (.iaload, 1) := by decide +kernel
theorem d_Mo_fair_71 : decode b_Mo_fair 71 = .ok (.ishl, 1) := by decide +kernel
theorem d_Mo_fair_72 : decode b_Mo_fair 72 = .ok (.if_icmp .ge 121, 3) := by decide +kernel
theorem d_Mo_fair_75 : decode b_Mo_fair 75 = .ok (.iload 4, 2) := by decide +kernel
theorem d_Mo_fair_77 : decode b_Mo_fair 77 = .ok (.iload 7, 2) := by decide +kernel
theorem d_Mo_fair_79 : decode b_Mo_fair 79 = .ok (.iconst (-1), 1) := by decide +kernel
theorem d_Mo_fair_80 : decode b_Mo_fair 80 = .ok (.ixor, 1) := by decide +kernel
theorem d_Mo_fair_81 : decode b_Mo_fair 81 = .ok (.iand, 1) := by decide +kernel
theorem d_Mo_fair_82 : decode b_Mo_fair 82 = .ok (.istore 8, 2) := by decide +kernel
theorem d_Mo_fair_84 : decode b_Mo_fair 84 = .ok (.iload 7, 2) := by decide +kernel
theorem d_Mo_fair_86 : decode b_Mo_fair 86 = .ok (.iload 4, 2) := by decide +kernel
theorem d_Mo_fair_88 : decode b_Mo_fair 88 = .ok (.iconst (-1), 1) := by decide +kernel
theorem d_Mo_fair_89 : decode b_Mo_fair 89 = .ok (.ixor, 1) := by decide +kernel
theorem d_Mo_fair_90 : decode b_Mo_fair 90 = .ok (.iand, 1) := by decide +kernel
theorem d_Mo_fair_91 : decode b_Mo_fair 91 = .ok (.ifCond .ne 37, 3) := by decide +kernel
theorem d_Mo_fair_94 : decode b_Mo_fair 94 = .ok (.aload_n 0, 1) := by decide +kernel
theorem d_Mo_fair_95 : decode b_Mo_fair 95 = .ok (.iload 7, 2) := by decide +kernel
theorem d_Mo_fair_97 : decode b_Mo_fair 97 = .ok (.invokevirtual 204, 3) := by decide +kernel
theorem d_Mo_fair_100 : decode b_Mo_fair 100 = .ok (.aload_n 0, 1) := by decide +kernel
theorem d_Mo_fair_101 : decode b_Mo_fair 101 = .ok (.getfield 31, 3) := by decide +kernel
theorem d_Mo_fair_104 : decode b_Mo_fair 104 = .ok (.iload_n 1, 1) := by decide +kernel
theorem d_Mo_fair_105 : decode b_Mo_fair 105 = .ok (.iaload, 1) := by decide +kernel
theorem d_Mo_fair_106 : decode b_Mo_fair 106 = .ok (.if_icmp .gt 22, 3) := by decide +kernel
theorem d_Mo_fair_109 : decode b_Mo_fair 109 = .ok (.aload_n 0, 1) := by decide +kernel
theorem d_Mo_fair_110 : decode b_Mo_fair 110 = .ok (.iload 8, 2) := by decide +kernel
theorem d_Mo_fair_112 : decode b_Mo_fair 112 = .ok (.invokevirtual 204, 3) := by decide +kernel
theorem d_Mo_fair_115 : decode b_Mo_fair 115 = .ok (.aload_n 0, 1) := by decide +kernel
theorem d_Mo_fair_116 : decode b_Mo_fair 116 = .ok (.getfield 31, 3) := by decide +kernel
theorem d_Mo_fair_119 : decode b_Mo_fair 119 = .ok (.iload_n 2, 1) := by decide +kernel
theorem d_Mo_fair_120 : decode b_Mo_fair 120 = .ok (.iaload, 1) := by decide +kernel
theorem d_Mo_fair_121 : decode b_Mo_fair 121 = .ok (.if_icmp .gt 7, 3) := by decide +kernel
theorem d_Mo_fair_124 : decode b_Mo_fair 124 = .ok (.iconst 1, 1) := by decide +kernel
theorem d_Mo_fair_125 : decode b_Mo_fair 125 = .ok (.goto 4, 3) := by decide +kernel
theorem d_Mo_fair_128 : decode b_Mo_fair 128 = .ok (.iconst 0, 1) := by decide +kernel
theorem d_Mo_fair_129 : decode b_Mo_fair 129 = .ok (.istore 9, 2) := by decide +kernel
theorem d_Mo_fair_131 : decode b_Mo_fair 131 = .ok (.iload 9, 2) := by decide +kernel
theorem d_Mo_fair_133 : decode b_Mo_fair 133 = .ok (.ifCond .eq 54, 3) := by decide +kernel
theorem d_Mo_fair_136 : decode b_Mo_fair 136 = .ok (.aload_n 0, 1) := by decide +kernel
theorem d_Mo_fair_137 : decode b_Mo_fair 137 = .ok (.iload_n 1, 1) := by decide +kernel
theorem d_Mo_fair_138 : decode b_Mo_fair 138 = .ok (.iload 7, 2) := by decide +kernel
theorem d_Mo_fair_140 : decode b_Mo_fair 140 = .ok (.invokevirtual 207, 3) := by decide +kernel
theorem d_Mo_fair_143 : decode b_Mo_fair 143 = .ok (.aload_n 0, 1) := by decide +kernel
theorem d_Mo_fair_144 : decode b_Mo_fair 144 = .ok (.iload_n 1, 1) := by decide +kernel
theorem d_Mo_fair_145 : decode b_Mo_fair 145 = .ok (.iload 8, 2) := by decide +kernel
theorem d_Mo_fair_147 : decode b_Mo_fair 147 = .ok (.invokevirtual 207, 3) := by decide +kernel
theorem d_Mo_fair_150 : decode b_Mo_fair 150 = .ok (.if_icmp .lt 37, 3) := by decide +kernel
theorem d_Mo_fair_153 : decode b_Mo_fair 153 = .ok (.aload_n 0, 1) := by decide +kernel
theorem d_Mo_fair_154 : decode b_Mo_fair 154 = .ok (.iload_n 2, 1) := by decide +kernel
theorem d_Mo_fair_155 : decode b_Mo_fair 155 = .ok (.iload 8, 2) := by decide +kernel
theorem d_Mo_fair_157 : decode b_Mo_fair 157 = .ok (.invokevirtual 207, 3) := by decide +kernel
theorem d_Mo_fair_160 : decode b_Mo_fair 160 = .ok (.aload_n 0, 1) := by decide +kernel
theorem d_Mo_fair_161 : decode b_Mo_fair 161 = .ok (.iload_n 2, 1) := by decide +kernel
theorem d_Mo_fair_162 : decode b_Mo_fair 162 = .ok (.iload 7, 2) := by decide +kernel
theorem d_Mo_fair_164 : decode b_Mo_fair 164 = .ok (.invokevirtual 207, 3) := by decide +kernel
theorem d_Mo_fair_167 : decode b_Mo_fair 167 = .ok (.if_icmp .lt 20, 3) := by decide +kernel
theorem d_Mo_fair_170 : decode b_Mo_fair 170 = .ok (.iload 5, 2) := by decide +kernel
theorem d_Mo_fair_172 : decode b_Mo_fair 172 = .ok (.ifCond .ne 8, 3) := by decide +kernel
theorem d_Mo_fair_175 : decode b_Mo_fair 175 = .ok (.iload 7, 2) := by decide +kernel
theorem d_Mo_fair_177 : decode b_Mo_fair 177 = .ok (.goto 5, 3) := by decide +kernel
theorem d_Mo_fair_180 : decode b_Mo_fair 180 = .ok (.iload 6, 2) := by decide +kernel
theorem d_Mo_fair_182 : decode b_Mo_fair 182 = .ok (.istore 6, 2) := by decide +kernel
theorem d_Mo_fair_184 : decode b_Mo_fair 184 = .ok (.iinc 5 1, 3) := by decide +kernel
theorem d_Mo_fair_187 : decode b_Mo_fair 187 = .ok (.iinc 7 1, 3) := by decide +kernel
theorem d_Mo_fair_190 : decode b_Mo_fair 190 = .ok (.goto (-128), 3) := by decide +kernel
theorem d_Mo_fair_193 : decode b_Mo_fair 193 = .ok (.iload_n 3, 1) := by decide +kernel
theorem d_Mo_fair_194 : decode b_Mo_fair 194 = .ok (.ifCond .ne 8, 3) := by decide +kernel
theorem d_Mo_fair_197 : decode b_Mo_fair 197 = .ok (.iload 5, 2) := by decide +kernel
theorem d_Mo_fair_199 : decode b_Mo_fair 199 = .ok (.goto 5, 3) := by decide +kernel
theorem d_Mo_fair_202 : decode b_Mo_fair 202 = .ok (.iload 6, 2) := by decide +kernel
theorem d_Mo_fair_204 : decode b_Mo_fair 204 = .ok (.ireturn, 1) := by decide +kernel
theorem o_Mo_fair : OkV y_Mo_fair "OwnsLiftModel" b_Mo_fair 10 (some .int) 3 := ⟨⟨rfl, by decide +kernel, by decide +kernel, by decide +kernel⟩, g_1323, g_1324, g_81, g_1325⟩
set_option maxHeartbeats 4000000 in
set_option maxRecDepth 100000 in
theorem c_Mo_fair (l : Launch) (D : va_G) (g : Nat → ClassId) (a : Nat → Nat) (x1 : Int32) (x2 : Int32) (x3 : Int32) (z : T_Mo) (v : Int32 × T_Mo) (h : d_Mo_fair x1 x2 x3 z = some v) :
    MI l y_Mo_fair b_Mo_fair 10 .int ({ frames := 4, cells := 0, slots := 0, locals := 97 } : Room) D g [.ref (a 0), .int x1, .int x2, .int x3] (ws_Mo g a z) (v.1) (ws_Mo g a v.2) := by
  have hd := h
  unfold d_Mo_fair at hd
  refine enterI rfl (Nat.le_of_ble_eq_true rfl) (fun p e s m below meth c A ls hx hb hml hr hown hg hlk hK hA hP hD hS hCs hl => ?_)
  have hown : s.vm.findClass "OwnsLiftModel" = some m.cls := hown
  have hl : lv_has ls 10 [(0, .ref (a 0)), (1, .int x1), (2, .int x2), (3, .int x3)] := hl
  show GI p l e s m ({ frames := 4, cells := 0, slots := 0, locals := 97 } : Room) ([.ref (a 0), .int x1, .int x2, .int x3] : List Value).toArray below meth c A D g (ws_Mo g a v.2) (v.1) s.heap [] (F0 m 0 ls [])
  refine lv_aload_n hx hb d_Mo_fair_0 rfl (lv_at hl 0 rfl) ?_
  refine lv_iload_n hx hb d_Mo_fair_1 rfl (lv_at hl 1 rfl) ?_
  obtain ⟨v_1, e_2, hd⟩ := bind_s hd
  refine callVI (ws' := ws_Mo g a z) (rest := []) (As := [.int x1]) hx hb hml hown hg hK hP hD hS hA hCs hl.1 (c_Mo_isPerson l D g a x1 z _ e_2) o_Mo_isPerson g_1147 (ci := 1) (q0 := 0) rfl rfl (List.range' 0 12) (segC1 rfl rfl) (by decide) rfl (segP1 rfl rfl) rfl rfl (Nat.le_of_ble_eq_true rfl) ⟨rfl, rfl, Nat.le_of_ble_eq_true rfl, Nat.le_of_ble_eq_true rfl⟩ d_Mo_fair_2 (fun H locs hP hD hS => ?_)
  refine lv_if_eq (tgt := 25) hx hb d_Mo_fair_5 (by decide) (fun h_3 => ?_) (fun h_3 => ?_)
  · have hd := ite_t hd h_3
    refine lv_iconst (v := (-1)) hx hb d_Mo_fair_25 (by decide) ?_
    obtain rfl := Option.some.inj hd
    exact retI hx hb hr hlk hK hP hD hS d_Mo_fair_26 rfl
  · have hd := ite_f hd h_3
    refine lv_aload_n hx hb d_Mo_fair_8 rfl (lv_at hl 0 rfl) ?_
    refine lv_iload_n hx hb d_Mo_fair_9 rfl (lv_at hl 2 rfl) ?_
    obtain ⟨v_4, e_5, hd⟩ := bind_s hd
    refine callVI (ws' := ws_Mo g a z) (rest := []) (As := [.int x2]) hx hb hml hown hg hK hP hD hS hA hCs hl.1 (c_Mo_isPerson l D g a x2 z _ e_5) o_Mo_isPerson g_1147 (ci := 1) (q0 := 0) rfl rfl (List.range' 0 12) (segC1 rfl rfl) (by decide) rfl (segP1 rfl rfl) rfl rfl (Nat.le_of_ble_eq_true rfl) ⟨rfl, rfl, Nat.le_of_ble_eq_true rfl, Nat.le_of_ble_eq_true rfl⟩ d_Mo_fair_10 (fun H locs hP hD hS => ?_)
    refine lv_if_eq (tgt := 25) hx hb d_Mo_fair_13 (by decide) (fun h_6 => ?_) (fun h_6 => ?_)
    · have hd := ite_t hd h_6
      refine lv_iconst (v := (-1)) hx hb d_Mo_fair_25 (by decide) ?_
      obtain rfl := Option.some.inj hd
      exact retI hx hb hr hlk hK hP hD hS d_Mo_fair_26 rfl
    · have hd := ite_f hd h_6
      refine lv_iload_n hx hb d_Mo_fair_16 rfl (lv_at hl 3 rfl) ?_
      refine lv_iconst (v := 0) hx hb d_Mo_fair_17 (by decide) ?_
      refine lv_iconst (v := 1) hx hb d_Mo_fair_18 (by decide) ?_
      obtain ⟨v_7, e_8, hd⟩ := bind_s hd
      refine callSI (ws' := ws_Mo g a z) (rest := []) (As := [.int x3, .int 0, .int 1]) hx hb hml hown hg hK hP hD hS hA hCs hl.1 (c_Mo_in l D g  x3 0 1 _ e_8) o_Mo_in g_1076 [] segC0 rfl rfl segP0 rfl rfl (Nat.le_of_ble_eq_true rfl) ⟨rfl, rfl, Nat.le_of_ble_eq_true rfl, Nat.le_of_ble_eq_true rfl⟩ d_Mo_fair_19 (fun H locs hP hD hS => ?_)
      refine lv_if_ne (tgt := 27) hx hb d_Mo_fair_22 (by decide) (fun h_9 => ?_) (fun h_9 => ?_)
      · have hd := ite_f hd h_9
        refine lv_iload_n hx hb d_Mo_fair_27 rfl (lv_at hl 1 rfl) ?_
        refine lv_iload_n hx hb d_Mo_fair_28 rfl (lv_at hl 2 rfl) ?_
        refine lv_icmp_ne (tgt := 35) hx hb d_Mo_fair_29 (by decide) (fun h_10 => ?_) (fun h_10 => ?_)
        · have hd := ite_f hd h_10
          refine lv_aload_n hx hb d_Mo_fair_35 rfl (lv_at hl 0 rfl) ?_
          obtain ⟨v_11, e_12, hd⟩ := bind_s hd
          refine callVV (ws' := ws_Mo g a v_11) (rest := []) (As := []) hx hb hml hown hg hK hP hD hS hA hCs hl.1 (c_Mo_looksForAll l D g a z _ e_12) o_Mo_looksForAll g_1218 (ci := 1) (q0 := 0) rfl rfl (List.range' 0 12) (segC1 rfl rfl) (by decide) rfl (segP1 rfl rfl) rfl rfl (Nat.le_of_ble_eq_true rfl) ⟨rfl, rfl, Nat.le_of_ble_eq_true rfl, Nat.le_of_ble_eq_true rfl⟩ d_Mo_fair_36 (fun H locs hP hD hS => ?_)
          refine lv_aload_n hx hb d_Mo_fair_39 rfl (lv_at hl 0 rfl) ?_
          refine lv_iload_n hx hb d_Mo_fair_40 rfl (lv_at hl 1 rfl) ?_
          obtain ⟨v_13, e_14, hd⟩ := bind_s hd
          refine callVI (ws' := ws_Mo g a v_11) (rest := []) (As := [.int x1]) hx hb hml hown hg hK hP hD hS hA hCs hl.1 (c_Mo_thingsOf l D g a x1 v_11 _ e_14) o_Mo_thingsOf g_1171 (ci := 1) (q0 := 0) rfl rfl (List.range' 0 12) (segC1 rfl rfl) (by decide) rfl (segP1 rfl rfl) rfl rfl (Nat.le_of_ble_eq_true rfl) ⟨rfl, rfl, Nat.le_of_ble_eq_true rfl, Nat.le_of_ble_eq_true rfl⟩ d_Mo_fair_41 (fun H locs hP hD hS => ?_)
          refine lv_aload_n hx hb d_Mo_fair_44 rfl (lv_at hl 0 rfl) ?_
          refine lv_iload_n hx hb d_Mo_fair_45 rfl (lv_at hl 2 rfl) ?_
          obtain ⟨v_15, e_16, hd⟩ := bind_s hd
          refine callVI (ws' := ws_Mo g a v_11) (rest := [.int v_13]) (As := [.int x2]) hx hb hml hown hg hK hP hD hS hA hCs hl.1 (c_Mo_thingsOf l D g a x2 v_11 _ e_16) o_Mo_thingsOf g_1171 (ci := 1) (q0 := 0) rfl rfl (List.range' 0 12) (segC1 rfl rfl) (by decide) rfl (segP1 rfl rfl) rfl rfl (Nat.le_of_ble_eq_true rfl) ⟨rfl, rfl, Nat.le_of_ble_eq_true rfl, Nat.le_of_ble_eq_true rfl⟩ d_Mo_fair_46 (fun H locs hP hD hS => ?_)
          refine lv_ior hx hb d_Mo_fair_49 ?_
          refine lv_istore (lv' := [(4, .int (v_13 ||| v_15)), (0, .ref (a 0)), (1, .int x1), (2, .int x2), (3, .int x3)]) hx hb d_Mo_fair_50 hl (by decide) rfl (fun ls hl => ?_)
          refine lv_iconst (v := 0) hx hb d_Mo_fair_52 (by decide) ?_
          refine lv_istore (lv' := [(5, .int 0), (4, .int (v_13 ||| v_15)), (0, .ref (a 0)), (1, .int x1), (2, .int x2), (3, .int x3)]) hx hb d_Mo_fair_53 hl (by decide) rfl (fun ls hl => ?_)
          refine lv_bipush (v := (-5)) hx hb d_Mo_fair_55 (by decide) ?_
          refine lv_istore (lv' := [(6, .int (-5)), (5, .int 0), (4, .int (v_13 ||| v_15)), (0, .ref (a 0)), (1, .int x1), (2, .int x2), (3, .int x3)]) hx hb d_Mo_fair_57 hl (by decide) rfl (fun ls hl => ?_)
          refine lv_iconst (v := 0) hx hb d_Mo_fair_59 (by decide) ?_
          refine lv_istore (lv' := [(7, .int 0), (6, .int (-5)), (5, .int 0), (4, .int (v_13 ||| v_15)), (0, .ref (a 0)), (1, .int x1), (2, .int x2), (3, .int x3)]) hx hb d_Mo_fair_60 hl (by decide) rfl (fun ls hl => ?_)
          have ex62_193 : ∀ (x5_62 : Int32) (x6_62 : Int32) (H : Heap) (locs : List Loc) (ls : Array Slot), va_P D classes (ws_Mo g a v_11) H → va_D A (ws_Mo g a v_11) → va_S A s.heap H locs → lv_has ls 10 [(3, .int x3), (5, .int x5_62), (6, .int x6_62)] → (if x3 = 0 then (some (x5_62, v_11)) else (some (x6_62, v_11))) = some v → GI p l e s m ({ frames := 4, cells := 0, slots := 0, locals := 97 } : Room) ([.ref (a 0), .int x1, .int x2, .int x3] : List Value).toArray below meth c A D g (ws_Mo g a v.2) (v.1) H locs (F0 m 193 ls []) := by
            intro x5_62 x6_62 H locs ls hP hD hS hl hd
            refine lv_iload_n hx hb d_Mo_fair_193 rfl (lv_at hl 0 rfl) ?_
            refine lv_if_ne (tgt := 202) hx hb d_Mo_fair_194 (by decide) (fun h_38 => ?_) (fun h_38 => ?_)
            · have hd := ite_f hd h_38
              refine lv_iload hx hb d_Mo_fair_202 (lv_at hl 2 rfl) ?_
              obtain rfl := Option.some.inj hd
              exact retI hx hb hr hlk hK hP hD hS d_Mo_fair_204 rfl
            · have hd := ite_t hd h_38
              refine lv_iload hx hb d_Mo_fair_197 (lv_at hl 1 rfl) ?_
              refine lv_goto (tgt := 204) hx hb d_Mo_fair_199 (by decide) ?_
              obtain rfl := Option.some.inj hd
              exact retI hx hb hr hlk hK hP hD hS d_Mo_fair_204 rfl
          have lp62 : ∀ (x1_f62 : Int32) (x2_f62 : Int32) (x3_f62 : Int32) (x4_f62 : Int32) (z_f62 : T_Mo) (k62_193 : Int32 → Int32 → Option (Int32 × T_Mo)) (hk62_193 : ∀ (x5_62 : Int32) (x6_62 : Int32) (H : Heap) (locs : List Loc) (ls : Array Slot), va_P D classes (ws_Mo g a z_f62) H → va_D A (ws_Mo g a z_f62) → va_S A s.heap H locs → lv_has ls 10 [(3, .int x3_f62), (5, .int x5_62), (6, .int x6_62)] → k62_193 x5_62 x6_62 = some v → GI p l e s m ({ frames := 4, cells := 0, slots := 0, locals := 97 } : Room) ([.ref (a 0), .int x1, .int x2, .int x3] : List Value).toArray below meth c A D g (ws_Mo g a v.2) (v.1) H locs (F0 m 193 ls [])) (n : Nat) (x5_62 : Int32) (x6_62 : Int32) (x7_62 : Int32) (H : Heap) (locs : List Loc) (ls : Array Slot), va_P D classes (ws_Mo g a z_f62) H → va_D A (ws_Mo g a z_f62) → va_S A s.heap H locs → lv_has ls 10 [(0, .ref (a 0)), (1, .int x1_f62), (2, .int x2_f62), (3, .int x3_f62), (4, .int x4_f62), (5, .int x5_62), (6, .int x6_62), (7, .int x7_62)] → d_Mo_fair_L62 x1_f62 x2_f62 x3_f62 x4_f62 z_f62 k62_193 n x5_62 x6_62 x7_62 = some v → GI p l e s m ({ frames := 4, cells := 0, slots := 0, locals := 97 } : Room) ([.ref (a 0), .int x1, .int x2, .int x3] : List Value).toArray below meth c A D g (ws_Mo g a v.2) (v.1) H locs (F0 m 62 ls []) := by
            intro x1_f62 x2_f62 x3_f62 x4_f62 z_f62 k62_193 hk62_193 n
            induction n with
            | zero =>
              intro  x5_62 x6_62 x7_62 H locs ls hP hD hS hl hd
              have hd : none = some v := hd
              cases hd
            | succ n ih62 =>
              intro  x5_62 x6_62 x7_62 H locs ls hP hD hS hl hd
              have hd : B_Mo_fair_L62 x1_f62 x2_f62 x3_f62 x4_f62 z_f62 k62_193 (d_Mo_fair_L62 x1_f62 x2_f62 x3_f62 x4_f62 z_f62 k62_193 n) x5_62 x6_62 x7_62 = some v := hd
              generalize d_Mo_fair_L62 x1_f62 x2_f62 x3_f62 x4_f62 z_f62 k62_193 n = self62 at ih62 hd
              unfold B_Mo_fair_L62 at hd
              refine lv_iload hx hb d_Mo_fair_62 (lv_at hl 7 rfl) ?_
              refine lv_iconst (v := 1) hx hb d_Mo_fair_64 (by decide) ?_
              refine lv_aload_n hx hb d_Mo_fair_65 rfl (lv_at hl 0 rfl) ?_
              refine va_get (D := D) (ci := 1) (v := .ref (a 1)) (C := R_Mo) (T := F_Mo) (N := 26) hx hb hg i_Mo hown hK hP 0 rfl rfl 1 (by decide) (hg _ g_993) (fun _ h9 => h9) rfl d_Mo_fair_66 ?_
              refine lv_iconst (v := 1) hx hb d_Mo_fair_69 (by decide) ?_
              refine ialdK hx hb hK hP 1 0 rfl rfl (inb_t (by decide +kernel)) (k := 1) (by decide +kernel) d_Mo_fair_70 ?_
              refine lv_ishl hx hb d_Mo_fair_71 ?_
              refine lv_icmp_ge (tgt := 193) hx hb d_Mo_fair_72 (by decide) (fun h_17 => ?_) (fun h_17 => ?_)
              · have hd := ite_t hd h_17
                exact hk62_193 x5_62 x6_62 _ _ _ hP hD hS (lv_sub hl [3, 5, 6] rfl) hd
              · have hd := ite_f hd h_17
                refine lv_iload hx hb d_Mo_fair_75 (lv_at hl 4 rfl) ?_
                refine lv_iload hx hb d_Mo_fair_77 (lv_at hl 7 rfl) ?_
                refine lv_iconst (v := (-1)) hx hb d_Mo_fair_79 (by decide) ?_
                refine lv_ixor hx hb d_Mo_fair_80 ?_
                refine lv_iand hx hb d_Mo_fair_81 ?_
                refine lv_istore (lv' := [(8, .int (x4_f62 &&& (x7_62 ^^^ (-1)))), (0, .ref (a 0)), (1, .int x1_f62), (2, .int x2_f62), (3, .int x3_f62), (4, .int x4_f62), (5, .int x5_62), (6, .int x6_62), (7, .int x7_62)]) hx hb d_Mo_fair_82 hl (by decide) rfl (fun ls hl => ?_)
                refine lv_iload hx hb d_Mo_fair_84 (lv_at hl 8 rfl) ?_
                refine lv_iload hx hb d_Mo_fair_86 (lv_at hl 5 rfl) ?_
                refine lv_iconst (v := (-1)) hx hb d_Mo_fair_88 (by decide) ?_
                refine lv_ixor hx hb d_Mo_fair_89 ?_
                refine lv_iand hx hb d_Mo_fair_90 ?_
                refine lv_if_ne (tgt := 128) hx hb d_Mo_fair_91 (by decide) (fun h_18 => ?_) (fun h_18 => ?_)
                · have hd := ite_f hd h_18
                  refine lv_iconst (v := 0) hx hb d_Mo_fair_128 (by decide) ?_
                  refine lv_istore (lv' := [(9, .int 0), (8, .int (x4_f62 &&& (x7_62 ^^^ (-1)))), (0, .ref (a 0)), (1, .int x1_f62), (2, .int x2_f62), (3, .int x3_f62), (4, .int x4_f62), (5, .int x5_62), (6, .int x6_62), (7, .int x7_62)]) hx hb d_Mo_fair_129 hl (by decide) rfl (fun ls hl => ?_)
                  refine lv_iload hx hb d_Mo_fair_131 (lv_at hl 0 rfl) ?_
                  refine lv_if_eq (tgt := 187) hx hb d_Mo_fair_133 (by decide) (fun _ => ?_) (fun h9 => absurd (by decide) h9)
                  refine lv_iinc (v := x7_62 + 1) (lv' := [(7, .int (x7_62 + 1)), (9, .int 0), (8, .int (x4_f62 &&& (x7_62 ^^^ (-1)))), (0, .ref (a 0)), (1, .int x1_f62), (2, .int x2_f62), (3, .int x3_f62), (4, .int x4_f62), (5, .int x5_62), (6, .int x6_62)]) hx hb d_Mo_fair_187 hl (k := 9) rfl (by rfl) (by decide) rfl (fun ls hl => ?_)
                  refine lv_goto (tgt := 62) hx hb d_Mo_fair_190 (by decide) ?_
                  exact ih62 x5_62 x6_62 (x7_62 + 1) _ _ _ hP hD hS (lv_sub hl [3, 4, 5, 6, 7, 8, 9, 0] rfl) hd
                · have hd := ite_t hd h_18
                  refine lv_aload_n hx hb d_Mo_fair_94 rfl (lv_at hl 1 rfl) ?_
                  refine lv_iload hx hb d_Mo_fair_95 (lv_at hl 8 rfl) ?_
                  obtain ⟨v_19, e_20, hd⟩ := bind_s hd
                  refine callVI (ws' := ws_Mo g a z_f62) (rest := []) (As := [.int x7_62]) hx hb hml hown hg hK hP hD hS hA hCs hl.1 (c_Mo_weightsOf l D g a x7_62 z_f62 _ e_20) o_Mo_weightsOf g_1278 (ci := 1) (q0 := 0) rfl rfl (List.range' 0 12) (segC1 rfl rfl) (by decide) rfl (segP1 rfl rfl) rfl rfl (Nat.le_of_ble_eq_true rfl) ⟨rfl, rfl, Nat.le_of_ble_eq_true rfl, Nat.le_of_ble_eq_true rfl⟩ d_Mo_fair_97 (fun H locs hP hD hS => ?_)
                  refine lv_aload_n hx hb d_Mo_fair_100 rfl (lv_at hl 1 rfl) ?_
                  refine va_get (D := D) (ci := 1) (v := .ref (a 7)) (C := R_Mo) (T := F_Mo) (N := 26) hx hb hg i_Mo hown hK hP 0 rfl rfl 13 (by decide) (hg _ g_1005) (fun _ h9 => h9) rfl d_Mo_fair_101 ?_
                  refine lv_iload_n hx hb d_Mo_fair_104 rfl (lv_at hl 2 rfl) ?_
                  obtain ⟨h_37, hd⟩ := ite_s hd
                  refine ialdK hx hb hK hP 7 0 rfl rfl (inb_t h_37) rfl d_Mo_fair_105 ?_
                  refine lv_icmp_gt (tgt := 128) hx hb d_Mo_fair_106 (by decide) (fun h_21 => ?_) (fun h_21 => ?_)
                  · have hd := ite_t hd h_21
                    refine lv_iconst (v := 0) hx hb d_Mo_fair_128 (by decide) ?_
                    refine lv_istore (lv' := [(9, .int 0), (8, .int (x4_f62 &&& (x7_62 ^^^ (-1)))), (0, .ref (a 0)), (1, .int x1_f62), (2, .int x2_f62), (3, .int x3_f62), (4, .int x4_f62), (5, .int x5_62), (6, .int x6_62), (7, .int x7_62)]) hx hb d_Mo_fair_129 hl (by decide) rfl (fun ls hl => ?_)
                    refine lv_iload hx hb d_Mo_fair_131 (lv_at hl 0 rfl) ?_
                    refine lv_if_eq (tgt := 187) hx hb d_Mo_fair_133 (by decide) (fun _ => ?_) (fun h9 => absurd (by decide) h9)
                    refine lv_iinc (v := x7_62 + 1) (lv' := [(7, .int (x7_62 + 1)), (9, .int 0), (8, .int (x4_f62 &&& (x7_62 ^^^ (-1)))), (0, .ref (a 0)), (1, .int x1_f62), (2, .int x2_f62), (3, .int x3_f62), (4, .int x4_f62), (5, .int x5_62), (6, .int x6_62)]) hx hb d_Mo_fair_187 hl (k := 9) rfl (by rfl) (by decide) rfl (fun ls hl => ?_)
                    refine lv_goto (tgt := 62) hx hb d_Mo_fair_190 (by decide) ?_
                    exact ih62 x5_62 x6_62 (x7_62 + 1) _ _ _ hP hD hS (lv_sub hl [3, 4, 5, 6, 7, 8, 9, 0] rfl) hd
                  · have hd := ite_f hd h_21
                    refine lv_aload_n hx hb d_Mo_fair_109 rfl (lv_at hl 1 rfl) ?_
                    refine lv_iload hx hb d_Mo_fair_110 (lv_at hl 0 rfl) ?_
                    obtain ⟨v_22, e_23, hd⟩ := bind_s hd
                    refine callVI (ws' := ws_Mo g a z_f62) (rest := []) (As := [.int (x4_f62 &&& (x7_62 ^^^ (-1)))]) hx hb hml hown hg hK hP hD hS hA hCs hl.1 (c_Mo_weightsOf l D g a (x4_f62 &&& (x7_62 ^^^ (-1))) z_f62 _ e_23) o_Mo_weightsOf g_1278 (ci := 1) (q0 := 0) rfl rfl (List.range' 0 12) (segC1 rfl rfl) (by decide) rfl (segP1 rfl rfl) rfl rfl (Nat.le_of_ble_eq_true rfl) ⟨rfl, rfl, Nat.le_of_ble_eq_true rfl, Nat.le_of_ble_eq_true rfl⟩ d_Mo_fair_112 (fun H locs hP hD hS => ?_)
                    refine lv_aload_n hx hb d_Mo_fair_115 rfl (lv_at hl 1 rfl) ?_
                    refine va_get (D := D) (ci := 1) (v := .ref (a 7)) (C := R_Mo) (T := F_Mo) (N := 26) hx hb hg i_Mo hown hK hP 0 rfl rfl 13 (by decide) (hg _ g_1005) (fun _ h9 => h9) rfl d_Mo_fair_116 ?_
                    refine lv_iload_n hx hb d_Mo_fair_119 rfl (lv_at hl 3 rfl) ?_
                    obtain ⟨h_36, hd⟩ := ite_s hd
                    refine ialdK hx hb hK hP 7 0 rfl rfl (inb_t h_36) rfl d_Mo_fair_120 ?_
                    refine lv_icmp_gt (tgt := 128) hx hb d_Mo_fair_121 (by decide) (fun h_24 => ?_) (fun h_24 => ?_)
                    · have hd := ite_t hd h_24
                      refine lv_iconst (v := 0) hx hb d_Mo_fair_128 (by decide) ?_
                      refine lv_istore (lv' := [(9, .int 0), (8, .int (x4_f62 &&& (x7_62 ^^^ (-1)))), (0, .ref (a 0)), (1, .int x1_f62), (2, .int x2_f62), (3, .int x3_f62), (4, .int x4_f62), (5, .int x5_62), (6, .int x6_62), (7, .int x7_62)]) hx hb d_Mo_fair_129 hl (by decide) rfl (fun ls hl => ?_)
                      refine lv_iload hx hb d_Mo_fair_131 (lv_at hl 0 rfl) ?_
                      refine lv_if_eq (tgt := 187) hx hb d_Mo_fair_133 (by decide) (fun _ => ?_) (fun h9 => absurd (by decide) h9)
                      refine lv_iinc (v := x7_62 + 1) (lv' := [(7, .int (x7_62 + 1)), (9, .int 0), (8, .int (x4_f62 &&& (x7_62 ^^^ (-1)))), (0, .ref (a 0)), (1, .int x1_f62), (2, .int x2_f62), (3, .int x3_f62), (4, .int x4_f62), (5, .int x5_62), (6, .int x6_62)]) hx hb d_Mo_fair_187 hl (k := 9) rfl (by rfl) (by decide) rfl (fun ls hl => ?_)
                      refine lv_goto (tgt := 62) hx hb d_Mo_fair_190 (by decide) ?_
                      exact ih62 x5_62 x6_62 (x7_62 + 1) _ _ _ hP hD hS (lv_sub hl [3, 4, 5, 6, 7, 8, 9, 0] rfl) hd
                    · have hd := ite_f hd h_24
                      refine lv_iconst (v := 1) hx hb d_Mo_fair_124 (by decide) ?_
                      refine lv_goto (tgt := 129) hx hb d_Mo_fair_125 (by decide) ?_
                      refine lv_istore (lv' := [(9, .int 1), (8, .int (x4_f62 &&& (x7_62 ^^^ (-1)))), (0, .ref (a 0)), (1, .int x1_f62), (2, .int x2_f62), (3, .int x3_f62), (4, .int x4_f62), (5, .int x5_62), (6, .int x6_62), (7, .int x7_62)]) hx hb d_Mo_fair_129 hl (by decide) rfl (fun ls hl => ?_)
                      refine lv_iload hx hb d_Mo_fair_131 (lv_at hl 0 rfl) ?_
                      refine lv_if_eq (tgt := 187) hx hb d_Mo_fair_133 (by decide) (fun h9 => absurd h9 (by decide)) (fun _ => ?_)
                      refine lv_aload_n hx hb d_Mo_fair_136 rfl (lv_at hl 2 rfl) ?_
                      refine lv_iload_n hx hb d_Mo_fair_137 rfl (lv_at hl 3 rfl) ?_
                      refine lv_iload hx hb d_Mo_fair_138 (lv_at hl 9 rfl) ?_
                      obtain ⟨v_25, e_26, hd⟩ := bind_s hd
                      refine callVI (ws' := ws_Mo g a z_f62) (rest := []) (As := [.int x1_f62, .int x7_62]) hx hb hml hown hg hK hP hD hS hA hCs hl.1 (c_Mo_likesOf l D g a x1_f62 x7_62 z_f62 _ e_26) o_Mo_likesOf g_1282 (ci := 1) (q0 := 0) rfl rfl (List.range' 0 12) (segC1 rfl rfl) (by decide) rfl (segP1 rfl rfl) rfl rfl (Nat.le_of_ble_eq_true rfl) ⟨rfl, rfl, Nat.le_of_ble_eq_true rfl, Nat.le_of_ble_eq_true rfl⟩ d_Mo_fair_140 (fun H locs hP hD hS => ?_)
                      refine lv_aload_n hx hb d_Mo_fair_143 rfl (lv_at hl 2 rfl) ?_
                      refine lv_iload_n hx hb d_Mo_fair_144 rfl (lv_at hl 3 rfl) ?_
                      refine lv_iload hx hb d_Mo_fair_145 (lv_at hl 1 rfl) ?_
                      obtain ⟨v_27, e_28, hd⟩ := bind_s hd
                      refine callVI (ws' := ws_Mo g a z_f62) (rest := [.int v_25]) (As := [.int x1_f62, .int (x4_f62 &&& (x7_62 ^^^ (-1)))]) hx hb hml hown hg hK hP hD hS hA hCs hl.1 (c_Mo_likesOf l D g a x1_f62 (x4_f62 &&& (x7_62 ^^^ (-1))) z_f62 _ e_28) o_Mo_likesOf g_1282 (ci := 1) (q0 := 0) rfl rfl (List.range' 0 12) (segC1 rfl rfl) (by decide) rfl (segP1 rfl rfl) rfl rfl (Nat.le_of_ble_eq_true rfl) ⟨rfl, rfl, Nat.le_of_ble_eq_true rfl, Nat.le_of_ble_eq_true rfl⟩ d_Mo_fair_147 (fun H locs hP hD hS => ?_)
                      refine lv_icmp_lt (tgt := 187) hx hb d_Mo_fair_150 (by decide) (fun h_29 => ?_) (fun h_29 => ?_)
                      · have hd := ite_t hd h_29
                        refine lv_iinc (v := x7_62 + 1) (lv' := [(7, .int (x7_62 + 1)), (9, .int 1), (8, .int (x4_f62 &&& (x7_62 ^^^ (-1)))), (0, .ref (a 0)), (1, .int x1_f62), (2, .int x2_f62), (3, .int x3_f62), (4, .int x4_f62), (5, .int x5_62), (6, .int x6_62)]) hx hb d_Mo_fair_187 hl (k := 9) rfl (by rfl) (by decide) rfl (fun ls hl => ?_)
                        refine lv_goto (tgt := 62) hx hb d_Mo_fair_190 (by decide) ?_
                        exact ih62 x5_62 x6_62 (x7_62 + 1) _ _ _ hP hD hS (lv_sub hl [3, 4, 5, 6, 7, 8, 9, 0] rfl) hd
                      · have hd := ite_f hd h_29
                        refine lv_aload_n hx hb d_Mo_fair_153 rfl (lv_at hl 2 rfl) ?_
                        refine lv_iload_n hx hb d_Mo_fair_154 rfl (lv_at hl 4 rfl) ?_
                        refine lv_iload hx hb d_Mo_fair_155 (lv_at hl 1 rfl) ?_
                        obtain ⟨v_30, e_31, hd⟩ := bind_s hd
                        refine callVI (ws' := ws_Mo g a z_f62) (rest := []) (As := [.int x2_f62, .int (x4_f62 &&& (x7_62 ^^^ (-1)))]) hx hb hml hown hg hK hP hD hS hA hCs hl.1 (c_Mo_likesOf l D g a x2_f62 (x4_f62 &&& (x7_62 ^^^ (-1))) z_f62 _ e_31) o_Mo_likesOf g_1282 (ci := 1) (q0 := 0) rfl rfl (List.range' 0 12) (segC1 rfl rfl) (by decide) rfl (segP1 rfl rfl) rfl rfl (Nat.le_of_ble_eq_true rfl) ⟨rfl, rfl, Nat.le_of_ble_eq_true rfl, Nat.le_of_ble_eq_true rfl⟩ d_Mo_fair_157 (fun H locs hP hD hS => ?_)
                        refine lv_aload_n hx hb d_Mo_fair_160 rfl (lv_at hl 2 rfl) ?_
                        refine lv_iload_n hx hb d_Mo_fair_161 rfl (lv_at hl 4 rfl) ?_
                        refine lv_iload hx hb d_Mo_fair_162 (lv_at hl 9 rfl) ?_
                        obtain ⟨v_32, e_33, hd⟩ := bind_s hd
                        refine callVI (ws' := ws_Mo g a z_f62) (rest := [.int v_30]) (As := [.int x2_f62, .int x7_62]) hx hb hml hown hg hK hP hD hS hA hCs hl.1 (c_Mo_likesOf l D g a x2_f62 x7_62 z_f62 _ e_33) o_Mo_likesOf g_1282 (ci := 1) (q0 := 0) rfl rfl (List.range' 0 12) (segC1 rfl rfl) (by decide) rfl (segP1 rfl rfl) rfl rfl (Nat.le_of_ble_eq_true rfl) ⟨rfl, rfl, Nat.le_of_ble_eq_true rfl, Nat.le_of_ble_eq_true rfl⟩ d_Mo_fair_164 (fun H locs hP hD hS => ?_)
                        refine lv_icmp_lt (tgt := 187) hx hb d_Mo_fair_167 (by decide) (fun h_34 => ?_) (fun h_34 => ?_)
                        · have hd := ite_t hd h_34
                          refine lv_iinc (v := x7_62 + 1) (lv' := [(7, .int (x7_62 + 1)), (9, .int 1), (8, .int (x4_f62 &&& (x7_62 ^^^ (-1)))), (0, .ref (a 0)), (1, .int x1_f62), (2, .int x2_f62), (3, .int x3_f62), (4, .int x4_f62), (5, .int x5_62), (6, .int x6_62)]) hx hb d_Mo_fair_187 hl (k := 9) rfl (by rfl) (by decide) rfl (fun ls hl => ?_)
                          refine lv_goto (tgt := 62) hx hb d_Mo_fair_190 (by decide) ?_
                          exact ih62 x5_62 x6_62 (x7_62 + 1) _ _ _ hP hD hS (lv_sub hl [3, 4, 5, 6, 7, 8, 9, 0] rfl) hd
                        · have hd := ite_f hd h_34
                          refine lv_iload hx hb d_Mo_fair_170 (lv_at hl 7 rfl) ?_
                          refine lv_if_ne (tgt := 180) hx hb d_Mo_fair_172 (by decide) (fun h_35 => ?_) (fun h_35 => ?_)
                          · have hd := ite_f hd h_35
                            refine lv_iload hx hb d_Mo_fair_180 (lv_at hl 8 rfl) ?_
                            refine lv_istore (lv' := [(6, .int x6_62), (9, .int 1), (8, .int (x4_f62 &&& (x7_62 ^^^ (-1)))), (0, .ref (a 0)), (1, .int x1_f62), (2, .int x2_f62), (3, .int x3_f62), (4, .int x4_f62), (5, .int x5_62), (7, .int x7_62)]) hx hb d_Mo_fair_182 hl (by decide) rfl (fun ls hl => ?_)
                            refine lv_iinc (v := x5_62 + 1) (lv' := [(5, .int (x5_62 + 1)), (6, .int x6_62), (9, .int 1), (8, .int (x4_f62 &&& (x7_62 ^^^ (-1)))), (0, .ref (a 0)), (1, .int x1_f62), (2, .int x2_f62), (3, .int x3_f62), (4, .int x4_f62), (7, .int x7_62)]) hx hb d_Mo_fair_184 hl (k := 8) rfl (by rfl) (by decide) rfl (fun ls hl => ?_)
                            refine lv_iinc (v := x7_62 + 1) (lv' := [(7, .int (x7_62 + 1)), (5, .int (x5_62 + 1)), (6, .int x6_62), (9, .int 1), (8, .int (x4_f62 &&& (x7_62 ^^^ (-1)))), (0, .ref (a 0)), (1, .int x1_f62), (2, .int x2_f62), (3, .int x3_f62), (4, .int x4_f62)]) hx hb d_Mo_fair_187 hl (k := 9) rfl (by rfl) (by decide) rfl (fun ls hl => ?_)
                            refine lv_goto (tgt := 62) hx hb d_Mo_fair_190 (by decide) ?_
                            exact ih62 (x5_62 + 1) x6_62 (x7_62 + 1) _ _ _ hP hD hS (lv_sub hl [5, 6, 7, 8, 9, 1, 2, 0] rfl) hd
                          · have hd := ite_t hd h_35
                            refine lv_iload hx hb d_Mo_fair_175 (lv_at hl 9 rfl) ?_
                            refine lv_goto (tgt := 182) hx hb d_Mo_fair_177 (by decide) ?_
                            refine lv_istore (lv' := [(6, .int x7_62), (9, .int 1), (8, .int (x4_f62 &&& (x7_62 ^^^ (-1)))), (0, .ref (a 0)), (1, .int x1_f62), (2, .int x2_f62), (3, .int x3_f62), (4, .int x4_f62), (5, .int x5_62), (7, .int x7_62)]) hx hb d_Mo_fair_182 hl (by decide) rfl (fun ls hl => ?_)
                            refine lv_iinc (v := x5_62 + 1) (lv' := [(5, .int (x5_62 + 1)), (6, .int x7_62), (9, .int 1), (8, .int (x4_f62 &&& (x7_62 ^^^ (-1)))), (0, .ref (a 0)), (1, .int x1_f62), (2, .int x2_f62), (3, .int x3_f62), (4, .int x4_f62), (7, .int x7_62)]) hx hb d_Mo_fair_184 hl (k := 8) rfl (by rfl) (by decide) rfl (fun ls hl => ?_)
                            refine lv_iinc (v := x7_62 + 1) (lv' := [(7, .int (x7_62 + 1)), (5, .int (x5_62 + 1)), (6, .int x7_62), (9, .int 1), (8, .int (x4_f62 &&& (x7_62 ^^^ (-1)))), (0, .ref (a 0)), (1, .int x1_f62), (2, .int x2_f62), (3, .int x3_f62), (4, .int x4_f62)]) hx hb d_Mo_fair_187 hl (k := 9) rfl (by rfl) (by decide) rfl (fun ls hl => ?_)
                            refine lv_goto (tgt := 62) hx hb d_Mo_fair_190 (by decide) ?_
                            exact ih62 (x5_62 + 1) x7_62 (x7_62 + 1) _ _ _ hP hD hS (lv_sub hl [5, 6, 7, 8, 9, 1, 2, 0] rfl) hd
          exact lp62 x1 x2 x3 (v_13 ||| v_15) v_11 _ ex62_193 1000 0 (-5) 0 _ _ _ hP hD hS (lv_sub hl [4, 5, 6, 7, 3, 2, 1, 0] rfl) hd
        · have hd := ite_t hd h_10
          refine lv_bipush (v := (-2)) hx hb d_Mo_fair_32 (by decide) ?_
          obtain rfl := Option.some.inj hd
          exact retI hx hb hr hlk hK hP hD hS d_Mo_fair_34 rfl
      · have hd := ite_t hd h_9
        refine lv_iconst (v := (-1)) hx hb d_Mo_fair_25 (by decide) ?_
        obtain rfl := Option.some.inj hd
        exact retI hx hb hr hlk hK hP hD hS d_Mo_fair_26 rfl
-- OwnsLiftModel.had(II)I
def B_Mo_had_L34 (x1_f34 : Int32) (x2_f34 : Int32) (z : T_Mo) (k34_79 : Int32 → Int32 → Option (Int32)) (self34 : Int32 → Int32 → Int32 → Option (Int32)) (x3_34 : Int32) (x4_34 : Int32) (x5_34 : Int32) : Option (Int32) :=
  if ((1 : Int32) <<< (((q_Mo_s z) 1) &&& 31)) ≤ x5_34 then (k34_79 x3_34 x4_34) else ((d_Mo_weightsOf x5_34 z).bind fun v_8 => if v_8 = x1_f34 then (if x3_34 = 0 then (self34 (x3_34 + 1) x5_34 (x5_34 + 1)) else (self34 (x3_34 + 1) x4_34 (x5_34 + 1))) else (self34 x3_34 x4_34 (x5_34 + 1)))
def d_Mo_had_L34 (x1_f34 : Int32) (x2_f34 : Int32) (z : T_Mo) (k34_79 : Int32 → Int32 → Option (Int32)) (n : Nat) : Int32 → Int32 → Int32 → Option (Int32) := recN (fun _ _ _ => none) (fun self => B_Mo_had_L34 x1_f34 x2_f34 z k34_79 self) n
def d_Mo_had (x1 : Int32) (x2 : Int32) (z : T_Mo) : Option (Int32) :=
  (d_Mo_in x2 0 1).bind fun v_1 => if v_1 = 0 then (some ((-1))) else ((d_Mo_in x1 0 400).bind fun v_4 => if v_4 = 0 then (some ((-2))) else (d_Mo_had_L34 x1 x2 z (fun x3_34 x4_34 => if x2 = 0 then (some (x3_34)) else (some (x4_34))) 1000 0 (-5) 0))
theorem d_Mo_had_0 : decode b_Mo_had 0 = .ok (.iload_n 2, 1) := by decide +kernel
theorem d_Mo_had_1 : decode b_Mo_had 1 = .ok (.iconst 0, 1) := by decide +kernel
theorem d_Mo_had_2 : decode b_Mo_had 2 = .ok (.iconst 1, 1) := by decide +kernel
theorem d_Mo_had_3 : decode b_Mo_had 3 = .ok (.invokestatic 50, 3) := by decide +kernel
theorem d_Mo_had_6 : decode b_Mo_had 6 = .ok (.ifCond .ne 5, 3) := by decide +kernel
theorem d_Mo_had_9 : decode b_Mo_had 9 = .ok (.iconst (-1), 1) := by decide +kernel
theorem d_Mo_had_10 : decode b_Mo_had 10 = .ok (.ireturn, 1) := by decide +kernel
theorem d_Mo_had_11 : decode b_Mo_had 11 = .ok (.iload_n 1, 1) := by decide +kernel
theorem d_Mo_had_12 : decode b_Mo_had 12 = .ok (.iconst 0, 1) := by decide +kernel
theorem d_Mo_had_13 : decode b_Mo_had 13 = .ok (.sipush 400, 3) := by decide +kernel
theorem d_Mo_had_16 : decode b_Mo_had 16 = .ok (.invokestatic 50, 3) := by decide +kernel
theorem d_Mo_had_19 : decode b_Mo_had 19 = .ok (.ifCond .ne 6, 3) := by decide +kernel
theorem d_Mo_had_22 : decode b_Mo_had 22 = .ok (.bipush (-2), 2) := by decide +kernel
theorem d_Mo_had_24 : decode b_Mo_had 24 = .ok (.ireturn, 1) := by decide +kernel
theorem d_Mo_had_25 : decode b_Mo_had 25 = .ok (.iconst 0, 1) := by decide +kernel
theorem d_Mo_had_26 : decode b_Mo_had 26 = .ok (.istore_n 3, 1) := by decide +kernel
theorem d_Mo_had_27 : decode b_Mo_had 27 = .ok (.bipush (-5), 2) := by decide +kernel
theorem d_Mo_had_29 : decode b_Mo_had 29 = .ok (.istore 4, 2) := by decide +kernel
theorem d_Mo_had_31 : decode b_Mo_had 31 = .ok (.iconst 0, 1) := by decide +kernel
theorem d_Mo_had_32 : decode b_Mo_had 32 = .ok (.istore 5, 2) := by decide +kernel
theorem d_Mo_had_34 : decode b_Mo_had 34 = .ok (.iload 5, 2) := by decide +kernel
theorem d_Mo_had_36 : decode b_Mo_had 36 = .ok (.iconst 1, 1) := by decide +kernel
theorem d_Mo_had_37 : decode b_Mo_had 37 = .ok (.aload_n 0, 1) := by decide +kernel
theorem d_Mo_had_38 : decode b_Mo_had 38 = .ok (.getfield 9, 3) := by decide +kernel
theorem d_Mo_had_41 : decode b_Mo_had 41 = .ok (.iconst 1, 1) := by decide +kernel
theorem d_Mo_had_42 : decode b_Mo_had 42 = .ok (.iaload, 1) := by decide +kernel
theorem d_Mo_had_43 : decode b_Mo_had 43 = .ok (.ishl, 1) := by decide +kernel
theorem d_Mo_had_44 : decode b_Mo_had 44 = .ok (.if_icmp .ge 35, 3) := by decide +kernel
theorem d_Mo_had_47 : decode b_Mo_had 47 = .ok (.aload_n 0, 1) := by decide +kernel
theorem d_Mo_had_48 : decode b_Mo_had 48 = .ok (.iload 5, 2) := by decide +kernel
theorem d_Mo_had_50 : decode b_Mo_had 50 = .ok (.invokevirtual 204, 3) := by decide +kernel
theorem d_Mo_had_53 : decode b_Mo_had 53 = .ok (.iload_n 1, 1) := by decide +kernel
theorem d_Mo_had_54 : decode b_Mo_had 54 = .ok (.if_icmp .ne 19, 3) := by decide +kernel
theorem d_Mo_had_57 : decode b_Mo_had 57 = .ok (.iload_n 3, 1) := by decide +kernel
theorem d_Mo_had_58 : decode b_Mo_had 58 = .ok (.ifCond .ne 8, 3) := by decide +kernel
theorem d_Mo_had_61 : decode b_Mo_had 61 = .ok (.iload 5, 2) := by decide +kernel
theorem d_Mo_had_63 : decode b_Mo_had 63 = .ok (.goto 5, 3) := by decide +kernel
theorem d_Mo_had_66 : decode b_Mo_had 66 = .ok (.iload 4, 2) := by decide +kernel
theorem d_Mo_had_68 : decode b_Mo_had 68 = .ok (.istore 4, 2) := by decide +kernel
theorem d_Mo_had_70 : decode b_Mo_had 70 = .ok (.iinc 3 1, 3) := by decide +kernel
theorem d_Mo_had_73 : decode b_Mo_had 73 = .ok (.iinc 5 1, 3) := by decide +kernel
theorem d_Mo_had_76 : decode b_Mo_had 76 = .ok (.goto (-42), 3) := by decide +kernel
theorem d_Mo_had_79 : decode b_Mo_had 79 = .ok (.iload_n 2, 1) := by decide +kernel
theorem d_Mo_had_80 : decode b_Mo_had 80 = .ok (.ifCond .ne 7, 3) := by decide +kernel
theorem d_Mo_had_83 : decode b_Mo_had 83 = .ok (.iload_n 3, 1) := by decide +kernel
theorem d_Mo_had_84 : decode b_Mo_had 84 = .ok (.goto 5, 3) := by decide +kernel
theorem d_Mo_had_87 : decode b_Mo_had 87 = .ok (.iload 4, 2) := by decide +kernel
theorem d_Mo_had_89 : decode b_Mo_had 89 = .ok (.ireturn, 1) := by decide +kernel
theorem o_Mo_had : OkV y_Mo_had "OwnsLiftModel" b_Mo_had 6 (some .int) 2 := ⟨⟨rfl, by decide +kernel, by decide +kernel, by decide +kernel⟩, g_1327, g_1328, g_81, g_1329⟩
set_option maxHeartbeats 4000000 in
set_option maxRecDepth 100000 in
theorem c_Mo_had (l : Launch) (D : va_G) (g : Nat → ClassId) (a : Nat → Nat) (x1 : Int32) (x2 : Int32) (z : T_Mo) (v : Int32) (h : d_Mo_had x1 x2 z = some v) :
    MI l y_Mo_had b_Mo_had 6 .int ({ frames := 1, cells := 0, slots := 0, locals := 23 } : Room) D g [.ref (a 0), .int x1, .int x2] (ws_Mo g a z) (v) (ws_Mo g a z) := by
  have hd := h
  unfold d_Mo_had at hd
  refine enterI rfl (Nat.le_of_ble_eq_true rfl) (fun p e s m below meth c A ls hx hb hml hr hown hg hlk hK hA hP hD hS hCs hl => ?_)
  have hown : s.vm.findClass "OwnsLiftModel" = some m.cls := hown
  have hl : lv_has ls 6 [(0, .ref (a 0)), (1, .int x1), (2, .int x2)] := hl
  show GI p l e s m ({ frames := 1, cells := 0, slots := 0, locals := 23 } : Room) ([.ref (a 0), .int x1, .int x2] : List Value).toArray below meth c A D g (ws_Mo g a z) (v) s.heap [] (F0 m 0 ls [])
  refine lv_iload_n hx hb d_Mo_had_0 rfl (lv_at hl 2 rfl) ?_
  refine lv_iconst (v := 0) hx hb d_Mo_had_1 (by decide) ?_
  refine lv_iconst (v := 1) hx hb d_Mo_had_2 (by decide) ?_
  obtain ⟨v_1, e_2, hd⟩ := bind_s hd
  refine callSI (ws' := ws_Mo g a z) (rest := []) (As := [.int x2, .int 0, .int 1]) hx hb hml hown hg hK hP hD hS hA hCs hl.1 (c_Mo_in l D g  x2 0 1 _ e_2) o_Mo_in g_1076 [] segC0 rfl rfl segP0 rfl rfl (Nat.le_of_ble_eq_true rfl) ⟨rfl, rfl, Nat.le_of_ble_eq_true rfl, Nat.le_of_ble_eq_true rfl⟩ d_Mo_had_3 (fun H locs hP hD hS => ?_)
  refine lv_if_ne (tgt := 11) hx hb d_Mo_had_6 (by decide) (fun h_3 => ?_) (fun h_3 => ?_)
  · have hd := ite_f hd h_3
    refine lv_iload_n hx hb d_Mo_had_11 rfl (lv_at hl 1 rfl) ?_
    refine lv_iconst (v := 0) hx hb d_Mo_had_12 (by decide) ?_
    refine lv_sipush (v := 400) hx hb d_Mo_had_13 (by decide) ?_
    obtain ⟨v_4, e_5, hd⟩ := bind_s hd
    refine callSI (ws' := ws_Mo g a z) (rest := []) (As := [.int x1, .int 0, .int 400]) hx hb hml hown hg hK hP hD hS hA hCs hl.1 (c_Mo_in l D g  x1 0 400 _ e_5) o_Mo_in g_1076 [] segC0 rfl rfl segP0 rfl rfl (Nat.le_of_ble_eq_true rfl) ⟨rfl, rfl, Nat.le_of_ble_eq_true rfl, Nat.le_of_ble_eq_true rfl⟩ d_Mo_had_16 (fun H locs hP hD hS => ?_)
    refine lv_if_ne (tgt := 25) hx hb d_Mo_had_19 (by decide) (fun h_6 => ?_) (fun h_6 => ?_)
    · have hd := ite_f hd h_6
      refine lv_iconst (v := 0) hx hb d_Mo_had_25 (by decide) ?_
      refine lv_istore_n (lv' := [(3, .int 0), (0, .ref (a 0)), (1, .int x1), (2, .int x2)]) hx hb d_Mo_had_26 rfl hl (by decide) rfl (fun ls hl => ?_)
      refine lv_bipush (v := (-5)) hx hb d_Mo_had_27 (by decide) ?_
      refine lv_istore (lv' := [(4, .int (-5)), (3, .int 0), (0, .ref (a 0)), (1, .int x1), (2, .int x2)]) hx hb d_Mo_had_29 hl (by decide) rfl (fun ls hl => ?_)
      refine lv_iconst (v := 0) hx hb d_Mo_had_31 (by decide) ?_
      refine lv_istore (lv' := [(5, .int 0), (4, .int (-5)), (3, .int 0), (0, .ref (a 0)), (1, .int x1), (2, .int x2)]) hx hb d_Mo_had_32 hl (by decide) rfl (fun ls hl => ?_)
      have ex34_79 : ∀ (x3_34 : Int32) (x4_34 : Int32) (H : Heap) (locs : List Loc) (ls : Array Slot), va_P D classes (ws_Mo g a z) H → va_D A (ws_Mo g a z) → va_S A s.heap H locs → lv_has ls 6 [(2, .int x2), (3, .int x3_34), (4, .int x4_34)] → (if x2 = 0 then (some (x3_34)) else (some (x4_34))) = some v → GI p l e s m ({ frames := 1, cells := 0, slots := 0, locals := 23 } : Room) ([.ref (a 0), .int x1, .int x2] : List Value).toArray below meth c A D g (ws_Mo g a z) (v) H locs (F0 m 79 ls []) := by
        intro x3_34 x4_34 H locs ls hP hD hS hl hd
        refine lv_iload_n hx hb d_Mo_had_79 rfl (lv_at hl 0 rfl) ?_
        refine lv_if_ne (tgt := 87) hx hb d_Mo_had_80 (by decide) (fun h_12 => ?_) (fun h_12 => ?_)
        · have hd := ite_f hd h_12
          refine lv_iload hx hb d_Mo_had_87 (lv_at hl 2 rfl) ?_
          obtain rfl := Option.some.inj hd
          exact retI hx hb hr hlk hK hP hD hS d_Mo_had_89 rfl
        · have hd := ite_t hd h_12
          refine lv_iload_n hx hb d_Mo_had_83 rfl (lv_at hl 1 rfl) ?_
          refine lv_goto (tgt := 89) hx hb d_Mo_had_84 (by decide) ?_
          obtain rfl := Option.some.inj hd
          exact retI hx hb hr hlk hK hP hD hS d_Mo_had_89 rfl
      have lp34 : ∀ (x1_f34 : Int32) (x2_f34 : Int32) (k34_79 : Int32 → Int32 → Option (Int32)) (hk34_79 : ∀ (x3_34 : Int32) (x4_34 : Int32) (H : Heap) (locs : List Loc) (ls : Array Slot), va_P D classes (ws_Mo g a z) H → va_D A (ws_Mo g a z) → va_S A s.heap H locs → lv_has ls 6 [(2, .int x2_f34), (3, .int x3_34), (4, .int x4_34)] → k34_79 x3_34 x4_34 = some v → GI p l e s m ({ frames := 1, cells := 0, slots := 0, locals := 23 } : Room) ([.ref (a 0), .int x1, .int x2] : List Value).toArray below meth c A D g (ws_Mo g a z) (v) H locs (F0 m 79 ls [])) (n : Nat) (x3_34 : Int32) (x4_34 : Int32) (x5_34 : Int32) (H : Heap) (locs : List Loc) (ls : Array Slot), va_P D classes (ws_Mo g a z) H → va_D A (ws_Mo g a z) → va_S A s.heap H locs → lv_has ls 6 [(0, .ref (a 0)), (1, .int x1_f34), (2, .int x2_f34), (3, .int x3_34), (4, .int x4_34), (5, .int x5_34)] → d_Mo_had_L34 x1_f34 x2_f34 z k34_79 n x3_34 x4_34 x5_34 = some v → GI p l e s m ({ frames := 1, cells := 0, slots := 0, locals := 23 } : Room) ([.ref (a 0), .int x1, .int x2] : List Value).toArray below meth c A D g (ws_Mo g a z) (v) H locs (F0 m 34 ls []) := by
        intro x1_f34 x2_f34 k34_79 hk34_79 n
        induction n with
        | zero =>
          intro  x3_34 x4_34 x5_34 H locs ls hP hD hS hl hd
          have hd : none = some v := hd
          cases hd
        | succ n ih34 =>
          intro  x3_34 x4_34 x5_34 H locs ls hP hD hS hl hd
          have hd : B_Mo_had_L34 x1_f34 x2_f34 z k34_79 (d_Mo_had_L34 x1_f34 x2_f34 z k34_79 n) x3_34 x4_34 x5_34 = some v := hd
          generalize d_Mo_had_L34 x1_f34 x2_f34 z k34_79 n = self34 at ih34 hd
          unfold B_Mo_had_L34 at hd
          refine lv_iload hx hb d_Mo_had_34 (lv_at hl 5 rfl) ?_
          refine lv_iconst (v := 1) hx hb d_Mo_had_36 (by decide) ?_
          refine lv_aload_n hx hb d_Mo_had_37 rfl (lv_at hl 0 rfl) ?_
          refine va_get (D := D) (ci := 1) (v := .ref (a 1)) (C := R_Mo) (T := F_Mo) (N := 26) hx hb hg i_Mo hown hK hP 0 rfl rfl 1 (by decide) (hg _ g_993) (fun _ h9 => h9) rfl d_Mo_had_38 ?_
          refine lv_iconst (v := 1) hx hb d_Mo_had_41 (by decide) ?_
          refine ialdK hx hb hK hP 1 0 rfl rfl (inb_t (by decide +kernel)) (k := 1) (by decide +kernel) d_Mo_had_42 ?_
          refine lv_ishl hx hb d_Mo_had_43 ?_
          refine lv_icmp_ge (tgt := 79) hx hb d_Mo_had_44 (by decide) (fun h_7 => ?_) (fun h_7 => ?_)
          · have hd := ite_t hd h_7
            exact hk34_79 x3_34 x4_34 _ _ _ hP hD hS (lv_sub hl [2, 3, 4] rfl) hd
          · have hd := ite_f hd h_7
            refine lv_aload_n hx hb d_Mo_had_47 rfl (lv_at hl 0 rfl) ?_
            refine lv_iload hx hb d_Mo_had_48 (lv_at hl 5 rfl) ?_
            obtain ⟨v_8, e_9, hd⟩ := bind_s hd
            refine callVI (ws' := ws_Mo g a z) (rest := []) (As := [.int x5_34]) hx hb hml hown hg hK hP hD hS hA hCs hl.1 (c_Mo_weightsOf l D g a x5_34 z _ e_9) o_Mo_weightsOf g_1278 (ci := 1) (q0 := 0) rfl rfl (List.range' 0 12) (segC1 rfl rfl) (by decide) rfl (segP1 rfl rfl) rfl rfl (Nat.le_of_ble_eq_true rfl) ⟨rfl, rfl, Nat.le_of_ble_eq_true rfl, Nat.le_of_ble_eq_true rfl⟩ d_Mo_had_50 (fun H locs hP hD hS => ?_)
            refine lv_iload_n hx hb d_Mo_had_53 rfl (lv_at hl 1 rfl) ?_
            refine lv_icmp_ne (tgt := 73) hx hb d_Mo_had_54 (by decide) (fun h_10 => ?_) (fun h_10 => ?_)
            · have hd := ite_f hd h_10
              refine lv_iinc (v := x5_34 + 1) (lv' := [(5, .int (x5_34 + 1)), (0, .ref (a 0)), (1, .int x1_f34), (2, .int x2_f34), (3, .int x3_34), (4, .int x4_34)]) hx hb d_Mo_had_73 hl (k := 5) rfl (by rfl) (by decide) rfl (fun ls hl => ?_)
              refine lv_goto (tgt := 34) hx hb d_Mo_had_76 (by decide) ?_
              exact ih34 x3_34 x4_34 (x5_34 + 1) _ _ _ hP hD hS (lv_sub hl [1, 2, 3, 4, 5, 0] rfl) hd
            · have hd := ite_t hd h_10
              refine lv_iload_n hx hb d_Mo_had_57 rfl (lv_at hl 3 rfl) ?_
              refine lv_if_ne (tgt := 66) hx hb d_Mo_had_58 (by decide) (fun h_11 => ?_) (fun h_11 => ?_)
              · have hd := ite_f hd h_11
                refine lv_iload hx hb d_Mo_had_66 (lv_at hl 4 rfl) ?_
                refine lv_istore (lv' := [(4, .int x4_34), (0, .ref (a 0)), (1, .int x1_f34), (2, .int x2_f34), (3, .int x3_34), (5, .int x5_34)]) hx hb d_Mo_had_68 hl (by decide) rfl (fun ls hl => ?_)
                refine lv_iinc (v := x3_34 + 1) (lv' := [(3, .int (x3_34 + 1)), (4, .int x4_34), (0, .ref (a 0)), (1, .int x1_f34), (2, .int x2_f34), (5, .int x5_34)]) hx hb d_Mo_had_70 hl (k := 4) rfl (by rfl) (by decide) rfl (fun ls hl => ?_)
                refine lv_iinc (v := x5_34 + 1) (lv' := [(5, .int (x5_34 + 1)), (3, .int (x3_34 + 1)), (4, .int x4_34), (0, .ref (a 0)), (1, .int x1_f34), (2, .int x2_f34)]) hx hb d_Mo_had_73 hl (k := 5) rfl (by rfl) (by decide) rfl (fun ls hl => ?_)
                refine lv_goto (tgt := 34) hx hb d_Mo_had_76 (by decide) ?_
                exact ih34 (x3_34 + 1) x4_34 (x5_34 + 1) _ _ _ hP hD hS (lv_sub hl [3, 4, 5, 1, 2, 0] rfl) hd
              · have hd := ite_t hd h_11
                refine lv_iload hx hb d_Mo_had_61 (lv_at hl 5 rfl) ?_
                refine lv_goto (tgt := 68) hx hb d_Mo_had_63 (by decide) ?_
                refine lv_istore (lv' := [(4, .int x5_34), (0, .ref (a 0)), (1, .int x1_f34), (2, .int x2_f34), (3, .int x3_34), (5, .int x5_34)]) hx hb d_Mo_had_68 hl (by decide) rfl (fun ls hl => ?_)
                refine lv_iinc (v := x3_34 + 1) (lv' := [(3, .int (x3_34 + 1)), (4, .int x5_34), (0, .ref (a 0)), (1, .int x1_f34), (2, .int x2_f34), (5, .int x5_34)]) hx hb d_Mo_had_70 hl (k := 4) rfl (by rfl) (by decide) rfl (fun ls hl => ?_)
                refine lv_iinc (v := x5_34 + 1) (lv' := [(5, .int (x5_34 + 1)), (3, .int (x3_34 + 1)), (4, .int x5_34), (0, .ref (a 0)), (1, .int x1_f34), (2, .int x2_f34)]) hx hb d_Mo_had_73 hl (k := 5) rfl (by rfl) (by decide) rfl (fun ls hl => ?_)
                refine lv_goto (tgt := 34) hx hb d_Mo_had_76 (by decide) ?_
                exact ih34 (x3_34 + 1) x5_34 (x5_34 + 1) _ _ _ hP hD hS (lv_sub hl [3, 4, 5, 1, 2, 0] rfl) hd
      exact lp34 x1 x2 _ ex34_79 1000 0 (-5) 0 _ _ _ hP hD hS (lv_sub hl [3, 4, 5, 2, 1, 0] rfl) hd
    · have hd := ite_t hd h_6
      refine lv_bipush (v := (-2)) hx hb d_Mo_had_22 (by decide) ?_
      obtain rfl := Option.some.inj hd
      exact retI hx hb hr hlk hK hP hD hS d_Mo_had_24 rfl
  · have hd := ite_t hd h_3
    refine lv_iconst (v := (-1)) hx hb d_Mo_had_9 (by decide) ?_
    obtain rfl := Option.some.inj hd
    exact retI hx hb hr hlk hK hP hD hS d_Mo_had_10 rfl
-- OwnsLiftModel.odds(I)J
def B_Mo_odds_L21 (x1_f21 : Int32) (self21 : Int64 → Int64 → Int32 → T_Mo → Option (Int64 × T_Mo)) (x2_21 : Int64) (x4_21 : Int64) (x6_21 : Int32) (z_21 : T_Mo) : Option (Int64 × T_Mo) :=
  if ((q_Mo_s z_21) 0) ≤ x6_21 then ((d_Mo_lowest x2_21 x4_21 x1_f21).bind fun v_5 => some (v_5, z_21)) else ((d_Mo_illOf x6_21 z_21).bind fun v_7 => (d_Mo_liftsOf x6_21 v_7.2).bind fun v_9 => (d_Mo_loadOf x6_21 v_9.2).bind fun v_11 => if v_9.1 < v_11 then (if (v_9.1 / 2) < v_11 then (self21 (x2_21 * ((0 + 0).toInt64)) (x4_21 * 10) (x6_21 + 1) v_9.2) else (self21 (x2_21 * ((0 + v_7.1).toInt64)) (x4_21 * 10) (x6_21 + 1) v_9.2)) else (if (v_9.1 / 2) < v_11 then (self21 (x2_21 * (((10 - v_7.1) + 0).toInt64)) (x4_21 * 10) (x6_21 + 1) v_9.2) else (self21 (x2_21 * (((10 - v_7.1) + v_7.1).toInt64)) (x4_21 * 10) (x6_21 + 1) v_9.2)))
def d_Mo_odds_L21 (x1_f21 : Int32) (n : Nat) : Int64 → Int64 → Int32 → T_Mo → Option (Int64 × T_Mo) := recN (fun _ _ _ _ => none) (fun self => B_Mo_odds_L21 x1_f21 self) n
def d_Mo_odds (x1 : Int32) (z : T_Mo) : Option (Int64 × T_Mo) :=
  (d_Mo_in x1 0 1).bind fun v_1 => if v_1 = 0 then (some ((-9223372036854775808), z)) else (d_Mo_odds_L21 x1  1000 1 1 0 z)
theorem d_Mo_odds_0 : decode b_Mo_odds 0 = .ok (.iload_n 1, 1) := by decide +kernel
theorem d_Mo_odds_1 : decode b_Mo_odds 1 = .ok (.iconst 0, 1) := by decide +kernel
theorem d_Mo_odds_2 : decode b_Mo_odds 2 = .ok (.iconst 1, 1) := by decide +kernel
theorem d_Mo_odds_3 : decode b_Mo_odds 3 = .ok (.invokestatic 50, 3) := by decide +kernel
theorem d_Mo_odds_6 : decode b_Mo_odds 6 = .ok (.ifCond .ne 7, 3) := by decide +kernel
theorem d_Mo_odds_9 : decode b_Mo_odds 9 = .ok (.ldc2_w 210, 3) := by decide +kernel
theorem d_Mo_odds_12 : decode b_Mo_odds 12 = .ok (.lreturn, 1) := by decide +kernel
theorem d_Mo_odds_13 : decode b_Mo_odds 13 = .ok (.lconst 1, 1) := by decide +kernel
theorem d_Mo_odds_14 : decode b_Mo_odds 14 = .ok (.lstore_n 2, 1) := by decide +kernel
theorem d_Mo_odds_15 : decode b_Mo_odds 15 = .ok (.lconst 1, 1) := by decide +kernel
theorem d_Mo_odds_16 : decode b_Mo_odds 16 = .ok (.lstore 4, 2) := by decide +kernel
theorem d_Mo_odds_18 : decode b_Mo_odds 18 = .ok (.iconst 0, 1) := by decide +kernel
theorem d_Mo_odds_19 : decode b_Mo_odds 19 = .ok (.istore 6, 2) := by decide +kernel
theorem d_Mo_odds_21 : decode b_Mo_odds 21 = .ok (.iload 6, 2) := by decide +kernel
theorem d_Mo_odds_23 : decode b_Mo_odds 23 = .ok (.aload_n 0, 1) := by decide +kernel
theorem d_Mo_odds_24 : decode b_Mo_odds 24 = .ok (.getfield 9, 3) := by decide +kernel
theorem d_Mo_odds_27 : decode b_Mo_odds 27 = .ok (.iconst 0, 1) := by decide +kernel
theorem d_Mo_odds_28 : decode b_Mo_odds 28 = .ok (.iaload, 1) := by decide +kernel
theorem d_Mo_odds_29 : decode b_Mo_odds 29 = .ok (.if_icmp .ge 77, 3) := by decide +kernel
theorem d_Mo_odds_32 : decode b_Mo_odds 32 = .ok (.aload_n 0, 1) := by decide +kernel
theorem d_Mo_odds_33 : decode b_Mo_odds 33 = .ok (.iload 6, 2) := by decide +kernel
theorem d_Mo_odds_35 : decode b_Mo_odds 35 = .ok (.invokevirtual 154, 3) := by decide +kernel
theorem d_Mo_odds_38 : decode b_Mo_odds 38 = .ok (.istore 7, 2) := by decide +kernel
theorem d_Mo_odds_40 : decode b_Mo_odds 40 = .ok (.aload_n 0, 1) := by decide +kernel
theorem d_Mo_odds_41 : decode b_Mo_odds 41 = .ok (.iload 6, 2) := by decide +kernel
theorem d_Mo_odds_43 : decode b_Mo_odds 43 = .ok (.invokevirtual 140, 3) := by decide +kernel
theorem d_Mo_odds_46 : decode b_Mo_odds 46 = .ok (.istore 8, 2) := by decide +kernel
theorem d_Mo_odds_48 : decode b_Mo_odds 48 = .ok (.aload_n 0, 1) := by decide +kernel
theorem d_Mo_odds_49 : decode b_Mo_odds 49 = .ok (.iload 6, 2) := by decide +kernel
theorem d_Mo_odds_51 : decode b_Mo_odds 51 = .ok (.invokevirtual 151, 3) := by decide +kernel
theorem d_Mo_odds_54 : decode b_Mo_odds 54 = .ok (.istore 9, 2) := by decide +kernel
theorem d_Mo_odds_56 : decode b_Mo_odds 56 = .ok (.lload_n 2, 1) := by decide +kernel
theorem d_Mo_odds_57 : decode b_Mo_odds 57 = .ok (.iload 9, 2) := by decide +kernel
theorem d_Mo_odds_59 : decode b_Mo_odds 59 = .ok (.iload 8, 2) := by decide +kernel
theorem d_Mo_odds_61 : decode b_Mo_odds 61 = .ok (.if_icmp .gt 11, 3) := by decide +kernel
theorem d_Mo_odds_64 : decode b_Mo_odds 64 = .ok (.bipush 10, 2) := by decide +kernel
theorem d_Mo_odds_66 : decode b_Mo_odds 66 = .ok (.iload 7, 2) := by decide +kernel
theorem d_Mo_odds_68 : decode b_Mo_odds 68 = .ok (.isub, 1) := by decide +kernel
theorem d_Mo_odds_69 : decode b_Mo_odds 69 = .ok (.goto 4, 3) := by decide +kernel
theorem d_Mo_odds_72 : decode b_Mo_odds 72 = .ok (.iconst 0, 1) := by decide +kernel
theorem d_Mo_odds_73 : decode b_Mo_odds 73 = .ok (.iload 9, 2) := by decide +kernel
theorem d_Mo_odds_75 : decode b_Mo_odds 75 = .ok (.iload 8, 2) := by decide +kernel
theorem d_Mo_odds_77 : decode b_Mo_odds 77 = .ok (.iconst 2, 1) := by decide +kernel
theorem d_Mo_odds_78 : decode b_Mo_odds 78 = .ok (.idiv, 1) := by decide +kernel
theorem d_Mo_odds_79 : decode b_Mo_odds 79 = .ok (.if_icmp .gt 8, 3) := by decide +kernel
theorem d_Mo_odds_82 : decode b_Mo_odds 82 = .ok (.iload 7, 2) := by decide +kernel
theorem d_Mo_odds_84 : decode b_Mo_odds 84 = .ok (.goto 4, 3) := by decide +kernel
theorem d_Mo_odds_87 : decode b_Mo_odds 87 = .ok (.iconst 0, 1) := by decide +kernel
theorem d_Mo_odds_88 : decode b_Mo_odds 88 = .ok (.iadd, 1) := by decide +kernel
theorem d_Mo_odds_89 : decode b_Mo_odds 89 = .ok (.i2l, 1) := by decide +kernel
theorem d_Mo_odds_90 : decode b_Mo_odds 90 = .ok (.lmul, 1) := by decide +kernel
theorem d_Mo_odds_91 : decode b_Mo_odds 91 = .ok (.lstore_n 2, 1) := by decide +kernel
theorem d_Mo_odds_92 : decode b_Mo_odds 92 = .ok (.lload 4, 2) := by decide +kernel
theorem d_Mo_odds_94 : decode b_Mo_odds 94 = .ok (.ldc2_w 235, 3) := by decide +kernel
theorem d_Mo_odds_97 : decode b_Mo_odds 97 = .ok (.lmul, 1) := by decide +kernel
theorem d_Mo_odds_98 : decode b_Mo_odds 98 = .ok (.lstore 4, 2) := by decide +kernel
theorem d_Mo_odds_100 : decode b_Mo_odds 100 = .ok (.iinc 6 1, 3) := by decide +kernel
theorem d_Mo_odds_103 : decode b_Mo_odds 103 = .ok (.goto (-82), 3) := by decide +kernel
theorem d_Mo_odds_106 : decode b_Mo_odds 106 = .ok (.lload_n 2, 1) := by decide +kernel
theorem d_Mo_odds_107 : decode b_Mo_odds 107 = .ok (.lload 4, 2) := by decide +kernel
theorem d_Mo_odds_109 : decode b_Mo_odds 109 = .ok (.iload_n 1, 1) := by decide +kernel
theorem d_Mo_odds_110 : decode b_Mo_odds 110 = .ok (.invokestatic 215, 3) := by decide +kernel
theorem d_Mo_odds_113 : decode b_Mo_odds 113 = .ok (.lreturn, 1) := by decide +kernel
theorem o_Mo_odds : OkV y_Mo_odds "OwnsLiftModel" b_Mo_odds 10 (some .long) 1 := ⟨⟨rfl, by decide +kernel, by decide +kernel, by decide +kernel⟩, g_1331, g_1332, g_81, g_1333⟩
set_option maxHeartbeats 4000000 in
set_option maxRecDepth 100000 in
theorem c_Mo_odds (l : Launch) (D : va_G) (g : Nat → ClassId) (a : Nat → Nat) (x1 : Int32) (z : T_Mo) (v : Int64 × T_Mo) (h : d_Mo_odds x1 z = some v) :
    ML l y_Mo_odds b_Mo_odds 10 ({ frames := 3, cells := 0, slots := 0, locals := 75 } : Room) D g [.ref (a 0), .int x1] (ws_Mo g a z) (v.1) (ws_Mo g a v.2) := by
  have hd := h
  unfold d_Mo_odds at hd
  refine enterL rfl (Nat.le_of_ble_eq_true rfl) (fun p e s m below meth c A ls hx hb hml hr hown hg hlk hK hA hP hD hS hCs hl => ?_)
  have hown : s.vm.findClass "OwnsLiftModel" = some m.cls := hown
  have hl : lv_has ls 10 [(0, .ref (a 0)), (1, .int x1)] := hl
  show GL p l e s m ({ frames := 3, cells := 0, slots := 0, locals := 75 } : Room) ([.ref (a 0), .int x1] : List Value).toArray below meth c A D g (ws_Mo g a v.2) (v.1) s.heap [] (F0 m 0 ls [])
  refine lv_iload_n hx hb d_Mo_odds_0 rfl (lv_at hl 1 rfl) ?_
  refine lv_iconst (v := 0) hx hb d_Mo_odds_1 (by decide) ?_
  refine lv_iconst (v := 1) hx hb d_Mo_odds_2 (by decide) ?_
  obtain ⟨v_1, e_2, hd⟩ := bind_s hd
  refine callSI (ws' := ws_Mo g a z) (rest := []) (As := [.int x1, .int 0, .int 1]) hx hb hml hown hg hK hP hD hS hA hCs hl.1 (c_Mo_in l D g  x1 0 1 _ e_2) o_Mo_in g_1076 [] segC0 rfl rfl segP0 rfl rfl (Nat.le_of_ble_eq_true rfl) ⟨rfl, rfl, Nat.le_of_ble_eq_true rfl, Nat.le_of_ble_eq_true rfl⟩ d_Mo_odds_3 (fun H locs hP hD hS => ?_)
  refine lv_if_ne (tgt := 13) hx hb d_Mo_odds_6 (by decide) (fun h_3 => ?_) (fun h_3 => ?_)
  · have hd := ite_f hd h_3
    refine lv_lconst (v := 1) hx hb d_Mo_odds_13 (by decide) ?_
    refine lv_lstore_n (lv' := [(2, .long 1), (0, .ref (a 0)), (1, .int x1)]) hx hb d_Mo_odds_14 rfl hl (by decide) rfl (fun ls hl => ?_)
    refine lv_lconst (v := 1) hx hb d_Mo_odds_15 (by decide) ?_
    refine lv_lstore (lv' := [(4, .long 1), (2, .long 1), (0, .ref (a 0)), (1, .int x1)]) hx hb d_Mo_odds_16 hl (by decide) rfl (fun ls hl => ?_)
    refine lv_iconst (v := 0) hx hb d_Mo_odds_18 (by decide) ?_
    refine lv_istore (lv' := [(6, .int 0), (4, .long 1), (2, .long 1), (0, .ref (a 0)), (1, .int x1)]) hx hb d_Mo_odds_19 hl (by decide) rfl (fun ls hl => ?_)
    have lp21 : ∀ (x1_f21 : Int32) (n : Nat) (x2_21 : Int64) (x4_21 : Int64) (x6_21 : Int32) (z_21 : T_Mo) (H : Heap) (locs : List Loc) (ls : Array Slot), va_P D classes (ws_Mo g a z_21) H → va_D A (ws_Mo g a z_21) → va_S A s.heap H locs → lv_has ls 10 [(0, .ref (a 0)), (1, .int x1_f21), (2, .long x2_21), (4, .long x4_21), (6, .int x6_21)] → d_Mo_odds_L21 x1_f21 n x2_21 x4_21 x6_21 z_21 = some v → GL p l e s m ({ frames := 3, cells := 0, slots := 0, locals := 75 } : Room) ([.ref (a 0), .int x1] : List Value).toArray below meth c A D g (ws_Mo g a v.2) (v.1) H locs (F0 m 21 ls []) := by
      intro x1_f21 n
      induction n with
      | zero =>
        intro  x2_21 x4_21 x6_21 z_21 H locs ls hP hD hS hl hd
        have hd : none = some v := hd
        cases hd
      | succ n ih21 =>
        intro  x2_21 x4_21 x6_21 z_21 H locs ls hP hD hS hl hd
        have hd : B_Mo_odds_L21 x1_f21 (d_Mo_odds_L21 x1_f21 n) x2_21 x4_21 x6_21 z_21 = some v := hd
        generalize d_Mo_odds_L21 x1_f21 n = self21 at ih21 hd
        unfold B_Mo_odds_L21 at hd
        refine lv_iload hx hb d_Mo_odds_21 (lv_at hl 4 rfl) ?_
        refine lv_aload_n hx hb d_Mo_odds_23 rfl (lv_at hl 0 rfl) ?_
        refine va_get (D := D) (ci := 1) (v := .ref (a 1)) (C := R_Mo) (T := F_Mo) (N := 26) hx hb hg i_Mo hown hK hP 0 rfl rfl 1 (by decide) (hg _ g_993) (fun _ h9 => h9) rfl d_Mo_odds_24 ?_
        refine lv_iconst (v := 0) hx hb d_Mo_odds_27 (by decide) ?_
        refine ialdK hx hb hK hP 1 0 rfl rfl (inb_t (by decide +kernel)) (k := 0) (by decide +kernel) d_Mo_odds_28 ?_
        refine lv_icmp_ge (tgt := 106) hx hb d_Mo_odds_29 (by decide) (fun h_4 => ?_) (fun h_4 => ?_)
        · have hd := ite_t hd h_4
          refine lv_lload_n hx hb d_Mo_odds_106 rfl (lv_at hl 2 rfl) ?_
          refine lv_lload hx hb d_Mo_odds_107 (lv_at hl 3 rfl) ?_
          refine lv_iload_n hx hb d_Mo_odds_109 rfl (lv_at hl 1 rfl) ?_
          obtain ⟨v_5, e_6, hd⟩ := bind_s hd
          refine callSL (ws' := ws_Mo g a z_21) (rest := []) (As := [.long x2_21, .long x4_21, .int x1_f21]) hx hb hml hown hg hK hP hD hS hA hCs hl.1 (c_Mo_lowest l D g  x2_21 x4_21 x1_f21 _ e_6) o_Mo_lowest g_1295 [] segC0 rfl rfl segP0 rfl rfl (Nat.le_of_ble_eq_true rfl) ⟨rfl, rfl, Nat.le_of_ble_eq_true rfl, Nat.le_of_ble_eq_true rfl⟩ d_Mo_odds_110 (fun H locs hP hD hS => ?_)
          obtain rfl := Option.some.inj hd
          exact retL hx hb hr hlk hK hP hD hS d_Mo_odds_113 rfl
        · have hd := ite_f hd h_4
          refine lv_aload_n hx hb d_Mo_odds_32 rfl (lv_at hl 0 rfl) ?_
          refine lv_iload hx hb d_Mo_odds_33 (lv_at hl 4 rfl) ?_
          obtain ⟨v_7, e_8, hd⟩ := bind_s hd
          refine callVI (ws' := ws_Mo g a v_7.2) (rest := []) (As := [.int x6_21]) hx hb hml hown hg hK hP hD hS hA hCs hl.1 (c_Mo_illOf l D g a x6_21 z_21 _ e_8) o_Mo_illOf g_1167 (ci := 1) (q0 := 0) rfl rfl (List.range' 0 12) (segC1 rfl rfl) (by decide) rfl (segP1 rfl rfl) rfl rfl (Nat.le_of_ble_eq_true rfl) ⟨rfl, rfl, Nat.le_of_ble_eq_true rfl, Nat.le_of_ble_eq_true rfl⟩ d_Mo_odds_35 (fun H locs hP hD hS => ?_)
          refine lv_istore (lv' := [(7, .int v_7.1), (0, .ref (a 0)), (1, .int x1_f21), (2, .long x2_21), (4, .long x4_21), (6, .int x6_21)]) hx hb d_Mo_odds_38 hl (by decide) rfl (fun ls hl => ?_)
          refine lv_aload_n hx hb d_Mo_odds_40 rfl (lv_at hl 1 rfl) ?_
          refine lv_iload hx hb d_Mo_odds_41 (lv_at hl 5 rfl) ?_
          obtain ⟨v_9, e_10, hd⟩ := bind_s hd
          refine callVI (ws' := ws_Mo g a v_9.2) (rest := []) (As := [.int x6_21]) hx hb hml hown hg hK hP hD hS hA hCs hl.1 (c_Mo_liftsOf l D g a x6_21 v_7.2 _ e_10) o_Mo_liftsOf g_1151 (ci := 1) (q0 := 0) rfl rfl (List.range' 0 12) (segC1 rfl rfl) (by decide) rfl (segP1 rfl rfl) rfl rfl (Nat.le_of_ble_eq_true rfl) ⟨rfl, rfl, Nat.le_of_ble_eq_true rfl, Nat.le_of_ble_eq_true rfl⟩ d_Mo_odds_43 (fun H locs hP hD hS => ?_)
          refine lv_istore (lv' := [(8, .int v_9.1), (7, .int v_7.1), (0, .ref (a 0)), (1, .int x1_f21), (2, .long x2_21), (4, .long x4_21), (6, .int x6_21)]) hx hb d_Mo_odds_46 hl (by decide) rfl (fun ls hl => ?_)
          refine lv_aload_n hx hb d_Mo_odds_48 rfl (lv_at hl 2 rfl) ?_
          refine lv_iload hx hb d_Mo_odds_49 (lv_at hl 6 rfl) ?_
          obtain ⟨v_11, e_12, hd⟩ := bind_s hd
          refine callVI (ws' := ws_Mo g a v_9.2) (rest := []) (As := [.int x6_21]) hx hb hml hown hg hK hP hD hS hA hCs hl.1 (c_Mo_loadOf l D g a x6_21 v_9.2 _ e_12) o_Mo_loadOf g_1163 (ci := 1) (q0 := 0) rfl rfl (List.range' 0 12) (segC1 rfl rfl) (by decide) rfl (segP1 rfl rfl) rfl rfl (Nat.le_of_ble_eq_true rfl) ⟨rfl, rfl, Nat.le_of_ble_eq_true rfl, Nat.le_of_ble_eq_true rfl⟩ d_Mo_odds_51 (fun H locs hP hD hS => ?_)
          refine lv_istore (lv' := [(9, .int v_11), (8, .int v_9.1), (7, .int v_7.1), (0, .ref (a 0)), (1, .int x1_f21), (2, .long x2_21), (4, .long x4_21), (6, .int x6_21)]) hx hb d_Mo_odds_54 hl (by decide) rfl (fun ls hl => ?_)
          refine lv_lload_n hx hb d_Mo_odds_56 rfl (lv_at hl 5 rfl) ?_
          refine lv_iload hx hb d_Mo_odds_57 (lv_at hl 0 rfl) ?_
          refine lv_iload hx hb d_Mo_odds_59 (lv_at hl 1 rfl) ?_
          refine lv_icmp_gt (tgt := 72) hx hb d_Mo_odds_61 (by decide) (fun h_13 => ?_) (fun h_13 => ?_)
          · have hd := ite_t hd h_13
            refine lv_iconst (v := 0) hx hb d_Mo_odds_72 (by decide) ?_
            refine lv_iload hx hb d_Mo_odds_73 (lv_at hl 0 rfl) ?_
            refine lv_iload hx hb d_Mo_odds_75 (lv_at hl 1 rfl) ?_
            refine lv_iconst (v := 2) hx hb d_Mo_odds_77 (by decide) ?_
            refine lv_idiv hx hb d_Mo_odds_78 (by decide) ?_
            refine lv_icmp_gt (tgt := 87) hx hb d_Mo_odds_79 (by decide) (fun h_14 => ?_) (fun h_14 => ?_)
            · have hd := ite_t hd h_14
              refine lv_iconst (v := 0) hx hb d_Mo_odds_87 (by decide) ?_
              refine lv_iadd hx hb d_Mo_odds_88 ?_
              refine lv_i2l hx hb d_Mo_odds_89 rfl ?_
              refine lv_lmul hx hb d_Mo_odds_90 ?_
              refine lv_lstore_n (lv' := [(2, .long (x2_21 * ((0 + 0).toInt64))), (9, .int v_11), (8, .int v_9.1), (7, .int v_7.1), (0, .ref (a 0)), (1, .int x1_f21), (4, .long x4_21), (6, .int x6_21)]) hx hb d_Mo_odds_91 rfl hl (by decide) rfl (fun ls hl => ?_)
              refine lv_lload hx hb d_Mo_odds_92 (lv_at hl 6 rfl) ?_
              refine lv_ldc2 (v := 10) hx hb hown (hg _ g_1334) d_Mo_odds_94 ?_
              refine lv_lmul hx hb d_Mo_odds_97 ?_
              refine lv_lstore (lv' := [(4, .long (x4_21 * 10)), (2, .long (x2_21 * ((0 + 0).toInt64))), (9, .int v_11), (8, .int v_9.1), (7, .int v_7.1), (0, .ref (a 0)), (1, .int x1_f21), (6, .int x6_21)]) hx hb d_Mo_odds_98 hl (by decide) rfl (fun ls hl => ?_)
              refine lv_iinc (v := x6_21 + 1) (lv' := [(6, .int (x6_21 + 1)), (4, .long (x4_21 * 10)), (2, .long (x2_21 * ((0 + 0).toInt64))), (9, .int v_11), (8, .int v_9.1), (7, .int v_7.1), (0, .ref (a 0)), (1, .int x1_f21)]) hx hb d_Mo_odds_100 hl (k := 7) rfl (by rfl) (by decide) rfl (fun ls hl => ?_)
              refine lv_goto (tgt := 21) hx hb d_Mo_odds_103 (by decide) ?_
              exact ih21 (x2_21 * ((0 + 0).toInt64)) (x4_21 * 10) (x6_21 + 1) v_9.2 _ _ _ hP hD hS (lv_sub hl [6, 7, 2, 1, 0] rfl) hd
            · have hd := ite_f hd h_14
              refine lv_iload hx hb d_Mo_odds_82 (lv_at hl 2 rfl) ?_
              refine lv_goto (tgt := 88) hx hb d_Mo_odds_84 (by decide) ?_
              refine lv_iadd hx hb d_Mo_odds_88 ?_
              refine lv_i2l hx hb d_Mo_odds_89 rfl ?_
              refine lv_lmul hx hb d_Mo_odds_90 ?_
              refine lv_lstore_n (lv' := [(2, .long (x2_21 * ((0 + v_7.1).toInt64))), (9, .int v_11), (8, .int v_9.1), (7, .int v_7.1), (0, .ref (a 0)), (1, .int x1_f21), (4, .long x4_21), (6, .int x6_21)]) hx hb d_Mo_odds_91 rfl hl (by decide) rfl (fun ls hl => ?_)
              refine lv_lload hx hb d_Mo_odds_92 (lv_at hl 6 rfl) ?_
              refine lv_ldc2 (v := 10) hx hb hown (hg _ g_1334) d_Mo_odds_94 ?_
              refine lv_lmul hx hb d_Mo_odds_97 ?_
              refine lv_lstore (lv' := [(4, .long (x4_21 * 10)), (2, .long (x2_21 * ((0 + v_7.1).toInt64))), (9, .int v_11), (8, .int v_9.1), (7, .int v_7.1), (0, .ref (a 0)), (1, .int x1_f21), (6, .int x6_21)]) hx hb d_Mo_odds_98 hl (by decide) rfl (fun ls hl => ?_)
              refine lv_iinc (v := x6_21 + 1) (lv' := [(6, .int (x6_21 + 1)), (4, .long (x4_21 * 10)), (2, .long (x2_21 * ((0 + v_7.1).toInt64))), (9, .int v_11), (8, .int v_9.1), (7, .int v_7.1), (0, .ref (a 0)), (1, .int x1_f21)]) hx hb d_Mo_odds_100 hl (k := 7) rfl (by rfl) (by decide) rfl (fun ls hl => ?_)
              refine lv_goto (tgt := 21) hx hb d_Mo_odds_103 (by decide) ?_
              exact ih21 (x2_21 * ((0 + v_7.1).toInt64)) (x4_21 * 10) (x6_21 + 1) v_9.2 _ _ _ hP hD hS (lv_sub hl [6, 7, 2, 1, 0] rfl) hd
          · have hd := ite_f hd h_13
            refine lv_bipush (v := 10) hx hb d_Mo_odds_64 (by decide) ?_
            refine lv_iload hx hb d_Mo_odds_66 (lv_at hl 2 rfl) ?_
            refine lv_isub hx hb d_Mo_odds_68 ?_
            refine lv_goto (tgt := 73) hx hb d_Mo_odds_69 (by decide) ?_
            refine lv_iload hx hb d_Mo_odds_73 (lv_at hl 0 rfl) ?_
            refine lv_iload hx hb d_Mo_odds_75 (lv_at hl 1 rfl) ?_
            refine lv_iconst (v := 2) hx hb d_Mo_odds_77 (by decide) ?_
            refine lv_idiv hx hb d_Mo_odds_78 (by decide) ?_
            refine lv_icmp_gt (tgt := 87) hx hb d_Mo_odds_79 (by decide) (fun h_15 => ?_) (fun h_15 => ?_)
            · have hd := ite_t hd h_15
              refine lv_iconst (v := 0) hx hb d_Mo_odds_87 (by decide) ?_
              refine lv_iadd hx hb d_Mo_odds_88 ?_
              refine lv_i2l hx hb d_Mo_odds_89 rfl ?_
              refine lv_lmul hx hb d_Mo_odds_90 ?_
              refine lv_lstore_n (lv' := [(2, .long (x2_21 * (((10 - v_7.1) + 0).toInt64))), (9, .int v_11), (8, .int v_9.1), (7, .int v_7.1), (0, .ref (a 0)), (1, .int x1_f21), (4, .long x4_21), (6, .int x6_21)]) hx hb d_Mo_odds_91 rfl hl (by decide) rfl (fun ls hl => ?_)
              refine lv_lload hx hb d_Mo_odds_92 (lv_at hl 6 rfl) ?_
              refine lv_ldc2 (v := 10) hx hb hown (hg _ g_1334) d_Mo_odds_94 ?_
              refine lv_lmul hx hb d_Mo_odds_97 ?_
              refine lv_lstore (lv' := [(4, .long (x4_21 * 10)), (2, .long (x2_21 * (((10 - v_7.1) + 0).toInt64))), (9, .int v_11), (8, .int v_9.1), (7, .int v_7.1), (0, .ref (a 0)), (1, .int x1_f21), (6, .int x6_21)]) hx hb d_Mo_odds_98 hl (by decide) rfl (fun ls hl => ?_)
              refine lv_iinc (v := x6_21 + 1) (lv' := [(6, .int (x6_21 + 1)), (4, .long (x4_21 * 10)), (2, .long (x2_21 * (((10 - v_7.1) + 0).toInt64))), (9, .int v_11), (8, .int v_9.1), (7, .int v_7.1), (0, .ref (a 0)), (1, .int x1_f21)]) hx hb d_Mo_odds_100 hl (k := 7) rfl (by rfl) (by decide) rfl (fun ls hl => ?_)
              refine lv_goto (tgt := 21) hx hb d_Mo_odds_103 (by decide) ?_
              exact ih21 (x2_21 * (((10 - v_7.1) + 0).toInt64)) (x4_21 * 10) (x6_21 + 1) v_9.2 _ _ _ hP hD hS (lv_sub hl [6, 7, 2, 1, 0] rfl) hd
            · have hd := ite_f hd h_15
              refine lv_iload hx hb d_Mo_odds_82 (lv_at hl 2 rfl) ?_
              refine lv_goto (tgt := 88) hx hb d_Mo_odds_84 (by decide) ?_
              refine lv_iadd hx hb d_Mo_odds_88 ?_
              refine lv_i2l hx hb d_Mo_odds_89 rfl ?_
              refine lv_lmul hx hb d_Mo_odds_90 ?_
              refine lv_lstore_n (lv' := [(2, .long (x2_21 * (((10 - v_7.1) + v_7.1).toInt64))), (9, .int v_11), (8, .int v_9.1), (7, .int v_7.1), (0, .ref (a 0)), (1, .int x1_f21), (4, .long x4_21), (6, .int x6_21)]) hx hb d_Mo_odds_91 rfl hl (by decide) rfl (fun ls hl => ?_)
              refine lv_lload hx hb d_Mo_odds_92 (lv_at hl 6 rfl) ?_
              refine lv_ldc2 (v := 10) hx hb hown (hg _ g_1334) d_Mo_odds_94 ?_
              refine lv_lmul hx hb d_Mo_odds_97 ?_
              refine lv_lstore (lv' := [(4, .long (x4_21 * 10)), (2, .long (x2_21 * (((10 - v_7.1) + v_7.1).toInt64))), (9, .int v_11), (8, .int v_9.1), (7, .int v_7.1), (0, .ref (a 0)), (1, .int x1_f21), (6, .int x6_21)]) hx hb d_Mo_odds_98 hl (by decide) rfl (fun ls hl => ?_)
              refine lv_iinc (v := x6_21 + 1) (lv' := [(6, .int (x6_21 + 1)), (4, .long (x4_21 * 10)), (2, .long (x2_21 * (((10 - v_7.1) + v_7.1).toInt64))), (9, .int v_11), (8, .int v_9.1), (7, .int v_7.1), (0, .ref (a 0)), (1, .int x1_f21)]) hx hb d_Mo_odds_100 hl (k := 7) rfl (by rfl) (by decide) rfl (fun ls hl => ?_)
              refine lv_goto (tgt := 21) hx hb d_Mo_odds_103 (by decide) ?_
              exact ih21 (x2_21 * (((10 - v_7.1) + v_7.1).toInt64)) (x4_21 * 10) (x6_21 + 1) v_9.2 _ _ _ hP hD hS (lv_sub hl [6, 7, 2, 1, 0] rfl) hd
    exact lp21 x1 1000 1 1 0 z _ _ _ hP hD hS (lv_sub hl [3, 4, 2, 1, 0] rfl) hd
  · have hd := ite_t hd h_3
    refine lv_ldc2 (v := (-9223372036854775808)) hx hb hown (hg _ g_1290) d_Mo_odds_9 ?_
    obtain rfl := Option.some.inj hd
    exact retL hx hb hr hlk hK hP hD hS d_Mo_odds_12 rfl
-- OwnsLiftModel.see(IZ)I
def d_Mo_see (x1 : Int32) (x2 : Int32) (z : T_Mo) : Option (Int32 × T_Mo) :=
  if x1 = (-1) then (some (0, (u_Mo_s z (upd (q_Mo_s z) 3 0)))) else ((d_Mo_isPerson x1 z).bind fun v_2 => if v_2 = 0 then (some ((-1), z)) else (if ((q_Mo_s z) 3) = 12 then (some ((-4), z)) else (if inb (72 + ((q_Mo_s z) 3)) 901 = true then (if x2 = 0 then (if inb (84 + ((q_Mo_s (u_Mo_s z (upd (q_Mo_s z) (72 + ((q_Mo_s z) 3)).toNatClampNeg x1))) 3)) 901 = true then (some ((q_Mo_s (u_Mo_s (u_Mo_s (u_Mo_s z (upd (q_Mo_s z) (72 + ((q_Mo_s z) 3)).toNatClampNeg x1)) (upd (q_Mo_s (u_Mo_s z (upd (q_Mo_s z) (72 + ((q_Mo_s z) 3)).toNatClampNeg x1))) (84 + ((q_Mo_s (u_Mo_s z (upd (q_Mo_s z) (72 + ((q_Mo_s z) 3)).toNatClampNeg x1))) 3)).toNatClampNeg 0)) (upd (q_Mo_s (u_Mo_s (u_Mo_s z (upd (q_Mo_s z) (72 + ((q_Mo_s z) 3)).toNatClampNeg x1)) (upd (q_Mo_s (u_Mo_s z (upd (q_Mo_s z) (72 + ((q_Mo_s z) 3)).toNatClampNeg x1))) (84 + ((q_Mo_s (u_Mo_s z (upd (q_Mo_s z) (72 + ((q_Mo_s z) 3)).toNatClampNeg x1))) 3)).toNatClampNeg 0))) 3 (((q_Mo_s (u_Mo_s (u_Mo_s z (upd (q_Mo_s z) (72 + ((q_Mo_s z) 3)).toNatClampNeg x1)) (upd (q_Mo_s (u_Mo_s z (upd (q_Mo_s z) (72 + ((q_Mo_s z) 3)).toNatClampNeg x1))) (84 + ((q_Mo_s (u_Mo_s z (upd (q_Mo_s z) (72 + ((q_Mo_s z) 3)).toNatClampNeg x1))) 3)).toNatClampNeg 0))) 3) + 1)))) 3, (u_Mo_s (u_Mo_s (u_Mo_s z (upd (q_Mo_s z) (72 + ((q_Mo_s z) 3)).toNatClampNeg x1)) (upd (q_Mo_s (u_Mo_s z (upd (q_Mo_s z) (72 + ((q_Mo_s z) 3)).toNatClampNeg x1))) (84 + ((q_Mo_s (u_Mo_s z (upd (q_Mo_s z) (72 + ((q_Mo_s z) 3)).toNatClampNeg x1))) 3)).toNatClampNeg 0)) (upd (q_Mo_s (u_Mo_s (u_Mo_s z (upd (q_Mo_s z) (72 + ((q_Mo_s z) 3)).toNatClampNeg x1)) (upd (q_Mo_s (u_Mo_s z (upd (q_Mo_s z) (72 + ((q_Mo_s z) 3)).toNatClampNeg x1))) (84 + ((q_Mo_s (u_Mo_s z (upd (q_Mo_s z) (72 + ((q_Mo_s z) 3)).toNatClampNeg x1))) 3)).toNatClampNeg 0))) 3 (((q_Mo_s (u_Mo_s (u_Mo_s z (upd (q_Mo_s z) (72 + ((q_Mo_s z) 3)).toNatClampNeg x1)) (upd (q_Mo_s (u_Mo_s z (upd (q_Mo_s z) (72 + ((q_Mo_s z) 3)).toNatClampNeg x1))) (84 + ((q_Mo_s (u_Mo_s z (upd (q_Mo_s z) (72 + ((q_Mo_s z) 3)).toNatClampNeg x1))) 3)).toNatClampNeg 0))) 3) + 1))))) else none) else (if inb (84 + ((q_Mo_s (u_Mo_s z (upd (q_Mo_s z) (72 + ((q_Mo_s z) 3)).toNatClampNeg x1))) 3)) 901 = true then (some ((q_Mo_s (u_Mo_s (u_Mo_s (u_Mo_s z (upd (q_Mo_s z) (72 + ((q_Mo_s z) 3)).toNatClampNeg x1)) (upd (q_Mo_s (u_Mo_s z (upd (q_Mo_s z) (72 + ((q_Mo_s z) 3)).toNatClampNeg x1))) (84 + ((q_Mo_s (u_Mo_s z (upd (q_Mo_s z) (72 + ((q_Mo_s z) 3)).toNatClampNeg x1))) 3)).toNatClampNeg 1)) (upd (q_Mo_s (u_Mo_s (u_Mo_s z (upd (q_Mo_s z) (72 + ((q_Mo_s z) 3)).toNatClampNeg x1)) (upd (q_Mo_s (u_Mo_s z (upd (q_Mo_s z) (72 + ((q_Mo_s z) 3)).toNatClampNeg x1))) (84 + ((q_Mo_s (u_Mo_s z (upd (q_Mo_s z) (72 + ((q_Mo_s z) 3)).toNatClampNeg x1))) 3)).toNatClampNeg 1))) 3 (((q_Mo_s (u_Mo_s (u_Mo_s z (upd (q_Mo_s z) (72 + ((q_Mo_s z) 3)).toNatClampNeg x1)) (upd (q_Mo_s (u_Mo_s z (upd (q_Mo_s z) (72 + ((q_Mo_s z) 3)).toNatClampNeg x1))) (84 + ((q_Mo_s (u_Mo_s z (upd (q_Mo_s z) (72 + ((q_Mo_s z) 3)).toNatClampNeg x1))) 3)).toNatClampNeg 1))) 3) + 1)))) 3, (u_Mo_s (u_Mo_s (u_Mo_s z (upd (q_Mo_s z) (72 + ((q_Mo_s z) 3)).toNatClampNeg x1)) (upd (q_Mo_s (u_Mo_s z (upd (q_Mo_s z) (72 + ((q_Mo_s z) 3)).toNatClampNeg x1))) (84 + ((q_Mo_s (u_Mo_s z (upd (q_Mo_s z) (72 + ((q_Mo_s z) 3)).toNatClampNeg x1))) 3)).toNatClampNeg 1)) (upd (q_Mo_s (u_Mo_s (u_Mo_s z (upd (q_Mo_s z) (72 + ((q_Mo_s z) 3)).toNatClampNeg x1)) (upd (q_Mo_s (u_Mo_s z (upd (q_Mo_s z) (72 + ((q_Mo_s z) 3)).toNatClampNeg x1))) (84 + ((q_Mo_s (u_Mo_s z (upd (q_Mo_s z) (72 + ((q_Mo_s z) 3)).toNatClampNeg x1))) 3)).toNatClampNeg 1))) 3 (((q_Mo_s (u_Mo_s (u_Mo_s z (upd (q_Mo_s z) (72 + ((q_Mo_s z) 3)).toNatClampNeg x1)) (upd (q_Mo_s (u_Mo_s z (upd (q_Mo_s z) (72 + ((q_Mo_s z) 3)).toNatClampNeg x1))) (84 + ((q_Mo_s (u_Mo_s z (upd (q_Mo_s z) (72 + ((q_Mo_s z) 3)).toNatClampNeg x1))) 3)).toNatClampNeg 1))) 3) + 1))))) else none)) else none)))
theorem d_Mo_see_0 : decode b_Mo_see 0 = .ok (.iload_n 1, 1) := by decide +kernel
theorem d_Mo_see_1 : decode b_Mo_see 1 = .ok (.iconst (-1), 1) := by decide +kernel
theorem d_Mo_see_2 : decode b_Mo_see 2 = .ok (.if_icmp .ne 12, 3) := by decide +kernel
theorem d_Mo_see_5 : decode b_Mo_see 5 = .ok (.aload_n 0, 1) := by decide +kernel
theorem d_Mo_see_6 : decode b_Mo_see 6 = .ok (.getfield 9, 3) := by decide +kernel
theorem d_Mo_see_9 : decode b_Mo_see 9 = .ok (.iconst 3, 1) := by decide +kernel
theorem d_Mo_see_10 : decode b_Mo_see 10 = .ok (.iconst 0, 1) := by decide +kernel
theorem d_Mo_see_11 : decode b_Mo_see 11 = .ok (.iastore, 1) := by decide +kernel
theorem d_Mo_see_12 : decode b_Mo_see 12 = .ok (.iconst 0, 1) := by decide +kernel
theorem d_Mo_see_13 : decode b_Mo_see 13 = .ok (.ireturn, 1) := by decide +kernel
theorem d_Mo_see_14 : decode b_Mo_see 14 = .ok (.aload_n 0, 1) := by decide +kernel
theorem d_Mo_see_15 : decode b_Mo_see 15 = .ok (.iload_n 1, 1) := by decide +kernel
theorem d_Mo_see_16 : decode b_Mo_see 16 = .ok (.invokevirtual 147, 3) := by decide +kernel
theorem d_Mo_see_19 : decode b_Mo_see 19 = .ok (.ifCond .ne 5, 3) := by decide +kernel
theorem d_Mo_see_22 : decode b_Mo_see 22 = .ok (.iconst (-1), 1) := by decide +kernel
theorem d_Mo_see_23 : decode b_Mo_see 23 = .ok (.ireturn, 1) := by decide +kernel
theorem d_Mo_see_24 : decode b_Mo_see 24 = .ok (.aload_n 0, 1) := by decide +kernel
theorem d_Mo_see_25 : decode b_Mo_see 25 = .ok (.getfield 9, 3) := by decide +kernel
theorem d_Mo_see_28 : decode b_Mo_see 28 = .ok (.iconst 3, 1) := by decide +kernel
theorem d_Mo_see_29 : decode b_Mo_see 29 = .ok (.iaload, 1) := by decide +kernel
theorem d_Mo_see_30 : decode b_Mo_see 30 = .ok (.bipush 12, 2) := by decide +kernel
theorem d_Mo_see_32 : decode b_Mo_see 32 = .ok (.if_icmp .ne 6, 3) := by decide +kernel
theorem d_Mo_see_35 : decode b_Mo_see 35 = .ok (.bipush (-4), 2) := by decide +kernel
theorem d_Mo_see_37 : decode b_Mo_see 37 = .ok (.ireturn, 1) := by decide +kernel
theorem d_Mo_see_38 : decode b_Mo_see 38 = .ok (.aload_n 0, 1) := by decide +kernel
theorem d_Mo_see_39 : decode b_Mo_see 39 = .ok (.getfield 9, 3) := by decide +kernel
theorem d_Mo_see_42 : decode b_Mo_see 42 = .ok (.bipush 72, 2) := by decide +kernel
theorem d_Mo_see_44 : decode b_Mo_see 44 = .ok (.aload_n 0, 1) := by decide +kernel
theorem d_Mo_see_45 : decode b_Mo_see 45 = .ok (.getfield 9, 3) := by decide +kernel
theorem d_Mo_see_48 : decode b_Mo_see 48 = .ok (.iconst 3, 1) := by decide +kernel
theorem d_Mo_see_49 : decode b_Mo_see 49 = .ok (.iaload, 1) := by decide +kernel
theorem d_Mo_see_50 : decode b_Mo_see 50 = .ok (.iadd, 1) := by decide +kernel
theorem d_Mo_see_51 : decode b_Mo_see 51 = .ok (.iload_n 1, 1) := by decide +kernel
theorem d_Mo_see_52 : decode b_Mo_see 52 = .ok (.iastore, 1) := by decide +kernel
theorem d_Mo_see_53 : decode b_Mo_see 53 = .ok (.aload_n 0, 1) := by decide +kernel
theorem d_Mo_see_54 : decode b_Mo_see 54 = .ok (.getfield 9, 3) := by decide +kernel
theorem d_Mo_see_57 : decode b_Mo_see 57 = .ok (.bipush 84, 2) := by decide +kernel
theorem d_Mo_see_59 : decode b_Mo_see 59 = .ok (.aload_n 0, 1) := by decide +kernel
theorem d_Mo_see_60 : decode b_Mo_see 60 = .ok (.getfield 9, 3) := by decide +kernel
theorem d_Mo_see_63 : decode b_Mo_see 63 = .ok (.iconst 3, 1) := by decide +kernel
theorem d_Mo_see_64 : decode b_Mo_see 64 = .ok (.iaload, 1) := by decide +kernel
theorem d_Mo_see_65 : decode b_Mo_see 65 = .ok (.iadd, 1) := by decide +kernel
theorem d_Mo_see_66 : decode b_Mo_see 66 = .ok (.iload_n 2, 1) := by decide +kernel
theorem d_Mo_see_67 : decode b_Mo_see 67 = .ok (.ifCond .eq 7, 3) := by decide +kernel
theorem d_Mo_see_70 : decode b_Mo_see 70 = .ok (.iconst 1, 1) := by decide +kernel
theorem d_Mo_see_71 : decode b_Mo_see 71 = .ok (.goto 4, 3) := by decide +kernel
theorem d_Mo_see_74 : decode b_Mo_see 74 = .ok (.iconst 0, 1) := by decide +kernel
theorem d_Mo_see_75 : decode b_Mo_see 75 = .ok (.iastore, 1) := by decide +kernel
theorem d_Mo_see_76 : decode b_Mo_see 76 = .ok (.aload_n 0, 1) := by decide +kernel
theorem d_Mo_see_77 : decode b_Mo_see 77 = .ok (.getfield 9, 3) := by decide +kernel
theorem d_Mo_see_80 : decode b_Mo_see 80 = .ok (.iconst 3, 1) := by decide +kernel
theorem d_Mo_see_81 : decode b_Mo_see 81 = .ok (.dup2, 1) := by decide +kernel
theorem d_Mo_see_82 : decode b_Mo_see 82 = .ok (.iaload, 1) := by decide +kernel
theorem d_Mo_see_83 : decode b_Mo_see 83 = .ok (.iconst 1, 1) := by decide +kernel
theorem d_Mo_see_84 : decode b_Mo_see 84 = .ok (.iadd, 1) := by decide +kernel
theorem d_Mo_see_85 : decode b_Mo_see 85 = .ok (.iastore, 1) := by decide +kernel
theorem d_Mo_see_86 : decode b_Mo_see 86 = .ok (.aload_n 0, 1) := by decide +kernel
theorem d_Mo_see_87 : decode b_Mo_see 87 = .ok (.getfield 9, 3) := by decide +kernel
theorem d_Mo_see_90 : decode b_Mo_see 90 = .ok (.iconst 3, 1) := by decide +kernel
theorem d_Mo_see_91 : decode b_Mo_see 91 = .ok (.iaload, 1) := by decide +kernel
theorem d_Mo_see_92 : decode b_Mo_see 92 = .ok (.ireturn, 1) := by decide +kernel
theorem o_Mo_see : OkV y_Mo_see "OwnsLiftModel" b_Mo_see 3 (some .int) 2 := ⟨⟨rfl, by decide +kernel, by decide +kernel, by decide +kernel⟩, g_1336, g_1337, g_81, g_1338⟩
set_option maxHeartbeats 4000000 in
set_option maxRecDepth 100000 in
theorem c_Mo_see (l : Launch) (D : va_G) (g : Nat → ClassId) (a : Nat → Nat) (x1 : Int32) (x2 : Int32) (z : T_Mo) (v : Int32 × T_Mo) (h : d_Mo_see x1 x2 z = some v) :
    MI l y_Mo_see b_Mo_see 3 .int ({ frames := 2, cells := 0, slots := 0, locals := 43 } : Room) D g [.ref (a 0), .int x1, .int x2] (ws_Mo g a z) (v.1) (ws_Mo g a v.2) := by
  have hd := h
  unfold d_Mo_see at hd
  refine enterI rfl (Nat.le_of_ble_eq_true rfl) (fun p e s m below meth c A ls hx hb hml hr hown hg hlk hK hA hP hD hS hCs hl => ?_)
  have hown : s.vm.findClass "OwnsLiftModel" = some m.cls := hown
  have hl : lv_has ls 3 [(0, .ref (a 0)), (1, .int x1), (2, .int x2)] := hl
  show GI p l e s m ({ frames := 2, cells := 0, slots := 0, locals := 43 } : Room) ([.ref (a 0), .int x1, .int x2] : List Value).toArray below meth c A D g (ws_Mo g a v.2) (v.1) s.heap [] (F0 m 0 ls [])
  refine lv_iload_n hx hb d_Mo_see_0 rfl (lv_at hl 1 rfl) ?_
  refine lv_iconst (v := (-1)) hx hb d_Mo_see_1 (by decide) ?_
  refine lv_icmp_ne (tgt := 14) hx hb d_Mo_see_2 (by decide) (fun h_1 => ?_) (fun h_1 => ?_)
  · have hd := ite_f hd h_1
    refine lv_aload_n hx hb d_Mo_see_14 rfl (lv_at hl 0 rfl) ?_
    refine lv_iload_n hx hb d_Mo_see_15 rfl (lv_at hl 1 rfl) ?_
    obtain ⟨v_2, e_3, hd⟩ := bind_s hd
    refine callVI (ws' := ws_Mo g a z) (rest := []) (As := [.int x1]) hx hb hml hown hg hK hP hD hS hA hCs hl.1 (c_Mo_isPerson l D g a x1 z _ e_3) o_Mo_isPerson g_1147 (ci := 1) (q0 := 0) rfl rfl (List.range' 0 12) (segC1 rfl rfl) (by decide) rfl (segP1 rfl rfl) rfl rfl (Nat.le_of_ble_eq_true rfl) ⟨rfl, rfl, Nat.le_of_ble_eq_true rfl, Nat.le_of_ble_eq_true rfl⟩ d_Mo_see_16 (fun H locs hP hD hS => ?_)
    refine lv_if_ne (tgt := 24) hx hb d_Mo_see_19 (by decide) (fun h_4 => ?_) (fun h_4 => ?_)
    · have hd := ite_f hd h_4
      refine lv_aload_n hx hb d_Mo_see_24 rfl (lv_at hl 0 rfl) ?_
      refine va_get (D := D) (ci := 1) (v := .ref (a 1)) (C := R_Mo) (T := F_Mo) (N := 26) hx hb hg i_Mo hown hK hP 0 rfl rfl 1 (by decide) (hg _ g_993) (fun _ h9 => h9) rfl d_Mo_see_25 ?_
      refine lv_iconst (v := 3) hx hb d_Mo_see_28 (by decide) ?_
      refine ialdK hx hb hK hP 1 0 rfl rfl (inb_t (by decide +kernel)) (k := 3) (by decide +kernel) d_Mo_see_29 ?_
      refine lv_bipush (v := 12) hx hb d_Mo_see_30 (by decide) ?_
      refine lv_icmp_ne (tgt := 38) hx hb d_Mo_see_32 (by decide) (fun h_5 => ?_) (fun h_5 => ?_)
      · have hd := ite_f hd h_5
        refine lv_aload_n hx hb d_Mo_see_38 rfl (lv_at hl 0 rfl) ?_
        refine va_get (D := D) (ci := 1) (v := .ref (a 1)) (C := R_Mo) (T := F_Mo) (N := 26) hx hb hg i_Mo hown hK hP 0 rfl rfl 1 (by decide) (hg _ g_993) (fun _ h9 => h9) rfl d_Mo_see_39 ?_
        refine lv_bipush (v := 72) hx hb d_Mo_see_42 (by decide) ?_
        refine lv_aload_n hx hb d_Mo_see_44 rfl (lv_at hl 0 rfl) ?_
        refine va_get (D := D) (ci := 1) (v := .ref (a 1)) (C := R_Mo) (T := F_Mo) (N := 26) hx hb hg i_Mo hown hK hP 0 rfl rfl 1 (by decide) (hg _ g_993) (fun _ h9 => h9) rfl d_Mo_see_45 ?_
        refine lv_iconst (v := 3) hx hb d_Mo_see_48 (by decide) ?_
        refine ialdK hx hb hK hP 1 0 rfl rfl (inb_t (by decide +kernel)) (k := 3) (by decide +kernel) d_Mo_see_49 ?_
        refine lv_iadd hx hb d_Mo_see_50 ?_
        refine lv_iload_n hx hb d_Mo_see_51 rfl (lv_at hl 1 rfl) ?_
        obtain ⟨h_9, hd⟩ := ite_s hd
        refine iastK hx hb hK hP hD hS 1 0 rfl rfl (inb_t h_9) rfl d_Mo_see_52 (fun H locs hP hD hS => ?_)
        have hP : va_P D classes (ws_Mo g a (u_Mo_s z (upd (q_Mo_s z) (72 + ((q_Mo_s z) 3)).toNatClampNeg x1))) H := hP
        have hD : va_D A (ws_Mo g a (u_Mo_s z (upd (q_Mo_s z) (72 + ((q_Mo_s z) 3)).toNatClampNeg x1))) := hD
        refine lv_aload_n hx hb d_Mo_see_53 rfl (lv_at hl 0 rfl) ?_
        refine va_get (D := D) (ci := 1) (v := .ref (a 1)) (C := R_Mo) (T := F_Mo) (N := 26) hx hb hg i_Mo hown hK hP 0 rfl rfl 1 (by decide) (hg _ g_993) (fun _ h9 => h9) rfl d_Mo_see_54 ?_
        refine lv_bipush (v := 84) hx hb d_Mo_see_57 (by decide) ?_
        refine lv_aload_n hx hb d_Mo_see_59 rfl (lv_at hl 0 rfl) ?_
        refine va_get (D := D) (ci := 1) (v := .ref (a 1)) (C := R_Mo) (T := F_Mo) (N := 26) hx hb hg i_Mo hown hK hP 0 rfl rfl 1 (by decide) (hg _ g_993) (fun _ h9 => h9) rfl d_Mo_see_60 ?_
        refine lv_iconst (v := 3) hx hb d_Mo_see_63 (by decide) ?_
        refine ialdK hx hb hK hP 1 0 rfl rfl (inb_t (by decide +kernel)) (k := 3) (by decide +kernel) d_Mo_see_64 ?_
        refine lv_iadd hx hb d_Mo_see_65 ?_
        refine lv_iload_n hx hb d_Mo_see_66 rfl (lv_at hl 2 rfl) ?_
        refine lv_if_eq (tgt := 74) hx hb d_Mo_see_67 (by decide) (fun h_6 => ?_) (fun h_6 => ?_)
        · have hd := ite_t hd h_6
          refine lv_iconst (v := 0) hx hb d_Mo_see_74 (by decide) ?_
          obtain ⟨h_7, hd⟩ := ite_s hd
          refine iastK hx hb hK hP hD hS 1 0 rfl rfl (inb_t h_7) rfl d_Mo_see_75 (fun H locs hP hD hS => ?_)
          have hP : va_P D classes (ws_Mo g a (u_Mo_s (u_Mo_s z (upd (q_Mo_s z) (72 + ((q_Mo_s z) 3)).toNatClampNeg x1)) (upd (q_Mo_s (u_Mo_s z (upd (q_Mo_s z) (72 + ((q_Mo_s z) 3)).toNatClampNeg x1))) (84 + ((q_Mo_s (u_Mo_s z (upd (q_Mo_s z) (72 + ((q_Mo_s z) 3)).toNatClampNeg x1))) 3)).toNatClampNeg 0))) H := hP
          have hD : va_D A (ws_Mo g a (u_Mo_s (u_Mo_s z (upd (q_Mo_s z) (72 + ((q_Mo_s z) 3)).toNatClampNeg x1)) (upd (q_Mo_s (u_Mo_s z (upd (q_Mo_s z) (72 + ((q_Mo_s z) 3)).toNatClampNeg x1))) (84 + ((q_Mo_s (u_Mo_s z (upd (q_Mo_s z) (72 + ((q_Mo_s z) 3)).toNatClampNeg x1))) 3)).toNatClampNeg 0))) := hD
          refine lv_aload_n hx hb d_Mo_see_76 rfl (lv_at hl 0 rfl) ?_
          refine va_get (D := D) (ci := 1) (v := .ref (a 1)) (C := R_Mo) (T := F_Mo) (N := 26) hx hb hg i_Mo hown hK hP 0 rfl rfl 1 (by decide) (hg _ g_993) (fun _ h9 => h9) rfl d_Mo_see_77 ?_
          refine lv_iconst (v := 3) hx hb d_Mo_see_80 (by decide) ?_
          refine lv_dup2_11 hx hb d_Mo_see_81 rfl rfl ?_
          refine ialdK hx hb hK hP 1 0 rfl rfl (inb_t (by decide +kernel)) (k := 3) (by decide +kernel) d_Mo_see_82 ?_
          refine lv_iconst (v := 1) hx hb d_Mo_see_83 (by decide) ?_
          refine lv_iadd hx hb d_Mo_see_84 ?_
          refine iastK hx hb hK hP hD hS 1 0 rfl rfl (inb_t (by decide +kernel)) (k := 3) (by decide +kernel) d_Mo_see_85 (fun H locs hP hD hS => ?_)
          have hP : va_P D classes (ws_Mo g a (u_Mo_s (u_Mo_s (u_Mo_s z (upd (q_Mo_s z) (72 + ((q_Mo_s z) 3)).toNatClampNeg x1)) (upd (q_Mo_s (u_Mo_s z (upd (q_Mo_s z) (72 + ((q_Mo_s z) 3)).toNatClampNeg x1))) (84 + ((q_Mo_s (u_Mo_s z (upd (q_Mo_s z) (72 + ((q_Mo_s z) 3)).toNatClampNeg x1))) 3)).toNatClampNeg 0)) (upd (q_Mo_s (u_Mo_s (u_Mo_s z (upd (q_Mo_s z) (72 + ((q_Mo_s z) 3)).toNatClampNeg x1)) (upd (q_Mo_s (u_Mo_s z (upd (q_Mo_s z) (72 + ((q_Mo_s z) 3)).toNatClampNeg x1))) (84 + ((q_Mo_s (u_Mo_s z (upd (q_Mo_s z) (72 + ((q_Mo_s z) 3)).toNatClampNeg x1))) 3)).toNatClampNeg 0))) 3 (((q_Mo_s (u_Mo_s (u_Mo_s z (upd (q_Mo_s z) (72 + ((q_Mo_s z) 3)).toNatClampNeg x1)) (upd (q_Mo_s (u_Mo_s z (upd (q_Mo_s z) (72 + ((q_Mo_s z) 3)).toNatClampNeg x1))) (84 + ((q_Mo_s (u_Mo_s z (upd (q_Mo_s z) (72 + ((q_Mo_s z) 3)).toNatClampNeg x1))) 3)).toNatClampNeg 0))) 3) + 1)))) H := hP
          have hD : va_D A (ws_Mo g a (u_Mo_s (u_Mo_s (u_Mo_s z (upd (q_Mo_s z) (72 + ((q_Mo_s z) 3)).toNatClampNeg x1)) (upd (q_Mo_s (u_Mo_s z (upd (q_Mo_s z) (72 + ((q_Mo_s z) 3)).toNatClampNeg x1))) (84 + ((q_Mo_s (u_Mo_s z (upd (q_Mo_s z) (72 + ((q_Mo_s z) 3)).toNatClampNeg x1))) 3)).toNatClampNeg 0)) (upd (q_Mo_s (u_Mo_s (u_Mo_s z (upd (q_Mo_s z) (72 + ((q_Mo_s z) 3)).toNatClampNeg x1)) (upd (q_Mo_s (u_Mo_s z (upd (q_Mo_s z) (72 + ((q_Mo_s z) 3)).toNatClampNeg x1))) (84 + ((q_Mo_s (u_Mo_s z (upd (q_Mo_s z) (72 + ((q_Mo_s z) 3)).toNatClampNeg x1))) 3)).toNatClampNeg 0))) 3 (((q_Mo_s (u_Mo_s (u_Mo_s z (upd (q_Mo_s z) (72 + ((q_Mo_s z) 3)).toNatClampNeg x1)) (upd (q_Mo_s (u_Mo_s z (upd (q_Mo_s z) (72 + ((q_Mo_s z) 3)).toNatClampNeg x1))) (84 + ((q_Mo_s (u_Mo_s z (upd (q_Mo_s z) (72 + ((q_Mo_s z) 3)).toNatClampNeg x1))) 3)).toNatClampNeg 0))) 3) + 1)))) := hD
          refine lv_aload_n hx hb d_Mo_see_86 rfl (lv_at hl 0 rfl) ?_
          refine va_get (D := D) (ci := 1) (v := .ref (a 1)) (C := R_Mo) (T := F_Mo) (N := 26) hx hb hg i_Mo hown hK hP 0 rfl rfl 1 (by decide) (hg _ g_993) (fun _ h9 => h9) rfl d_Mo_see_87 ?_
          refine lv_iconst (v := 3) hx hb d_Mo_see_90 (by decide) ?_
          refine ialdK hx hb hK hP 1 0 rfl rfl (inb_t (by decide +kernel)) (k := 3) (by decide +kernel) d_Mo_see_91 ?_
          obtain rfl := Option.some.inj hd
          exact retI hx hb hr hlk hK hP hD hS d_Mo_see_92 rfl
        · have hd := ite_f hd h_6
          refine lv_iconst (v := 1) hx hb d_Mo_see_70 (by decide) ?_
          refine lv_goto (tgt := 75) hx hb d_Mo_see_71 (by decide) ?_
          obtain ⟨h_8, hd⟩ := ite_s hd
          refine iastK hx hb hK hP hD hS 1 0 rfl rfl (inb_t h_8) rfl d_Mo_see_75 (fun H locs hP hD hS => ?_)
          have hP : va_P D classes (ws_Mo g a (u_Mo_s (u_Mo_s z (upd (q_Mo_s z) (72 + ((q_Mo_s z) 3)).toNatClampNeg x1)) (upd (q_Mo_s (u_Mo_s z (upd (q_Mo_s z) (72 + ((q_Mo_s z) 3)).toNatClampNeg x1))) (84 + ((q_Mo_s (u_Mo_s z (upd (q_Mo_s z) (72 + ((q_Mo_s z) 3)).toNatClampNeg x1))) 3)).toNatClampNeg 1))) H := hP
          have hD : va_D A (ws_Mo g a (u_Mo_s (u_Mo_s z (upd (q_Mo_s z) (72 + ((q_Mo_s z) 3)).toNatClampNeg x1)) (upd (q_Mo_s (u_Mo_s z (upd (q_Mo_s z) (72 + ((q_Mo_s z) 3)).toNatClampNeg x1))) (84 + ((q_Mo_s (u_Mo_s z (upd (q_Mo_s z) (72 + ((q_Mo_s z) 3)).toNatClampNeg x1))) 3)).toNatClampNeg 1))) := hD
          refine lv_aload_n hx hb d_Mo_see_76 rfl (lv_at hl 0 rfl) ?_
          refine va_get (D := D) (ci := 1) (v := .ref (a 1)) (C := R_Mo) (T := F_Mo) (N := 26) hx hb hg i_Mo hown hK hP 0 rfl rfl 1 (by decide) (hg _ g_993) (fun _ h9 => h9) rfl d_Mo_see_77 ?_
          refine lv_iconst (v := 3) hx hb d_Mo_see_80 (by decide) ?_
          refine lv_dup2_11 hx hb d_Mo_see_81 rfl rfl ?_
          refine ialdK hx hb hK hP 1 0 rfl rfl (inb_t (by decide +kernel)) (k := 3) (by decide +kernel) d_Mo_see_82 ?_
          refine lv_iconst (v := 1) hx hb d_Mo_see_83 (by decide) ?_
          refine lv_iadd hx hb d_Mo_see_84 ?_
          refine iastK hx hb hK hP hD hS 1 0 rfl rfl (inb_t (by decide +kernel)) (k := 3) (by decide +kernel) d_Mo_see_85 (fun H locs hP hD hS => ?_)
          have hP : va_P D classes (ws_Mo g a (u_Mo_s (u_Mo_s (u_Mo_s z (upd (q_Mo_s z) (72 + ((q_Mo_s z) 3)).toNatClampNeg x1)) (upd (q_Mo_s (u_Mo_s z (upd (q_Mo_s z) (72 + ((q_Mo_s z) 3)).toNatClampNeg x1))) (84 + ((q_Mo_s (u_Mo_s z (upd (q_Mo_s z) (72 + ((q_Mo_s z) 3)).toNatClampNeg x1))) 3)).toNatClampNeg 1)) (upd (q_Mo_s (u_Mo_s (u_Mo_s z (upd (q_Mo_s z) (72 + ((q_Mo_s z) 3)).toNatClampNeg x1)) (upd (q_Mo_s (u_Mo_s z (upd (q_Mo_s z) (72 + ((q_Mo_s z) 3)).toNatClampNeg x1))) (84 + ((q_Mo_s (u_Mo_s z (upd (q_Mo_s z) (72 + ((q_Mo_s z) 3)).toNatClampNeg x1))) 3)).toNatClampNeg 1))) 3 (((q_Mo_s (u_Mo_s (u_Mo_s z (upd (q_Mo_s z) (72 + ((q_Mo_s z) 3)).toNatClampNeg x1)) (upd (q_Mo_s (u_Mo_s z (upd (q_Mo_s z) (72 + ((q_Mo_s z) 3)).toNatClampNeg x1))) (84 + ((q_Mo_s (u_Mo_s z (upd (q_Mo_s z) (72 + ((q_Mo_s z) 3)).toNatClampNeg x1))) 3)).toNatClampNeg 1))) 3) + 1)))) H := hP
          have hD : va_D A (ws_Mo g a (u_Mo_s (u_Mo_s (u_Mo_s z (upd (q_Mo_s z) (72 + ((q_Mo_s z) 3)).toNatClampNeg x1)) (upd (q_Mo_s (u_Mo_s z (upd (q_Mo_s z) (72 + ((q_Mo_s z) 3)).toNatClampNeg x1))) (84 + ((q_Mo_s (u_Mo_s z (upd (q_Mo_s z) (72 + ((q_Mo_s z) 3)).toNatClampNeg x1))) 3)).toNatClampNeg 1)) (upd (q_Mo_s (u_Mo_s (u_Mo_s z (upd (q_Mo_s z) (72 + ((q_Mo_s z) 3)).toNatClampNeg x1)) (upd (q_Mo_s (u_Mo_s z (upd (q_Mo_s z) (72 + ((q_Mo_s z) 3)).toNatClampNeg x1))) (84 + ((q_Mo_s (u_Mo_s z (upd (q_Mo_s z) (72 + ((q_Mo_s z) 3)).toNatClampNeg x1))) 3)).toNatClampNeg 1))) 3 (((q_Mo_s (u_Mo_s (u_Mo_s z (upd (q_Mo_s z) (72 + ((q_Mo_s z) 3)).toNatClampNeg x1)) (upd (q_Mo_s (u_Mo_s z (upd (q_Mo_s z) (72 + ((q_Mo_s z) 3)).toNatClampNeg x1))) (84 + ((q_Mo_s (u_Mo_s z (upd (q_Mo_s z) (72 + ((q_Mo_s z) 3)).toNatClampNeg x1))) 3)).toNatClampNeg 1))) 3) + 1)))) := hD
          refine lv_aload_n hx hb d_Mo_see_86 rfl (lv_at hl 0 rfl) ?_
          refine va_get (D := D) (ci := 1) (v := .ref (a 1)) (C := R_Mo) (T := F_Mo) (N := 26) hx hb hg i_Mo hown hK hP 0 rfl rfl 1 (by decide) (hg _ g_993) (fun _ h9 => h9) rfl d_Mo_see_87 ?_
          refine lv_iconst (v := 3) hx hb d_Mo_see_90 (by decide) ?_
          refine ialdK hx hb hK hP 1 0 rfl rfl (inb_t (by decide +kernel)) (k := 3) (by decide +kernel) d_Mo_see_91 ?_
          obtain rfl := Option.some.inj hd
          exact retI hx hb hr hlk hK hP hD hS d_Mo_see_92 rfl
      · have hd := ite_t hd h_5
        refine lv_bipush (v := (-4)) hx hb d_Mo_see_35 (by decide) ?_
        obtain rfl := Option.some.inj hd
        exact retI hx hb hr hlk hK hP hD hS d_Mo_see_37 rfl
    · have hd := ite_t hd h_4
      refine lv_iconst (v := (-1)) hx hb d_Mo_see_22 (by decide) ?_
      obtain rfl := Option.some.inj hd
      exact retI hx hb hr hlk hK hP hD hS d_Mo_see_23 rfl
  · have hd := ite_t hd h_1
    refine lv_aload_n hx hb d_Mo_see_5 rfl (lv_at hl 0 rfl) ?_
    refine va_get (D := D) (ci := 1) (v := .ref (a 1)) (C := R_Mo) (T := F_Mo) (N := 26) hx hb hg i_Mo hown hK hP 0 rfl rfl 1 (by decide) (hg _ g_993) (fun _ h9 => h9) rfl d_Mo_see_6 ?_
    refine lv_iconst (v := 3) hx hb d_Mo_see_9 (by decide) ?_
    refine lv_iconst (v := 0) hx hb d_Mo_see_10 (by decide) ?_
    refine iastK hx hb hK hP hD hS 1 0 rfl rfl (inb_t (by decide +kernel)) (k := 3) (by decide +kernel) d_Mo_see_11 (fun H locs hP hD hS => ?_)
    have hP : va_P D classes (ws_Mo g a (u_Mo_s z (upd (q_Mo_s z) 3 0))) H := hP
    have hD : va_D A (ws_Mo g a (u_Mo_s z (upd (q_Mo_s z) 3 0))) := hD
    refine lv_iconst (v := 0) hx hb d_Mo_see_12 (by decide) ?_
    obtain rfl := Option.some.inj hd
    exact retI hx hb hr hlk hK hP hD hS d_Mo_see_13 rfl
-- OwnsLiftModel.looked()I
def B_Mo_looked_L13 (self13 : Int32 → Int32 → T_Mo → Option (Int32 × T_Mo)) (x1_13 : Int32) (x2_13 : Int32) (z_13 : T_Mo) : Option (Int32 × T_Mo) :=
  if ((q_Mo_s z_13) 3) ≤ x2_13 then ((d_Mo_goesBack z_13).bind fun v_6 => some (x1_13, v_6)) else (if x1_13 = (-5) then (if inb (72 + x2_13) 901 = true then ((d_Mo_benches ((q_Mo_s z_13) (72 + x2_13).toNatClampNeg) z_13).bind fun v_11 => if v_11.1 = 0 then (if inb (84 + x2_13) 901 = true then (if ((q_Mo_s v_11.2) (84 + x2_13).toNatClampNeg) = 1 then (self13 x1_13 (x2_13 + 1) v_11.2) else (self13 x2_13 (x2_13 + 1) v_11.2)) else none) else (if inb (84 + x2_13) 901 = true then (if ((q_Mo_s v_11.2) (84 + x2_13).toNatClampNeg) = 1 then (self13 x2_13 (x2_13 + 1) v_11.2) else (self13 x1_13 (x2_13 + 1) v_11.2)) else none)) else none) else ((d_Mo_goesBack z_13).bind fun v_9 => some (x1_13, v_9)))
def d_Mo_looked_L13 (n : Nat) : Int32 → Int32 → T_Mo → Option (Int32 × T_Mo) := recN (fun _ _ _ => none) (fun self => B_Mo_looked_L13 self) n
def d_Mo_looked (z : T_Mo) : Option (Int32 × T_Mo) :=
  (d_Mo_looksForAll z).bind fun v_1 => (d_Mo_keeps v_1).bind fun v_3 => d_Mo_looked_L13  1000 (-5) 0 v_3
theorem d_Mo_looked_0 : decode b_Mo_looked 0 = .ok (.aload_n 0, 1) := by decide +kernel
theorem d_Mo_looked_1 : decode b_Mo_looked 1 = .ok (.invokevirtual 178, 3) := by decide +kernel
theorem d_Mo_looked_4 : decode b_Mo_looked 4 = .ok (.aload_n 0, 1) := by decide +kernel
theorem d_Mo_looked_5 : decode b_Mo_looked 5 = .ok (.invokevirtual 229, 3) := by decide +kernel
theorem d_Mo_looked_8 : decode b_Mo_looked 8 = .ok (.bipush (-5), 2) := by decide +kernel
theorem d_Mo_looked_10 : decode b_Mo_looked 10 = .ok (.istore_n 1, 1) := by decide +kernel
theorem d_Mo_looked_11 : decode b_Mo_looked 11 = .ok (.iconst 0, 1) := by decide +kernel
theorem d_Mo_looked_12 : decode b_Mo_looked 12 = .ok (.istore_n 2, 1) := by decide +kernel
theorem d_Mo_looked_13 : decode b_Mo_looked 13 = .ok (.iload_n 2, 1) := by decide +kernel
theorem d_Mo_looked_14 : decode b_Mo_looked 14 = .ok (.aload_n 0, 1) := by decide +kernel
theorem d_Mo_looked_15 : decode b_Mo_looked 15 = .ok (.getfield 9, 3) := by decide +kernel
theorem d_Mo_looked_18 : decode b_Mo_looked 18 = .ok (.iconst 3, 1) := by decide +kernel
theorem d_Mo_looked_19 : decode b_Mo_looked 19 = .ok (.iaload, 1) := by decide +kernel
theorem d_Mo_looked_20 : decode b_Mo_looked 20 = .ok (.if_icmp .ge 65, 3) := by decide +kernel
theorem d_Mo_looked_23 : decode b_Mo_looked 23 = .ok (.iload_n 1, 1) := by decide +kernel
theorem d_Mo_looked_24 : decode b_Mo_looked 24 = .ok (.bipush (-5), 2) := by decide +kernel
theorem d_Mo_looked_26 : decode b_Mo_looked 26 = .ok (.if_icmp .ne 59, 3) := by decide +kernel
theorem d_Mo_looked_29 : decode b_Mo_looked 29 = .ok (.aload_n 0, 1) := by decide +kernel
theorem d_Mo_looked_30 : decode b_Mo_looked 30 = .ok (.aload_n 0, 1) := by decide +kernel
theorem d_Mo_looked_31 : decode b_Mo_looked 31 = .ok (.getfield 9, 3) := by decide +kernel
theorem d_Mo_looked_34 : decode b_Mo_looked 34 = .ok (.bipush 72, 2) := by decide +kernel
theorem d_Mo_looked_36 : decode b_Mo_looked 36 = .ok (.iload_n 2, 1) := by decide +kernel
theorem d_Mo_looked_37 : decode b_Mo_looked 37 = .ok (.iadd, 1) := by decide +kernel
theorem d_Mo_looked_38 : decode b_Mo_looked 38 = .ok (.iaload, 1) := by decide +kernel
theorem d_Mo_looked_39 : decode b_Mo_looked 39 = .ok (.invokevirtual 181, 3) := by decide +kernel
theorem d_Mo_looked_42 : decode b_Mo_looked 42 = .ok (.ifCond .ne 7, 3) := by decide +kernel
theorem d_Mo_looked_45 : decode b_Mo_looked 45 = .ok (.iconst 1, 1) := by decide +kernel
theorem d_Mo_looked_46 : decode b_Mo_looked 46 = .ok (.goto 4, 3) := by decide +kernel
theorem d_Mo_looked_49 : decode b_Mo_looked 49 = .ok (.iconst 0, 1) := by decide +kernel
theorem d_Mo_looked_50 : decode b_Mo_looked 50 = .ok (.istore_n 3, 1) := by decide +kernel
theorem d_Mo_looked_51 : decode b_Mo_looked 51 = .ok (.iload_n 3, 1) := by decide +kernel
theorem d_Mo_looked_52 : decode b_Mo_looked 52 = .ok (.aload_n 0, 1) := by decide +kernel
theorem d_Mo_looked_53 : decode b_Mo_looked 53 = .ok (.getfield 9, 3) := by decide +kernel
theorem d_Mo_looked_56 : decode b_Mo_looked 56 = .ok (.bipush 84, 2) := by decide +kernel
theorem d_Mo_looked_58 : decode b_Mo_looked 58 = .ok (.iload_n 2, 1) := by decide +kernel
theorem d_Mo_looked_59 : decode b_Mo_looked 59 = .ok (.iadd, 1) := by decide +kernel
theorem d_Mo_looked_60 : decode b_Mo_looked 60 = .ok (.iaload, 1) := by decide +kernel
theorem d_Mo_looked_61 : decode b_Mo_looked 61 = .ok (.iconst 1, 1) := by decide +kernel
theorem d_Mo_looked_62 : decode b_Mo_looked 62 = .ok (.if_icmp .ne 7, 3) := by decide +kernel
theorem d_Mo_looked_65 : decode b_Mo_looked 65 = .ok (.iconst 1, 1) := by decide +kernel
theorem d_Mo_looked_66 : decode b_Mo_looked 66 = .ok (.goto 4, 3) := by decide +kernel
theorem d_Mo_looked_69 : decode b_Mo_looked 69 = .ok (.iconst 0, 1) := by decide +kernel
theorem d_Mo_looked_70 : decode b_Mo_looked 70 = .ok (.if_icmp .eq 7, 3) := by decide +kernel
theorem d_Mo_looked_73 : decode b_Mo_looked 73 = .ok (.iload_n 2, 1) := by decide +kernel
theorem d_Mo_looked_74 : decode b_Mo_looked 74 = .ok (.goto 4, 3) := by decide +kernel
theorem d_Mo_looked_77 : decode b_Mo_looked 77 = .ok (.iload_n 1, 1) := by decide +kernel
theorem d_Mo_looked_78 : decode b_Mo_looked 78 = .ok (.istore_n 1, 1) := by decide +kernel
theorem d_Mo_looked_79 : decode b_Mo_looked 79 = .ok (.iinc 2 1, 3) := by decide +kernel
theorem d_Mo_looked_82 : decode b_Mo_looked 82 = .ok (.goto (-69), 3) := by decide +kernel
theorem d_Mo_looked_85 : decode b_Mo_looked 85 = .ok (.aload_n 0, 1) := by decide +kernel
theorem d_Mo_looked_86 : decode b_Mo_looked 86 = .ok (.invokevirtual 232, 3) := by decide +kernel
theorem d_Mo_looked_89 : decode b_Mo_looked 89 = .ok (.iload_n 1, 1) := by decide +kernel
theorem d_Mo_looked_90 : decode b_Mo_looked 90 = .ok (.ireturn, 1) := by decide +kernel
theorem o_Mo_looked : OkV y_Mo_looked "OwnsLiftModel" b_Mo_looked 4 (some .int) 0 := ⟨⟨rfl, by decide +kernel, by decide +kernel, by decide +kernel⟩, g_1340, g_1341, g_81, g_1342⟩
set_option maxHeartbeats 4000000 in
set_option maxRecDepth 100000 in
theorem c_Mo_looked (l : Launch) (D : va_G) (g : Nat → ClassId) (a : Nat → Nat) (z : T_Mo) (v : Int32 × T_Mo) (h : d_Mo_looked z = some v) :
    MI l y_Mo_looked b_Mo_looked 4 .int ({ frames := 4, cells := 0, slots := 0, locals := 97 } : Room) D g [.ref (a 0)] (ws_Mo g a z) (v.1) (ws_Mo g a v.2) := by
  have hd := h
  unfold d_Mo_looked at hd
  refine enterI rfl (Nat.le_of_ble_eq_true rfl) (fun p e s m below meth c A ls hx hb hml hr hown hg hlk hK hA hP hD hS hCs hl => ?_)
  have hown : s.vm.findClass "OwnsLiftModel" = some m.cls := hown
  have hl : lv_has ls 4 [(0, .ref (a 0))] := hl
  show GI p l e s m ({ frames := 4, cells := 0, slots := 0, locals := 97 } : Room) ([.ref (a 0)] : List Value).toArray below meth c A D g (ws_Mo g a v.2) (v.1) s.heap [] (F0 m 0 ls [])
  refine lv_aload_n hx hb d_Mo_looked_0 rfl (lv_at hl 0 rfl) ?_
  obtain ⟨v_1, e_2, hd⟩ := bind_s hd
  refine callVV (ws' := ws_Mo g a v_1) (rest := []) (As := []) hx hb hml hown hg hK hP hD hS hA hCs hl.1 (c_Mo_looksForAll l D g a z _ e_2) o_Mo_looksForAll g_1218 (ci := 1) (q0 := 0) rfl rfl (List.range' 0 12) (segC1 rfl rfl) (by decide) rfl (segP1 rfl rfl) rfl rfl (Nat.le_of_ble_eq_true rfl) ⟨rfl, rfl, Nat.le_of_ble_eq_true rfl, Nat.le_of_ble_eq_true rfl⟩ d_Mo_looked_1 (fun H locs hP hD hS => ?_)
  refine lv_aload_n hx hb d_Mo_looked_4 rfl (lv_at hl 0 rfl) ?_
  obtain ⟨v_3, e_4, hd⟩ := bind_s hd
  refine callVV (ws' := ws_Mo g a v_3) (rest := []) (As := []) hx hb hml hown hg hK hP hD hS hA hCs hl.1 (c_Mo_keeps l D g a v_1 _ e_4) o_Mo_keeps g_1314 (ci := 1) (q0 := 0) rfl rfl (List.range' 0 12) (segC1 rfl rfl) (by decide) rfl (segP1 rfl rfl) rfl rfl (Nat.le_of_ble_eq_true rfl) ⟨rfl, rfl, Nat.le_of_ble_eq_true rfl, Nat.le_of_ble_eq_true rfl⟩ d_Mo_looked_5 (fun H locs hP hD hS => ?_)
  refine lv_bipush (v := (-5)) hx hb d_Mo_looked_8 (by decide) ?_
  refine lv_istore_n (lv' := [(1, .int (-5)), (0, .ref (a 0))]) hx hb d_Mo_looked_10 rfl hl (by decide) rfl (fun ls hl => ?_)
  refine lv_iconst (v := 0) hx hb d_Mo_looked_11 (by decide) ?_
  refine lv_istore_n (lv' := [(2, .int 0), (1, .int (-5)), (0, .ref (a 0))]) hx hb d_Mo_looked_12 rfl hl (by decide) rfl (fun ls hl => ?_)
  have lp13 : ∀ (n : Nat) (x1_13 : Int32) (x2_13 : Int32) (z_13 : T_Mo) (H : Heap) (locs : List Loc) (ls : Array Slot), va_P D classes (ws_Mo g a z_13) H → va_D A (ws_Mo g a z_13) → va_S A s.heap H locs → lv_has ls 4 [(0, .ref (a 0)), (1, .int x1_13), (2, .int x2_13)] → d_Mo_looked_L13 n x1_13 x2_13 z_13 = some v → GI p l e s m ({ frames := 4, cells := 0, slots := 0, locals := 97 } : Room) ([.ref (a 0)] : List Value).toArray below meth c A D g (ws_Mo g a v.2) (v.1) H locs (F0 m 13 ls []) := by
    intro n
    induction n with
    | zero =>
      intro  x1_13 x2_13 z_13 H locs ls hP hD hS hl hd
      have hd : none = some v := hd
      cases hd
    | succ n ih13 =>
      intro  x1_13 x2_13 z_13 H locs ls hP hD hS hl hd
      have hd : B_Mo_looked_L13 (d_Mo_looked_L13 n) x1_13 x2_13 z_13 = some v := hd
      generalize d_Mo_looked_L13 n = self13 at ih13 hd
      unfold B_Mo_looked_L13 at hd
      refine lv_iload_n hx hb d_Mo_looked_13 rfl (lv_at hl 2 rfl) ?_
      refine lv_aload_n hx hb d_Mo_looked_14 rfl (lv_at hl 0 rfl) ?_
      refine va_get (D := D) (ci := 1) (v := .ref (a 1)) (C := R_Mo) (T := F_Mo) (N := 26) hx hb hg i_Mo hown hK hP 0 rfl rfl 1 (by decide) (hg _ g_993) (fun _ h9 => h9) rfl d_Mo_looked_15 ?_
      refine lv_iconst (v := 3) hx hb d_Mo_looked_18 (by decide) ?_
      refine ialdK hx hb hK hP 1 0 rfl rfl (inb_t (by decide +kernel)) (k := 3) (by decide +kernel) d_Mo_looked_19 ?_
      refine lv_icmp_ge (tgt := 85) hx hb d_Mo_looked_20 (by decide) (fun h_5 => ?_) (fun h_5 => ?_)
      · have hd := ite_t hd h_5
        refine lv_aload_n hx hb d_Mo_looked_85 rfl (lv_at hl 0 rfl) ?_
        obtain ⟨v_6, e_7, hd⟩ := bind_s hd
        refine callVV (ws' := ws_Mo g a v_6) (rest := []) (As := []) hx hb hml hown hg hK hP hD hS hA hCs hl.1 (c_Mo_goesBack l D g a z_13 _ e_7) o_Mo_goesBack g_1318 (ci := 1) (q0 := 0) rfl rfl (List.range' 0 12) (segC1 rfl rfl) (by decide) rfl (segP1 rfl rfl) rfl rfl (Nat.le_of_ble_eq_true rfl) ⟨rfl, rfl, Nat.le_of_ble_eq_true rfl, Nat.le_of_ble_eq_true rfl⟩ d_Mo_looked_86 (fun H locs hP hD hS => ?_)
        refine lv_iload_n hx hb d_Mo_looked_89 rfl (lv_at hl 1 rfl) ?_
        obtain rfl := Option.some.inj hd
        exact retI hx hb hr hlk hK hP hD hS d_Mo_looked_90 rfl
      · have hd := ite_f hd h_5
        refine lv_iload_n hx hb d_Mo_looked_23 rfl (lv_at hl 1 rfl) ?_
        refine lv_bipush (v := (-5)) hx hb d_Mo_looked_24 (by decide) ?_
        refine lv_icmp_ne (tgt := 85) hx hb d_Mo_looked_26 (by decide) (fun h_8 => ?_) (fun h_8 => ?_)
        · have hd := ite_f hd h_8
          refine lv_aload_n hx hb d_Mo_looked_85 rfl (lv_at hl 0 rfl) ?_
          obtain ⟨v_9, e_10, hd⟩ := bind_s hd
          refine callVV (ws' := ws_Mo g a v_9) (rest := []) (As := []) hx hb hml hown hg hK hP hD hS hA hCs hl.1 (c_Mo_goesBack l D g a z_13 _ e_10) o_Mo_goesBack g_1318 (ci := 1) (q0 := 0) rfl rfl (List.range' 0 12) (segC1 rfl rfl) (by decide) rfl (segP1 rfl rfl) rfl rfl (Nat.le_of_ble_eq_true rfl) ⟨rfl, rfl, Nat.le_of_ble_eq_true rfl, Nat.le_of_ble_eq_true rfl⟩ d_Mo_looked_86 (fun H locs hP hD hS => ?_)
          refine lv_iload_n hx hb d_Mo_looked_89 rfl (lv_at hl 1 rfl) ?_
          obtain rfl := Option.some.inj hd
          exact retI hx hb hr hlk hK hP hD hS d_Mo_looked_90 rfl
        · have hd := ite_t hd h_8
          refine lv_aload_n hx hb d_Mo_looked_29 rfl (lv_at hl 0 rfl) ?_
          refine lv_aload_n hx hb d_Mo_looked_30 rfl (lv_at hl 0 rfl) ?_
          refine va_get (D := D) (ci := 1) (v := .ref (a 1)) (C := R_Mo) (T := F_Mo) (N := 26) hx hb hg i_Mo hown hK hP 0 rfl rfl 1 (by decide) (hg _ g_993) (fun _ h9 => h9) rfl d_Mo_looked_31 ?_
          refine lv_bipush (v := 72) hx hb d_Mo_looked_34 (by decide) ?_
          refine lv_iload_n hx hb d_Mo_looked_36 rfl (lv_at hl 2 rfl) ?_
          refine lv_iadd hx hb d_Mo_looked_37 ?_
          obtain ⟨h_18, hd⟩ := ite_s hd
          refine ialdK hx hb hK hP 1 0 rfl rfl (inb_t h_18) rfl d_Mo_looked_38 ?_
          obtain ⟨v_11, e_12, hd⟩ := bind_s hd
          refine callVI (ws' := ws_Mo g a v_11.2) (rest := []) (As := [.int ((q_Mo_s z_13) (72 + x2_13).toNatClampNeg)]) hx hb hml hown hg hK hP hD hS hA hCs hl.1 (c_Mo_benches l D g a ((q_Mo_s z_13) (72 + x2_13).toNatClampNeg) z_13 _ e_12) o_Mo_benches g_1222 (ci := 1) (q0 := 0) rfl rfl (List.range' 0 12) (segC1 rfl rfl) (by decide) rfl (segP1 rfl rfl) rfl rfl (Nat.le_of_ble_eq_true rfl) ⟨rfl, rfl, Nat.le_of_ble_eq_true rfl, Nat.le_of_ble_eq_true rfl⟩ d_Mo_looked_39 (fun H locs hP hD hS => ?_)
          refine lv_if_ne (tgt := 49) hx hb d_Mo_looked_42 (by decide) (fun h_13 => ?_) (fun h_13 => ?_)
          · have hd := ite_f hd h_13
            refine lv_iconst (v := 0) hx hb d_Mo_looked_49 (by decide) ?_
            refine lv_istore_n (lv' := [(3, .int 0), (0, .ref (a 0)), (1, .int x1_13), (2, .int x2_13)]) hx hb d_Mo_looked_50 rfl hl (by decide) rfl (fun ls hl => ?_)
            refine lv_iload_n hx hb d_Mo_looked_51 rfl (lv_at hl 0 rfl) ?_
            refine lv_aload_n hx hb d_Mo_looked_52 rfl (lv_at hl 1 rfl) ?_
            refine va_get (D := D) (ci := 1) (v := .ref (a 1)) (C := R_Mo) (T := F_Mo) (N := 26) hx hb hg i_Mo hown hK hP 0 rfl rfl 1 (by decide) (hg _ g_993) (fun _ h9 => h9) rfl d_Mo_looked_53 ?_
            refine lv_bipush (v := 84) hx hb d_Mo_looked_56 (by decide) ?_
            refine lv_iload_n hx hb d_Mo_looked_58 rfl (lv_at hl 3 rfl) ?_
            refine lv_iadd hx hb d_Mo_looked_59 ?_
            obtain ⟨h_15, hd⟩ := ite_s hd
            refine ialdK hx hb hK hP 1 0 rfl rfl (inb_t h_15) rfl d_Mo_looked_60 ?_
            refine lv_iconst (v := 1) hx hb d_Mo_looked_61 (by decide) ?_
            refine lv_icmp_ne (tgt := 69) hx hb d_Mo_looked_62 (by decide) (fun h_14 => ?_) (fun h_14 => ?_)
            · have hd := ite_f hd h_14
              refine lv_iconst (v := 0) hx hb d_Mo_looked_69 (by decide) ?_
              refine lv_icmp_eq (tgt := 77) hx hb d_Mo_looked_70 (by decide) (fun _ => ?_) (fun h9 => absurd (by decide) h9)
              refine lv_iload_n hx hb d_Mo_looked_77 rfl (lv_at hl 2 rfl) ?_
              refine lv_istore_n (lv' := [(1, .int x1_13), (3, .int 0), (0, .ref (a 0)), (2, .int x2_13)]) hx hb d_Mo_looked_78 rfl hl (by decide) rfl (fun ls hl => ?_)
              refine lv_iinc (v := x2_13 + 1) (lv' := [(2, .int (x2_13 + 1)), (1, .int x1_13), (3, .int 0), (0, .ref (a 0))]) hx hb d_Mo_looked_79 hl (k := 3) rfl (by rfl) (by decide) rfl (fun ls hl => ?_)
              refine lv_goto (tgt := 13) hx hb d_Mo_looked_82 (by decide) ?_
              exact ih13 x1_13 (x2_13 + 1) v_11.2 _ _ _ hP hD hS (lv_sub hl [3, 1, 0] rfl) hd
            · have hd := ite_t hd h_14
              refine lv_iconst (v := 1) hx hb d_Mo_looked_65 (by decide) ?_
              refine lv_goto (tgt := 70) hx hb d_Mo_looked_66 (by decide) ?_
              refine lv_icmp_eq (tgt := 77) hx hb d_Mo_looked_70 (by decide) (fun h9 => absurd h9 (by decide)) (fun _ => ?_)
              refine lv_iload_n hx hb d_Mo_looked_73 rfl (lv_at hl 3 rfl) ?_
              refine lv_goto (tgt := 78) hx hb d_Mo_looked_74 (by decide) ?_
              refine lv_istore_n (lv' := [(1, .int x2_13), (3, .int 0), (0, .ref (a 0)), (2, .int x2_13)]) hx hb d_Mo_looked_78 rfl hl (by decide) rfl (fun ls hl => ?_)
              refine lv_iinc (v := x2_13 + 1) (lv' := [(2, .int (x2_13 + 1)), (1, .int x2_13), (3, .int 0), (0, .ref (a 0))]) hx hb d_Mo_looked_79 hl (k := 3) rfl (by rfl) (by decide) rfl (fun ls hl => ?_)
              refine lv_goto (tgt := 13) hx hb d_Mo_looked_82 (by decide) ?_
              exact ih13 x2_13 (x2_13 + 1) v_11.2 _ _ _ hP hD hS (lv_sub hl [3, 1, 0] rfl) hd
          · have hd := ite_t hd h_13
            refine lv_iconst (v := 1) hx hb d_Mo_looked_45 (by decide) ?_
            refine lv_goto (tgt := 50) hx hb d_Mo_looked_46 (by decide) ?_
            refine lv_istore_n (lv' := [(3, .int 1), (0, .ref (a 0)), (1, .int x1_13), (2, .int x2_13)]) hx hb d_Mo_looked_50 rfl hl (by decide) rfl (fun ls hl => ?_)
            refine lv_iload_n hx hb d_Mo_looked_51 rfl (lv_at hl 0 rfl) ?_
            refine lv_aload_n hx hb d_Mo_looked_52 rfl (lv_at hl 1 rfl) ?_
            refine va_get (D := D) (ci := 1) (v := .ref (a 1)) (C := R_Mo) (T := F_Mo) (N := 26) hx hb hg i_Mo hown hK hP 0 rfl rfl 1 (by decide) (hg _ g_993) (fun _ h9 => h9) rfl d_Mo_looked_53 ?_
            refine lv_bipush (v := 84) hx hb d_Mo_looked_56 (by decide) ?_
            refine lv_iload_n hx hb d_Mo_looked_58 rfl (lv_at hl 3 rfl) ?_
            refine lv_iadd hx hb d_Mo_looked_59 ?_
            obtain ⟨h_17, hd⟩ := ite_s hd
            refine ialdK hx hb hK hP 1 0 rfl rfl (inb_t h_17) rfl d_Mo_looked_60 ?_
            refine lv_iconst (v := 1) hx hb d_Mo_looked_61 (by decide) ?_
            refine lv_icmp_ne (tgt := 69) hx hb d_Mo_looked_62 (by decide) (fun h_16 => ?_) (fun h_16 => ?_)
            · have hd := ite_f hd h_16
              refine lv_iconst (v := 0) hx hb d_Mo_looked_69 (by decide) ?_
              refine lv_icmp_eq (tgt := 77) hx hb d_Mo_looked_70 (by decide) (fun h9 => absurd h9 (by decide)) (fun _ => ?_)
              refine lv_iload_n hx hb d_Mo_looked_73 rfl (lv_at hl 3 rfl) ?_
              refine lv_goto (tgt := 78) hx hb d_Mo_looked_74 (by decide) ?_
              refine lv_istore_n (lv' := [(1, .int x2_13), (3, .int 1), (0, .ref (a 0)), (2, .int x2_13)]) hx hb d_Mo_looked_78 rfl hl (by decide) rfl (fun ls hl => ?_)
              refine lv_iinc (v := x2_13 + 1) (lv' := [(2, .int (x2_13 + 1)), (1, .int x2_13), (3, .int 1), (0, .ref (a 0))]) hx hb d_Mo_looked_79 hl (k := 3) rfl (by rfl) (by decide) rfl (fun ls hl => ?_)
              refine lv_goto (tgt := 13) hx hb d_Mo_looked_82 (by decide) ?_
              exact ih13 x2_13 (x2_13 + 1) v_11.2 _ _ _ hP hD hS (lv_sub hl [3, 1, 0] rfl) hd
            · have hd := ite_t hd h_16
              refine lv_iconst (v := 1) hx hb d_Mo_looked_65 (by decide) ?_
              refine lv_goto (tgt := 70) hx hb d_Mo_looked_66 (by decide) ?_
              refine lv_icmp_eq (tgt := 77) hx hb d_Mo_looked_70 (by decide) (fun _ => ?_) (fun h9 => absurd (by decide) h9)
              refine lv_iload_n hx hb d_Mo_looked_77 rfl (lv_at hl 2 rfl) ?_
              refine lv_istore_n (lv' := [(1, .int x1_13), (3, .int 1), (0, .ref (a 0)), (2, .int x2_13)]) hx hb d_Mo_looked_78 rfl hl (by decide) rfl (fun ls hl => ?_)
              refine lv_iinc (v := x2_13 + 1) (lv' := [(2, .int (x2_13 + 1)), (1, .int x1_13), (3, .int 1), (0, .ref (a 0))]) hx hb d_Mo_looked_79 hl (k := 3) rfl (by rfl) (by decide) rfl (fun ls hl => ?_)
              refine lv_goto (tgt := 13) hx hb d_Mo_looked_82 (by decide) ?_
              exact ih13 x1_13 (x2_13 + 1) v_11.2 _ _ _ hP hD hS (lv_sub hl [3, 1, 0] rfl) hd
  exact lp13 1000 (-5) 0 v_3 _ _ _ hP hD hS (lv_sub hl [2, 1, 0] rfl) hd
-- OwnsLiftModel.ranBody(I)V
def d_Mo_ranBody (x1 : Int32) (z : T_Mo) : Option (T_Mo) :=
  if 20 ≤ (q_Mo_ran z) then (some ((u_Mo_ran z ((q_Mo_ran z) + 1)))) else (if inb (q_Mo_ran z) 20 = true then (some ((u_Mo_ran (u_Mo_bodies z (upd (q_Mo_bodies z) (q_Mo_ran z).toNatClampNeg x1)) ((q_Mo_ran (u_Mo_bodies z (upd (q_Mo_bodies z) (q_Mo_ran z).toNatClampNeg x1))) + 1)))) else none)
theorem d_Mo_ranBody_0 : decode b_Mo_ranBody 0 = .ok (.aload_n 0, 1) := by decide +kernel
theorem d_Mo_ranBody_1 : decode b_Mo_ranBody 1 = .ok (.getfield 237, 3) := by decide +kernel
theorem d_Mo_ranBody_4 : decode b_Mo_ranBody 4 = .ok (.bipush 20, 2) := by decide +kernel
theorem d_Mo_ranBody_6 : decode b_Mo_ranBody 6 = .ok (.if_icmp .ge 13, 3) := by decide +kernel
theorem d_Mo_ranBody_9 : decode b_Mo_ranBody 9 = .ok (.aload_n 0, 1) := by decide +kernel
theorem d_Mo_ranBody_10 : decode b_Mo_ranBody 10 = .ok (.getfield 43, 3) := by decide +kernel
theorem d_Mo_ranBody_13 : decode b_Mo_ranBody 13 = .ok (.aload_n 0, 1) := by decide +kernel
theorem d_Mo_ranBody_14 : decode b_Mo_ranBody 14 = .ok (.getfield 237, 3) := by decide +kernel
theorem d_Mo_ranBody_17 : decode b_Mo_ranBody 17 = .ok (.iload_n 1, 1) := by decide +kernel
theorem d_Mo_ranBody_18 : decode b_Mo_ranBody 18 = .ok (.iastore, 1) := by decide +kernel
theorem d_Mo_ranBody_19 : decode b_Mo_ranBody 19 = .ok (.aload_n 0, 1) := by decide +kernel
theorem d_Mo_ranBody_20 : decode b_Mo_ranBody 20 = .ok (.dup, 1) := by decide +kernel
theorem d_Mo_ranBody_21 : decode b_Mo_ranBody 21 = .ok (.getfield 237, 3) := by decide +kernel
theorem d_Mo_ranBody_24 : decode b_Mo_ranBody 24 = .ok (.iconst 1, 1) := by decide +kernel
theorem d_Mo_ranBody_25 : decode b_Mo_ranBody 25 = .ok (.iadd, 1) := by decide +kernel
theorem d_Mo_ranBody_26 : decode b_Mo_ranBody 26 = .ok (.putfield 237, 3) := by decide +kernel
theorem d_Mo_ranBody_29 : decode b_Mo_ranBody 29 = .ok (.return_, 1) := by decide +kernel
theorem o_Mo_ranBody : OkV y_Mo_ranBody "OwnsLiftModel" b_Mo_ranBody 2 none 1 := ⟨⟨rfl, by decide +kernel, by decide +kernel, by decide +kernel⟩, g_1356, g_64, g_81, g_1357⟩
set_option maxHeartbeats 4000000 in
set_option maxRecDepth 100000 in
theorem c_Mo_ranBody (l : Launch) (D : va_G) (g : Nat → ClassId) (a : Nat → Nat) (x1 : Int32) (z : T_Mo) (v : T_Mo) (h : d_Mo_ranBody x1 z = some v) :
    MV l y_Mo_ranBody b_Mo_ranBody 2 ({ frames := 0, cells := 0, slots := 0, locals := 0 } : Room) D g [.ref (a 0), .int x1] (ws_Mo g a z) (ws_Mo g a v) := by
  have hd := h
  unfold d_Mo_ranBody at hd
  refine enterV rfl (Nat.le_of_ble_eq_true rfl) (fun p e s m below meth c A ls hx hb hml hr hown hg hlk hK hA hP hD hS hCs hl => ?_)
  have hown : s.vm.findClass "OwnsLiftModel" = some m.cls := hown
  have hl : lv_has ls 2 [(0, .ref (a 0)), (1, .int x1)] := hl
  show GV p l e s m ({ frames := 0, cells := 0, slots := 0, locals := 0 } : Room) ([.ref (a 0), .int x1] : List Value).toArray below meth c A D g (ws_Mo g a v) s.heap [] (F0 m 0 ls [])
  refine lv_aload_n hx hb d_Mo_ranBody_0 rfl (lv_at hl 0 rfl) ?_
  refine va_get (D := D) (ci := 1) (v := .int (q_Mo_ran z)) (C := R_Mo) (T := F_Mo) (N := 26) hx hb hg i_Mo hown hK hP 0 rfl rfl 22 (by decide) (hg _ g_1014) (fun _ h9 => h9) rfl d_Mo_ranBody_1 ?_
  refine lv_bipush (v := 20) hx hb d_Mo_ranBody_4 (by decide) ?_
  refine lv_icmp_ge (tgt := 19) hx hb d_Mo_ranBody_6 (by decide) (fun h_1 => ?_) (fun h_1 => ?_)
  · have hd := ite_t hd h_1
    refine lv_aload_n hx hb d_Mo_ranBody_19 rfl (lv_at hl 0 rfl) ?_
    refine lv_dup hx hb d_Mo_ranBody_20 rfl ?_
    refine va_get (D := D) (ci := 1) (v := .int (q_Mo_ran z)) (C := R_Mo) (T := F_Mo) (N := 26) hx hb hg i_Mo hown hK hP 0 rfl rfl 22 (by decide) (hg _ g_1014) (fun _ h9 => h9) rfl d_Mo_ranBody_21 ?_
    refine lv_iconst (v := 1) hx hb d_Mo_ranBody_24 (by decide) ?_
    refine lv_iadd hx hb d_Mo_ranBody_25 ?_
    refine va_put (D := D) (ci := 1) (v := .int ((q_Mo_ran z) + 1)) (ty := .int) (C := R_Mo) (T := F_Mo) (N := 26) hx hb hg i_Mo t_Mo t_Mo_ok n_Mo hown hK hP hD hS 0 rfl rfl 22 (by decide) (hg _ g_1014) (fun _ h9 => h9) rfl (by decide +kernel) rfl rfl (Nat.le_of_ble_eq_true rfl) d_Mo_ranBody_26 (fun H locs hP hD hS => ?_)
    have hP : va_P D classes (ws_Mo g a (u_Mo_ran z ((q_Mo_ran z) + 1))) H := hP
    have hD : va_D A (ws_Mo g a (u_Mo_ran z ((q_Mo_ran z) + 1))) := hD
    obtain rfl := Option.some.inj hd
    exact retV hx hb hr hlk hK hP hD hS d_Mo_ranBody_29
  · have hd := ite_f hd h_1
    refine lv_aload_n hx hb d_Mo_ranBody_9 rfl (lv_at hl 0 rfl) ?_
    refine va_get (D := D) (ci := 1) (v := .ref (a 11)) (C := R_Mo) (T := F_Mo) (N := 26) hx hb hg i_Mo hown hK hP 0 rfl rfl 21 (by decide) (hg _ g_1013) (fun _ h9 => h9) rfl d_Mo_ranBody_10 ?_
    refine lv_aload_n hx hb d_Mo_ranBody_13 rfl (lv_at hl 0 rfl) ?_
    refine va_get (D := D) (ci := 1) (v := .int (q_Mo_ran z)) (C := R_Mo) (T := F_Mo) (N := 26) hx hb hg i_Mo hown hK hP 0 rfl rfl 22 (by decide) (hg _ g_1014) (fun _ h9 => h9) rfl d_Mo_ranBody_14 ?_
    refine lv_iload_n hx hb d_Mo_ranBody_17 rfl (lv_at hl 1 rfl) ?_
    obtain ⟨h_2, hd⟩ := ite_s hd
    refine iastK hx hb hK hP hD hS 11 0 rfl rfl (inb_t h_2) rfl d_Mo_ranBody_18 (fun H locs hP hD hS => ?_)
    have hP : va_P D classes (ws_Mo g a (u_Mo_bodies z (upd (q_Mo_bodies z) (q_Mo_ran z).toNatClampNeg x1))) H := hP
    have hD : va_D A (ws_Mo g a (u_Mo_bodies z (upd (q_Mo_bodies z) (q_Mo_ran z).toNatClampNeg x1))) := hD
    refine lv_aload_n hx hb d_Mo_ranBody_19 rfl (lv_at hl 0 rfl) ?_
    refine lv_dup hx hb d_Mo_ranBody_20 rfl ?_
    refine va_get (D := D) (ci := 1) (v := .int (q_Mo_ran (u_Mo_bodies z (upd (q_Mo_bodies z) (q_Mo_ran z).toNatClampNeg x1)))) (C := R_Mo) (T := F_Mo) (N := 26) hx hb hg i_Mo hown hK hP 0 rfl rfl 22 (by decide) (hg _ g_1014) (fun _ h9 => h9) rfl d_Mo_ranBody_21 ?_
    refine lv_iconst (v := 1) hx hb d_Mo_ranBody_24 (by decide) ?_
    refine lv_iadd hx hb d_Mo_ranBody_25 ?_
    refine va_put (D := D) (ci := 1) (v := .int ((q_Mo_ran (u_Mo_bodies z (upd (q_Mo_bodies z) (q_Mo_ran z).toNatClampNeg x1))) + 1)) (ty := .int) (C := R_Mo) (T := F_Mo) (N := 26) hx hb hg i_Mo t_Mo t_Mo_ok n_Mo hown hK hP hD hS 0 rfl rfl 22 (by decide) (hg _ g_1014) (fun _ h9 => h9) rfl (by decide +kernel) rfl rfl (Nat.le_of_ble_eq_true rfl) d_Mo_ranBody_26 (fun H locs hP hD hS => ?_)
    have hP : va_P D classes (ws_Mo g a (u_Mo_ran (u_Mo_bodies z (upd (q_Mo_bodies z) (q_Mo_ran z).toNatClampNeg x1)) ((q_Mo_ran (u_Mo_bodies z (upd (q_Mo_bodies z) (q_Mo_ran z).toNatClampNeg x1))) + 1))) H := hP
    have hD : va_D A (ws_Mo g a (u_Mo_ran (u_Mo_bodies z (upd (q_Mo_bodies z) (q_Mo_ran z).toNatClampNeg x1)) ((q_Mo_ran (u_Mo_bodies z (upd (q_Mo_bodies z) (q_Mo_ran z).toNatClampNeg x1))) + 1))) := hD
    obtain rfl := Option.some.inj hd
    exact retV hx hb hr hlk hK hP hD hS d_Mo_ranBody_29
-- OwnsLiftModel.isUnder(II)Z
def d_Mo_isUnder (x0 : Int32) (x1 : Int32) : Option (Int32) :=
  if x1 = 0 then (some (1)) else (if x1 = x0 then (some (1)) else (if x1 ≤ 0 then (some (0)) else (if 4 ≤ x1 then (some (0)) else (if x0 = (x1 + 3) then (some (1)) else (some (0))))))
theorem nz_Mo_isUnder {x0 : Int32} {x1 : Int32} {v : Int32} (h : d_Mo_isUnder x0 x1 = some v) : narrow .boolean (.int v) = .int v := by
  unfold d_Mo_isUnder at h
  (repeat' split at h) <;> first | (cases h; done) | (obtain rfl := Option.some.inj h; rfl)
theorem d_Mo_isUnder_0 : decode b_Mo_isUnder 0 = .ok (.iload_n 1, 1) := by decide +kernel
theorem d_Mo_isUnder_1 : decode b_Mo_isUnder 1 = .ok (.ifCond .eq 24, 3) := by decide +kernel
theorem d_Mo_isUnder_4 : decode b_Mo_isUnder 4 = .ok (.iload_n 1, 1) := by decide +kernel
theorem d_Mo_isUnder_5 : decode b_Mo_isUnder 5 = .ok (.iload_n 0, 1) := by decide +kernel
theorem d_Mo_isUnder_6 : decode b_Mo_isUnder 6 = .ok (.if_icmp .eq 19, 3) := by decide +kernel
theorem d_Mo_isUnder_9 : decode b_Mo_isUnder 9 = .ok (.iload_n 1, 1) := by decide +kernel
theorem d_Mo_isUnder_10 : decode b_Mo_isUnder 10 = .ok (.ifCond .le 19, 3) := by decide +kernel
theorem d_Mo_isUnder_13 : decode b_Mo_isUnder 13 = .ok (.iload_n 1, 1) := by decide +kernel
theorem d_Mo_isUnder_14 : decode b_Mo_isUnder 14 = .ok (.iconst 4, 1) := by decide +kernel
theorem d_Mo_isUnder_15 : decode b_Mo_isUnder 15 = .ok (.if_icmp .ge 14, 3) := by decide +kernel
theorem d_Mo_isUnder_18 : decode b_Mo_isUnder 18 = .ok (.iload_n 0, 1) := by decide +kernel
theorem d_Mo_isUnder_19 : decode b_Mo_isUnder 19 = .ok (.iload_n 1, 1) := by decide +kernel
theorem d_Mo_isUnder_20 : decode b_Mo_isUnder 20 = .ok (.iconst 3, 1) := by decide +kernel
theorem d_Mo_isUnder_21 : decode b_Mo_isUnder 21 = .ok (.iadd, 1) := by decide +kernel
theorem d_Mo_isUnder_22 : decode b_Mo_isUnder 22 = .ok (.if_icmp .ne 7, 3) := by decide +kernel
theorem d_Mo_isUnder_25 : decode b_Mo_isUnder 25 = .ok (.iconst 1, 1) := by decide +kernel
theorem d_Mo_isUnder_26 : decode b_Mo_isUnder 26 = .ok (.goto 4, 3) := by decide +kernel
theorem d_Mo_isUnder_29 : decode b_Mo_isUnder 29 = .ok (.iconst 0, 1) := by decide +kernel
theorem d_Mo_isUnder_30 : decode b_Mo_isUnder 30 = .ok (.ireturn, 1) := by decide +kernel
theorem o_Mo_isUnder : OkS y_Mo_isUnder b_Mo_isUnder 2 (some .boolean) 2 := ⟨⟨by decide +kernel, by decide +kernel, by decide +kernel⟩, g_1352, g_81, g_1353⟩
set_option maxHeartbeats 4000000 in
set_option maxRecDepth 100000 in
theorem c_Mo_isUnder (l : Launch) (D : va_G) (g : Nat → ClassId) (x0 : Int32) (x1 : Int32) (v : Int32) (h : d_Mo_isUnder x0 x1 = some v) :
    MI l y_Mo_isUnder b_Mo_isUnder 2 .boolean ({ frames := 0, cells := 0, slots := 0, locals := 0 } : Room) D g [.int x0, .int x1] (([] : va_W)) (v) (([] : va_W)) := by
  have hd := h
  unfold d_Mo_isUnder at hd
  refine enterI rfl (Nat.le_of_ble_eq_true rfl) (fun p e s m below meth c A ls hx hb hml hr hown hg hlk hK hA hP hD hS hCs hl => ?_)
  have hown : s.vm.findClass "OwnsLiftModel" = some m.cls := hown
  have hl : lv_has ls 2 [(0, .int x0), (1, .int x1)] := hl
  show GI p l e s m ({ frames := 0, cells := 0, slots := 0, locals := 0 } : Room) ([.int x0, .int x1] : List Value).toArray below meth c A D g (([] : va_W)) (v) s.heap [] (F0 m 0 ls [])
  refine lv_iload_n hx hb d_Mo_isUnder_0 rfl (lv_at hl 1 rfl) ?_
  refine lv_if_eq (tgt := 25) hx hb d_Mo_isUnder_1 (by decide) (fun h_1 => ?_) (fun h_1 => ?_)
  · have hd := ite_t hd h_1
    refine lv_iconst (v := 1) hx hb d_Mo_isUnder_25 (by decide) ?_
    refine lv_goto (tgt := 30) hx hb d_Mo_isUnder_26 (by decide) ?_
    obtain rfl := Option.some.inj hd
    exact retZ hx hb hr hlk hK hP hD hS d_Mo_isUnder_30 rfl (by decide +kernel)
  · have hd := ite_f hd h_1
    refine lv_iload_n hx hb d_Mo_isUnder_4 rfl (lv_at hl 1 rfl) ?_
    refine lv_iload_n hx hb d_Mo_isUnder_5 rfl (lv_at hl 0 rfl) ?_
    refine lv_icmp_eq (tgt := 25) hx hb d_Mo_isUnder_6 (by decide) (fun h_2 => ?_) (fun h_2 => ?_)
    · have hd := ite_t hd h_2
      refine lv_iconst (v := 1) hx hb d_Mo_isUnder_25 (by decide) ?_
      refine lv_goto (tgt := 30) hx hb d_Mo_isUnder_26 (by decide) ?_
      obtain rfl := Option.some.inj hd
      exact retZ hx hb hr hlk hK hP hD hS d_Mo_isUnder_30 rfl (by decide +kernel)
    · have hd := ite_f hd h_2
      refine lv_iload_n hx hb d_Mo_isUnder_9 rfl (lv_at hl 1 rfl) ?_
      refine lv_if_le (tgt := 29) hx hb d_Mo_isUnder_10 (by decide) (fun h_3 => ?_) (fun h_3 => ?_)
      · have hd := ite_t hd h_3
        refine lv_iconst (v := 0) hx hb d_Mo_isUnder_29 (by decide) ?_
        obtain rfl := Option.some.inj hd
        exact retZ hx hb hr hlk hK hP hD hS d_Mo_isUnder_30 rfl (by decide +kernel)
      · have hd := ite_f hd h_3
        refine lv_iload_n hx hb d_Mo_isUnder_13 rfl (lv_at hl 1 rfl) ?_
        refine lv_iconst (v := 4) hx hb d_Mo_isUnder_14 (by decide) ?_
        refine lv_icmp_ge (tgt := 29) hx hb d_Mo_isUnder_15 (by decide) (fun h_4 => ?_) (fun h_4 => ?_)
        · have hd := ite_t hd h_4
          refine lv_iconst (v := 0) hx hb d_Mo_isUnder_29 (by decide) ?_
          obtain rfl := Option.some.inj hd
          exact retZ hx hb hr hlk hK hP hD hS d_Mo_isUnder_30 rfl (by decide +kernel)
        · have hd := ite_f hd h_4
          refine lv_iload_n hx hb d_Mo_isUnder_18 rfl (lv_at hl 0 rfl) ?_
          refine lv_iload_n hx hb d_Mo_isUnder_19 rfl (lv_at hl 1 rfl) ?_
          refine lv_iconst (v := 3) hx hb d_Mo_isUnder_20 (by decide) ?_
          refine lv_iadd hx hb d_Mo_isUnder_21 ?_
          refine lv_icmp_ne (tgt := 29) hx hb d_Mo_isUnder_22 (by decide) (fun h_5 => ?_) (fun h_5 => ?_)
          · have hd := ite_f hd h_5
            refine lv_iconst (v := 0) hx hb d_Mo_isUnder_29 (by decide) ?_
            obtain rfl := Option.some.inj hd
            exact retZ hx hb hr hlk hK hP hD hS d_Mo_isUnder_30 rfl (by decide +kernel)
          · have hd := ite_t hd h_5
            refine lv_iconst (v := 1) hx hb d_Mo_isUnder_25 (by decide) ?_
            refine lv_goto (tgt := 30) hx hb d_Mo_isUnder_26 (by decide) ?_
            obtain rfl := Option.some.inj hd
            exact retZ hx hb hr hlk hK hP hD hS d_Mo_isUnder_30 rfl (by decide +kernel)
-- OwnsLiftModel.plainLifts(I)I
def d_Mo_plainLifts (x1 : Int32) (z : T_Mo) : Option (Int32 × T_Mo) :=
  (d_Mo_ranBody 1 z).bind fun v_1 => some (x1 + (q_Mo_number v_1), v_1)
theorem d_Mo_plainLifts_0 : decode b_Mo_plainLifts 0 = .ok (.aload_n 0, 1) := by decide +kernel
theorem d_Mo_plainLifts_1 : decode b_Mo_plainLifts 1 = .ok (.iconst 1, 1) := by decide +kernel
theorem d_Mo_plainLifts_2 : decode b_Mo_plainLifts 2 = .ok (.invokevirtual 240, 3) := by decide +kernel
theorem d_Mo_plainLifts_5 : decode b_Mo_plainLifts 5 = .ok (.iload_n 1, 1) := by decide +kernel
theorem d_Mo_plainLifts_6 : decode b_Mo_plainLifts 6 = .ok (.aload_n 0, 1) := by decide +kernel
theorem d_Mo_plainLifts_7 : decode b_Mo_plainLifts 7 = .ok (.getfield 243, 3) := by decide +kernel
theorem d_Mo_plainLifts_10 : decode b_Mo_plainLifts 10 = .ok (.iadd, 1) := by decide +kernel
theorem d_Mo_plainLifts_11 : decode b_Mo_plainLifts 11 = .ok (.ireturn, 1) := by decide +kernel
theorem o_Mo_plainLifts : OkV y_Mo_plainLifts "OwnsLiftModel" b_Mo_plainLifts 2 (some .int) 1 := ⟨⟨rfl, by decide +kernel, by decide +kernel, by decide +kernel⟩, g_1360, g_65, g_81, g_1361⟩
set_option maxHeartbeats 4000000 in
set_option maxRecDepth 100000 in
theorem c_Mo_plainLifts (l : Launch) (D : va_G) (g : Nat → ClassId) (a : Nat → Nat) (x1 : Int32) (z : T_Mo) (v : Int32 × T_Mo) (h : d_Mo_plainLifts x1 z = some v) :
    MI l y_Mo_plainLifts b_Mo_plainLifts 2 .int ({ frames := 1, cells := 0, slots := 0, locals := 21 } : Room) D g [.ref (a 0), .int x1] (ws_Mo g a z) (v.1) (ws_Mo g a v.2) := by
  have hd := h
  unfold d_Mo_plainLifts at hd
  refine enterI rfl (Nat.le_of_ble_eq_true rfl) (fun p e s m below meth c A ls hx hb hml hr hown hg hlk hK hA hP hD hS hCs hl => ?_)
  have hown : s.vm.findClass "OwnsLiftModel" = some m.cls := hown
  have hl : lv_has ls 2 [(0, .ref (a 0)), (1, .int x1)] := hl
  show GI p l e s m ({ frames := 1, cells := 0, slots := 0, locals := 21 } : Room) ([.ref (a 0), .int x1] : List Value).toArray below meth c A D g (ws_Mo g a v.2) (v.1) s.heap [] (F0 m 0 ls [])
  refine lv_aload_n hx hb d_Mo_plainLifts_0 rfl (lv_at hl 0 rfl) ?_
  refine lv_iconst (v := 1) hx hb d_Mo_plainLifts_1 (by decide) ?_
  obtain ⟨v_1, e_2, hd⟩ := bind_s hd
  refine callVV (ws' := ws_Mo g a v_1) (rest := []) (As := [.int 1]) hx hb hml hown hg hK hP hD hS hA hCs hl.1 (c_Mo_ranBody l D g a 1 z _ e_2) o_Mo_ranBody g_1354 (ci := 1) (q0 := 0) rfl rfl (List.range' 0 12) (segC1 rfl rfl) (by decide) rfl (segP1 rfl rfl) rfl rfl (Nat.le_of_ble_eq_true rfl) ⟨rfl, rfl, Nat.le_of_ble_eq_true rfl, Nat.le_of_ble_eq_true rfl⟩ d_Mo_plainLifts_2 (fun H locs hP hD hS => ?_)
  refine lv_iload_n hx hb d_Mo_plainLifts_5 rfl (lv_at hl 1 rfl) ?_
  refine lv_aload_n hx hb d_Mo_plainLifts_6 rfl (lv_at hl 0 rfl) ?_
  refine va_get (D := D) (ci := 1) (v := .int (q_Mo_number v_1)) (C := R_Mo) (T := F_Mo) (N := 26) hx hb hg i_Mo hown hK hP 0 rfl rfl 24 (by decide) (hg _ g_1016) (fun _ h9 => h9) rfl d_Mo_plainLifts_7 ?_
  refine lv_iadd hx hb d_Mo_plainLifts_10 ?_
  obtain rfl := Option.some.inj hd
  exact retI hx hb hr hlk hK hP hD hS d_Mo_plainLifts_11 rfl
-- OwnsLiftModel.liftsActs(I)I
def d_Mo_liftsActs (x1 : Int32) (z : T_Mo) : Option (Int32 × T_Mo) :=
  (d_Mo_isUnder (q_Mo_kind z) 1).bind fun v_1 => if v_1 = 0 then (if (q_Mo_kind z) = 5 then ((d_Mo_ranBody 51 z).bind fun v_7 => (d_Mo_plainLifts x1 v_7).bind fun v_9 => some (v_9.1 ^^^ (q_Mo_number v_9.2), v_9.2)) else ((d_Mo_plainLifts x1 z).bind fun v_5 => some (v_5.1, v_5.2))) else ((d_Mo_ranBody 11 z).bind fun v_11 => (d_Mo_plainLifts (x1 * 3) v_11).bind fun v_13 => some (v_13.1, v_13.2))
theorem d_Mo_liftsActs_0 : decode b_Mo_liftsActs 0 = .ok (.aload_n 0, 1) := by decide +kernel
theorem d_Mo_liftsActs_1 : decode b_Mo_liftsActs 1 = .ok (.getfield 246, 3) := by decide +kernel
theorem d_Mo_liftsActs_4 : decode b_Mo_liftsActs 4 = .ok (.iconst 1, 1) := by decide +kernel
theorem d_Mo_liftsActs_5 : decode b_Mo_liftsActs 5 = .ok (.invokestatic 249, 3) := by decide +kernel
theorem d_Mo_liftsActs_8 : decode b_Mo_liftsActs 8 = .ok (.ifCond .eq 17, 3) := by decide +kernel
theorem d_Mo_liftsActs_11 : decode b_Mo_liftsActs 11 = .ok (.aload_n 0, 1) := by decide +kernel
theorem d_Mo_liftsActs_12 : decode b_Mo_liftsActs 12 = .ok (.bipush 11, 2) := by decide +kernel
theorem d_Mo_liftsActs_14 : decode b_Mo_liftsActs 14 = .ok (.invokevirtual 240, 3) := by decide +kernel
theorem d_Mo_liftsActs_17 : decode b_Mo_liftsActs 17 = .ok (.aload_n 0, 1) := by decide +kernel
theorem d_Mo_liftsActs_18 : decode b_Mo_liftsActs 18 = .ok (.iload_n 1, 1) := by decide +kernel
theorem d_Mo_liftsActs_19 : decode b_Mo_liftsActs 19 = .ok (.iconst 3, 1) := by decide +kernel
theorem d_Mo_liftsActs_20 : decode b_Mo_liftsActs 20 = .ok (.imul, 1) := by decide +kernel
theorem d_Mo_liftsActs_21 : decode b_Mo_liftsActs 21 = .ok (.invokevirtual 252, 3) := by decide +kernel
theorem d_Mo_liftsActs_24 : decode b_Mo_liftsActs 24 = .ok (.ireturn, 1) := by decide +kernel
theorem d_Mo_liftsActs_25 : decode b_Mo_liftsActs 25 = .ok (.aload_n 0, 1) := by decide +kernel
theorem d_Mo_liftsActs_26 : decode b_Mo_liftsActs 26 = .ok (.getfield 246, 3) := by decide +kernel
theorem d_Mo_liftsActs_29 : decode b_Mo_liftsActs 29 = .ok (.iconst 5, 1) := by decide +kernel
theorem d_Mo_liftsActs_30 : decode b_Mo_liftsActs 30 = .ok (.if_icmp .ne 20, 3) := by decide +kernel
theorem d_Mo_liftsActs_33 : decode b_Mo_liftsActs 33 = .ok (.aload_n 0, 1) := by decide +kernel
theorem d_Mo_liftsActs_34 : decode b_Mo_liftsActs 34 = .ok (.bipush 51, 2) := by decide +kernel
theorem d_Mo_liftsActs_36 : decode b_Mo_liftsActs 36 = .ok (.invokevirtual 240, 3) := by decide +kernel
theorem d_Mo_liftsActs_39 : decode b_Mo_liftsActs 39 = .ok (.aload_n 0, 1) := by decide +kernel
theorem d_Mo_liftsActs_40 : decode b_Mo_liftsActs 40 = .ok (.iload_n 1, 1) := by decide +kernel
theorem d_Mo_liftsActs_41 : decode b_Mo_liftsActs 41 = .ok (.invokevirtual 252, 3) := by decide +kernel
theorem d_Mo_liftsActs_44 : decode b_Mo_liftsActs 44 = .ok (.aload_n 0, 1) := by decide +kernel
theorem d_Mo_liftsActs_45 : decode b_Mo_liftsActs 45 = .ok (.getfield 243, 3) := by decide +kernel
theorem d_Mo_liftsActs_48 : decode b_Mo_liftsActs 48 = .ok (.ixor, 1) := by decide +kernel
theorem d_Mo_liftsActs_49 : decode b_Mo_liftsActs 49 = .ok (.ireturn, 1) := by decide +kernel
theorem d_Mo_liftsActs_50 : decode b_Mo_liftsActs 50 = .ok (.aload_n 0, 1) := by decide +kernel
theorem d_Mo_liftsActs_51 : decode b_Mo_liftsActs 51 = .ok (.iload_n 1, 1) := by decide +kernel
theorem d_Mo_liftsActs_52 : decode b_Mo_liftsActs 52 = .ok (.invokevirtual 252, 3) := by decide +kernel
theorem d_Mo_liftsActs_55 : decode b_Mo_liftsActs 55 = .ok (.ireturn, 1) := by decide +kernel
theorem o_Mo_liftsActs : OkV y_Mo_liftsActs "OwnsLiftModel" b_Mo_liftsActs 2 (some .int) 1 := ⟨⟨rfl, by decide +kernel, by decide +kernel, by decide +kernel⟩, g_1349, g_63, g_81, g_1350⟩
set_option maxHeartbeats 4000000 in
set_option maxRecDepth 100000 in
theorem c_Mo_liftsActs (l : Launch) (D : va_G) (g : Nat → ClassId) (a : Nat → Nat) (x1 : Int32) (z : T_Mo) (v : Int32 × T_Mo) (h : d_Mo_liftsActs x1 z = some v) :
    MI l y_Mo_liftsActs b_Mo_liftsActs 2 .int ({ frames := 2, cells := 0, slots := 0, locals := 42 } : Room) D g [.ref (a 0), .int x1] (ws_Mo g a z) (v.1) (ws_Mo g a v.2) := by
  have hd := h
  unfold d_Mo_liftsActs at hd
  refine enterI rfl (Nat.le_of_ble_eq_true rfl) (fun p e s m below meth c A ls hx hb hml hr hown hg hlk hK hA hP hD hS hCs hl => ?_)
  have hown : s.vm.findClass "OwnsLiftModel" = some m.cls := hown
  have hl : lv_has ls 2 [(0, .ref (a 0)), (1, .int x1)] := hl
  show GI p l e s m ({ frames := 2, cells := 0, slots := 0, locals := 42 } : Room) ([.ref (a 0), .int x1] : List Value).toArray below meth c A D g (ws_Mo g a v.2) (v.1) s.heap [] (F0 m 0 ls [])
  refine lv_aload_n hx hb d_Mo_liftsActs_0 rfl (lv_at hl 0 rfl) ?_
  refine va_get (D := D) (ci := 1) (v := .int (q_Mo_kind z)) (C := R_Mo) (T := F_Mo) (N := 26) hx hb hg i_Mo hown hK hP 0 rfl rfl 23 (by decide) (hg _ g_1015) (fun _ h9 => h9) rfl d_Mo_liftsActs_1 ?_
  refine lv_iconst (v := 1) hx hb d_Mo_liftsActs_4 (by decide) ?_
  obtain ⟨v_1, e_2, hd⟩ := bind_s hd
  refine callSI (ws' := ws_Mo g a z) (rest := []) (As := [.int (q_Mo_kind z), .int 1]) hx hb hml hown hg hK hP hD hS hA hCs hl.1 (c_Mo_isUnder l D g  (q_Mo_kind z) 1 _ e_2) o_Mo_isUnder g_1351 [] segC0 rfl rfl segP0 rfl rfl (Nat.le_of_ble_eq_true rfl) ⟨rfl, rfl, Nat.le_of_ble_eq_true rfl, Nat.le_of_ble_eq_true rfl⟩ d_Mo_liftsActs_5 (fun H locs hP hD hS => ?_)
  refine lv_if_eq (tgt := 25) hx hb d_Mo_liftsActs_8 (by decide) (fun h_3 => ?_) (fun h_3 => ?_)
  · have hd := ite_t hd h_3
    refine lv_aload_n hx hb d_Mo_liftsActs_25 rfl (lv_at hl 0 rfl) ?_
    refine va_get (D := D) (ci := 1) (v := .int (q_Mo_kind z)) (C := R_Mo) (T := F_Mo) (N := 26) hx hb hg i_Mo hown hK hP 0 rfl rfl 23 (by decide) (hg _ g_1015) (fun _ h9 => h9) rfl d_Mo_liftsActs_26 ?_
    refine lv_iconst (v := 5) hx hb d_Mo_liftsActs_29 (by decide) ?_
    refine lv_icmp_ne (tgt := 50) hx hb d_Mo_liftsActs_30 (by decide) (fun h_4 => ?_) (fun h_4 => ?_)
    · have hd := ite_f hd h_4
      refine lv_aload_n hx hb d_Mo_liftsActs_50 rfl (lv_at hl 0 rfl) ?_
      refine lv_iload_n hx hb d_Mo_liftsActs_51 rfl (lv_at hl 1 rfl) ?_
      obtain ⟨v_5, e_6, hd⟩ := bind_s hd
      refine callVI (ws' := ws_Mo g a v_5.2) (rest := []) (As := [.int x1]) hx hb hml hown hg hK hP hD hS hA hCs hl.1 (c_Mo_plainLifts l D g a x1 z _ e_6) o_Mo_plainLifts g_1358 (ci := 1) (q0 := 0) rfl rfl (List.range' 0 12) (segC1 rfl rfl) (by decide) rfl (segP1 rfl rfl) rfl rfl (Nat.le_of_ble_eq_true rfl) ⟨rfl, rfl, Nat.le_of_ble_eq_true rfl, Nat.le_of_ble_eq_true rfl⟩ d_Mo_liftsActs_52 (fun H locs hP hD hS => ?_)
      obtain rfl := Option.some.inj hd
      exact retI hx hb hr hlk hK hP hD hS d_Mo_liftsActs_55 rfl
    · have hd := ite_t hd h_4
      refine lv_aload_n hx hb d_Mo_liftsActs_33 rfl (lv_at hl 0 rfl) ?_
      refine lv_bipush (v := 51) hx hb d_Mo_liftsActs_34 (by decide) ?_
      obtain ⟨v_7, e_8, hd⟩ := bind_s hd
      refine callVV (ws' := ws_Mo g a v_7) (rest := []) (As := [.int 51]) hx hb hml hown hg hK hP hD hS hA hCs hl.1 (c_Mo_ranBody l D g a 51 z _ e_8) o_Mo_ranBody g_1354 (ci := 1) (q0 := 0) rfl rfl (List.range' 0 12) (segC1 rfl rfl) (by decide) rfl (segP1 rfl rfl) rfl rfl (Nat.le_of_ble_eq_true rfl) ⟨rfl, rfl, Nat.le_of_ble_eq_true rfl, Nat.le_of_ble_eq_true rfl⟩ d_Mo_liftsActs_36 (fun H locs hP hD hS => ?_)
      refine lv_aload_n hx hb d_Mo_liftsActs_39 rfl (lv_at hl 0 rfl) ?_
      refine lv_iload_n hx hb d_Mo_liftsActs_40 rfl (lv_at hl 1 rfl) ?_
      obtain ⟨v_9, e_10, hd⟩ := bind_s hd
      refine callVI (ws' := ws_Mo g a v_9.2) (rest := []) (As := [.int x1]) hx hb hml hown hg hK hP hD hS hA hCs hl.1 (c_Mo_plainLifts l D g a x1 v_7 _ e_10) o_Mo_plainLifts g_1358 (ci := 1) (q0 := 0) rfl rfl (List.range' 0 12) (segC1 rfl rfl) (by decide) rfl (segP1 rfl rfl) rfl rfl (Nat.le_of_ble_eq_true rfl) ⟨rfl, rfl, Nat.le_of_ble_eq_true rfl, Nat.le_of_ble_eq_true rfl⟩ d_Mo_liftsActs_41 (fun H locs hP hD hS => ?_)
      refine lv_aload_n hx hb d_Mo_liftsActs_44 rfl (lv_at hl 0 rfl) ?_
      refine va_get (D := D) (ci := 1) (v := .int (q_Mo_number v_9.2)) (C := R_Mo) (T := F_Mo) (N := 26) hx hb hg i_Mo hown hK hP 0 rfl rfl 24 (by decide) (hg _ g_1016) (fun _ h9 => h9) rfl d_Mo_liftsActs_45 ?_
      refine lv_ixor hx hb d_Mo_liftsActs_48 ?_
      obtain rfl := Option.some.inj hd
      exact retI hx hb hr hlk hK hP hD hS d_Mo_liftsActs_49 rfl
  · have hd := ite_f hd h_3
    refine lv_aload_n hx hb d_Mo_liftsActs_11 rfl (lv_at hl 0 rfl) ?_
    refine lv_bipush (v := 11) hx hb d_Mo_liftsActs_12 (by decide) ?_
    obtain ⟨v_11, e_12, hd⟩ := bind_s hd
    refine callVV (ws' := ws_Mo g a v_11) (rest := []) (As := [.int 11]) hx hb hml hown hg hK hP hD hS hA hCs hl.1 (c_Mo_ranBody l D g a 11 z _ e_12) o_Mo_ranBody g_1354 (ci := 1) (q0 := 0) rfl rfl (List.range' 0 12) (segC1 rfl rfl) (by decide) rfl (segP1 rfl rfl) rfl rfl (Nat.le_of_ble_eq_true rfl) ⟨rfl, rfl, Nat.le_of_ble_eq_true rfl, Nat.le_of_ble_eq_true rfl⟩ d_Mo_liftsActs_14 (fun H locs hP hD hS => ?_)
    refine lv_aload_n hx hb d_Mo_liftsActs_17 rfl (lv_at hl 0 rfl) ?_
    refine lv_iload_n hx hb d_Mo_liftsActs_18 rfl (lv_at hl 1 rfl) ?_
    refine lv_iconst (v := 3) hx hb d_Mo_liftsActs_19 (by decide) ?_
    refine lv_imul hx hb d_Mo_liftsActs_20 ?_
    obtain ⟨v_13, e_14, hd⟩ := bind_s hd
    refine callVI (ws' := ws_Mo g a v_13.2) (rest := []) (As := [.int (x1 * 3)]) hx hb hml hown hg hK hP hD hS hA hCs hl.1 (c_Mo_plainLifts l D g a (x1 * 3) v_11 _ e_14) o_Mo_plainLifts g_1358 (ci := 1) (q0 := 0) rfl rfl (List.range' 0 12) (segC1 rfl rfl) (by decide) rfl (segP1 rfl rfl) rfl rfl (Nat.le_of_ble_eq_true rfl) ⟨rfl, rfl, Nat.le_of_ble_eq_true rfl, Nat.le_of_ble_eq_true rfl⟩ d_Mo_liftsActs_21 (fun H locs hP hD hS => ?_)
    obtain rfl := Option.some.inj hd
    exact retI hx hb hr hlk hK hP hD hS d_Mo_liftsActs_24 rfl
-- OwnsLiftModel.plainDrops(I)I
def d_Mo_plainDrops (x1 : Int32) (z : T_Mo) : Option (Int32 × T_Mo) :=
  (d_Mo_ranBody 2 z).bind fun v_1 => (d_Mo_liftsActs x1 v_1).bind fun v_3 => some (v_3.1 - (q_Mo_tellsV v_3.2), v_3.2)
theorem d_Mo_plainDrops_0 : decode b_Mo_plainDrops 0 = .ok (.aload_n 0, 1) := by decide +kernel
theorem d_Mo_plainDrops_1 : decode b_Mo_plainDrops 1 = .ok (.iconst 2, 1) := by decide +kernel
theorem d_Mo_plainDrops_2 : decode b_Mo_plainDrops 2 = .ok (.invokevirtual 240, 3) := by decide +kernel
theorem d_Mo_plainDrops_5 : decode b_Mo_plainDrops 5 = .ok (.aload_n 0, 1) := by decide +kernel
theorem d_Mo_plainDrops_6 : decode b_Mo_plainDrops 6 = .ok (.iload_n 1, 1) := by decide +kernel
theorem d_Mo_plainDrops_7 : decode b_Mo_plainDrops 7 = .ok (.invokevirtual 255, 3) := by decide +kernel
theorem d_Mo_plainDrops_10 : decode b_Mo_plainDrops 10 = .ok (.aload_n 0, 1) := by decide +kernel
theorem d_Mo_plainDrops_11 : decode b_Mo_plainDrops 11 = .ok (.getfield 258, 3) := by decide +kernel
theorem d_Mo_plainDrops_14 : decode b_Mo_plainDrops 14 = .ok (.isub, 1) := by decide +kernel
theorem d_Mo_plainDrops_15 : decode b_Mo_plainDrops 15 = .ok (.ireturn, 1) := by decide +kernel
theorem o_Mo_plainDrops : OkV y_Mo_plainDrops "OwnsLiftModel" b_Mo_plainDrops 2 (some .int) 1 := ⟨⟨rfl, by decide +kernel, by decide +kernel, by decide +kernel⟩, g_1368, g_67, g_81, g_1369⟩
set_option maxHeartbeats 4000000 in
set_option maxRecDepth 100000 in
theorem c_Mo_plainDrops (l : Launch) (D : va_G) (g : Nat → ClassId) (a : Nat → Nat) (x1 : Int32) (z : T_Mo) (v : Int32 × T_Mo) (h : d_Mo_plainDrops x1 z = some v) :
    MI l y_Mo_plainDrops b_Mo_plainDrops 2 .int ({ frames := 3, cells := 0, slots := 0, locals := 63 } : Room) D g [.ref (a 0), .int x1] (ws_Mo g a z) (v.1) (ws_Mo g a v.2) := by
  have hd := h
  unfold d_Mo_plainDrops at hd
  refine enterI rfl (Nat.le_of_ble_eq_true rfl) (fun p e s m below meth c A ls hx hb hml hr hown hg hlk hK hA hP hD hS hCs hl => ?_)
  have hown : s.vm.findClass "OwnsLiftModel" = some m.cls := hown
  have hl : lv_has ls 2 [(0, .ref (a 0)), (1, .int x1)] := hl
  show GI p l e s m ({ frames := 3, cells := 0, slots := 0, locals := 63 } : Room) ([.ref (a 0), .int x1] : List Value).toArray below meth c A D g (ws_Mo g a v.2) (v.1) s.heap [] (F0 m 0 ls [])
  refine lv_aload_n hx hb d_Mo_plainDrops_0 rfl (lv_at hl 0 rfl) ?_
  refine lv_iconst (v := 2) hx hb d_Mo_plainDrops_1 (by decide) ?_
  obtain ⟨v_1, e_2, hd⟩ := bind_s hd
  refine callVV (ws' := ws_Mo g a v_1) (rest := []) (As := [.int 2]) hx hb hml hown hg hK hP hD hS hA hCs hl.1 (c_Mo_ranBody l D g a 2 z _ e_2) o_Mo_ranBody g_1354 (ci := 1) (q0 := 0) rfl rfl (List.range' 0 12) (segC1 rfl rfl) (by decide) rfl (segP1 rfl rfl) rfl rfl (Nat.le_of_ble_eq_true rfl) ⟨rfl, rfl, Nat.le_of_ble_eq_true rfl, Nat.le_of_ble_eq_true rfl⟩ d_Mo_plainDrops_2 (fun H locs hP hD hS => ?_)
  refine lv_aload_n hx hb d_Mo_plainDrops_5 rfl (lv_at hl 0 rfl) ?_
  refine lv_iload_n hx hb d_Mo_plainDrops_6 rfl (lv_at hl 1 rfl) ?_
  obtain ⟨v_3, e_4, hd⟩ := bind_s hd
  refine callVI (ws' := ws_Mo g a v_3.2) (rest := []) (As := [.int x1]) hx hb hml hown hg hK hP hD hS hA hCs hl.1 (c_Mo_liftsActs l D g a x1 v_1 _ e_4) o_Mo_liftsActs g_1347 (ci := 1) (q0 := 0) rfl rfl (List.range' 0 12) (segC1 rfl rfl) (by decide) rfl (segP1 rfl rfl) rfl rfl (Nat.le_of_ble_eq_true rfl) ⟨rfl, rfl, Nat.le_of_ble_eq_true rfl, Nat.le_of_ble_eq_true rfl⟩ d_Mo_plainDrops_7 (fun H locs hP hD hS => ?_)
  refine lv_aload_n hx hb d_Mo_plainDrops_10 rfl (lv_at hl 0 rfl) ?_
  refine va_get (D := D) (ci := 1) (v := .int (q_Mo_tellsV v_3.2)) (C := R_Mo) (T := F_Mo) (N := 26) hx hb hg i_Mo hown hK hP 0 rfl rfl 25 (by decide) (hg _ g_1017) (fun _ h9 => h9) rfl d_Mo_plainDrops_11 ?_
  refine lv_isub hx hb d_Mo_plainDrops_14 ?_
  obtain rfl := Option.some.inj hd
  exact retI hx hb hr hlk hK hP hD hS d_Mo_plainDrops_15 rfl
-- OwnsLiftModel.dropsActs(I)I
def d_Mo_dropsActs (x1 : Int32) (z : T_Mo) : Option (Int32 × T_Mo) :=
  (d_Mo_isUnder (q_Mo_kind z) 2).bind fun v_1 => if v_1 = 0 then (if (q_Mo_kind z) = 6 then ((d_Mo_ranBody 61 z).bind fun v_7 => (d_Mo_plainDrops x1 v_7).bind fun v_9 => some (v_9.1 + (q_Mo_tellsV v_9.2), v_9.2)) else ((d_Mo_plainDrops x1 z).bind fun v_5 => some (v_5.1, v_5.2))) else ((d_Mo_ranBody 21 z).bind fun v_11 => (d_Mo_plainDrops x1 v_11).bind fun v_13 => some (-v_13.1, v_13.2))
theorem d_Mo_dropsActs_0 : decode b_Mo_dropsActs 0 = .ok (.aload_n 0, 1) := by decide +kernel
theorem d_Mo_dropsActs_1 : decode b_Mo_dropsActs 1 = .ok (.getfield 246, 3) := by decide +kernel
theorem d_Mo_dropsActs_4 : decode b_Mo_dropsActs 4 = .ok (.iconst 2, 1) := by decide +kernel
theorem d_Mo_dropsActs_5 : decode b_Mo_dropsActs 5 = .ok (.invokestatic 249, 3) := by decide +kernel
theorem d_Mo_dropsActs_8 : decode b_Mo_dropsActs 8 = .ok (.ifCond .eq 16, 3) := by decide +kernel
theorem d_Mo_dropsActs_11 : decode b_Mo_dropsActs 11 = .ok (.aload_n 0, 1) := by decide +kernel
theorem d_Mo_dropsActs_12 : decode b_Mo_dropsActs 12 = .ok (.bipush 21, 2) := by decide +kernel
theorem d_Mo_dropsActs_14 : decode b_Mo_dropsActs 14 = .ok (.invokevirtual 240, 3) := by decide +kernel
theorem d_Mo_dropsActs_17 : decode b_Mo_dropsActs 17 = .ok (.aload_n 0, 1) := by decide +kernel
theorem d_Mo_dropsActs_18 : decode b_Mo_dropsActs 18 = .ok (.iload_n 1, 1) := by decide +kernel
theorem d_Mo_dropsActs_19 : decode b_Mo_dropsActs 19 = .ok (.invokevirtual 261, 3) := by decide +kernel
theorem d_Mo_dropsActs_22 : decode b_Mo_dropsActs 22 = .ok (.ineg, 1) := by decide +kernel
theorem d_Mo_dropsActs_23 : decode b_Mo_dropsActs 23 = .ok (.ireturn, 1) := by decide +kernel
theorem d_Mo_dropsActs_24 : decode b_Mo_dropsActs 24 = .ok (.aload_n 0, 1) := by decide +kernel
theorem d_Mo_dropsActs_25 : decode b_Mo_dropsActs 25 = .ok (.getfield 246, 3) := by decide +kernel
theorem d_Mo_dropsActs_28 : decode b_Mo_dropsActs 28 = .ok (.bipush 6, 2) := by decide +kernel
theorem d_Mo_dropsActs_30 : decode b_Mo_dropsActs 30 = .ok (.if_icmp .ne 20, 3) := by decide +kernel
theorem d_Mo_dropsActs_33 : decode b_Mo_dropsActs 33 = .ok (.aload_n 0, 1) := by decide +kernel
theorem d_Mo_dropsActs_34 : decode b_Mo_dropsActs 34 = .ok (.bipush 61, 2) := by decide +kernel
theorem d_Mo_dropsActs_36 : decode b_Mo_dropsActs 36 = .ok (.invokevirtual 240, 3) := by decide +kernel
theorem d_Mo_dropsActs_39 : decode b_Mo_dropsActs 39 = .ok (.aload_n 0, 1) := by decide +kernel
theorem d_Mo_dropsActs_40 : decode b_Mo_dropsActs 40 = .ok (.iload_n 1, 1) := by decide +kernel
theorem d_Mo_dropsActs_41 : decode b_Mo_dropsActs 41 = .ok (.invokevirtual 261, 3) := by decide +kernel
theorem d_Mo_dropsActs_44 : decode b_Mo_dropsActs 44 = .ok (.aload_n 0, 1) := by decide +kernel
theorem d_Mo_dropsActs_45 : decode b_Mo_dropsActs 45 = .ok (.getfield 258, 3) := by decide +kernel
theorem d_Mo_dropsActs_48 : decode b_Mo_dropsActs 48 = .ok (.iadd, 1) := by decide +kernel
theorem d_Mo_dropsActs_49 : decode b_Mo_dropsActs 49 = .ok (.ireturn, 1) := by decide +kernel
theorem d_Mo_dropsActs_50 : decode b_Mo_dropsActs 50 = .ok (.aload_n 0, 1) := by decide +kernel
theorem d_Mo_dropsActs_51 : decode b_Mo_dropsActs 51 = .ok (.iload_n 1, 1) := by decide +kernel
theorem d_Mo_dropsActs_52 : decode b_Mo_dropsActs 52 = .ok (.invokevirtual 261, 3) := by decide +kernel
theorem d_Mo_dropsActs_55 : decode b_Mo_dropsActs 55 = .ok (.ireturn, 1) := by decide +kernel
theorem o_Mo_dropsActs : OkV y_Mo_dropsActs "OwnsLiftModel" b_Mo_dropsActs 2 (some .int) 1 := ⟨⟨rfl, by decide +kernel, by decide +kernel, by decide +kernel⟩, g_1364, g_66, g_81, g_1365⟩
set_option maxHeartbeats 4000000 in
set_option maxRecDepth 100000 in
theorem c_Mo_dropsActs (l : Launch) (D : va_G) (g : Nat → ClassId) (a : Nat → Nat) (x1 : Int32) (z : T_Mo) (v : Int32 × T_Mo) (h : d_Mo_dropsActs x1 z = some v) :
    MI l y_Mo_dropsActs b_Mo_dropsActs 2 .int ({ frames := 4, cells := 0, slots := 0, locals := 84 } : Room) D g [.ref (a 0), .int x1] (ws_Mo g a z) (v.1) (ws_Mo g a v.2) := by
  have hd := h
  unfold d_Mo_dropsActs at hd
  refine enterI rfl (Nat.le_of_ble_eq_true rfl) (fun p e s m below meth c A ls hx hb hml hr hown hg hlk hK hA hP hD hS hCs hl => ?_)
  have hown : s.vm.findClass "OwnsLiftModel" = some m.cls := hown
  have hl : lv_has ls 2 [(0, .ref (a 0)), (1, .int x1)] := hl
  show GI p l e s m ({ frames := 4, cells := 0, slots := 0, locals := 84 } : Room) ([.ref (a 0), .int x1] : List Value).toArray below meth c A D g (ws_Mo g a v.2) (v.1) s.heap [] (F0 m 0 ls [])
  refine lv_aload_n hx hb d_Mo_dropsActs_0 rfl (lv_at hl 0 rfl) ?_
  refine va_get (D := D) (ci := 1) (v := .int (q_Mo_kind z)) (C := R_Mo) (T := F_Mo) (N := 26) hx hb hg i_Mo hown hK hP 0 rfl rfl 23 (by decide) (hg _ g_1015) (fun _ h9 => h9) rfl d_Mo_dropsActs_1 ?_
  refine lv_iconst (v := 2) hx hb d_Mo_dropsActs_4 (by decide) ?_
  obtain ⟨v_1, e_2, hd⟩ := bind_s hd
  refine callSI (ws' := ws_Mo g a z) (rest := []) (As := [.int (q_Mo_kind z), .int 2]) hx hb hml hown hg hK hP hD hS hA hCs hl.1 (c_Mo_isUnder l D g  (q_Mo_kind z) 2 _ e_2) o_Mo_isUnder g_1351 [] segC0 rfl rfl segP0 rfl rfl (Nat.le_of_ble_eq_true rfl) ⟨rfl, rfl, Nat.le_of_ble_eq_true rfl, Nat.le_of_ble_eq_true rfl⟩ d_Mo_dropsActs_5 (fun H locs hP hD hS => ?_)
  refine lv_if_eq (tgt := 24) hx hb d_Mo_dropsActs_8 (by decide) (fun h_3 => ?_) (fun h_3 => ?_)
  · have hd := ite_t hd h_3
    refine lv_aload_n hx hb d_Mo_dropsActs_24 rfl (lv_at hl 0 rfl) ?_
    refine va_get (D := D) (ci := 1) (v := .int (q_Mo_kind z)) (C := R_Mo) (T := F_Mo) (N := 26) hx hb hg i_Mo hown hK hP 0 rfl rfl 23 (by decide) (hg _ g_1015) (fun _ h9 => h9) rfl d_Mo_dropsActs_25 ?_
    refine lv_bipush (v := 6) hx hb d_Mo_dropsActs_28 (by decide) ?_
    refine lv_icmp_ne (tgt := 50) hx hb d_Mo_dropsActs_30 (by decide) (fun h_4 => ?_) (fun h_4 => ?_)
    · have hd := ite_f hd h_4
      refine lv_aload_n hx hb d_Mo_dropsActs_50 rfl (lv_at hl 0 rfl) ?_
      refine lv_iload_n hx hb d_Mo_dropsActs_51 rfl (lv_at hl 1 rfl) ?_
      obtain ⟨v_5, e_6, hd⟩ := bind_s hd
      refine callVI (ws' := ws_Mo g a v_5.2) (rest := []) (As := [.int x1]) hx hb hml hown hg hK hP hD hS hA hCs hl.1 (c_Mo_plainDrops l D g a x1 z _ e_6) o_Mo_plainDrops g_1366 (ci := 1) (q0 := 0) rfl rfl (List.range' 0 12) (segC1 rfl rfl) (by decide) rfl (segP1 rfl rfl) rfl rfl (Nat.le_of_ble_eq_true rfl) ⟨rfl, rfl, Nat.le_of_ble_eq_true rfl, Nat.le_of_ble_eq_true rfl⟩ d_Mo_dropsActs_52 (fun H locs hP hD hS => ?_)
      obtain rfl := Option.some.inj hd
      exact retI hx hb hr hlk hK hP hD hS d_Mo_dropsActs_55 rfl
    · have hd := ite_t hd h_4
      refine lv_aload_n hx hb d_Mo_dropsActs_33 rfl (lv_at hl 0 rfl) ?_
      refine lv_bipush (v := 61) hx hb d_Mo_dropsActs_34 (by decide) ?_
      obtain ⟨v_7, e_8, hd⟩ := bind_s hd
      refine callVV (ws' := ws_Mo g a v_7) (rest := []) (As := [.int 61]) hx hb hml hown hg hK hP hD hS hA hCs hl.1 (c_Mo_ranBody l D g a 61 z _ e_8) o_Mo_ranBody g_1354 (ci := 1) (q0 := 0) rfl rfl (List.range' 0 12) (segC1 rfl rfl) (by decide) rfl (segP1 rfl rfl) rfl rfl (Nat.le_of_ble_eq_true rfl) ⟨rfl, rfl, Nat.le_of_ble_eq_true rfl, Nat.le_of_ble_eq_true rfl⟩ d_Mo_dropsActs_36 (fun H locs hP hD hS => ?_)
      refine lv_aload_n hx hb d_Mo_dropsActs_39 rfl (lv_at hl 0 rfl) ?_
      refine lv_iload_n hx hb d_Mo_dropsActs_40 rfl (lv_at hl 1 rfl) ?_
      obtain ⟨v_9, e_10, hd⟩ := bind_s hd
      refine callVI (ws' := ws_Mo g a v_9.2) (rest := []) (As := [.int x1]) hx hb hml hown hg hK hP hD hS hA hCs hl.1 (c_Mo_plainDrops l D g a x1 v_7 _ e_10) o_Mo_plainDrops g_1366 (ci := 1) (q0 := 0) rfl rfl (List.range' 0 12) (segC1 rfl rfl) (by decide) rfl (segP1 rfl rfl) rfl rfl (Nat.le_of_ble_eq_true rfl) ⟨rfl, rfl, Nat.le_of_ble_eq_true rfl, Nat.le_of_ble_eq_true rfl⟩ d_Mo_dropsActs_41 (fun H locs hP hD hS => ?_)
      refine lv_aload_n hx hb d_Mo_dropsActs_44 rfl (lv_at hl 0 rfl) ?_
      refine va_get (D := D) (ci := 1) (v := .int (q_Mo_tellsV v_9.2)) (C := R_Mo) (T := F_Mo) (N := 26) hx hb hg i_Mo hown hK hP 0 rfl rfl 25 (by decide) (hg _ g_1017) (fun _ h9 => h9) rfl d_Mo_dropsActs_45 ?_
      refine lv_iadd hx hb d_Mo_dropsActs_48 ?_
      obtain rfl := Option.some.inj hd
      exact retI hx hb hr hlk hK hP hD hS d_Mo_dropsActs_49 rfl
  · have hd := ite_f hd h_3
    refine lv_aload_n hx hb d_Mo_dropsActs_11 rfl (lv_at hl 0 rfl) ?_
    refine lv_bipush (v := 21) hx hb d_Mo_dropsActs_12 (by decide) ?_
    obtain ⟨v_11, e_12, hd⟩ := bind_s hd
    refine callVV (ws' := ws_Mo g a v_11) (rest := []) (As := [.int 21]) hx hb hml hown hg hK hP hD hS hA hCs hl.1 (c_Mo_ranBody l D g a 21 z _ e_12) o_Mo_ranBody g_1354 (ci := 1) (q0 := 0) rfl rfl (List.range' 0 12) (segC1 rfl rfl) (by decide) rfl (segP1 rfl rfl) rfl rfl (Nat.le_of_ble_eq_true rfl) ⟨rfl, rfl, Nat.le_of_ble_eq_true rfl, Nat.le_of_ble_eq_true rfl⟩ d_Mo_dropsActs_14 (fun H locs hP hD hS => ?_)
    refine lv_aload_n hx hb d_Mo_dropsActs_17 rfl (lv_at hl 0 rfl) ?_
    refine lv_iload_n hx hb d_Mo_dropsActs_18 rfl (lv_at hl 1 rfl) ?_
    obtain ⟨v_13, e_14, hd⟩ := bind_s hd
    refine callVI (ws' := ws_Mo g a v_13.2) (rest := []) (As := [.int x1]) hx hb hml hown hg hK hP hD hS hA hCs hl.1 (c_Mo_plainDrops l D g a x1 v_11 _ e_14) o_Mo_plainDrops g_1366 (ci := 1) (q0 := 0) rfl rfl (List.range' 0 12) (segC1 rfl rfl) (by decide) rfl (segP1 rfl rfl) rfl rfl (Nat.le_of_ble_eq_true rfl) ⟨rfl, rfl, Nat.le_of_ble_eq_true rfl, Nat.le_of_ble_eq_true rfl⟩ d_Mo_dropsActs_19 (fun H locs hP hD hS => ?_)
    refine lv_ineg hx hb d_Mo_dropsActs_22 ?_
    obtain rfl := Option.some.inj hd
    exact retI hx hb hr hlk hK hP hD hS d_Mo_dropsActs_23 rfl

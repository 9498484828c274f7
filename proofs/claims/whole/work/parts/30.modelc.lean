-- OwnsLiftModel.strength(II)I
def d_Mo_strength (x1 : Int32) (x2 : Int32) (z : T_Mo) : Option (Int32 × T_Mo) :=
  (d_Mo_isPerson x1 z).bind fun v_1 => if v_1 = 0 then (some ((-1), z)) else ((d_Mo_in x2 0 99).bind fun v_4 => if v_4 = 0 then (some ((-2), z)) else (if inb (18 + x1) 901 = true then (if inb (18 + x1) 901 = true then (some ((q_Mo_s z) (18 + x1).toNatClampNeg, (u_Mo_s z (upd (q_Mo_s z) (18 + x1).toNatClampNeg x2)))) else none) else none))
theorem d_Mo_strength_0 : decode b_Mo_strength 0 = .ok (.aload_n 0, 1) := by decide +kernel
theorem d_Mo_strength_1 : decode b_Mo_strength 1 = .ok (.iload_n 1, 1) := by decide +kernel
theorem d_Mo_strength_2 : decode b_Mo_strength 2 = .ok (.invokevirtual 147, 3) := by decide +kernel
theorem d_Mo_strength_5 : decode b_Mo_strength 5 = .ok (.ifCond .ne 5, 3) := by decide +kernel
theorem d_Mo_strength_8 : decode b_Mo_strength 8 = .ok (.iconst (-1), 1) := by decide +kernel
theorem d_Mo_strength_9 : decode b_Mo_strength 9 = .ok (.ireturn, 1) := by decide +kernel
theorem d_Mo_strength_10 : decode b_Mo_strength 10 = .ok (.iload_n 2, 1) := by decide +kernel
theorem d_Mo_strength_11 : decode b_Mo_strength 11 = .ok (.iconst 0, 1) := by decide +kernel
theorem d_Mo_strength_12 : decode b_Mo_strength 12 = .ok (.bipush 99, 2) := by decide +kernel
theorem d_Mo_strength_14 : decode b_Mo_strength 14 = .ok (.invokestatic 50, 3) := by decide +kernel
theorem d_Mo_strength_17 : decode b_Mo_strength 17 = .ok (.ifCond .ne 6, 3) := by decide +kernel
theorem d_Mo_strength_20 : decode b_Mo_strength 20 = .ok (.bipush (-2), 2) := by decide +kernel
theorem d_Mo_strength_22 : decode b_Mo_strength 22 = .ok (.ireturn, 1) := by decide +kernel
theorem d_Mo_strength_23 : decode b_Mo_strength 23 = .ok (.aload_n 0, 1) := by decide +kernel
theorem d_Mo_strength_24 : decode b_Mo_strength 24 = .ok (.getfield 9, 3) := by decide +kernel
theorem d_Mo_strength_27 : decode b_Mo_strength 27 = .ok (.bipush 18, 2) := by decide +kernel
theorem d_Mo_strength_29 : decode b_Mo_strength 29 = .ok (.iload_n 1, 1) := by decide +kernel
theorem d_Mo_strength_30 : decode b_Mo_strength 30 = .ok (.iadd, 1) := by decide +kernel
theorem d_Mo_strength_31 : decode b_Mo_strength 31 = .ok (.iaload, 1) := by decide +kernel
theorem d_Mo_strength_32 : decode b_Mo_strength 32 = .ok (.istore_n 3, 1) := by decide +kernel
theorem d_Mo_strength_33 : decode b_Mo_strength 33 = .ok (.aload_n 0, 1) := by decide +kernel
theorem d_Mo_strength_34 : decode b_Mo_strength 34 = .ok (.getfield 9, 3) := by decide +kernel
theorem d_Mo_strength_37 : decode b_Mo_strength 37 = .ok (.bipush 18, 2) := by decide +kernel
theorem d_Mo_strength_39 : decode b_Mo_strength 39 = .ok (.iload_n 1, 1) := by decide +kernel
theorem d_Mo_strength_40 : decode b_Mo_strength 40 = .ok (.iadd, 1) := by decide +kernel
theorem d_Mo_strength_41 : decode b_Mo_strength 41 = .ok (.iload_n 2, 1) := by decide +kernel
theorem d_Mo_strength_42 : decode b_Mo_strength 42 = .ok (.iastore, 1) := by decide +kernel
theorem d_Mo_strength_43 : decode b_Mo_strength 43 = .ok (.iload_n 3, 1) := by decide +kernel
theorem d_Mo_strength_44 : decode b_Mo_strength 44 = .ok (.ireturn, 1) := by decide +kernel
theorem o_Mo_strength : OkV y_Mo_strength "OwnsLiftModel" b_Mo_strength 4 (some .int) 2 := ⟨⟨rfl, by decide +kernel, by decide +kernel, by decide +kernel⟩, g_1176, g_1177, g_81, g_1178⟩
set_option maxHeartbeats 4000000 in
set_option maxRecDepth 100000 in
theorem c_Mo_strength (l : Launch) (D : va_G) (g : Nat → ClassId) (a : Nat → Nat) (x1 : Int32) (x2 : Int32) (z : T_Mo) (v : Int32 × T_Mo) (h : d_Mo_strength x1 x2 z = some v) :
    MI l y_Mo_strength b_Mo_strength 4 .int ({ frames := 2, cells := 0, slots := 0, locals := 43 } : Room) D g [.ref (a 0), .int x1, .int x2] (ws_Mo g a z) (v.1) (ws_Mo g a v.2) := by
  have hd := h
  unfold d_Mo_strength at hd
  refine enterI rfl (Nat.le_of_ble_eq_true rfl) (fun p e s m below meth c A ls hx hb hml hr hown hg hlk hK hA hP hD hS hCs hl => ?_)
  have hown : s.vm.findClass "OwnsLiftModel" = some m.cls := hown
  have hl : lv_has ls 4 [(0, .ref (a 0)), (1, .int x1), (2, .int x2)] := hl
  show GI p l e s m ({ frames := 2, cells := 0, slots := 0, locals := 43 } : Room) ([.ref (a 0), .int x1, .int x2] : List Value).toArray below meth c A D g (ws_Mo g a v.2) (v.1) s.heap [] (F0 m 0 ls [])
  refine lv_aload_n hx hb d_Mo_strength_0 rfl (lv_at hl 0 rfl) ?_
  refine lv_iload_n hx hb d_Mo_strength_1 rfl (lv_at hl 1 rfl) ?_
  obtain ⟨v_1, e_2, hd⟩ := bind_s hd
  refine callVI (ws' := ws_Mo g a z) (rest := []) (As := [.int x1]) hx hb hml hown hg hK hP hD hS hA hCs hl.1 (c_Mo_isPerson l D g a x1 z _ e_2) o_Mo_isPerson g_1147 (ci := 1) (q0 := 0) rfl rfl (List.range' 0 12) (segC1 rfl rfl) (by decide) rfl (segP1 rfl rfl) rfl rfl (Nat.le_of_ble_eq_true rfl) ⟨rfl, rfl, Nat.le_of_ble_eq_true rfl, Nat.le_of_ble_eq_true rfl⟩ d_Mo_strength_2 (fun H locs hP hD hS => ?_)
  refine lv_if_ne (tgt := 10) hx hb d_Mo_strength_5 (by decide) (fun h_3 => ?_) (fun h_3 => ?_)
  · have hd := ite_f hd h_3
    refine lv_iload_n hx hb d_Mo_strength_10 rfl (lv_at hl 2 rfl) ?_
    refine lv_iconst (v := 0) hx hb d_Mo_strength_11 (by decide) ?_
    refine lv_bipush (v := 99) hx hb d_Mo_strength_12 (by decide) ?_
    obtain ⟨v_4, e_5, hd⟩ := bind_s hd
    refine callSI (ws' := ws_Mo g a z) (rest := []) (As := [.int x2, .int 0, .int 99]) hx hb hml hown hg hK hP hD hS hA hCs hl.1 (c_Mo_in l D g  x2 0 99 _ e_5) o_Mo_in g_1076 [] segC0 rfl rfl segP0 rfl rfl (Nat.le_of_ble_eq_true rfl) ⟨rfl, rfl, Nat.le_of_ble_eq_true rfl, Nat.le_of_ble_eq_true rfl⟩ d_Mo_strength_14 (fun H locs hP hD hS => ?_)
    refine lv_if_ne (tgt := 23) hx hb d_Mo_strength_17 (by decide) (fun h_6 => ?_) (fun h_6 => ?_)
    · have hd := ite_f hd h_6
      refine lv_aload_n hx hb d_Mo_strength_23 rfl (lv_at hl 0 rfl) ?_
      refine va_get (D := D) (ci := 1) (v := .ref (a 1)) (C := R_Mo) (T := F_Mo) (N := 26) hx hb hg i_Mo hown hK hP 0 rfl rfl 1 (by decide) (hg _ g_993) (fun _ h9 => h9) rfl d_Mo_strength_24 ?_
      refine lv_bipush (v := 18) hx hb d_Mo_strength_27 (by decide) ?_
      refine lv_iload_n hx hb d_Mo_strength_29 rfl (lv_at hl 1 rfl) ?_
      refine lv_iadd hx hb d_Mo_strength_30 ?_
      obtain ⟨h_8, hd⟩ := ite_s hd
      refine ialdK hx hb hK hP 1 0 rfl rfl (inb_t h_8) rfl d_Mo_strength_31 ?_
      refine lv_istore_n (lv' := [(3, .int ((q_Mo_s z) (18 + x1).toNatClampNeg)), (0, .ref (a 0)), (1, .int x1), (2, .int x2)]) hx hb d_Mo_strength_32 rfl hl (by decide) rfl (fun ls hl => ?_)
      refine lv_aload_n hx hb d_Mo_strength_33 rfl (lv_at hl 1 rfl) ?_
      refine va_get (D := D) (ci := 1) (v := .ref (a 1)) (C := R_Mo) (T := F_Mo) (N := 26) hx hb hg i_Mo hown hK hP 0 rfl rfl 1 (by decide) (hg _ g_993) (fun _ h9 => h9) rfl d_Mo_strength_34 ?_
      refine lv_bipush (v := 18) hx hb d_Mo_strength_37 (by decide) ?_
      refine lv_iload_n hx hb d_Mo_strength_39 rfl (lv_at hl 2 rfl) ?_
      refine lv_iadd hx hb d_Mo_strength_40 ?_
      refine lv_iload_n hx hb d_Mo_strength_41 rfl (lv_at hl 3 rfl) ?_
      obtain ⟨h_7, hd⟩ := ite_s hd
      refine iastK hx hb hK hP hD hS 1 0 rfl rfl (inb_t h_7) rfl d_Mo_strength_42 (fun H locs hP hD hS => ?_)
      have hP : va_P D classes (ws_Mo g a (u_Mo_s z (upd (q_Mo_s z) (18 + x1).toNatClampNeg x2))) H := hP
      have hD : va_D A (ws_Mo g a (u_Mo_s z (upd (q_Mo_s z) (18 + x1).toNatClampNeg x2))) := hD
      refine lv_iload_n hx hb d_Mo_strength_43 rfl (lv_at hl 0 rfl) ?_
      obtain rfl := Option.some.inj hd
      exact retI hx hb hr hlk hK hP hD hS d_Mo_strength_44 rfl
    · have hd := ite_t hd h_6
      refine lv_bipush (v := (-2)) hx hb d_Mo_strength_20 (by decide) ?_
      obtain rfl := Option.some.inj hd
      exact retI hx hb hr hlk hK hP hD hS d_Mo_strength_22 rfl
  · have hd := ite_t hd h_3
    refine lv_iconst (v := (-1)) hx hb d_Mo_strength_8 (by decide) ?_
    obtain rfl := Option.some.inj hd
    exact retI hx hb hr hlk hK hP hD hS d_Mo_strength_9 rfl
-- OwnsLiftModel.row(II)I
def d_Mo_row (x1 : Int32) (x2 : Int32) (z : T_Mo) : Option (Int32 × T_Mo) :=
  (d_Mo_isPerson x1 z).bind fun v_1 => if v_1 = 0 then (some ((-1), z)) else (if x2 = (-1) then (if inb (10 + x1) 901 = true then (if ((q_Mo_s z) (10 + x1).toNatClampNeg) = 6 then (if x2 = (-1) then (if inb (26 + x1) 901 = true then (some (0, (u_Mo_s z (upd (q_Mo_s z) (26 + x1).toNatClampNeg 0)))) else none) else (if inb (26 + x1) 901 = true then (if ((q_Mo_s z) (26 + x1).toNatClampNeg) = 7 then (some ((-4), z)) else (if inb (26 + x1) 901 = true then (if inb ((30 + (7 * x1)) + ((q_Mo_s z) (26 + x1).toNatClampNeg)) 901 = true then (if inb (26 + x1) 901 = true then (if inb (26 + x1) 901 = true then (if inb (26 + x1) 901 = true then (some ((q_Mo_s (u_Mo_s (u_Mo_s z (upd (q_Mo_s z) ((30 + (7 * x1)) + ((q_Mo_s z) (26 + x1).toNatClampNeg)).toNatClampNeg x2)) (upd (q_Mo_s (u_Mo_s z (upd (q_Mo_s z) ((30 + (7 * x1)) + ((q_Mo_s z) (26 + x1).toNatClampNeg)).toNatClampNeg x2))) (26 + x1).toNatClampNeg (((q_Mo_s (u_Mo_s z (upd (q_Mo_s z) ((30 + (7 * x1)) + ((q_Mo_s z) (26 + x1).toNatClampNeg)).toNatClampNeg x2))) (26 + x1).toNatClampNeg) + 1)))) (26 + x1).toNatClampNeg, (u_Mo_s (u_Mo_s z (upd (q_Mo_s z) ((30 + (7 * x1)) + ((q_Mo_s z) (26 + x1).toNatClampNeg)).toNatClampNeg x2)) (upd (q_Mo_s (u_Mo_s z (upd (q_Mo_s z) ((30 + (7 * x1)) + ((q_Mo_s z) (26 + x1).toNatClampNeg)).toNatClampNeg x2))) (26 + x1).toNatClampNeg (((q_Mo_s (u_Mo_s z (upd (q_Mo_s z) ((30 + (7 * x1)) + ((q_Mo_s z) (26 + x1).toNatClampNeg)).toNatClampNeg x2))) (26 + x1).toNatClampNeg) + 1))))) else none) else none) else none) else none) else none)) else none)) else (some ((-3), z))) else none) else ((d_Mo_isThing x2 z).bind fun v_16 => if v_16 = 0 then (some ((-1), z)) else (if inb (10 + x1) 901 = true then (if ((q_Mo_s z) (10 + x1).toNatClampNeg) = 6 then (if x2 = (-1) then (if inb (26 + x1) 901 = true then (some (0, (u_Mo_s z (upd (q_Mo_s z) (26 + x1).toNatClampNeg 0)))) else none) else (if inb (26 + x1) 901 = true then (if ((q_Mo_s z) (26 + x1).toNatClampNeg) = 7 then (some ((-4), z)) else (if inb (26 + x1) 901 = true then (if inb ((30 + (7 * x1)) + ((q_Mo_s z) (26 + x1).toNatClampNeg)) 901 = true then (if inb (26 + x1) 901 = true then (if inb (26 + x1) 901 = true then (if inb (26 + x1) 901 = true then (some ((q_Mo_s (u_Mo_s (u_Mo_s z (upd (q_Mo_s z) ((30 + (7 * x1)) + ((q_Mo_s z) (26 + x1).toNatClampNeg)).toNatClampNeg x2)) (upd (q_Mo_s (u_Mo_s z (upd (q_Mo_s z) ((30 + (7 * x1)) + ((q_Mo_s z) (26 + x1).toNatClampNeg)).toNatClampNeg x2))) (26 + x1).toNatClampNeg (((q_Mo_s (u_Mo_s z (upd (q_Mo_s z) ((30 + (7 * x1)) + ((q_Mo_s z) (26 + x1).toNatClampNeg)).toNatClampNeg x2))) (26 + x1).toNatClampNeg) + 1)))) (26 + x1).toNatClampNeg, (u_Mo_s (u_Mo_s z (upd (q_Mo_s z) ((30 + (7 * x1)) + ((q_Mo_s z) (26 + x1).toNatClampNeg)).toNatClampNeg x2)) (upd (q_Mo_s (u_Mo_s z (upd (q_Mo_s z) ((30 + (7 * x1)) + ((q_Mo_s z) (26 + x1).toNatClampNeg)).toNatClampNeg x2))) (26 + x1).toNatClampNeg (((q_Mo_s (u_Mo_s z (upd (q_Mo_s z) ((30 + (7 * x1)) + ((q_Mo_s z) (26 + x1).toNatClampNeg)).toNatClampNeg x2))) (26 + x1).toNatClampNeg) + 1))))) else none) else none) else none) else none) else none)) else none)) else (some ((-3), z))) else none)))
theorem d_Mo_row_0 : decode b_Mo_row 0 = .ok (.aload_n 0, 1) := by decide +kernel
theorem d_Mo_row_1 : decode b_Mo_row 1 = .ok (.iload_n 1, 1) := by decide +kernel
theorem d_Mo_row_2 : decode b_Mo_row 2 = .ok (.invokevirtual 147, 3) := by decide +kernel
theorem d_Mo_row_5 : decode b_Mo_row 5 = .ok (.ifCond .eq 16, 3) := by decide +kernel
theorem d_Mo_row_8 : decode b_Mo_row 8 = .ok (.iload_n 2, 1) := by decide +kernel
theorem d_Mo_row_9 : decode b_Mo_row 9 = .ok (.iconst (-1), 1) := by decide +kernel
theorem d_Mo_row_10 : decode b_Mo_row 10 = .ok (.if_icmp .eq 13, 3) := by decide +kernel
theorem d_Mo_row_13 : decode b_Mo_row 13 = .ok (.aload_n 0, 1) := by decide +kernel
theorem d_Mo_row_14 : decode b_Mo_row 14 = .ok (.iload_n 2, 1) := by decide +kernel
theorem d_Mo_row_15 : decode b_Mo_row 15 = .ok (.invokevirtual 160, 3) := by decide +kernel
theorem d_Mo_row_18 : decode b_Mo_row 18 = .ok (.ifCond .ne 5, 3) := by decide +kernel
theorem d_Mo_row_21 : decode b_Mo_row 21 = .ok (.iconst (-1), 1) := by decide +kernel
theorem d_Mo_row_22 : decode b_Mo_row 22 = .ok (.ireturn, 1) := by decide +kernel
theorem d_Mo_row_23 : decode b_Mo_row 23 = .ok (.aload_n 0, 1) := by decide +kernel
theorem d_Mo_row_24 : decode b_Mo_row 24 = .ok (.getfield 9, 3) := by decide +kernel
theorem d_Mo_row_27 : decode b_Mo_row 27 = .ok (.bipush 10, 2) := by decide +kernel
theorem d_Mo_row_29 : decode b_Mo_row 29 = .ok (.iload_n 1, 1) := by decide +kernel
theorem d_Mo_row_30 : decode b_Mo_row 30 = .ok (.iadd, 1) := by decide +kernel
theorem d_Mo_row_31 : decode b_Mo_row 31 = .ok (.iaload, 1) := by decide +kernel
theorem d_Mo_row_32 : decode b_Mo_row 32 = .ok (.bipush 6, 2) := by decide +kernel
theorem d_Mo_row_34 : decode b_Mo_row 34 = .ok (.if_icmp .eq 6, 3) := by decide +kernel
theorem d_Mo_row_37 : decode b_Mo_row 37 = .ok (.bipush (-3), 2) := by decide +kernel
theorem d_Mo_row_39 : decode b_Mo_row 39 = .ok (.ireturn, 1) := by decide +kernel
theorem d_Mo_row_40 : decode b_Mo_row 40 = .ok (.iload_n 2, 1) := by decide +kernel
theorem d_Mo_row_41 : decode b_Mo_row 41 = .ok (.iconst (-1), 1) := by decide +kernel
theorem d_Mo_row_42 : decode b_Mo_row 42 = .ok (.if_icmp .ne 15, 3) := by decide +kernel
theorem d_Mo_row_45 : decode b_Mo_row 45 = .ok (.aload_n 0, 1) := by decide +kernel
theorem d_Mo_row_46 : decode b_Mo_row 46 = .ok (.getfield 9, 3) := by decide +kernel
theorem d_Mo_row_49 : decode b_Mo_row 49 = .ok (.bipush 26, 2) := by decide +kernel
theorem d_Mo_row_51 : decode b_Mo_row 51 = .ok (.iload_n 1, 1) := by decide +kernel
theorem d_Mo_row_52 : decode b_Mo_row 52 = .ok (.iadd, 1) := by decide +kernel
theorem d_Mo_row_53 : decode b_Mo_row 53 = .ok (.iconst 0, 1) := by decide +kernel
theorem d_Mo_row_54 : decode b_Mo_row 54 = .ok (.iastore, 1) := by decide +kernel
theorem d_Mo_row_55 : decode b_Mo_row 55 = .ok (.iconst 0, 1) := by decide +kernel
theorem d_Mo_row_56 : decode b_Mo_row 56 = .ok (.ireturn, 1) := by decide +kernel
theorem d_Mo_row_57 : decode b_Mo_row 57 = .ok (.aload_n 0, 1) := by decide +kernel
theorem d_Mo_row_58 : decode b_Mo_row 58 = .ok (.getfield 9, 3) := by decide +kernel
theorem d_Mo_row_61 : decode b_Mo_row 61 = .ok (.bipush 26, 2) := by decide +kernel
theorem d_Mo_row_63 : decode b_Mo_row 63 = .ok (.iload_n 1, 1) := by decide +kernel
theorem d_Mo_row_64 : decode b_Mo_row 64 = .ok (.iadd, 1) := by decide +kernel
theorem d_Mo_row_65 : decode b_Mo_row 65 = .ok (.iaload, 1) := by decide +kernel
theorem d_Mo_row_66 : decode b_Mo_row 66 = .ok (.bipush 7, 2) := by decide +kernel
theorem d_Mo_row_68 : decode b_Mo_row 68 = .ok (.if_icmp .ne 6, 3) := by decide +kernel
theorem d_Mo_row_71 : decode b_Mo_row 71 = .ok (.bipush (-4), 2) := by decide +kernel
theorem d_Mo_row_73 : decode b_Mo_row 73 = .ok (.ireturn, 1) := by decide +kernel
theorem d_Mo_row_74 : decode b_Mo_row 74 = .ok (.aload_n 0, 1) := by decide +kernel
theorem d_Mo_row_75 : decode b_Mo_row 75 = .ok (.getfield 9, 3) := by decide +kernel
theorem d_Mo_row_78 : decode b_Mo_row 78 = .ok (.bipush 30, 2) := by decide +kernel
theorem d_Mo_row_80 : decode b_Mo_row 80 = .ok (.bipush 7, 2) := by decide +kernel
theorem d_Mo_row_82 : decode b_Mo_row 82 = .ok (.iload_n 1, 1) := by decide +kernel
theorem d_Mo_row_83 : decode b_Mo_row 83 = .ok (.imul, 1) := by decide +kernel
theorem d_Mo_row_84 : decode b_Mo_row 84 = .ok (.iadd, 1) := by decide +kernel
theorem d_Mo_row_85 : decode b_Mo_row 85 = .ok (.aload_n 0, 1) := by decide +kernel
theorem d_Mo_row_86 : decode b_Mo_row 86 = .ok (.getfield 9, 3) := by decide +kernel
theorem d_Mo_row_89 : decode b_Mo_row 89 = .ok (.bipush 26, 2) := by decide +kernel
theorem d_Mo_row_91 : decode b_Mo_row 91 = .ok (.iload_n 1, 1) := by decide +kernel
theorem d_Mo_row_92 : decode b_Mo_row 92 = .ok (.iadd, 1) := by decide +kernel
theorem d_Mo_row_93 : decode b_Mo_row 93 = .ok (.iaload, 1) := by decide +kernel
theorem d_Mo_row_94 : decode b_Mo_row 94 = .ok (.iadd, 1) := by decide +kernel
theorem d_Mo_row_95 : decode b_Mo_row 95 = .ok (.iload_n 2, 1) := by decide +kernel
theorem d_Mo_row_96 : decode b_Mo_row 96 = .ok (.iastore, 1) := by decide +kernel
theorem d_Mo_row_97 : decode b_Mo_row 97 = .ok (.aload_n 0, 1) := by decide +kernel
theorem d_Mo_row_98 : decode b_Mo_row 98 = .ok (.getfield 9, 3) := by decide +kernel
theorem d_Mo_row_101 : decode b_Mo_row 101 = .ok (.bipush 26, 2) := by decide +kernel
theorem d_Mo_row_103 : decode b_Mo_row 103 = .ok (.iload_n 1, 1) := by decide +kernel
theorem d_Mo_row_104 : decode b_Mo_row 104 = .ok (.iadd, 1) := by decide +kernel
theorem d_Mo_row_105 : decode b_Mo_row 105 = .ok (.dup2, 1) := by decide +kernel
theorem d_Mo_row_106 : decode b_Mo_row 106 = .ok (.iaload, 1) := by decide +kernel
theorem d_Mo_row_107 : decode b_Mo_row 107 = .ok (.iconst 1, 1) := by decide +kernel
theorem d_Mo_row_108 : decode b_Mo_row 108 = .ok (.iadd, 1) := by decide +kernel
theorem d_Mo_row_109 : decode b_Mo_row 109 = .ok (.iastore, 1) := by decide +kernel
theorem d_Mo_row_110 : decode b_Mo_row 110 = .ok (.aload_n 0, 1) := by decide +kernel
theorem d_Mo_row_111 : decode b_Mo_row 111 = .ok (.getfield 9, 3) := by decide +kernel
theorem d_Mo_row_114 : decode b_Mo_row 114 = .ok (.bipush 26, 2) := by decide +kernel
theorem d_Mo_row_116 : decode b_Mo_row 116 = .ok (.iload_n 1, 1) := by decide +kernel
theorem d_Mo_row_117 : decode b_Mo_row 117 = .ok (.iadd, 1) := by decide +kernel
theorem d_Mo_row_118 : decode b_Mo_row 118 = .ok (.iaload, 1) := by decide +kernel
theorem d_Mo_row_119 : decode b_Mo_row 119 = .ok (.ireturn, 1) := by decide +kernel
theorem o_Mo_row : OkV y_Mo_row "OwnsLiftModel" b_Mo_row 3 (some .int) 2 := ⟨⟨rfl, by decide +kernel, by decide +kernel, by decide +kernel⟩, g_1180, g_1181, g_81, g_1182⟩
set_option maxHeartbeats 4000000 in
set_option maxRecDepth 100000 in
theorem c_Mo_row (l : Launch) (D : va_G) (g : Nat → ClassId) (a : Nat → Nat) (x1 : Int32) (x2 : Int32) (z : T_Mo) (v : Int32 × T_Mo) (h : d_Mo_row x1 x2 z = some v) :
    MI l y_Mo_row b_Mo_row 3 .int ({ frames := 2, cells := 0, slots := 0, locals := 43 } : Room) D g [.ref (a 0), .int x1, .int x2] (ws_Mo g a z) (v.1) (ws_Mo g a v.2) := by
  have hd := h
  unfold d_Mo_row at hd
  refine enterI rfl (Nat.le_of_ble_eq_true rfl) (fun p e s m below meth c A ls hx hb hml hr hown hg hlk hK hA hP hD hS hCs hl => ?_)
  have hown : s.vm.findClass "OwnsLiftModel" = some m.cls := hown
  have hl : lv_has ls 3 [(0, .ref (a 0)), (1, .int x1), (2, .int x2)] := hl
  show GI p l e s m ({ frames := 2, cells := 0, slots := 0, locals := 43 } : Room) ([.ref (a 0), .int x1, .int x2] : List Value).toArray below meth c A D g (ws_Mo g a v.2) (v.1) s.heap [] (F0 m 0 ls [])
  refine lv_aload_n hx hb d_Mo_row_0 rfl (lv_at hl 0 rfl) ?_
  refine lv_iload_n hx hb d_Mo_row_1 rfl (lv_at hl 1 rfl) ?_
  obtain ⟨v_1, e_2, hd⟩ := bind_s hd
  refine callVI (ws' := ws_Mo g a z) (rest := []) (As := [.int x1]) hx hb hml hown hg hK hP hD hS hA hCs hl.1 (c_Mo_isPerson l D g a x1 z _ e_2) o_Mo_isPerson g_1147 (ci := 1) (q0 := 0) rfl rfl (List.range' 0 12) (segC1 rfl rfl) (by decide) rfl (segP1 rfl rfl) rfl rfl (Nat.le_of_ble_eq_true rfl) ⟨rfl, rfl, Nat.le_of_ble_eq_true rfl, Nat.le_of_ble_eq_true rfl⟩ d_Mo_row_2 (fun H locs hP hD hS => ?_)
  refine lv_if_eq (tgt := 21) hx hb d_Mo_row_5 (by decide) (fun h_3 => ?_) (fun h_3 => ?_)
  · have hd := ite_t hd h_3
    refine lv_iconst (v := (-1)) hx hb d_Mo_row_21 (by decide) ?_
    obtain rfl := Option.some.inj hd
    exact retI hx hb hr hlk hK hP hD hS d_Mo_row_22 rfl
  · have hd := ite_f hd h_3
    refine lv_iload_n hx hb d_Mo_row_8 rfl (lv_at hl 2 rfl) ?_
    refine lv_iconst (v := (-1)) hx hb d_Mo_row_9 (by decide) ?_
    refine lv_icmp_eq (tgt := 23) hx hb d_Mo_row_10 (by decide) (fun h_4 => ?_) (fun h_4 => ?_)
    · have hd := ite_t hd h_4
      refine lv_aload_n hx hb d_Mo_row_23 rfl (lv_at hl 0 rfl) ?_
      refine va_get (D := D) (ci := 1) (v := .ref (a 1)) (C := R_Mo) (T := F_Mo) (N := 26) hx hb hg i_Mo hown hK hP 0 rfl rfl 1 (by decide) (hg _ g_993) (fun _ h9 => h9) rfl d_Mo_row_24 ?_
      refine lv_bipush (v := 10) hx hb d_Mo_row_27 (by decide) ?_
      refine lv_iload_n hx hb d_Mo_row_29 rfl (lv_at hl 1 rfl) ?_
      refine lv_iadd hx hb d_Mo_row_30 ?_
      obtain ⟨h_15, hd⟩ := ite_s hd
      refine ialdK hx hb hK hP 1 0 rfl rfl (inb_t h_15) rfl d_Mo_row_31 ?_
      refine lv_bipush (v := 6) hx hb d_Mo_row_32 (by decide) ?_
      refine lv_icmp_eq (tgt := 40) hx hb d_Mo_row_34 (by decide) (fun h_5 => ?_) (fun h_5 => ?_)
      · have hd := ite_t hd h_5
        refine lv_iload_n hx hb d_Mo_row_40 rfl (lv_at hl 2 rfl) ?_
        refine lv_iconst (v := (-1)) hx hb d_Mo_row_41 (by decide) ?_
        refine lv_icmp_ne (tgt := 57) hx hb d_Mo_row_42 (by decide) (fun h_6 => ?_) (fun h_6 => ?_)
        · have hd := ite_f hd h_6
          refine lv_aload_n hx hb d_Mo_row_57 rfl (lv_at hl 0 rfl) ?_
          refine va_get (D := D) (ci := 1) (v := .ref (a 1)) (C := R_Mo) (T := F_Mo) (N := 26) hx hb hg i_Mo hown hK hP 0 rfl rfl 1 (by decide) (hg _ g_993) (fun _ h9 => h9) rfl d_Mo_row_58 ?_
          refine lv_bipush (v := 26) hx hb d_Mo_row_61 (by decide) ?_
          refine lv_iload_n hx hb d_Mo_row_63 rfl (lv_at hl 1 rfl) ?_
          refine lv_iadd hx hb d_Mo_row_64 ?_
          obtain ⟨h_13, hd⟩ := ite_s hd
          refine ialdK hx hb hK hP 1 0 rfl rfl (inb_t h_13) rfl d_Mo_row_65 ?_
          refine lv_bipush (v := 7) hx hb d_Mo_row_66 (by decide) ?_
          refine lv_icmp_ne (tgt := 74) hx hb d_Mo_row_68 (by decide) (fun h_7 => ?_) (fun h_7 => ?_)
          · have hd := ite_f hd h_7
            refine lv_aload_n hx hb d_Mo_row_74 rfl (lv_at hl 0 rfl) ?_
            refine va_get (D := D) (ci := 1) (v := .ref (a 1)) (C := R_Mo) (T := F_Mo) (N := 26) hx hb hg i_Mo hown hK hP 0 rfl rfl 1 (by decide) (hg _ g_993) (fun _ h9 => h9) rfl d_Mo_row_75 ?_
            refine lv_bipush (v := 30) hx hb d_Mo_row_78 (by decide) ?_
            refine lv_bipush (v := 7) hx hb d_Mo_row_80 (by decide) ?_
            refine lv_iload_n hx hb d_Mo_row_82 rfl (lv_at hl 1 rfl) ?_
            refine lv_imul hx hb d_Mo_row_83 ?_
            refine lv_iadd hx hb d_Mo_row_84 ?_
            refine lv_aload_n hx hb d_Mo_row_85 rfl (lv_at hl 0 rfl) ?_
            refine va_get (D := D) (ci := 1) (v := .ref (a 1)) (C := R_Mo) (T := F_Mo) (N := 26) hx hb hg i_Mo hown hK hP 0 rfl rfl 1 (by decide) (hg _ g_993) (fun _ h9 => h9) rfl d_Mo_row_86 ?_
            refine lv_bipush (v := 26) hx hb d_Mo_row_89 (by decide) ?_
            refine lv_iload_n hx hb d_Mo_row_91 rfl (lv_at hl 1 rfl) ?_
            refine lv_iadd hx hb d_Mo_row_92 ?_
            obtain ⟨h_12, hd⟩ := ite_s hd
            refine ialdK hx hb hK hP 1 0 rfl rfl (inb_t h_12) rfl d_Mo_row_93 ?_
            refine lv_iadd hx hb d_Mo_row_94 ?_
            refine lv_iload_n hx hb d_Mo_row_95 rfl (lv_at hl 2 rfl) ?_
            obtain ⟨h_11, hd⟩ := ite_s hd
            refine iastK hx hb hK hP hD hS 1 0 rfl rfl (inb_t h_11) rfl d_Mo_row_96 (fun H locs hP hD hS => ?_)
            have hP : va_P D classes (ws_Mo g a (u_Mo_s z (upd (q_Mo_s z) ((30 + (7 * x1)) + ((q_Mo_s z) (26 + x1).toNatClampNeg)).toNatClampNeg x2))) H := hP
            have hD : va_D A (ws_Mo g a (u_Mo_s z (upd (q_Mo_s z) ((30 + (7 * x1)) + ((q_Mo_s z) (26 + x1).toNatClampNeg)).toNatClampNeg x2))) := hD
            refine lv_aload_n hx hb d_Mo_row_97 rfl (lv_at hl 0 rfl) ?_
            refine va_get (D := D) (ci := 1) (v := .ref (a 1)) (C := R_Mo) (T := F_Mo) (N := 26) hx hb hg i_Mo hown hK hP 0 rfl rfl 1 (by decide) (hg _ g_993) (fun _ h9 => h9) rfl d_Mo_row_98 ?_
            refine lv_bipush (v := 26) hx hb d_Mo_row_101 (by decide) ?_
            refine lv_iload_n hx hb d_Mo_row_103 rfl (lv_at hl 1 rfl) ?_
            refine lv_iadd hx hb d_Mo_row_104 ?_
            refine lv_dup2_11 hx hb d_Mo_row_105 rfl rfl ?_
            obtain ⟨h_10, hd⟩ := ite_s hd
            refine ialdK hx hb hK hP 1 0 rfl rfl (inb_t h_10) rfl d_Mo_row_106 ?_
            refine lv_iconst (v := 1) hx hb d_Mo_row_107 (by decide) ?_
            refine lv_iadd hx hb d_Mo_row_108 ?_
            obtain ⟨h_9, hd⟩ := ite_s hd
            refine iastK hx hb hK hP hD hS 1 0 rfl rfl (inb_t h_9) rfl d_Mo_row_109 (fun H locs hP hD hS => ?_)
            have hP : va_P D classes (ws_Mo g a (u_Mo_s (u_Mo_s z (upd (q_Mo_s z) ((30 + (7 * x1)) + ((q_Mo_s z) (26 + x1).toNatClampNeg)).toNatClampNeg x2)) (upd (q_Mo_s (u_Mo_s z (upd (q_Mo_s z) ((30 + (7 * x1)) + ((q_Mo_s z) (26 + x1).toNatClampNeg)).toNatClampNeg x2))) (26 + x1).toNatClampNeg (((q_Mo_s (u_Mo_s z (upd (q_Mo_s z) ((30 + (7 * x1)) + ((q_Mo_s z) (26 + x1).toNatClampNeg)).toNatClampNeg x2))) (26 + x1).toNatClampNeg) + 1)))) H := hP
            have hD : va_D A (ws_Mo g a (u_Mo_s (u_Mo_s z (upd (q_Mo_s z) ((30 + (7 * x1)) + ((q_Mo_s z) (26 + x1).toNatClampNeg)).toNatClampNeg x2)) (upd (q_Mo_s (u_Mo_s z (upd (q_Mo_s z) ((30 + (7 * x1)) + ((q_Mo_s z) (26 + x1).toNatClampNeg)).toNatClampNeg x2))) (26 + x1).toNatClampNeg (((q_Mo_s (u_Mo_s z (upd (q_Mo_s z) ((30 + (7 * x1)) + ((q_Mo_s z) (26 + x1).toNatClampNeg)).toNatClampNeg x2))) (26 + x1).toNatClampNeg) + 1)))) := hD
            refine lv_aload_n hx hb d_Mo_row_110 rfl (lv_at hl 0 rfl) ?_
            refine va_get (D := D) (ci := 1) (v := .ref (a 1)) (C := R_Mo) (T := F_Mo) (N := 26) hx hb hg i_Mo hown hK hP 0 rfl rfl 1 (by decide) (hg _ g_993) (fun _ h9 => h9) rfl d_Mo_row_111 ?_
            refine lv_bipush (v := 26) hx hb d_Mo_row_114 (by decide) ?_
            refine lv_iload_n hx hb d_Mo_row_116 rfl (lv_at hl 1 rfl) ?_
            refine lv_iadd hx hb d_Mo_row_117 ?_
            obtain ⟨h_8, hd⟩ := ite_s hd
            refine ialdK hx hb hK hP 1 0 rfl rfl (inb_t h_8) rfl d_Mo_row_118 ?_
            obtain rfl := Option.some.inj hd
            exact retI hx hb hr hlk hK hP hD hS d_Mo_row_119 rfl
          · have hd := ite_t hd h_7
            refine lv_bipush (v := (-4)) hx hb d_Mo_row_71 (by decide) ?_
            obtain rfl := Option.some.inj hd
            exact retI hx hb hr hlk hK hP hD hS d_Mo_row_73 rfl
        · have hd := ite_t hd h_6
          refine lv_aload_n hx hb d_Mo_row_45 rfl (lv_at hl 0 rfl) ?_
          refine va_get (D := D) (ci := 1) (v := .ref (a 1)) (C := R_Mo) (T := F_Mo) (N := 26) hx hb hg i_Mo hown hK hP 0 rfl rfl 1 (by decide) (hg _ g_993) (fun _ h9 => h9) rfl d_Mo_row_46 ?_
          refine lv_bipush (v := 26) hx hb d_Mo_row_49 (by decide) ?_
          refine lv_iload_n hx hb d_Mo_row_51 rfl (lv_at hl 1 rfl) ?_
          refine lv_iadd hx hb d_Mo_row_52 ?_
          refine lv_iconst (v := 0) hx hb d_Mo_row_53 (by decide) ?_
          obtain ⟨h_14, hd⟩ := ite_s hd
          refine iastK hx hb hK hP hD hS 1 0 rfl rfl (inb_t h_14) rfl d_Mo_row_54 (fun H locs hP hD hS => ?_)
          have hP : va_P D classes (ws_Mo g a (u_Mo_s z (upd (q_Mo_s z) (26 + x1).toNatClampNeg 0))) H := hP
          have hD : va_D A (ws_Mo g a (u_Mo_s z (upd (q_Mo_s z) (26 + x1).toNatClampNeg 0))) := hD
          refine lv_iconst (v := 0) hx hb d_Mo_row_55 (by decide) ?_
          obtain rfl := Option.some.inj hd
          exact retI hx hb hr hlk hK hP hD hS d_Mo_row_56 rfl
      · have hd := ite_f hd h_5
        refine lv_bipush (v := (-3)) hx hb d_Mo_row_37 (by decide) ?_
        obtain rfl := Option.some.inj hd
        exact retI hx hb hr hlk hK hP hD hS d_Mo_row_39 rfl
    · have hd := ite_f hd h_4
      refine lv_aload_n hx hb d_Mo_row_13 rfl (lv_at hl 0 rfl) ?_
      refine lv_iload_n hx hb d_Mo_row_14 rfl (lv_at hl 2 rfl) ?_
      obtain ⟨v_16, e_17, hd⟩ := bind_s hd
      refine callVI (ws' := ws_Mo g a z) (rest := []) (As := [.int x2]) hx hb hml hown hg hK hP hD hS hA hCs hl.1 (c_Mo_isThing l D g a x2 z _ e_17) o_Mo_isThing g_1183 (ci := 1) (q0 := 0) rfl rfl (List.range' 0 12) (segC1 rfl rfl) (by decide) rfl (segP1 rfl rfl) rfl rfl (Nat.le_of_ble_eq_true rfl) ⟨rfl, rfl, Nat.le_of_ble_eq_true rfl, Nat.le_of_ble_eq_true rfl⟩ d_Mo_row_15 (fun H locs hP hD hS => ?_)
      refine lv_if_ne (tgt := 23) hx hb d_Mo_row_18 (by decide) (fun h_18 => ?_) (fun h_18 => ?_)
      · have hd := ite_f hd h_18
        refine lv_aload_n hx hb d_Mo_row_23 rfl (lv_at hl 0 rfl) ?_
        refine va_get (D := D) (ci := 1) (v := .ref (a 1)) (C := R_Mo) (T := F_Mo) (N := 26) hx hb hg i_Mo hown hK hP 0 rfl rfl 1 (by decide) (hg _ g_993) (fun _ h9 => h9) rfl d_Mo_row_24 ?_
        refine lv_bipush (v := 10) hx hb d_Mo_row_27 (by decide) ?_
        refine lv_iload_n hx hb d_Mo_row_29 rfl (lv_at hl 1 rfl) ?_
        refine lv_iadd hx hb d_Mo_row_30 ?_
        obtain ⟨h_29, hd⟩ := ite_s hd
        refine ialdK hx hb hK hP 1 0 rfl rfl (inb_t h_29) rfl d_Mo_row_31 ?_
        refine lv_bipush (v := 6) hx hb d_Mo_row_32 (by decide) ?_
        refine lv_icmp_eq (tgt := 40) hx hb d_Mo_row_34 (by decide) (fun h_19 => ?_) (fun h_19 => ?_)
        · have hd := ite_t hd h_19
          refine lv_iload_n hx hb d_Mo_row_40 rfl (lv_at hl 2 rfl) ?_
          refine lv_iconst (v := (-1)) hx hb d_Mo_row_41 (by decide) ?_
          refine lv_icmp_ne (tgt := 57) hx hb d_Mo_row_42 (by decide) (fun h_20 => ?_) (fun h_20 => ?_)
          · have hd := ite_f hd h_20
            refine lv_aload_n hx hb d_Mo_row_57 rfl (lv_at hl 0 rfl) ?_
            refine va_get (D := D) (ci := 1) (v := .ref (a 1)) (C := R_Mo) (T := F_Mo) (N := 26) hx hb hg i_Mo hown hK hP 0 rfl rfl 1 (by decide) (hg _ g_993) (fun _ h9 => h9) rfl d_Mo_row_58 ?_
            refine lv_bipush (v := 26) hx hb d_Mo_row_61 (by decide) ?_
            refine lv_iload_n hx hb d_Mo_row_63 rfl (lv_at hl 1 rfl) ?_
            refine lv_iadd hx hb d_Mo_row_64 ?_
            obtain ⟨h_27, hd⟩ := ite_s hd
            refine ialdK hx hb hK hP 1 0 rfl rfl (inb_t h_27) rfl d_Mo_row_65 ?_
            refine lv_bipush (v := 7) hx hb d_Mo_row_66 (by decide) ?_
            refine lv_icmp_ne (tgt := 74) hx hb d_Mo_row_68 (by decide) (fun h_21 => ?_) (fun h_21 => ?_)
            · have hd := ite_f hd h_21
              refine lv_aload_n hx hb d_Mo_row_74 rfl (lv_at hl 0 rfl) ?_
              refine va_get (D := D) (ci := 1) (v := .ref (a 1)) (C := R_Mo) (T := F_Mo) (N := 26) hx hb hg i_Mo hown hK hP 0 rfl rfl 1 (by decide) (hg _ g_993) (fun _ h9 => h9) rfl d_Mo_row_75 ?_
              refine lv_bipush (v := 30) hx hb d_Mo_row_78 (by decide) ?_
              refine lv_bipush (v := 7) hx hb d_Mo_row_80 (by decide) ?_
              refine lv_iload_n hx hb d_Mo_row_82 rfl (lv_at hl 1 rfl) ?_
              refine lv_imul hx hb d_Mo_row_83 ?_
              refine lv_iadd hx hb d_Mo_row_84 ?_
              refine lv_aload_n hx hb d_Mo_row_85 rfl (lv_at hl 0 rfl) ?_
              refine va_get (D := D) (ci := 1) (v := .ref (a 1)) (C := R_Mo) (T := F_Mo) (N := 26) hx hb hg i_Mo hown hK hP 0 rfl rfl 1 (by decide) (hg _ g_993) (fun _ h9 => h9) rfl d_Mo_row_86 ?_
              refine lv_bipush (v := 26) hx hb d_Mo_row_89 (by decide) ?_
              refine lv_iload_n hx hb d_Mo_row_91 rfl (lv_at hl 1 rfl) ?_
              refine lv_iadd hx hb d_Mo_row_92 ?_
              obtain ⟨h_26, hd⟩ := ite_s hd
              refine ialdK hx hb hK hP 1 0 rfl rfl (inb_t h_26) rfl d_Mo_row_93 ?_
              refine lv_iadd hx hb d_Mo_row_94 ?_
              refine lv_iload_n hx hb d_Mo_row_95 rfl (lv_at hl 2 rfl) ?_
              obtain ⟨h_25, hd⟩ := ite_s hd
              refine iastK hx hb hK hP hD hS 1 0 rfl rfl (inb_t h_25) rfl d_Mo_row_96 (fun H locs hP hD hS => ?_)
              have hP : va_P D classes (ws_Mo g a (u_Mo_s z (upd (q_Mo_s z) ((30 + (7 * x1)) + ((q_Mo_s z) (26 + x1).toNatClampNeg)).toNatClampNeg x2))) H := hP
              have hD : va_D A (ws_Mo g a (u_Mo_s z (upd (q_Mo_s z) ((30 + (7 * x1)) + ((q_Mo_s z) (26 + x1).toNatClampNeg)).toNatClampNeg x2))) := hD
              refine lv_aload_n hx hb d_Mo_row_97 rfl (lv_at hl 0 rfl) ?_
              refine va_get (D := D) (ci := 1) (v := .ref (a 1)) (C := R_Mo) (T := F_Mo) (N := 26) hx hb hg i_Mo hown hK hP 0 rfl rfl 1 (by decide) (hg _ g_993) (fun _ h9 => h9) rfl d_Mo_row_98 ?_
              refine lv_bipush (v := 26) hx hb d_Mo_row_101 (by decide) ?_
              refine lv_iload_n hx hb d_Mo_row_103 rfl (lv_at hl 1 rfl) ?_
              refine lv_iadd hx hb d_Mo_row_104 ?_
              refine lv_dup2_11 hx hb d_Mo_row_105 rfl rfl ?_
              obtain ⟨h_24, hd⟩ := ite_s hd
              refine ialdK hx hb hK hP 1 0 rfl rfl (inb_t h_24) rfl d_Mo_row_106 ?_
              refine lv_iconst (v := 1) hx hb d_Mo_row_107 (by decide) ?_
              refine lv_iadd hx hb d_Mo_row_108 ?_
              obtain ⟨h_23, hd⟩ := ite_s hd
              refine iastK hx hb hK hP hD hS 1 0 rfl rfl (inb_t h_23) rfl d_Mo_row_109 (fun H locs hP hD hS => ?_)
              have hP : va_P D classes (ws_Mo g a (u_Mo_s (u_Mo_s z (upd (q_Mo_s z) ((30 + (7 * x1)) + ((q_Mo_s z) (26 + x1).toNatClampNeg)).toNatClampNeg x2)) (upd (q_Mo_s (u_Mo_s z (upd (q_Mo_s z) ((30 + (7 * x1)) + ((q_Mo_s z) (26 + x1).toNatClampNeg)).toNatClampNeg x2))) (26 + x1).toNatClampNeg (((q_Mo_s (u_Mo_s z (upd (q_Mo_s z) ((30 + (7 * x1)) + ((q_Mo_s z) (26 + x1).toNatClampNeg)).toNatClampNeg x2))) (26 + x1).toNatClampNeg) + 1)))) H := hP
              have hD : va_D A (ws_Mo g a (u_Mo_s (u_Mo_s z (upd (q_Mo_s z) ((30 + (7 * x1)) + ((q_Mo_s z) (26 + x1).toNatClampNeg)).toNatClampNeg x2)) (upd (q_Mo_s (u_Mo_s z (upd (q_Mo_s z) ((30 + (7 * x1)) + ((q_Mo_s z) (26 + x1).toNatClampNeg)).toNatClampNeg x2))) (26 + x1).toNatClampNeg (((q_Mo_s (u_Mo_s z (upd (q_Mo_s z) ((30 + (7 * x1)) + ((q_Mo_s z) (26 + x1).toNatClampNeg)).toNatClampNeg x2))) (26 + x1).toNatClampNeg) + 1)))) := hD
              refine lv_aload_n hx hb d_Mo_row_110 rfl (lv_at hl 0 rfl) ?_
              refine va_get (D := D) (ci := 1) (v := .ref (a 1)) (C := R_Mo) (T := F_Mo) (N := 26) hx hb hg i_Mo hown hK hP 0 rfl rfl 1 (by decide) (hg _ g_993) (fun _ h9 => h9) rfl d_Mo_row_111 ?_
              refine lv_bipush (v := 26) hx hb d_Mo_row_114 (by decide) ?_
              refine lv_iload_n hx hb d_Mo_row_116 rfl (lv_at hl 1 rfl) ?_
              refine lv_iadd hx hb d_Mo_row_117 ?_
              obtain ⟨h_22, hd⟩ := ite_s hd
              refine ialdK hx hb hK hP 1 0 rfl rfl (inb_t h_22) rfl d_Mo_row_118 ?_
              obtain rfl := Option.some.inj hd
              exact retI hx hb hr hlk hK hP hD hS d_Mo_row_119 rfl
            · have hd := ite_t hd h_21
              refine lv_bipush (v := (-4)) hx hb d_Mo_row_71 (by decide) ?_
              obtain rfl := Option.some.inj hd
              exact retI hx hb hr hlk hK hP hD hS d_Mo_row_73 rfl
          · have hd := ite_t hd h_20
            refine lv_aload_n hx hb d_Mo_row_45 rfl (lv_at hl 0 rfl) ?_
            refine va_get (D := D) (ci := 1) (v := .ref (a 1)) (C := R_Mo) (T := F_Mo) (N := 26) hx hb hg i_Mo hown hK hP 0 rfl rfl 1 (by decide) (hg _ g_993) (fun _ h9 => h9) rfl d_Mo_row_46 ?_
            refine lv_bipush (v := 26) hx hb d_Mo_row_49 (by decide) ?_
            refine lv_iload_n hx hb d_Mo_row_51 rfl (lv_at hl 1 rfl) ?_
            refine lv_iadd hx hb d_Mo_row_52 ?_
            refine lv_iconst (v := 0) hx hb d_Mo_row_53 (by decide) ?_
            obtain ⟨h_28, hd⟩ := ite_s hd
            refine iastK hx hb hK hP hD hS 1 0 rfl rfl (inb_t h_28) rfl d_Mo_row_54 (fun H locs hP hD hS => ?_)
            have hP : va_P D classes (ws_Mo g a (u_Mo_s z (upd (q_Mo_s z) (26 + x1).toNatClampNeg 0))) H := hP
            have hD : va_D A (ws_Mo g a (u_Mo_s z (upd (q_Mo_s z) (26 + x1).toNatClampNeg 0))) := hD
            refine lv_iconst (v := 0) hx hb d_Mo_row_55 (by decide) ?_
            obtain rfl := Option.some.inj hd
            exact retI hx hb hr hlk hK hP hD hS d_Mo_row_56 rfl
        · have hd := ite_f hd h_19
          refine lv_bipush (v := (-3)) hx hb d_Mo_row_37 (by decide) ?_
          obtain rfl := Option.some.inj hd
          exact retI hx hb hr hlk hK hP hD hS d_Mo_row_39 rfl
      · have hd := ite_t hd h_18
        refine lv_iconst (v := (-1)) hx hb d_Mo_row_21 (by decide) ?_
        obtain rfl := Option.some.inj hd
        exact retI hx hb hr hlk hK hP hD hS d_Mo_row_22 rfl
-- OwnsLiftModel.thing(I)I
def d_Mo_thing (x1 : Int32) (z : T_Mo) : Option (Int32 × T_Mo) :=
  (d_Mo_in x1 0 50).bind fun v_1 => if v_1 = 0 then (some ((-2), z)) else (if ((q_Mo_s z) 1) = 7 then (some ((-4), z)) else (if inb (58 + ((q_Mo_s z) 1)) 901 = true then (if inb (65 + ((q_Mo_s z) 1)) 901 = true then (some ((q_Mo_s z) 1, (u_Mo_s (u_Mo_s (u_Mo_s z (upd (q_Mo_s z) (58 + ((q_Mo_s z) 1)).toNatClampNeg x1)) (upd (q_Mo_s (u_Mo_s z (upd (q_Mo_s z) (58 + ((q_Mo_s z) 1)).toNatClampNeg x1))) (65 + ((q_Mo_s z) 1)).toNatClampNeg 4)) (upd (q_Mo_s (u_Mo_s (u_Mo_s z (upd (q_Mo_s z) (58 + ((q_Mo_s z) 1)).toNatClampNeg x1)) (upd (q_Mo_s (u_Mo_s z (upd (q_Mo_s z) (58 + ((q_Mo_s z) 1)).toNatClampNeg x1))) (65 + ((q_Mo_s z) 1)).toNatClampNeg 4))) 1 (((q_Mo_s (u_Mo_s (u_Mo_s z (upd (q_Mo_s z) (58 + ((q_Mo_s z) 1)).toNatClampNeg x1)) (upd (q_Mo_s (u_Mo_s z (upd (q_Mo_s z) (58 + ((q_Mo_s z) 1)).toNatClampNeg x1))) (65 + ((q_Mo_s z) 1)).toNatClampNeg 4))) 1) + 1))))) else none) else none))
theorem d_Mo_thing_0 : decode b_Mo_thing 0 = .ok (.iload_n 1, 1) := by decide +kernel
theorem d_Mo_thing_1 : decode b_Mo_thing 1 = .ok (.iconst 0, 1) := by decide +kernel
theorem d_Mo_thing_2 : decode b_Mo_thing 2 = .ok (.bipush 50, 2) := by decide +kernel
theorem d_Mo_thing_4 : decode b_Mo_thing 4 = .ok (.invokestatic 50, 3) := by decide +kernel
theorem d_Mo_thing_7 : decode b_Mo_thing 7 = .ok (.ifCond .ne 6, 3) := by decide +kernel
theorem d_Mo_thing_10 : decode b_Mo_thing 10 = .ok (.bipush (-2), 2) := by decide +kernel
theorem d_Mo_thing_12 : decode b_Mo_thing 12 = .ok (.ireturn, 1) := by decide +kernel
theorem d_Mo_thing_13 : decode b_Mo_thing 13 = .ok (.aload_n 0, 1) := by decide +kernel
theorem d_Mo_thing_14 : decode b_Mo_thing 14 = .ok (.getfield 9, 3) := by decide +kernel
theorem d_Mo_thing_17 : decode b_Mo_thing 17 = .ok (.iconst 1, 1) := by decide +kernel
theorem d_Mo_thing_18 : decode b_Mo_thing 18 = .ok (.iaload, 1) := by decide +kernel
theorem d_Mo_thing_19 : decode b_Mo_thing 19 = .ok (.bipush 7, 2) := by decide +kernel
theorem d_Mo_thing_21 : decode b_Mo_thing 21 = .ok (.if_icmp .ne 6, 3) := by decide +kernel
theorem d_Mo_thing_24 : decode b_Mo_thing 24 = .ok (.bipush (-4), 2) := by decide +kernel
theorem d_Mo_thing_26 : decode b_Mo_thing 26 = .ok (.ireturn, 1) := by decide +kernel
theorem d_Mo_thing_27 : decode b_Mo_thing 27 = .ok (.aload_n 0, 1) := by decide +kernel
theorem d_Mo_thing_28 : decode b_Mo_thing 28 = .ok (.getfield 9, 3) := by decide +kernel
theorem d_Mo_thing_31 : decode b_Mo_thing 31 = .ok (.iconst 1, 1) := by decide +kernel
theorem d_Mo_thing_32 : decode b_Mo_thing 32 = .ok (.iaload, 1) := by decide +kernel
theorem d_Mo_thing_33 : decode b_Mo_thing 33 = .ok (.istore_n 2, 1) := by decide +kernel
theorem d_Mo_thing_34 : decode b_Mo_thing 34 = .ok (.aload_n 0, 1) := by decide +kernel
theorem d_Mo_thing_35 : decode b_Mo_thing 35 = .ok (.getfield 9, 3) := by decide +kernel
theorem d_Mo_thing_38 : decode b_Mo_thing 38 = .ok (.bipush 58, 2) := by decide +kernel
theorem d_Mo_thing_40 : decode b_Mo_thing 40 = .ok (.iload_n 2, 1) := by decide +kernel
theorem d_Mo_thing_41 : decode b_Mo_thing 41 = .ok (.iadd, 1) := by decide +kernel
theorem d_Mo_thing_42 : decode b_Mo_thing 42 = .ok (.iload_n 1, 1) := by decide +kernel
theorem d_Mo_thing_43 : decode b_Mo_thing 43 = .ok (.iastore, 1) := by decide +kernel
theorem d_Mo_thing_44 : decode b_Mo_thing 44 = .ok (.aload_n 0, 1) := by decide +kernel
theorem d_Mo_thing_45 : decode b_Mo_thing 45 = .ok (.getfield 9, 3) := by decide +kernel
theorem d_Mo_thing_48 : decode b_Mo_thing 48 = .ok (.bipush 65, 2) := by decide +kernel
theorem d_Mo_thing_50 : decode b_Mo_thing 50 = .ok (.iload_n 2, 1) := by decide +kernel
theorem d_Mo_thing_51 : decode b_Mo_thing 51 = .ok (.iadd, 1) := by decide +kernel
theorem d_Mo_thing_52 : decode b_Mo_thing 52 = .ok (.iconst 4, 1) := by decide +kernel
theorem d_Mo_thing_53 : decode b_Mo_thing 53 = .ok (.iastore, 1) := by decide +kernel
theorem d_Mo_thing_54 : decode b_Mo_thing 54 = .ok (.aload_n 0, 1) := by decide +kernel
theorem d_Mo_thing_55 : decode b_Mo_thing 55 = .ok (.getfield 9, 3) := by decide +kernel
theorem d_Mo_thing_58 : decode b_Mo_thing 58 = .ok (.iconst 1, 1) := by decide +kernel
theorem d_Mo_thing_59 : decode b_Mo_thing 59 = .ok (.dup2, 1) := by decide +kernel
theorem d_Mo_thing_60 : decode b_Mo_thing 60 = .ok (.iaload, 1) := by decide +kernel
theorem d_Mo_thing_61 : decode b_Mo_thing 61 = .ok (.iconst 1, 1) := by decide +kernel
theorem d_Mo_thing_62 : decode b_Mo_thing 62 = .ok (.iadd, 1) := by decide +kernel
theorem d_Mo_thing_63 : decode b_Mo_thing 63 = .ok (.iastore, 1) := by decide +kernel
theorem d_Mo_thing_64 : decode b_Mo_thing 64 = .ok (.iload_n 2, 1) := by decide +kernel
theorem d_Mo_thing_65 : decode b_Mo_thing 65 = .ok (.ireturn, 1) := by decide +kernel
theorem o_Mo_thing : OkV y_Mo_thing "OwnsLiftModel" b_Mo_thing 3 (some .int) 1 := ⟨⟨rfl, by decide +kernel, by decide +kernel, by decide +kernel⟩, g_1188, g_1189, g_81, g_1190⟩
set_option maxHeartbeats 4000000 in
set_option maxRecDepth 100000 in
theorem c_Mo_thing (l : Launch) (D : va_G) (g : Nat → ClassId) (a : Nat → Nat) (x1 : Int32) (z : T_Mo) (v : Int32 × T_Mo) (h : d_Mo_thing x1 z = some v) :
    MI l y_Mo_thing b_Mo_thing 3 .int ({ frames := 1, cells := 0, slots := 0, locals := 22 } : Room) D g [.ref (a 0), .int x1] (ws_Mo g a z) (v.1) (ws_Mo g a v.2) := by
  have hd := h
  unfold d_Mo_thing at hd
  refine enterI rfl (Nat.le_of_ble_eq_true rfl) (fun p e s m below meth c A ls hx hb hml hr hown hg hlk hK hA hP hD hS hCs hl => ?_)
  have hown : s.vm.findClass "OwnsLiftModel" = some m.cls := hown
  have hl : lv_has ls 3 [(0, .ref (a 0)), (1, .int x1)] := hl
  show GI p l e s m ({ frames := 1, cells := 0, slots := 0, locals := 22 } : Room) ([.ref (a 0), .int x1] : List Value).toArray below meth c A D g (ws_Mo g a v.2) (v.1) s.heap [] (F0 m 0 ls [])
  refine lv_iload_n hx hb d_Mo_thing_0 rfl (lv_at hl 1 rfl) ?_
  refine lv_iconst (v := 0) hx hb d_Mo_thing_1 (by decide) ?_
  refine lv_bipush (v := 50) hx hb d_Mo_thing_2 (by decide) ?_
  obtain ⟨v_1, e_2, hd⟩ := bind_s hd
  refine callSI (ws' := ws_Mo g a z) (rest := []) (As := [.int x1, .int 0, .int 50]) hx hb hml hown hg hK hP hD hS hA hCs hl.1 (c_Mo_in l D g  x1 0 50 _ e_2) o_Mo_in g_1076 [] segC0 rfl rfl segP0 rfl rfl (Nat.le_of_ble_eq_true rfl) ⟨rfl, rfl, Nat.le_of_ble_eq_true rfl, Nat.le_of_ble_eq_true rfl⟩ d_Mo_thing_4 (fun H locs hP hD hS => ?_)
  refine lv_if_ne (tgt := 13) hx hb d_Mo_thing_7 (by decide) (fun h_3 => ?_) (fun h_3 => ?_)
  · have hd := ite_f hd h_3
    refine lv_aload_n hx hb d_Mo_thing_13 rfl (lv_at hl 0 rfl) ?_
    refine va_get (D := D) (ci := 1) (v := .ref (a 1)) (C := R_Mo) (T := F_Mo) (N := 26) hx hb hg i_Mo hown hK hP 0 rfl rfl 1 (by decide) (hg _ g_993) (fun _ h9 => h9) rfl d_Mo_thing_14 ?_
    refine lv_iconst (v := 1) hx hb d_Mo_thing_17 (by decide) ?_
    refine ialdK hx hb hK hP 1 0 rfl rfl (inb_t (by decide +kernel)) (k := 1) (by decide +kernel) d_Mo_thing_18 ?_
    refine lv_bipush (v := 7) hx hb d_Mo_thing_19 (by decide) ?_
    refine lv_icmp_ne (tgt := 27) hx hb d_Mo_thing_21 (by decide) (fun h_4 => ?_) (fun h_4 => ?_)
    · have hd := ite_f hd h_4
      refine lv_aload_n hx hb d_Mo_thing_27 rfl (lv_at hl 0 rfl) ?_
      refine va_get (D := D) (ci := 1) (v := .ref (a 1)) (C := R_Mo) (T := F_Mo) (N := 26) hx hb hg i_Mo hown hK hP 0 rfl rfl 1 (by decide) (hg _ g_993) (fun _ h9 => h9) rfl d_Mo_thing_28 ?_
      refine lv_iconst (v := 1) hx hb d_Mo_thing_31 (by decide) ?_
      refine ialdK hx hb hK hP 1 0 rfl rfl (inb_t (by decide +kernel)) (k := 1) (by decide +kernel) d_Mo_thing_32 ?_
      refine lv_istore_n (lv' := [(2, .int ((q_Mo_s z) 1)), (0, .ref (a 0)), (1, .int x1)]) hx hb d_Mo_thing_33 rfl hl (by decide) rfl (fun ls hl => ?_)
      refine lv_aload_n hx hb d_Mo_thing_34 rfl (lv_at hl 1 rfl) ?_
      refine va_get (D := D) (ci := 1) (v := .ref (a 1)) (C := R_Mo) (T := F_Mo) (N := 26) hx hb hg i_Mo hown hK hP 0 rfl rfl 1 (by decide) (hg _ g_993) (fun _ h9 => h9) rfl d_Mo_thing_35 ?_
      refine lv_bipush (v := 58) hx hb d_Mo_thing_38 (by decide) ?_
      refine lv_iload_n hx hb d_Mo_thing_40 rfl (lv_at hl 0 rfl) ?_
      refine lv_iadd hx hb d_Mo_thing_41 ?_
      refine lv_iload_n hx hb d_Mo_thing_42 rfl (lv_at hl 2 rfl) ?_
      obtain ⟨h_6, hd⟩ := ite_s hd
      refine iastK hx hb hK hP hD hS 1 0 rfl rfl (inb_t h_6) rfl d_Mo_thing_43 (fun H locs hP hD hS => ?_)
      have hP : va_P D classes (ws_Mo g a (u_Mo_s z (upd (q_Mo_s z) (58 + ((q_Mo_s z) 1)).toNatClampNeg x1))) H := hP
      have hD : va_D A (ws_Mo g a (u_Mo_s z (upd (q_Mo_s z) (58 + ((q_Mo_s z) 1)).toNatClampNeg x1))) := hD
      refine lv_aload_n hx hb d_Mo_thing_44 rfl (lv_at hl 1 rfl) ?_
      refine va_get (D := D) (ci := 1) (v := .ref (a 1)) (C := R_Mo) (T := F_Mo) (N := 26) hx hb hg i_Mo hown hK hP 0 rfl rfl 1 (by decide) (hg _ g_993) (fun _ h9 => h9) rfl d_Mo_thing_45 ?_
      refine lv_bipush (v := 65) hx hb d_Mo_thing_48 (by decide) ?_
      refine lv_iload_n hx hb d_Mo_thing_50 rfl (lv_at hl 0 rfl) ?_
      refine lv_iadd hx hb d_Mo_thing_51 ?_
      refine lv_iconst (v := 4) hx hb d_Mo_thing_52 (by decide) ?_
      obtain ⟨h_5, hd⟩ := ite_s hd
      refine iastK hx hb hK hP hD hS 1 0 rfl rfl (inb_t h_5) rfl d_Mo_thing_53 (fun H locs hP hD hS => ?_)
      have hP : va_P D classes (ws_Mo g a (u_Mo_s (u_Mo_s z (upd (q_Mo_s z) (58 + ((q_Mo_s z) 1)).toNatClampNeg x1)) (upd (q_Mo_s (u_Mo_s z (upd (q_Mo_s z) (58 + ((q_Mo_s z) 1)).toNatClampNeg x1))) (65 + ((q_Mo_s z) 1)).toNatClampNeg 4))) H := hP
      have hD : va_D A (ws_Mo g a (u_Mo_s (u_Mo_s z (upd (q_Mo_s z) (58 + ((q_Mo_s z) 1)).toNatClampNeg x1)) (upd (q_Mo_s (u_Mo_s z (upd (q_Mo_s z) (58 + ((q_Mo_s z) 1)).toNatClampNeg x1))) (65 + ((q_Mo_s z) 1)).toNatClampNeg 4))) := hD
      refine lv_aload_n hx hb d_Mo_thing_54 rfl (lv_at hl 1 rfl) ?_
      refine va_get (D := D) (ci := 1) (v := .ref (a 1)) (C := R_Mo) (T := F_Mo) (N := 26) hx hb hg i_Mo hown hK hP 0 rfl rfl 1 (by decide) (hg _ g_993) (fun _ h9 => h9) rfl d_Mo_thing_55 ?_
      refine lv_iconst (v := 1) hx hb d_Mo_thing_58 (by decide) ?_
      refine lv_dup2_11 hx hb d_Mo_thing_59 rfl rfl ?_
      refine ialdK hx hb hK hP 1 0 rfl rfl (inb_t (by decide +kernel)) (k := 1) (by decide +kernel) d_Mo_thing_60 ?_
      refine lv_iconst (v := 1) hx hb d_Mo_thing_61 (by decide) ?_
      refine lv_iadd hx hb d_Mo_thing_62 ?_
      refine iastK hx hb hK hP hD hS 1 0 rfl rfl (inb_t (by decide +kernel)) (k := 1) (by decide +kernel) d_Mo_thing_63 (fun H locs hP hD hS => ?_)
      have hP : va_P D classes (ws_Mo g a (u_Mo_s (u_Mo_s (u_Mo_s z (upd (q_Mo_s z) (58 + ((q_Mo_s z) 1)).toNatClampNeg x1)) (upd (q_Mo_s (u_Mo_s z (upd (q_Mo_s z) (58 + ((q_Mo_s z) 1)).toNatClampNeg x1))) (65 + ((q_Mo_s z) 1)).toNatClampNeg 4)) (upd (q_Mo_s (u_Mo_s (u_Mo_s z (upd (q_Mo_s z) (58 + ((q_Mo_s z) 1)).toNatClampNeg x1)) (upd (q_Mo_s (u_Mo_s z (upd (q_Mo_s z) (58 + ((q_Mo_s z) 1)).toNatClampNeg x1))) (65 + ((q_Mo_s z) 1)).toNatClampNeg 4))) 1 (((q_Mo_s (u_Mo_s (u_Mo_s z (upd (q_Mo_s z) (58 + ((q_Mo_s z) 1)).toNatClampNeg x1)) (upd (q_Mo_s (u_Mo_s z (upd (q_Mo_s z) (58 + ((q_Mo_s z) 1)).toNatClampNeg x1))) (65 + ((q_Mo_s z) 1)).toNatClampNeg 4))) 1) + 1)))) H := hP
      have hD : va_D A (ws_Mo g a (u_Mo_s (u_Mo_s (u_Mo_s z (upd (q_Mo_s z) (58 + ((q_Mo_s z) 1)).toNatClampNeg x1)) (upd (q_Mo_s (u_Mo_s z (upd (q_Mo_s z) (58 + ((q_Mo_s z) 1)).toNatClampNeg x1))) (65 + ((q_Mo_s z) 1)).toNatClampNeg 4)) (upd (q_Mo_s (u_Mo_s (u_Mo_s z (upd (q_Mo_s z) (58 + ((q_Mo_s z) 1)).toNatClampNeg x1)) (upd (q_Mo_s (u_Mo_s z (upd (q_Mo_s z) (58 + ((q_Mo_s z) 1)).toNatClampNeg x1))) (65 + ((q_Mo_s z) 1)).toNatClampNeg 4))) 1 (((q_Mo_s (u_Mo_s (u_Mo_s z (upd (q_Mo_s z) (58 + ((q_Mo_s z) 1)).toNatClampNeg x1)) (upd (q_Mo_s (u_Mo_s z (upd (q_Mo_s z) (58 + ((q_Mo_s z) 1)).toNatClampNeg x1))) (65 + ((q_Mo_s z) 1)).toNatClampNeg 4))) 1) + 1)))) := hD
      refine lv_iload_n hx hb d_Mo_thing_64 rfl (lv_at hl 0 rfl) ?_
      obtain rfl := Option.some.inj hd
      exact retI hx hb hr hlk hK hP hD hS d_Mo_thing_65 rfl
    · have hd := ite_t hd h_4
      refine lv_bipush (v := (-4)) hx hb d_Mo_thing_24 (by decide) ?_
      obtain rfl := Option.some.inj hd
      exact retI hx hb hr hlk hK hP hD hS d_Mo_thing_26 rfl
  · have hd := ite_t hd h_3
    refine lv_bipush (v := (-2)) hx hb d_Mo_thing_10 (by decide) ?_
    obtain rfl := Option.some.inj hd
    exact retI hx hb hr hlk hK hP hD hS d_Mo_thing_12 rfl
-- OwnsLiftModel.orNobody(I)I
def d_Mo_orNobody (x0 : Int32) : Option (Int32) :=
  if x0 = 4 then (some ((-5))) else (some (x0))
theorem d_Mo_orNobody_0 : decode b_Mo_orNobody 0 = .ok (.iload_n 0, 1) := by decide +kernel
theorem d_Mo_orNobody_1 : decode b_Mo_orNobody 1 = .ok (.iconst 4, 1) := by decide +kernel
theorem d_Mo_orNobody_2 : decode b_Mo_orNobody 2 = .ok (.if_icmp .ne 8, 3) := by decide +kernel
theorem d_Mo_orNobody_5 : decode b_Mo_orNobody 5 = .ok (.bipush (-5), 2) := by decide +kernel
theorem d_Mo_orNobody_7 : decode b_Mo_orNobody 7 = .ok (.goto 4, 3) := by decide +kernel
theorem d_Mo_orNobody_10 : decode b_Mo_orNobody 10 = .ok (.iload_n 0, 1) := by decide +kernel
theorem d_Mo_orNobody_11 : decode b_Mo_orNobody 11 = .ok (.ireturn, 1) := by decide +kernel
theorem o_Mo_orNobody : OkS y_Mo_orNobody b_Mo_orNobody 1 (some .int) 1 := ⟨⟨by decide +kernel, by decide +kernel, by decide +kernel⟩, g_1196, g_81, g_1197⟩
set_option maxHeartbeats 4000000 in
set_option maxRecDepth 100000 in
theorem c_Mo_orNobody (l : Launch) (D : va_G) (g : Nat → ClassId) (x0 : Int32) (v : Int32) (h : d_Mo_orNobody x0 = some v) :
    MI l y_Mo_orNobody b_Mo_orNobody 1 .int ({ frames := 0, cells := 0, slots := 0, locals := 0 } : Room) D g [.int x0] (([] : va_W)) (v) (([] : va_W)) := by
  have hd := h
  unfold d_Mo_orNobody at hd
  refine enterI rfl (Nat.le_of_ble_eq_true rfl) (fun p e s m below meth c A ls hx hb hml hr hown hg hlk hK hA hP hD hS hCs hl => ?_)
  have hown : s.vm.findClass "OwnsLiftModel" = some m.cls := hown
  have hl : lv_has ls 1 [(0, .int x0)] := hl
  show GI p l e s m ({ frames := 0, cells := 0, slots := 0, locals := 0 } : Room) ([.int x0] : List Value).toArray below meth c A D g (([] : va_W)) (v) s.heap [] (F0 m 0 ls [])
  refine lv_iload_n hx hb d_Mo_orNobody_0 rfl (lv_at hl 0 rfl) ?_
  refine lv_iconst (v := 4) hx hb d_Mo_orNobody_1 (by decide) ?_
  refine lv_icmp_ne (tgt := 10) hx hb d_Mo_orNobody_2 (by decide) (fun h_1 => ?_) (fun h_1 => ?_)
  · have hd := ite_f hd h_1
    refine lv_iload_n hx hb d_Mo_orNobody_10 rfl (lv_at hl 0 rfl) ?_
    obtain rfl := Option.some.inj hd
    exact retI hx hb hr hlk hK hP hD hS d_Mo_orNobody_11 rfl
  · have hd := ite_t hd h_1
    refine lv_bipush (v := (-5)) hx hb d_Mo_orNobody_5 (by decide) ?_
    refine lv_goto (tgt := 11) hx hb d_Mo_orNobody_7 (by decide) ?_
    obtain rfl := Option.some.inj hd
    exact retI hx hb hr hlk hK hP hD hS d_Mo_orNobody_11 rfl
-- OwnsLiftModel.at(II)I
def d_Mo_at (x1 : Int32) (x2 : Int32) (z : T_Mo) : Option (Int32) :=
  (d_Mo_isThing x1 z).bind fun v_1 => if v_1 = 0 then (some ((-1001))) else ((d_Mo_in x2 0 1).bind fun v_4 => if v_4 = 0 then (some ((-1001))) else (if x2 = 0 then (if inb (58 + x1) 901 = true then (some ((q_Mo_s z) (58 + x1).toNatClampNeg)) else none) else (if inb (65 + x1) 901 = true then ((d_Mo_orNobody ((q_Mo_s z) (65 + x1).toNatClampNeg)).bind fun v_8 => some (v_8)) else none)))
theorem d_Mo_at_0 : decode b_Mo_at 0 = .ok (.aload_n 0, 1) := by decide +kernel
theorem d_Mo_at_1 : decode b_Mo_at 1 = .ok (.iload_n 1, 1) := by decide +kernel
theorem d_Mo_at_2 : decode b_Mo_at 2 = .ok (.invokevirtual 160, 3) := by decide +kernel
theorem d_Mo_at_5 : decode b_Mo_at 5 = .ok (.ifCond .eq 12, 3) := by decide +kernel
theorem d_Mo_at_8 : decode b_Mo_at 8 = .ok (.iload_n 2, 1) := by decide +kernel
theorem d_Mo_at_9 : decode b_Mo_at 9 = .ok (.iconst 0, 1) := by decide +kernel
theorem d_Mo_at_10 : decode b_Mo_at 10 = .ok (.iconst 1, 1) := by decide +kernel
theorem d_Mo_at_11 : decode b_Mo_at 11 = .ok (.invokestatic 50, 3) := by decide +kernel
theorem d_Mo_at_14 : decode b_Mo_at 14 = .ok (.ifCond .ne 7, 3) := by decide +kernel
theorem d_Mo_at_17 : decode b_Mo_at 17 = .ok (.sipush (-1001), 3) := by decide +kernel
theorem d_Mo_at_20 : decode b_Mo_at 20 = .ok (.ireturn, 1) := by decide +kernel
theorem d_Mo_at_21 : decode b_Mo_at 21 = .ok (.iload_n 2, 1) := by decide +kernel
theorem d_Mo_at_22 : decode b_Mo_at 22 = .ok (.ifCond .ne 15, 3) := by decide +kernel
theorem d_Mo_at_25 : decode b_Mo_at 25 = .ok (.aload_n 0, 1) := by decide +kernel
theorem d_Mo_at_26 : decode b_Mo_at 26 = .ok (.getfield 9, 3) := by decide +kernel
theorem d_Mo_at_29 : decode b_Mo_at 29 = .ok (.bipush 58, 2) := by decide +kernel
theorem d_Mo_at_31 : decode b_Mo_at 31 = .ok (.iload_n 1, 1) := by decide +kernel
theorem d_Mo_at_32 : decode b_Mo_at 32 = .ok (.iadd, 1) := by decide +kernel
theorem d_Mo_at_33 : decode b_Mo_at 33 = .ok (.iaload, 1) := by decide +kernel
theorem d_Mo_at_34 : decode b_Mo_at 34 = .ok (.goto 15, 3) := by decide +kernel
theorem d_Mo_at_37 : decode b_Mo_at 37 = .ok (.aload_n 0, 1) := by decide +kernel
theorem d_Mo_at_38 : decode b_Mo_at 38 = .ok (.getfield 9, 3) := by decide +kernel
theorem d_Mo_at_41 : decode b_Mo_at 41 = .ok (.bipush 65, 2) := by decide +kernel
theorem d_Mo_at_43 : decode b_Mo_at 43 = .ok (.iload_n 1, 1) := by decide +kernel
theorem d_Mo_at_44 : decode b_Mo_at 44 = .ok (.iadd, 1) := by decide +kernel
theorem d_Mo_at_45 : decode b_Mo_at 45 = .ok (.iaload, 1) := by decide +kernel
theorem d_Mo_at_46 : decode b_Mo_at 46 = .ok (.invokestatic 163, 3) := by decide +kernel
theorem d_Mo_at_49 : decode b_Mo_at 49 = .ok (.ireturn, 1) := by decide +kernel
theorem o_Mo_at : OkV y_Mo_at "OwnsLiftModel" b_Mo_at 3 (some .int) 2 := ⟨⟨rfl, by decide +kernel, by decide +kernel, by decide +kernel⟩, g_1192, g_1193, g_81, g_1194⟩
set_option maxHeartbeats 4000000 in
set_option maxRecDepth 100000 in
theorem c_Mo_at (l : Launch) (D : va_G) (g : Nat → ClassId) (a : Nat → Nat) (x1 : Int32) (x2 : Int32) (z : T_Mo) (v : Int32) (h : d_Mo_at x1 x2 z = some v) :
    MI l y_Mo_at b_Mo_at 3 .int ({ frames := 2, cells := 0, slots := 0, locals := 43 } : Room) D g [.ref (a 0), .int x1, .int x2] (ws_Mo g a z) (v) (ws_Mo g a z) := by
  have hd := h
  unfold d_Mo_at at hd
  refine enterI rfl (Nat.le_of_ble_eq_true rfl) (fun p e s m below meth c A ls hx hb hml hr hown hg hlk hK hA hP hD hS hCs hl => ?_)
  have hown : s.vm.findClass "OwnsLiftModel" = some m.cls := hown
  have hl : lv_has ls 3 [(0, .ref (a 0)), (1, .int x1), (2, .int x2)] := hl
  show GI p l e s m ({ frames := 2, cells := 0, slots := 0, locals := 43 } : Room) ([.ref (a 0), .int x1, .int x2] : List Value).toArray below meth c A D g (ws_Mo g a z) (v) s.heap [] (F0 m 0 ls [])
  refine lv_aload_n hx hb d_Mo_at_0 rfl (lv_at hl 0 rfl) ?_
  refine lv_iload_n hx hb d_Mo_at_1 rfl (lv_at hl 1 rfl) ?_
  obtain ⟨v_1, e_2, hd⟩ := bind_s hd
  refine callVI (ws' := ws_Mo g a z) (rest := []) (As := [.int x1]) hx hb hml hown hg hK hP hD hS hA hCs hl.1 (c_Mo_isThing l D g a x1 z _ e_2) o_Mo_isThing g_1183 (ci := 1) (q0 := 0) rfl rfl (List.range' 0 12) (segC1 rfl rfl) (by decide) rfl (segP1 rfl rfl) rfl rfl (Nat.le_of_ble_eq_true rfl) ⟨rfl, rfl, Nat.le_of_ble_eq_true rfl, Nat.le_of_ble_eq_true rfl⟩ d_Mo_at_2 (fun H locs hP hD hS => ?_)
  refine lv_if_eq (tgt := 17) hx hb d_Mo_at_5 (by decide) (fun h_3 => ?_) (fun h_3 => ?_)
  · have hd := ite_t hd h_3
    refine lv_sipush (v := (-1001)) hx hb d_Mo_at_17 (by decide) ?_
    obtain rfl := Option.some.inj hd
    exact retI hx hb hr hlk hK hP hD hS d_Mo_at_20 rfl
  · have hd := ite_f hd h_3
    refine lv_iload_n hx hb d_Mo_at_8 rfl (lv_at hl 2 rfl) ?_
    refine lv_iconst (v := 0) hx hb d_Mo_at_9 (by decide) ?_
    refine lv_iconst (v := 1) hx hb d_Mo_at_10 (by decide) ?_
    obtain ⟨v_4, e_5, hd⟩ := bind_s hd
    refine callSI (ws' := ws_Mo g a z) (rest := []) (As := [.int x2, .int 0, .int 1]) hx hb hml hown hg hK hP hD hS hA hCs hl.1 (c_Mo_in l D g  x2 0 1 _ e_5) o_Mo_in g_1076 [] segC0 rfl rfl segP0 rfl rfl (Nat.le_of_ble_eq_true rfl) ⟨rfl, rfl, Nat.le_of_ble_eq_true rfl, Nat.le_of_ble_eq_true rfl⟩ d_Mo_at_11 (fun H locs hP hD hS => ?_)
    refine lv_if_ne (tgt := 21) hx hb d_Mo_at_14 (by decide) (fun h_6 => ?_) (fun h_6 => ?_)
    · have hd := ite_f hd h_6
      refine lv_iload_n hx hb d_Mo_at_21 rfl (lv_at hl 2 rfl) ?_
      refine lv_if_ne (tgt := 37) hx hb d_Mo_at_22 (by decide) (fun h_7 => ?_) (fun h_7 => ?_)
      · have hd := ite_f hd h_7
        refine lv_aload_n hx hb d_Mo_at_37 rfl (lv_at hl 0 rfl) ?_
        refine va_get (D := D) (ci := 1) (v := .ref (a 1)) (C := R_Mo) (T := F_Mo) (N := 26) hx hb hg i_Mo hown hK hP 0 rfl rfl 1 (by decide) (hg _ g_993) (fun _ h9 => h9) rfl d_Mo_at_38 ?_
        refine lv_bipush (v := 65) hx hb d_Mo_at_41 (by decide) ?_
        refine lv_iload_n hx hb d_Mo_at_43 rfl (lv_at hl 1 rfl) ?_
        refine lv_iadd hx hb d_Mo_at_44 ?_
        obtain ⟨h_10, hd⟩ := ite_s hd
        refine ialdK hx hb hK hP 1 0 rfl rfl (inb_t h_10) rfl d_Mo_at_45 ?_
        obtain ⟨v_8, e_9, hd⟩ := bind_s hd
        refine callSI (ws' := ws_Mo g a z) (rest := []) (As := [.int ((q_Mo_s z) (65 + x1).toNatClampNeg)]) hx hb hml hown hg hK hP hD hS hA hCs hl.1 (c_Mo_orNobody l D g  ((q_Mo_s z) (65 + x1).toNatClampNeg) _ e_9) o_Mo_orNobody g_1195 [] segC0 rfl rfl segP0 rfl rfl (Nat.le_of_ble_eq_true rfl) ⟨rfl, rfl, Nat.le_of_ble_eq_true rfl, Nat.le_of_ble_eq_true rfl⟩ d_Mo_at_46 (fun H locs hP hD hS => ?_)
        obtain rfl := Option.some.inj hd
        exact retI hx hb hr hlk hK hP hD hS d_Mo_at_49 rfl
      · have hd := ite_t hd h_7
        refine lv_aload_n hx hb d_Mo_at_25 rfl (lv_at hl 0 rfl) ?_
        refine va_get (D := D) (ci := 1) (v := .ref (a 1)) (C := R_Mo) (T := F_Mo) (N := 26) hx hb hg i_Mo hown hK hP 0 rfl rfl 1 (by decide) (hg _ g_993) (fun _ h9 => h9) rfl d_Mo_at_26 ?_
        refine lv_bipush (v := 58) hx hb d_Mo_at_29 (by decide) ?_
        refine lv_iload_n hx hb d_Mo_at_31 rfl (lv_at hl 1 rfl) ?_
        refine lv_iadd hx hb d_Mo_at_32 ?_
        obtain ⟨h_11, hd⟩ := ite_s hd
        refine ialdK hx hb hK hP 1 0 rfl rfl (inb_t h_11) rfl d_Mo_at_33 ?_
        refine lv_goto (tgt := 49) hx hb d_Mo_at_34 (by decide) ?_
        obtain rfl := Option.some.inj hd
        exact retI hx hb hr hlk hK hP hD hS d_Mo_at_49 rfl
    · have hd := ite_t hd h_6
      refine lv_sipush (v := (-1001)) hx hb d_Mo_at_17 (by decide) ?_
      obtain rfl := Option.some.inj hd
      exact retI hx hb hr hlk hK hP hD hS d_Mo_at_20 rfl
-- OwnsLiftModel.give(II)I
def d_Mo_give (x1 : Int32) (x2 : Int32) (z : T_Mo) : Option (Int32 × T_Mo) :=
  (d_Mo_isThing x1 z).bind fun v_1 => if v_1 = 0 then (some ((-1001), z)) else (if x2 = (-1) then (if inb (65 + x1) 901 = true then (if x2 = (-1) then (if inb (65 + x1) 901 = true then ((d_Mo_orNobody ((q_Mo_s z) (65 + x1).toNatClampNeg)).bind fun v_9 => some (v_9, (u_Mo_s z (upd (q_Mo_s z) (65 + x1).toNatClampNeg 4)))) else none) else (if inb (65 + x1) 901 = true then ((d_Mo_orNobody ((q_Mo_s z) (65 + x1).toNatClampNeg)).bind fun v_6 => some (v_6, (u_Mo_s z (upd (q_Mo_s z) (65 + x1).toNatClampNeg x2)))) else none)) else none) else ((d_Mo_isPerson x2 z).bind fun v_13 => if v_13 = 0 then (some ((-1001), z)) else (if inb (65 + x1) 901 = true then (if x2 = (-1) then (if inb (65 + x1) 901 = true then ((d_Mo_orNobody ((q_Mo_s z) (65 + x1).toNatClampNeg)).bind fun v_20 => some (v_20, (u_Mo_s z (upd (q_Mo_s z) (65 + x1).toNatClampNeg 4)))) else none) else (if inb (65 + x1) 901 = true then ((d_Mo_orNobody ((q_Mo_s z) (65 + x1).toNatClampNeg)).bind fun v_17 => some (v_17, (u_Mo_s z (upd (q_Mo_s z) (65 + x1).toNatClampNeg x2)))) else none)) else none)))
theorem d_Mo_give_0 : decode b_Mo_give 0 = .ok (.aload_n 0, 1) := by decide +kernel
theorem d_Mo_give_1 : decode b_Mo_give 1 = .ok (.iload_n 1, 1) := by decide +kernel
theorem d_Mo_give_2 : decode b_Mo_give 2 = .ok (.invokevirtual 160, 3) := by decide +kernel
theorem d_Mo_give_5 : decode b_Mo_give 5 = .ok (.ifCond .eq 16, 3) := by decide +kernel
theorem d_Mo_give_8 : decode b_Mo_give 8 = .ok (.iload_n 2, 1) := by decide +kernel
theorem d_Mo_give_9 : decode b_Mo_give 9 = .ok (.iconst (-1), 1) := by decide +kernel
theorem d_Mo_give_10 : decode b_Mo_give 10 = .ok (.if_icmp .eq 15, 3) := by decide +kernel
theorem d_Mo_give_13 : decode b_Mo_give 13 = .ok (.aload_n 0, 1) := by decide +kernel
theorem d_Mo_give_14 : decode b_Mo_give 14 = .ok (.iload_n 2, 1) := by decide +kernel
theorem d_Mo_give_15 : decode b_Mo_give 15 = .ok (.invokevirtual 147, 3) := by decide +kernel
theorem d_Mo_give_18 : decode b_Mo_give 18 = .ok (.ifCond .ne 7, 3) := by decide +kernel
theorem d_Mo_give_21 : decode b_Mo_give 21 = .ok (.sipush (-1001), 3) := by decide +kernel
theorem d_Mo_give_24 : decode b_Mo_give 24 = .ok (.ireturn, 1) := by decide +kernel
theorem d_Mo_give_25 : decode b_Mo_give 25 = .ok (.aload_n 0, 1) := by decide +kernel
theorem d_Mo_give_26 : decode b_Mo_give 26 = .ok (.getfield 9, 3) := by decide +kernel
theorem d_Mo_give_29 : decode b_Mo_give 29 = .ok (.bipush 65, 2) := by decide +kernel
theorem d_Mo_give_31 : decode b_Mo_give 31 = .ok (.iload_n 1, 1) := by decide +kernel
theorem d_Mo_give_32 : decode b_Mo_give 32 = .ok (.iadd, 1) := by decide +kernel
theorem d_Mo_give_33 : decode b_Mo_give 33 = .ok (.iaload, 1) := by decide +kernel
theorem d_Mo_give_34 : decode b_Mo_give 34 = .ok (.istore_n 3, 1) := by decide +kernel
theorem d_Mo_give_35 : decode b_Mo_give 35 = .ok (.aload_n 0, 1) := by decide +kernel
theorem d_Mo_give_36 : decode b_Mo_give 36 = .ok (.getfield 9, 3) := by decide +kernel
theorem d_Mo_give_39 : decode b_Mo_give 39 = .ok (.bipush 65, 2) := by decide +kernel
theorem d_Mo_give_41 : decode b_Mo_give 41 = .ok (.iload_n 1, 1) := by decide +kernel
theorem d_Mo_give_42 : decode b_Mo_give 42 = .ok (.iadd, 1) := by decide +kernel
theorem d_Mo_give_43 : decode b_Mo_give 43 = .ok (.iload_n 2, 1) := by decide +kernel
theorem d_Mo_give_44 : decode b_Mo_give 44 = .ok (.iconst (-1), 1) := by decide +kernel
theorem d_Mo_give_45 : decode b_Mo_give 45 = .ok (.if_icmp .ne 7, 3) := by decide +kernel
theorem d_Mo_give_48 : decode b_Mo_give 48 = .ok (.iconst 4, 1) := by decide +kernel
theorem d_Mo_give_49 : decode b_Mo_give 49 = .ok (.goto 4, 3) := by decide +kernel
theorem d_Mo_give_52 : decode b_Mo_give 52 = .ok (.iload_n 2, 1) := by decide +kernel
theorem d_Mo_give_53 : decode b_Mo_give 53 = .ok (.iastore, 1) := by decide +kernel
theorem d_Mo_give_54 : decode b_Mo_give 54 = .ok (.iload_n 3, 1) := by decide +kernel
theorem d_Mo_give_55 : decode b_Mo_give 55 = .ok (.invokestatic 163, 3) := by decide +kernel
theorem d_Mo_give_58 : decode b_Mo_give 58 = .ok (.ireturn, 1) := by decide +kernel
theorem o_Mo_give : OkV y_Mo_give "OwnsLiftModel" b_Mo_give 4 (some .int) 2 := ⟨⟨rfl, by decide +kernel, by decide +kernel, by decide +kernel⟩, g_1199, g_1200, g_81, g_1201⟩
set_option maxHeartbeats 4000000 in
set_option maxRecDepth 100000 in
theorem c_Mo_give (l : Launch) (D : va_G) (g : Nat → ClassId) (a : Nat → Nat) (x1 : Int32) (x2 : Int32) (z : T_Mo) (v : Int32 × T_Mo) (h : d_Mo_give x1 x2 z = some v) :
    MI l y_Mo_give b_Mo_give 4 .int ({ frames := 2, cells := 0, slots := 0, locals := 43 } : Room) D g [.ref (a 0), .int x1, .int x2] (ws_Mo g a z) (v.1) (ws_Mo g a v.2) := by
  have hd := h
  unfold d_Mo_give at hd
  refine enterI rfl (Nat.le_of_ble_eq_true rfl) (fun p e s m below meth c A ls hx hb hml hr hown hg hlk hK hA hP hD hS hCs hl => ?_)
  have hown : s.vm.findClass "OwnsLiftModel" = some m.cls := hown
  have hl : lv_has ls 4 [(0, .ref (a 0)), (1, .int x1), (2, .int x2)] := hl
  show GI p l e s m ({ frames := 2, cells := 0, slots := 0, locals := 43 } : Room) ([.ref (a 0), .int x1, .int x2] : List Value).toArray below meth c A D g (ws_Mo g a v.2) (v.1) s.heap [] (F0 m 0 ls [])
  refine lv_aload_n hx hb d_Mo_give_0 rfl (lv_at hl 0 rfl) ?_
  refine lv_iload_n hx hb d_Mo_give_1 rfl (lv_at hl 1 rfl) ?_
  obtain ⟨v_1, e_2, hd⟩ := bind_s hd
  refine callVI (ws' := ws_Mo g a z) (rest := []) (As := [.int x1]) hx hb hml hown hg hK hP hD hS hA hCs hl.1 (c_Mo_isThing l D g a x1 z _ e_2) o_Mo_isThing g_1183 (ci := 1) (q0 := 0) rfl rfl (List.range' 0 12) (segC1 rfl rfl) (by decide) rfl (segP1 rfl rfl) rfl rfl (Nat.le_of_ble_eq_true rfl) ⟨rfl, rfl, Nat.le_of_ble_eq_true rfl, Nat.le_of_ble_eq_true rfl⟩ d_Mo_give_2 (fun H locs hP hD hS => ?_)
  refine lv_if_eq (tgt := 21) hx hb d_Mo_give_5 (by decide) (fun h_3 => ?_) (fun h_3 => ?_)
  · have hd := ite_t hd h_3
    refine lv_sipush (v := (-1001)) hx hb d_Mo_give_21 (by decide) ?_
    obtain rfl := Option.some.inj hd
    exact retI hx hb hr hlk hK hP hD hS d_Mo_give_24 rfl
  · have hd := ite_f hd h_3
    refine lv_iload_n hx hb d_Mo_give_8 rfl (lv_at hl 2 rfl) ?_
    refine lv_iconst (v := (-1)) hx hb d_Mo_give_9 (by decide) ?_
    refine lv_icmp_eq (tgt := 25) hx hb d_Mo_give_10 (by decide) (fun h_4 => ?_) (fun h_4 => ?_)
    · have hd := ite_t hd h_4
      refine lv_aload_n hx hb d_Mo_give_25 rfl (lv_at hl 0 rfl) ?_
      refine va_get (D := D) (ci := 1) (v := .ref (a 1)) (C := R_Mo) (T := F_Mo) (N := 26) hx hb hg i_Mo hown hK hP 0 rfl rfl 1 (by decide) (hg _ g_993) (fun _ h9 => h9) rfl d_Mo_give_26 ?_
      refine lv_bipush (v := 65) hx hb d_Mo_give_29 (by decide) ?_
      refine lv_iload_n hx hb d_Mo_give_31 rfl (lv_at hl 1 rfl) ?_
      refine lv_iadd hx hb d_Mo_give_32 ?_
      obtain ⟨h_12, hd⟩ := ite_s hd
      refine ialdK hx hb hK hP 1 0 rfl rfl (inb_t h_12) rfl d_Mo_give_33 ?_
      refine lv_istore_n (lv' := [(3, .int ((q_Mo_s z) (65 + x1).toNatClampNeg)), (0, .ref (a 0)), (1, .int x1), (2, .int x2)]) hx hb d_Mo_give_34 rfl hl (by decide) rfl (fun ls hl => ?_)
      refine lv_aload_n hx hb d_Mo_give_35 rfl (lv_at hl 1 rfl) ?_
      refine va_get (D := D) (ci := 1) (v := .ref (a 1)) (C := R_Mo) (T := F_Mo) (N := 26) hx hb hg i_Mo hown hK hP 0 rfl rfl 1 (by decide) (hg _ g_993) (fun _ h9 => h9) rfl d_Mo_give_36 ?_
      refine lv_bipush (v := 65) hx hb d_Mo_give_39 (by decide) ?_
      refine lv_iload_n hx hb d_Mo_give_41 rfl (lv_at hl 2 rfl) ?_
      refine lv_iadd hx hb d_Mo_give_42 ?_
      refine lv_iload_n hx hb d_Mo_give_43 rfl (lv_at hl 3 rfl) ?_
      refine lv_iconst (v := (-1)) hx hb d_Mo_give_44 (by decide) ?_
      refine lv_icmp_ne (tgt := 52) hx hb d_Mo_give_45 (by decide) (fun h_5 => ?_) (fun h_5 => ?_)
      · have hd := ite_f hd h_5
        refine lv_iload_n hx hb d_Mo_give_52 rfl (lv_at hl 3 rfl) ?_
        obtain ⟨h_8, hd⟩ := ite_s hd
        refine iastK hx hb hK hP hD hS 1 0 rfl rfl (inb_t h_8) rfl d_Mo_give_53 (fun H locs hP hD hS => ?_)
        have hP : va_P D classes (ws_Mo g a (u_Mo_s z (upd (q_Mo_s z) (65 + x1).toNatClampNeg x2))) H := hP
        have hD : va_D A (ws_Mo g a (u_Mo_s z (upd (q_Mo_s z) (65 + x1).toNatClampNeg x2))) := hD
        refine lv_iload_n hx hb d_Mo_give_54 rfl (lv_at hl 0 rfl) ?_
        obtain ⟨v_6, e_7, hd⟩ := bind_s hd
        refine callSI (ws' := ws_Mo g a (u_Mo_s z (upd (q_Mo_s z) (65 + x1).toNatClampNeg x2))) (rest := []) (As := [.int ((q_Mo_s z) (65 + x1).toNatClampNeg)]) hx hb hml hown hg hK hP hD hS hA hCs hl.1 (c_Mo_orNobody l D g  ((q_Mo_s z) (65 + x1).toNatClampNeg) _ e_7) o_Mo_orNobody g_1195 [] segC0 rfl rfl segP0 rfl rfl (Nat.le_of_ble_eq_true rfl) ⟨rfl, rfl, Nat.le_of_ble_eq_true rfl, Nat.le_of_ble_eq_true rfl⟩ d_Mo_give_55 (fun H locs hP hD hS => ?_)
        obtain rfl := Option.some.inj hd
        exact retI hx hb hr hlk hK hP hD hS d_Mo_give_58 rfl
      · have hd := ite_t hd h_5
        refine lv_iconst (v := 4) hx hb d_Mo_give_48 (by decide) ?_
        refine lv_goto (tgt := 53) hx hb d_Mo_give_49 (by decide) ?_
        obtain ⟨h_11, hd⟩ := ite_s hd
        refine iastK hx hb hK hP hD hS 1 0 rfl rfl (inb_t h_11) rfl d_Mo_give_53 (fun H locs hP hD hS => ?_)
        have hP : va_P D classes (ws_Mo g a (u_Mo_s z (upd (q_Mo_s z) (65 + x1).toNatClampNeg 4))) H := hP
        have hD : va_D A (ws_Mo g a (u_Mo_s z (upd (q_Mo_s z) (65 + x1).toNatClampNeg 4))) := hD
        refine lv_iload_n hx hb d_Mo_give_54 rfl (lv_at hl 0 rfl) ?_
        obtain ⟨v_9, e_10, hd⟩ := bind_s hd
        refine callSI (ws' := ws_Mo g a (u_Mo_s z (upd (q_Mo_s z) (65 + x1).toNatClampNeg 4))) (rest := []) (As := [.int ((q_Mo_s z) (65 + x1).toNatClampNeg)]) hx hb hml hown hg hK hP hD hS hA hCs hl.1 (c_Mo_orNobody l D g  ((q_Mo_s z) (65 + x1).toNatClampNeg) _ e_10) o_Mo_orNobody g_1195 [] segC0 rfl rfl segP0 rfl rfl (Nat.le_of_ble_eq_true rfl) ⟨rfl, rfl, Nat.le_of_ble_eq_true rfl, Nat.le_of_ble_eq_true rfl⟩ d_Mo_give_55 (fun H locs hP hD hS => ?_)
        obtain rfl := Option.some.inj hd
        exact retI hx hb hr hlk hK hP hD hS d_Mo_give_58 rfl
    · have hd := ite_f hd h_4
      refine lv_aload_n hx hb d_Mo_give_13 rfl (lv_at hl 0 rfl) ?_
      refine lv_iload_n hx hb d_Mo_give_14 rfl (lv_at hl 2 rfl) ?_
      obtain ⟨v_13, e_14, hd⟩ := bind_s hd
      refine callVI (ws' := ws_Mo g a z) (rest := []) (As := [.int x2]) hx hb hml hown hg hK hP hD hS hA hCs hl.1 (c_Mo_isPerson l D g a x2 z _ e_14) o_Mo_isPerson g_1147 (ci := 1) (q0 := 0) rfl rfl (List.range' 0 12) (segC1 rfl rfl) (by decide) rfl (segP1 rfl rfl) rfl rfl (Nat.le_of_ble_eq_true rfl) ⟨rfl, rfl, Nat.le_of_ble_eq_true rfl, Nat.le_of_ble_eq_true rfl⟩ d_Mo_give_15 (fun H locs hP hD hS => ?_)
      refine lv_if_ne (tgt := 25) hx hb d_Mo_give_18 (by decide) (fun h_15 => ?_) (fun h_15 => ?_)
      · have hd := ite_f hd h_15
        refine lv_aload_n hx hb d_Mo_give_25 rfl (lv_at hl 0 rfl) ?_
        refine va_get (D := D) (ci := 1) (v := .ref (a 1)) (C := R_Mo) (T := F_Mo) (N := 26) hx hb hg i_Mo hown hK hP 0 rfl rfl 1 (by decide) (hg _ g_993) (fun _ h9 => h9) rfl d_Mo_give_26 ?_
        refine lv_bipush (v := 65) hx hb d_Mo_give_29 (by decide) ?_
        refine lv_iload_n hx hb d_Mo_give_31 rfl (lv_at hl 1 rfl) ?_
        refine lv_iadd hx hb d_Mo_give_32 ?_
        obtain ⟨h_23, hd⟩ := ite_s hd
        refine ialdK hx hb hK hP 1 0 rfl rfl (inb_t h_23) rfl d_Mo_give_33 ?_
        refine lv_istore_n (lv' := [(3, .int ((q_Mo_s z) (65 + x1).toNatClampNeg)), (0, .ref (a 0)), (1, .int x1), (2, .int x2)]) hx hb d_Mo_give_34 rfl hl (by decide) rfl (fun ls hl => ?_)
        refine lv_aload_n hx hb d_Mo_give_35 rfl (lv_at hl 1 rfl) ?_
        refine va_get (D := D) (ci := 1) (v := .ref (a 1)) (C := R_Mo) (T := F_Mo) (N := 26) hx hb hg i_Mo hown hK hP 0 rfl rfl 1 (by decide) (hg _ g_993) (fun _ h9 => h9) rfl d_Mo_give_36 ?_
        refine lv_bipush (v := 65) hx hb d_Mo_give_39 (by decide) ?_
        refine lv_iload_n hx hb d_Mo_give_41 rfl (lv_at hl 2 rfl) ?_
        refine lv_iadd hx hb d_Mo_give_42 ?_
        refine lv_iload_n hx hb d_Mo_give_43 rfl (lv_at hl 3 rfl) ?_
        refine lv_iconst (v := (-1)) hx hb d_Mo_give_44 (by decide) ?_
        refine lv_icmp_ne (tgt := 52) hx hb d_Mo_give_45 (by decide) (fun h_16 => ?_) (fun h_16 => ?_)
        · have hd := ite_f hd h_16
          refine lv_iload_n hx hb d_Mo_give_52 rfl (lv_at hl 3 rfl) ?_
          obtain ⟨h_19, hd⟩ := ite_s hd
          refine iastK hx hb hK hP hD hS 1 0 rfl rfl (inb_t h_19) rfl d_Mo_give_53 (fun H locs hP hD hS => ?_)
          have hP : va_P D classes (ws_Mo g a (u_Mo_s z (upd (q_Mo_s z) (65 + x1).toNatClampNeg x2))) H := hP
          have hD : va_D A (ws_Mo g a (u_Mo_s z (upd (q_Mo_s z) (65 + x1).toNatClampNeg x2))) := hD
          refine lv_iload_n hx hb d_Mo_give_54 rfl (lv_at hl 0 rfl) ?_
          obtain ⟨v_17, e_18, hd⟩ := bind_s hd
          refine callSI (ws' := ws_Mo g a (u_Mo_s z (upd (q_Mo_s z) (65 + x1).toNatClampNeg x2))) (rest := []) (As := [.int ((q_Mo_s z) (65 + x1).toNatClampNeg)]) hx hb hml hown hg hK hP hD hS hA hCs hl.1 (c_Mo_orNobody l D g  ((q_Mo_s z) (65 + x1).toNatClampNeg) _ e_18) o_Mo_orNobody g_1195 [] segC0 rfl rfl segP0 rfl rfl (Nat.le_of_ble_eq_true rfl) ⟨rfl, rfl, Nat.le_of_ble_eq_true rfl, Nat.le_of_ble_eq_true rfl⟩ d_Mo_give_55 (fun H locs hP hD hS => ?_)
          obtain rfl := Option.some.inj hd
          exact retI hx hb hr hlk hK hP hD hS d_Mo_give_58 rfl
        · have hd := ite_t hd h_16
          refine lv_iconst (v := 4) hx hb d_Mo_give_48 (by decide) ?_
          refine lv_goto (tgt := 53) hx hb d_Mo_give_49 (by decide) ?_
          obtain ⟨h_22, hd⟩ := ite_s hd
          refine iastK hx hb hK hP hD hS 1 0 rfl rfl (inb_t h_22) rfl d_Mo_give_53 (fun H locs hP hD hS => ?_)
          have hP : va_P D classes (ws_Mo g a (u_Mo_s z (upd (q_Mo_s z) (65 + x1).toNatClampNeg 4))) H := hP
          have hD : va_D A (ws_Mo g a (u_Mo_s z (upd (q_Mo_s z) (65 + x1).toNatClampNeg 4))) := hD
          refine lv_iload_n hx hb d_Mo_give_54 rfl (lv_at hl 0 rfl) ?_
          obtain ⟨v_20, e_21, hd⟩ := bind_s hd
          refine callSI (ws' := ws_Mo g a (u_Mo_s z (upd (q_Mo_s z) (65 + x1).toNatClampNeg 4))) (rest := []) (As := [.int ((q_Mo_s z) (65 + x1).toNatClampNeg)]) hx hb hml hown hg hK hP hD hS hA hCs hl.1 (c_Mo_orNobody l D g  ((q_Mo_s z) (65 + x1).toNatClampNeg) _ e_21) o_Mo_orNobody g_1195 [] segC0 rfl rfl segP0 rfl rfl (Nat.le_of_ble_eq_true rfl) ⟨rfl, rfl, Nat.le_of_ble_eq_true rfl, Nat.le_of_ble_eq_true rfl⟩ d_Mo_give_55 (fun H locs hP hD hS => ?_)
          obtain rfl := Option.some.inj hd
          exact retI hx hb hr hlk hK hP hD hS d_Mo_give_58 rfl
      · have hd := ite_t hd h_15
        refine lv_sipush (v := (-1001)) hx hb d_Mo_give_21 (by decide) ?_
        obtain rfl := Option.some.inj hd
        exact retI hx hb hr hlk hK hP hD hS d_Mo_give_24 rfl
-- OwnsLiftModel.like(II)I
def d_Mo_like (x1 : Int32) (x2 : Int32) (z : T_Mo) : Option (Int32 × T_Mo) :=
  (d_Mo_isPerson x1 z).bind fun v_1 => if v_1 = 0 then (some ((-1), z)) else ((d_Mo_isThing x2 z).bind fun v_4 => if v_4 = 0 then (some ((-1), z)) else ((d_Mo_likeOf x1 x2 z).bind fun v_7 => some (v_7.1, v_7.2)))
theorem d_Mo_like_0 : decode b_Mo_like 0 = .ok (.aload_n 0, 1) := by decide +kernel
theorem d_Mo_like_1 : decode b_Mo_like 1 = .ok (.iload_n 1, 1) := by decide +kernel
theorem d_Mo_like_2 : decode b_Mo_like 2 = .ok (.invokevirtual 147, 3) := by decide +kernel
theorem d_Mo_like_5 : decode b_Mo_like 5 = .ok (.ifCond .eq 20, 3) := by decide +kernel
theorem d_Mo_like_8 : decode b_Mo_like 8 = .ok (.aload_n 0, 1) := by decide +kernel
theorem d_Mo_like_9 : decode b_Mo_like 9 = .ok (.iload_n 2, 1) := by decide +kernel
theorem d_Mo_like_10 : decode b_Mo_like 10 = .ok (.invokevirtual 160, 3) := by decide +kernel
theorem d_Mo_like_13 : decode b_Mo_like 13 = .ok (.ifCond .eq 12, 3) := by decide +kernel
theorem d_Mo_like_16 : decode b_Mo_like 16 = .ok (.aload_n 0, 1) := by decide +kernel
theorem d_Mo_like_17 : decode b_Mo_like 17 = .ok (.iload_n 1, 1) := by decide +kernel
theorem d_Mo_like_18 : decode b_Mo_like 18 = .ok (.iload_n 2, 1) := by decide +kernel
theorem d_Mo_like_19 : decode b_Mo_like 19 = .ok (.invokevirtual 143, 3) := by decide +kernel
theorem d_Mo_like_22 : decode b_Mo_like 22 = .ok (.goto 4, 3) := by decide +kernel
theorem d_Mo_like_25 : decode b_Mo_like 25 = .ok (.iconst (-1), 1) := by decide +kernel
theorem d_Mo_like_26 : decode b_Mo_like 26 = .ok (.ireturn, 1) := by decide +kernel
theorem o_Mo_like : OkV y_Mo_like "OwnsLiftModel" b_Mo_like 3 (some .int) 2 := ⟨⟨rfl, by decide +kernel, by decide +kernel, by decide +kernel⟩, g_1203, g_1204, g_81, g_1205⟩
set_option maxHeartbeats 4000000 in
set_option maxRecDepth 100000 in
theorem c_Mo_like (l : Launch) (D : va_G) (g : Nat → ClassId) (a : Nat → Nat) (x1 : Int32) (x2 : Int32) (z : T_Mo) (v : Int32 × T_Mo) (h : d_Mo_like x1 x2 z = some v) :
    MI l y_Mo_like b_Mo_like 3 .int ({ frames := 3, cells := 0, slots := 0, locals := 75 } : Room) D g [.ref (a 0), .int x1, .int x2] (ws_Mo g a z) (v.1) (ws_Mo g a v.2) := by
  have hd := h
  unfold d_Mo_like at hd
  refine enterI rfl (Nat.le_of_ble_eq_true rfl) (fun p e s m below meth c A ls hx hb hml hr hown hg hlk hK hA hP hD hS hCs hl => ?_)
  have hown : s.vm.findClass "OwnsLiftModel" = some m.cls := hown
  have hl : lv_has ls 3 [(0, .ref (a 0)), (1, .int x1), (2, .int x2)] := hl
  show GI p l e s m ({ frames := 3, cells := 0, slots := 0, locals := 75 } : Room) ([.ref (a 0), .int x1, .int x2] : List Value).toArray below meth c A D g (ws_Mo g a v.2) (v.1) s.heap [] (F0 m 0 ls [])
  refine lv_aload_n hx hb d_Mo_like_0 rfl (lv_at hl 0 rfl) ?_
  refine lv_iload_n hx hb d_Mo_like_1 rfl (lv_at hl 1 rfl) ?_
  obtain ⟨v_1, e_2, hd⟩ := bind_s hd
  refine callVI (ws' := ws_Mo g a z) (rest := []) (As := [.int x1]) hx hb hml hown hg hK hP hD hS hA hCs hl.1 (c_Mo_isPerson l D g a x1 z _ e_2) o_Mo_isPerson g_1147 (ci := 1) (q0 := 0) rfl rfl (List.range' 0 12) (segC1 rfl rfl) (by decide) rfl (segP1 rfl rfl) rfl rfl (Nat.le_of_ble_eq_true rfl) ⟨rfl, rfl, Nat.le_of_ble_eq_true rfl, Nat.le_of_ble_eq_true rfl⟩ d_Mo_like_2 (fun H locs hP hD hS => ?_)
  refine lv_if_eq (tgt := 25) hx hb d_Mo_like_5 (by decide) (fun h_3 => ?_) (fun h_3 => ?_)
  · have hd := ite_t hd h_3
    refine lv_iconst (v := (-1)) hx hb d_Mo_like_25 (by decide) ?_
    obtain rfl := Option.some.inj hd
    exact retI hx hb hr hlk hK hP hD hS d_Mo_like_26 rfl
  · have hd := ite_f hd h_3
    refine lv_aload_n hx hb d_Mo_like_8 rfl (lv_at hl 0 rfl) ?_
    refine lv_iload_n hx hb d_Mo_like_9 rfl (lv_at hl 2 rfl) ?_
    obtain ⟨v_4, e_5, hd⟩ := bind_s hd
    refine callVI (ws' := ws_Mo g a z) (rest := []) (As := [.int x2]) hx hb hml hown hg hK hP hD hS hA hCs hl.1 (c_Mo_isThing l D g a x2 z _ e_5) o_Mo_isThing g_1183 (ci := 1) (q0 := 0) rfl rfl (List.range' 0 12) (segC1 rfl rfl) (by decide) rfl (segP1 rfl rfl) rfl rfl (Nat.le_of_ble_eq_true rfl) ⟨rfl, rfl, Nat.le_of_ble_eq_true rfl, Nat.le_of_ble_eq_true rfl⟩ d_Mo_like_10 (fun H locs hP hD hS => ?_)
    refine lv_if_eq (tgt := 25) hx hb d_Mo_like_13 (by decide) (fun h_6 => ?_) (fun h_6 => ?_)
    · have hd := ite_t hd h_6
      refine lv_iconst (v := (-1)) hx hb d_Mo_like_25 (by decide) ?_
      obtain rfl := Option.some.inj hd
      exact retI hx hb hr hlk hK hP hD hS d_Mo_like_26 rfl
    · have hd := ite_f hd h_6
      refine lv_aload_n hx hb d_Mo_like_16 rfl (lv_at hl 0 rfl) ?_
      refine lv_iload_n hx hb d_Mo_like_17 rfl (lv_at hl 1 rfl) ?_
      refine lv_iload_n hx hb d_Mo_like_18 rfl (lv_at hl 2 rfl) ?_
      obtain ⟨v_7, e_8, hd⟩ := bind_s hd
      refine callVI (ws' := ws_Mo g a v_7.2) (rest := []) (As := [.int x1, .int x2]) hx hb hml hown hg hK hP hD hS hA hCs hl.1 (c_Mo_likeOf l D g a x1 x2 z _ e_8) o_Mo_likeOf g_1206 (ci := 1) (q0 := 0) rfl rfl (List.range' 0 12) (segC1 rfl rfl) (by decide) rfl (segP1 rfl rfl) rfl rfl (Nat.le_of_ble_eq_true rfl) ⟨rfl, rfl, Nat.le_of_ble_eq_true rfl, Nat.le_of_ble_eq_true rfl⟩ d_Mo_like_19 (fun H locs hP hD hS => ?_)
      refine lv_goto (tgt := 26) hx hb d_Mo_like_22 (by decide) ?_
      obtain rfl := Option.some.inj hd
      exact retI hx hb hr hlk hK hP hD hS d_Mo_like_26 rfl
-- OwnsLiftModel.when()I
def d_Mo_when (z : T_Mo) : Option (Int32) :=
  some ((q_Mo_s z) 6)
theorem d_Mo_when_0 : decode b_Mo_when 0 = .ok (.aload_n 0, 1) := by decide +kernel
theorem d_Mo_when_1 : decode b_Mo_when 1 = .ok (.getfield 9, 3) := by decide +kernel
theorem d_Mo_when_4 : decode b_Mo_when 4 = .ok (.bipush 6, 2) := by decide +kernel
theorem d_Mo_when_6 : decode b_Mo_when 6 = .ok (.iaload, 1) := by decide +kernel
theorem d_Mo_when_7 : decode b_Mo_when 7 = .ok (.ireturn, 1) := by decide +kernel
theorem o_Mo_when : OkV y_Mo_when "OwnsLiftModel" b_Mo_when 1 (some .int) 0 := ⟨⟨rfl, by decide +kernel, by decide +kernel, by decide +kernel⟩, g_1211, g_1212, g_81, g_1213⟩
set_option maxHeartbeats 4000000 in
set_option maxRecDepth 100000 in
theorem c_Mo_when (l : Launch) (D : va_G) (g : Nat → ClassId) (a : Nat → Nat) (z : T_Mo) (v : Int32) (h : d_Mo_when z = some v) :
    MI l y_Mo_when b_Mo_when 1 .int ({ frames := 0, cells := 0, slots := 0, locals := 0 } : Room) D g [.ref (a 0)] (ws_Mo g a z) (v) (ws_Mo g a z) := by
  have hd := h
  unfold d_Mo_when at hd
  refine enterI rfl (Nat.le_of_ble_eq_true rfl) (fun p e s m below meth c A ls hx hb hml hr hown hg hlk hK hA hP hD hS hCs hl => ?_)
  have hown : s.vm.findClass "OwnsLiftModel" = some m.cls := hown
  have hl : lv_has ls 1 [(0, .ref (a 0))] := hl
  show GI p l e s m ({ frames := 0, cells := 0, slots := 0, locals := 0 } : Room) ([.ref (a 0)] : List Value).toArray below meth c A D g (ws_Mo g a z) (v) s.heap [] (F0 m 0 ls [])
  refine lv_aload_n hx hb d_Mo_when_0 rfl (lv_at hl 0 rfl) ?_
  refine va_get (D := D) (ci := 1) (v := .ref (a 1)) (C := R_Mo) (T := F_Mo) (N := 26) hx hb hg i_Mo hown hK hP 0 rfl rfl 1 (by decide) (hg _ g_993) (fun _ h9 => h9) rfl d_Mo_when_1 ?_
  refine lv_bipush (v := 6) hx hb d_Mo_when_4 (by decide) ?_
  refine ialdK hx hb hK hP 1 0 rfl rfl (inb_t (by decide +kernel)) (k := 6) (by decide +kernel) d_Mo_when_6 ?_
  obtain rfl := Option.some.inj hd
  exact retI hx hb hr hlk hK hP hD hS d_Mo_when_7 rfl
-- OwnsLiftModel.isAhead(III)Z
def d_Mo_isAhead (x1 : Int32) (x2 : Int32) (x3 : Int32) (z : T_Mo) : Option (Int32) :=
  if inb (10 + x1) 901 = true then (if inb ((7 * x1) + x2) 28 = true then (if inb ((7 * x1) + x3) 28 = true then (if inb (58 + x2) 901 = true then (if inb (58 + x3) 901 = true then (if ((q_Mo_s z) (10 + x1).toNatClampNeg) = 1 then (if ((q_Mo_s z) (58 + x2).toNatClampNeg) ≤ ((q_Mo_s z) (58 + x3).toNatClampNeg) then (some (0)) else (some (1))) else (if ((q_Mo_s z) (10 + x1).toNatClampNeg) = 2 then (if ((q_Mo_likes z) ((7 * x1) + x3).toNatClampNeg) ≤ ((q_Mo_likes z) ((7 * x1) + x2).toNatClampNeg) then (some (0)) else (some (1))) else (if ((q_Mo_s z) (10 + x1).toNatClampNeg) = 3 then (if ((q_Mo_likes z) ((7 * x1) + x3).toNatClampNeg) ≤ ((q_Mo_likes z) ((7 * x1) + x2).toNatClampNeg) then (some (0)) else (some (1))) else (if ((q_Mo_s z) (10 + x1).toNatClampNeg) = 4 then (if ((q_Mo_s z) (58 + x2).toNatClampNeg) ≤ 0 then (some (0)) else (if ((q_Mo_s z) (58 + x3).toNatClampNeg) = 0 then (some (1)) else (if (((q_Mo_likes z) ((7 * x1) + x3).toNatClampNeg) * ((q_Mo_s z) (58 + x2).toNatClampNeg)) ≤ (((q_Mo_likes z) ((7 * x1) + x2).toNatClampNeg) * ((q_Mo_s z) (58 + x3).toNatClampNeg)) then (some (0)) else (some (1))))) else (if ((q_Mo_s z) (10 + x1).toNatClampNeg) = 5 then (if ((q_Mo_likes z) ((7 * x1) + x2).toNatClampNeg) ≤ ((q_Mo_likes z) ((7 * x1) + x3).toNatClampNeg) then (some (0)) else (some (1))) else (if ((q_Mo_likes z) ((7 * x1) + x3).toNatClampNeg) ≤ ((q_Mo_likes z) ((7 * x1) + x2).toNatClampNeg) then (some (0)) else (some (1)))))))) else none) else none) else none) else none) else none
theorem nz_Mo_isAhead {x1 : Int32} {x2 : Int32} {x3 : Int32} {z : T_Mo} {v : Int32} (h : d_Mo_isAhead x1 x2 x3 z = some v) : narrow .boolean (.int v) = .int v := by
  unfold d_Mo_isAhead at h
  (repeat' split at h) <;> first | (cases h; done) | (obtain rfl := Option.some.inj h; rfl)
theorem d_Mo_isAhead_0 : decode b_Mo_isAhead 0 = .ok (.aload_n 0, 1) := by decide +kernel
theorem d_Mo_isAhead_1 : decode b_Mo_isAhead 1 = .ok (.getfield 9, 3) := by decide +kernel
theorem d_Mo_isAhead_4 : decode b_Mo_isAhead 4 = .ok (.bipush 10, 2) := by decide +kernel
theorem d_Mo_isAhead_6 : decode b_Mo_isAhead 6 = .ok (.iload_n 1, 1) := by decide +kernel
theorem d_Mo_isAhead_7 : decode b_Mo_isAhead 7 = .ok (.iadd, 1) := by decide +kernel
theorem d_Mo_isAhead_8 : decode b_Mo_isAhead 8 = .ok (.iaload, 1) := by decide +kernel
theorem d_Mo_isAhead_9 : decode b_Mo_isAhead 9 = .ok (.istore 4, 2) := by decide +kernel
theorem d_Mo_isAhead_11 : decode b_Mo_isAhead 11 = .ok (.aload_n 0, 1) := by decide +kernel
theorem d_Mo_isAhead_12 : decode b_Mo_isAhead 12 = .ok (.getfield 28, 3) := by decide +kernel
theorem d_Mo_isAhead_15 : decode b_Mo_isAhead 15 = .ok (.bipush 7, 2) := by decide +kernel
theorem d_Mo_isAhead_17 : decode b_Mo_isAhead 17 = .ok (.iload_n 1, 1) := by decide +kernel
theorem d_Mo_isAhead_18 : decode b_Mo_isAhead 18 = .ok (.imul, 1) := by decide +kernel
theorem d_Mo_isAhead_19 : decode b_Mo_isAhead 19 = .ok (.iload_n 2, 1) := by decide +kernel
theorem d_Mo_isAhead_20 : decode b_Mo_isAhead 20 = .ok (.iadd, 1) := by decide +kernel
theorem d_Mo_isAhead_21 : decode b_Mo_isAhead 21 = .ok (.iaload, 1) := by decide +kernel
theorem d_Mo_isAhead_22 : decode b_Mo_isAhead 22 = .ok (.istore 5, 2) := by decide +kernel
theorem d_Mo_isAhead_24 : decode b_Mo_isAhead 24 = .ok (.aload_n 0, 1) := by decide +kernel
theorem d_Mo_isAhead_25 : decode b_Mo_isAhead 25 = .ok (.getfield 28, 3) := by decide +kernel
theorem d_Mo_isAhead_28 : decode b_Mo_isAhead 28 = .ok (.bipush 7, 2) := by decide +kernel
theorem d_Mo_isAhead_30 : decode b_Mo_isAhead 30 = .ok (.iload_n 1, 1) := by decide +kernel
theorem d_Mo_isAhead_31 : decode b_Mo_isAhead 31 = .ok (.imul, 1) := by decide +kernel
theorem d_Mo_isAhead_32 : decode b_Mo_isAhead 32 = .ok (.iload_n 3, 1) := by decide +kernel
theorem d_Mo_isAhead_33 : decode b_Mo_isAhead 33 = .ok (.iadd, 1) := by decide +kernel
theorem d_Mo_isAhead_34 : decode b_Mo_isAhead 34 = .ok (.iaload, 1) := by decide +kernel
theorem d_Mo_isAhead_35 : decode b_Mo_isAhead 35 = .ok (.istore 6, 2) := by decide +kernel
theorem d_Mo_isAhead_37 : decode b_Mo_isAhead 37 = .ok (.aload_n 0, 1) := by decide +kernel
theorem d_Mo_isAhead_38 : decode b_Mo_isAhead 38 = .ok (.getfield 9, 3) := by decide +kernel
theorem d_Mo_isAhead_41 : decode b_Mo_isAhead 41 = .ok (.bipush 58, 2) := by decide +kernel
theorem d_Mo_isAhead_43 : decode b_Mo_isAhead 43 = .ok (.iload_n 2, 1) := by decide +kernel
theorem d_Mo_isAhead_44 : decode b_Mo_isAhead 44 = .ok (.iadd, 1) := by decide +kernel
theorem d_Mo_isAhead_45 : decode b_Mo_isAhead 45 = .ok (.iaload, 1) := by decide +kernel
theorem d_Mo_isAhead_46 : decode b_Mo_isAhead 46 = .ok (.istore 7, 2) := by decide +kernel
theorem d_Mo_isAhead_48 : decode b_Mo_isAhead 48 = .ok (.aload_n 0, 1) := by decide +kernel
theorem d_Mo_isAhead_49 : decode b_Mo_isAhead 49 = .ok (.getfield 9, 3) := by decide +kernel
theorem d_Mo_isAhead_52 : decode b_Mo_isAhead 52 = .ok (.bipush 58, 2) := by decide +kernel
theorem d_Mo_isAhead_54 : decode b_Mo_isAhead 54 = .ok (.iload_n 3, 1) := by decide +kernel
theorem d_Mo_isAhead_55 : decode b_Mo_isAhead 55 = .ok (.iadd, 1) := by decide +kernel
theorem d_Mo_isAhead_56 : decode b_Mo_isAhead 56 = .ok (.iaload, 1) := by decide +kernel
theorem d_Mo_isAhead_57 : decode b_Mo_isAhead 57 = .ok (.istore 8, 2) := by decide +kernel
theorem d_Mo_isAhead_59 : decode b_Mo_isAhead 59 = .ok (.iload 4, 2) := by decide +kernel
theorem d_Mo_isAhead_61 : decode b_Mo_isAhead 61 = .ok (.tableswitch 90 1 5 #[35, 90, 90, 48, 77], 35) := by decide +kernel
theorem d_Mo_isAhead_96 : decode b_Mo_isAhead 96 = .ok (.iload 7, 2) := by decide +kernel
theorem d_Mo_isAhead_98 : decode b_Mo_isAhead 98 = .ok (.iload 8, 2) := by decide +kernel
theorem d_Mo_isAhead_100 : decode b_Mo_isAhead 100 = .ok (.if_icmp .le 7, 3) := by decide +kernel
theorem d_Mo_isAhead_103 : decode b_Mo_isAhead 103 = .ok (.iconst 1, 1) := by decide +kernel
theorem d_Mo_isAhead_104 : decode b_Mo_isAhead 104 = .ok (.goto 4, 3) := by decide +kernel
theorem d_Mo_isAhead_107 : decode b_Mo_isAhead 107 = .ok (.iconst 0, 1) := by decide +kernel
theorem d_Mo_isAhead_108 : decode b_Mo_isAhead 108 = .ok (.ireturn, 1) := by decide +kernel
theorem d_Mo_isAhead_109 : decode b_Mo_isAhead 109 = .ok (.iload 7, 2) := by decide +kernel
theorem d_Mo_isAhead_111 : decode b_Mo_isAhead 111 = .ok (.ifCond .le 25, 3) := by decide +kernel
theorem d_Mo_isAhead_114 : decode b_Mo_isAhead 114 = .ok (.iload 8, 2) := by decide +kernel
theorem d_Mo_isAhead_116 : decode b_Mo_isAhead 116 = .ok (.ifCond .eq 16, 3) := by decide +kernel
theorem d_Mo_isAhead_119 : decode b_Mo_isAhead 119 = .ok (.iload 5, 2) := by decide +kernel
theorem d_Mo_isAhead_121 : decode b_Mo_isAhead 121 = .ok (.iload 8, 2) := by decide +kernel
theorem d_Mo_isAhead_123 : decode b_Mo_isAhead 123 = .ok (.imul, 1) := by decide +kernel
theorem d_Mo_isAhead_124 : decode b_Mo_isAhead 124 = .ok (.iload 6, 2) := by decide +kernel
theorem d_Mo_isAhead_126 : decode b_Mo_isAhead 126 = .ok (.iload 7, 2) := by decide +kernel
theorem d_Mo_isAhead_128 : decode b_Mo_isAhead 128 = .ok (.imul, 1) := by decide +kernel
theorem d_Mo_isAhead_129 : decode b_Mo_isAhead 129 = .ok (.if_icmp .ge 7, 3) := by decide +kernel
theorem d_Mo_isAhead_132 : decode b_Mo_isAhead 132 = .ok (.iconst 1, 1) := by decide +kernel
theorem d_Mo_isAhead_133 : decode b_Mo_isAhead 133 = .ok (.goto 4, 3) := by decide +kernel
theorem d_Mo_isAhead_136 : decode b_Mo_isAhead 136 = .ok (.iconst 0, 1) := by decide +kernel
theorem d_Mo_isAhead_137 : decode b_Mo_isAhead 137 = .ok (.ireturn, 1) := by decide +kernel
theorem d_Mo_isAhead_138 : decode b_Mo_isAhead 138 = .ok (.iload 5, 2) := by decide +kernel
theorem d_Mo_isAhead_140 : decode b_Mo_isAhead 140 = .ok (.iload 6, 2) := by decide +kernel
theorem d_Mo_isAhead_142 : decode b_Mo_isAhead 142 = .ok (.if_icmp .le 7, 3) := by decide +kernel
theorem d_Mo_isAhead_145 : decode b_Mo_isAhead 145 = .ok (.iconst 1, 1) := by decide +kernel
theorem d_Mo_isAhead_146 : decode b_Mo_isAhead 146 = .ok (.goto 4, 3) := by decide +kernel
theorem d_Mo_isAhead_149 : decode b_Mo_isAhead 149 = .ok (.iconst 0, 1) := by decide +kernel
theorem d_Mo_isAhead_150 : decode b_Mo_isAhead 150 = .ok (.ireturn, 1) := by decide +kernel
theorem d_Mo_isAhead_151 : decode b_Mo_isAhead 151 = .ok (.iload 5, 2) := by decide +kernel
theorem d_Mo_isAhead_153 : decode b_Mo_isAhead 153 = .ok (.iload 6, 2) := by decide +kernel
theorem d_Mo_isAhead_155 : decode b_Mo_isAhead 155 = .ok (.if_icmp .ge 7, 3) := by decide +kernel
theorem d_Mo_isAhead_158 : decode b_Mo_isAhead 158 = .ok (.iconst 1, 1) := by decide +kernel
theorem d_Mo_isAhead_159 : decode b_Mo_isAhead 159 = .ok (.goto 4, 3) := by decide +kernel
theorem d_Mo_isAhead_162 : decode b_Mo_isAhead 162 = .ok (.iconst 0, 1) := by decide +kernel
theorem d_Mo_isAhead_163 : decode b_Mo_isAhead 163 = .ok (.ireturn, 1) := by decide +kernel
theorem o_Mo_isAhead : OkV y_Mo_isAhead "OwnsLiftModel" b_Mo_isAhead 9 (some .boolean) 3 := ⟨⟨rfl, by decide +kernel, by decide +kernel, by decide +kernel⟩, g_1236, g_51, g_81, g_1237⟩
set_option maxHeartbeats 4000000 in
set_option maxRecDepth 100000 in
theorem c_Mo_isAhead (l : Launch) (D : va_G) (g : Nat → ClassId) (a : Nat → Nat) (x1 : Int32) (x2 : Int32) (x3 : Int32) (z : T_Mo) (v : Int32) (h : d_Mo_isAhead x1 x2 x3 z = some v) :
    MI l y_Mo_isAhead b_Mo_isAhead 9 .boolean ({ frames := 0, cells := 0, slots := 0, locals := 0 } : Room) D g [.ref (a 0), .int x1, .int x2, .int x3] (ws_Mo g a z) (v) (ws_Mo g a z) := by
  have hd := h
  unfold d_Mo_isAhead at hd
  refine enterI rfl (Nat.le_of_ble_eq_true rfl) (fun p e s m below meth c A ls hx hb hml hr hown hg hlk hK hA hP hD hS hCs hl => ?_)
  have hown : s.vm.findClass "OwnsLiftModel" = some m.cls := hown
  have hl : lv_has ls 9 [(0, .ref (a 0)), (1, .int x1), (2, .int x2), (3, .int x3)] := hl
  show GI p l e s m ({ frames := 0, cells := 0, slots := 0, locals := 0 } : Room) ([.ref (a 0), .int x1, .int x2, .int x3] : List Value).toArray below meth c A D g (ws_Mo g a z) (v) s.heap [] (F0 m 0 ls [])
  refine lv_aload_n hx hb d_Mo_isAhead_0 rfl (lv_at hl 0 rfl) ?_
  refine va_get (D := D) (ci := 1) (v := .ref (a 1)) (C := R_Mo) (T := F_Mo) (N := 26) hx hb hg i_Mo hown hK hP 0 rfl rfl 1 (by decide) (hg _ g_993) (fun _ h9 => h9) rfl d_Mo_isAhead_1 ?_
  refine lv_bipush (v := 10) hx hb d_Mo_isAhead_4 (by decide) ?_
  refine lv_iload_n hx hb d_Mo_isAhead_6 rfl (lv_at hl 1 rfl) ?_
  refine lv_iadd hx hb d_Mo_isAhead_7 ?_
  obtain ⟨h_19, hd⟩ := ite_s hd
  refine ialdK hx hb hK hP 1 0 rfl rfl (inb_t h_19) rfl d_Mo_isAhead_8 ?_
  refine lv_istore (lv' := [(4, .int ((q_Mo_s z) (10 + x1).toNatClampNeg)), (0, .ref (a 0)), (1, .int x1), (2, .int x2), (3, .int x3)]) hx hb d_Mo_isAhead_9 hl (by decide) rfl (fun ls hl => ?_)
  refine lv_aload_n hx hb d_Mo_isAhead_11 rfl (lv_at hl 1 rfl) ?_
  refine va_get (D := D) (ci := 1) (v := .ref (a 6)) (C := R_Mo) (T := F_Mo) (N := 26) hx hb hg i_Mo hown hK hP 0 rfl rfl 12 (by decide) (hg _ g_1004) (fun _ h9 => h9) rfl d_Mo_isAhead_12 ?_
  refine lv_bipush (v := 7) hx hb d_Mo_isAhead_15 (by decide) ?_
  refine lv_iload_n hx hb d_Mo_isAhead_17 rfl (lv_at hl 2 rfl) ?_
  refine lv_imul hx hb d_Mo_isAhead_18 ?_
  refine lv_iload_n hx hb d_Mo_isAhead_19 rfl (lv_at hl 3 rfl) ?_
  refine lv_iadd hx hb d_Mo_isAhead_20 ?_
  obtain ⟨h_18, hd⟩ := ite_s hd
  refine ialdK hx hb hK hP 6 0 rfl rfl (inb_t h_18) rfl d_Mo_isAhead_21 ?_
  refine lv_istore (lv' := [(5, .int ((q_Mo_likes z) ((7 * x1) + x2).toNatClampNeg)), (4, .int ((q_Mo_s z) (10 + x1).toNatClampNeg)), (0, .ref (a 0)), (1, .int x1), (2, .int x2), (3, .int x3)]) hx hb d_Mo_isAhead_22 hl (by decide) rfl (fun ls hl => ?_)
  refine lv_aload_n hx hb d_Mo_isAhead_24 rfl (lv_at hl 2 rfl) ?_
  refine va_get (D := D) (ci := 1) (v := .ref (a 6)) (C := R_Mo) (T := F_Mo) (N := 26) hx hb hg i_Mo hown hK hP 0 rfl rfl 12 (by decide) (hg _ g_1004) (fun _ h9 => h9) rfl d_Mo_isAhead_25 ?_
  refine lv_bipush (v := 7) hx hb d_Mo_isAhead_28 (by decide) ?_
  refine lv_iload_n hx hb d_Mo_isAhead_30 rfl (lv_at hl 3 rfl) ?_
  refine lv_imul hx hb d_Mo_isAhead_31 ?_
  refine lv_iload_n hx hb d_Mo_isAhead_32 rfl (lv_at hl 5 rfl) ?_
  refine lv_iadd hx hb d_Mo_isAhead_33 ?_
  obtain ⟨h_17, hd⟩ := ite_s hd
  refine ialdK hx hb hK hP 6 0 rfl rfl (inb_t h_17) rfl d_Mo_isAhead_34 ?_
  refine lv_istore (lv' := [(6, .int ((q_Mo_likes z) ((7 * x1) + x3).toNatClampNeg)), (5, .int ((q_Mo_likes z) ((7 * x1) + x2).toNatClampNeg)), (4, .int ((q_Mo_s z) (10 + x1).toNatClampNeg)), (0, .ref (a 0)), (1, .int x1), (2, .int x2), (3, .int x3)]) hx hb d_Mo_isAhead_35 hl (by decide) rfl (fun ls hl => ?_)
  refine lv_aload_n hx hb d_Mo_isAhead_37 rfl (lv_at hl 3 rfl) ?_
  refine va_get (D := D) (ci := 1) (v := .ref (a 1)) (C := R_Mo) (T := F_Mo) (N := 26) hx hb hg i_Mo hown hK hP 0 rfl rfl 1 (by decide) (hg _ g_993) (fun _ h9 => h9) rfl d_Mo_isAhead_38 ?_
  refine lv_bipush (v := 58) hx hb d_Mo_isAhead_41 (by decide) ?_
  refine lv_iload_n hx hb d_Mo_isAhead_43 rfl (lv_at hl 5 rfl) ?_
  refine lv_iadd hx hb d_Mo_isAhead_44 ?_
  obtain ⟨h_16, hd⟩ := ite_s hd
  refine ialdK hx hb hK hP 1 0 rfl rfl (inb_t h_16) rfl d_Mo_isAhead_45 ?_
  refine lv_istore (lv' := [(7, .int ((q_Mo_s z) (58 + x2).toNatClampNeg)), (6, .int ((q_Mo_likes z) ((7 * x1) + x3).toNatClampNeg)), (5, .int ((q_Mo_likes z) ((7 * x1) + x2).toNatClampNeg)), (4, .int ((q_Mo_s z) (10 + x1).toNatClampNeg)), (0, .ref (a 0)), (1, .int x1), (2, .int x2), (3, .int x3)]) hx hb d_Mo_isAhead_46 hl (by decide) rfl (fun ls hl => ?_)
  refine lv_aload_n hx hb d_Mo_isAhead_48 rfl (lv_at hl 4 rfl) ?_
  refine va_get (D := D) (ci := 1) (v := .ref (a 1)) (C := R_Mo) (T := F_Mo) (N := 26) hx hb hg i_Mo hown hK hP 0 rfl rfl 1 (by decide) (hg _ g_993) (fun _ h9 => h9) rfl d_Mo_isAhead_49 ?_
  refine lv_bipush (v := 58) hx hb d_Mo_isAhead_52 (by decide) ?_
  refine lv_iload_n hx hb d_Mo_isAhead_54 rfl (lv_at hl 7 rfl) ?_
  refine lv_iadd hx hb d_Mo_isAhead_55 ?_
  obtain ⟨h_15, hd⟩ := ite_s hd
  refine ialdK hx hb hK hP 1 0 rfl rfl (inb_t h_15) rfl d_Mo_isAhead_56 ?_
  refine lv_istore (lv' := [(8, .int ((q_Mo_s z) (58 + x3).toNatClampNeg)), (7, .int ((q_Mo_s z) (58 + x2).toNatClampNeg)), (6, .int ((q_Mo_likes z) ((7 * x1) + x3).toNatClampNeg)), (5, .int ((q_Mo_likes z) ((7 * x1) + x2).toNatClampNeg)), (4, .int ((q_Mo_s z) (10 + x1).toNatClampNeg)), (0, .ref (a 0)), (1, .int x1), (2, .int x2), (3, .int x3)]) hx hb d_Mo_isAhead_57 hl (by decide) rfl (fun ls hl => ?_)
  refine lv_iload hx hb d_Mo_isAhead_59 (lv_at hl 4 rfl) ?_
  by_cases h_1 : ((q_Mo_s z) (10 + x1).toNatClampNeg) = 1
  · have hd := ite_t hd h_1
    refine lv_tableIn (tgt := 96) hx hb d_Mo_isAhead_61 (by rw [h_1]; decide) (by rw [h_1]; decide) (off := 35) (by rw [h_1]; decide) (by decide) ?_
    refine lv_iload hx hb d_Mo_isAhead_96 (lv_at hl 1 rfl) ?_
    refine lv_iload hx hb d_Mo_isAhead_98 (lv_at hl 0 rfl) ?_
    refine lv_icmp_le (tgt := 107) hx hb d_Mo_isAhead_100 (by decide) (fun h_2 => ?_) (fun h_2 => ?_)
    · have hd := ite_t hd h_2
      refine lv_iconst (v := 0) hx hb d_Mo_isAhead_107 (by decide) ?_
      obtain rfl := Option.some.inj hd
      exact retZ hx hb hr hlk hK hP hD hS d_Mo_isAhead_108 rfl (by decide +kernel)
    · have hd := ite_f hd h_2
      refine lv_iconst (v := 1) hx hb d_Mo_isAhead_103 (by decide) ?_
      refine lv_goto (tgt := 108) hx hb d_Mo_isAhead_104 (by decide) ?_
      obtain rfl := Option.some.inj hd
      exact retZ hx hb hr hlk hK hP hD hS d_Mo_isAhead_108 rfl (by decide +kernel)
  have hd := ite_f hd h_1
  by_cases h_3 : ((q_Mo_s z) (10 + x1).toNatClampNeg) = 2
  · have hd := ite_t hd h_3
    refine lv_tableIn (tgt := 151) hx hb d_Mo_isAhead_61 (by rw [h_3]; decide) (by rw [h_3]; decide) (off := 90) (by rw [h_3]; decide) (by decide) ?_
    refine lv_iload hx hb d_Mo_isAhead_151 (lv_at hl 3 rfl) ?_
    refine lv_iload hx hb d_Mo_isAhead_153 (lv_at hl 2 rfl) ?_
    refine lv_icmp_ge (tgt := 162) hx hb d_Mo_isAhead_155 (by decide) (fun h_4 => ?_) (fun h_4 => ?_)
    · have hd := ite_t hd h_4
      refine lv_iconst (v := 0) hx hb d_Mo_isAhead_162 (by decide) ?_
      obtain rfl := Option.some.inj hd
      exact retZ hx hb hr hlk hK hP hD hS d_Mo_isAhead_163 rfl (by decide +kernel)
    · have hd := ite_f hd h_4
      refine lv_iconst (v := 1) hx hb d_Mo_isAhead_158 (by decide) ?_
      refine lv_goto (tgt := 163) hx hb d_Mo_isAhead_159 (by decide) ?_
      obtain rfl := Option.some.inj hd
      exact retZ hx hb hr hlk hK hP hD hS d_Mo_isAhead_163 rfl (by decide +kernel)
  have hd := ite_f hd h_3
  by_cases h_5 : ((q_Mo_s z) (10 + x1).toNatClampNeg) = 3
  · have hd := ite_t hd h_5
    refine lv_tableIn (tgt := 151) hx hb d_Mo_isAhead_61 (by rw [h_5]; decide) (by rw [h_5]; decide) (off := 90) (by rw [h_5]; decide) (by decide) ?_
    refine lv_iload hx hb d_Mo_isAhead_151 (lv_at hl 3 rfl) ?_
    refine lv_iload hx hb d_Mo_isAhead_153 (lv_at hl 2 rfl) ?_
    refine lv_icmp_ge (tgt := 162) hx hb d_Mo_isAhead_155 (by decide) (fun h_6 => ?_) (fun h_6 => ?_)
    · have hd := ite_t hd h_6
      refine lv_iconst (v := 0) hx hb d_Mo_isAhead_162 (by decide) ?_
      obtain rfl := Option.some.inj hd
      exact retZ hx hb hr hlk hK hP hD hS d_Mo_isAhead_163 rfl (by decide +kernel)
    · have hd := ite_f hd h_6
      refine lv_iconst (v := 1) hx hb d_Mo_isAhead_158 (by decide) ?_
      refine lv_goto (tgt := 163) hx hb d_Mo_isAhead_159 (by decide) ?_
      obtain rfl := Option.some.inj hd
      exact retZ hx hb hr hlk hK hP hD hS d_Mo_isAhead_163 rfl (by decide +kernel)
  have hd := ite_f hd h_5
  by_cases h_7 : ((q_Mo_s z) (10 + x1).toNatClampNeg) = 4
  · have hd := ite_t hd h_7
    refine lv_tableIn (tgt := 109) hx hb d_Mo_isAhead_61 (by rw [h_7]; decide) (by rw [h_7]; decide) (off := 48) (by rw [h_7]; decide) (by decide) ?_
    refine lv_iload hx hb d_Mo_isAhead_109 (lv_at hl 1 rfl) ?_
    refine lv_if_le (tgt := 136) hx hb d_Mo_isAhead_111 (by decide) (fun h_8 => ?_) (fun h_8 => ?_)
    · have hd := ite_t hd h_8
      refine lv_iconst (v := 0) hx hb d_Mo_isAhead_136 (by decide) ?_
      obtain rfl := Option.some.inj hd
      exact retZ hx hb hr hlk hK hP hD hS d_Mo_isAhead_137 rfl (by decide +kernel)
    · have hd := ite_f hd h_8
      refine lv_iload hx hb d_Mo_isAhead_114 (lv_at hl 0 rfl) ?_
      refine lv_if_eq (tgt := 132) hx hb d_Mo_isAhead_116 (by decide) (fun h_9 => ?_) (fun h_9 => ?_)
      · have hd := ite_t hd h_9
        refine lv_iconst (v := 1) hx hb d_Mo_isAhead_132 (by decide) ?_
        refine lv_goto (tgt := 137) hx hb d_Mo_isAhead_133 (by decide) ?_
        obtain rfl := Option.some.inj hd
        exact retZ hx hb hr hlk hK hP hD hS d_Mo_isAhead_137 rfl (by decide +kernel)
      · have hd := ite_f hd h_9
        refine lv_iload hx hb d_Mo_isAhead_119 (lv_at hl 3 rfl) ?_
        refine lv_iload hx hb d_Mo_isAhead_121 (lv_at hl 0 rfl) ?_
        refine lv_imul hx hb d_Mo_isAhead_123 ?_
        refine lv_iload hx hb d_Mo_isAhead_124 (lv_at hl 2 rfl) ?_
        refine lv_iload hx hb d_Mo_isAhead_126 (lv_at hl 1 rfl) ?_
        refine lv_imul hx hb d_Mo_isAhead_128 ?_
        refine lv_icmp_ge (tgt := 136) hx hb d_Mo_isAhead_129 (by decide) (fun h_10 => ?_) (fun h_10 => ?_)
        · have hd := ite_t hd h_10
          refine lv_iconst (v := 0) hx hb d_Mo_isAhead_136 (by decide) ?_
          obtain rfl := Option.some.inj hd
          exact retZ hx hb hr hlk hK hP hD hS d_Mo_isAhead_137 rfl (by decide +kernel)
        · have hd := ite_f hd h_10
          refine lv_iconst (v := 1) hx hb d_Mo_isAhead_132 (by decide) ?_
          refine lv_goto (tgt := 137) hx hb d_Mo_isAhead_133 (by decide) ?_
          obtain rfl := Option.some.inj hd
          exact retZ hx hb hr hlk hK hP hD hS d_Mo_isAhead_137 rfl (by decide +kernel)
  have hd := ite_f hd h_7
  by_cases h_11 : ((q_Mo_s z) (10 + x1).toNatClampNeg) = 5
  · have hd := ite_t hd h_11
    refine lv_tableIn (tgt := 138) hx hb d_Mo_isAhead_61 (by rw [h_11]; decide) (by rw [h_11]; decide) (off := 77) (by rw [h_11]; decide) (by decide) ?_
    refine lv_iload hx hb d_Mo_isAhead_138 (lv_at hl 3 rfl) ?_
    refine lv_iload hx hb d_Mo_isAhead_140 (lv_at hl 2 rfl) ?_
    refine lv_icmp_le (tgt := 149) hx hb d_Mo_isAhead_142 (by decide) (fun h_12 => ?_) (fun h_12 => ?_)
    · have hd := ite_t hd h_12
      refine lv_iconst (v := 0) hx hb d_Mo_isAhead_149 (by decide) ?_
      obtain rfl := Option.some.inj hd
      exact retZ hx hb hr hlk hK hP hD hS d_Mo_isAhead_150 rfl (by decide +kernel)
    · have hd := ite_f hd h_12
      refine lv_iconst (v := 1) hx hb d_Mo_isAhead_145 (by decide) ?_
      refine lv_goto (tgt := 150) hx hb d_Mo_isAhead_146 (by decide) ?_
      obtain rfl := Option.some.inj hd
      exact retZ hx hb hr hlk hK hP hD hS d_Mo_isAhead_150 rfl (by decide +kernel)
  have hd := ite_f hd h_11
  have ho_14 : (((q_Mo_s z) (10 + x1).toNatClampNeg)).toInt < 1 ∨ 5 < (((q_Mo_s z) (10 + x1).toNatClampNeg)).toInt := by
    refine tab_out 1 5 ?_
    intro k h1 h2 q
    have hk : k = 1 ∨ k = 2 ∨ k = 3 ∨ k = 4 ∨ k = 5 := by omega
    rcases hk with rfl | rfl | rfl | rfl | rfl
    · exact h_1 (Int32.toInt_inj.mp (q.trans (by decide)))
    · exact h_3 (Int32.toInt_inj.mp (q.trans (by decide)))
    · exact h_5 (Int32.toInt_inj.mp (q.trans (by decide)))
    · exact h_7 (Int32.toInt_inj.mp (q.trans (by decide)))
    · exact h_11 (Int32.toInt_inj.mp (q.trans (by decide)))
  refine lv_tableOut (tgt := 151) hx hb d_Mo_isAhead_61 ho_14 (by decide) ?_
  refine lv_iload hx hb d_Mo_isAhead_151 (lv_at hl 3 rfl) ?_
  refine lv_iload hx hb d_Mo_isAhead_153 (lv_at hl 2 rfl) ?_
  refine lv_icmp_ge (tgt := 162) hx hb d_Mo_isAhead_155 (by decide) (fun h_13 => ?_) (fun h_13 => ?_)
  · have hd := ite_t hd h_13
    refine lv_iconst (v := 0) hx hb d_Mo_isAhead_162 (by decide) ?_
    obtain rfl := Option.some.inj hd
    exact retZ hx hb hr hlk hK hP hD hS d_Mo_isAhead_163 rfl (by decide +kernel)
  · have hd := ite_f hd h_13
    refine lv_iconst (v := 1) hx hb d_Mo_isAhead_158 (by decide) ?_
    refine lv_goto (tgt := 163) hx hb d_Mo_isAhead_159 (by decide) ?_
    obtain rfl := Option.some.inj hd
    exact retZ hx hb hr hlk hK hP hD hS d_Mo_isAhead_163 rfl (by decide +kernel)
-- OwnsLiftModel.toldThing(I)I
def B_Mo_toldThing_L2 (x1_f2 : Int32) (z : T_Mo) (self2 : Int32 → Option (Int32)) (x2_2 : Int32) : Option (Int32) :=
  if inb (26 + x1_f2) 901 = true then (if ((q_Mo_s z) (26 + x1_f2).toNatClampNeg) ≤ x2_2 then (some ((-1))) else (if inb ((30 + (7 * x1_f2)) + x2_2) 901 = true then (if inb (65 + ((q_Mo_s z) ((30 + (7 * x1_f2)) + x2_2).toNatClampNeg)) 901 = true then (if ((q_Mo_s z) (65 + ((q_Mo_s z) ((30 + (7 * x1_f2)) + x2_2).toNatClampNeg)).toNatClampNeg) = x1_f2 then (if inb (58 + ((q_Mo_s z) ((30 + (7 * x1_f2)) + x2_2).toNatClampNeg)) 901 = true then (if ((q_Mo_s z) (58 + ((q_Mo_s z) ((30 + (7 * x1_f2)) + x2_2).toNatClampNeg)).toNatClampNeg) ≤ 0 then (self2 (x2_2 + 1)) else (some ((q_Mo_s z) ((30 + (7 * x1_f2)) + x2_2).toNatClampNeg))) else none) else (self2 (x2_2 + 1))) else none) else none)) else none
def d_Mo_toldThing_L2 (x1_f2 : Int32) (z : T_Mo) (n : Nat) : Int32 → Option (Int32) := recN (fun _ => none) (fun self => B_Mo_toldThing_L2 x1_f2 z self) n
def d_Mo_toldThing (x1 : Int32) (z : T_Mo) : Option (Int32) :=
  d_Mo_toldThing_L2 x1 z  1000 0
theorem d_Mo_toldThing_0 : decode b_Mo_toldThing 0 = .ok (.iconst 0, 1) := by decide +kernel
theorem d_Mo_toldThing_1 : decode b_Mo_toldThing 1 = .ok (.istore_n 2, 1) := by decide +kernel
theorem d_Mo_toldThing_2 : decode b_Mo_toldThing 2 = .ok (.iload_n 2, 1) := by decide +kernel
theorem d_Mo_toldThing_3 : decode b_Mo_toldThing 3 = .ok (.aload_n 0, 1) := by decide +kernel
theorem d_Mo_toldThing_4 : decode b_Mo_toldThing 4 = .ok (.getfield 9, 3) := by decide +kernel
theorem d_Mo_toldThing_7 : decode b_Mo_toldThing 7 = .ok (.bipush 26, 2) := by decide +kernel
theorem d_Mo_toldThing_9 : decode b_Mo_toldThing 9 = .ok (.iload_n 1, 1) := by decide +kernel
theorem d_Mo_toldThing_10 : decode b_Mo_toldThing 10 = .ok (.iadd, 1) := by decide +kernel
theorem d_Mo_toldThing_11 : decode b_Mo_toldThing 11 = .ok (.iaload, 1) := by decide +kernel
theorem d_Mo_toldThing_12 : decode b_Mo_toldThing 12 = .ok (.if_icmp .ge 51, 3) := by decide +kernel
theorem d_Mo_toldThing_15 : decode b_Mo_toldThing 15 = .ok (.aload_n 0, 1) := by decide +kernel
theorem d_Mo_toldThing_16 : decode b_Mo_toldThing 16 = .ok (.getfield 9, 3) := by decide +kernel
theorem d_Mo_toldThing_19 : decode b_Mo_toldThing 19 = .ok (.bipush 30, 2) := by decide +kernel
theorem d_Mo_toldThing_21 : decode b_Mo_toldThing 21 = .ok (.bipush 7, 2) := by decide +kernel
theorem d_Mo_toldThing_23 : decode b_Mo_toldThing 23 = .ok (.iload_n 1, 1) := by decide +kernel
theorem d_Mo_toldThing_24 : decode b_Mo_toldThing 24 = .ok (.imul, 1) := by decide +kernel
theorem d_Mo_toldThing_25 : decode b_Mo_toldThing 25 = .ok (.iadd, 1) := by decide +kernel
theorem d_Mo_toldThing_26 : decode b_Mo_toldThing 26 = .ok (.iload_n 2, 1) := by decide +kernel
theorem d_Mo_toldThing_27 : decode b_Mo_toldThing 27 = .ok (.iadd, 1) := by decide +kernel
theorem d_Mo_toldThing_28 : decode b_Mo_toldThing 28 = .ok (.iaload, 1) := by decide +kernel
theorem d_Mo_toldThing_29 : decode b_Mo_toldThing 29 = .ok (.istore_n 3, 1) := by decide +kernel
theorem d_Mo_toldThing_30 : decode b_Mo_toldThing 30 = .ok (.aload_n 0, 1) := by decide +kernel
theorem d_Mo_toldThing_31 : decode b_Mo_toldThing 31 = .ok (.getfield 9, 3) := by decide +kernel
theorem d_Mo_toldThing_34 : decode b_Mo_toldThing 34 = .ok (.bipush 65, 2) := by decide +kernel
theorem d_Mo_toldThing_36 : decode b_Mo_toldThing 36 = .ok (.iload_n 3, 1) := by decide +kernel
theorem d_Mo_toldThing_37 : decode b_Mo_toldThing 37 = .ok (.iadd, 1) := by decide +kernel
theorem d_Mo_toldThing_38 : decode b_Mo_toldThing 38 = .ok (.iaload, 1) := by decide +kernel
theorem d_Mo_toldThing_39 : decode b_Mo_toldThing 39 = .ok (.iload_n 1, 1) := by decide +kernel
theorem d_Mo_toldThing_40 : decode b_Mo_toldThing 40 = .ok (.if_icmp .ne 17, 3) := by decide +kernel
theorem d_Mo_toldThing_43 : decode b_Mo_toldThing 43 = .ok (.aload_n 0, 1) := by decide +kernel
theorem d_Mo_toldThing_44 : decode b_Mo_toldThing 44 = .ok (.getfield 9, 3) := by decide +kernel
theorem d_Mo_toldThing_47 : decode b_Mo_toldThing 47 = .ok (.bipush 58, 2) := by decide +kernel
theorem d_Mo_toldThing_49 : decode b_Mo_toldThing 49 = .ok (.iload_n 3, 1) := by decide +kernel
theorem d_Mo_toldThing_50 : decode b_Mo_toldThing 50 = .ok (.iadd, 1) := by decide +kernel
theorem d_Mo_toldThing_51 : decode b_Mo_toldThing 51 = .ok (.iaload, 1) := by decide +kernel
theorem d_Mo_toldThing_52 : decode b_Mo_toldThing 52 = .ok (.ifCond .le 5, 3) := by decide +kernel
theorem d_Mo_toldThing_55 : decode b_Mo_toldThing 55 = .ok (.iload_n 3, 1) := by decide +kernel
theorem d_Mo_toldThing_56 : decode b_Mo_toldThing 56 = .ok (.ireturn, 1) := by decide +kernel
theorem d_Mo_toldThing_57 : decode b_Mo_toldThing 57 = .ok (.iinc 2 1, 3) := by decide +kernel
theorem d_Mo_toldThing_60 : decode b_Mo_toldThing 60 = .ok (.goto (-58), 3) := by decide +kernel
theorem d_Mo_toldThing_63 : decode b_Mo_toldThing 63 = .ok (.iconst (-1), 1) := by decide +kernel
theorem d_Mo_toldThing_64 : decode b_Mo_toldThing 64 = .ok (.ireturn, 1) := by decide +kernel
theorem o_Mo_toldThing : OkV y_Mo_toldThing "OwnsLiftModel" b_Mo_toldThing 4 (some .int) 1 := ⟨⟨rfl, by decide +kernel, by decide +kernel, by decide +kernel⟩, g_1232, g_50, g_81, g_1233⟩
set_option maxHeartbeats 4000000 in
set_option maxRecDepth 100000 in
theorem c_Mo_toldThing (l : Launch) (D : va_G) (g : Nat → ClassId) (a : Nat → Nat) (x1 : Int32) (z : T_Mo) (v : Int32) (h : d_Mo_toldThing x1 z = some v) :
    MI l y_Mo_toldThing b_Mo_toldThing 4 .int ({ frames := 0, cells := 0, slots := 0, locals := 0 } : Room) D g [.ref (a 0), .int x1] (ws_Mo g a z) (v) (ws_Mo g a z) := by
  have hd := h
  unfold d_Mo_toldThing at hd
  refine enterI rfl (Nat.le_of_ble_eq_true rfl) (fun p e s m below meth c A ls hx hb hml hr hown hg hlk hK hA hP hD hS hCs hl => ?_)
  have hown : s.vm.findClass "OwnsLiftModel" = some m.cls := hown
  have hl : lv_has ls 4 [(0, .ref (a 0)), (1, .int x1)] := hl
  show GI p l e s m ({ frames := 0, cells := 0, slots := 0, locals := 0 } : Room) ([.ref (a 0), .int x1] : List Value).toArray below meth c A D g (ws_Mo g a z) (v) s.heap [] (F0 m 0 ls [])
  refine lv_iconst (v := 0) hx hb d_Mo_toldThing_0 (by decide) ?_
  refine lv_istore_n (lv' := [(2, .int 0), (0, .ref (a 0)), (1, .int x1)]) hx hb d_Mo_toldThing_1 rfl hl (by decide) rfl (fun ls hl => ?_)
  have lp2 : ∀ (x1_f2 : Int32) (n : Nat) (x2_2 : Int32) (H : Heap) (locs : List Loc) (ls : Array Slot), va_P D classes (ws_Mo g a z) H → va_D A (ws_Mo g a z) → va_S A s.heap H locs → lv_has ls 4 [(0, .ref (a 0)), (1, .int x1_f2), (2, .int x2_2)] → d_Mo_toldThing_L2 x1_f2 z n x2_2 = some v → GI p l e s m ({ frames := 0, cells := 0, slots := 0, locals := 0 } : Room) ([.ref (a 0), .int x1] : List Value).toArray below meth c A D g (ws_Mo g a z) (v) H locs (F0 m 2 ls []) := by
    intro x1_f2 n
    induction n with
    | zero =>
      intro  x2_2 H locs ls hP hD hS hl hd
      have hd : none = some v := hd
      cases hd
    | succ n ih2 =>
      intro  x2_2 H locs ls hP hD hS hl hd
      have hd : B_Mo_toldThing_L2 x1_f2 z (d_Mo_toldThing_L2 x1_f2 z n) x2_2 = some v := hd
      generalize d_Mo_toldThing_L2 x1_f2 z n = self2 at ih2 hd
      unfold B_Mo_toldThing_L2 at hd
      refine lv_iload_n hx hb d_Mo_toldThing_2 rfl (lv_at hl 2 rfl) ?_
      refine lv_aload_n hx hb d_Mo_toldThing_3 rfl (lv_at hl 0 rfl) ?_
      refine va_get (D := D) (ci := 1) (v := .ref (a 1)) (C := R_Mo) (T := F_Mo) (N := 26) hx hb hg i_Mo hown hK hP 0 rfl rfl 1 (by decide) (hg _ g_993) (fun _ h9 => h9) rfl d_Mo_toldThing_4 ?_
      refine lv_bipush (v := 26) hx hb d_Mo_toldThing_7 (by decide) ?_
      refine lv_iload_n hx hb d_Mo_toldThing_9 rfl (lv_at hl 1 rfl) ?_
      refine lv_iadd hx hb d_Mo_toldThing_10 ?_
      obtain ⟨h_7, hd⟩ := ite_s hd
      refine ialdK hx hb hK hP 1 0 rfl rfl (inb_t h_7) rfl d_Mo_toldThing_11 ?_
      refine lv_icmp_ge (tgt := 63) hx hb d_Mo_toldThing_12 (by decide) (fun h_1 => ?_) (fun h_1 => ?_)
      · have hd := ite_t hd h_1
        refine lv_iconst (v := (-1)) hx hb d_Mo_toldThing_63 (by decide) ?_
        obtain rfl := Option.some.inj hd
        exact retI hx hb hr hlk hK hP hD hS d_Mo_toldThing_64 rfl
      · have hd := ite_f hd h_1
        refine lv_aload_n hx hb d_Mo_toldThing_15 rfl (lv_at hl 0 rfl) ?_
        refine va_get (D := D) (ci := 1) (v := .ref (a 1)) (C := R_Mo) (T := F_Mo) (N := 26) hx hb hg i_Mo hown hK hP 0 rfl rfl 1 (by decide) (hg _ g_993) (fun _ h9 => h9) rfl d_Mo_toldThing_16 ?_
        refine lv_bipush (v := 30) hx hb d_Mo_toldThing_19 (by decide) ?_
        refine lv_bipush (v := 7) hx hb d_Mo_toldThing_21 (by decide) ?_
        refine lv_iload_n hx hb d_Mo_toldThing_23 rfl (lv_at hl 1 rfl) ?_
        refine lv_imul hx hb d_Mo_toldThing_24 ?_
        refine lv_iadd hx hb d_Mo_toldThing_25 ?_
        refine lv_iload_n hx hb d_Mo_toldThing_26 rfl (lv_at hl 2 rfl) ?_
        refine lv_iadd hx hb d_Mo_toldThing_27 ?_
        obtain ⟨h_6, hd⟩ := ite_s hd
        refine ialdK hx hb hK hP 1 0 rfl rfl (inb_t h_6) rfl d_Mo_toldThing_28 ?_
        refine lv_istore_n (lv' := [(3, .int ((q_Mo_s z) ((30 + (7 * x1_f2)) + x2_2).toNatClampNeg)), (0, .ref (a 0)), (1, .int x1_f2), (2, .int x2_2)]) hx hb d_Mo_toldThing_29 rfl hl (by decide) rfl (fun ls hl => ?_)
        refine lv_aload_n hx hb d_Mo_toldThing_30 rfl (lv_at hl 1 rfl) ?_
        refine va_get (D := D) (ci := 1) (v := .ref (a 1)) (C := R_Mo) (T := F_Mo) (N := 26) hx hb hg i_Mo hown hK hP 0 rfl rfl 1 (by decide) (hg _ g_993) (fun _ h9 => h9) rfl d_Mo_toldThing_31 ?_
        refine lv_bipush (v := 65) hx hb d_Mo_toldThing_34 (by decide) ?_
        refine lv_iload_n hx hb d_Mo_toldThing_36 rfl (lv_at hl 0 rfl) ?_
        refine lv_iadd hx hb d_Mo_toldThing_37 ?_
        obtain ⟨h_5, hd⟩ := ite_s hd
        refine ialdK hx hb hK hP 1 0 rfl rfl (inb_t h_5) rfl d_Mo_toldThing_38 ?_
        refine lv_iload_n hx hb d_Mo_toldThing_39 rfl (lv_at hl 2 rfl) ?_
        refine lv_icmp_ne (tgt := 57) hx hb d_Mo_toldThing_40 (by decide) (fun h_2 => ?_) (fun h_2 => ?_)
        · have hd := ite_f hd h_2
          refine lv_iinc (v := x2_2 + 1) (lv' := [(2, .int (x2_2 + 1)), (3, .int ((q_Mo_s z) ((30 + (7 * x1_f2)) + x2_2).toNatClampNeg)), (0, .ref (a 0)), (1, .int x1_f2)]) hx hb d_Mo_toldThing_57 hl (k := 3) rfl (by rfl) (by decide) rfl (fun ls hl => ?_)
          refine lv_goto (tgt := 2) hx hb d_Mo_toldThing_60 (by decide) ?_
          exact ih2 (x2_2 + 1) _ _ _ hP hD hS (lv_sub hl [2, 3, 0] rfl) hd
        · have hd := ite_t hd h_2
          refine lv_aload_n hx hb d_Mo_toldThing_43 rfl (lv_at hl 1 rfl) ?_
          refine va_get (D := D) (ci := 1) (v := .ref (a 1)) (C := R_Mo) (T := F_Mo) (N := 26) hx hb hg i_Mo hown hK hP 0 rfl rfl 1 (by decide) (hg _ g_993) (fun _ h9 => h9) rfl d_Mo_toldThing_44 ?_
          refine lv_bipush (v := 58) hx hb d_Mo_toldThing_47 (by decide) ?_
          refine lv_iload_n hx hb d_Mo_toldThing_49 rfl (lv_at hl 0 rfl) ?_
          refine lv_iadd hx hb d_Mo_toldThing_50 ?_
          obtain ⟨h_4, hd⟩ := ite_s hd
          refine ialdK hx hb hK hP 1 0 rfl rfl (inb_t h_4) rfl d_Mo_toldThing_51 ?_
          refine lv_if_le (tgt := 57) hx hb d_Mo_toldThing_52 (by decide) (fun h_3 => ?_) (fun h_3 => ?_)
          · have hd := ite_t hd h_3
            refine lv_iinc (v := x2_2 + 1) (lv' := [(2, .int (x2_2 + 1)), (3, .int ((q_Mo_s z) ((30 + (7 * x1_f2)) + x2_2).toNatClampNeg)), (0, .ref (a 0)), (1, .int x1_f2)]) hx hb d_Mo_toldThing_57 hl (k := 3) rfl (by rfl) (by decide) rfl (fun ls hl => ?_)
            refine lv_goto (tgt := 2) hx hb d_Mo_toldThing_60 (by decide) ?_
            exact ih2 (x2_2 + 1) _ _ _ hP hD hS (lv_sub hl [2, 3, 0] rfl) hd
          · have hd := ite_f hd h_3
            refine lv_iload_n hx hb d_Mo_toldThing_55 rfl (lv_at hl 0 rfl) ?_
            obtain rfl := Option.some.inj hd
            exact retI hx hb hr hlk hK hP hD hS d_Mo_toldThing_56 rfl
  exact lp2 x1 1000 0 _ _ _ hP hD hS (lv_sub hl [1, 2, 0] rfl) hd
-- OwnsLiftModel.drops(I)I
def B_Mo_drops_L36 (x1_f36 : Int32) (z : T_Mo) (self36 : Int32 → Int32 → Option (Int32)) (x3_36 : Int32) (x4_36 : Int32) : Option (Int32) :=
  if ((q_Mo_s z) 1) ≤ x4_36 then (some (x3_36)) else (if inb (65 + x4_36) 901 = true then (if ((q_Mo_s z) (65 + x4_36).toNatClampNeg) = x1_f36 then (if x3_36 = (-1) then (self36 x4_36 (x4_36 + 1)) else ((d_Mo_isAhead x1_f36 x4_36 x3_36 z).bind fun v_5 => if v_5 = 0 then (self36 x3_36 (x4_36 + 1)) else (self36 x4_36 (x4_36 + 1)))) else (self36 x3_36 (x4_36 + 1))) else none)
def d_Mo_drops_L36 (x1_f36 : Int32) (z : T_Mo) (n : Nat) : Int32 → Int32 → Option (Int32) := recN (fun _ _ => none) (fun self => B_Mo_drops_L36 x1_f36 z self) n
def d_Mo_drops (x1 : Int32) (z : T_Mo) : Option (Int32) :=
  if inb (10 + x1) 901 = true then (if ((q_Mo_s z) (10 + x1).toNatClampNeg) = 6 then ((d_Mo_toldThing x1 z).bind fun v_9 => if v_9 = (-1) then (d_Mo_drops_L36 x1 z  1000 (-1) 0) else (some (v_9))) else (d_Mo_drops_L36 x1 z  1000 (-1) 0)) else none
theorem d_Mo_drops_0 : decode b_Mo_drops 0 = .ok (.aload_n 0, 1) := by decide +kernel
theorem d_Mo_drops_1 : decode b_Mo_drops 1 = .ok (.getfield 9, 3) := by decide +kernel
theorem d_Mo_drops_4 : decode b_Mo_drops 4 = .ok (.bipush 10, 2) := by decide +kernel
theorem d_Mo_drops_6 : decode b_Mo_drops 6 = .ok (.iload_n 1, 1) := by decide +kernel
theorem d_Mo_drops_7 : decode b_Mo_drops 7 = .ok (.iadd, 1) := by decide +kernel
theorem d_Mo_drops_8 : decode b_Mo_drops 8 = .ok (.iaload, 1) := by decide +kernel
theorem d_Mo_drops_9 : decode b_Mo_drops 9 = .ok (.bipush 6, 2) := by decide +kernel
theorem d_Mo_drops_11 : decode b_Mo_drops 11 = .ok (.if_icmp .ne 11, 3) := by decide +kernel
theorem d_Mo_drops_14 : decode b_Mo_drops 14 = .ok (.aload_n 0, 1) := by decide +kernel
theorem d_Mo_drops_15 : decode b_Mo_drops 15 = .ok (.iload_n 1, 1) := by decide +kernel
theorem d_Mo_drops_16 : decode b_Mo_drops 16 = .ok (.invokevirtual 166, 3) := by decide +kernel
theorem d_Mo_drops_19 : decode b_Mo_drops 19 = .ok (.goto 4, 3) := by decide +kernel
theorem d_Mo_drops_22 : decode b_Mo_drops 22 = .ok (.iconst (-1), 1) := by decide +kernel
theorem d_Mo_drops_23 : decode b_Mo_drops 23 = .ok (.istore_n 2, 1) := by decide +kernel
theorem d_Mo_drops_24 : decode b_Mo_drops 24 = .ok (.iload_n 2, 1) := by decide +kernel
theorem d_Mo_drops_25 : decode b_Mo_drops 25 = .ok (.iconst (-1), 1) := by decide +kernel
theorem d_Mo_drops_26 : decode b_Mo_drops 26 = .ok (.if_icmp .eq 5, 3) := by decide +kernel
theorem d_Mo_drops_29 : decode b_Mo_drops 29 = .ok (.iload_n 2, 1) := by decide +kernel
theorem d_Mo_drops_30 : decode b_Mo_drops 30 = .ok (.ireturn, 1) := by decide +kernel
theorem d_Mo_drops_31 : decode b_Mo_drops 31 = .ok (.iconst (-1), 1) := by decide +kernel
theorem d_Mo_drops_32 : decode b_Mo_drops 32 = .ok (.istore_n 3, 1) := by decide +kernel
theorem d_Mo_drops_33 : decode b_Mo_drops 33 = .ok (.iconst 0, 1) := by decide +kernel
theorem d_Mo_drops_34 : decode b_Mo_drops 34 = .ok (.istore 4, 2) := by decide +kernel
theorem d_Mo_drops_36 : decode b_Mo_drops 36 = .ok (.iload 4, 2) := by decide +kernel
theorem d_Mo_drops_38 : decode b_Mo_drops 38 = .ok (.aload_n 0, 1) := by decide +kernel
theorem d_Mo_drops_39 : decode b_Mo_drops 39 = .ok (.getfield 9, 3) := by decide +kernel
theorem d_Mo_drops_42 : decode b_Mo_drops 42 = .ok (.iconst 1, 1) := by decide +kernel
theorem d_Mo_drops_43 : decode b_Mo_drops 43 = .ok (.iaload, 1) := by decide +kernel
theorem d_Mo_drops_44 : decode b_Mo_drops 44 = .ok (.if_icmp .ge 46, 3) := by decide +kernel
theorem d_Mo_drops_47 : decode b_Mo_drops 47 = .ok (.aload_n 0, 1) := by decide +kernel
theorem d_Mo_drops_48 : decode b_Mo_drops 48 = .ok (.getfield 9, 3) := by decide +kernel
theorem d_Mo_drops_51 : decode b_Mo_drops 51 = .ok (.bipush 65, 2) := by decide +kernel
theorem d_Mo_drops_53 : decode b_Mo_drops 53 = .ok (.iload 4, 2) := by decide +kernel
theorem d_Mo_drops_55 : decode b_Mo_drops 55 = .ok (.iadd, 1) := by decide +kernel
theorem d_Mo_drops_56 : decode b_Mo_drops 56 = .ok (.iaload, 1) := by decide +kernel
theorem d_Mo_drops_57 : decode b_Mo_drops 57 = .ok (.iload_n 1, 1) := by decide +kernel
theorem d_Mo_drops_58 : decode b_Mo_drops 58 = .ok (.if_icmp .ne 24, 3) := by decide +kernel
theorem d_Mo_drops_61 : decode b_Mo_drops 61 = .ok (.iload_n 3, 1) := by decide +kernel
theorem d_Mo_drops_62 : decode b_Mo_drops 62 = .ok (.iconst (-1), 1) := by decide +kernel
theorem d_Mo_drops_63 : decode b_Mo_drops 63 = .ok (.if_icmp .eq 14, 3) := by decide +kernel
theorem d_Mo_drops_66 : decode b_Mo_drops 66 = .ok (.aload_n 0, 1) := by decide +kernel
theorem d_Mo_drops_67 : decode b_Mo_drops 67 = .ok (.iload_n 1, 1) := by decide +kernel
theorem d_Mo_drops_68 : decode b_Mo_drops 68 = .ok (.iload 4, 2) := by decide +kernel
theorem d_Mo_drops_70 : decode b_Mo_drops 70 = .ok (.iload_n 3, 1) := by decide +kernel
theorem d_Mo_drops_71 : decode b_Mo_drops 71 = .ok (.invokevirtual 169, 3) := by decide +kernel
theorem d_Mo_drops_74 : decode b_Mo_drops 74 = .ok (.ifCond .eq 8, 3) := by decide +kernel
theorem d_Mo_drops_77 : decode b_Mo_drops 77 = .ok (.iload 4, 2) := by decide +kernel
theorem d_Mo_drops_79 : decode b_Mo_drops 79 = .ok (.goto 4, 3) := by decide +kernel
theorem d_Mo_drops_82 : decode b_Mo_drops 82 = .ok (.iload_n 3, 1) := by decide +kernel
theorem d_Mo_drops_83 : decode b_Mo_drops 83 = .ok (.istore_n 3, 1) := by decide +kernel
theorem d_Mo_drops_84 : decode b_Mo_drops 84 = .ok (.iinc 4 1, 3) := by decide +kernel
theorem d_Mo_drops_87 : decode b_Mo_drops 87 = .ok (.goto (-51), 3) := by decide +kernel
theorem d_Mo_drops_90 : decode b_Mo_drops 90 = .ok (.iload_n 3, 1) := by decide +kernel
theorem d_Mo_drops_91 : decode b_Mo_drops 91 = .ok (.ireturn, 1) := by decide +kernel
theorem o_Mo_drops : OkV y_Mo_drops "OwnsLiftModel" b_Mo_drops 5 (some .int) 1 := ⟨⟨rfl, by decide +kernel, by decide +kernel, by decide +kernel⟩, g_1228, g_49, g_81, g_1229⟩
set_option maxHeartbeats 4000000 in
set_option maxRecDepth 100000 in
theorem c_Mo_drops (l : Launch) (D : va_G) (g : Nat → ClassId) (a : Nat → Nat) (x1 : Int32) (z : T_Mo) (v : Int32) (h : d_Mo_drops x1 z = some v) :
    MI l y_Mo_drops b_Mo_drops 5 .int ({ frames := 1, cells := 0, slots := 0, locals := 28 } : Room) D g [.ref (a 0), .int x1] (ws_Mo g a z) (v) (ws_Mo g a z) := by
  have hd := h
  unfold d_Mo_drops at hd
  refine enterI rfl (Nat.le_of_ble_eq_true rfl) (fun p e s m below meth c A ls hx hb hml hr hown hg hlk hK hA hP hD hS hCs hl => ?_)
  have hown : s.vm.findClass "OwnsLiftModel" = some m.cls := hown
  have hl : lv_has ls 5 [(0, .ref (a 0)), (1, .int x1)] := hl
  show GI p l e s m ({ frames := 1, cells := 0, slots := 0, locals := 28 } : Room) ([.ref (a 0), .int x1] : List Value).toArray below meth c A D g (ws_Mo g a z) (v) s.heap [] (F0 m 0 ls [])
  refine lv_aload_n hx hb d_Mo_drops_0 rfl (lv_at hl 0 rfl) ?_
  refine va_get (D := D) (ci := 1) (v := .ref (a 1)) (C := R_Mo) (T := F_Mo) (N := 26) hx hb hg i_Mo hown hK hP 0 rfl rfl 1 (by decide) (hg _ g_993) (fun _ h9 => h9) rfl d_Mo_drops_1 ?_
  refine lv_bipush (v := 10) hx hb d_Mo_drops_4 (by decide) ?_
  refine lv_iload_n hx hb d_Mo_drops_6 rfl (lv_at hl 1 rfl) ?_
  refine lv_iadd hx hb d_Mo_drops_7 ?_
  obtain ⟨h_19, hd⟩ := ite_s hd
  refine ialdK hx hb hK hP 1 0 rfl rfl (inb_t h_19) rfl d_Mo_drops_8 ?_
  refine lv_bipush (v := 6) hx hb d_Mo_drops_9 (by decide) ?_
  refine lv_icmp_ne (tgt := 22) hx hb d_Mo_drops_11 (by decide) (fun h_1 => ?_) (fun h_1 => ?_)
  · have hd := ite_f hd h_1
    refine lv_iconst (v := (-1)) hx hb d_Mo_drops_22 (by decide) ?_
    refine lv_istore_n (lv' := [(2, .int (-1)), (0, .ref (a 0)), (1, .int x1)]) hx hb d_Mo_drops_23 rfl hl (by decide) rfl (fun ls hl => ?_)
    refine lv_iload_n hx hb d_Mo_drops_24 rfl (lv_at hl 0 rfl) ?_
    refine lv_iconst (v := (-1)) hx hb d_Mo_drops_25 (by decide) ?_
    refine lv_icmp_eq (tgt := 31) hx hb d_Mo_drops_26 (by decide) (fun _ => ?_) (fun h9 => absurd (by decide) h9)
    refine lv_iconst (v := (-1)) hx hb d_Mo_drops_31 (by decide) ?_
    refine lv_istore_n (lv' := [(3, .int (-1)), (2, .int (-1)), (0, .ref (a 0)), (1, .int x1)]) hx hb d_Mo_drops_32 rfl hl (by decide) rfl (fun ls hl => ?_)
    refine lv_iconst (v := 0) hx hb d_Mo_drops_33 (by decide) ?_
    refine lv_istore (lv' := [(4, .int 0), (3, .int (-1)), (2, .int (-1)), (0, .ref (a 0)), (1, .int x1)]) hx hb d_Mo_drops_34 hl (by decide) rfl (fun ls hl => ?_)
    have lp36 : ∀ (x1_f36 : Int32) (n : Nat) (x3_36 : Int32) (x4_36 : Int32) (H : Heap) (locs : List Loc) (ls : Array Slot), va_P D classes (ws_Mo g a z) H → va_D A (ws_Mo g a z) → va_S A s.heap H locs → lv_has ls 5 [(0, .ref (a 0)), (1, .int x1_f36), (3, .int x3_36), (4, .int x4_36)] → d_Mo_drops_L36 x1_f36 z n x3_36 x4_36 = some v → GI p l e s m ({ frames := 1, cells := 0, slots := 0, locals := 28 } : Room) ([.ref (a 0), .int x1] : List Value).toArray below meth c A D g (ws_Mo g a z) (v) H locs (F0 m 36 ls []) := by
      intro x1_f36 n
      induction n with
      | zero =>
        intro  x3_36 x4_36 H locs ls hP hD hS hl hd
        have hd : none = some v := hd
        cases hd
      | succ n ih36 =>
        intro  x3_36 x4_36 H locs ls hP hD hS hl hd
        have hd : B_Mo_drops_L36 x1_f36 z (d_Mo_drops_L36 x1_f36 z n) x3_36 x4_36 = some v := hd
        generalize d_Mo_drops_L36 x1_f36 z n = self36 at ih36 hd
        unfold B_Mo_drops_L36 at hd
        refine lv_iload hx hb d_Mo_drops_36 (lv_at hl 3 rfl) ?_
        refine lv_aload_n hx hb d_Mo_drops_38 rfl (lv_at hl 0 rfl) ?_
        refine va_get (D := D) (ci := 1) (v := .ref (a 1)) (C := R_Mo) (T := F_Mo) (N := 26) hx hb hg i_Mo hown hK hP 0 rfl rfl 1 (by decide) (hg _ g_993) (fun _ h9 => h9) rfl d_Mo_drops_39 ?_
        refine lv_iconst (v := 1) hx hb d_Mo_drops_42 (by decide) ?_
        refine ialdK hx hb hK hP 1 0 rfl rfl (inb_t (by decide +kernel)) (k := 1) (by decide +kernel) d_Mo_drops_43 ?_
        refine lv_icmp_ge (tgt := 90) hx hb d_Mo_drops_44 (by decide) (fun h_2 => ?_) (fun h_2 => ?_)
        · have hd := ite_t hd h_2
          refine lv_iload_n hx hb d_Mo_drops_90 rfl (lv_at hl 2 rfl) ?_
          obtain rfl := Option.some.inj hd
          exact retI hx hb hr hlk hK hP hD hS d_Mo_drops_91 rfl
        · have hd := ite_f hd h_2
          refine lv_aload_n hx hb d_Mo_drops_47 rfl (lv_at hl 0 rfl) ?_
          refine va_get (D := D) (ci := 1) (v := .ref (a 1)) (C := R_Mo) (T := F_Mo) (N := 26) hx hb hg i_Mo hown hK hP 0 rfl rfl 1 (by decide) (hg _ g_993) (fun _ h9 => h9) rfl d_Mo_drops_48 ?_
          refine lv_bipush (v := 65) hx hb d_Mo_drops_51 (by decide) ?_
          refine lv_iload hx hb d_Mo_drops_53 (lv_at hl 3 rfl) ?_
          refine lv_iadd hx hb d_Mo_drops_55 ?_
          obtain ⟨h_8, hd⟩ := ite_s hd
          refine ialdK hx hb hK hP 1 0 rfl rfl (inb_t h_8) rfl d_Mo_drops_56 ?_
          refine lv_iload_n hx hb d_Mo_drops_57 rfl (lv_at hl 1 rfl) ?_
          refine lv_icmp_ne (tgt := 82) hx hb d_Mo_drops_58 (by decide) (fun h_3 => ?_) (fun h_3 => ?_)
          · have hd := ite_f hd h_3
            refine lv_iload_n hx hb d_Mo_drops_82 rfl (lv_at hl 2 rfl) ?_
            refine lv_istore_n (lv' := [(3, .int x3_36), (0, .ref (a 0)), (1, .int x1_f36), (4, .int x4_36)]) hx hb d_Mo_drops_83 rfl hl (by decide) rfl (fun ls hl => ?_)
            refine lv_iinc (v := x4_36 + 1) (lv' := [(4, .int (x4_36 + 1)), (3, .int x3_36), (0, .ref (a 0)), (1, .int x1_f36)]) hx hb d_Mo_drops_84 hl (k := 3) rfl (by rfl) (by decide) rfl (fun ls hl => ?_)
            refine lv_goto (tgt := 36) hx hb d_Mo_drops_87 (by decide) ?_
            exact ih36 x3_36 (x4_36 + 1) _ _ _ hP hD hS (lv_sub hl [2, 3, 1, 0] rfl) hd
          · have hd := ite_t hd h_3
            refine lv_iload_n hx hb d_Mo_drops_61 rfl (lv_at hl 2 rfl) ?_
            refine lv_iconst (v := (-1)) hx hb d_Mo_drops_62 (by decide) ?_
            refine lv_icmp_eq (tgt := 77) hx hb d_Mo_drops_63 (by decide) (fun h_4 => ?_) (fun h_4 => ?_)
            · have hd := ite_t hd h_4
              refine lv_iload hx hb d_Mo_drops_77 (lv_at hl 3 rfl) ?_
              refine lv_goto (tgt := 83) hx hb d_Mo_drops_79 (by decide) ?_
              refine lv_istore_n (lv' := [(3, .int x4_36), (0, .ref (a 0)), (1, .int x1_f36), (4, .int x4_36)]) hx hb d_Mo_drops_83 rfl hl (by decide) rfl (fun ls hl => ?_)
              refine lv_iinc (v := x4_36 + 1) (lv' := [(4, .int (x4_36 + 1)), (3, .int x4_36), (0, .ref (a 0)), (1, .int x1_f36)]) hx hb d_Mo_drops_84 hl (k := 3) rfl (by rfl) (by decide) rfl (fun ls hl => ?_)
              refine lv_goto (tgt := 36) hx hb d_Mo_drops_87 (by decide) ?_
              exact ih36 x4_36 (x4_36 + 1) _ _ _ hP hD hS (lv_sub hl [2, 3, 1, 0] rfl) hd
            · have hd := ite_f hd h_4
              refine lv_aload_n hx hb d_Mo_drops_66 rfl (lv_at hl 0 rfl) ?_
              refine lv_iload_n hx hb d_Mo_drops_67 rfl (lv_at hl 1 rfl) ?_
              refine lv_iload hx hb d_Mo_drops_68 (lv_at hl 3 rfl) ?_
              refine lv_iload_n hx hb d_Mo_drops_70 rfl (lv_at hl 2 rfl) ?_
              obtain ⟨v_5, e_6, hd⟩ := bind_s hd
              refine callVI (ws' := ws_Mo g a z) (rest := []) (As := [.int x1_f36, .int x4_36, .int x3_36]) hx hb hml hown hg hK hP hD hS hA hCs hl.1 (c_Mo_isAhead l D g a x1_f36 x4_36 x3_36 z _ e_6) o_Mo_isAhead g_1234 (ci := 1) (q0 := 0) rfl rfl (List.range' 0 12) (segC1 rfl rfl) (by decide) rfl (segP1 rfl rfl) rfl rfl (Nat.le_of_ble_eq_true rfl) ⟨rfl, rfl, Nat.le_of_ble_eq_true rfl, Nat.le_of_ble_eq_true rfl⟩ d_Mo_drops_71 (fun H locs hP hD hS => ?_)
              refine lv_if_eq (tgt := 82) hx hb d_Mo_drops_74 (by decide) (fun h_7 => ?_) (fun h_7 => ?_)
              · have hd := ite_t hd h_7
                refine lv_iload_n hx hb d_Mo_drops_82 rfl (lv_at hl 2 rfl) ?_
                refine lv_istore_n (lv' := [(3, .int x3_36), (0, .ref (a 0)), (1, .int x1_f36), (4, .int x4_36)]) hx hb d_Mo_drops_83 rfl hl (by decide) rfl (fun ls hl => ?_)
                refine lv_iinc (v := x4_36 + 1) (lv' := [(4, .int (x4_36 + 1)), (3, .int x3_36), (0, .ref (a 0)), (1, .int x1_f36)]) hx hb d_Mo_drops_84 hl (k := 3) rfl (by rfl) (by decide) rfl (fun ls hl => ?_)
                refine lv_goto (tgt := 36) hx hb d_Mo_drops_87 (by decide) ?_
                exact ih36 x3_36 (x4_36 + 1) _ _ _ hP hD hS (lv_sub hl [2, 3, 1, 0] rfl) hd
              · have hd := ite_f hd h_7
                refine lv_iload hx hb d_Mo_drops_77 (lv_at hl 3 rfl) ?_
                refine lv_goto (tgt := 83) hx hb d_Mo_drops_79 (by decide) ?_
                refine lv_istore_n (lv' := [(3, .int x4_36), (0, .ref (a 0)), (1, .int x1_f36), (4, .int x4_36)]) hx hb d_Mo_drops_83 rfl hl (by decide) rfl (fun ls hl => ?_)
                refine lv_iinc (v := x4_36 + 1) (lv' := [(4, .int (x4_36 + 1)), (3, .int x4_36), (0, .ref (a 0)), (1, .int x1_f36)]) hx hb d_Mo_drops_84 hl (k := 3) rfl (by rfl) (by decide) rfl (fun ls hl => ?_)
                refine lv_goto (tgt := 36) hx hb d_Mo_drops_87 (by decide) ?_
                exact ih36 x4_36 (x4_36 + 1) _ _ _ hP hD hS (lv_sub hl [2, 3, 1, 0] rfl) hd
    exact lp36 x1 1000 (-1) 0 _ _ _ hP hD hS (lv_sub hl [3, 4, 1, 0] rfl) hd
  · have hd := ite_t hd h_1
    refine lv_aload_n hx hb d_Mo_drops_14 rfl (lv_at hl 0 rfl) ?_
    refine lv_iload_n hx hb d_Mo_drops_15 rfl (lv_at hl 1 rfl) ?_
    obtain ⟨v_9, e_10, hd⟩ := bind_s hd
    refine callVI (ws' := ws_Mo g a z) (rest := []) (As := [.int x1]) hx hb hml hown hg hK hP hD hS hA hCs hl.1 (c_Mo_toldThing l D g a x1 z _ e_10) o_Mo_toldThing g_1230 (ci := 1) (q0 := 0) rfl rfl (List.range' 0 12) (segC1 rfl rfl) (by decide) rfl (segP1 rfl rfl) rfl rfl (Nat.le_of_ble_eq_true rfl) ⟨rfl, rfl, Nat.le_of_ble_eq_true rfl, Nat.le_of_ble_eq_true rfl⟩ d_Mo_drops_16 (fun H locs hP hD hS => ?_)
    refine lv_goto (tgt := 23) hx hb d_Mo_drops_19 (by decide) ?_
    refine lv_istore_n (lv' := [(2, .int v_9), (0, .ref (a 0)), (1, .int x1)]) hx hb d_Mo_drops_23 rfl hl (by decide) rfl (fun ls hl => ?_)
    refine lv_iload_n hx hb d_Mo_drops_24 rfl (lv_at hl 0 rfl) ?_
    refine lv_iconst (v := (-1)) hx hb d_Mo_drops_25 (by decide) ?_
    refine lv_icmp_eq (tgt := 31) hx hb d_Mo_drops_26 (by decide) (fun h_11 => ?_) (fun h_11 => ?_)
    · have hd := ite_t hd h_11
      refine lv_iconst (v := (-1)) hx hb d_Mo_drops_31 (by decide) ?_
      refine lv_istore_n (lv' := [(3, .int (-1)), (2, .int v_9), (0, .ref (a 0)), (1, .int x1)]) hx hb d_Mo_drops_32 rfl hl (by decide) rfl (fun ls hl => ?_)
      refine lv_iconst (v := 0) hx hb d_Mo_drops_33 (by decide) ?_
      refine lv_istore (lv' := [(4, .int 0), (3, .int (-1)), (2, .int v_9), (0, .ref (a 0)), (1, .int x1)]) hx hb d_Mo_drops_34 hl (by decide) rfl (fun ls hl => ?_)
      have lp36 : ∀ (x1_f36 : Int32) (n : Nat) (x3_36 : Int32) (x4_36 : Int32) (H : Heap) (locs : List Loc) (ls : Array Slot), va_P D classes (ws_Mo g a z) H → va_D A (ws_Mo g a z) → va_S A s.heap H locs → lv_has ls 5 [(0, .ref (a 0)), (1, .int x1_f36), (3, .int x3_36), (4, .int x4_36)] → d_Mo_drops_L36 x1_f36 z n x3_36 x4_36 = some v → GI p l e s m ({ frames := 1, cells := 0, slots := 0, locals := 28 } : Room) ([.ref (a 0), .int x1] : List Value).toArray below meth c A D g (ws_Mo g a z) (v) H locs (F0 m 36 ls []) := by
        intro x1_f36 n
        induction n with
        | zero =>
          intro  x3_36 x4_36 H locs ls hP hD hS hl hd
          have hd : none = some v := hd
          cases hd
        | succ n ih36 =>
          intro  x3_36 x4_36 H locs ls hP hD hS hl hd
          have hd : B_Mo_drops_L36 x1_f36 z (d_Mo_drops_L36 x1_f36 z n) x3_36 x4_36 = some v := hd
          generalize d_Mo_drops_L36 x1_f36 z n = self36 at ih36 hd
          unfold B_Mo_drops_L36 at hd
          refine lv_iload hx hb d_Mo_drops_36 (lv_at hl 3 rfl) ?_
          refine lv_aload_n hx hb d_Mo_drops_38 rfl (lv_at hl 0 rfl) ?_
          refine va_get (D := D) (ci := 1) (v := .ref (a 1)) (C := R_Mo) (T := F_Mo) (N := 26) hx hb hg i_Mo hown hK hP 0 rfl rfl 1 (by decide) (hg _ g_993) (fun _ h9 => h9) rfl d_Mo_drops_39 ?_
          refine lv_iconst (v := 1) hx hb d_Mo_drops_42 (by decide) ?_
          refine ialdK hx hb hK hP 1 0 rfl rfl (inb_t (by decide +kernel)) (k := 1) (by decide +kernel) d_Mo_drops_43 ?_
          refine lv_icmp_ge (tgt := 90) hx hb d_Mo_drops_44 (by decide) (fun h_12 => ?_) (fun h_12 => ?_)
          · have hd := ite_t hd h_12
            refine lv_iload_n hx hb d_Mo_drops_90 rfl (lv_at hl 2 rfl) ?_
            obtain rfl := Option.some.inj hd
            exact retI hx hb hr hlk hK hP hD hS d_Mo_drops_91 rfl
          · have hd := ite_f hd h_12
            refine lv_aload_n hx hb d_Mo_drops_47 rfl (lv_at hl 0 rfl) ?_
            refine va_get (D := D) (ci := 1) (v := .ref (a 1)) (C := R_Mo) (T := F_Mo) (N := 26) hx hb hg i_Mo hown hK hP 0 rfl rfl 1 (by decide) (hg _ g_993) (fun _ h9 => h9) rfl d_Mo_drops_48 ?_
            refine lv_bipush (v := 65) hx hb d_Mo_drops_51 (by decide) ?_
            refine lv_iload hx hb d_Mo_drops_53 (lv_at hl 3 rfl) ?_
            refine lv_iadd hx hb d_Mo_drops_55 ?_
            obtain ⟨h_18, hd⟩ := ite_s hd
            refine ialdK hx hb hK hP 1 0 rfl rfl (inb_t h_18) rfl d_Mo_drops_56 ?_
            refine lv_iload_n hx hb d_Mo_drops_57 rfl (lv_at hl 1 rfl) ?_
            refine lv_icmp_ne (tgt := 82) hx hb d_Mo_drops_58 (by decide) (fun h_13 => ?_) (fun h_13 => ?_)
            · have hd := ite_f hd h_13
              refine lv_iload_n hx hb d_Mo_drops_82 rfl (lv_at hl 2 rfl) ?_
              refine lv_istore_n (lv' := [(3, .int x3_36), (0, .ref (a 0)), (1, .int x1_f36), (4, .int x4_36)]) hx hb d_Mo_drops_83 rfl hl (by decide) rfl (fun ls hl => ?_)
              refine lv_iinc (v := x4_36 + 1) (lv' := [(4, .int (x4_36 + 1)), (3, .int x3_36), (0, .ref (a 0)), (1, .int x1_f36)]) hx hb d_Mo_drops_84 hl (k := 3) rfl (by rfl) (by decide) rfl (fun ls hl => ?_)
              refine lv_goto (tgt := 36) hx hb d_Mo_drops_87 (by decide) ?_
              exact ih36 x3_36 (x4_36 + 1) _ _ _ hP hD hS (lv_sub hl [2, 3, 1, 0] rfl) hd
            · have hd := ite_t hd h_13
              refine lv_iload_n hx hb d_Mo_drops_61 rfl (lv_at hl 2 rfl) ?_
              refine lv_iconst (v := (-1)) hx hb d_Mo_drops_62 (by decide) ?_
              refine lv_icmp_eq (tgt := 77) hx hb d_Mo_drops_63 (by decide) (fun h_14 => ?_) (fun h_14 => ?_)
              · have hd := ite_t hd h_14
                refine lv_iload hx hb d_Mo_drops_77 (lv_at hl 3 rfl) ?_
                refine lv_goto (tgt := 83) hx hb d_Mo_drops_79 (by decide) ?_
                refine lv_istore_n (lv' := [(3, .int x4_36), (0, .ref (a 0)), (1, .int x1_f36), (4, .int x4_36)]) hx hb d_Mo_drops_83 rfl hl (by decide) rfl (fun ls hl => ?_)
                refine lv_iinc (v := x4_36 + 1) (lv' := [(4, .int (x4_36 + 1)), (3, .int x4_36), (0, .ref (a 0)), (1, .int x1_f36)]) hx hb d_Mo_drops_84 hl (k := 3) rfl (by rfl) (by decide) rfl (fun ls hl => ?_)
                refine lv_goto (tgt := 36) hx hb d_Mo_drops_87 (by decide) ?_
                exact ih36 x4_36 (x4_36 + 1) _ _ _ hP hD hS (lv_sub hl [2, 3, 1, 0] rfl) hd
              · have hd := ite_f hd h_14
                refine lv_aload_n hx hb d_Mo_drops_66 rfl (lv_at hl 0 rfl) ?_
                refine lv_iload_n hx hb d_Mo_drops_67 rfl (lv_at hl 1 rfl) ?_
                refine lv_iload hx hb d_Mo_drops_68 (lv_at hl 3 rfl) ?_
                refine lv_iload_n hx hb d_Mo_drops_70 rfl (lv_at hl 2 rfl) ?_
                obtain ⟨v_15, e_16, hd⟩ := bind_s hd
                refine callVI (ws' := ws_Mo g a z) (rest := []) (As := [.int x1_f36, .int x4_36, .int x3_36]) hx hb hml hown hg hK hP hD hS hA hCs hl.1 (c_Mo_isAhead l D g a x1_f36 x4_36 x3_36 z _ e_16) o_Mo_isAhead g_1234 (ci := 1) (q0 := 0) rfl rfl (List.range' 0 12) (segC1 rfl rfl) (by decide) rfl (segP1 rfl rfl) rfl rfl (Nat.le_of_ble_eq_true rfl) ⟨rfl, rfl, Nat.le_of_ble_eq_true rfl, Nat.le_of_ble_eq_true rfl⟩ d_Mo_drops_71 (fun H locs hP hD hS => ?_)
                refine lv_if_eq (tgt := 82) hx hb d_Mo_drops_74 (by decide) (fun h_17 => ?_) (fun h_17 => ?_)
                · have hd := ite_t hd h_17
                  refine lv_iload_n hx hb d_Mo_drops_82 rfl (lv_at hl 2 rfl) ?_
                  refine lv_istore_n (lv' := [(3, .int x3_36), (0, .ref (a 0)), (1, .int x1_f36), (4, .int x4_36)]) hx hb d_Mo_drops_83 rfl hl (by decide) rfl (fun ls hl => ?_)
                  refine lv_iinc (v := x4_36 + 1) (lv' := [(4, .int (x4_36 + 1)), (3, .int x3_36), (0, .ref (a 0)), (1, .int x1_f36)]) hx hb d_Mo_drops_84 hl (k := 3) rfl (by rfl) (by decide) rfl (fun ls hl => ?_)
                  refine lv_goto (tgt := 36) hx hb d_Mo_drops_87 (by decide) ?_
                  exact ih36 x3_36 (x4_36 + 1) _ _ _ hP hD hS (lv_sub hl [2, 3, 1, 0] rfl) hd
                · have hd := ite_f hd h_17
                  refine lv_iload hx hb d_Mo_drops_77 (lv_at hl 3 rfl) ?_
                  refine lv_goto (tgt := 83) hx hb d_Mo_drops_79 (by decide) ?_
                  refine lv_istore_n (lv' := [(3, .int x4_36), (0, .ref (a 0)), (1, .int x1_f36), (4, .int x4_36)]) hx hb d_Mo_drops_83 rfl hl (by decide) rfl (fun ls hl => ?_)
                  refine lv_iinc (v := x4_36 + 1) (lv' := [(4, .int (x4_36 + 1)), (3, .int x4_36), (0, .ref (a 0)), (1, .int x1_f36)]) hx hb d_Mo_drops_84 hl (k := 3) rfl (by rfl) (by decide) rfl (fun ls hl => ?_)
                  refine lv_goto (tgt := 36) hx hb d_Mo_drops_87 (by decide) ?_
                  exact ih36 x4_36 (x4_36 + 1) _ _ _ hP hD hS (lv_sub hl [2, 3, 1, 0] rfl) hd
      exact lp36 x1 1000 (-1) 0 _ _ _ hP hD hS (lv_sub hl [3, 4, 1, 0] rfl) hd
    · have hd := ite_f hd h_11
      refine lv_iload_n hx hb d_Mo_drops_29 rfl (lv_at hl 0 rfl) ?_
      obtain rfl := Option.some.inj hd
      exact retI hx hb hr hlk hK hP hD hS d_Mo_drops_30 rfl
-- OwnsLiftModel.becomes(II)I
def B_Mo_becomes_L28 (x1_f28 : Int32) (x2_f28 : Int32) (z : T_Mo) (self28 : Int32 → Option (Int32)) (x3_28 : Int32) : Option (Int32) :=
  if ((q_Mo_s z) 0) ≤ x3_28 then (some (4)) else (if ((q_Mo_s z) 0) = 0 then none else ((d_Mo_loadOf ((x1_f28 + x3_28) - (x1_f28 + x3_28) / ((q_Mo_s z) 0) * ((q_Mo_s z) 0)) z).bind fun v_4 => if inb (58 + x2_f28) 901 = true then (if inb ((x1_f28 + x3_28) - (x1_f28 + x3_28) / ((q_Mo_s z) 0) * ((q_Mo_s z) 0)) 4 = true then (if ((q_Mo_lifts z) ((x1_f28 + x3_28) - (x1_f28 + x3_28) / ((q_Mo_s z) 0) * ((q_Mo_s z) 0)).toNatClampNeg) < (v_4 + ((q_Mo_s z) (58 + x2_f28).toNatClampNeg)) then (self28 (x3_28 + 1)) else (some ((x1_f28 + x3_28) - (x1_f28 + x3_28) / ((q_Mo_s z) 0) * ((q_Mo_s z) 0)))) else none) else none))
def d_Mo_becomes_L28 (x1_f28 : Int32) (x2_f28 : Int32) (z : T_Mo) (n : Nat) : Int32 → Option (Int32) := recN (fun _ => none) (fun self => B_Mo_becomes_L28 x1_f28 x2_f28 z self) n
def d_Mo_becomes (x1 : Int32) (x2 : Int32) (z : T_Mo) : Option (Int32) :=
  if inb (10 + x1) 901 = true then (if ((q_Mo_s z) (10 + x1).toNatClampNeg) = 2 then (d_Mo_becomes_L28 x1 x2 z  1000 1) else (if inb (10 + x1) 901 = true then (if ((q_Mo_s z) (10 + x1).toNatClampNeg) = 5 then (d_Mo_becomes_L28 x1 x2 z  1000 1) else (some (4))) else none)) else none
theorem d_Mo_becomes_0 : decode b_Mo_becomes 0 = .ok (.aload_n 0, 1) := by decide +kernel
theorem d_Mo_becomes_1 : decode b_Mo_becomes 1 = .ok (.getfield 9, 3) := by decide +kernel
theorem d_Mo_becomes_4 : decode b_Mo_becomes 4 = .ok (.bipush 10, 2) := by decide +kernel
theorem d_Mo_becomes_6 : decode b_Mo_becomes 6 = .ok (.iload_n 1, 1) := by decide +kernel
theorem d_Mo_becomes_7 : decode b_Mo_becomes 7 = .ok (.iadd, 1) := by decide +kernel
theorem d_Mo_becomes_8 : decode b_Mo_becomes 8 = .ok (.iaload, 1) := by decide +kernel
theorem d_Mo_becomes_9 : decode b_Mo_becomes 9 = .ok (.iconst 2, 1) := by decide +kernel
theorem d_Mo_becomes_10 : decode b_Mo_becomes 10 = .ok (.if_icmp .eq 16, 3) := by decide +kernel
theorem d_Mo_becomes_13 : decode b_Mo_becomes 13 = .ok (.aload_n 0, 1) := by decide +kernel
theorem d_Mo_becomes_14 : decode b_Mo_becomes 14 = .ok (.getfield 9, 3) := by decide +kernel
theorem d_Mo_becomes_17 : decode b_Mo_becomes 17 = .ok (.bipush 10, 2) := by decide +kernel
theorem d_Mo_becomes_19 : decode b_Mo_becomes 19 = .ok (.iload_n 1, 1) := by decide +kernel
theorem d_Mo_becomes_20 : decode b_Mo_becomes 20 = .ok (.iadd, 1) := by decide +kernel
theorem d_Mo_becomes_21 : decode b_Mo_becomes 21 = .ok (.iaload, 1) := by decide +kernel
theorem d_Mo_becomes_22 : decode b_Mo_becomes 22 = .ok (.iconst 5, 1) := by decide +kernel
theorem d_Mo_becomes_23 : decode b_Mo_becomes 23 = .ok (.if_icmp .ne 62, 3) := by decide +kernel
theorem d_Mo_becomes_26 : decode b_Mo_becomes 26 = .ok (.iconst 1, 1) := by decide +kernel
theorem d_Mo_becomes_27 : decode b_Mo_becomes 27 = .ok (.istore_n 3, 1) := by decide +kernel
theorem d_Mo_becomes_28 : decode b_Mo_becomes 28 = .ok (.iload_n 3, 1) := by decide +kernel
theorem d_Mo_becomes_29 : decode b_Mo_becomes 29 = .ok (.aload_n 0, 1) := by decide +kernel
theorem d_Mo_becomes_30 : decode b_Mo_becomes 30 = .ok (.getfield 9, 3) := by decide +kernel
theorem d_Mo_becomes_33 : decode b_Mo_becomes 33 = .ok (.iconst 0, 1) := by decide +kernel
theorem d_Mo_becomes_34 : decode b_Mo_becomes 34 = .ok (.iaload, 1) := by decide +kernel
theorem d_Mo_becomes_35 : decode b_Mo_becomes 35 = .ok (.if_icmp .ge 50, 3) := by decide +kernel
theorem d_Mo_becomes_38 : decode b_Mo_becomes 38 = .ok (.iload_n 1, 1) := by decide +kernel
theorem d_Mo_becomes_39 : decode b_Mo_becomes 39 = .ok (.iload_n 3, 1) := by decide +kernel
theorem d_Mo_becomes_40 : decode b_Mo_becomes 40 = .ok (.iadd, 1) := by decide +kernel
theorem d_Mo_becomes_41 : decode b_Mo_becomes 41 = .ok (.aload_n 0, 1) := by decide +kernel
theorem d_Mo_becomes_42 : decode b_Mo_becomes 42 = .ok (.getfield 9, 3) := by decide +kernel
theorem d_Mo_becomes_45 : decode b_Mo_becomes 45 = .ok (.iconst 0, 1) := by decide +kernel
theorem d_Mo_becomes_46 : decode b_Mo_becomes 46 = .ok (.iaload, 1) := by decide +kernel
theorem d_Mo_becomes_47 : decode b_Mo_becomes 47 = .ok (.irem, 1) := by decide +kernel
theorem d_Mo_becomes_48 : decode b_Mo_becomes 48 = .ok (.istore 4, 2) := by decide +kernel
theorem d_Mo_becomes_50 : decode b_Mo_becomes 50 = .ok (.aload_n 0, 1) := by decide +kernel
theorem d_Mo_becomes_51 : decode b_Mo_becomes 51 = .ok (.iload 4, 2) := by decide +kernel
theorem d_Mo_becomes_53 : decode b_Mo_becomes 53 = .ok (.invokevirtual 151, 3) := by decide +kernel
theorem d_Mo_becomes_56 : decode b_Mo_becomes 56 = .ok (.aload_n 0, 1) := by decide +kernel
theorem d_Mo_becomes_57 : decode b_Mo_becomes 57 = .ok (.getfield 9, 3) := by decide +kernel
theorem d_Mo_becomes_60 : decode b_Mo_becomes 60 = .ok (.bipush 58, 2) := by decide +kernel
theorem d_Mo_becomes_62 : decode b_Mo_becomes 62 = .ok (.iload_n 2, 1) := by decide +kernel
theorem d_Mo_becomes_63 : decode b_Mo_becomes 63 = .ok (.iadd, 1) := by decide +kernel
theorem d_Mo_becomes_64 : decode b_Mo_becomes 64 = .ok (.iaload, 1) := by decide +kernel
theorem d_Mo_becomes_65 : decode b_Mo_becomes 65 = .ok (.iadd, 1) := by decide +kernel
theorem d_Mo_becomes_66 : decode b_Mo_becomes 66 = .ok (.aload_n 0, 1) := by decide +kernel
theorem d_Mo_becomes_67 : decode b_Mo_becomes 67 = .ok (.getfield 31, 3) := by decide +kernel
theorem d_Mo_becomes_70 : decode b_Mo_becomes 70 = .ok (.iload 4, 2) := by decide +kernel
theorem d_Mo_becomes_72 : decode b_Mo_becomes 72 = .ok (.iaload, 1) := by decide +kernel
theorem d_Mo_becomes_73 : decode b_Mo_becomes 73 = .ok (.if_icmp .gt 6, 3) := by decide +kernel
theorem d_Mo_becomes_76 : decode b_Mo_becomes 76 = .ok (.iload 4, 2) := by decide +kernel
theorem d_Mo_becomes_78 : decode b_Mo_becomes 78 = .ok (.ireturn, 1) := by decide +kernel
theorem d_Mo_becomes_79 : decode b_Mo_becomes 79 = .ok (.iinc 3 1, 3) := by decide +kernel
theorem d_Mo_becomes_82 : decode b_Mo_becomes 82 = .ok (.goto (-54), 3) := by decide +kernel
theorem d_Mo_becomes_85 : decode b_Mo_becomes 85 = .ok (.iconst 4, 1) := by decide +kernel
theorem d_Mo_becomes_86 : decode b_Mo_becomes 86 = .ok (.ireturn, 1) := by decide +kernel
theorem o_Mo_becomes : OkV y_Mo_becomes "OwnsLiftModel" b_Mo_becomes 5 (some .int) 2 := ⟨⟨rfl, by decide +kernel, by decide +kernel, by decide +kernel⟩, g_1240, g_52, g_81, g_1241⟩
set_option maxHeartbeats 4000000 in
set_option maxRecDepth 100000 in
theorem c_Mo_becomes (l : Launch) (D : va_G) (g : Nat → ClassId) (a : Nat → Nat) (x1 : Int32) (x2 : Int32) (z : T_Mo) (v : Int32) (h : d_Mo_becomes x1 x2 z = some v) :
    MI l y_Mo_becomes b_Mo_becomes 5 .int ({ frames := 1, cells := 0, slots := 0, locals := 23 } : Room) D g [.ref (a 0), .int x1, .int x2] (ws_Mo g a z) (v) (ws_Mo g a z) := by
  have hd := h
  unfold d_Mo_becomes at hd
  refine enterI rfl (Nat.le_of_ble_eq_true rfl) (fun p e s m below meth c A ls hx hb hml hr hown hg hlk hK hA hP hD hS hCs hl => ?_)
  have hown : s.vm.findClass "OwnsLiftModel" = some m.cls := hown
  have hl : lv_has ls 5 [(0, .ref (a 0)), (1, .int x1), (2, .int x2)] := hl
  show GI p l e s m ({ frames := 1, cells := 0, slots := 0, locals := 23 } : Room) ([.ref (a 0), .int x1, .int x2] : List Value).toArray below meth c A D g (ws_Mo g a z) (v) s.heap [] (F0 m 0 ls [])
  refine lv_aload_n hx hb d_Mo_becomes_0 rfl (lv_at hl 0 rfl) ?_
  refine va_get (D := D) (ci := 1) (v := .ref (a 1)) (C := R_Mo) (T := F_Mo) (N := 26) hx hb hg i_Mo hown hK hP 0 rfl rfl 1 (by decide) (hg _ g_993) (fun _ h9 => h9) rfl d_Mo_becomes_1 ?_
  refine lv_bipush (v := 10) hx hb d_Mo_becomes_4 (by decide) ?_
  refine lv_iload_n hx hb d_Mo_becomes_6 rfl (lv_at hl 1 rfl) ?_
  refine lv_iadd hx hb d_Mo_becomes_7 ?_
  obtain ⟨h_18, hd⟩ := ite_s hd
  refine ialdK hx hb hK hP 1 0 rfl rfl (inb_t h_18) rfl d_Mo_becomes_8 ?_
  refine lv_iconst (v := 2) hx hb d_Mo_becomes_9 (by decide) ?_
  refine lv_icmp_eq (tgt := 26) hx hb d_Mo_becomes_10 (by decide) (fun h_1 => ?_) (fun h_1 => ?_)
  · have hd := ite_t hd h_1
    refine lv_iconst (v := 1) hx hb d_Mo_becomes_26 (by decide) ?_
    refine lv_istore_n (lv' := [(3, .int 1), (0, .ref (a 0)), (1, .int x1), (2, .int x2)]) hx hb d_Mo_becomes_27 rfl hl (by decide) rfl (fun ls hl => ?_)
    have lp28 : ∀ (x1_f28 : Int32) (x2_f28 : Int32) (n : Nat) (x3_28 : Int32) (H : Heap) (locs : List Loc) (ls : Array Slot), va_P D classes (ws_Mo g a z) H → va_D A (ws_Mo g a z) → va_S A s.heap H locs → lv_has ls 5 [(0, .ref (a 0)), (1, .int x1_f28), (2, .int x2_f28), (3, .int x3_28)] → d_Mo_becomes_L28 x1_f28 x2_f28 z n x3_28 = some v → GI p l e s m ({ frames := 1, cells := 0, slots := 0, locals := 23 } : Room) ([.ref (a 0), .int x1, .int x2] : List Value).toArray below meth c A D g (ws_Mo g a z) (v) H locs (F0 m 28 ls []) := by
      intro x1_f28 x2_f28 n
      induction n with
      | zero =>
        intro  x3_28 H locs ls hP hD hS hl hd
        have hd : none = some v := hd
        cases hd
      | succ n ih28 =>
        intro  x3_28 H locs ls hP hD hS hl hd
        have hd : B_Mo_becomes_L28 x1_f28 x2_f28 z (d_Mo_becomes_L28 x1_f28 x2_f28 z n) x3_28 = some v := hd
        generalize d_Mo_becomes_L28 x1_f28 x2_f28 z n = self28 at ih28 hd
        unfold B_Mo_becomes_L28 at hd
        refine lv_iload_n hx hb d_Mo_becomes_28 rfl (lv_at hl 3 rfl) ?_
        refine lv_aload_n hx hb d_Mo_becomes_29 rfl (lv_at hl 0 rfl) ?_
        refine va_get (D := D) (ci := 1) (v := .ref (a 1)) (C := R_Mo) (T := F_Mo) (N := 26) hx hb hg i_Mo hown hK hP 0 rfl rfl 1 (by decide) (hg _ g_993) (fun _ h9 => h9) rfl d_Mo_becomes_30 ?_
        refine lv_iconst (v := 0) hx hb d_Mo_becomes_33 (by decide) ?_
        refine ialdK hx hb hK hP 1 0 rfl rfl (inb_t (by decide +kernel)) (k := 0) (by decide +kernel) d_Mo_becomes_34 ?_
        refine lv_icmp_ge (tgt := 85) hx hb d_Mo_becomes_35 (by decide) (fun h_2 => ?_) (fun h_2 => ?_)
        · have hd := ite_t hd h_2
          refine lv_iconst (v := 4) hx hb d_Mo_becomes_85 (by decide) ?_
          obtain rfl := Option.some.inj hd
          exact retI hx hb hr hlk hK hP hD hS d_Mo_becomes_86 rfl
        · have hd := ite_f hd h_2
          refine lv_iload_n hx hb d_Mo_becomes_38 rfl (lv_at hl 1 rfl) ?_
          refine lv_iload_n hx hb d_Mo_becomes_39 rfl (lv_at hl 3 rfl) ?_
          refine lv_iadd hx hb d_Mo_becomes_40 ?_
          refine lv_aload_n hx hb d_Mo_becomes_41 rfl (lv_at hl 0 rfl) ?_
          refine va_get (D := D) (ci := 1) (v := .ref (a 1)) (C := R_Mo) (T := F_Mo) (N := 26) hx hb hg i_Mo hown hK hP 0 rfl rfl 1 (by decide) (hg _ g_993) (fun _ h9 => h9) rfl d_Mo_becomes_42 ?_
          refine lv_iconst (v := 0) hx hb d_Mo_becomes_45 (by decide) ?_
          refine ialdK hx hb hK hP 1 0 rfl rfl (inb_t (by decide +kernel)) (k := 0) (by decide +kernel) d_Mo_becomes_46 ?_
          obtain ⟨h_3, hd⟩ := ite_n hd
          refine lv_irem hx hb d_Mo_becomes_47 h_3 ?_
          refine lv_istore (lv' := [(4, .int ((x1_f28 + x3_28) - (x1_f28 + x3_28) / ((q_Mo_s z) 0) * ((q_Mo_s z) 0))), (0, .ref (a 0)), (1, .int x1_f28), (2, .int x2_f28), (3, .int x3_28)]) hx hb d_Mo_becomes_48 hl (by decide) rfl (fun ls hl => ?_)
          refine lv_aload_n hx hb d_Mo_becomes_50 rfl (lv_at hl 1 rfl) ?_
          refine lv_iload hx hb d_Mo_becomes_51 (lv_at hl 0 rfl) ?_
          obtain ⟨v_4, e_5, hd⟩ := bind_s hd
          refine callVI (ws' := ws_Mo g a z) (rest := []) (As := [.int ((x1_f28 + x3_28) - (x1_f28 + x3_28) / ((q_Mo_s z) 0) * ((q_Mo_s z) 0))]) hx hb hml hown hg hK hP hD hS hA hCs hl.1 (c_Mo_loadOf l D g a ((x1_f28 + x3_28) - (x1_f28 + x3_28) / ((q_Mo_s z) 0) * ((q_Mo_s z) 0)) z _ e_5) o_Mo_loadOf g_1163 (ci := 1) (q0 := 0) rfl rfl (List.range' 0 12) (segC1 rfl rfl) (by decide) rfl (segP1 rfl rfl) rfl rfl (Nat.le_of_ble_eq_true rfl) ⟨rfl, rfl, Nat.le_of_ble_eq_true rfl, Nat.le_of_ble_eq_true rfl⟩ d_Mo_becomes_53 (fun H locs hP hD hS => ?_)
          refine lv_aload_n hx hb d_Mo_becomes_56 rfl (lv_at hl 1 rfl) ?_
          refine va_get (D := D) (ci := 1) (v := .ref (a 1)) (C := R_Mo) (T := F_Mo) (N := 26) hx hb hg i_Mo hown hK hP 0 rfl rfl 1 (by decide) (hg _ g_993) (fun _ h9 => h9) rfl d_Mo_becomes_57 ?_
          refine lv_bipush (v := 58) hx hb d_Mo_becomes_60 (by decide) ?_
          refine lv_iload_n hx hb d_Mo_becomes_62 rfl (lv_at hl 3 rfl) ?_
          refine lv_iadd hx hb d_Mo_becomes_63 ?_
          obtain ⟨h_8, hd⟩ := ite_s hd
          refine ialdK hx hb hK hP 1 0 rfl rfl (inb_t h_8) rfl d_Mo_becomes_64 ?_
          refine lv_iadd hx hb d_Mo_becomes_65 ?_
          refine lv_aload_n hx hb d_Mo_becomes_66 rfl (lv_at hl 1 rfl) ?_
          refine va_get (D := D) (ci := 1) (v := .ref (a 7)) (C := R_Mo) (T := F_Mo) (N := 26) hx hb hg i_Mo hown hK hP 0 rfl rfl 13 (by decide) (hg _ g_1005) (fun _ h9 => h9) rfl d_Mo_becomes_67 ?_
          refine lv_iload hx hb d_Mo_becomes_70 (lv_at hl 0 rfl) ?_
          obtain ⟨h_7, hd⟩ := ite_s hd
          refine ialdK hx hb hK hP 7 0 rfl rfl (inb_t h_7) rfl d_Mo_becomes_72 ?_
          refine lv_icmp_gt (tgt := 79) hx hb d_Mo_becomes_73 (by decide) (fun h_6 => ?_) (fun h_6 => ?_)
          · have hd := ite_t hd h_6
            refine lv_iinc (v := x3_28 + 1) (lv' := [(3, .int (x3_28 + 1)), (4, .int ((x1_f28 + x3_28) - (x1_f28 + x3_28) / ((q_Mo_s z) 0) * ((q_Mo_s z) 0))), (0, .ref (a 0)), (1, .int x1_f28), (2, .int x2_f28)]) hx hb d_Mo_becomes_79 hl (k := 4) rfl (by rfl) (by decide) rfl (fun ls hl => ?_)
            refine lv_goto (tgt := 28) hx hb d_Mo_becomes_82 (by decide) ?_
            exact ih28 (x3_28 + 1) _ _ _ hP hD hS (lv_sub hl [2, 3, 4, 0] rfl) hd
          · have hd := ite_f hd h_6
            refine lv_iload hx hb d_Mo_becomes_76 (lv_at hl 0 rfl) ?_
            obtain rfl := Option.some.inj hd
            exact retI hx hb hr hlk hK hP hD hS d_Mo_becomes_78 rfl
    exact lp28 x1 x2 1000 1 _ _ _ hP hD hS (lv_sub hl [1, 2, 3, 0] rfl) hd
  · have hd := ite_f hd h_1
    refine lv_aload_n hx hb d_Mo_becomes_13 rfl (lv_at hl 0 rfl) ?_
    refine va_get (D := D) (ci := 1) (v := .ref (a 1)) (C := R_Mo) (T := F_Mo) (N := 26) hx hb hg i_Mo hown hK hP 0 rfl rfl 1 (by decide) (hg _ g_993) (fun _ h9 => h9) rfl d_Mo_becomes_14 ?_
    refine lv_bipush (v := 10) hx hb d_Mo_becomes_17 (by decide) ?_
    refine lv_iload_n hx hb d_Mo_becomes_19 rfl (lv_at hl 1 rfl) ?_
    refine lv_iadd hx hb d_Mo_becomes_20 ?_
    obtain ⟨h_17, hd⟩ := ite_s hd
    refine ialdK hx hb hK hP 1 0 rfl rfl (inb_t h_17) rfl d_Mo_becomes_21 ?_
    refine lv_iconst (v := 5) hx hb d_Mo_becomes_22 (by decide) ?_
    refine lv_icmp_ne (tgt := 85) hx hb d_Mo_becomes_23 (by decide) (fun h_9 => ?_) (fun h_9 => ?_)
    · have hd := ite_f hd h_9
      refine lv_iconst (v := 4) hx hb d_Mo_becomes_85 (by decide) ?_
      obtain rfl := Option.some.inj hd
      exact retI hx hb hr hlk hK hP hD hS d_Mo_becomes_86 rfl
    · have hd := ite_t hd h_9
      refine lv_iconst (v := 1) hx hb d_Mo_becomes_26 (by decide) ?_
      refine lv_istore_n (lv' := [(3, .int 1), (0, .ref (a 0)), (1, .int x1), (2, .int x2)]) hx hb d_Mo_becomes_27 rfl hl (by decide) rfl (fun ls hl => ?_)
      have lp28 : ∀ (x1_f28 : Int32) (x2_f28 : Int32) (n : Nat) (x3_28 : Int32) (H : Heap) (locs : List Loc) (ls : Array Slot), va_P D classes (ws_Mo g a z) H → va_D A (ws_Mo g a z) → va_S A s.heap H locs → lv_has ls 5 [(0, .ref (a 0)), (1, .int x1_f28), (2, .int x2_f28), (3, .int x3_28)] → d_Mo_becomes_L28 x1_f28 x2_f28 z n x3_28 = some v → GI p l e s m ({ frames := 1, cells := 0, slots := 0, locals := 23 } : Room) ([.ref (a 0), .int x1, .int x2] : List Value).toArray below meth c A D g (ws_Mo g a z) (v) H locs (F0 m 28 ls []) := by
        intro x1_f28 x2_f28 n
        induction n with
        | zero =>
          intro  x3_28 H locs ls hP hD hS hl hd
          have hd : none = some v := hd
          cases hd
        | succ n ih28 =>
          intro  x3_28 H locs ls hP hD hS hl hd
          have hd : B_Mo_becomes_L28 x1_f28 x2_f28 z (d_Mo_becomes_L28 x1_f28 x2_f28 z n) x3_28 = some v := hd
          generalize d_Mo_becomes_L28 x1_f28 x2_f28 z n = self28 at ih28 hd
          unfold B_Mo_becomes_L28 at hd
          refine lv_iload_n hx hb d_Mo_becomes_28 rfl (lv_at hl 3 rfl) ?_
          refine lv_aload_n hx hb d_Mo_becomes_29 rfl (lv_at hl 0 rfl) ?_
          refine va_get (D := D) (ci := 1) (v := .ref (a 1)) (C := R_Mo) (T := F_Mo) (N := 26) hx hb hg i_Mo hown hK hP 0 rfl rfl 1 (by decide) (hg _ g_993) (fun _ h9 => h9) rfl d_Mo_becomes_30 ?_
          refine lv_iconst (v := 0) hx hb d_Mo_becomes_33 (by decide) ?_
          refine ialdK hx hb hK hP 1 0 rfl rfl (inb_t (by decide +kernel)) (k := 0) (by decide +kernel) d_Mo_becomes_34 ?_
          refine lv_icmp_ge (tgt := 85) hx hb d_Mo_becomes_35 (by decide) (fun h_10 => ?_) (fun h_10 => ?_)
          · have hd := ite_t hd h_10
            refine lv_iconst (v := 4) hx hb d_Mo_becomes_85 (by decide) ?_
            obtain rfl := Option.some.inj hd
            exact retI hx hb hr hlk hK hP hD hS d_Mo_becomes_86 rfl
          · have hd := ite_f hd h_10
            refine lv_iload_n hx hb d_Mo_becomes_38 rfl (lv_at hl 1 rfl) ?_
            refine lv_iload_n hx hb d_Mo_becomes_39 rfl (lv_at hl 3 rfl) ?_
            refine lv_iadd hx hb d_Mo_becomes_40 ?_
            refine lv_aload_n hx hb d_Mo_becomes_41 rfl (lv_at hl 0 rfl) ?_
            refine va_get (D := D) (ci := 1) (v := .ref (a 1)) (C := R_Mo) (T := F_Mo) (N := 26) hx hb hg i_Mo hown hK hP 0 rfl rfl 1 (by decide) (hg _ g_993) (fun _ h9 => h9) rfl d_Mo_becomes_42 ?_
            refine lv_iconst (v := 0) hx hb d_Mo_becomes_45 (by decide) ?_
            refine ialdK hx hb hK hP 1 0 rfl rfl (inb_t (by decide +kernel)) (k := 0) (by decide +kernel) d_Mo_becomes_46 ?_
            obtain ⟨h_11, hd⟩ := ite_n hd
            refine lv_irem hx hb d_Mo_becomes_47 h_11 ?_
            refine lv_istore (lv' := [(4, .int ((x1_f28 + x3_28) - (x1_f28 + x3_28) / ((q_Mo_s z) 0) * ((q_Mo_s z) 0))), (0, .ref (a 0)), (1, .int x1_f28), (2, .int x2_f28), (3, .int x3_28)]) hx hb d_Mo_becomes_48 hl (by decide) rfl (fun ls hl => ?_)
            refine lv_aload_n hx hb d_Mo_becomes_50 rfl (lv_at hl 1 rfl) ?_
            refine lv_iload hx hb d_Mo_becomes_51 (lv_at hl 0 rfl) ?_
            obtain ⟨v_12, e_13, hd⟩ := bind_s hd
            refine callVI (ws' := ws_Mo g a z) (rest := []) (As := [.int ((x1_f28 + x3_28) - (x1_f28 + x3_28) / ((q_Mo_s z) 0) * ((q_Mo_s z) 0))]) hx hb hml hown hg hK hP hD hS hA hCs hl.1 (c_Mo_loadOf l D g a ((x1_f28 + x3_28) - (x1_f28 + x3_28) / ((q_Mo_s z) 0) * ((q_Mo_s z) 0)) z _ e_13) o_Mo_loadOf g_1163 (ci := 1) (q0 := 0) rfl rfl (List.range' 0 12) (segC1 rfl rfl) (by decide) rfl (segP1 rfl rfl) rfl rfl (Nat.le_of_ble_eq_true rfl) ⟨rfl, rfl, Nat.le_of_ble_eq_true rfl, Nat.le_of_ble_eq_true rfl⟩ d_Mo_becomes_53 (fun H locs hP hD hS => ?_)
            refine lv_aload_n hx hb d_Mo_becomes_56 rfl (lv_at hl 1 rfl) ?_
            refine va_get (D := D) (ci := 1) (v := .ref (a 1)) (C := R_Mo) (T := F_Mo) (N := 26) hx hb hg i_Mo hown hK hP 0 rfl rfl 1 (by decide) (hg _ g_993) (fun _ h9 => h9) rfl d_Mo_becomes_57 ?_
            refine lv_bipush (v := 58) hx hb d_Mo_becomes_60 (by decide) ?_
            refine lv_iload_n hx hb d_Mo_becomes_62 rfl (lv_at hl 3 rfl) ?_
            refine lv_iadd hx hb d_Mo_becomes_63 ?_
            obtain ⟨h_16, hd⟩ := ite_s hd
            refine ialdK hx hb hK hP 1 0 rfl rfl (inb_t h_16) rfl d_Mo_becomes_64 ?_
            refine lv_iadd hx hb d_Mo_becomes_65 ?_
            refine lv_aload_n hx hb d_Mo_becomes_66 rfl (lv_at hl 1 rfl) ?_
            refine va_get (D := D) (ci := 1) (v := .ref (a 7)) (C := R_Mo) (T := F_Mo) (N := 26) hx hb hg i_Mo hown hK hP 0 rfl rfl 13 (by decide) (hg _ g_1005) (fun _ h9 => h9) rfl d_Mo_becomes_67 ?_
            refine lv_iload hx hb d_Mo_becomes_70 (lv_at hl 0 rfl) ?_
            obtain ⟨h_15, hd⟩ := ite_s hd
            refine ialdK hx hb hK hP 7 0 rfl rfl (inb_t h_15) rfl d_Mo_becomes_72 ?_
            refine lv_icmp_gt (tgt := 79) hx hb d_Mo_becomes_73 (by decide) (fun h_14 => ?_) (fun h_14 => ?_)
            · have hd := ite_t hd h_14
              refine lv_iinc (v := x3_28 + 1) (lv' := [(3, .int (x3_28 + 1)), (4, .int ((x1_f28 + x3_28) - (x1_f28 + x3_28) / ((q_Mo_s z) 0) * ((q_Mo_s z) 0))), (0, .ref (a 0)), (1, .int x1_f28), (2, .int x2_f28)]) hx hb d_Mo_becomes_79 hl (k := 4) rfl (by rfl) (by decide) rfl (fun ls hl => ?_)
              refine lv_goto (tgt := 28) hx hb d_Mo_becomes_82 (by decide) ?_
              exact ih28 (x3_28 + 1) _ _ _ hP hD hS (lv_sub hl [2, 3, 4, 0] rfl) hd
            · have hd := ite_f hd h_14
              refine lv_iload hx hb d_Mo_becomes_76 (lv_at hl 0 rfl) ?_
              obtain rfl := Option.some.inj hd
              exact retI hx hb hr hlk hK hP hD hS d_Mo_becomes_78 rfl
      exact lp28 x1 x2 1000 1 _ _ _ hP hD hS (lv_sub hl [1, 2, 3, 0] rfl) hd

-- OwnsLiftModel.canSwap(II)Z
def d_Mo_canSwap (x1 : Int32) (x2 : Int32) (z : T_Mo) : Option (Int32) :=
  if inb (65 + x1) 901 = true then (if inb (65 + x2) 901 = true then (if ((q_Mo_s z) (65 + x1).toNatClampNeg) = 4 then (some (0)) else (if ((q_Mo_s z) (65 + x2).toNatClampNeg) = 4 then (some (0)) else (if ((q_Mo_s z) (65 + x1).toNatClampNeg) = ((q_Mo_s z) (65 + x2).toNatClampNeg) then (some (0)) else (if inb (58 + x2) 901 = true then (if inb (58 + x1) 901 = true then (if inb ((7 * ((q_Mo_s z) (65 + x1).toNatClampNeg)) + x2) 28 = true then (if inb ((7 * ((q_Mo_s z) (65 + x1).toNatClampNeg)) + x1) 28 = true then (if ((q_Mo_likes z) ((7 * ((q_Mo_s z) (65 + x1).toNatClampNeg)) + x2).toNatClampNeg) ≤ ((q_Mo_likes z) ((7 * ((q_Mo_s z) (65 + x1).toNatClampNeg)) + x1).toNatClampNeg) then (some (0)) else (if inb ((7 * ((q_Mo_s z) (65 + x2).toNatClampNeg)) + x1) 28 = true then (if inb ((7 * ((q_Mo_s z) (65 + x2).toNatClampNeg)) + x2) 28 = true then (if ((q_Mo_likes z) ((7 * ((q_Mo_s z) (65 + x2).toNatClampNeg)) + x1).toNatClampNeg) ≤ ((q_Mo_likes z) ((7 * ((q_Mo_s z) (65 + x2).toNatClampNeg)) + x2).toNatClampNeg) then (some (0)) else ((d_Mo_loadOf ((q_Mo_s z) (65 + x1).toNatClampNeg) z).bind fun v_6 => if inb ((q_Mo_s z) (65 + x1).toNatClampNeg) 4 = true then (if ((q_Mo_lifts z) ((q_Mo_s z) (65 + x1).toNatClampNeg).toNatClampNeg) < (v_6 + (((q_Mo_s z) (58 + x2).toNatClampNeg) - ((q_Mo_s z) (58 + x1).toNatClampNeg))) then (some (0)) else ((d_Mo_loadOf ((q_Mo_s z) (65 + x2).toNatClampNeg) z).bind fun v_9 => if inb ((q_Mo_s z) (65 + x2).toNatClampNeg) 4 = true then (if ((q_Mo_lifts z) ((q_Mo_s z) (65 + x2).toNatClampNeg).toNatClampNeg) < (v_9 - (((q_Mo_s z) (58 + x2).toNatClampNeg) - ((q_Mo_s z) (58 + x1).toNatClampNeg))) then (some (0)) else (some (1))) else none)) else none)) else none) else none)) else none) else none) else none) else none)))) else none) else none
theorem d_Mo_canSwap_0 : decode b_Mo_canSwap 0 = .ok (.aload_n 0, 1) := by decide +kernel
theorem d_Mo_canSwap_1 : decode b_Mo_canSwap 1 = .ok (.getfield 9, 3) := by decide +kernel
theorem d_Mo_canSwap_4 : decode b_Mo_canSwap 4 = .ok (.bipush 65, 2) := by decide +kernel
theorem d_Mo_canSwap_6 : decode b_Mo_canSwap 6 = .ok (.iload_n 1, 1) := by decide +kernel
theorem d_Mo_canSwap_7 : decode b_Mo_canSwap 7 = .ok (.iadd, 1) := by decide +kernel
theorem d_Mo_canSwap_8 : decode b_Mo_canSwap 8 = .ok (.iaload, 1) := by decide +kernel
theorem d_Mo_canSwap_9 : decode b_Mo_canSwap 9 = .ok (.istore_n 3, 1) := by decide +kernel
theorem d_Mo_canSwap_10 : decode b_Mo_canSwap 10 = .ok (.aload_n 0, 1) := by decide +kernel
theorem d_Mo_canSwap_11 : decode b_Mo_canSwap 11 = .ok (.getfield 9, 3) := by decide +kernel
theorem d_Mo_canSwap_14 : decode b_Mo_canSwap 14 = .ok (.bipush 65, 2) := by decide +kernel
theorem d_Mo_canSwap_16 : decode b_Mo_canSwap 16 = .ok (.iload_n 2, 1) := by decide +kernel
theorem d_Mo_canSwap_17 : decode b_Mo_canSwap 17 = .ok (.iadd, 1) := by decide +kernel
theorem d_Mo_canSwap_18 : decode b_Mo_canSwap 18 = .ok (.iaload, 1) := by decide +kernel
theorem d_Mo_canSwap_19 : decode b_Mo_canSwap 19 = .ok (.istore 4, 2) := by decide +kernel
theorem d_Mo_canSwap_21 : decode b_Mo_canSwap 21 = .ok (.iload_n 3, 1) := by decide +kernel
theorem d_Mo_canSwap_22 : decode b_Mo_canSwap 22 = .ok (.iconst 4, 1) := by decide +kernel
theorem d_Mo_canSwap_23 : decode b_Mo_canSwap 23 = .ok (.if_icmp .eq 15, 3) := by decide +kernel
theorem d_Mo_canSwap_26 : decode b_Mo_canSwap 26 = .ok (.iload 4, 2) := by decide +kernel
theorem d_Mo_canSwap_28 : decode b_Mo_canSwap 28 = .ok (.iconst 4, 1) := by decide +kernel
theorem d_Mo_canSwap_29 : decode b_Mo_canSwap 29 = .ok (.if_icmp .eq 9, 3) := by decide +kernel
theorem d_Mo_canSwap_32 : decode b_Mo_canSwap 32 = .ok (.iload_n 3, 1) := by decide +kernel
theorem d_Mo_canSwap_33 : decode b_Mo_canSwap 33 = .ok (.iload 4, 2) := by decide +kernel
theorem d_Mo_canSwap_35 : decode b_Mo_canSwap 35 = .ok (.if_icmp .ne 5, 3) := by decide +kernel
theorem d_Mo_canSwap_38 : decode b_Mo_canSwap 38 = .ok (.iconst 0, 1) := by decide +kernel
theorem d_Mo_canSwap_39 : decode b_Mo_canSwap 39 = .ok (.ireturn, 1) := by decide +kernel
theorem d_Mo_canSwap_40 : decode b_Mo_canSwap 40 = .ok (.aload_n 0, 1) := by decide +kernel
theorem d_Mo_canSwap_41 : decode b_Mo_canSwap 41 = .ok (.getfield 9, 3) := by decide +kernel
theorem d_Mo_canSwap_44 : decode b_Mo_canSwap 44 = .ok (.bipush 58, 2) := by decide +kernel
theorem d_Mo_canSwap_46 : decode b_Mo_canSwap 46 = .ok (.iload_n 2, 1) := by decide +kernel
theorem d_Mo_canSwap_47 : decode b_Mo_canSwap 47 = .ok (.iadd, 1) := by decide +kernel
theorem d_Mo_canSwap_48 : decode b_Mo_canSwap 48 = .ok (.iaload, 1) := by decide +kernel
theorem d_Mo_canSwap_49 : decode b_Mo_canSwap 49 = .ok (.aload_n 0, 1) := by decide +kernel
theorem d_Mo_canSwap_50 : decode b_Mo_canSwap 50 = .ok (.getfield 9, 3) := by decide +kernel
theorem d_Mo_canSwap_53 : decode b_Mo_canSwap 53 = .ok (.bipush 58, 2) := by decide +kernel
theorem d_Mo_canSwap_55 : decode b_Mo_canSwap 55 = .ok (.iload_n 1, 1) := by decide +kernel
theorem d_Mo_canSwap_56 : decode b_Mo_canSwap 56 = .ok (.iadd, 1) := by decide +kernel
theorem d_Mo_canSwap_57 : decode b_Mo_canSwap 57 = .ok (.iaload, 1) := by decide +kernel
theorem d_Mo_canSwap_58 : decode b_Mo_canSwap 58 = .ok (.isub, 1) := by decide +kernel
theorem d_Mo_canSwap_59 : decode b_Mo_canSwap 59 = .ok (.istore 5, 2) := by decide +kernel
theorem d_Mo_canSwap_61 : decode b_Mo_canSwap 61 = .ok (.aload_n 0, 1) := by decide +kernel
theorem d_Mo_canSwap_62 : decode b_Mo_canSwap 62 = .ok (.getfield 28, 3) := by decide +kernel
theorem d_Mo_canSwap_65 : decode b_Mo_canSwap 65 = .ok (.bipush 7, 2) := by decide +kernel
theorem d_Mo_canSwap_67 : decode b_Mo_canSwap 67 = .ok (.iload_n 3, 1) := by decide +kernel
theorem d_Mo_canSwap_68 : decode b_Mo_canSwap 68 = .ok (.imul, 1) := by decide +kernel
theorem d_Mo_canSwap_69 : decode b_Mo_canSwap 69 = .ok (.iload_n 2, 1) := by decide +kernel
theorem d_Mo_canSwap_70 : decode b_Mo_canSwap 70 = .ok (.iadd, 1) := by decide +kernel
theorem d_Mo_canSwap_71 : decode b_Mo_canSwap 71 = .ok (.iaload, 1) := by decide +kernel
theorem d_Mo_canSwap_72 : decode b_Mo_canSwap 72 = .ok (.aload_n 0, 1) := by decide +kernel
theorem d_Mo_canSwap_73 : decode b_Mo_canSwap 73 = .ok (.getfield 28, 3) := by decide +kernel
theorem d_Mo_canSwap_76 : decode b_Mo_canSwap 76 = .ok (.bipush 7, 2) := by decide +kernel
theorem d_Mo_canSwap_78 : decode b_Mo_canSwap 78 = .ok (.iload_n 3, 1) := by decide +kernel
theorem d_Mo_canSwap_79 : decode b_Mo_canSwap 79 = .ok (.imul, 1) := by decide +kernel
theorem d_Mo_canSwap_80 : decode b_Mo_canSwap 80 = .ok (.iload_n 1, 1) := by decide +kernel
theorem d_Mo_canSwap_81 : decode b_Mo_canSwap 81 = .ok (.iadd, 1) := by decide +kernel
theorem d_Mo_canSwap_82 : decode b_Mo_canSwap 82 = .ok (.iaload, 1) := by decide +kernel
theorem d_Mo_canSwap_83 : decode b_Mo_canSwap 83 = .ok (.if_icmp .le 34, 3) := by decide +kernel
theorem d_Mo_canSwap_86 : decode b_Mo_canSwap 86 = .ok (.aload_n 0, 1) := by decide +kernel
theorem d_Mo_canSwap_87 : decode b_Mo_canSwap 87 = .ok (.getfield 28, 3) := by decide +kernel
theorem d_Mo_canSwap_90 : decode b_Mo_canSwap 90 = .ok (.bipush 7, 2) := by decide +kernel
theorem d_Mo_canSwap_92 : decode b_Mo_canSwap 92 = .ok (.iload 4, 2) := by decide +kernel
theorem d_Mo_canSwap_94 : decode b_Mo_canSwap 94 = .ok (.imul, 1) := by decide +kernel
theorem d_Mo_canSwap_95 : decode b_Mo_canSwap 95 = .ok (.iload_n 1, 1) := by decide +kernel
theorem d_Mo_canSwap_96 : decode b_Mo_canSwap 96 = .ok (.iadd, 1) := by decide +kernel
theorem d_Mo_canSwap_97 : decode b_Mo_canSwap 97 = .ok (.iaload, 1) := by decide +kernel
theorem d_Mo_canSwap_98 : decode b_Mo_canSwap 98 = .ok (.aload_n 0, 1) := by decide +kernel
theorem d_Mo_canSwap_99 : decode b_Mo_canSwap 99 = .ok (.getfield 28, 3) := by decide +kernel
theorem d_Mo_canSwap_102 : decode b_Mo_canSwap 102 = .ok (.bipush 7, 2) := by decide +kernel
theorem d_Mo_canSwap_104 : decode b_Mo_canSwap 104 = .ok (.iload 4, 2) := by decide +kernel
theorem d_Mo_canSwap_106 : decode b_Mo_canSwap 106 = .ok (.imul, 1) := by decide +kernel
theorem d_Mo_canSwap_107 : decode b_Mo_canSwap 107 = .ok (.iload_n 2, 1) := by decide +kernel
theorem d_Mo_canSwap_108 : decode b_Mo_canSwap 108 = .ok (.iadd, 1) := by decide +kernel
theorem d_Mo_canSwap_109 : decode b_Mo_canSwap 109 = .ok (.iaload, 1) := by decide +kernel
theorem d_Mo_canSwap_110 : decode b_Mo_canSwap 110 = .ok (.if_icmp .le 7, 3) := by decide +kernel
theorem d_Mo_canSwap_113 : decode b_Mo_canSwap 113 = .ok (.iconst 1, 1) := by decide +kernel
theorem d_Mo_canSwap_114 : decode b_Mo_canSwap 114 = .ok (.goto 4, 3) := by decide +kernel
theorem d_Mo_canSwap_117 : decode b_Mo_canSwap 117 = .ok (.iconst 0, 1) := by decide +kernel
theorem d_Mo_canSwap_118 : decode b_Mo_canSwap 118 = .ok (.istore 6, 2) := by decide +kernel
theorem d_Mo_canSwap_120 : decode b_Mo_canSwap 120 = .ok (.iload 6, 2) := by decide +kernel
theorem d_Mo_canSwap_122 : decode b_Mo_canSwap 122 = .ok (.ifCond .eq 43, 3) := by decide +kernel
theorem d_Mo_canSwap_125 : decode b_Mo_canSwap 125 = .ok (.aload_n 0, 1) := by decide +kernel
theorem d_Mo_canSwap_126 : decode b_Mo_canSwap 126 = .ok (.iload_n 3, 1) := by decide +kernel
theorem d_Mo_canSwap_127 : decode b_Mo_canSwap 127 = .ok (.invokevirtual 151, 3) := by decide +kernel
theorem d_Mo_canSwap_130 : decode b_Mo_canSwap 130 = .ok (.iload 5, 2) := by decide +kernel
theorem d_Mo_canSwap_132 : decode b_Mo_canSwap 132 = .ok (.iadd, 1) := by decide +kernel
theorem d_Mo_canSwap_133 : decode b_Mo_canSwap 133 = .ok (.aload_n 0, 1) := by decide +kernel
theorem d_Mo_canSwap_134 : decode b_Mo_canSwap 134 = .ok (.getfield 31, 3) := by decide +kernel
theorem d_Mo_canSwap_137 : decode b_Mo_canSwap 137 = .ok (.iload_n 3, 1) := by decide +kernel
theorem d_Mo_canSwap_138 : decode b_Mo_canSwap 138 = .ok (.iaload, 1) := by decide +kernel
theorem d_Mo_canSwap_139 : decode b_Mo_canSwap 139 = .ok (.if_icmp .gt 26, 3) := by decide +kernel
theorem d_Mo_canSwap_142 : decode b_Mo_canSwap 142 = .ok (.aload_n 0, 1) := by decide +kernel
theorem d_Mo_canSwap_143 : decode b_Mo_canSwap 143 = .ok (.iload 4, 2) := by decide +kernel
theorem d_Mo_canSwap_145 : decode b_Mo_canSwap 145 = .ok (.invokevirtual 151, 3) := by decide +kernel
theorem d_Mo_canSwap_148 : decode b_Mo_canSwap 148 = .ok (.iload 5, 2) := by decide +kernel
theorem d_Mo_canSwap_150 : decode b_Mo_canSwap 150 = .ok (.isub, 1) := by decide +kernel
theorem d_Mo_canSwap_151 : decode b_Mo_canSwap 151 = .ok (.aload_n 0, 1) := by decide +kernel
theorem d_Mo_canSwap_152 : decode b_Mo_canSwap 152 = .ok (.getfield 31, 3) := by decide +kernel
theorem d_Mo_canSwap_155 : decode b_Mo_canSwap 155 = .ok (.iload 4, 2) := by decide +kernel
theorem d_Mo_canSwap_157 : decode b_Mo_canSwap 157 = .ok (.iaload, 1) := by decide +kernel
theorem d_Mo_canSwap_158 : decode b_Mo_canSwap 158 = .ok (.if_icmp .gt 7, 3) := by decide +kernel
theorem d_Mo_canSwap_161 : decode b_Mo_canSwap 161 = .ok (.iconst 1, 1) := by decide +kernel
theorem d_Mo_canSwap_162 : decode b_Mo_canSwap 162 = .ok (.goto 4, 3) := by decide +kernel
theorem d_Mo_canSwap_165 : decode b_Mo_canSwap 165 = .ok (.iconst 0, 1) := by decide +kernel
theorem d_Mo_canSwap_166 : decode b_Mo_canSwap 166 = .ok (.ireturn, 1) := by decide +kernel
theorem o_Mo_canSwap : OkV y_Mo_canSwap "OwnsLiftModel" b_Mo_canSwap 7 (some .boolean) 2 := ⟨⟨rfl, by decide +kernel, by decide +kernel, by decide +kernel⟩, g_1308, g_60, g_81, g_1309⟩
set_option maxHeartbeats 4000000 in
set_option maxRecDepth 100000 in
theorem c_Mo_canSwap (l : Launch) (D : va_G) (g : Nat → ClassId) (a : Nat → Nat) (x1 : Int32) (x2 : Int32) (z : T_Mo) (v : Int32) (h : d_Mo_canSwap x1 x2 z = some v) :
    MI l y_Mo_canSwap b_Mo_canSwap 7 .boolean ({ frames := 1, cells := 0, slots := 0, locals := 23 } : Room) D g [.ref (a 0), .int x1, .int x2] (ws_Mo g a z) (v) (ws_Mo g a z) := by
  have hd := h
  unfold d_Mo_canSwap at hd
  refine enterI rfl (Nat.le_of_ble_eq_true rfl) (fun p e s m below meth c A ls hx hb hml hr hown hg hlk hK hA hP hD hS hCs hl => ?_)
  have hown : s.vm.findClass "OwnsLiftModel" = some m.cls := hown
  have hl : lv_has ls 7 [(0, .ref (a 0)), (1, .int x1), (2, .int x2)] := hl
  show GI p l e s m ({ frames := 1, cells := 0, slots := 0, locals := 23 } : Room) ([.ref (a 0), .int x1, .int x2] : List Value).toArray below meth c A D g (ws_Mo g a z) (v) s.heap [] (F0 m 0 ls [])
  refine lv_aload_n hx hb d_Mo_canSwap_0 rfl (lv_at hl 0 rfl) ?_
  refine va_get (D := D) (ci := 1) (v := .ref (a 1)) (C := R_Mo) (T := F_Mo) (N := 26) hx hb hg i_Mo hown hK hP 0 rfl rfl 1 (by decide) (hg _ g_993) (fun _ h9 => h9) rfl d_Mo_canSwap_1 ?_
  refine lv_bipush (v := 65) hx hb d_Mo_canSwap_4 (by decide) ?_
  refine lv_iload_n hx hb d_Mo_canSwap_6 rfl (lv_at hl 1 rfl) ?_
  refine lv_iadd hx hb d_Mo_canSwap_7 ?_
  obtain ⟨h_21, hd⟩ := ite_s hd
  refine ialdK hx hb hK hP 1 0 rfl rfl (inb_t h_21) rfl d_Mo_canSwap_8 ?_
  refine lv_istore_n (lv' := [(3, .int ((q_Mo_s z) (65 + x1).toNatClampNeg)), (0, .ref (a 0)), (1, .int x1), (2, .int x2)]) hx hb d_Mo_canSwap_9 rfl hl (by decide) rfl (fun ls hl => ?_)
  refine lv_aload_n hx hb d_Mo_canSwap_10 rfl (lv_at hl 1 rfl) ?_
  refine va_get (D := D) (ci := 1) (v := .ref (a 1)) (C := R_Mo) (T := F_Mo) (N := 26) hx hb hg i_Mo hown hK hP 0 rfl rfl 1 (by decide) (hg _ g_993) (fun _ h9 => h9) rfl d_Mo_canSwap_11 ?_
  refine lv_bipush (v := 65) hx hb d_Mo_canSwap_14 (by decide) ?_
  refine lv_iload_n hx hb d_Mo_canSwap_16 rfl (lv_at hl 3 rfl) ?_
  refine lv_iadd hx hb d_Mo_canSwap_17 ?_
  obtain ⟨h_20, hd⟩ := ite_s hd
  refine ialdK hx hb hK hP 1 0 rfl rfl (inb_t h_20) rfl d_Mo_canSwap_18 ?_
  refine lv_istore (lv' := [(4, .int ((q_Mo_s z) (65 + x2).toNatClampNeg)), (3, .int ((q_Mo_s z) (65 + x1).toNatClampNeg)), (0, .ref (a 0)), (1, .int x1), (2, .int x2)]) hx hb d_Mo_canSwap_19 hl (by decide) rfl (fun ls hl => ?_)
  refine lv_iload_n hx hb d_Mo_canSwap_21 rfl (lv_at hl 1 rfl) ?_
  refine lv_iconst (v := 4) hx hb d_Mo_canSwap_22 (by decide) ?_
  refine lv_icmp_eq (tgt := 38) hx hb d_Mo_canSwap_23 (by decide) (fun h_1 => ?_) (fun h_1 => ?_)
  · have hd := ite_t hd h_1
    refine lv_iconst (v := 0) hx hb d_Mo_canSwap_38 (by decide) ?_
    obtain rfl := Option.some.inj hd
    exact retZ hx hb hr hlk hK hP hD hS d_Mo_canSwap_39 rfl (by decide +kernel)
  · have hd := ite_f hd h_1
    refine lv_iload hx hb d_Mo_canSwap_26 (lv_at hl 0 rfl) ?_
    refine lv_iconst (v := 4) hx hb d_Mo_canSwap_28 (by decide) ?_
    refine lv_icmp_eq (tgt := 38) hx hb d_Mo_canSwap_29 (by decide) (fun h_2 => ?_) (fun h_2 => ?_)
    · have hd := ite_t hd h_2
      refine lv_iconst (v := 0) hx hb d_Mo_canSwap_38 (by decide) ?_
      obtain rfl := Option.some.inj hd
      exact retZ hx hb hr hlk hK hP hD hS d_Mo_canSwap_39 rfl (by decide +kernel)
    · have hd := ite_f hd h_2
      refine lv_iload_n hx hb d_Mo_canSwap_32 rfl (lv_at hl 1 rfl) ?_
      refine lv_iload hx hb d_Mo_canSwap_33 (lv_at hl 0 rfl) ?_
      refine lv_icmp_ne (tgt := 40) hx hb d_Mo_canSwap_35 (by decide) (fun h_3 => ?_) (fun h_3 => ?_)
      · have hd := ite_f hd h_3
        refine lv_aload_n hx hb d_Mo_canSwap_40 rfl (lv_at hl 2 rfl) ?_
        refine va_get (D := D) (ci := 1) (v := .ref (a 1)) (C := R_Mo) (T := F_Mo) (N := 26) hx hb hg i_Mo hown hK hP 0 rfl rfl 1 (by decide) (hg _ g_993) (fun _ h9 => h9) rfl d_Mo_canSwap_41 ?_
        refine lv_bipush (v := 58) hx hb d_Mo_canSwap_44 (by decide) ?_
        refine lv_iload_n hx hb d_Mo_canSwap_46 rfl (lv_at hl 4 rfl) ?_
        refine lv_iadd hx hb d_Mo_canSwap_47 ?_
        obtain ⟨h_19, hd⟩ := ite_s hd
        refine ialdK hx hb hK hP 1 0 rfl rfl (inb_t h_19) rfl d_Mo_canSwap_48 ?_
        refine lv_aload_n hx hb d_Mo_canSwap_49 rfl (lv_at hl 2 rfl) ?_
        refine va_get (D := D) (ci := 1) (v := .ref (a 1)) (C := R_Mo) (T := F_Mo) (N := 26) hx hb hg i_Mo hown hK hP 0 rfl rfl 1 (by decide) (hg _ g_993) (fun _ h9 => h9) rfl d_Mo_canSwap_50 ?_
        refine lv_bipush (v := 58) hx hb d_Mo_canSwap_53 (by decide) ?_
        refine lv_iload_n hx hb d_Mo_canSwap_55 rfl (lv_at hl 3 rfl) ?_
        refine lv_iadd hx hb d_Mo_canSwap_56 ?_
        obtain ⟨h_18, hd⟩ := ite_s hd
        refine ialdK hx hb hK hP 1 0 rfl rfl (inb_t h_18) rfl d_Mo_canSwap_57 ?_
        refine lv_isub hx hb d_Mo_canSwap_58 ?_
        refine lv_istore (lv' := [(5, .int (((q_Mo_s z) (58 + x2).toNatClampNeg) - ((q_Mo_s z) (58 + x1).toNatClampNeg))), (4, .int ((q_Mo_s z) (65 + x2).toNatClampNeg)), (3, .int ((q_Mo_s z) (65 + x1).toNatClampNeg)), (0, .ref (a 0)), (1, .int x1), (2, .int x2)]) hx hb d_Mo_canSwap_59 hl (by decide) rfl (fun ls hl => ?_)
        refine lv_aload_n hx hb d_Mo_canSwap_61 rfl (lv_at hl 3 rfl) ?_
        refine va_get (D := D) (ci := 1) (v := .ref (a 6)) (C := R_Mo) (T := F_Mo) (N := 26) hx hb hg i_Mo hown hK hP 0 rfl rfl 12 (by decide) (hg _ g_1004) (fun _ h9 => h9) rfl d_Mo_canSwap_62 ?_
        refine lv_bipush (v := 7) hx hb d_Mo_canSwap_65 (by decide) ?_
        refine lv_iload_n hx hb d_Mo_canSwap_67 rfl (lv_at hl 2 rfl) ?_
        refine lv_imul hx hb d_Mo_canSwap_68 ?_
        refine lv_iload_n hx hb d_Mo_canSwap_69 rfl (lv_at hl 5 rfl) ?_
        refine lv_iadd hx hb d_Mo_canSwap_70 ?_
        obtain ⟨h_17, hd⟩ := ite_s hd
        refine ialdK hx hb hK hP 6 0 rfl rfl (inb_t h_17) rfl d_Mo_canSwap_71 ?_
        refine lv_aload_n hx hb d_Mo_canSwap_72 rfl (lv_at hl 3 rfl) ?_
        refine va_get (D := D) (ci := 1) (v := .ref (a 6)) (C := R_Mo) (T := F_Mo) (N := 26) hx hb hg i_Mo hown hK hP 0 rfl rfl 12 (by decide) (hg _ g_1004) (fun _ h9 => h9) rfl d_Mo_canSwap_73 ?_
        refine lv_bipush (v := 7) hx hb d_Mo_canSwap_76 (by decide) ?_
        refine lv_iload_n hx hb d_Mo_canSwap_78 rfl (lv_at hl 2 rfl) ?_
        refine lv_imul hx hb d_Mo_canSwap_79 ?_
        refine lv_iload_n hx hb d_Mo_canSwap_80 rfl (lv_at hl 4 rfl) ?_
        refine lv_iadd hx hb d_Mo_canSwap_81 ?_
        obtain ⟨h_16, hd⟩ := ite_s hd
        refine ialdK hx hb hK hP 6 0 rfl rfl (inb_t h_16) rfl d_Mo_canSwap_82 ?_
        refine lv_icmp_le (tgt := 117) hx hb d_Mo_canSwap_83 (by decide) (fun h_4 => ?_) (fun h_4 => ?_)
        · have hd := ite_t hd h_4
          refine lv_iconst (v := 0) hx hb d_Mo_canSwap_117 (by decide) ?_
          refine lv_istore (lv' := [(6, .int 0), (5, .int (((q_Mo_s z) (58 + x2).toNatClampNeg) - ((q_Mo_s z) (58 + x1).toNatClampNeg))), (4, .int ((q_Mo_s z) (65 + x2).toNatClampNeg)), (3, .int ((q_Mo_s z) (65 + x1).toNatClampNeg)), (0, .ref (a 0)), (1, .int x1), (2, .int x2)]) hx hb d_Mo_canSwap_118 hl (by decide) rfl (fun ls hl => ?_)
          refine lv_iload hx hb d_Mo_canSwap_120 (lv_at hl 0 rfl) ?_
          refine lv_if_eq (tgt := 165) hx hb d_Mo_canSwap_122 (by decide) (fun _ => ?_) (fun h9 => absurd (by decide) h9)
          refine lv_iconst (v := 0) hx hb d_Mo_canSwap_165 (by decide) ?_
          obtain rfl := Option.some.inj hd
          exact retZ hx hb hr hlk hK hP hD hS d_Mo_canSwap_166 rfl (by decide +kernel)
        · have hd := ite_f hd h_4
          refine lv_aload_n hx hb d_Mo_canSwap_86 rfl (lv_at hl 3 rfl) ?_
          refine va_get (D := D) (ci := 1) (v := .ref (a 6)) (C := R_Mo) (T := F_Mo) (N := 26) hx hb hg i_Mo hown hK hP 0 rfl rfl 12 (by decide) (hg _ g_1004) (fun _ h9 => h9) rfl d_Mo_canSwap_87 ?_
          refine lv_bipush (v := 7) hx hb d_Mo_canSwap_90 (by decide) ?_
          refine lv_iload hx hb d_Mo_canSwap_92 (lv_at hl 1 rfl) ?_
          refine lv_imul hx hb d_Mo_canSwap_94 ?_
          refine lv_iload_n hx hb d_Mo_canSwap_95 rfl (lv_at hl 4 rfl) ?_
          refine lv_iadd hx hb d_Mo_canSwap_96 ?_
          obtain ⟨h_15, hd⟩ := ite_s hd
          refine ialdK hx hb hK hP 6 0 rfl rfl (inb_t h_15) rfl d_Mo_canSwap_97 ?_
          refine lv_aload_n hx hb d_Mo_canSwap_98 rfl (lv_at hl 3 rfl) ?_
          refine va_get (D := D) (ci := 1) (v := .ref (a 6)) (C := R_Mo) (T := F_Mo) (N := 26) hx hb hg i_Mo hown hK hP 0 rfl rfl 12 (by decide) (hg _ g_1004) (fun _ h9 => h9) rfl d_Mo_canSwap_99 ?_
          refine lv_bipush (v := 7) hx hb d_Mo_canSwap_102 (by decide) ?_
          refine lv_iload hx hb d_Mo_canSwap_104 (lv_at hl 1 rfl) ?_
          refine lv_imul hx hb d_Mo_canSwap_106 ?_
          refine lv_iload_n hx hb d_Mo_canSwap_107 rfl (lv_at hl 5 rfl) ?_
          refine lv_iadd hx hb d_Mo_canSwap_108 ?_
          obtain ⟨h_14, hd⟩ := ite_s hd
          refine ialdK hx hb hK hP 6 0 rfl rfl (inb_t h_14) rfl d_Mo_canSwap_109 ?_
          refine lv_icmp_le (tgt := 117) hx hb d_Mo_canSwap_110 (by decide) (fun h_5 => ?_) (fun h_5 => ?_)
          · have hd := ite_t hd h_5
            refine lv_iconst (v := 0) hx hb d_Mo_canSwap_117 (by decide) ?_
            refine lv_istore (lv' := [(6, .int 0), (5, .int (((q_Mo_s z) (58 + x2).toNatClampNeg) - ((q_Mo_s z) (58 + x1).toNatClampNeg))), (4, .int ((q_Mo_s z) (65 + x2).toNatClampNeg)), (3, .int ((q_Mo_s z) (65 + x1).toNatClampNeg)), (0, .ref (a 0)), (1, .int x1), (2, .int x2)]) hx hb d_Mo_canSwap_118 hl (by decide) rfl (fun ls hl => ?_)
            refine lv_iload hx hb d_Mo_canSwap_120 (lv_at hl 0 rfl) ?_
            refine lv_if_eq (tgt := 165) hx hb d_Mo_canSwap_122 (by decide) (fun _ => ?_) (fun h9 => absurd (by decide) h9)
            refine lv_iconst (v := 0) hx hb d_Mo_canSwap_165 (by decide) ?_
            obtain rfl := Option.some.inj hd
            exact retZ hx hb hr hlk hK hP hD hS d_Mo_canSwap_166 rfl (by decide +kernel)
          · have hd := ite_f hd h_5
            refine lv_iconst (v := 1) hx hb d_Mo_canSwap_113 (by decide) ?_
            refine lv_goto (tgt := 118) hx hb d_Mo_canSwap_114 (by decide) ?_
            refine lv_istore (lv' := [(6, .int 1), (5, .int (((q_Mo_s z) (58 + x2).toNatClampNeg) - ((q_Mo_s z) (58 + x1).toNatClampNeg))), (4, .int ((q_Mo_s z) (65 + x2).toNatClampNeg)), (3, .int ((q_Mo_s z) (65 + x1).toNatClampNeg)), (0, .ref (a 0)), (1, .int x1), (2, .int x2)]) hx hb d_Mo_canSwap_118 hl (by decide) rfl (fun ls hl => ?_)
            refine lv_iload hx hb d_Mo_canSwap_120 (lv_at hl 0 rfl) ?_
            refine lv_if_eq (tgt := 165) hx hb d_Mo_canSwap_122 (by decide) (fun h9 => absurd h9 (by decide)) (fun _ => ?_)
            refine lv_aload_n hx hb d_Mo_canSwap_125 rfl (lv_at hl 4 rfl) ?_
            refine lv_iload_n hx hb d_Mo_canSwap_126 rfl (lv_at hl 3 rfl) ?_
            obtain ⟨v_6, e_7, hd⟩ := bind_s hd
            refine callVI (ws' := ws_Mo g a z) (rest := []) (As := [.int ((q_Mo_s z) (65 + x1).toNatClampNeg)]) hx hb hml hown hg hK hP hD hS hA hCs hl.1 (c_Mo_loadOf l D g a ((q_Mo_s z) (65 + x1).toNatClampNeg) z _ e_7) o_Mo_loadOf g_1163 (ci := 1) (q0 := 0) rfl rfl (List.range' 0 12) (segC1 rfl rfl) (by decide) rfl (segP1 rfl rfl) rfl rfl (Nat.le_of_ble_eq_true rfl) ⟨rfl, rfl, Nat.le_of_ble_eq_true rfl, Nat.le_of_ble_eq_true rfl⟩ d_Mo_canSwap_127 (fun H locs hP hD hS => ?_)
            refine lv_iload hx hb d_Mo_canSwap_130 (lv_at hl 1 rfl) ?_
            refine lv_iadd hx hb d_Mo_canSwap_132 ?_
            refine lv_aload_n hx hb d_Mo_canSwap_133 rfl (lv_at hl 4 rfl) ?_
            refine va_get (D := D) (ci := 1) (v := .ref (a 7)) (C := R_Mo) (T := F_Mo) (N := 26) hx hb hg i_Mo hown hK hP 0 rfl rfl 13 (by decide) (hg _ g_1005) (fun _ h9 => h9) rfl d_Mo_canSwap_134 ?_
            refine lv_iload_n hx hb d_Mo_canSwap_137 rfl (lv_at hl 3 rfl) ?_
            obtain ⟨h_13, hd⟩ := ite_s hd
            refine ialdK hx hb hK hP 7 0 rfl rfl (inb_t h_13) rfl d_Mo_canSwap_138 ?_
            refine lv_icmp_gt (tgt := 165) hx hb d_Mo_canSwap_139 (by decide) (fun h_8 => ?_) (fun h_8 => ?_)
            · have hd := ite_t hd h_8
              refine lv_iconst (v := 0) hx hb d_Mo_canSwap_165 (by decide) ?_
              obtain rfl := Option.some.inj hd
              exact retZ hx hb hr hlk hK hP hD hS d_Mo_canSwap_166 rfl (by decide +kernel)
            · have hd := ite_f hd h_8
              refine lv_aload_n hx hb d_Mo_canSwap_142 rfl (lv_at hl 4 rfl) ?_
              refine lv_iload hx hb d_Mo_canSwap_143 (lv_at hl 2 rfl) ?_
              obtain ⟨v_9, e_10, hd⟩ := bind_s hd
              refine callVI (ws' := ws_Mo g a z) (rest := []) (As := [.int ((q_Mo_s z) (65 + x2).toNatClampNeg)]) hx hb hml hown hg hK hP hD hS hA hCs hl.1 (c_Mo_loadOf l D g a ((q_Mo_s z) (65 + x2).toNatClampNeg) z _ e_10) o_Mo_loadOf g_1163 (ci := 1) (q0 := 0) rfl rfl (List.range' 0 12) (segC1 rfl rfl) (by decide) rfl (segP1 rfl rfl) rfl rfl (Nat.le_of_ble_eq_true rfl) ⟨rfl, rfl, Nat.le_of_ble_eq_true rfl, Nat.le_of_ble_eq_true rfl⟩ d_Mo_canSwap_145 (fun H locs hP hD hS => ?_)
              refine lv_iload hx hb d_Mo_canSwap_148 (lv_at hl 1 rfl) ?_
              refine lv_isub hx hb d_Mo_canSwap_150 ?_
              refine lv_aload_n hx hb d_Mo_canSwap_151 rfl (lv_at hl 4 rfl) ?_
              refine va_get (D := D) (ci := 1) (v := .ref (a 7)) (C := R_Mo) (T := F_Mo) (N := 26) hx hb hg i_Mo hown hK hP 0 rfl rfl 13 (by decide) (hg _ g_1005) (fun _ h9 => h9) rfl d_Mo_canSwap_152 ?_
              refine lv_iload hx hb d_Mo_canSwap_155 (lv_at hl 2 rfl) ?_
              obtain ⟨h_12, hd⟩ := ite_s hd
              refine ialdK hx hb hK hP 7 0 rfl rfl (inb_t h_12) rfl d_Mo_canSwap_157 ?_
              refine lv_icmp_gt (tgt := 165) hx hb d_Mo_canSwap_158 (by decide) (fun h_11 => ?_) (fun h_11 => ?_)
              · have hd := ite_t hd h_11
                refine lv_iconst (v := 0) hx hb d_Mo_canSwap_165 (by decide) ?_
                obtain rfl := Option.some.inj hd
                exact retZ hx hb hr hlk hK hP hD hS d_Mo_canSwap_166 rfl (by decide +kernel)
              · have hd := ite_f hd h_11
                refine lv_iconst (v := 1) hx hb d_Mo_canSwap_161 (by decide) ?_
                refine lv_goto (tgt := 166) hx hb d_Mo_canSwap_162 (by decide) ?_
                obtain rfl := Option.some.inj hd
                exact retZ hx hb hr hlk hK hP hD hS d_Mo_canSwap_166 rfl (by decide +kernel)
      · have hd := ite_t hd h_3
        refine lv_iconst (v := 0) hx hb d_Mo_canSwap_38 (by decide) ?_
        obtain rfl := Option.some.inj hd
        exact retZ hx hb hr hlk hK hP hD hS d_Mo_canSwap_39 rfl (by decide +kernel)
-- OwnsLiftModel.firstSwap()I
def B_Mo_firstSwap_L24 (x2_f24 : Int32) (k24_77 : Int32 → T_Mo → Option (Int32 × T_Mo)) (self24 : Int32 → Int32 → T_Mo → Option (Int32 × T_Mo)) (x1_24 : Int32) (x3_24 : Int32) (z_24 : T_Mo) : Option (Int32 × T_Mo) :=
  if ((q_Mo_s z_24) 1) ≤ x3_24 then (k24_77 x1_24 z_24) else ((d_Mo_canSwap x2_f24 x3_24 z_24).bind fun v_3 => if v_3 = 0 then (self24 x1_24 (x3_24 + 1) z_24) else (if (q_Mo_swaps z_24) = 0 then (self24 ((10 * x2_f24) + x3_24) (x3_24 + 1) (u_Mo_swaps z_24 ((q_Mo_swaps z_24) + 1))) else (self24 x1_24 (x3_24 + 1) (u_Mo_swaps z_24 ((q_Mo_swaps z_24) + 1)))))
def d_Mo_firstSwap_L24 (x2_f24 : Int32) (k24_77 : Int32 → T_Mo → Option (Int32 × T_Mo)) (n : Nat) : Int32 → Int32 → T_Mo → Option (Int32 × T_Mo) := recN (fun _ _ _ => none) (fun self => B_Mo_firstSwap_L24 x2_f24 k24_77 self) n
def B_Mo_firstSwap_L10 (self10 : Int32 → Int32 → T_Mo → Option (Int32 × T_Mo)) (x1_10 : Int32) (x2_10 : Int32) (z_10 : T_Mo) : Option (Int32 × T_Mo) :=
  if ((q_Mo_s z_10) 1) ≤ x2_10 then (some (x1_10, z_10)) else (d_Mo_firstSwap_L24 x2_10 (fun x1_24 z_24 => self10 x1_24 (x2_10 + 1) z_24) 1000 x1_10 (x2_10 + 1) z_10)
def d_Mo_firstSwap_L10 (n : Nat) : Int32 → Int32 → T_Mo → Option (Int32 × T_Mo) := recN (fun _ _ _ => none) (fun self => B_Mo_firstSwap_L10 self) n
def d_Mo_firstSwap (z : T_Mo) : Option (Int32 × T_Mo) :=
  d_Mo_firstSwap_L10  1000 (-5) 0 (u_Mo_swaps z 0)
theorem d_Mo_firstSwap_0 : decode b_Mo_firstSwap 0 = .ok (.aload_n 0, 1) := by decide +kernel
theorem d_Mo_firstSwap_1 : decode b_Mo_firstSwap 1 = .ok (.iconst 0, 1) := by decide +kernel
theorem d_Mo_firstSwap_2 : decode b_Mo_firstSwap 2 = .ok (.putfield 219, 3) := by decide +kernel
theorem d_Mo_firstSwap_5 : decode b_Mo_firstSwap 5 = .ok (.bipush (-5), 2) := by decide +kernel
theorem d_Mo_firstSwap_7 : decode b_Mo_firstSwap 7 = .ok (.istore_n 1, 1) := by decide +kernel
theorem d_Mo_firstSwap_8 : decode b_Mo_firstSwap 8 = .ok (.iconst 0, 1) := by decide +kernel
theorem d_Mo_firstSwap_9 : decode b_Mo_firstSwap 9 = .ok (.istore_n 2, 1) := by decide +kernel
theorem d_Mo_firstSwap_10 : decode b_Mo_firstSwap 10 = .ok (.iload_n 2, 1) := by decide +kernel
theorem d_Mo_firstSwap_11 : decode b_Mo_firstSwap 11 = .ok (.aload_n 0, 1) := by decide +kernel
theorem d_Mo_firstSwap_12 : decode b_Mo_firstSwap 12 = .ok (.getfield 9, 3) := by decide +kernel
theorem d_Mo_firstSwap_15 : decode b_Mo_firstSwap 15 = .ok (.iconst 1, 1) := by decide +kernel
theorem d_Mo_firstSwap_16 : decode b_Mo_firstSwap 16 = .ok (.iaload, 1) := by decide +kernel
theorem d_Mo_firstSwap_17 : decode b_Mo_firstSwap 17 = .ok (.if_icmp .ge 66, 3) := by decide +kernel
theorem d_Mo_firstSwap_20 : decode b_Mo_firstSwap 20 = .ok (.iload_n 2, 1) := by decide +kernel
theorem d_Mo_firstSwap_21 : decode b_Mo_firstSwap 21 = .ok (.iconst 1, 1) := by decide +kernel
theorem d_Mo_firstSwap_22 : decode b_Mo_firstSwap 22 = .ok (.iadd, 1) := by decide +kernel
theorem d_Mo_firstSwap_23 : decode b_Mo_firstSwap 23 = .ok (.istore_n 3, 1) := by decide +kernel
theorem d_Mo_firstSwap_24 : decode b_Mo_firstSwap 24 = .ok (.iload_n 3, 1) := by decide +kernel
theorem d_Mo_firstSwap_25 : decode b_Mo_firstSwap 25 = .ok (.aload_n 0, 1) := by decide +kernel
theorem d_Mo_firstSwap_26 : decode b_Mo_firstSwap 26 = .ok (.getfield 9, 3) := by decide +kernel
theorem d_Mo_firstSwap_29 : decode b_Mo_firstSwap 29 = .ok (.iconst 1, 1) := by decide +kernel
theorem d_Mo_firstSwap_30 : decode b_Mo_firstSwap 30 = .ok (.iaload, 1) := by decide +kernel
theorem d_Mo_firstSwap_31 : decode b_Mo_firstSwap 31 = .ok (.if_icmp .ge 46, 3) := by decide +kernel
theorem d_Mo_firstSwap_34 : decode b_Mo_firstSwap 34 = .ok (.aload_n 0, 1) := by decide +kernel
theorem d_Mo_firstSwap_35 : decode b_Mo_firstSwap 35 = .ok (.iload_n 2, 1) := by decide +kernel
theorem d_Mo_firstSwap_36 : decode b_Mo_firstSwap 36 = .ok (.iload_n 3, 1) := by decide +kernel
theorem d_Mo_firstSwap_37 : decode b_Mo_firstSwap 37 = .ok (.invokevirtual 222, 3) := by decide +kernel
theorem d_Mo_firstSwap_40 : decode b_Mo_firstSwap 40 = .ok (.ifCond .eq 31, 3) := by decide +kernel
theorem d_Mo_firstSwap_43 : decode b_Mo_firstSwap 43 = .ok (.aload_n 0, 1) := by decide +kernel
theorem d_Mo_firstSwap_44 : decode b_Mo_firstSwap 44 = .ok (.getfield 219, 3) := by decide +kernel
theorem d_Mo_firstSwap_47 : decode b_Mo_firstSwap 47 = .ok (.ifCond .ne 12, 3) := by decide +kernel
theorem d_Mo_firstSwap_50 : decode b_Mo_firstSwap 50 = .ok (.bipush 10, 2) := by decide +kernel
theorem d_Mo_firstSwap_52 : decode b_Mo_firstSwap 52 = .ok (.iload_n 2, 1) := by decide +kernel
theorem d_Mo_firstSwap_53 : decode b_Mo_firstSwap 53 = .ok (.imul, 1) := by decide +kernel
theorem d_Mo_firstSwap_54 : decode b_Mo_firstSwap 54 = .ok (.iload_n 3, 1) := by decide +kernel
theorem d_Mo_firstSwap_55 : decode b_Mo_firstSwap 55 = .ok (.iadd, 1) := by decide +kernel
theorem d_Mo_firstSwap_56 : decode b_Mo_firstSwap 56 = .ok (.goto 4, 3) := by decide +kernel
theorem d_Mo_firstSwap_59 : decode b_Mo_firstSwap 59 = .ok (.iload_n 1, 1) := by decide +kernel
theorem d_Mo_firstSwap_60 : decode b_Mo_firstSwap 60 = .ok (.istore_n 1, 1) := by decide +kernel
theorem d_Mo_firstSwap_61 : decode b_Mo_firstSwap 61 = .ok (.aload_n 0, 1) := by decide +kernel
theorem d_Mo_firstSwap_62 : decode b_Mo_firstSwap 62 = .ok (.dup, 1) := by decide +kernel
theorem d_Mo_firstSwap_63 : decode b_Mo_firstSwap 63 = .ok (.getfield 219, 3) := by decide +kernel
theorem d_Mo_firstSwap_66 : decode b_Mo_firstSwap 66 = .ok (.iconst 1, 1) := by decide +kernel
theorem d_Mo_firstSwap_67 : decode b_Mo_firstSwap 67 = .ok (.iadd, 1) := by decide +kernel
theorem d_Mo_firstSwap_68 : decode b_Mo_firstSwap 68 = .ok (.putfield 219, 3) := by decide +kernel
theorem d_Mo_firstSwap_71 : decode b_Mo_firstSwap 71 = .ok (.iinc 3 1, 3) := by decide +kernel
theorem d_Mo_firstSwap_74 : decode b_Mo_firstSwap 74 = .ok (.goto (-50), 3) := by decide +kernel
theorem d_Mo_firstSwap_77 : decode b_Mo_firstSwap 77 = .ok (.iinc 2 1, 3) := by decide +kernel
theorem d_Mo_firstSwap_80 : decode b_Mo_firstSwap 80 = .ok (.goto (-70), 3) := by decide +kernel
theorem d_Mo_firstSwap_83 : decode b_Mo_firstSwap 83 = .ok (.iload_n 1, 1) := by decide +kernel
theorem d_Mo_firstSwap_84 : decode b_Mo_firstSwap 84 = .ok (.ireturn, 1) := by decide +kernel
theorem o_Mo_firstSwap : OkV y_Mo_firstSwap "OwnsLiftModel" b_Mo_firstSwap 4 (some .int) 0 := ⟨⟨rfl, by decide +kernel, by decide +kernel, by decide +kernel⟩, g_1304, g_59, g_81, g_1305⟩
set_option maxHeartbeats 4000000 in
set_option maxRecDepth 100000 in
theorem c_Mo_firstSwap (l : Launch) (D : va_G) (g : Nat → ClassId) (a : Nat → Nat) (z : T_Mo) (v : Int32 × T_Mo) (h : d_Mo_firstSwap z = some v) :
    MI l y_Mo_firstSwap b_Mo_firstSwap 4 .int ({ frames := 2, cells := 0, slots := 0, locals := 49 } : Room) D g [.ref (a 0)] (ws_Mo g a z) (v.1) (ws_Mo g a v.2) := by
  have hd := h
  unfold d_Mo_firstSwap at hd
  refine enterI rfl (Nat.le_of_ble_eq_true rfl) (fun p e s m below meth c A ls hx hb hml hr hown hg hlk hK hA hP hD hS hCs hl => ?_)
  have hown : s.vm.findClass "OwnsLiftModel" = some m.cls := hown
  have hl : lv_has ls 4 [(0, .ref (a 0))] := hl
  show GI p l e s m ({ frames := 2, cells := 0, slots := 0, locals := 49 } : Room) ([.ref (a 0)] : List Value).toArray below meth c A D g (ws_Mo g a v.2) (v.1) s.heap [] (F0 m 0 ls [])
  refine lv_aload_n hx hb d_Mo_firstSwap_0 rfl (lv_at hl 0 rfl) ?_
  refine lv_iconst (v := 0) hx hb d_Mo_firstSwap_1 (by decide) ?_
  refine va_put (D := D) (ci := 1) (v := .int 0) (ty := .int) (C := R_Mo) (T := F_Mo) (N := 26) hx hb hg i_Mo t_Mo t_Mo_ok n_Mo hown hK hP hD hS 0 rfl rfl 20 (by decide) (hg _ g_1012) (fun _ h9 => h9) rfl (by decide +kernel) rfl rfl (Nat.le_of_ble_eq_true rfl) d_Mo_firstSwap_2 (fun H locs hP hD hS => ?_)
  have hP : va_P D classes (ws_Mo g a (u_Mo_swaps z 0)) H := hP
  have hD : va_D A (ws_Mo g a (u_Mo_swaps z 0)) := hD
  refine lv_bipush (v := (-5)) hx hb d_Mo_firstSwap_5 (by decide) ?_
  refine lv_istore_n (lv' := [(1, .int (-5)), (0, .ref (a 0))]) hx hb d_Mo_firstSwap_7 rfl hl (by decide) rfl (fun ls hl => ?_)
  refine lv_iconst (v := 0) hx hb d_Mo_firstSwap_8 (by decide) ?_
  refine lv_istore_n (lv' := [(2, .int 0), (1, .int (-5)), (0, .ref (a 0))]) hx hb d_Mo_firstSwap_9 rfl hl (by decide) rfl (fun ls hl => ?_)
  have lp10 : ∀ (n : Nat) (x1_10 : Int32) (x2_10 : Int32) (z_10 : T_Mo) (H : Heap) (locs : List Loc) (ls : Array Slot), va_P D classes (ws_Mo g a z_10) H → va_D A (ws_Mo g a z_10) → va_S A s.heap H locs → lv_has ls 4 [(0, .ref (a 0)), (1, .int x1_10), (2, .int x2_10)] → d_Mo_firstSwap_L10 n x1_10 x2_10 z_10 = some v → GI p l e s m ({ frames := 2, cells := 0, slots := 0, locals := 49 } : Room) ([.ref (a 0)] : List Value).toArray below meth c A D g (ws_Mo g a v.2) (v.1) H locs (F0 m 10 ls []) := by
    intro n
    induction n with
    | zero =>
      intro  x1_10 x2_10 z_10 H locs ls hP hD hS hl hd
      have hd : none = some v := hd
      cases hd
    | succ n ih10 =>
      intro  x1_10 x2_10 z_10 H locs ls hP hD hS hl hd
      have hd : B_Mo_firstSwap_L10 (d_Mo_firstSwap_L10 n) x1_10 x2_10 z_10 = some v := hd
      generalize d_Mo_firstSwap_L10 n = self10 at ih10 hd
      unfold B_Mo_firstSwap_L10 at hd
      refine lv_iload_n hx hb d_Mo_firstSwap_10 rfl (lv_at hl 2 rfl) ?_
      refine lv_aload_n hx hb d_Mo_firstSwap_11 rfl (lv_at hl 0 rfl) ?_
      refine va_get (D := D) (ci := 1) (v := .ref (a 1)) (C := R_Mo) (T := F_Mo) (N := 26) hx hb hg i_Mo hown hK hP 0 rfl rfl 1 (by decide) (hg _ g_993) (fun _ h9 => h9) rfl d_Mo_firstSwap_12 ?_
      refine lv_iconst (v := 1) hx hb d_Mo_firstSwap_15 (by decide) ?_
      refine ialdK hx hb hK hP 1 0 rfl rfl (inb_t (by decide +kernel)) (k := 1) (by decide +kernel) d_Mo_firstSwap_16 ?_
      refine lv_icmp_ge (tgt := 83) hx hb d_Mo_firstSwap_17 (by decide) (fun h_1 => ?_) (fun h_1 => ?_)
      · have hd := ite_t hd h_1
        refine lv_iload_n hx hb d_Mo_firstSwap_83 rfl (lv_at hl 1 rfl) ?_
        obtain rfl := Option.some.inj hd
        exact retI hx hb hr hlk hK hP hD hS d_Mo_firstSwap_84 rfl
      · have hd := ite_f hd h_1
        refine lv_iload_n hx hb d_Mo_firstSwap_20 rfl (lv_at hl 2 rfl) ?_
        refine lv_iconst (v := 1) hx hb d_Mo_firstSwap_21 (by decide) ?_
        refine lv_iadd hx hb d_Mo_firstSwap_22 ?_
        refine lv_istore_n (lv' := [(3, .int (x2_10 + 1)), (0, .ref (a 0)), (1, .int x1_10), (2, .int x2_10)]) hx hb d_Mo_firstSwap_23 rfl hl (by decide) rfl (fun ls hl => ?_)
        have ex24_77 : ∀ (x1_24 : Int32) (z_24 : T_Mo) (H : Heap) (locs : List Loc) (ls : Array Slot), va_P D classes (ws_Mo g a z_24) H → va_D A (ws_Mo g a z_24) → va_S A s.heap H locs → lv_has ls 4 [(0, .ref (a 0)), (1, .int x1_24), (2, .int x2_10)] → (self10 x1_24 (x2_10 + 1) z_24) = some v → GI p l e s m ({ frames := 2, cells := 0, slots := 0, locals := 49 } : Room) ([.ref (a 0)] : List Value).toArray below meth c A D g (ws_Mo g a v.2) (v.1) H locs (F0 m 77 ls []) := by
          intro x1_24 z_24 H locs ls hP hD hS hl hd
          refine lv_iinc (v := x2_10 + 1) (lv' := [(2, .int (x2_10 + 1)), (0, .ref (a 0)), (1, .int x1_24)]) hx hb d_Mo_firstSwap_77 hl (k := 2) rfl (by rfl) (by decide) rfl (fun ls hl => ?_)
          refine lv_goto (tgt := 10) hx hb d_Mo_firstSwap_80 (by decide) ?_
          exact ih10 x1_24 (x2_10 + 1) z_24 _ _ _ hP hD hS (lv_sub hl [1, 2, 0] rfl) hd
        have lp24 : ∀ (x2_f24 : Int32) (k24_77 : Int32 → T_Mo → Option (Int32 × T_Mo)) (hk24_77 : ∀ (x1_24 : Int32) (z_24 : T_Mo) (H : Heap) (locs : List Loc) (ls : Array Slot), va_P D classes (ws_Mo g a z_24) H → va_D A (ws_Mo g a z_24) → va_S A s.heap H locs → lv_has ls 4 [(0, .ref (a 0)), (1, .int x1_24), (2, .int x2_f24)] → k24_77 x1_24 z_24 = some v → GI p l e s m ({ frames := 2, cells := 0, slots := 0, locals := 49 } : Room) ([.ref (a 0)] : List Value).toArray below meth c A D g (ws_Mo g a v.2) (v.1) H locs (F0 m 77 ls [])) (n : Nat) (x1_24 : Int32) (x3_24 : Int32) (z_24 : T_Mo) (H : Heap) (locs : List Loc) (ls : Array Slot), va_P D classes (ws_Mo g a z_24) H → va_D A (ws_Mo g a z_24) → va_S A s.heap H locs → lv_has ls 4 [(0, .ref (a 0)), (1, .int x1_24), (2, .int x2_f24), (3, .int x3_24)] → d_Mo_firstSwap_L24 x2_f24 k24_77 n x1_24 x3_24 z_24 = some v → GI p l e s m ({ frames := 2, cells := 0, slots := 0, locals := 49 } : Room) ([.ref (a 0)] : List Value).toArray below meth c A D g (ws_Mo g a v.2) (v.1) H locs (F0 m 24 ls []) := by
          intro x2_f24 k24_77 hk24_77 n
          induction n with
          | zero =>
            intro  x1_24 x3_24 z_24 H locs ls hP hD hS hl hd
            have hd : none = some v := hd
            cases hd
          | succ n ih24 =>
            intro  x1_24 x3_24 z_24 H locs ls hP hD hS hl hd
            have hd : B_Mo_firstSwap_L24 x2_f24 k24_77 (d_Mo_firstSwap_L24 x2_f24 k24_77 n) x1_24 x3_24 z_24 = some v := hd
            generalize d_Mo_firstSwap_L24 x2_f24 k24_77 n = self24 at ih24 hd
            unfold B_Mo_firstSwap_L24 at hd
            refine lv_iload_n hx hb d_Mo_firstSwap_24 rfl (lv_at hl 3 rfl) ?_
            refine lv_aload_n hx hb d_Mo_firstSwap_25 rfl (lv_at hl 0 rfl) ?_
            refine va_get (D := D) (ci := 1) (v := .ref (a 1)) (C := R_Mo) (T := F_Mo) (N := 26) hx hb hg i_Mo hown hK hP 0 rfl rfl 1 (by decide) (hg _ g_993) (fun _ h9 => h9) rfl d_Mo_firstSwap_26 ?_
            refine lv_iconst (v := 1) hx hb d_Mo_firstSwap_29 (by decide) ?_
            refine ialdK hx hb hK hP 1 0 rfl rfl (inb_t (by decide +kernel)) (k := 1) (by decide +kernel) d_Mo_firstSwap_30 ?_
            refine lv_icmp_ge (tgt := 77) hx hb d_Mo_firstSwap_31 (by decide) (fun h_2 => ?_) (fun h_2 => ?_)
            · have hd := ite_t hd h_2
              exact hk24_77 x1_24 z_24 _ _ _ hP hD hS (lv_sub hl [0, 1, 2] rfl) hd
            · have hd := ite_f hd h_2
              refine lv_aload_n hx hb d_Mo_firstSwap_34 rfl (lv_at hl 0 rfl) ?_
              refine lv_iload_n hx hb d_Mo_firstSwap_35 rfl (lv_at hl 2 rfl) ?_
              refine lv_iload_n hx hb d_Mo_firstSwap_36 rfl (lv_at hl 3 rfl) ?_
              obtain ⟨v_3, e_4, hd⟩ := bind_s hd
              refine callVI (ws' := ws_Mo g a z_24) (rest := []) (As := [.int x2_f24, .int x3_24]) hx hb hml hown hg hK hP hD hS hA hCs hl.1 (c_Mo_canSwap l D g a x2_f24 x3_24 z_24 _ e_4) o_Mo_canSwap g_1306 (ci := 1) (q0 := 0) rfl rfl (List.range' 0 12) (segC1 rfl rfl) (by decide) rfl (segP1 rfl rfl) rfl rfl (Nat.le_of_ble_eq_true rfl) ⟨rfl, rfl, Nat.le_of_ble_eq_true rfl, Nat.le_of_ble_eq_true rfl⟩ d_Mo_firstSwap_37 (fun H locs hP hD hS => ?_)
              refine lv_if_eq (tgt := 71) hx hb d_Mo_firstSwap_40 (by decide) (fun h_5 => ?_) (fun h_5 => ?_)
              · have hd := ite_t hd h_5
                refine lv_iinc (v := x3_24 + 1) (lv' := [(3, .int (x3_24 + 1)), (0, .ref (a 0)), (1, .int x1_24), (2, .int x2_f24)]) hx hb d_Mo_firstSwap_71 hl (k := 3) rfl (by rfl) (by decide) rfl (fun ls hl => ?_)
                refine lv_goto (tgt := 24) hx hb d_Mo_firstSwap_74 (by decide) ?_
                exact ih24 x1_24 (x3_24 + 1) z_24 _ _ _ hP hD hS (lv_sub hl [1, 2, 3, 0] rfl) hd
              · have hd := ite_f hd h_5
                refine lv_aload_n hx hb d_Mo_firstSwap_43 rfl (lv_at hl 0 rfl) ?_
                refine va_get (D := D) (ci := 1) (v := .int (q_Mo_swaps z_24)) (C := R_Mo) (T := F_Mo) (N := 26) hx hb hg i_Mo hown hK hP 0 rfl rfl 20 (by decide) (hg _ g_1012) (fun _ h9 => h9) rfl d_Mo_firstSwap_44 ?_
                refine lv_if_ne (tgt := 59) hx hb d_Mo_firstSwap_47 (by decide) (fun h_6 => ?_) (fun h_6 => ?_)
                · have hd := ite_f hd h_6
                  refine lv_iload_n hx hb d_Mo_firstSwap_59 rfl (lv_at hl 1 rfl) ?_
                  refine lv_istore_n (lv' := [(1, .int x1_24), (0, .ref (a 0)), (2, .int x2_f24), (3, .int x3_24)]) hx hb d_Mo_firstSwap_60 rfl hl (by decide) rfl (fun ls hl => ?_)
                  refine lv_aload_n hx hb d_Mo_firstSwap_61 rfl (lv_at hl 1 rfl) ?_
                  refine lv_dup hx hb d_Mo_firstSwap_62 rfl ?_
                  refine va_get (D := D) (ci := 1) (v := .int (q_Mo_swaps z_24)) (C := R_Mo) (T := F_Mo) (N := 26) hx hb hg i_Mo hown hK hP 0 rfl rfl 20 (by decide) (hg _ g_1012) (fun _ h9 => h9) rfl d_Mo_firstSwap_63 ?_
                  refine lv_iconst (v := 1) hx hb d_Mo_firstSwap_66 (by decide) ?_
                  refine lv_iadd hx hb d_Mo_firstSwap_67 ?_
                  refine va_put (D := D) (ci := 1) (v := .int ((q_Mo_swaps z_24) + 1)) (ty := .int) (C := R_Mo) (T := F_Mo) (N := 26) hx hb hg i_Mo t_Mo t_Mo_ok n_Mo hown hK hP hD hS 0 rfl rfl 20 (by decide) (hg _ g_1012) (fun _ h9 => h9) rfl (by decide +kernel) rfl rfl (Nat.le_of_ble_eq_true rfl) d_Mo_firstSwap_68 (fun H locs hP hD hS => ?_)
                  have hP : va_P D classes (ws_Mo g a (u_Mo_swaps z_24 ((q_Mo_swaps z_24) + 1))) H := hP
                  have hD : va_D A (ws_Mo g a (u_Mo_swaps z_24 ((q_Mo_swaps z_24) + 1))) := hD
                  refine lv_iinc (v := x3_24 + 1) (lv' := [(3, .int (x3_24 + 1)), (1, .int x1_24), (0, .ref (a 0)), (2, .int x2_f24)]) hx hb d_Mo_firstSwap_71 hl (k := 3) rfl (by rfl) (by decide) rfl (fun ls hl => ?_)
                  refine lv_goto (tgt := 24) hx hb d_Mo_firstSwap_74 (by decide) ?_
                  exact ih24 x1_24 (x3_24 + 1) (u_Mo_swaps z_24 ((q_Mo_swaps z_24) + 1)) _ _ _ hP hD hS (lv_sub hl [2, 1, 3, 0] rfl) hd
                · have hd := ite_t hd h_6
                  refine lv_bipush (v := 10) hx hb d_Mo_firstSwap_50 (by decide) ?_
                  refine lv_iload_n hx hb d_Mo_firstSwap_52 rfl (lv_at hl 2 rfl) ?_
                  refine lv_imul hx hb d_Mo_firstSwap_53 ?_
                  refine lv_iload_n hx hb d_Mo_firstSwap_54 rfl (lv_at hl 3 rfl) ?_
                  refine lv_iadd hx hb d_Mo_firstSwap_55 ?_
                  refine lv_goto (tgt := 60) hx hb d_Mo_firstSwap_56 (by decide) ?_
                  refine lv_istore_n (lv' := [(1, .int ((10 * x2_f24) + x3_24)), (0, .ref (a 0)), (2, .int x2_f24), (3, .int x3_24)]) hx hb d_Mo_firstSwap_60 rfl hl (by decide) rfl (fun ls hl => ?_)
                  refine lv_aload_n hx hb d_Mo_firstSwap_61 rfl (lv_at hl 1 rfl) ?_
                  refine lv_dup hx hb d_Mo_firstSwap_62 rfl ?_
                  refine va_get (D := D) (ci := 1) (v := .int (q_Mo_swaps z_24)) (C := R_Mo) (T := F_Mo) (N := 26) hx hb hg i_Mo hown hK hP 0 rfl rfl 20 (by decide) (hg _ g_1012) (fun _ h9 => h9) rfl d_Mo_firstSwap_63 ?_
                  refine lv_iconst (v := 1) hx hb d_Mo_firstSwap_66 (by decide) ?_
                  refine lv_iadd hx hb d_Mo_firstSwap_67 ?_
                  refine va_put (D := D) (ci := 1) (v := .int ((q_Mo_swaps z_24) + 1)) (ty := .int) (C := R_Mo) (T := F_Mo) (N := 26) hx hb hg i_Mo t_Mo t_Mo_ok n_Mo hown hK hP hD hS 0 rfl rfl 20 (by decide) (hg _ g_1012) (fun _ h9 => h9) rfl (by decide +kernel) rfl rfl (Nat.le_of_ble_eq_true rfl) d_Mo_firstSwap_68 (fun H locs hP hD hS => ?_)
                  have hP : va_P D classes (ws_Mo g a (u_Mo_swaps z_24 ((q_Mo_swaps z_24) + 1))) H := hP
                  have hD : va_D A (ws_Mo g a (u_Mo_swaps z_24 ((q_Mo_swaps z_24) + 1))) := hD
                  refine lv_iinc (v := x3_24 + 1) (lv' := [(3, .int (x3_24 + 1)), (1, .int ((10 * x2_f24) + x3_24)), (0, .ref (a 0)), (2, .int x2_f24)]) hx hb d_Mo_firstSwap_71 hl (k := 3) rfl (by rfl) (by decide) rfl (fun ls hl => ?_)
                  refine lv_goto (tgt := 24) hx hb d_Mo_firstSwap_74 (by decide) ?_
                  exact ih24 ((10 * x2_f24) + x3_24) (x3_24 + 1) (u_Mo_swaps z_24 ((q_Mo_swaps z_24) + 1)) _ _ _ hP hD hS (lv_sub hl [2, 1, 3, 0] rfl) hd
        exact lp24 x2_10 _ ex24_77 1000 x1_10 (x2_10 + 1) z_10 _ _ _ hP hD hS (lv_sub hl [1, 2, 3, 0] rfl) hd
  exact lp10 1000 (-5) 0 (u_Mo_swaps z 0) _ _ _ hP hD hS (lv_sub hl [2, 1, 0] rfl) hd
-- OwnsLiftModel.swap(I)I
def d_Mo_swap (x1 : Int32) (z : T_Mo) : Option (Int32 × T_Mo) :=
  (d_Mo_in x1 0 1).bind fun v_1 => if v_1 = 0 then (some ((-1), z)) else ((d_Mo_looksForAll z).bind fun v_4 => (d_Mo_firstSwap v_4).bind fun v_6 => if x1 = 0 then (some ((q_Mo_swaps v_6.2), v_6.2)) else (some (v_6.1, v_6.2)))
theorem d_Mo_swap_0 : decode b_Mo_swap 0 = .ok (.iload_n 1, 1) := by decide +kernel
theorem d_Mo_swap_1 : decode b_Mo_swap 1 = .ok (.iconst 0, 1) := by decide +kernel
theorem d_Mo_swap_2 : decode b_Mo_swap 2 = .ok (.iconst 1, 1) := by decide +kernel
theorem d_Mo_swap_3 : decode b_Mo_swap 3 = .ok (.invokestatic 50, 3) := by decide +kernel
theorem d_Mo_swap_6 : decode b_Mo_swap 6 = .ok (.ifCond .ne 5, 3) := by decide +kernel
theorem d_Mo_swap_9 : decode b_Mo_swap 9 = .ok (.iconst (-1), 1) := by decide +kernel
theorem d_Mo_swap_10 : decode b_Mo_swap 10 = .ok (.ireturn, 1) := by decide +kernel
theorem d_Mo_swap_11 : decode b_Mo_swap 11 = .ok (.aload_n 0, 1) := by decide +kernel
theorem d_Mo_swap_12 : decode b_Mo_swap 12 = .ok (.invokevirtual 178, 3) := by decide +kernel
theorem d_Mo_swap_15 : decode b_Mo_swap 15 = .ok (.aload_n 0, 1) := by decide +kernel
theorem d_Mo_swap_16 : decode b_Mo_swap 16 = .ok (.invokevirtual 226, 3) := by decide +kernel
theorem d_Mo_swap_19 : decode b_Mo_swap 19 = .ok (.istore_n 2, 1) := by decide +kernel
theorem d_Mo_swap_20 : decode b_Mo_swap 20 = .ok (.iload_n 1, 1) := by decide +kernel
theorem d_Mo_swap_21 : decode b_Mo_swap 21 = .ok (.ifCond .ne 10, 3) := by decide +kernel
theorem d_Mo_swap_24 : decode b_Mo_swap 24 = .ok (.aload_n 0, 1) := by decide +kernel
theorem d_Mo_swap_25 : decode b_Mo_swap 25 = .ok (.getfield 219, 3) := by decide +kernel
theorem d_Mo_swap_28 : decode b_Mo_swap 28 = .ok (.goto 4, 3) := by decide +kernel
theorem d_Mo_swap_31 : decode b_Mo_swap 31 = .ok (.iload_n 2, 1) := by decide +kernel
theorem d_Mo_swap_32 : decode b_Mo_swap 32 = .ok (.ireturn, 1) := by decide +kernel
theorem o_Mo_swap : OkV y_Mo_swap "OwnsLiftModel" b_Mo_swap 3 (some .int) 1 := ⟨⟨rfl, by decide +kernel, by decide +kernel, by decide +kernel⟩, g_1299, g_1300, g_81, g_1301⟩
set_option maxHeartbeats 4000000 in
set_option maxRecDepth 100000 in
theorem c_Mo_swap (l : Launch) (D : va_G) (g : Nat → ClassId) (a : Nat → Nat) (x1 : Int32) (z : T_Mo) (v : Int32 × T_Mo) (h : d_Mo_swap x1 z = some v) :
    MI l y_Mo_swap b_Mo_swap 3 .int ({ frames := 4, cells := 0, slots := 0, locals := 97 } : Room) D g [.ref (a 0), .int x1] (ws_Mo g a z) (v.1) (ws_Mo g a v.2) := by
  have hd := h
  unfold d_Mo_swap at hd
  refine enterI rfl (Nat.le_of_ble_eq_true rfl) (fun p e s m below meth c A ls hx hb hml hr hown hg hlk hK hA hP hD hS hCs hl => ?_)
  have hown : s.vm.findClass "OwnsLiftModel" = some m.cls := hown
  have hl : lv_has ls 3 [(0, .ref (a 0)), (1, .int x1)] := hl
  show GI p l e s m ({ frames := 4, cells := 0, slots := 0, locals := 97 } : Room) ([.ref (a 0), .int x1] : List Value).toArray below meth c A D g (ws_Mo g a v.2) (v.1) s.heap [] (F0 m 0 ls [])
  refine lv_iload_n hx hb d_Mo_swap_0 rfl (lv_at hl 1 rfl) ?_
  refine lv_iconst (v := 0) hx hb d_Mo_swap_1 (by decide) ?_
  refine lv_iconst (v := 1) hx hb d_Mo_swap_2 (by decide) ?_
  obtain ⟨v_1, e_2, hd⟩ := bind_s hd
  refine callSI (ws' := ws_Mo g a z) (rest := []) (As := [.int x1, .int 0, .int 1]) hx hb hml hown hg hK hP hD hS hA hCs hl.1 (c_Mo_in l D g  x1 0 1 _ e_2) o_Mo_in g_1076 [] segC0 rfl rfl segP0 rfl rfl (Nat.le_of_ble_eq_true rfl) ⟨rfl, rfl, Nat.le_of_ble_eq_true rfl, Nat.le_of_ble_eq_true rfl⟩ d_Mo_swap_3 (fun H locs hP hD hS => ?_)
  refine lv_if_ne (tgt := 11) hx hb d_Mo_swap_6 (by decide) (fun h_3 => ?_) (fun h_3 => ?_)
  · have hd := ite_f hd h_3
    refine lv_aload_n hx hb d_Mo_swap_11 rfl (lv_at hl 0 rfl) ?_
    obtain ⟨v_4, e_5, hd⟩ := bind_s hd
    refine callVV (ws' := ws_Mo g a v_4) (rest := []) (As := []) hx hb hml hown hg hK hP hD hS hA hCs hl.1 (c_Mo_looksForAll l D g a z _ e_5) o_Mo_looksForAll g_1218 (ci := 1) (q0 := 0) rfl rfl (List.range' 0 12) (segC1 rfl rfl) (by decide) rfl (segP1 rfl rfl) rfl rfl (Nat.le_of_ble_eq_true rfl) ⟨rfl, rfl, Nat.le_of_ble_eq_true rfl, Nat.le_of_ble_eq_true rfl⟩ d_Mo_swap_12 (fun H locs hP hD hS => ?_)
    refine lv_aload_n hx hb d_Mo_swap_15 rfl (lv_at hl 0 rfl) ?_
    obtain ⟨v_6, e_7, hd⟩ := bind_s hd
    refine callVI (ws' := ws_Mo g a v_6.2) (rest := []) (As := []) hx hb hml hown hg hK hP hD hS hA hCs hl.1 (c_Mo_firstSwap l D g a v_4 _ e_7) o_Mo_firstSwap g_1302 (ci := 1) (q0 := 0) rfl rfl (List.range' 0 12) (segC1 rfl rfl) (by decide) rfl (segP1 rfl rfl) rfl rfl (Nat.le_of_ble_eq_true rfl) ⟨rfl, rfl, Nat.le_of_ble_eq_true rfl, Nat.le_of_ble_eq_true rfl⟩ d_Mo_swap_16 (fun H locs hP hD hS => ?_)
    refine lv_istore_n (lv' := [(2, .int v_6.1), (0, .ref (a 0)), (1, .int x1)]) hx hb d_Mo_swap_19 rfl hl (by decide) rfl (fun ls hl => ?_)
    refine lv_iload_n hx hb d_Mo_swap_20 rfl (lv_at hl 2 rfl) ?_
    refine lv_if_ne (tgt := 31) hx hb d_Mo_swap_21 (by decide) (fun h_8 => ?_) (fun h_8 => ?_)
    · have hd := ite_f hd h_8
      refine lv_iload_n hx hb d_Mo_swap_31 rfl (lv_at hl 0 rfl) ?_
      obtain rfl := Option.some.inj hd
      exact retI hx hb hr hlk hK hP hD hS d_Mo_swap_32 rfl
    · have hd := ite_t hd h_8
      refine lv_aload_n hx hb d_Mo_swap_24 rfl (lv_at hl 1 rfl) ?_
      refine va_get (D := D) (ci := 1) (v := .int (q_Mo_swaps v_6.2)) (C := R_Mo) (T := F_Mo) (N := 26) hx hb hg i_Mo hown hK hP 0 rfl rfl 20 (by decide) (hg _ g_1012) (fun _ h9 => h9) rfl d_Mo_swap_25 ?_
      refine lv_goto (tgt := 32) hx hb d_Mo_swap_28 (by decide) ?_
      obtain rfl := Option.some.inj hd
      exact retI hx hb hr hlk hK hP hD hS d_Mo_swap_32 rfl
  · have hd := ite_t hd h_3
    refine lv_iconst (v := (-1)) hx hb d_Mo_swap_9 (by decide) ?_
    obtain rfl := Option.some.inj hd
    exact retI hx hb hr hlk hK hP hD hS d_Mo_swap_10 rfl
-- OwnsLiftModel.keeps()V
def B_Mo_keeps_L2 (self2 : Int32 → T_Mo → Option (T_Mo)) (x1_2 : Int32) (z_2 : T_Mo) : Option (T_Mo) :=
  if 7 ≤ x1_2 then (some (z_2)) else (if inb (65 + x1_2) 901 = true then (if inb x1_2 7 = true then (self2 (x1_2 + 1) (u_Mo_owners z_2 (upd (q_Mo_owners z_2) x1_2.toNatClampNeg ((q_Mo_s z_2) (65 + x1_2).toNatClampNeg)))) else none) else none)
def d_Mo_keeps_L2 (n : Nat) : Int32 → T_Mo → Option (T_Mo) := recN (fun _ _ => none) (fun self => B_Mo_keeps_L2 self) n
def d_Mo_keeps (z : T_Mo) : Option (T_Mo) :=
  d_Mo_keeps_L2  1000 0 z
theorem d_Mo_keeps_0 : decode b_Mo_keeps 0 = .ok (.iconst 0, 1) := by decide +kernel
theorem d_Mo_keeps_1 : decode b_Mo_keeps 1 = .ok (.istore_n 1, 1) := by decide +kernel
theorem d_Mo_keeps_2 : decode b_Mo_keeps 2 = .ok (.iload_n 1, 1) := by decide +kernel
theorem d_Mo_keeps_3 : decode b_Mo_keeps 3 = .ok (.bipush 7, 2) := by decide +kernel
theorem d_Mo_keeps_5 : decode b_Mo_keeps 5 = .ok (.if_icmp .ge 24, 3) := by decide +kernel
theorem d_Mo_keeps_8 : decode b_Mo_keeps 8 = .ok (.aload_n 0, 1) := by decide +kernel
theorem d_Mo_keeps_9 : decode b_Mo_keeps 9 = .ok (.getfield 18, 3) := by decide +kernel
theorem d_Mo_keeps_12 : decode b_Mo_keeps 12 = .ok (.iload_n 1, 1) := by decide +kernel
theorem d_Mo_keeps_13 : decode b_Mo_keeps 13 = .ok (.aload_n 0, 1) := by decide +kernel
theorem d_Mo_keeps_14 : decode b_Mo_keeps 14 = .ok (.getfield 9, 3) := by decide +kernel
theorem d_Mo_keeps_17 : decode b_Mo_keeps 17 = .ok (.bipush 65, 2) := by decide +kernel
theorem d_Mo_keeps_19 : decode b_Mo_keeps 19 = .ok (.iload_n 1, 1) := by decide +kernel
theorem d_Mo_keeps_20 : decode b_Mo_keeps 20 = .ok (.iadd, 1) := by decide +kernel
theorem d_Mo_keeps_21 : decode b_Mo_keeps 21 = .ok (.iaload, 1) := by decide +kernel
theorem d_Mo_keeps_22 : decode b_Mo_keeps 22 = .ok (.iastore, 1) := by decide +kernel
theorem d_Mo_keeps_23 : decode b_Mo_keeps 23 = .ok (.iinc 1 1, 3) := by decide +kernel
theorem d_Mo_keeps_26 : decode b_Mo_keeps 26 = .ok (.goto (-24), 3) := by decide +kernel
theorem d_Mo_keeps_29 : decode b_Mo_keeps 29 = .ok (.return_, 1) := by decide +kernel
theorem o_Mo_keeps : OkV y_Mo_keeps "OwnsLiftModel" b_Mo_keeps 2 none 0 := ⟨⟨rfl, by decide +kernel, by decide +kernel, by decide +kernel⟩, g_1316, g_61, g_81, g_1317⟩
set_option maxHeartbeats 4000000 in
set_option maxRecDepth 100000 in
theorem c_Mo_keeps (l : Launch) (D : va_G) (g : Nat → ClassId) (a : Nat → Nat) (z : T_Mo) (v : T_Mo) (h : d_Mo_keeps z = some v) :
    MV l y_Mo_keeps b_Mo_keeps 2 ({ frames := 0, cells := 0, slots := 0, locals := 0 } : Room) D g [.ref (a 0)] (ws_Mo g a z) (ws_Mo g a v) := by
  have hd := h
  unfold d_Mo_keeps at hd
  refine enterV rfl (Nat.le_of_ble_eq_true rfl) (fun p e s m below meth c A ls hx hb hml hr hown hg hlk hK hA hP hD hS hCs hl => ?_)
  have hown : s.vm.findClass "OwnsLiftModel" = some m.cls := hown
  have hl : lv_has ls 2 [(0, .ref (a 0))] := hl
  show GV p l e s m ({ frames := 0, cells := 0, slots := 0, locals := 0 } : Room) ([.ref (a 0)] : List Value).toArray below meth c A D g (ws_Mo g a v) s.heap [] (F0 m 0 ls [])
  refine lv_iconst (v := 0) hx hb d_Mo_keeps_0 (by decide) ?_
  refine lv_istore_n (lv' := [(1, .int 0), (0, .ref (a 0))]) hx hb d_Mo_keeps_1 rfl hl (by decide) rfl (fun ls hl => ?_)
  have lp2 : ∀ (n : Nat) (x1_2 : Int32) (z_2 : T_Mo) (H : Heap) (locs : List Loc) (ls : Array Slot), va_P D classes (ws_Mo g a z_2) H → va_D A (ws_Mo g a z_2) → va_S A s.heap H locs → lv_has ls 2 [(0, .ref (a 0)), (1, .int x1_2)] → d_Mo_keeps_L2 n x1_2 z_2 = some v → GV p l e s m ({ frames := 0, cells := 0, slots := 0, locals := 0 } : Room) ([.ref (a 0)] : List Value).toArray below meth c A D g (ws_Mo g a v) H locs (F0 m 2 ls []) := by
    intro n
    induction n with
    | zero =>
      intro  x1_2 z_2 H locs ls hP hD hS hl hd
      have hd : none = some v := hd
      cases hd
    | succ n ih2 =>
      intro  x1_2 z_2 H locs ls hP hD hS hl hd
      have hd : B_Mo_keeps_L2 (d_Mo_keeps_L2 n) x1_2 z_2 = some v := hd
      generalize d_Mo_keeps_L2 n = self2 at ih2 hd
      unfold B_Mo_keeps_L2 at hd
      refine lv_iload_n hx hb d_Mo_keeps_2 rfl (lv_at hl 1 rfl) ?_
      refine lv_bipush (v := 7) hx hb d_Mo_keeps_3 (by decide) ?_
      refine lv_icmp_ge (tgt := 29) hx hb d_Mo_keeps_5 (by decide) (fun h_1 => ?_) (fun h_1 => ?_)
      · have hd := ite_t hd h_1
        obtain rfl := Option.some.inj hd
        exact retV hx hb hr hlk hK hP hD hS d_Mo_keeps_29
      · have hd := ite_f hd h_1
        refine lv_aload_n hx hb d_Mo_keeps_8 rfl (lv_at hl 0 rfl) ?_
        refine va_get (D := D) (ci := 1) (v := .ref (a 3)) (C := R_Mo) (T := F_Mo) (N := 26) hx hb hg i_Mo hown hK hP 0 rfl rfl 3 (by decide) (hg _ g_995) (fun _ h9 => h9) rfl d_Mo_keeps_9 ?_
        refine lv_iload_n hx hb d_Mo_keeps_12 rfl (lv_at hl 1 rfl) ?_
        refine lv_aload_n hx hb d_Mo_keeps_13 rfl (lv_at hl 0 rfl) ?_
        refine va_get (D := D) (ci := 1) (v := .ref (a 1)) (C := R_Mo) (T := F_Mo) (N := 26) hx hb hg i_Mo hown hK hP 0 rfl rfl 1 (by decide) (hg _ g_993) (fun _ h9 => h9) rfl d_Mo_keeps_14 ?_
        refine lv_bipush (v := 65) hx hb d_Mo_keeps_17 (by decide) ?_
        refine lv_iload_n hx hb d_Mo_keeps_19 rfl (lv_at hl 1 rfl) ?_
        refine lv_iadd hx hb d_Mo_keeps_20 ?_
        obtain ⟨h_3, hd⟩ := ite_s hd
        refine ialdK hx hb hK hP 1 0 rfl rfl (inb_t h_3) rfl d_Mo_keeps_21 ?_
        obtain ⟨h_2, hd⟩ := ite_s hd
        refine iastK hx hb hK hP hD hS 3 0 rfl rfl (inb_t h_2) rfl d_Mo_keeps_22 (fun H locs hP hD hS => ?_)
        have hP : va_P D classes (ws_Mo g a (u_Mo_owners z_2 (upd (q_Mo_owners z_2) x1_2.toNatClampNeg ((q_Mo_s z_2) (65 + x1_2).toNatClampNeg)))) H := hP
        have hD : va_D A (ws_Mo g a (u_Mo_owners z_2 (upd (q_Mo_owners z_2) x1_2.toNatClampNeg ((q_Mo_s z_2) (65 + x1_2).toNatClampNeg)))) := hD
        refine lv_iinc (v := x1_2 + 1) (lv' := [(1, .int (x1_2 + 1)), (0, .ref (a 0))]) hx hb d_Mo_keeps_23 hl (k := 1) rfl (by rfl) (by decide) rfl (fun ls hl => ?_)
        refine lv_goto (tgt := 2) hx hb d_Mo_keeps_26 (by decide) ?_
        exact ih2 (x1_2 + 1) (u_Mo_owners z_2 (upd (q_Mo_owners z_2) x1_2.toNatClampNeg ((q_Mo_s z_2) (65 + x1_2).toNatClampNeg))) _ _ _ hP hD hS (lv_sub hl [1, 0] rfl) hd
  exact lp2 1000 0 z _ _ _ hP hD hS (lv_sub hl [1, 0] rfl) hd
-- OwnsLiftModel.goesBack()V
def B_Mo_goesBack_L2 (self2 : Int32 → T_Mo → Option (T_Mo)) (x1_2 : Int32) (z_2 : T_Mo) : Option (T_Mo) :=
  if 7 ≤ x1_2 then (some (z_2)) else (if inb x1_2 7 = true then (if inb (65 + x1_2) 901 = true then (self2 (x1_2 + 1) (u_Mo_s z_2 (upd (q_Mo_s z_2) (65 + x1_2).toNatClampNeg ((q_Mo_owners z_2) x1_2.toNatClampNeg)))) else none) else none)
def d_Mo_goesBack_L2 (n : Nat) : Int32 → T_Mo → Option (T_Mo) := recN (fun _ _ => none) (fun self => B_Mo_goesBack_L2 self) n
def d_Mo_goesBack (z : T_Mo) : Option (T_Mo) :=
  d_Mo_goesBack_L2  1000 0 z
theorem d_Mo_goesBack_0 : decode b_Mo_goesBack 0 = .ok (.iconst 0, 1) := by decide +kernel
theorem d_Mo_goesBack_1 : decode b_Mo_goesBack 1 = .ok (.istore_n 1, 1) := by decide +kernel
theorem d_Mo_goesBack_2 : decode b_Mo_goesBack 2 = .ok (.iload_n 1, 1) := by decide +kernel
theorem d_Mo_goesBack_3 : decode b_Mo_goesBack 3 = .ok (.bipush 7, 2) := by decide +kernel
theorem d_Mo_goesBack_5 : decode b_Mo_goesBack 5 = .ok (.if_icmp .ge 24, 3) := by decide +kernel
theorem d_Mo_goesBack_8 : decode b_Mo_goesBack 8 = .ok (.aload_n 0, 1) := by decide +kernel
theorem d_Mo_goesBack_9 : decode b_Mo_goesBack 9 = .ok (.getfield 9, 3) := by decide +kernel
theorem d_Mo_goesBack_12 : decode b_Mo_goesBack 12 = .ok (.bipush 65, 2) := by decide +kernel
theorem d_Mo_goesBack_14 : decode b_Mo_goesBack 14 = .ok (.iload_n 1, 1) := by decide +kernel
theorem d_Mo_goesBack_15 : decode b_Mo_goesBack 15 = .ok (.iadd, 1) := by decide +kernel
theorem d_Mo_goesBack_16 : decode b_Mo_goesBack 16 = .ok (.aload_n 0, 1) := by decide +kernel
theorem d_Mo_goesBack_17 : decode b_Mo_goesBack 17 = .ok (.getfield 18, 3) := by decide +kernel
theorem d_Mo_goesBack_20 : decode b_Mo_goesBack 20 = .ok (.iload_n 1, 1) := by decide +kernel
theorem d_Mo_goesBack_21 : decode b_Mo_goesBack 21 = .ok (.iaload, 1) := by decide +kernel
theorem d_Mo_goesBack_22 : decode b_Mo_goesBack 22 = .ok (.iastore, 1) := by decide +kernel
theorem d_Mo_goesBack_23 : decode b_Mo_goesBack 23 = .ok (.iinc 1 1, 3) := by decide +kernel
theorem d_Mo_goesBack_26 : decode b_Mo_goesBack 26 = .ok (.goto (-24), 3) := by decide +kernel
theorem d_Mo_goesBack_29 : decode b_Mo_goesBack 29 = .ok (.return_, 1) := by decide +kernel
theorem o_Mo_goesBack : OkV y_Mo_goesBack "OwnsLiftModel" b_Mo_goesBack 2 none 0 := ⟨⟨rfl, by decide +kernel, by decide +kernel, by decide +kernel⟩, g_1320, g_62, g_81, g_1321⟩
set_option maxHeartbeats 4000000 in
set_option maxRecDepth 100000 in
theorem c_Mo_goesBack (l : Launch) (D : va_G) (g : Nat → ClassId) (a : Nat → Nat) (z : T_Mo) (v : T_Mo) (h : d_Mo_goesBack z = some v) :
    MV l y_Mo_goesBack b_Mo_goesBack 2 ({ frames := 0, cells := 0, slots := 0, locals := 0 } : Room) D g [.ref (a 0)] (ws_Mo g a z) (ws_Mo g a v) := by
  have hd := h
  unfold d_Mo_goesBack at hd
  refine enterV rfl (Nat.le_of_ble_eq_true rfl) (fun p e s m below meth c A ls hx hb hml hr hown hg hlk hK hA hP hD hS hCs hl => ?_)
  have hown : s.vm.findClass "OwnsLiftModel" = some m.cls := hown
  have hl : lv_has ls 2 [(0, .ref (a 0))] := hl
  show GV p l e s m ({ frames := 0, cells := 0, slots := 0, locals := 0 } : Room) ([.ref (a 0)] : List Value).toArray below meth c A D g (ws_Mo g a v) s.heap [] (F0 m 0 ls [])
  refine lv_iconst (v := 0) hx hb d_Mo_goesBack_0 (by decide) ?_
  refine lv_istore_n (lv' := [(1, .int 0), (0, .ref (a 0))]) hx hb d_Mo_goesBack_1 rfl hl (by decide) rfl (fun ls hl => ?_)
  have lp2 : ∀ (n : Nat) (x1_2 : Int32) (z_2 : T_Mo) (H : Heap) (locs : List Loc) (ls : Array Slot), va_P D classes (ws_Mo g a z_2) H → va_D A (ws_Mo g a z_2) → va_S A s.heap H locs → lv_has ls 2 [(0, .ref (a 0)), (1, .int x1_2)] → d_Mo_goesBack_L2 n x1_2 z_2 = some v → GV p l e s m ({ frames := 0, cells := 0, slots := 0, locals := 0 } : Room) ([.ref (a 0)] : List Value).toArray below meth c A D g (ws_Mo g a v) H locs (F0 m 2 ls []) := by
    intro n
    induction n with
    | zero =>
      intro  x1_2 z_2 H locs ls hP hD hS hl hd
      have hd : none = some v := hd
      cases hd
    | succ n ih2 =>
      intro  x1_2 z_2 H locs ls hP hD hS hl hd
      have hd : B_Mo_goesBack_L2 (d_Mo_goesBack_L2 n) x1_2 z_2 = some v := hd
      generalize d_Mo_goesBack_L2 n = self2 at ih2 hd
      unfold B_Mo_goesBack_L2 at hd
      refine lv_iload_n hx hb d_Mo_goesBack_2 rfl (lv_at hl 1 rfl) ?_
      refine lv_bipush (v := 7) hx hb d_Mo_goesBack_3 (by decide) ?_
      refine lv_icmp_ge (tgt := 29) hx hb d_Mo_goesBack_5 (by decide) (fun h_1 => ?_) (fun h_1 => ?_)
      · have hd := ite_t hd h_1
        obtain rfl := Option.some.inj hd
        exact retV hx hb hr hlk hK hP hD hS d_Mo_goesBack_29
      · have hd := ite_f hd h_1
        refine lv_aload_n hx hb d_Mo_goesBack_8 rfl (lv_at hl 0 rfl) ?_
        refine va_get (D := D) (ci := 1) (v := .ref (a 1)) (C := R_Mo) (T := F_Mo) (N := 26) hx hb hg i_Mo hown hK hP 0 rfl rfl 1 (by decide) (hg _ g_993) (fun _ h9 => h9) rfl d_Mo_goesBack_9 ?_
        refine lv_bipush (v := 65) hx hb d_Mo_goesBack_12 (by decide) ?_
        refine lv_iload_n hx hb d_Mo_goesBack_14 rfl (lv_at hl 1 rfl) ?_
        refine lv_iadd hx hb d_Mo_goesBack_15 ?_
        refine lv_aload_n hx hb d_Mo_goesBack_16 rfl (lv_at hl 0 rfl) ?_
        refine va_get (D := D) (ci := 1) (v := .ref (a 3)) (C := R_Mo) (T := F_Mo) (N := 26) hx hb hg i_Mo hown hK hP 0 rfl rfl 3 (by decide) (hg _ g_995) (fun _ h9 => h9) rfl d_Mo_goesBack_17 ?_
        refine lv_iload_n hx hb d_Mo_goesBack_20 rfl (lv_at hl 1 rfl) ?_
        obtain ⟨h_3, hd⟩ := ite_s hd
        refine ialdK hx hb hK hP 3 0 rfl rfl (inb_t h_3) rfl d_Mo_goesBack_21 ?_
        obtain ⟨h_2, hd⟩ := ite_s hd
        refine iastK hx hb hK hP hD hS 1 0 rfl rfl (inb_t h_2) rfl d_Mo_goesBack_22 (fun H locs hP hD hS => ?_)
        have hP : va_P D classes (ws_Mo g a (u_Mo_s z_2 (upd (q_Mo_s z_2) (65 + x1_2).toNatClampNeg ((q_Mo_owners z_2) x1_2.toNatClampNeg)))) H := hP
        have hD : va_D A (ws_Mo g a (u_Mo_s z_2 (upd (q_Mo_s z_2) (65 + x1_2).toNatClampNeg ((q_Mo_owners z_2) x1_2.toNatClampNeg)))) := hD
        refine lv_iinc (v := x1_2 + 1) (lv' := [(1, .int (x1_2 + 1)), (0, .ref (a 0))]) hx hb d_Mo_goesBack_23 hl (k := 1) rfl (by rfl) (by decide) rfl (fun ls hl => ?_)
        refine lv_goto (tgt := 2) hx hb d_Mo_goesBack_26 (by decide) ?_
        exact ih2 (x1_2 + 1) (u_Mo_s z_2 (upd (q_Mo_s z_2) (65 + x1_2).toNatClampNeg ((q_Mo_owners z_2) x1_2.toNatClampNeg))) _ _ _ hP hD hS (lv_sub hl [1, 0] rfl) hd
  exact lp2 1000 0 z _ _ _ hP hD hS (lv_sub hl [1, 0] rfl) hd
-- OwnsLiftModel.rest()I
def B_Mo_rest_L15 (k15_88 : Int32 → T_Mo → Option (Int32 × T_Mo)) (self15 : Int32 → Int32 → T_Mo → Option (Int32 × T_Mo)) (x1_15 : Int32) (x2_15 : Int32) (z_15 : T_Mo) : Option (Int32 × T_Mo) :=
  if x2_15 = (-5) then (k15_88 x1_15 z_15) else (if 21 ≤ x1_15 then (k15_88 x1_15 z_15) else (if inb (65 + (x2_15 / 10)) 901 = true then (if inb (65 + (x2_15 - x2_15 / 10 * 10)) 901 = true then (if inb (65 + (x2_15 / 10)) 901 = true then (if inb (65 + (x2_15 - x2_15 / 10 * 10)) 901 = true then ((d_Mo_firstSwap (u_Mo_s (u_Mo_s z_15 (upd (q_Mo_s z_15) (65 + (x2_15 / 10)).toNatClampNeg ((q_Mo_s z_15) (65 + (x2_15 - x2_15 / 10 * 10)).toNatClampNeg))) (upd (q_Mo_s (u_Mo_s z_15 (upd (q_Mo_s z_15) (65 + (x2_15 / 10)).toNatClampNeg ((q_Mo_s z_15) (65 + (x2_15 - x2_15 / 10 * 10)).toNatClampNeg)))) (65 + (x2_15 - x2_15 / 10 * 10)).toNatClampNeg ((q_Mo_s z_15) (65 + (x2_15 / 10)).toNatClampNeg)))).bind fun v_9 => self15 (x1_15 + 1) v_9.1 v_9.2) else none) else none) else none) else none))
def d_Mo_rest_L15 (k15_88 : Int32 → T_Mo → Option (Int32 × T_Mo)) (n : Nat) : Int32 → Int32 → T_Mo → Option (Int32 × T_Mo) := recN (fun _ _ _ => none) (fun self => B_Mo_rest_L15 k15_88 self) n
def d_Mo_rest (z : T_Mo) : Option (Int32 × T_Mo) :=
  (d_Mo_looksForAll z).bind fun v_1 => (d_Mo_keeps v_1).bind fun v_3 => (d_Mo_firstSwap v_3).bind fun v_5 => d_Mo_rest_L15 (fun x1_15 z_15 => (d_Mo_goesBack z_15).bind fun v_15 => if x1_15 ≤ 20 then (some (x1_15, v_15)) else (some ((-5), v_15))) 1000 0 v_5.1 v_5.2
theorem d_Mo_rest_0 : decode b_Mo_rest 0 = .ok (.aload_n 0, 1) := by decide +kernel
theorem d_Mo_rest_1 : decode b_Mo_rest 1 = .ok (.invokevirtual 178, 3) := by decide +kernel
theorem d_Mo_rest_4 : decode b_Mo_rest 4 = .ok (.aload_n 0, 1) := by decide +kernel
theorem d_Mo_rest_5 : decode b_Mo_rest 5 = .ok (.invokevirtual 229, 3) := by decide +kernel
theorem d_Mo_rest_8 : decode b_Mo_rest 8 = .ok (.iconst 0, 1) := by decide +kernel
theorem d_Mo_rest_9 : decode b_Mo_rest 9 = .ok (.istore_n 1, 1) := by decide +kernel
theorem d_Mo_rest_10 : decode b_Mo_rest 10 = .ok (.aload_n 0, 1) := by decide +kernel
theorem d_Mo_rest_11 : decode b_Mo_rest 11 = .ok (.invokevirtual 226, 3) := by decide +kernel
theorem d_Mo_rest_14 : decode b_Mo_rest 14 = .ok (.istore_n 2, 1) := by decide +kernel
theorem d_Mo_rest_15 : decode b_Mo_rest 15 = .ok (.iload_n 2, 1) := by decide +kernel
theorem d_Mo_rest_16 : decode b_Mo_rest 16 = .ok (.bipush (-5), 2) := by decide +kernel
theorem d_Mo_rest_18 : decode b_Mo_rest 18 = .ok (.if_icmp .eq 70, 3) := by decide +kernel
theorem d_Mo_rest_21 : decode b_Mo_rest 21 = .ok (.iload_n 1, 1) := by decide +kernel
theorem d_Mo_rest_22 : decode b_Mo_rest 22 = .ok (.bipush 21, 2) := by decide +kernel
theorem d_Mo_rest_24 : decode b_Mo_rest 24 = .ok (.if_icmp .ge 64, 3) := by decide +kernel
theorem d_Mo_rest_27 : decode b_Mo_rest 27 = .ok (.aload_n 0, 1) := by decide +kernel
theorem d_Mo_rest_28 : decode b_Mo_rest 28 = .ok (.getfield 9, 3) := by decide +kernel
theorem d_Mo_rest_31 : decode b_Mo_rest 31 = .ok (.bipush 65, 2) := by decide +kernel
theorem d_Mo_rest_33 : decode b_Mo_rest 33 = .ok (.iload_n 2, 1) := by decide +kernel
theorem d_Mo_rest_34 : decode b_Mo_rest 34 = .ok (.bipush 10, 2) := by decide +kernel
theorem d_Mo_rest_36 : decode b_Mo_rest 36 = .ok (.idiv, 1) := by decide +kernel
theorem d_Mo_rest_37 : decode b_Mo_rest 37 = .ok (.iadd, 1) := by decide +kernel
theorem d_Mo_rest_38 : decode b_Mo_rest 38 = .ok (.iaload, 1) := by decide +kernel
theorem d_Mo_rest_39 : decode b_Mo_rest 39 = .ok (.istore_n 3, 1) := by decide +kernel
theorem d_Mo_rest_40 : decode b_Mo_rest 40 = .ok (.aload_n 0, 1) := by decide +kernel
theorem d_Mo_rest_41 : decode b_Mo_rest 41 = .ok (.getfield 9, 3) := by decide +kernel
theorem d_Mo_rest_44 : decode b_Mo_rest 44 = .ok (.bipush 65, 2) := by decide +kernel
theorem d_Mo_rest_46 : decode b_Mo_rest 46 = .ok (.iload_n 2, 1) := by decide +kernel
theorem d_Mo_rest_47 : decode b_Mo_rest 47 = .ok (.bipush 10, 2) := by decide +kernel
theorem d_Mo_rest_49 : decode b_Mo_rest 49 = .ok (.idiv, 1) := by decide +kernel
theorem d_Mo_rest_50 : decode b_Mo_rest 50 = .ok (.iadd, 1) := by decide +kernel
theorem d_Mo_rest_51 : decode b_Mo_rest 51 = .ok (.aload_n 0, 1) := by decide +kernel
theorem d_Mo_rest_52 : decode b_Mo_rest 52 = .ok (.getfield 9, 3) := by decide +kernel
theorem d_Mo_rest_55 : decode b_Mo_rest 55 = .ok (.bipush 65, 2) := by decide +kernel
theorem d_Mo_rest_57 : decode b_Mo_rest 57 = .ok (.iload_n 2, 1) := by decide +kernel
theorem d_Mo_rest_58 : decode b_Mo_rest 58 = .ok (.bipush 10, 2) := by decide +kernel
theorem d_Mo_rest_60 : decode b_Mo_rest 60 = .ok (.irem, 1) := by decide +kernel
theorem d_Mo_rest_61 : decode b_Mo_rest 61 = .ok (.iadd, 1) := by decide +kernel
theorem d_Mo_rest_62 : decode b_Mo_rest 62 = .ok (.iaload, 1) := by decide +kernel
theorem d_Mo_rest_63 : decode b_Mo_rest 63 = .ok (.iastore, 1) := by decide +kernel
theorem d_Mo_rest_64 : decode b_Mo_rest 64 = .ok (.aload_n 0, 1) := by decide +kernel
theorem d_Mo_rest_65 : decode b_Mo_rest 65 = .ok (.getfield 9, 3) := by decide +kernel
theorem d_Mo_rest_68 : decode b_Mo_rest 68 = .ok (.bipush 65, 2) := by decide +kernel
theorem d_Mo_rest_70 : decode b_Mo_rest 70 = .ok (.iload_n 2, 1) := by decide +kernel
theorem d_Mo_rest_71 : decode b_Mo_rest 71 = .ok (.bipush 10, 2) := by decide +kernel
theorem d_Mo_rest_73 : decode b_Mo_rest 73 = .ok (.irem, 1) := by decide +kernel
theorem d_Mo_rest_74 : decode b_Mo_rest 74 = .ok (.iadd, 1) := by decide +kernel
theorem d_Mo_rest_75 : decode b_Mo_rest 75 = .ok (.iload_n 3, 1) := by decide +kernel
theorem d_Mo_rest_76 : decode b_Mo_rest 76 = .ok (.iastore, 1) := by decide +kernel
theorem d_Mo_rest_77 : decode b_Mo_rest 77 = .ok (.iinc 1 1, 3) := by decide +kernel
theorem d_Mo_rest_80 : decode b_Mo_rest 80 = .ok (.aload_n 0, 1) := by decide +kernel
theorem d_Mo_rest_81 : decode b_Mo_rest 81 = .ok (.invokevirtual 226, 3) := by decide +kernel
theorem d_Mo_rest_84 : decode b_Mo_rest 84 = .ok (.istore_n 2, 1) := by decide +kernel
theorem d_Mo_rest_85 : decode b_Mo_rest 85 = .ok (.goto (-70), 3) := by decide +kernel
theorem d_Mo_rest_88 : decode b_Mo_rest 88 = .ok (.aload_n 0, 1) := by decide +kernel
theorem d_Mo_rest_89 : decode b_Mo_rest 89 = .ok (.invokevirtual 232, 3) := by decide +kernel
theorem d_Mo_rest_92 : decode b_Mo_rest 92 = .ok (.iload_n 1, 1) := by decide +kernel
theorem d_Mo_rest_93 : decode b_Mo_rest 93 = .ok (.bipush 20, 2) := by decide +kernel
theorem d_Mo_rest_95 : decode b_Mo_rest 95 = .ok (.if_icmp .le 8, 3) := by decide +kernel
theorem d_Mo_rest_98 : decode b_Mo_rest 98 = .ok (.bipush (-5), 2) := by decide +kernel
theorem d_Mo_rest_100 : decode b_Mo_rest 100 = .ok (.goto 4, 3) := by decide +kernel
theorem d_Mo_rest_103 : decode b_Mo_rest 103 = .ok (.iload_n 1, 1) := by decide +kernel
theorem d_Mo_rest_104 : decode b_Mo_rest 104 = .ok (.ireturn, 1) := by decide +kernel
theorem o_Mo_rest : OkV y_Mo_rest "OwnsLiftModel" b_Mo_rest 4 (some .int) 0 := ⟨⟨rfl, by decide +kernel, by decide +kernel, by decide +kernel⟩, g_1311, g_1312, g_81, g_1313⟩
set_option maxHeartbeats 4000000 in
set_option maxRecDepth 100000 in
theorem c_Mo_rest (l : Launch) (D : va_G) (g : Nat → ClassId) (a : Nat → Nat) (z : T_Mo) (v : Int32 × T_Mo) (h : d_Mo_rest z = some v) :
    MI l y_Mo_rest b_Mo_rest 4 .int ({ frames := 4, cells := 0, slots := 0, locals := 97 } : Room) D g [.ref (a 0)] (ws_Mo g a z) (v.1) (ws_Mo g a v.2) := by
  have hd := h
  unfold d_Mo_rest at hd
  refine enterI rfl (Nat.le_of_ble_eq_true rfl) (fun p e s m below meth c A ls hx hb hml hr hown hg hlk hK hA hP hD hS hCs hl => ?_)
  have hown : s.vm.findClass "OwnsLiftModel" = some m.cls := hown
  have hl : lv_has ls 4 [(0, .ref (a 0))] := hl
  show GI p l e s m ({ frames := 4, cells := 0, slots := 0, locals := 97 } : Room) ([.ref (a 0)] : List Value).toArray below meth c A D g (ws_Mo g a v.2) (v.1) s.heap [] (F0 m 0 ls [])
  refine lv_aload_n hx hb d_Mo_rest_0 rfl (lv_at hl 0 rfl) ?_
  obtain ⟨v_1, e_2, hd⟩ := bind_s hd
  refine callVV (ws' := ws_Mo g a v_1) (rest := []) (As := []) hx hb hml hown hg hK hP hD hS hA hCs hl.1 (c_Mo_looksForAll l D g a z _ e_2) o_Mo_looksForAll g_1218 (ci := 1) (q0 := 0) rfl rfl (List.range' 0 12) (segC1 rfl rfl) (by decide) rfl (segP1 rfl rfl) rfl rfl (Nat.le_of_ble_eq_true rfl) ⟨rfl, rfl, Nat.le_of_ble_eq_true rfl, Nat.le_of_ble_eq_true rfl⟩ d_Mo_rest_1 (fun H locs hP hD hS => ?_)
  refine lv_aload_n hx hb d_Mo_rest_4 rfl (lv_at hl 0 rfl) ?_
  obtain ⟨v_3, e_4, hd⟩ := bind_s hd
  refine callVV (ws' := ws_Mo g a v_3) (rest := []) (As := []) hx hb hml hown hg hK hP hD hS hA hCs hl.1 (c_Mo_keeps l D g a v_1 _ e_4) o_Mo_keeps g_1314 (ci := 1) (q0 := 0) rfl rfl (List.range' 0 12) (segC1 rfl rfl) (by decide) rfl (segP1 rfl rfl) rfl rfl (Nat.le_of_ble_eq_true rfl) ⟨rfl, rfl, Nat.le_of_ble_eq_true rfl, Nat.le_of_ble_eq_true rfl⟩ d_Mo_rest_5 (fun H locs hP hD hS => ?_)
  refine lv_iconst (v := 0) hx hb d_Mo_rest_8 (by decide) ?_
  refine lv_istore_n (lv' := [(1, .int 0), (0, .ref (a 0))]) hx hb d_Mo_rest_9 rfl hl (by decide) rfl (fun ls hl => ?_)
  refine lv_aload_n hx hb d_Mo_rest_10 rfl (lv_at hl 1 rfl) ?_
  obtain ⟨v_5, e_6, hd⟩ := bind_s hd
  refine callVI (ws' := ws_Mo g a v_5.2) (rest := []) (As := []) hx hb hml hown hg hK hP hD hS hA hCs hl.1 (c_Mo_firstSwap l D g a v_3 _ e_6) o_Mo_firstSwap g_1302 (ci := 1) (q0 := 0) rfl rfl (List.range' 0 12) (segC1 rfl rfl) (by decide) rfl (segP1 rfl rfl) rfl rfl (Nat.le_of_ble_eq_true rfl) ⟨rfl, rfl, Nat.le_of_ble_eq_true rfl, Nat.le_of_ble_eq_true rfl⟩ d_Mo_rest_11 (fun H locs hP hD hS => ?_)
  refine lv_istore_n (lv' := [(2, .int v_5.1), (1, .int 0), (0, .ref (a 0))]) hx hb d_Mo_rest_14 rfl hl (by decide) rfl (fun ls hl => ?_)
  have ex15_88 : ∀ (x1_15 : Int32) (z_15 : T_Mo) (H : Heap) (locs : List Loc) (ls : Array Slot), va_P D classes (ws_Mo g a z_15) H → va_D A (ws_Mo g a z_15) → va_S A s.heap H locs → lv_has ls 4 [(0, .ref (a 0)), (1, .int x1_15)] → ((d_Mo_goesBack z_15).bind fun v_15 => if x1_15 ≤ 20 then (some (x1_15, v_15)) else (some ((-5), v_15))) = some v → GI p l e s m ({ frames := 4, cells := 0, slots := 0, locals := 97 } : Room) ([.ref (a 0)] : List Value).toArray below meth c A D g (ws_Mo g a v.2) (v.1) H locs (F0 m 88 ls []) := by
    intro x1_15 z_15 H locs ls hP hD hS hl hd
    refine lv_aload_n hx hb d_Mo_rest_88 rfl (lv_at hl 0 rfl) ?_
    obtain ⟨v_15, e_16, hd⟩ := bind_s hd
    refine callVV (ws' := ws_Mo g a v_15) (rest := []) (As := []) hx hb hml hown hg hK hP hD hS hA hCs hl.1 (c_Mo_goesBack l D g a z_15 _ e_16) o_Mo_goesBack g_1318 (ci := 1) (q0 := 0) rfl rfl (List.range' 0 12) (segC1 rfl rfl) (by decide) rfl (segP1 rfl rfl) rfl rfl (Nat.le_of_ble_eq_true rfl) ⟨rfl, rfl, Nat.le_of_ble_eq_true rfl, Nat.le_of_ble_eq_true rfl⟩ d_Mo_rest_89 (fun H locs hP hD hS => ?_)
    refine lv_iload_n hx hb d_Mo_rest_92 rfl (lv_at hl 1 rfl) ?_
    refine lv_bipush (v := 20) hx hb d_Mo_rest_93 (by decide) ?_
    refine lv_icmp_le (tgt := 103) hx hb d_Mo_rest_95 (by decide) (fun h_17 => ?_) (fun h_17 => ?_)
    · have hd := ite_t hd h_17
      refine lv_iload_n hx hb d_Mo_rest_103 rfl (lv_at hl 1 rfl) ?_
      obtain rfl := Option.some.inj hd
      exact retI hx hb hr hlk hK hP hD hS d_Mo_rest_104 rfl
    · have hd := ite_f hd h_17
      refine lv_bipush (v := (-5)) hx hb d_Mo_rest_98 (by decide) ?_
      refine lv_goto (tgt := 104) hx hb d_Mo_rest_100 (by decide) ?_
      obtain rfl := Option.some.inj hd
      exact retI hx hb hr hlk hK hP hD hS d_Mo_rest_104 rfl
  have lp15 : ∀ (k15_88 : Int32 → T_Mo → Option (Int32 × T_Mo)) (hk15_88 : ∀ (x1_15 : Int32) (z_15 : T_Mo) (H : Heap) (locs : List Loc) (ls : Array Slot), va_P D classes (ws_Mo g a z_15) H → va_D A (ws_Mo g a z_15) → va_S A s.heap H locs → lv_has ls 4 [(0, .ref (a 0)), (1, .int x1_15)] → k15_88 x1_15 z_15 = some v → GI p l e s m ({ frames := 4, cells := 0, slots := 0, locals := 97 } : Room) ([.ref (a 0)] : List Value).toArray below meth c A D g (ws_Mo g a v.2) (v.1) H locs (F0 m 88 ls [])) (n : Nat) (x1_15 : Int32) (x2_15 : Int32) (z_15 : T_Mo) (H : Heap) (locs : List Loc) (ls : Array Slot), va_P D classes (ws_Mo g a z_15) H → va_D A (ws_Mo g a z_15) → va_S A s.heap H locs → lv_has ls 4 [(0, .ref (a 0)), (1, .int x1_15), (2, .int x2_15)] → d_Mo_rest_L15 k15_88 n x1_15 x2_15 z_15 = some v → GI p l e s m ({ frames := 4, cells := 0, slots := 0, locals := 97 } : Room) ([.ref (a 0)] : List Value).toArray below meth c A D g (ws_Mo g a v.2) (v.1) H locs (F0 m 15 ls []) := by
    intro k15_88 hk15_88 n
    induction n with
    | zero =>
      intro  x1_15 x2_15 z_15 H locs ls hP hD hS hl hd
      have hd : none = some v := hd
      cases hd
    | succ n ih15 =>
      intro  x1_15 x2_15 z_15 H locs ls hP hD hS hl hd
      have hd : B_Mo_rest_L15 k15_88 (d_Mo_rest_L15 k15_88 n) x1_15 x2_15 z_15 = some v := hd
      generalize d_Mo_rest_L15 k15_88 n = self15 at ih15 hd
      unfold B_Mo_rest_L15 at hd
      refine lv_iload_n hx hb d_Mo_rest_15 rfl (lv_at hl 2 rfl) ?_
      refine lv_bipush (v := (-5)) hx hb d_Mo_rest_16 (by decide) ?_
      refine lv_icmp_eq (tgt := 88) hx hb d_Mo_rest_18 (by decide) (fun h_7 => ?_) (fun h_7 => ?_)
      · have hd := ite_t hd h_7
        exact hk15_88 x1_15 z_15 _ _ _ hP hD hS (lv_sub hl [0, 1] rfl) hd
      · have hd := ite_f hd h_7
        refine lv_iload_n hx hb d_Mo_rest_21 rfl (lv_at hl 1 rfl) ?_
        refine lv_bipush (v := 21) hx hb d_Mo_rest_22 (by decide) ?_
        refine lv_icmp_ge (tgt := 88) hx hb d_Mo_rest_24 (by decide) (fun h_8 => ?_) (fun h_8 => ?_)
        · have hd := ite_t hd h_8
          exact hk15_88 x1_15 z_15 _ _ _ hP hD hS (lv_sub hl [0, 1] rfl) hd
        · have hd := ite_f hd h_8
          refine lv_aload_n hx hb d_Mo_rest_27 rfl (lv_at hl 0 rfl) ?_
          refine va_get (D := D) (ci := 1) (v := .ref (a 1)) (C := R_Mo) (T := F_Mo) (N := 26) hx hb hg i_Mo hown hK hP 0 rfl rfl 1 (by decide) (hg _ g_993) (fun _ h9 => h9) rfl d_Mo_rest_28 ?_
          refine lv_bipush (v := 65) hx hb d_Mo_rest_31 (by decide) ?_
          refine lv_iload_n hx hb d_Mo_rest_33 rfl (lv_at hl 2 rfl) ?_
          refine lv_bipush (v := 10) hx hb d_Mo_rest_34 (by decide) ?_
          refine lv_idiv hx hb d_Mo_rest_36 (by decide) ?_
          refine lv_iadd hx hb d_Mo_rest_37 ?_
          obtain ⟨h_14, hd⟩ := ite_s hd
          refine ialdK hx hb hK hP 1 0 rfl rfl (inb_t h_14) rfl d_Mo_rest_38 ?_
          refine lv_istore_n (lv' := [(3, .int ((q_Mo_s z_15) (65 + (x2_15 / 10)).toNatClampNeg)), (0, .ref (a 0)), (1, .int x1_15), (2, .int x2_15)]) hx hb d_Mo_rest_39 rfl hl (by decide) rfl (fun ls hl => ?_)
          refine lv_aload_n hx hb d_Mo_rest_40 rfl (lv_at hl 1 rfl) ?_
          refine va_get (D := D) (ci := 1) (v := .ref (a 1)) (C := R_Mo) (T := F_Mo) (N := 26) hx hb hg i_Mo hown hK hP 0 rfl rfl 1 (by decide) (hg _ g_993) (fun _ h9 => h9) rfl d_Mo_rest_41 ?_
          refine lv_bipush (v := 65) hx hb d_Mo_rest_44 (by decide) ?_
          refine lv_iload_n hx hb d_Mo_rest_46 rfl (lv_at hl 3 rfl) ?_
          refine lv_bipush (v := 10) hx hb d_Mo_rest_47 (by decide) ?_
          refine lv_idiv hx hb d_Mo_rest_49 (by decide) ?_
          refine lv_iadd hx hb d_Mo_rest_50 ?_
          refine lv_aload_n hx hb d_Mo_rest_51 rfl (lv_at hl 1 rfl) ?_
          refine va_get (D := D) (ci := 1) (v := .ref (a 1)) (C := R_Mo) (T := F_Mo) (N := 26) hx hb hg i_Mo hown hK hP 0 rfl rfl 1 (by decide) (hg _ g_993) (fun _ h9 => h9) rfl d_Mo_rest_52 ?_
          refine lv_bipush (v := 65) hx hb d_Mo_rest_55 (by decide) ?_
          refine lv_iload_n hx hb d_Mo_rest_57 rfl (lv_at hl 3 rfl) ?_
          refine lv_bipush (v := 10) hx hb d_Mo_rest_58 (by decide) ?_
          refine lv_irem hx hb d_Mo_rest_60 (by decide) ?_
          refine lv_iadd hx hb d_Mo_rest_61 ?_
          obtain ⟨h_13, hd⟩ := ite_s hd
          refine ialdK hx hb hK hP 1 0 rfl rfl (inb_t h_13) rfl d_Mo_rest_62 ?_
          obtain ⟨h_12, hd⟩ := ite_s hd
          refine iastK hx hb hK hP hD hS 1 0 rfl rfl (inb_t h_12) rfl d_Mo_rest_63 (fun H locs hP hD hS => ?_)
          have hP : va_P D classes (ws_Mo g a (u_Mo_s z_15 (upd (q_Mo_s z_15) (65 + (x2_15 / 10)).toNatClampNeg ((q_Mo_s z_15) (65 + (x2_15 - x2_15 / 10 * 10)).toNatClampNeg)))) H := hP
          have hD : va_D A (ws_Mo g a (u_Mo_s z_15 (upd (q_Mo_s z_15) (65 + (x2_15 / 10)).toNatClampNeg ((q_Mo_s z_15) (65 + (x2_15 - x2_15 / 10 * 10)).toNatClampNeg)))) := hD
          refine lv_aload_n hx hb d_Mo_rest_64 rfl (lv_at hl 1 rfl) ?_
          refine va_get (D := D) (ci := 1) (v := .ref (a 1)) (C := R_Mo) (T := F_Mo) (N := 26) hx hb hg i_Mo hown hK hP 0 rfl rfl 1 (by decide) (hg _ g_993) (fun _ h9 => h9) rfl d_Mo_rest_65 ?_
          refine lv_bipush (v := 65) hx hb d_Mo_rest_68 (by decide) ?_
          refine lv_iload_n hx hb d_Mo_rest_70 rfl (lv_at hl 3 rfl) ?_
          refine lv_bipush (v := 10) hx hb d_Mo_rest_71 (by decide) ?_
          refine lv_irem hx hb d_Mo_rest_73 (by decide) ?_
          refine lv_iadd hx hb d_Mo_rest_74 ?_
          refine lv_iload_n hx hb d_Mo_rest_75 rfl (lv_at hl 0 rfl) ?_
          obtain ⟨h_11, hd⟩ := ite_s hd
          refine iastK hx hb hK hP hD hS 1 0 rfl rfl (inb_t h_11) rfl d_Mo_rest_76 (fun H locs hP hD hS => ?_)
          have hP : va_P D classes (ws_Mo g a (u_Mo_s (u_Mo_s z_15 (upd (q_Mo_s z_15) (65 + (x2_15 / 10)).toNatClampNeg ((q_Mo_s z_15) (65 + (x2_15 - x2_15 / 10 * 10)).toNatClampNeg))) (upd (q_Mo_s (u_Mo_s z_15 (upd (q_Mo_s z_15) (65 + (x2_15 / 10)).toNatClampNeg ((q_Mo_s z_15) (65 + (x2_15 - x2_15 / 10 * 10)).toNatClampNeg)))) (65 + (x2_15 - x2_15 / 10 * 10)).toNatClampNeg ((q_Mo_s z_15) (65 + (x2_15 / 10)).toNatClampNeg)))) H := hP
          have hD : va_D A (ws_Mo g a (u_Mo_s (u_Mo_s z_15 (upd (q_Mo_s z_15) (65 + (x2_15 / 10)).toNatClampNeg ((q_Mo_s z_15) (65 + (x2_15 - x2_15 / 10 * 10)).toNatClampNeg))) (upd (q_Mo_s (u_Mo_s z_15 (upd (q_Mo_s z_15) (65 + (x2_15 / 10)).toNatClampNeg ((q_Mo_s z_15) (65 + (x2_15 - x2_15 / 10 * 10)).toNatClampNeg)))) (65 + (x2_15 - x2_15 / 10 * 10)).toNatClampNeg ((q_Mo_s z_15) (65 + (x2_15 / 10)).toNatClampNeg)))) := hD
          refine lv_iinc (v := x1_15 + 1) (lv' := [(1, .int (x1_15 + 1)), (3, .int ((q_Mo_s z_15) (65 + (x2_15 / 10)).toNatClampNeg)), (0, .ref (a 0)), (2, .int x2_15)]) hx hb d_Mo_rest_77 hl (k := 2) rfl (by rfl) (by decide) rfl (fun ls hl => ?_)
          refine lv_aload_n hx hb d_Mo_rest_80 rfl (lv_at hl 2 rfl) ?_
          obtain ⟨v_9, e_10, hd⟩ := bind_s hd
          refine callVI (ws' := ws_Mo g a v_9.2) (rest := []) (As := []) hx hb hml hown hg hK hP hD hS hA hCs hl.1 (c_Mo_firstSwap l D g a (u_Mo_s (u_Mo_s z_15 (upd (q_Mo_s z_15) (65 + (x2_15 / 10)).toNatClampNeg ((q_Mo_s z_15) (65 + (x2_15 - x2_15 / 10 * 10)).toNatClampNeg))) (upd (q_Mo_s (u_Mo_s z_15 (upd (q_Mo_s z_15) (65 + (x2_15 / 10)).toNatClampNeg ((q_Mo_s z_15) (65 + (x2_15 - x2_15 / 10 * 10)).toNatClampNeg)))) (65 + (x2_15 - x2_15 / 10 * 10)).toNatClampNeg ((q_Mo_s z_15) (65 + (x2_15 / 10)).toNatClampNeg))) _ e_10) o_Mo_firstSwap g_1302 (ci := 1) (q0 := 0) rfl rfl (List.range' 0 12) (segC1 rfl rfl) (by decide) rfl (segP1 rfl rfl) rfl rfl (Nat.le_of_ble_eq_true rfl) ⟨rfl, rfl, Nat.le_of_ble_eq_true rfl, Nat.le_of_ble_eq_true rfl⟩ d_Mo_rest_81 (fun H locs hP hD hS => ?_)
          refine lv_istore_n (lv' := [(2, .int v_9.1), (1, .int (x1_15 + 1)), (3, .int ((q_Mo_s z_15) (65 + (x2_15 / 10)).toNatClampNeg)), (0, .ref (a 0))]) hx hb d_Mo_rest_84 rfl hl (by decide) rfl (fun ls hl => ?_)
          refine lv_goto (tgt := 15) hx hb d_Mo_rest_85 (by decide) ?_
          exact ih15 (x1_15 + 1) v_9.1 v_9.2 _ _ _ hP hD hS (lv_sub hl [3, 1, 0] rfl) hd
  exact lp15 _ ex15_88 1000 0 v_5.1 v_5.2 _ _ _ hP hD hS (lv_sub hl [2, 1, 0] rfl) hd
-- OwnsLiftModel.fair(III)I
def B_Mo_fair_L62 (x1_f62 : Int32) (x2_f62 : Int32) (x3_f62 : Int32) (x4_f62 : Int32) (z_f62 : T_Mo) (k62_193 : Int32 → Int32 → Option (Int32 × T_Mo)) (self62 : Int32 → Int32 → Int32 → Option (Int32 × T_Mo)) (x5_62 : Int32) (x6_62 : Int32) (x7_62 : Int32) : Option (Int32 × T_Mo) :=
  if ((1 : Int32) <<< (((q_Mo_s z_f62) 1) &&& 31)) ≤ x7_62 then (k62_193 x5_62 x6_62) else (if (x7_62 &&& (x4_f62 ^^^ (-1))) = 0 then ((d_Mo_weightsOf x7_62 z_f62).bind fun v_19 => if inb x1_f62 4 = true then (if ((q_Mo_lifts z_f62) x1_f62.toNatClampNeg) < v_19 then (self62 x5_62 x6_62 (x7_62 + 1)) else ((d_Mo_weightsOf (x4_f62 &&& (x7_62 ^^^ (-1))) z_f62).bind fun v_22 => if inb x2_f62 4 = true then (if ((q_Mo_lifts z_f62) x2_f62.toNatClampNeg) < v_22 then (self62 x5_62 x6_62 (x7_62 + 1)) else ((d_Mo_likesOf x1_f62 x7_62 z_f62).bind fun v_25 => (d_Mo_likesOf x1_f62 (x4_f62 &&& (x7_62 ^^^ (-1))) z_f62).bind fun v_27 => if v_25 < v_27 then (self62 x5_62 x6_62 (x7_62 + 1)) else ((d_Mo_likesOf x2_f62 (x4_f62 &&& (x7_62 ^^^ (-1))) z_f62).bind fun v_30 => (d_Mo_likesOf x2_f62 x7_62 z_f62).bind fun v_32 => if v_30 < v_32 then (self62 x5_62 x6_62 (x7_62 + 1)) else (if x5_62 = 0 then (self62 (x5_62 + 1) x7_62 (x7_62 + 1)) else (self62 (x5_62 + 1) x6_62 (x7_62 + 1)))))) else none)) else none) else (self62 x5_62 x6_62 (x7_62 + 1)))
def d_Mo_fair_L62 (x1_f62 : Int32) (x2_f62 : Int32) (x3_f62 : Int32) (x4_f62 : Int32) (z_f62 : T_Mo) (k62_193 : Int32 → Int32 → Option (Int32 × T_Mo)) (n : Nat) : Int32 → Int32 → Int32 → Option (Int32 × T_Mo) := recN (fun _ _ _ => none) (fun self => B_Mo_fair_L62 x1_f62 x2_f62 x3_f62 x4_f62 z_f62 k62_193 self) n
def d_Mo_fair (x1 : Int32) (x2 : Int32) (x3 : Int32) (z : T_Mo) : Option (Int32 × T_Mo) :=
  (d_Mo_isPerson x1 z).bind fun v_1 => if v_1 = 0 then (some ((-1), z)) else ((d_Mo_isPerson x2 z).bind fun v_4 => if v_4 = 0 then (some ((-1), z)) else ((d_Mo_in x3 0 1).bind fun v_7 => if v_7 = 0 then (some ((-1), z)) else (if x1 = x2 then (some ((-2), z)) else ((d_Mo_looksForAll z).bind fun v_11 => (d_Mo_thingsOf x1 v_11).bind fun v_13 => (d_Mo_thingsOf x2 v_11).bind fun v_15 => d_Mo_fair_L62 x1 x2 x3 (v_13 ||| v_15) v_11 (fun x5_62 x6_62 => if x3 = 0 then (some (x5_62, v_11)) else (some (x6_62, v_11))) 1000 0 (-5) 0))))
theorem d_Mo_fair_0 : decode b_Mo_fair 0 = .ok (.aload_n 0, 1) := by decide +kernel
theorem d_Mo_fair_1 : decode b_Mo_fair 1 = .ok (.iload_n 1, 1) := by decide +kernel
theorem d_Mo_fair_2 : decode b_Mo_fair 2 = .ok (.invokevirtual 147, 3) := by decide +kernel
theorem d_Mo_fair_5 : decode b_Mo_fair 5 = .ok (.ifCond .eq 20, 3) := by decide +kernel
theorem d_Mo_fair_8 : decode b_Mo_fair 8 = .ok (.aload_n 0, 1) := by decide +kernel
theorem d_Mo_fair_9 : decode b_Mo_fair 9 = .ok (.iload_n 2, 1) := by decide +kernel
theorem d_Mo_fair_10 : decode b_Mo_fair 10 = .ok (.invokevirtual 147, 3) := by decide +kernel
theorem d_Mo_fair_13 : decode b_Mo_fair 13 = .ok (.ifCond .eq 12, 3) := by decide +kernel
theorem d_Mo_fair_16 : decode b_Mo_fair 16 = .ok (.iload_n 3, 1) := by decide +kernel
theorem d_Mo_fair_17 : decode b_Mo_fair 17 = .ok (.iconst 0, 1) := by decide +kernel
theorem d_Mo_fair_18 : decode b_Mo_fair 18 = .ok (.iconst 1, 1) := by decide +kernel
theorem d_Mo_fair_19 : decode b_Mo_fair 19 = .ok (.invokestatic 50, 3) := by decide +kernel
theorem d_Mo_fair_22 : decode b_Mo_fair 22 = .ok (.ifCond .ne 5, 3) := by decide +kernel
theorem d_Mo_fair_25 : decode b_Mo_fair 25 = .ok (.iconst (-1), 1) := by decide +kernel
theorem d_Mo_fair_26 : decode b_Mo_fair 26 = .ok (.ireturn, 1) := by decide +kernel
theorem d_Mo_fair_27 : decode b_Mo_fair 27 = .ok (.iload_n 1, 1) := by decide +kernel
theorem d_Mo_fair_28 : decode b_Mo_fair 28 = .ok (.iload_n 2, 1) := by decide +kernel
theorem d_Mo_fair_29 : decode b_Mo_fair 29 = .ok (.if_icmp .ne 6, 3) := by decide +kernel
theorem d_Mo_fair_32 : decode b_Mo_fair 32 = .ok (.bipush (-2), 2) := by decide +kernel
theorem d_Mo_fair_34 : decode b_Mo_fair 34 = .ok (.ireturn, 1) := by decide +kernel
theorem d_Mo_fair_35 : decode b_Mo_fair 35 = .ok (.aload_n 0, 1) := by decide +kernel
theorem d_Mo_fair_36 : decode b_Mo_fair 36 = .ok (.invokevirtual 178, 3) := by decide +kernel
theorem d_Mo_fair_39 : decode b_Mo_fair 39 = .ok (.aload_n 0, 1) := by decide +kernel
theorem d_Mo_fair_40 : decode b_Mo_fair 40 = .ok (.iload_n 1, 1) := by decide +kernel
theorem d_Mo_fair_41 : decode b_Mo_fair 41 = .ok (.invokevirtual 157, 3) := by decide +kernel
theorem d_Mo_fair_44 : decode b_Mo_fair 44 = .ok (.aload_n 0, 1) := by decide +kernel
theorem d_Mo_fair_45 : decode b_Mo_fair 45 = .ok (.iload_n 2, 1) := by decide +kernel
theorem d_Mo_fair_46 : decode b_Mo_fair 46 = .ok (.invokevirtual 157, 3) := by decide +kernel
theorem d_Mo_fair_49 : decode b_Mo_fair 49 = .ok (.ior, 1) := by decide +kernel
theorem d_Mo_fair_50 : decode b_Mo_fair 50 = .ok (.istore 4, 2) := by decide +kernel
theorem d_Mo_fair_52 : decode b_Mo_fair 52 = .ok (.iconst 0, 1) := by decide +kernel
theorem d_Mo_fair_53 : decode b_Mo_fair 53 = .ok (.istore 5, 2) := by decide +kernel
theorem d_Mo_fair_55 : decode b_Mo_fair 55 = .ok (.bipush (-5), 2) := by decide +kernel
theorem d_Mo_fair_57 : decode b_Mo_fair 57 = .ok (.istore 6, 2) := by decide +kernel
theorem d_Mo_fair_59 : decode b_Mo_fair 59 = .ok (.iconst 0, 1) := by decide +kernel
theorem d_Mo_fair_60 : decode b_Mo_fair 60 = .ok (.istore 7, 2) := by decide +kernel
theorem d_Mo_fair_62 : decode b_Mo_fair 62 = .ok (.iload 7, 2) := by decide +kernel
theorem d_Mo_fair_64 : decode b_Mo_fair 64 = .ok (.iconst 1, 1) := by decide +kernel
theorem d_Mo_fair_65 : decode b_Mo_fair 65 = .ok (.aload_n 0, 1) := by decide +kernel
theorem d_Mo_fair_66 : decode b_Mo_fair 66 = .ok (.getfield 9, 3) := by decide +kernel
theorem d_Mo_fair_69 : decode b_Mo_fair 69 = .ok (.iconst 1, 1) := by decide +kernel
theorem d_Mo_fair_70 : decode b_Mo_fair 70 = .ok (.iaload, 1) := by decide +kernel
theorem d_Mo_fair_71 : decode b_Mo_fair 71 = .ok (.ishl, 1) := by decide +kernel
theorem d_Mo_fair_72 : decode b_Mo_fair 72 = .ok (.if_icmp .ge 121, 3) := by decide +kernel
theorem d_Mo_fair_75 : decode b_Mo_fair 75 = .ok (.iload 4, 2) := by decide +kernel
theorem d_Mo_fair_77 : decode b_Mo_fair 77 = .ok (.iload 7, 2) := by decide +kernel
theorem d_Mo_fair_79 : decode b_Mo_fair 79 = .ok (.iconst (-1), 1) := by decide +kernel
theorem d_Mo_fair_80 : decode b_Mo_fair 80 = .ok (.ixor, 1) := by decide +kernel
theorem d_Mo_fair_81 : decode b_Mo_fair 81 = .ok (.iand, 1) := by decide +kernel
theorem d_Mo_fair_82 : decode b_Mo_fair 82 = .ok (.istore 8, 2) := by decide +kernel
theorem d_Mo_fair_84 : decode b_Mo_fair 84 = .ok (.iload 7, 2) := by decide +kernel
theorem d_Mo_fair_86 : decode b_Mo_fair 86 = .ok (.iload 4, 2) := by decide +kernel
theorem d_Mo_fair_88 : decode b_Mo_fair 88 = .ok (.iconst (-1), 1) := by decide +kernel
theorem d_Mo_fair_89 : decode b_Mo_fair 89 = .ok (.ixor, 1) := by decide +kernel
theorem d_Mo_fair_90 : decode b_Mo_fair 90 = .ok (.iand, 1) := by decide +kernel
theorem d_Mo_fair_91 : decode b_Mo_fair 91 = .ok (.ifCond .ne 37, 3) := by decide +kernel
theorem d_Mo_fair_94 : decode b_Mo_fair 94 = .ok (.aload_n 0, 1) := by decide +kernel
theorem d_Mo_fair_95 : decode b_Mo_fair 95 = .ok (.iload 7, 2) := by decide +kernel
theorem d_Mo_fair_97 : decode b_Mo_fair 97 = .ok (.invokevirtual 204, 3) := by decide +kernel
theorem d_Mo_fair_100 : decode b_Mo_fair 100 = .ok (.aload_n 0, 1) := by decide +kernel
theorem d_Mo_fair_101 : decode b_Mo_fair 101 = .ok (.getfield 31, 3) := by decide +kernel
theorem d_Mo_fair_104 : decode b_Mo_fair 104 = .ok (.iload_n 1, 1) := by decide +kernel
theorem d_Mo_fair_105 : decode b_Mo_fair 105 = .ok (.iaload, 1) := by decide +kernel
theorem d_Mo_fair_106 : decode b_Mo_fair 106 = .ok (.if_icmp .gt 22, 3) := by decide +kernel
theorem d_Mo_fair_109 : decode b_Mo_fair 109 = .ok (.aload_n 0, 1) := by decide +kernel
theorem d_Mo_fair_110 : decode b_Mo_fair 110 = .ok (.iload 8, 2) := by decide +kernel
theorem d_Mo_fair_112 : decode b_Mo_fair 112 = .ok (.invokevirtual 204, 3) := by decide +kernel
theorem d_Mo_fair_115 : decode b_Mo_fair 115 = .ok (.aload_n 0, 1) := by decide +kernel
theorem d_Mo_fair_116 : decode b_Mo_fair 116 = .ok (.getfield 31, 3) := by decide +kernel
theorem d_Mo_fair_119 : decode b_Mo_fair 119 = .ok (.iload_n 2, 1) := by decide +kernel
theorem d_Mo_fair_120 : decode b_Mo_fair 120 = .ok (.iaload, 1) := by decide +kernel
theorem d_Mo_fair_121 : decode b_Mo_fair 121 = .ok (.if_icmp .gt 7, 3) := by decide +kernel
theorem d_Mo_fair_124 : decode b_Mo_fair 124 = .ok (.iconst 1, 1) := by decide +kernel
theorem d_Mo_fair_125 : decode b_Mo_fair 125 = .ok (.goto 4, 3) := by decide +kernel
theorem d_Mo_fair_128 : decode b_Mo_fair 128 = .ok (.iconst 0, 1) := by decide +kernel
theorem d_Mo_fair_129 : decode b_Mo_fair 129 = .ok (.istore 9, 2) := by decide +kernel
theorem d_Mo_fair_131 : decode b_Mo_fair 131 = .ok (.iload 9, 2) := by decide +kernel
theorem d_Mo_fair_133 : decode b_Mo_fair 133 = .ok (.ifCond .eq 54, 3) := by decide +kernel
theorem d_Mo_fair_136 : decode b_Mo_fair 136 = .ok (.aload_n 0, 1) := by decide +kernel
theorem d_Mo_fair_137 : decode b_Mo_fair 137 = .ok (.iload_n 1, 1) := by decide +kernel
theorem d_Mo_fair_138 : decode b_Mo_fair 138 = .ok (.iload 7, 2) := by decide +kernel
theorem d_Mo_fair_140 : decode b_Mo_fair 140 = .ok (.invokevirtual 207, 3) := by decide +kernel
theorem d_Mo_fair_143 : decode b_Mo_fair 143 = .ok (.aload_n 0, 1) := by decide +kernel
theorem d_Mo_fair_144 : decode b_Mo_fair 144 = .ok (.iload_n 1, 1) := by decide +kernel
theorem d_Mo_fair_145 : decode b_Mo_fair 145 = .ok (.iload 8, 2) := by decide +kernel
theorem d_Mo_fair_147 : decode b_Mo_fair 147 = .ok (.invokevirtual 207, 3) := by decide +kernel
theorem d_Mo_fair_150 : decode b_Mo_fair 150 = .ok (.if_icmp .lt 37, 3) := by decide +kernel
theorem d_Mo_fair_153 : decode b_Mo_fair 153 = .ok (.aload_n 0, 1) := by decide +kernel
theorem d_Mo_fair_154 : decode b_Mo_fair 154 = .ok (.iload_n 2, 1) := by decide +kernel
theorem d_Mo_fair_155 : decode b_Mo_fair 155 = .ok (.iload 8, 2) := by decide +kernel
theorem d_Mo_fair_157 : decode b_Mo_fair 157 = .ok (.invokevirtual 207, 3) := by decide +kernel
theorem d_Mo_fair_160 : decode b_Mo_fair 160 = .ok (.aload_n 0, 1) := by decide +kernel
theorem d_Mo_fair_161 : decode b_Mo_fair 161 = .ok (.iload_n 2, 1) := by decide +kernel
theorem d_Mo_fair_162 : decode b_Mo_fair 162 = .ok (.iload 7, 2) := by decide +kernel
theorem d_Mo_fair_164 : decode b_Mo_fair 164 = .ok (.invokevirtual 207, 3) := by decide +kernel
theorem d_Mo_fair_167 : decode b_Mo_fair 167 = .ok (.if_icmp .lt 20, 3) := by decide +kernel
theorem d_Mo_fair_170 : decode b_Mo_fair 170 = .ok (.iload 5, 2) := by decide +kernel
theorem d_Mo_fair_172 : decode b_Mo_fair 172 = .ok (.ifCond .ne 8, 3) := by decide +kernel
theorem d_Mo_fair_175 : decode b_Mo_fair 175 = .ok (.iload 7, 2) := by decide +kernel
theorem d_Mo_fair_177 : decode b_Mo_fair 177 = .ok (.goto 5, 3) := by decide +kernel
theorem d_Mo_fair_180 : decode b_Mo_fair 180 = .ok (.iload 6, 2) := by decide +kernel
theorem d_Mo_fair_182 : decode b_Mo_fair 182 = .ok (.istore 6, 2) := by decide +kernel
theorem d_Mo_fair_184 : decode b_Mo_fair 184 = .ok (.iinc 5 1, 3) := by decide +kernel
theorem d_Mo_fair_187 : decode b_Mo_fair 187 = .ok (.iinc 7 1, 3) := by decide +kernel
theorem d_Mo_fair_190 : decode b_Mo_fair 190 = .ok (.goto (-128), 3) := by decide +kernel
theorem d_Mo_fair_193 : decode b_Mo_fair 193 = .ok (.iload_n 3, 1) := by decide +kernel
theorem d_Mo_fair_194 : decode b_Mo_fair 194 = .ok (.ifCond .ne 8, 3) := by decide +kernel
theorem d_Mo_fair_197 : decode b_Mo_fair 197 = .ok (.iload 5, 2) := by decide +kernel
theorem d_Mo_fair_199 : decode b_Mo_fair 199 = .ok (.goto 5, 3) := by decide +kernel
theorem d_Mo_fair_202 : decode b_Mo_fair 202 = .ok (.iload 6, 2) := by decide +kernel
theorem d_Mo_fair_204 : decode b_Mo_fair 204 = .ok (.ireturn, 1) := by decide +kernel
theorem o_Mo_fair : OkV y_Mo_fair "OwnsLiftModel" b_Mo_fair 10 (some .int) 3 := ⟨⟨rfl, by decide +kernel, by decide +kernel, by decide +kernel⟩, g_1323, g_1324, g_81, g_1325⟩
set_option maxHeartbeats 4000000 in
set_option maxRecDepth 100000 in
theorem c_Mo_fair (l : Launch) (D : va_G) (g : Nat → ClassId) (a : Nat → Nat) (x1 : Int32) (x2 : Int32) (x3 : Int32) (z : T_Mo) (v : Int32 × T_Mo) (h : d_Mo_fair x1 x2 x3 z = some v) :
    MI l y_Mo_fair b_Mo_fair 10 .int ({ frames := 4, cells := 0, slots := 0, locals := 97 } : Room) D g [.ref (a 0), .int x1, .int x2, .int x3] (ws_Mo g a z) (v.1) (ws_Mo g a v.2) := by
  have hd := h
  unfold d_Mo_fair at hd
  refine enterI rfl (Nat.le_of_ble_eq_true rfl) (fun p e s m below meth c A ls hx hb hml hr hown hg hlk hK hA hP hD hS hCs hl => ?_)
  have hown : s.vm.findClass "OwnsLiftModel" = some m.cls := hown
  have hl : lv_has ls 10 [(0, .ref (a 0)), (1, .int x1), (2, .int x2), (3, .int x3)] := hl
  show GI p l e s m ({ frames := 4, cells := 0, slots := 0, locals := 97 } : Room) ([.ref (a 0), .int x1, .int x2, .int x3] : List Value).toArray below meth c A D g (ws_Mo g a v.2) (v.1) s.heap [] (F0 m 0 ls [])
  refine lv_aload_n hx hb d_Mo_fair_0 rfl (lv_at hl 0 rfl) ?_
  refine lv_iload_n hx hb d_Mo_fair_1 rfl (lv_at hl 1 rfl) ?_
  obtain ⟨v_1, e_2, hd⟩ := bind_s hd
  refine callVI (ws' := ws_Mo g a z) (rest := []) (As := [.int x1]) hx hb hml hown hg hK hP hD hS hA hCs hl.1 (c_Mo_isPerson l D g a x1 z _ e_2) o_Mo_isPerson g_1147 (ci := 1) (q0 := 0) rfl rfl (List.range' 0 12) (segC1 rfl rfl) (by decide) rfl (segP1 rfl rfl) rfl rfl (Nat.le_of_ble_eq_true rfl) ⟨rfl, rfl, Nat.le_of_ble_eq_true rfl, Nat.le_of_ble_eq_true rfl⟩ d_Mo_fair_2 (fun H locs hP hD hS => ?_)
  refine lv_if_eq (tgt := 25) hx hb d_Mo_fair_5 (by decide) (fun h_3 => ?_) (fun h_3 => ?_)
  · have hd := ite_t hd h_3
    refine lv_iconst (v := (-1)) hx hb d_Mo_fair_25 (by decide) ?_
    obtain rfl := Option.some.inj hd
    exact retI hx hb hr hlk hK hP hD hS d_Mo_fair_26 rfl
  · have hd := ite_f hd h_3
    refine lv_aload_n hx hb d_Mo_fair_8 rfl (lv_at hl 0 rfl) ?_
    refine lv_iload_n hx hb d_Mo_fair_9 rfl (lv_at hl 2 rfl) ?_
    obtain ⟨v_4, e_5, hd⟩ := bind_s hd
    refine callVI (ws' := ws_Mo g a z) (rest := []) (As := [.int x2]) hx hb hml hown hg hK hP hD hS hA hCs hl.1 (c_Mo_isPerson l D g a x2 z _ e_5) o_Mo_isPerson g_1147 (ci := 1) (q0 := 0) rfl rfl (List.range' 0 12) (segC1 rfl rfl) (by decide) rfl (segP1 rfl rfl) rfl rfl (Nat.le_of_ble_eq_true rfl) ⟨rfl, rfl, Nat.le_of_ble_eq_true rfl, Nat.le_of_ble_eq_true rfl⟩ d_Mo_fair_10 (fun H locs hP hD hS => ?_)
    refine lv_if_eq (tgt := 25) hx hb d_Mo_fair_13 (by decide) (fun h_6 => ?_) (fun h_6 => ?_)
    · have hd := ite_t hd h_6
      refine lv_iconst (v := (-1)) hx hb d_Mo_fair_25 (by decide) ?_
      obtain rfl := Option.some.inj hd
      exact retI hx hb hr hlk hK hP hD hS d_Mo_fair_26 rfl
    · have hd := ite_f hd h_6
      refine lv_iload_n hx hb d_Mo_fair_16 rfl (lv_at hl 3 rfl) ?_
      refine lv_iconst (v := 0) hx hb d_Mo_fair_17 (by decide) ?_
      refine lv_iconst (v := 1) hx hb d_Mo_fair_18 (by decide) ?_
      obtain ⟨v_7, e_8, hd⟩ := bind_s hd
      refine callSI (ws' := ws_Mo g a z) (rest := []) (As := [.int x3, .int 0, .int 1]) hx hb hml hown hg hK hP hD hS hA hCs hl.1 (c_Mo_in l D g  x3 0 1 _ e_8) o_Mo_in g_1076 [] segC0 rfl rfl segP0 rfl rfl (Nat.le_of_ble_eq_true rfl) ⟨rfl, rfl, Nat.le_of_ble_eq_true rfl, Nat.le_of_ble_eq_true rfl⟩ d_Mo_fair_19 (fun H locs hP hD hS => ?_)
      refine lv_if_ne (tgt := 27) hx hb d_Mo_fair_22 (by decide) (fun h_9 => ?_) (fun h_9 => ?_)
      · have hd := ite_f hd h_9
        refine lv_iload_n hx hb d_Mo_fair_27 rfl (lv_at hl 1 rfl) ?_
        refine lv_iload_n hx hb d_Mo_fair_28 rfl (lv_at hl 2 rfl) ?_
        refine lv_icmp_ne (tgt := 35) hx hb d_Mo_fair_29 (by decide) (fun h_10 => ?_) (fun h_10 => ?_)
        · have hd := ite_f hd h_10
          refine lv_aload_n hx hb d_Mo_fair_35 rfl (lv_at hl 0 rfl) ?_
          obtain ⟨v_11, e_12, hd⟩ := bind_s hd
          refine callVV (ws' := ws_Mo g a v_11) (rest := []) (As := []) hx hb hml hown hg hK hP hD hS hA hCs hl.1 (c_Mo_looksForAll l D g a z _ e_12) o_Mo_looksForAll g_1218 (ci := 1) (q0 := 0) rfl rfl (List.range' 0 12) (segC1 rfl rfl) (by decide) rfl (segP1 rfl rfl) rfl rfl (Nat.le_of_ble_eq_true rfl) ⟨rfl, rfl, Nat.le_of_ble_eq_true rfl, Nat.le_of_ble_eq_true rfl⟩ d_Mo_fair_36 (fun H locs hP hD hS => ?_)
          refine lv_aload_n hx hb d_Mo_fair_39 rfl (lv_at hl 0 rfl) ?_
          refine lv_iload_n hx hb d_Mo_fair_40 rfl (lv_at hl 1 rfl) ?_
          obtain ⟨v_13, e_14, hd⟩ := bind_s hd
          refine callVI (ws' := ws_Mo g a v_11) (rest := []) (As := [.int x1]) hx hb hml hown hg hK hP hD hS hA hCs hl.1 (c_Mo_thingsOf l D g a x1 v_11 _ e_14) o_Mo_thingsOf g_1171 (ci := 1) (q0 := 0) rfl rfl (List.range' 0 12) (segC1 rfl rfl) (by decide) rfl (segP1 rfl rfl) rfl rfl (Nat.le_of_ble_eq_true rfl) ⟨rfl, rfl, Nat.le_of_ble_eq_true rfl, Nat.le_of_ble_eq_true rfl⟩ d_Mo_fair_41 (fun H locs hP hD hS => ?_)
          refine lv_aload_n hx hb d_Mo_fair_44 rfl (lv_at hl 0 rfl) ?_
          refine lv_iload_n hx hb d_Mo_fair_45 rfl (lv_at hl 2 rfl) ?_
          obtain ⟨v_15, e_16, hd⟩ := bind_s hd
          refine callVI (ws' := ws_Mo g a v_11) (rest := [.int v_13]) (As := [.int x2]) hx hb hml hown hg hK hP hD hS hA hCs hl.1 (c_Mo_thingsOf l D g a x2 v_11 _ e_16) o_Mo_thingsOf g_1171 (ci := 1) (q0 := 0) rfl rfl (List.range' 0 12) (segC1 rfl rfl) (by decide) rfl (segP1 rfl rfl) rfl rfl (Nat.le_of_ble_eq_true rfl) ⟨rfl, rfl, Nat.le_of_ble_eq_true rfl, Nat.le_of_ble_eq_true rfl⟩ d_Mo_fair_46 (fun H locs hP hD hS => ?_)
          refine lv_ior hx hb d_Mo_fair_49 ?_
          refine lv_istore (lv' := [(4, .int (v_13 ||| v_15)), (0, .ref (a 0)), (1, .int x1), (2, .int x2), (3, .int x3)]) hx hb d_Mo_fair_50 hl (by decide) rfl (fun ls hl => ?_)
          refine lv_iconst (v := 0) hx hb d_Mo_fair_52 (by decide) ?_
          refine lv_istore (lv' := [(5, .int 0), (4, .int (v_13 ||| v_15)), (0, .ref (a 0)), (1, .int x1), (2, .int x2), (3, .int x3)]) hx hb d_Mo_fair_53 hl (by decide) rfl (fun ls hl => ?_)
          refine lv_bipush (v := (-5)) hx hb d_Mo_fair_55 (by decide) ?_
          refine lv_istore (lv' := [(6, .int (-5)), (5, .int 0), (4, .int (v_13 ||| v_15)), (0, .ref (a 0)), (1, .int x1), (2, .int x2), (3, .int x3)]) hx hb d_Mo_fair_57 hl (by decide) rfl (fun ls hl => ?_)
          refine lv_iconst (v := 0) hx hb d_Mo_fair_59 (by decide) ?_
          refine lv_istore (lv' := [(7, .int 0), (6, .int (-5)), (5, .int 0), (4, .int (v_13 ||| v_15)), (0, .ref (a 0)), (1, .int x1), (2, .int x2), (3, .int x3)]) hx hb d_Mo_fair_60 hl (by decide) rfl (fun ls hl => ?_)
          have ex62_193 : ∀ (x5_62 : Int32) (x6_62 : Int32) (H : Heap) (locs : List Loc) (ls : Array Slot), va_P D classes (ws_Mo g a v_11) H → va_D A (ws_Mo g a v_11) → va_S A s.heap H locs → lv_has ls 10 [(3, .int x3), (5, .int x5_62), (6, .int x6_62)] → (if x3 = 0 then (some (x5_62, v_11)) else (some (x6_62, v_11))) = some v → GI p l e s m ({ frames := 4, cells := 0, slots := 0, locals := 97 } : Room) ([.ref (a 0), .int x1, .int x2, .int x3] : List Value).toArray below meth c A D g (ws_Mo g a v.2) (v.1) H locs (F0 m 193 ls []) := by
            intro x5_62 x6_62 H locs ls hP hD hS hl hd
            refine lv_iload_n hx hb d_Mo_fair_193 rfl (lv_at hl 0 rfl) ?_
            refine lv_if_ne (tgt := 202) hx hb d_Mo_fair_194 (by decide) (fun h_38 => ?_) (fun h_38 => ?_)
            · have hd := ite_f hd h_38
              refine lv_iload hx hb d_Mo_fair_202 (lv_at hl 2 rfl) ?_
              obtain rfl := Option.some.inj hd
              exact retI hx hb hr hlk hK hP hD hS d_Mo_fair_204 rfl
            · have hd := ite_t hd h_38
              refine lv_iload hx hb d_Mo_fair_197 (lv_at hl 1 rfl) ?_
              refine lv_goto (tgt := 204) hx hb d_Mo_fair_199 (by decide) ?_
              obtain rfl := Option.some.inj hd
              exact retI hx hb hr hlk hK hP hD hS d_Mo_fair_204 rfl
          have lp62 : ∀ (x1_f62 : Int32) (x2_f62 : Int32) (x3_f62 : Int32) (x4_f62 : Int32) (z_f62 : T_Mo) (k62_193 : Int32 → Int32 → Option (Int32 × T_Mo)) (hk62_193 : ∀ (x5_62 : Int32) (x6_62 : Int32) (H : Heap) (locs : List Loc) (ls : Array Slot), va_P D classes (ws_Mo g a z_f62) H → va_D A (ws_Mo g a z_f62) → va_S A s.heap H locs → lv_has ls 10 [(3, .int x3_f62), (5, .int x5_62), (6, .int x6_62)] → k62_193 x5_62 x6_62 = some v → GI p l e s m ({ frames := 4, cells := 0, slots := 0, locals := 97 } : Room) ([.ref (a 0), .int x1, .int x2, .int x3] : List Value).toArray below meth c A D g (ws_Mo g a v.2) (v.1) H locs (F0 m 193 ls [])) (n : Nat) (x5_62 : Int32) (x6_62 : Int32) (x7_62 : Int32) (H : Heap) (locs : List Loc) (ls : Array Slot), va_P D classes (ws_Mo g a z_f62) H → va_D A (ws_Mo g a z_f62) → va_S A s.heap H locs → lv_has ls 10 [(0, .ref (a 0)), (1, .int x1_f62), (2, .int x2_f62), (3, .int x3_f62), (4, .int x4_f62), (5, .int x5_62), (6, .int x6_62), (7, .int x7_62)] → d_Mo_fair_L62 x1_f62 x2_f62 x3_f62 x4_f62 z_f62 k62_193 n x5_62 x6_62 x7_62 = some v → GI p l e s m ({ frames := 4, cells := 0, slots := 0, locals := 97 } : Room) ([.ref (a 0), .int x1, .int x2, .int x3] : List Value).toArray below meth c A D g (ws_Mo g a v.2) (v.1) H locs (F0 m 62 ls []) := by
            intro x1_f62 x2_f62 x3_f62 x4_f62 z_f62 k62_193 hk62_193 n
            induction n with
            | zero =>
              intro  x5_62 x6_62 x7_62 H locs ls hP hD hS hl hd
              have hd : none = some v := hd
              cases hd
            | succ n ih62 =>
              intro  x5_62 x6_62 x7_62 H locs ls hP hD hS hl hd
              have hd : B_Mo_fair_L62 x1_f62 x2_f62 x3_f62 x4_f62 z_f62 k62_193 (d_Mo_fair_L62 x1_f62 x2_f62 x3_f62 x4_f62 z_f62 k62_193 n) x5_62 x6_62 x7_62 = some v := hd
              generalize d_Mo_fair_L62 x1_f62 x2_f62 x3_f62 x4_f62 z_f62 k62_193 n = self62 at ih62 hd
              unfold B_Mo_fair_L62 at hd
              refine lv_iload hx hb d_Mo_fair_62 (lv_at hl 7 rfl) ?_
              refine lv_iconst (v := 1) hx hb d_Mo_fair_64 (by decide) ?_
              refine lv_aload_n hx hb d_Mo_fair_65 rfl (lv_at hl 0 rfl) ?_
              refine va_get (D := D) (ci := 1) (v := .ref (a 1)) (C := R_Mo) (T := F_Mo) (N := 26) hx hb hg i_Mo hown hK hP 0 rfl rfl 1 (by decide) (hg _ g_993) (fun _ h9 => h9) rfl d_Mo_fair_66 ?_
              refine lv_iconst (v := 1) hx hb d_Mo_fair_69 (by decide) ?_
              refine ialdK hx hb hK hP 1 0 rfl rfl (inb_t (by decide +kernel)) (k := 1) (by decide +kernel) d_Mo_fair_70 ?_
              refine lv_ishl hx hb d_Mo_fair_71 ?_
              refine lv_icmp_ge (tgt := 193) hx hb d_Mo_fair_72 (by decide) (fun h_17 => ?_) (fun h_17 => ?_)
              · have hd := ite_t hd h_17
                exact hk62_193 x5_62 x6_62 _ _ _ hP hD hS (lv_sub hl [3, 5, 6] rfl) hd
              · have hd := ite_f hd h_17
                refine lv_iload hx hb d_Mo_fair_75 (lv_at hl 4 rfl) ?_
                refine lv_iload hx hb d_Mo_fair_77 (lv_at hl 7 rfl) ?_
                refine lv_iconst (v := (-1)) hx hb d_Mo_fair_79 (by decide) ?_
                refine lv_ixor hx hb d_Mo_fair_80 ?_
                refine lv_iand hx hb d_Mo_fair_81 ?_
                refine lv_istore (lv' := [(8, .int (x4_f62 &&& (x7_62 ^^^ (-1)))), (0, .ref (a 0)), (1, .int x1_f62), (2, .int x2_f62), (3, .int x3_f62), (4, .int x4_f62), (5, .int x5_62), (6, .int x6_62), (7, .int x7_62)]) hx hb d_Mo_fair_82 hl (by decide) rfl (fun ls hl => ?_)
                refine lv_iload hx hb d_Mo_fair_84 (lv_at hl 8 rfl) ?_
                refine lv_iload hx hb d_Mo_fair_86 (lv_at hl 5 rfl) ?_
                refine lv_iconst (v := (-1)) hx hb d_Mo_fair_88 (by decide) ?_
                refine lv_ixor hx hb d_Mo_fair_89 ?_
                refine lv_iand hx hb d_Mo_fair_90 ?_
                refine lv_if_ne (tgt := 128) hx hb d_Mo_fair_91 (by decide) (fun h_18 => ?_) (fun h_18 => ?_)
                · have hd := ite_f hd h_18
                  refine lv_iconst (v := 0) hx hb d_Mo_fair_128 (by decide) ?_
                  refine lv_istore (lv' := [(9, .int 0), (8, .int (x4_f62 &&& (x7_62 ^^^ (-1)))), (0, .ref (a 0)), (1, .int x1_f62), (2, .int x2_f62), (3, .int x3_f62), (4, .int x4_f62), (5, .int x5_62), (6, .int x6_62), (7, .int x7_62)]) hx hb d_Mo_fair_129 hl (by decide) rfl (fun ls hl => ?_)
                  refine lv_iload hx hb d_Mo_fair_131 (lv_at hl 0 rfl) ?_
                  refine lv_if_eq (tgt := 187) hx hb d_Mo_fair_133 (by decide) (fun _ => ?_) (fun h9 => absurd (by decide) h9)
                  refine lv_iinc (v := x7_62 + 1) (lv' := [(7, .int (x7_62 + 1)), (9, .int 0), (8, .int (x4_f62 &&& (x7_62 ^^^ (-1)))), (0, .ref (a 0)), (1, .int x1_f62), (2, .int x2_f62), (3, .int x3_f62), (4, .int x4_f62), (5, .int x5_62), (6, .int x6_62)]) hx hb d_Mo_fair_187 hl (k := 9) rfl (by rfl) (by decide) rfl (fun ls hl => ?_)
                  refine lv_goto (tgt := 62) hx hb d_Mo_fair_190 (by decide) ?_
                  exact ih62 x5_62 x6_62 (x7_62 + 1) _ _ _ hP hD hS (lv_sub hl [3, 4, 5, 6, 7, 8, 9, 0] rfl) hd
                · have hd := ite_t hd h_18
                  refine lv_aload_n hx hb d_Mo_fair_94 rfl (lv_at hl 1 rfl) ?_
                  refine lv_iload hx hb d_Mo_fair_95 (lv_at hl 8 rfl) ?_
                  obtain ⟨v_19, e_20, hd⟩ := bind_s hd
                  refine callVI (ws' := ws_Mo g a z_f62) (rest := []) (As := [.int x7_62]) hx hb hml hown hg hK hP hD hS hA hCs hl.1 (c_Mo_weightsOf l D g a x7_62 z_f62 _ e_20) o_Mo_weightsOf g_1278 (ci := 1) (q0 := 0) rfl rfl (List.range' 0 12) (segC1 rfl rfl) (by decide) rfl (segP1 rfl rfl) rfl rfl (Nat.le_of_ble_eq_true rfl) ⟨rfl, rfl, Nat.le_of_ble_eq_true rfl, Nat.le_of_ble_eq_true rfl⟩ d_Mo_fair_97 (fun H locs hP hD hS => ?_)
                  refine lv_aload_n hx hb d_Mo_fair_100 rfl (lv_at hl 1 rfl) ?_
                  refine va_get (D := D) (ci := 1) (v := .ref (a 7)) (C := R_Mo) (T := F_Mo) (N := 26) hx hb hg i_Mo hown hK hP 0 rfl rfl 13 (by decide) (hg _ g_1005) (fun _ h9 => h9) rfl d_Mo_fair_101 ?_
                  refine lv_iload_n hx hb d_Mo_fair_104 rfl (lv_at hl 2 rfl) ?_
                  obtain ⟨h_37, hd⟩ := ite_s hd
                  refine ialdK hx hb hK hP 7 0 rfl rfl (inb_t h_37) rfl d_Mo_fair_105 ?_
                  refine lv_icmp_gt (tgt := 128) hx hb d_Mo_fair_106 (by decide) (fun h_21 => ?_) (fun h_21 => ?_)
                  · have hd := ite_t hd h_21
                    refine lv_iconst (v := 0) hx hb d_Mo_fair_128 (by decide) ?_
                    refine lv_istore (lv' := [(9, .int 0), (8, .int (x4_f62 &&& (x7_62 ^^^ (-1)))), (0, .ref (a 0)), (1, .int x1_f62), (2, .int x2_f62), (3, .int x3_f62), (4, .int x4_f62), (5, .int x5_62), (6, .int x6_62), (7, .int x7_62)]) hx hb d_Mo_fair_129 hl (by decide) rfl (fun ls hl => ?_)
                    refine lv_iload hx hb d_Mo_fair_131 (lv_at hl 0 rfl) ?_
                    refine lv_if_eq (tgt := 187) hx hb d_Mo_fair_133 (by decide) (fun _ => ?_) (fun h9 => absurd (by decide) h9)
                    refine lv_iinc (v := x7_62 + 1) (lv' := [(7, .int (x7_62 + 1)), (9, .int 0), (8, .int (x4_f62 &&& (x7_62 ^^^ (-1)))), (0, .ref (a 0)), (1, .int x1_f62), (2, .int x2_f62), (3, .int x3_f62), (4, .int x4_f62), (5, .int x5_62), (6, .int x6_62)]) hx hb d_Mo_fair_187 hl (k := 9) rfl (by rfl) (by decide) rfl (fun ls hl => ?_)
                    refine lv_goto (tgt := 62) hx hb d_Mo_fair_190 (by decide) ?_
                    exact ih62 x5_62 x6_62 (x7_62 + 1) _ _ _ hP hD hS (lv_sub hl [3, 4, 5, 6, 7, 8, 9, 0] rfl) hd
                  · have hd := ite_f hd h_21
                    refine lv_aload_n hx hb d_Mo_fair_109 rfl (lv_at hl 1 rfl) ?_
                    refine lv_iload hx hb d_Mo_fair_110 (lv_at hl 0 rfl) ?_
                    obtain ⟨v_22, e_23, hd⟩ := bind_s hd
                    refine callVI (ws' := ws_Mo g a z_f62) (rest := []) (As := [.int (x4_f62 &&& (x7_62 ^^^ (-1)))]) hx hb hml hown hg hK hP hD hS hA hCs hl.1 (c_Mo_weightsOf l D g a (x4_f62 &&& (x7_62 ^^^ (-1))) z_f62 _ e_23) o_Mo_weightsOf g_1278 (ci := 1) (q0 := 0) rfl rfl (List.range' 0 12) (segC1 rfl rfl) (by decide) rfl (segP1 rfl rfl) rfl rfl (Nat.le_of_ble_eq_true rfl) ⟨rfl, rfl, Nat.le_of_ble_eq_true rfl, Nat.le_of_ble_eq_true rfl⟩ d_Mo_fair_112 (fun H locs hP hD hS => ?_)
                    refine lv_aload_n hx hb d_Mo_fair_115 rfl (lv_at hl 1 rfl) ?_
                    refine va_get (D := D) (ci := 1) (v := .ref (a 7)) (C := R_Mo) (T := F_Mo) (N := 26) hx hb hg i_Mo hown hK hP 0 rfl rfl 13 (by decide) (hg _ g_1005) (fun _ h9 => h9) rfl d_Mo_fair_116 ?_
                    refine lv_iload_n hx hb d_Mo_fair_119 rfl (lv_at hl 3 rfl) ?_
                    obtain ⟨h_36, hd⟩ := ite_s hd
                    refine ialdK hx hb hK hP 7 0 rfl rfl (inb_t h_36) rfl d_Mo_fair_120 ?_
                    refine lv_icmp_gt (tgt := 128) hx hb d_Mo_fair_121 (by decide) (fun h_24 => ?_) (fun h_24 => ?_)
                    · have hd := ite_t hd h_24
                      refine lv_iconst (v := 0) hx hb d_Mo_fair_128 (by decide) ?_
                      refine lv_istore (lv' := [(9, .int 0), (8, .int (x4_f62 &&& (x7_62 ^^^ (-1)))), (0, .ref (a 0)), (1, .int x1_f62), (2, .int x2_f62), (3, .int x3_f62), (4, .int x4_f62), (5, .int x5_62), (6, .int x6_62), (7, .int x7_62)]) hx hb d_Mo_fair_129 hl (by decide) rfl (fun ls hl => ?_)
                      refine lv_iload hx hb d_Mo_fair_131 (lv_at hl 0 rfl) ?_
                      refine lv_if_eq (tgt := 187) hx hb d_Mo_fair_133 (by decide) (fun _ => ?_) (fun h9 => absurd (by decide) h9)
                      refine lv_iinc (v := x7_62 + 1) (lv' := [(7, .int (x7_62 + 1)), (9, .int 0), (8, .int (x4_f62 &&& (x7_62 ^^^ (-1)))), (0, .ref (a 0)), (1, .int x1_f62), (2, .int x2_f62), (3, .int x3_f62), (4, .int x4_f62), (5, .int x5_62), (6, .int x6_62)]) hx hb d_Mo_fair_187 hl (k := 9) rfl (by rfl) (by decide) rfl (fun ls hl => ?_)
                      refine lv_goto (tgt := 62) hx hb d_Mo_fair_190 (by decide) ?_
                      exact ih62 x5_62 x6_62 (x7_62 + 1) _ _ _ hP hD hS (lv_sub hl [3, 4, 5, 6, 7, 8, 9, 0] rfl) hd
                    · have hd := ite_f hd h_24
                      refine lv_iconst (v := 1) hx hb d_Mo_fair_124 (by decide) ?_
                      refine lv_goto (tgt := 129) hx hb d_Mo_fair_125 (by decide) ?_
                      refine lv_istore (lv' := [(9, .int 1), (8, .int (x4_f62 &&& (x7_62 ^^^ (-1)))), (0, .ref (a 0)), (1, .int x1_f62), (2, .int x2_f62), (3, .int x3_f62), (4, .int x4_f62), (5, .int x5_62), (6, .int x6_62), (7, .int x7_62)]) hx hb d_Mo_fair_129 hl (by decide) rfl (fun ls hl => ?_)
                      refine lv_iload hx hb d_Mo_fair_131 (lv_at hl 0 rfl) ?_
                      refine lv_if_eq (tgt := 187) hx hb d_Mo_fair_133 (by decide) (fun h9 => absurd h9 (by decide)) (fun _ => ?_)
                      refine lv_aload_n hx hb d_Mo_fair_136 rfl (lv_at hl 2 rfl) ?_
                      refine lv_iload_n hx hb d_Mo_fair_137 rfl (lv_at hl 3 rfl) ?_
                      refine lv_iload hx hb d_Mo_fair_138 (lv_at hl 9 rfl) ?_
                      obtain ⟨v_25, e_26, hd⟩ := bind_s hd
                      refine callVI (ws' := ws_Mo g a z_f62) (rest := []) (As := [.int x1_f62, .int x7_62]) hx hb hml hown hg hK hP hD hS hA hCs hl.1 (c_Mo_likesOf l D g a x1_f62 x7_62 z_f62 _ e_26) o_Mo_likesOf g_1282 (ci := 1) (q0 := 0) rfl rfl (List.range' 0 12) (segC1 rfl rfl) (by decide) rfl (segP1 rfl rfl) rfl rfl (Nat.le_of_ble_eq_true rfl) ⟨rfl, rfl, Nat.le_of_ble_eq_true rfl, Nat.le_of_ble_eq_true rfl⟩ d_Mo_fair_140 (fun H locs hP hD hS => ?_)
                      refine lv_aload_n hx hb d_Mo_fair_143 rfl (lv_at hl 2 rfl) ?_
                      refine lv_iload_n hx hb d_Mo_fair_144 rfl (lv_at hl 3 rfl) ?_
                      refine lv_iload hx hb d_Mo_fair_145 (lv_at hl 1 rfl) ?_
                      obtain ⟨v_27, e_28, hd⟩ := bind_s hd
                      refine callVI (ws' := ws_Mo g a z_f62) (rest := [.int v_25]) (As := [.int x1_f62, .int (x4_f62 &&& (x7_62 ^^^ (-1)))]) hx hb hml hown hg hK hP hD hS hA hCs hl.1 (c_Mo_likesOf l D g a x1_f62 (x4_f62 &&& (x7_62 ^^^ (-1))) z_f62 _ e_28) o_Mo_likesOf g_1282 (ci := 1) (q0 := 0) rfl rfl (List.range' 0 12) (segC1 rfl rfl) (by decide) rfl (segP1 rfl rfl) rfl rfl (Nat.le_of_ble_eq_true rfl) ⟨rfl, rfl, Nat.le_of_ble_eq_true rfl, Nat.le_of_ble_eq_true rfl⟩ d_Mo_fair_147 (fun H locs hP hD hS => ?_)
                      refine lv_icmp_lt (tgt := 187) hx hb d_Mo_fair_150 (by decide) (fun h_29 => ?_) (fun h_29 => ?_)
                      · have hd := ite_t hd h_29
                        refine lv_iinc (v := x7_62 + 1) (lv' := [(7, .int (x7_62 + 1)), (9, .int 1), (8, .int (x4_f62 &&& (x7_62 ^^^ (-1)))), (0, .ref (a 0)), (1, .int x1_f62), (2, .int x2_f62), (3, .int x3_f62), (4, .int x4_f62), (5, .int x5_62), (6, .int x6_62)]) hx hb d_Mo_fair_187 hl (k := 9) rfl (by rfl) (by decide) rfl (fun ls hl => ?_)
                        refine lv_goto (tgt := 62) hx hb d_Mo_fair_190 (by decide) ?_
                        exact ih62 x5_62 x6_62 (x7_62 + 1) _ _ _ hP hD hS (lv_sub hl [3, 4, 5, 6, 7, 8, 9, 0] rfl) hd
                      · have hd := ite_f hd h_29
                        refine lv_aload_n hx hb d_Mo_fair_153 rfl (lv_at hl 2 rfl) ?_
                        refine lv_iload_n hx hb d_Mo_fair_154 rfl (lv_at hl 4 rfl) ?_
                        refine lv_iload hx hb d_Mo_fair_155 (lv_at hl 1 rfl) ?_
                        obtain ⟨v_30, e_31, hd⟩ := bind_s hd
                        refine callVI (ws' := ws_Mo g a z_f62) (rest := []) (As := [.int x2_f62, .int (x4_f62 &&& (x7_62 ^^^ (-1)))]) hx hb hml hown hg hK hP hD hS hA hCs hl.1 (c_Mo_likesOf l D g a x2_f62 (x4_f62 &&& (x7_62 ^^^ (-1))) z_f62 _ e_31) o_Mo_likesOf g_1282 (ci := 1) (q0 := 0) rfl rfl (List.range' 0 12) (segC1 rfl rfl) (by decide) rfl (segP1 rfl rfl) rfl rfl (Nat.le_of_ble_eq_true rfl) ⟨rfl, rfl, Nat.le_of_ble_eq_true rfl, Nat.le_of_ble_eq_true rfl⟩ d_Mo_fair_157 (fun H locs hP hD hS => ?_)
                        refine lv_aload_n hx hb d_Mo_fair_160 rfl (lv_at hl 2 rfl) ?_
                        refine lv_iload_n hx hb d_Mo_fair_161 rfl (lv_at hl 4 rfl) ?_
                        refine lv_iload hx hb d_Mo_fair_162 (lv_at hl 9 rfl) ?_
                        obtain ⟨v_32, e_33, hd⟩ := bind_s hd
                        refine callVI (ws' := ws_Mo g a z_f62) (rest := [.int v_30]) (As := [.int x2_f62, .int x7_62]) hx hb hml hown hg hK hP hD hS hA hCs hl.1 (c_Mo_likesOf l D g a x2_f62 x7_62 z_f62 _ e_33) o_Mo_likesOf g_1282 (ci := 1) (q0 := 0) rfl rfl (List.range' 0 12) (segC1 rfl rfl) (by decide) rfl (segP1 rfl rfl) rfl rfl (Nat.le_of_ble_eq_true rfl) ⟨rfl, rfl, Nat.le_of_ble_eq_true rfl, Nat.le_of_ble_eq_true rfl⟩ d_Mo_fair_164 (fun H locs hP hD hS => ?_)
                        refine lv_icmp_lt (tgt := 187) hx hb d_Mo_fair_167 (by decide) (fun h_34 => ?_) (fun h_34 => ?_)
                        · have hd := ite_t hd h_34
                          refine lv_iinc (v := x7_62 + 1) (lv' := [(7, .int (x7_62 + 1)), (9, .int 1), (8, .int (x4_f62 &&& (x7_62 ^^^ (-1)))), (0, .ref (a 0)), (1, .int x1_f62), (2, .int x2_f62), (3, .int x3_f62), (4, .int x4_f62), (5, .int x5_62), (6, .int x6_62)]) hx hb d_Mo_fair_187 hl (k := 9) rfl (by rfl) (by decide) rfl (fun ls hl => ?_)
                          refine lv_goto (tgt := 62) hx hb d_Mo_fair_190 (by decide) ?_
                          exact ih62 x5_62 x6_62 (x7_62 + 1) _ _ _ hP hD hS (lv_sub hl [3, 4, 5, 6, 7, 8, 9, 0] rfl) hd
                        · have hd := ite_f hd h_34
                          refine lv_iload hx hb d_Mo_fair_170 (lv_at hl 7 rfl) ?_
                          refine lv_if_ne (tgt := 180) hx hb d_Mo_fair_172 (by decide) (fun h_35 => ?_) (fun h_35 => ?_)
                          · have hd := ite_f hd h_35
                            refine lv_iload hx hb d_Mo_fair_180 (lv_at hl 8 rfl) ?_
                            refine lv_istore (lv' := [(6, .int x6_62), (9, .int 1), (8, .int (x4_f62 &&& (x7_62 ^^^ (-1)))), (0, .ref (a 0)), (1, .int x1_f62), (2, .int x2_f62), (3, .int x3_f62), (4, .int x4_f62), (5, .int x5_62), (7, .int x7_62)]) hx hb d_Mo_fair_182 hl (by decide) rfl (fun ls hl => ?_)
                            refine lv_iinc (v := x5_62 + 1) (lv' := [(5, .int (x5_62 + 1)), (6, .int x6_62), (9, .int 1), (8, .int (x4_f62 &&& (x7_62 ^^^ (-1)))), (0, .ref (a 0)), (1, .int x1_f62), (2, .int x2_f62), (3, .int x3_f62), (4, .int x4_f62), (7, .int x7_62)]) hx hb d_Mo_fair_184 hl (k := 8) rfl (by rfl) (by decide) rfl (fun ls hl => ?_)
                            refine lv_iinc (v := x7_62 + 1) (lv' := [(7, .int (x7_62 + 1)), (5, .int (x5_62 + 1)), (6, .int x6_62), (9, .int 1), (8, .int (x4_f62 &&& (x7_62 ^^^ (-1)))), (0, .ref (a 0)), (1, .int x1_f62), (2, .int x2_f62), (3, .int x3_f62), (4, .int x4_f62)]) hx hb d_Mo_fair_187 hl (k := 9) rfl (by rfl) (by decide) rfl (fun ls hl => ?_)
                            refine lv_goto (tgt := 62) hx hb d_Mo_fair_190 (by decide) ?_
                            exact ih62 (x5_62 + 1) x6_62 (x7_62 + 1) _ _ _ hP hD hS (lv_sub hl [5, 6, 7, 8, 9, 1, 2, 0] rfl) hd
                          · have hd := ite_t hd h_35
                            refine lv_iload hx hb d_Mo_fair_175 (lv_at hl 9 rfl) ?_
                            refine lv_goto (tgt := 182) hx hb d_Mo_fair_177 (by decide) ?_
                            refine lv_istore (lv' := [(6, .int x7_62), (9, .int 1), (8, .int (x4_f62 &&& (x7_62 ^^^ (-1)))), (0, .ref (a 0)), (1, .int x1_f62), (2, .int x2_f62), (3, .int x3_f62), (4, .int x4_f62), (5, .int x5_62), (7, .int x7_62)]) hx hb d_Mo_fair_182 hl (by decide) rfl (fun ls hl => ?_)
                            refine lv_iinc (v := x5_62 + 1) (lv' := [(5, .int (x5_62 + 1)), (6, .int x7_62), (9, .int 1), (8, .int (x4_f62 &&& (x7_62 ^^^ (-1)))), (0, .ref (a 0)), (1, .int x1_f62), (2, .int x2_f62), (3, .int x3_f62), (4, .int x4_f62), (7, .int x7_62)]) hx hb d_Mo_fair_184 hl (k := 8) rfl (by rfl) (by decide) rfl (fun ls hl => ?_)
                            refine lv_iinc (v := x7_62 + 1) (lv' := [(7, .int (x7_62 + 1)), (5, .int (x5_62 + 1)), (6, .int x7_62), (9, .int 1), (8, .int (x4_f62 &&& (x7_62 ^^^ (-1)))), (0, .ref (a 0)), (1, .int x1_f62), (2, .int x2_f62), (3, .int x3_f62), (4, .int x4_f62)]) hx hb d_Mo_fair_187 hl (k := 9) rfl (by rfl) (by decide) rfl (fun ls hl => ?_)
                            refine lv_goto (tgt := 62) hx hb d_Mo_fair_190 (by decide) ?_
                            exact ih62 (x5_62 + 1) x7_62 (x7_62 + 1) _ _ _ hP hD hS (lv_sub hl [5, 6, 7, 8, 9, 1, 2, 0] rfl) hd
          exact lp62 x1 x2 x3 (v_13 ||| v_15) v_11 _ ex62_193 1000 0 (-5) 0 _ _ _ hP hD hS (lv_sub hl [4, 5, 6, 7, 3, 2, 1, 0] rfl) hd
        · have hd := ite_t hd h_10
          refine lv_bipush (v := (-2)) hx hb d_Mo_fair_32 (by decide) ?_
          obtain rfl := Option.some.inj hd
          exact retI hx hb hr hlk hK hP hD hS d_Mo_fair_34 rfl
      · have hd := ite_t hd h_9
        refine lv_iconst (v := (-1)) hx hb d_Mo_fair_25 (by decide) ?_
        obtain rfl := Option.some.inj hd
        exact retI hx hb hr hlk hK hP hD hS d_Mo_fair_26 rfl
-- OwnsLiftModel.had(II)I
def B_Mo_had_L34 (x1_f34 : Int32) (x2_f34 : Int32) (z : T_Mo) (k34_79 : Int32 → Int32 → Option (Int32)) (self34 : Int32 → Int32 → Int32 → Option (Int32)) (x3_34 : Int32) (x4_34 : Int32) (x5_34 : Int32) : Option (Int32) :=
  if ((1 : Int32) <<< (((q_Mo_s z) 1) &&& 31)) ≤ x5_34 then (k34_79 x3_34 x4_34) else ((d_Mo_weightsOf x5_34 z).bind fun v_8 => if v_8 = x1_f34 then (if x3_34 = 0 then (self34 (x3_34 + 1) x5_34 (x5_34 + 1)) else (self34 (x3_34 + 1) x4_34 (x5_34 + 1))) else (self34 x3_34 x4_34 (x5_34 + 1)))
def d_Mo_had_L34 (x1_f34 : Int32) (x2_f34 : Int32) (z : T_Mo) (k34_79 : Int32 → Int32 → Option (Int32)) (n : Nat) : Int32 → Int32 → Int32 → Option (Int32) := recN (fun _ _ _ => none) (fun self => B_Mo_had_L34 x1_f34 x2_f34 z k34_79 self) n
def d_Mo_had (x1 : Int32) (x2 : Int32) (z : T_Mo) : Option (Int32) :=
  (d_Mo_in x2 0 1).bind fun v_1 => if v_1 = 0 then (some ((-1))) else ((d_Mo_in x1 0 400).bind fun v_4 => if v_4 = 0 then (some ((-2))) else (d_Mo_had_L34 x1 x2 z (fun x3_34 x4_34 => if x2 = 0 then (some (x3_34)) else (some (x4_34))) 1000 0 (-5) 0))
theorem d_Mo_had_0 : decode b_Mo_had 0 = .ok (.iload_n 2, 1) := by decide +kernel
theorem d_Mo_had_1 : decode b_Mo_had 1 = .ok (.iconst 0, 1) := by decide +kernel
theorem d_Mo_had_2 : decode b_Mo_had 2 = .ok (.iconst 1, 1) := by decide +kernel
theorem d_Mo_had_3 : decode b_Mo_had 3 = .ok (.invokestatic 50, 3) := by decide +kernel
theorem d_Mo_had_6 : decode b_Mo_had 6 = .ok (.ifCond .ne 5, 3) := by decide +kernel
theorem d_Mo_had_9 : decode b_Mo_had 9 = .ok (.iconst (-1), 1) := by decide +kernel
theorem d_Mo_had_10 : decode b_Mo_had 10 = .ok (.ireturn, 1) := by decide +kernel
theorem d_Mo_had_11 : decode b_Mo_had 11 = .ok (.iload_n 1, 1) := by decide +kernel
theorem d_Mo_had_12 : decode b_Mo_had 12 = .ok (.iconst 0, 1) := by decide +kernel
theorem d_Mo_had_13 : decode b_Mo_had 13 = .ok (.sipush 400, 3) := by decide +kernel
theorem d_Mo_had_16 : decode b_Mo_had 16 = .ok (.invokestatic 50, 3) := by decide +kernel
theorem d_Mo_had_19 : decode b_Mo_had 19 = .ok (.ifCond .ne 6, 3) := by decide +kernel
theorem d_Mo_had_22 : decode b_Mo_had 22 = .ok (.bipush (-2), 2) := by decide +kernel
theorem d_Mo_had_24 : decode b_Mo_had 24 = .ok (.ireturn, 1) := by decide +kernel
theorem d_Mo_had_25 : decode b_Mo_had 25 = .ok (.iconst 0, 1) := by decide +kernel
theorem d_Mo_had_26 : decode b_Mo_had 26 = .ok (.istore_n 3, 1) := by decide +kernel
theorem d_Mo_had_27 : decode b_Mo_had 27 = .ok (.bipush (-5), 2) := by decide +kernel
theorem d_Mo_had_29 : decode b_Mo_had 29 = .ok (.istore 4, 2) := by decide +kernel
theorem d_Mo_had_31 : decode b_Mo_had 31 = .ok (.iconst 0, 1) := by decide +kernel
theorem d_Mo_had_32 : decode b_Mo_had 32 = .ok (.istore 5, 2) := by decide +kernel
theorem d_Mo_had_34 : decode b_Mo_had 34 = .ok (.iload 5, 2) := by decide +kernel
theorem d_Mo_had_36 : decode b_Mo_had 36 = .ok (.iconst 1, 1) := by decide +kernel
theorem d_Mo_had_37 : decode b_Mo_had 37 = .ok (.aload_n 0, 1) := by decide +kernel
theorem d_Mo_had_38 : decode b_Mo_had 38 = .ok (.getfield 9, 3) := by decide +kernel
theorem d_Mo_had_41 : decode b_Mo_had 41 = .ok (.iconst 1, 1) := by decide +kernel
theorem d_Mo_had_42 : decode b_Mo_had 42 = .ok (.iaload, 1) := by decide +kernel
theorem d_Mo_had_43 : decode b_Mo_had 43 = .ok (.ishl, 1) := by decide +kernel
theorem d_Mo_had_44 : decode b_Mo_had 44 = .ok (.if_icmp .ge 35, 3) := by decide +kernel
theorem d_Mo_had_47 : decode b_Mo_had 47 = .ok (.aload_n 0, 1) := by decide +kernel
theorem d_Mo_had_48 : decode b_Mo_had 48 = .ok (.iload 5, 2) := by decide +kernel
theorem d_Mo_had_50 : decode b_Mo_had 50 = .ok (.invokevirtual 204, 3) := by decide +kernel
theorem d_Mo_had_53 : decode b_Mo_had 53 = .ok (.iload_n 1, 1) := by decide +kernel
theorem d_Mo_had_54 : decode b_Mo_had 54 = .ok (.if_icmp .ne 19, 3) := by decide +kernel
theorem d_Mo_had_57 : decode b_Mo_had 57 = .ok (.iload_n 3, 1) := by decide +kernel
theorem d_Mo_had_58 : decode b_Mo_had 58 = .ok (.ifCond .ne 8, 3) := by decide +kernel
theorem d_Mo_had_61 : decode b_Mo_had 61 = .ok (.iload 5, 2) := by decide +kernel
theorem d_Mo_had_63 : decode b_Mo_had 63 = .ok (.goto 5, 3) := by decide +kernel
theorem d_Mo_had_66 : decode b_Mo_had 66 = .ok (.iload 4, 2) := by decide +kernel
theorem d_Mo_had_68 : decode b_Mo_had 68 = .ok (.istore 4, 2) := by decide +kernel
theorem d_Mo_had_70 : decode b_Mo_had 70 = .ok (.iinc 3 1, 3) := by decide +kernel
theorem d_Mo_had_73 : decode b_Mo_had 73 = .ok (.iinc 5 1, 3) := by decide +kernel
theorem d_Mo_had_76 : decode b_Mo_had 76 = .ok (.goto (-42), 3) := by decide +kernel
theorem d_Mo_had_79 : decode b_Mo_had 79 = .ok (.iload_n 2, 1) := by decide +kernel
theorem d_Mo_had_80 : decode b_Mo_had 80 = .ok (.ifCond .ne 7, 3) := by decide +kernel
theorem d_Mo_had_83 : decode b_Mo_had 83 = .ok (.iload_n 3, 1) := by decide +kernel
theorem d_Mo_had_84 : decode b_Mo_had 84 = .ok (.goto 5, 3) := by decide +kernel
theorem d_Mo_had_87 : decode b_Mo_had 87 = .ok (.iload 4, 2) := by decide +kernel
theorem d_Mo_had_89 : decode b_Mo_had 89 = .ok (.ireturn, 1) := by decide +kernel
theorem o_Mo_had : OkV y_Mo_had "OwnsLiftModel" b_Mo_had 6 (some .int) 2 := ⟨⟨rfl, by decide +kernel, by decide +kernel, by decide +kernel⟩, g_1327, g_1328, g_81, g_1329⟩
set_option maxHeartbeats 4000000 in
set_option maxRecDepth 100000 in
theorem c_Mo_had (l : Launch) (D : va_G) (g : Nat → ClassId) (a : Nat → Nat) (x1 : Int32) (x2 : Int32) (z : T_Mo) (v : Int32) (h : d_Mo_had x1 x2 z = some v) :
    MI l y_Mo_had b_Mo_had 6 .int ({ frames := 1, cells := 0, slots := 0, locals := 23 } : Room) D g [.ref (a 0), .int x1, .int x2] (ws_Mo g a z) (v) (ws_Mo g a z) := by
  have hd := h
  unfold d_Mo_had at hd
  refine enterI rfl (Nat.le_of_ble_eq_true rfl) (fun p e s m below meth c A ls hx hb hml hr hown hg hlk hK hA hP hD hS hCs hl => ?_)
  have hown : s.vm.findClass "OwnsLiftModel" = some m.cls := hown
  have hl : lv_has ls 6 [(0, .ref (a 0)), (1, .int x1), (2, .int x2)] := hl
  show GI p l e s m ({ frames := 1, cells := 0, slots := 0, locals := 23 } : Room) ([.ref (a 0), .int x1, .int x2] : List Value).toArray below meth c A D g (ws_Mo g a z) (v) s.heap [] (F0 m 0 ls [])
  refine lv_iload_n hx hb d_Mo_had_0 rfl (lv_at hl 2 rfl) ?_
  refine lv_iconst (v := 0) hx hb d_Mo_had_1 (by decide) ?_
  refine lv_iconst (v := 1) hx hb d_Mo_had_2 (by decide) ?_
  obtain ⟨v_1, e_2, hd⟩ := bind_s hd
  refine callSI (ws' := ws_Mo g a z) (rest := []) (As := [.int x2, .int 0, .int 1]) hx hb hml hown hg hK hP hD hS hA hCs hl.1 (c_Mo_in l D g  x2 0 1 _ e_2) o_Mo_in g_1076 [] segC0 rfl rfl segP0 rfl rfl (Nat.le_of_ble_eq_true rfl) ⟨rfl, rfl, Nat.le_of_ble_eq_true rfl, Nat.le_of_ble_eq_true rfl⟩ d_Mo_had_3 (fun H locs hP hD hS => ?_)
  refine lv_if_ne (tgt := 11) hx hb d_Mo_had_6 (by decide) (fun h_3 => ?_) (fun h_3 => ?_)
  · have hd := ite_f hd h_3
    refine lv_iload_n hx hb d_Mo_had_11 rfl (lv_at hl 1 rfl) ?_
    refine lv_iconst (v := 0) hx hb d_Mo_had_12 (by decide) ?_
    refine lv_sipush (v := 400) hx hb d_Mo_had_13 (by decide) ?_
    obtain ⟨v_4, e_5, hd⟩ := bind_s hd
    refine callSI (ws' := ws_Mo g a z) (rest := []) (As := [.int x1, .int 0, .int 400]) hx hb hml hown hg hK hP hD hS hA hCs hl.1 (c_Mo_in l D g  x1 0 400 _ e_5) o_Mo_in g_1076 [] segC0 rfl rfl segP0 rfl rfl (Nat.le_of_ble_eq_true rfl) ⟨rfl, rfl, Nat.le_of_ble_eq_true rfl, Nat.le_of_ble_eq_true rfl⟩ d_Mo_had_16 (fun H locs hP hD hS => ?_)
    refine lv_if_ne (tgt := 25) hx hb d_Mo_had_19 (by decide) (fun h_6 => ?_) (fun h_6 => ?_)
    · have hd := ite_f hd h_6
      refine lv_iconst (v := 0) hx hb d_Mo_had_25 (by decide) ?_
      refine lv_istore_n (lv' := [(3, .int 0), (0, .ref (a 0)), (1, .int x1), (2, .int x2)]) hx hb d_Mo_had_26 rfl hl (by decide) rfl (fun ls hl => ?_)
      refine lv_bipush (v := (-5)) hx hb d_Mo_had_27 (by decide) ?_
      refine lv_istore (lv' := [(4, .int (-5)), (3, .int 0), (0, .ref (a 0)), (1, .int x1), (2, .int x2)]) hx hb d_Mo_had_29 hl (by decide) rfl (fun ls hl => ?_)
      refine lv_iconst (v := 0) hx hb d_Mo_had_31 (by decide) ?_
      refine lv_istore (lv' := [(5, .int 0), (4, .int (-5)), (3, .int 0), (0, .ref (a 0)), (1, .int x1), (2, .int x2)]) hx hb d_Mo_had_32 hl (by decide) rfl (fun ls hl => ?_)
      have ex34_79 : ∀ (x3_34 : Int32) (x4_34 : Int32) (H : Heap) (locs : List Loc) (ls : Array Slot), va_P D classes (ws_Mo g a z) H → va_D A (ws_Mo g a z) → va_S A s.heap H locs → lv_has ls 6 [(2, .int x2), (3, .int x3_34), (4, .int x4_34)] → (if x2 = 0 then (some (x3_34)) else (some (x4_34))) = some v → GI p l e s m ({ frames := 1, cells := 0, slots := 0, locals := 23 } : Room) ([.ref (a 0), .int x1, .int x2] : List Value).toArray below meth c A D g (ws_Mo g a z) (v) H locs (F0 m 79 ls []) := by
        intro x3_34 x4_34 H locs ls hP hD hS hl hd
        refine lv_iload_n hx hb d_Mo_had_79 rfl (lv_at hl 0 rfl) ?_
        refine lv_if_ne (tgt := 87) hx hb d_Mo_had_80 (by decide) (fun h_12 => ?_) (fun h_12 => ?_)
        · have hd := ite_f hd h_12
          refine lv_iload hx hb d_Mo_had_87 (lv_at hl 2 rfl) ?_
          obtain rfl := Option.some.inj hd
          exact retI hx hb hr hlk hK hP hD hS d_Mo_had_89 rfl
        · have hd := ite_t hd h_12
          refine lv_iload_n hx hb d_Mo_had_83 rfl (lv_at hl 1 rfl) ?_
          refine lv_goto (tgt := 89) hx hb d_Mo_had_84 (by decide) ?_
          obtain rfl := Option.some.inj hd
          exact retI hx hb hr hlk hK hP hD hS d_Mo_had_89 rfl
      have lp34 : ∀ (x1_f34 : Int32) (x2_f34 : Int32) (k34_79 : Int32 → Int32 → Option (Int32)) (hk34_79 : ∀ (x3_34 : Int32) (x4_34 : Int32) (H : Heap) (locs : List Loc) (ls : Array Slot), va_P D classes (ws_Mo g a z) H → va_D A (ws_Mo g a z) → va_S A s.heap H locs → lv_has ls 6 [(2, .int x2_f34), (3, .int x3_34), (4, .int x4_34)] → k34_79 x3_34 x4_34 = some v → GI p l e s m ({ frames := 1, cells := 0, slots := 0, locals := 23 } : Room) ([.ref (a 0), .int x1, .int x2] : List Value).toArray below meth c A D g (ws_Mo g a z) (v) H locs (F0 m 79 ls [])) (n : Nat) (x3_34 : Int32) (x4_34 : Int32) (x5_34 : Int32) (H : Heap) (locs : List Loc) (ls : Array Slot), va_P D classes (ws_Mo g a z) H → va_D A (ws_Mo g a z) → va_S A s.heap H locs → lv_has ls 6 [(0, .ref (a 0)), (1, .int x1_f34), (2, .int x2_f34), (3, .int x3_34), (4, .int x4_34), (5, .int x5_34)] → d_Mo_had_L34 x1_f34 x2_f34 z k34_79 n x3_34 x4_34 x5_34 = some v → GI p l e s m ({ frames := 1, cells := 0, slots := 0, locals := 23 } : Room) ([.ref (a 0), .int x1, .int x2] : List Value).toArray below meth c A D g (ws_Mo g a z) (v) H locs (F0 m 34 ls []) := by
        intro x1_f34 x2_f34 k34_79 hk34_79 n
        induction n with
        | zero =>
          intro  x3_34 x4_34 x5_34 H locs ls hP hD hS hl hd
          have hd : none = some v := hd
          cases hd
        | succ n ih34 =>
          intro  x3_34 x4_34 x5_34 H locs ls hP hD hS hl hd
          have hd : B_Mo_had_L34 x1_f34 x2_f34 z k34_79 (d_Mo_had_L34 x1_f34 x2_f34 z k34_79 n) x3_34 x4_34 x5_34 = some v := hd
          generalize d_Mo_had_L34 x1_f34 x2_f34 z k34_79 n = self34 at ih34 hd
          unfold B_Mo_had_L34 at hd
          refine lv_iload hx hb d_Mo_had_34 (lv_at hl 5 rfl) ?_
          refine lv_iconst (v := 1) hx hb d_Mo_had_36 (by decide) ?_
          refine lv_aload_n hx hb d_Mo_had_37 rfl (lv_at hl 0 rfl) ?_
          refine va_get (D := D) (ci := 1) (v := .ref (a 1)) (C := R_Mo) (T := F_Mo) (N := 26) hx hb hg i_Mo hown hK hP 0 rfl rfl 1 (by decide) (hg _ g_993) (fun _ h9 => h9) rfl d_Mo_had_38 ?_
          refine lv_iconst (v := 1) hx hb d_Mo_had_41 (by decide) ?_
          refine ialdK hx hb hK hP 1 0 rfl rfl (inb_t (by decide +kernel)) (k := 1) (by decide +kernel) d_Mo_had_42 ?_
          refine lv_ishl hx hb d_Mo_had_43 ?_
          refine lv_icmp_ge (tgt := 79) hx hb d_Mo_had_44 (by decide) (fun h_7 => ?_) (fun h_7 => ?_)
          · have hd := ite_t hd h_7
            exact hk34_79 x3_34 x4_34 _ _ _ hP hD hS (lv_sub hl [2, 3, 4] rfl) hd
          · have hd := ite_f hd h_7
            refine lv_aload_n hx hb d_Mo_had_47 rfl (lv_at hl 0 rfl) ?_
            refine lv_iload hx hb d_Mo_had_48 (lv_at hl 5 rfl) ?_
            obtain ⟨v_8, e_9, hd⟩ := bind_s hd
            refine callVI (ws' := ws_Mo g a z) (rest := []) (As := [.int x5_34]) hx hb hml hown hg hK hP hD hS hA hCs hl.1 (c_Mo_weightsOf l D g a x5_34 z _ e_9) o_Mo_weightsOf g_1278 (ci := 1) (q0 := 0) rfl rfl (List.range' 0 12) (segC1 rfl rfl) (by decide) rfl (segP1 rfl rfl) rfl rfl (Nat.le_of_ble_eq_true rfl) ⟨rfl, rfl, Nat.le_of_ble_eq_true rfl, Nat.le_of_ble_eq_true rfl⟩ d_Mo_had_50 (fun H locs hP hD hS => ?_)
            refine lv_iload_n hx hb d_Mo_had_53 rfl (lv_at hl 1 rfl) ?_
            refine lv_icmp_ne (tgt := 73) hx hb d_Mo_had_54 (by decide) (fun h_10 => ?_) (fun h_10 => ?_)
            · have hd := ite_f hd h_10
              refine lv_iinc (v := x5_34 + 1) (lv' := [(5, .int (x5_34 + 1)), (0, .ref (a 0)), (1, .int x1_f34), (2, .int x2_f34), (3, .int x3_34), (4, .int x4_34)]) hx hb d_Mo_had_73 hl (k := 5) rfl (by rfl) (by decide) rfl (fun ls hl => ?_)
              refine lv_goto (tgt := 34) hx hb d_Mo_had_76 (by decide) ?_
              exact ih34 x3_34 x4_34 (x5_34 + 1) _ _ _ hP hD hS (lv_sub hl [1, 2, 3, 4, 5, 0] rfl) hd
            · have hd := ite_t hd h_10
              refine lv_iload_n hx hb d_Mo_had_57 rfl (lv_at hl 3 rfl) ?_
              refine lv_if_ne (tgt := 66) hx hb d_Mo_had_58 (by decide) (fun h_11 => ?_) (fun h_11 => ?_)
              · have hd := ite_f hd h_11
                refine lv_iload hx hb d_Mo_had_66 (lv_at hl 4 rfl) ?_
                refine lv_istore (lv' := [(4, .int x4_34), (0, .ref (a 0)), (1, .int x1_f34), (2, .int x2_f34), (3, .int x3_34), (5, .int x5_34)]) hx hb d_Mo_had_68 hl (by decide) rfl (fun ls hl => ?_)
                refine lv_iinc (v := x3_34 + 1) (lv' := [(3, .int (x3_34 + 1)), (4, .int x4_34), (0, .ref (a 0)), (1, .int x1_f34), (2, .int x2_f34), (5, .int x5_34)]) hx hb d_Mo_had_70 hl (k := 4) rfl (by rfl) (by decide) rfl (fun ls hl => ?_)
                refine lv_iinc (v := x5_34 + 1) (lv' := [(5, .int (x5_34 + 1)), (3, .int (x3_34 + 1)), (4, .int x4_34), (0, .ref (a 0)), (1, .int x1_f34), (2, .int x2_f34)]) hx hb d_Mo_had_73 hl (k := 5) rfl (by rfl) (by decide) rfl (fun ls hl => ?_)
                refine lv_goto (tgt := 34) hx hb d_Mo_had_76 (by decide) ?_
                exact ih34 (x3_34 + 1) x4_34 (x5_34 + 1) _ _ _ hP hD hS (lv_sub hl [3, 4, 5, 1, 2, 0] rfl) hd
              · have hd := ite_t hd h_11
                refine lv_iload hx hb d_Mo_had_61 (lv_at hl 5 rfl) ?_
                refine lv_goto (tgt := 68) hx hb d_Mo_had_63 (by decide) ?_
                refine lv_istore (lv' := [(4, .int x5_34), (0, .ref (a 0)), (1, .int x1_f34), (2, .int x2_f34), (3, .int x3_34), (5, .int x5_34)]) hx hb d_Mo_had_68 hl (by decide) rfl (fun ls hl => ?_)
                refine lv_iinc (v := x3_34 + 1) (lv' := [(3, .int (x3_34 + 1)), (4, .int x5_34), (0, .ref (a 0)), (1, .int x1_f34), (2, .int x2_f34), (5, .int x5_34)]) hx hb d_Mo_had_70 hl (k := 4) rfl (by rfl) (by decide) rfl (fun ls hl => ?_)
                refine lv_iinc (v := x5_34 + 1) (lv' := [(5, .int (x5_34 + 1)), (3, .int (x3_34 + 1)), (4, .int x5_34), (0, .ref (a 0)), (1, .int x1_f34), (2, .int x2_f34)]) hx hb d_Mo_had_73 hl (k := 5) rfl (by rfl) (by decide) rfl (fun ls hl => ?_)
                refine lv_goto (tgt := 34) hx hb d_Mo_had_76 (by decide) ?_
                exact ih34 (x3_34 + 1) x5_34 (x5_34 + 1) _ _ _ hP hD hS (lv_sub hl [3, 4, 5, 1, 2, 0] rfl) hd
      exact lp34 x1 x2 _ ex34_79 1000 0 (-5) 0 _ _ _ hP hD hS (lv_sub hl [3, 4, 5, 2, 1, 0] rfl) hd
    · have hd := ite_t hd h_6
      refine lv_bipush (v := (-2)) hx hb d_Mo_had_22 (by decide) ?_
      obtain rfl := Option.some.inj hd
      exact retI hx hb hr hlk hK hP hD hS d_Mo_had_24 rfl
  · have hd := ite_t hd h_3
    refine lv_iconst (v := (-1)) hx hb d_Mo_had_9 (by decide) ?_
    obtain rfl := Option.some.inj hd
    exact retI hx hb hr hlk hK hP hD hS d_Mo_had_10 rfl
-- OwnsLiftModel.odds(I)J
def B_Mo_odds_L21 (x1_f21 : Int32) (self21 : Int64 → Int64 → Int32 → T_Mo → Option (Int64 × T_Mo)) (x2_21 : Int64) (x4_21 : Int64) (x6_21 : Int32) (z_21 : T_Mo) : Option (Int64 × T_Mo) :=
  if ((q_Mo_s z_21) 0) ≤ x6_21 then ((d_Mo_lowest x2_21 x4_21 x1_f21).bind fun v_5 => some (v_5, z_21)) else ((d_Mo_illOf x6_21 z_21).bind fun v_7 => (d_Mo_liftsOf x6_21 v_7.2).bind fun v_9 => (d_Mo_loadOf x6_21 v_9.2).bind fun v_11 => if v_9.1 < v_11 then (if (v_9.1 / 2) < v_11 then (self21 (x2_21 * ((0 + 0 : Int32).toInt64)) (x4_21 * 10) (x6_21 + 1) v_9.2) else (self21 (x2_21 * ((0 + v_7.1 : Int32).toInt64)) (x4_21 * 10) (x6_21 + 1) v_9.2)) else (if (v_9.1 / 2) < v_11 then (self21 (x2_21 * (((10 - v_7.1) + 0 : Int32).toInt64)) (x4_21 * 10) (x6_21 + 1) v_9.2) else (self21 (x2_21 * (((10 - v_7.1) + v_7.1 : Int32).toInt64)) (x4_21 * 10) (x6_21 + 1) v_9.2)))
def d_Mo_odds_L21 (x1_f21 : Int32) (n : Nat) : Int64 → Int64 → Int32 → T_Mo → Option (Int64 × T_Mo) := recN (fun _ _ _ _ => none) (fun self => B_Mo_odds_L21 x1_f21 self) n
def d_Mo_odds (x1 : Int32) (z : T_Mo) : Option (Int64 × T_Mo) :=
  (d_Mo_in x1 0 1).bind fun v_1 => if v_1 = 0 then (some ((-9223372036854775808), z)) else (d_Mo_odds_L21 x1  1000 1 1 0 z)
theorem d_Mo_odds_0 : decode b_Mo_odds 0 = .ok (.iload_n 1, 1) := by decide +kernel
theorem d_Mo_odds_1 : decode b_Mo_odds 1 = .ok (.iconst 0, 1) := by decide +kernel
theorem d_Mo_odds_2 : decode b_Mo_odds 2 = .ok (.iconst 1, 1) := by decide +kernel
theorem d_Mo_odds_3 : decode b_Mo_odds 3 = .ok (.invokestatic 50, 3) := by decide +kernel
theorem d_Mo_odds_6 : decode b_Mo_odds 6 = .ok (.ifCond .ne 7, 3) := by decide +kernel
theorem d_Mo_odds_9 : decode b_Mo_odds 9 = .ok (.ldc2_w 210, 3) := by decide +kernel
theorem d_Mo_odds_12 : decode b_Mo_odds 12 = .ok (.lreturn, 1) := by decide +kernel
theorem d_Mo_odds_13 : decode b_Mo_odds 13 = .ok (.lconst 1, 1) := by decide +kernel
theorem d_Mo_odds_14 : decode b_Mo_odds 14 = .ok (.lstore_n 2, 1) := by decide +kernel
theorem d_Mo_odds_15 : decode b_Mo_odds 15 = .ok (.lconst 1, 1) := by decide +kernel
theorem d_Mo_odds_16 : decode b_Mo_odds 16 = .ok (.lstore 4, 2) := by decide +kernel
theorem d_Mo_odds_18 : decode b_Mo_odds 18 = .ok (.iconst 0, 1) := by decide +kernel
theorem d_Mo_odds_19 : decode b_Mo_odds 19 = .ok (.istore 6, 2) := by decide +kernel
theorem d_Mo_odds_21 : decode b_Mo_odds 21 = .ok (.iload 6, 2) := by decide +kernel
theorem d_Mo_odds_23 : decode b_Mo_odds 23 = .ok (.aload_n 0, 1) := by decide +kernel
theorem d_Mo_odds_24 : decode b_Mo_odds 24 = .ok (.getfield 9, 3) := by decide +kernel
theorem d_Mo_odds_27 : decode b_Mo_odds 27 = .ok (.iconst 0, 1) := by decide +kernel
theorem d_Mo_odds_28 : decode b_Mo_odds 28 = .ok (.iaload, 1) := by decide +kernel
theorem d_Mo_odds_29 : decode b_Mo_odds 29 = .ok (.if_icmp .ge 77, 3) := by decide +kernel
theorem d_Mo_odds_32 : decode b_Mo_odds 32 = .ok (.aload_n 0, 1) := by decide +kernel
theorem d_Mo_odds_33 : decode b_Mo_odds 33 = .ok (.iload 6, 2) := by decide +kernel
theorem d_Mo_odds_35 : decode b_Mo_odds 35 = .ok (.invokevirtual 154, 3) := by decide +kernel
theorem d_Mo_odds_38 : decode b_Mo_odds 38 = .ok (.istore 7, 2) := by decide +kernel
theorem d_Mo_odds_40 : decode b_Mo_odds 40 = .ok (.aload_n 0, 1) := by decide +kernel
theorem d_Mo_odds_41 : decode b_Mo_odds 41 = .ok (.iload 6, 2) := by decide +kernel
theorem d_Mo_odds_43 : decode b_Mo_odds 43 = .ok (.invokevirtual 140, 3) := by decide +kernel
theorem d_Mo_odds_46 : decode b_Mo_odds 46 = .ok (.istore 8, 2) := by decide +kernel
theorem d_Mo_odds_48 : decode b_Mo_odds 48 = .ok (.aload_n 0, 1) := by decide +kernel
theorem d_Mo_odds_49 : decode b_Mo_odds 49 = .ok (.iload 6, 2) := by decide +kernel
theorem d_Mo_odds_51 : decode b_Mo_odds 51 = .ok (.invokevirtual 151, 3) := by decide +kernel
theorem d_Mo_odds_54 : decode b_Mo_odds 54 = .ok (.istore 9, 2) := by decide +kernel
theorem d_Mo_odds_56 : decode b_Mo_odds 56 = .ok (.lload_n 2, 1) := by decide +kernel
theorem d_Mo_odds_57 : decode b_Mo_odds 57 = .ok (.iload 9, 2) := by decide +kernel
theorem d_Mo_odds_59 : decode b_Mo_odds 59 = .ok (.iload 8, 2) := by decide +kernel
theorem d_Mo_odds_61 : decode b_Mo_odds 61 = .ok (.if_icmp .gt 11, 3) := by decide +kernel
theorem d_Mo_odds_64 : decode b_Mo_odds 64 = .ok (.bipush 10, 2) := by decide +kernel
theorem d_Mo_odds_66 : decode b_Mo_odds 66 = .ok (.iload 7, 2) := by decide +kernel
theorem d_Mo_odds_68 : decode b_Mo_odds 68 = .ok (.isub, 1) := by decide +kernel
theorem d_Mo_odds_69 : decode b_Mo_odds 69 = .ok (.goto 4, 3) := by decide +kernel
theorem d_Mo_odds_72 : decode b_Mo_odds 72 = .ok (.iconst 0, 1) := by decide +kernel
theorem d_Mo_odds_73 : decode b_Mo_odds 73 = .ok (.iload 9, 2) := by decide +kernel
theorem d_Mo_odds_75 : decode b_Mo_odds 75 = .ok (.iload 8, 2) := by decide +kernel
theorem d_Mo_odds_77 : decode b_Mo_odds 77 = .ok (.iconst 2, 1) := by decide +kernel
theorem d_Mo_odds_78 : decode b_Mo_odds 78 = .ok (.idiv, 1) := by decide +kernel
theorem d_Mo_odds_79 : decode b_Mo_odds 79 = .ok (.if_icmp .gt 8, 3) := by decide +kernel
theorem d_Mo_odds_82 : decode b_Mo_odds 82 = .ok (.iload 7, 2) := by decide +kernel
theorem d_Mo_odds_84 : decode b_Mo_odds 84 = .ok (.goto 4, 3) := by decide +kernel
theorem d_Mo_odds_87 : decode b_Mo_odds 87 = .ok (.iconst 0, 1) := by decide +kernel
theorem d_Mo_odds_88 : decode b_Mo_odds 88 = .ok (.iadd, 1) := by decide +kernel
theorem d_Mo_odds_89 : decode b_Mo_odds 89 = .ok (.i2l, 1) := by decide +kernel
theorem d_Mo_odds_90 : decode b_Mo_odds 90 = .ok (.lmul, 1) := by decide +kernel
theorem d_Mo_odds_91 : decode b_Mo_odds 91 = .ok (.lstore_n 2, 1) := by decide +kernel
theorem d_Mo_odds_92 : decode b_Mo_odds 92 = .ok (.lload 4, 2) := by decide +kernel
theorem d_Mo_odds_94 : decode b_Mo_odds 94 = .ok (.ldc2_w 235, 3) := by decide +kernel
theorem d_Mo_odds_97 : decode b_Mo_odds 97 = .ok (.lmul, 1) := by decide +kernel
theorem d_Mo_odds_98 : decode b_Mo_odds 98 = .ok (.lstore 4, 2) := by decide +kernel
theorem d_Mo_odds_100 : decode b_Mo_odds 100 = .ok (.iinc 6 1, 3) := by decide +kernel
theorem d_Mo_odds_103 : decode b_Mo_odds 103 = .ok (.goto (-82), 3) := by decide +kernel
theorem d_Mo_odds_106 : decode b_Mo_odds 106 = .ok (.lload_n 2, 1) := by decide +kernel
theorem d_Mo_odds_107 : decode b_Mo_odds 107 = .ok (.lload 4, 2) := by decide +kernel
theorem d_Mo_odds_109 : decode b_Mo_odds 109 = .ok (.iload_n 1, 1) := by decide +kernel
theorem d_Mo_odds_110 : decode b_Mo_odds 110 = .ok (.invokestatic 215, 3) := by decide +kernel
theorem d_Mo_odds_113 : decode b_Mo_odds 113 = .ok (.lreturn, 1) := by decide +kernel
theorem o_Mo_odds : OkV y_Mo_odds "OwnsLiftModel" b_Mo_odds 10 (some .long) 1 := ⟨⟨rfl, by decide +kernel, by decide +kernel, by decide +kernel⟩, g_1331, g_1332, g_81, g_1333⟩
set_option maxHeartbeats 4000000 in
set_option maxRecDepth 100000 in
theorem c_Mo_odds (l : Launch) (D : va_G) (g : Nat → ClassId) (a : Nat → Nat) (x1 : Int32) (z : T_Mo) (v : Int64 × T_Mo) (h : d_Mo_odds x1 z = some v) :
    ML l y_Mo_odds b_Mo_odds 10 ({ frames := 3, cells := 0, slots := 0, locals := 75 } : Room) D g [.ref (a 0), .int x1] (ws_Mo g a z) (v.1) (ws_Mo g a v.2) := by
  have hd := h
  unfold d_Mo_odds at hd
  refine enterL rfl (Nat.le_of_ble_eq_true rfl) (fun p e s m below meth c A ls hx hb hml hr hown hg hlk hK hA hP hD hS hCs hl => ?_)
  have hown : s.vm.findClass "OwnsLiftModel" = some m.cls := hown
  have hl : lv_has ls 10 [(0, .ref (a 0)), (1, .int x1)] := hl
  show GL p l e s m ({ frames := 3, cells := 0, slots := 0, locals := 75 } : Room) ([.ref (a 0), .int x1] : List Value).toArray below meth c A D g (ws_Mo g a v.2) (v.1) s.heap [] (F0 m 0 ls [])
  refine lv_iload_n hx hb d_Mo_odds_0 rfl (lv_at hl 1 rfl) ?_
  refine lv_iconst (v := 0) hx hb d_Mo_odds_1 (by decide) ?_
  refine lv_iconst (v := 1) hx hb d_Mo_odds_2 (by decide) ?_
  obtain ⟨v_1, e_2, hd⟩ := bind_s hd
  refine callSI (ws' := ws_Mo g a z) (rest := []) (As := [.int x1, .int 0, .int 1]) hx hb hml hown hg hK hP hD hS hA hCs hl.1 (c_Mo_in l D g  x1 0 1 _ e_2) o_Mo_in g_1076 [] segC0 rfl rfl segP0 rfl rfl (Nat.le_of_ble_eq_true rfl) ⟨rfl, rfl, Nat.le_of_ble_eq_true rfl, Nat.le_of_ble_eq_true rfl⟩ d_Mo_odds_3 (fun H locs hP hD hS => ?_)
  refine lv_if_ne (tgt := 13) hx hb d_Mo_odds_6 (by decide) (fun h_3 => ?_) (fun h_3 => ?_)
  · have hd := ite_f hd h_3
    refine lv_lconst (v := 1) hx hb d_Mo_odds_13 (by decide) ?_
    refine lv_lstore_n (lv' := [(2, .long 1), (0, .ref (a 0)), (1, .int x1)]) hx hb d_Mo_odds_14 rfl hl (by decide) rfl (fun ls hl => ?_)
    refine lv_lconst (v := 1) hx hb d_Mo_odds_15 (by decide) ?_
    refine lv_lstore (lv' := [(4, .long 1), (2, .long 1), (0, .ref (a 0)), (1, .int x1)]) hx hb d_Mo_odds_16 hl (by decide) rfl (fun ls hl => ?_)
    refine lv_iconst (v := 0) hx hb d_Mo_odds_18 (by decide) ?_
    refine lv_istore (lv' := [(6, .int 0), (4, .long 1), (2, .long 1), (0, .ref (a 0)), (1, .int x1)]) hx hb d_Mo_odds_19 hl (by decide) rfl (fun ls hl => ?_)
    have lp21 : ∀ (x1_f21 : Int32) (n : Nat) (x2_21 : Int64) (x4_21 : Int64) (x6_21 : Int32) (z_21 : T_Mo) (H : Heap) (locs : List Loc) (ls : Array Slot), va_P D classes (ws_Mo g a z_21) H → va_D A (ws_Mo g a z_21) → va_S A s.heap H locs → lv_has ls 10 [(0, .ref (a 0)), (1, .int x1_f21), (2, .long x2_21), (4, .long x4_21), (6, .int x6_21)] → d_Mo_odds_L21 x1_f21 n x2_21 x4_21 x6_21 z_21 = some v → GL p l e s m ({ frames := 3, cells := 0, slots := 0, locals := 75 } : Room) ([.ref (a 0), .int x1] : List Value).toArray below meth c A D g (ws_Mo g a v.2) (v.1) H locs (F0 m 21 ls []) := by
      intro x1_f21 n
      induction n with
      | zero =>
        intro  x2_21 x4_21 x6_21 z_21 H locs ls hP hD hS hl hd
        have hd : none = some v := hd
        cases hd
      | succ n ih21 =>
        intro  x2_21 x4_21 x6_21 z_21 H locs ls hP hD hS hl hd
        have hd : B_Mo_odds_L21 x1_f21 (d_Mo_odds_L21 x1_f21 n) x2_21 x4_21 x6_21 z_21 = some v := hd
        generalize d_Mo_odds_L21 x1_f21 n = self21 at ih21 hd
        unfold B_Mo_odds_L21 at hd
        refine lv_iload hx hb d_Mo_odds_21 (lv_at hl 4 rfl) ?_
        refine lv_aload_n hx hb d_Mo_odds_23 rfl (lv_at hl 0 rfl) ?_
        refine va_get (D := D) (ci := 1) (v := .ref (a 1)) (C := R_Mo) (T := F_Mo) (N := 26) hx hb hg i_Mo hown hK hP 0 rfl rfl 1 (by decide) (hg _ g_993) (fun _ h9 => h9) rfl d_Mo_odds_24 ?_
        refine lv_iconst (v := 0) hx hb d_Mo_odds_27 (by decide) ?_
        refine ialdK hx hb hK hP 1 0 rfl rfl (inb_t (by decide +kernel)) (k := 0) (by decide +kernel) d_Mo_odds_28 ?_
        refine lv_icmp_ge (tgt := 106) hx hb d_Mo_odds_29 (by decide) (fun h_4 => ?_) (fun h_4 => ?_)
        · have hd := ite_t hd h_4
          refine lv_lload_n hx hb d_Mo_odds_106 rfl (lv_at hl 2 rfl) ?_
          refine lv_lload hx hb d_Mo_odds_107 (lv_at hl 3 rfl) ?_
          refine lv_iload_n hx hb d_Mo_odds_109 rfl (lv_at hl 1 rfl) ?_
          obtain ⟨v_5, e_6, hd⟩ := bind_s hd
          refine callSL (ws' := ws_Mo g a z_21) (rest := []) (As := [.long x2_21, .long x4_21, .int x1_f21]) hx hb hml hown hg hK hP hD hS hA hCs hl.1 (c_Mo_lowest l D g  x2_21 x4_21 x1_f21 _ e_6) o_Mo_lowest g_1295 [] segC0 rfl rfl segP0 rfl rfl (Nat.le_of_ble_eq_true rfl) ⟨rfl, rfl, Nat.le_of_ble_eq_true rfl, Nat.le_of_ble_eq_true rfl⟩ d_Mo_odds_110 (fun H locs hP hD hS => ?_)
          obtain rfl := Option.some.inj hd
          exact retL hx hb hr hlk hK hP hD hS d_Mo_odds_113 rfl
        · have hd := ite_f hd h_4
          refine lv_aload_n hx hb d_Mo_odds_32 rfl (lv_at hl 0 rfl) ?_
          refine lv_iload hx hb d_Mo_odds_33 (lv_at hl 4 rfl) ?_
          obtain ⟨v_7, e_8, hd⟩ := bind_s hd
          refine callVI (ws' := ws_Mo g a v_7.2) (rest := []) (As := [.int x6_21]) hx hb hml hown hg hK hP hD hS hA hCs hl.1 (c_Mo_illOf l D g a x6_21 z_21 _ e_8) o_Mo_illOf g_1167 (ci := 1) (q0 := 0) rfl rfl (List.range' 0 12) (segC1 rfl rfl) (by decide) rfl (segP1 rfl rfl) rfl rfl (Nat.le_of_ble_eq_true rfl) ⟨rfl, rfl, Nat.le_of_ble_eq_true rfl, Nat.le_of_ble_eq_true rfl⟩ d_Mo_odds_35 (fun H locs hP hD hS => ?_)
          refine lv_istore (lv' := [(7, .int v_7.1), (0, .ref (a 0)), (1, .int x1_f21), (2, .long x2_21), (4, .long x4_21), (6, .int x6_21)]) hx hb d_Mo_odds_38 hl (by decide) rfl (fun ls hl => ?_)
          refine lv_aload_n hx hb d_Mo_odds_40 rfl (lv_at hl 1 rfl) ?_
          refine lv_iload hx hb d_Mo_odds_41 (lv_at hl 5 rfl) ?_
          obtain ⟨v_9, e_10, hd⟩ := bind_s hd
          refine callVI (ws' := ws_Mo g a v_9.2) (rest := []) (As := [.int x6_21]) hx hb hml hown hg hK hP hD hS hA hCs hl.1 (c_Mo_liftsOf l D g a x6_21 v_7.2 _ e_10) o_Mo_liftsOf g_1151 (ci := 1) (q0 := 0) rfl rfl (List.range' 0 12) (segC1 rfl rfl) (by decide) rfl (segP1 rfl rfl) rfl rfl (Nat.le_of_ble_eq_true rfl) ⟨rfl, rfl, Nat.le_of_ble_eq_true rfl, Nat.le_of_ble_eq_true rfl⟩ d_Mo_odds_43 (fun H locs hP hD hS => ?_)
          refine lv_istore (lv' := [(8, .int v_9.1), (7, .int v_7.1), (0, .ref (a 0)), (1, .int x1_f21), (2, .long x2_21), (4, .long x4_21), (6, .int x6_21)]) hx hb d_Mo_odds_46 hl (by decide) rfl (fun ls hl => ?_)
          refine lv_aload_n hx hb d_Mo_odds_48 rfl (lv_at hl 2 rfl) ?_
          refine lv_iload hx hb d_Mo_odds_49 (lv_at hl 6 rfl) ?_
          obtain ⟨v_11, e_12, hd⟩ := bind_s hd
          refine callVI (ws' := ws_Mo g a v_9.2) (rest := []) (As := [.int x6_21]) hx hb hml hown hg hK hP hD hS hA hCs hl.1 (c_Mo_loadOf l D g a x6_21 v_9.2 _ e_12) o_Mo_loadOf g_1163 (ci := 1) (q0 := 0) rfl rfl (List.range' 0 12) (segC1 rfl rfl) (by decide) rfl (segP1 rfl rfl) rfl rfl (Nat.le_of_ble_eq_true rfl) ⟨rfl, rfl, Nat.le_of_ble_eq_true rfl, Nat.le_of_ble_eq_true rfl⟩ d_Mo_odds_51 (fun H locs hP hD hS => ?_)
          refine lv_istore (lv' := [(9, .int v_11), (8, .int v_9.1), (7, .int v_7.1), (0, .ref (a 0)), (1, .int x1_f21), (2, .long x2_21), (4, .long x4_21), (6, .int x6_21)]) hx hb d_Mo_odds_54 hl (by decide) rfl (fun ls hl => ?_)
          refine lv_lload_n hx hb d_Mo_odds_56 rfl (lv_at hl 5 rfl) ?_
          refine lv_iload hx hb d_Mo_odds_57 (lv_at hl 0 rfl) ?_
          refine lv_iload hx hb d_Mo_odds_59 (lv_at hl 1 rfl) ?_
          refine lv_icmp_gt (tgt := 72) hx hb d_Mo_odds_61 (by decide) (fun h_13 => ?_) (fun h_13 => ?_)
          · have hd := ite_t hd h_13
            refine lv_iconst (v := 0) hx hb d_Mo_odds_72 (by decide) ?_
            refine lv_iload hx hb d_Mo_odds_73 (lv_at hl 0 rfl) ?_
            refine lv_iload hx hb d_Mo_odds_75 (lv_at hl 1 rfl) ?_
            refine lv_iconst (v := 2) hx hb d_Mo_odds_77 (by decide) ?_
            refine lv_idiv hx hb d_Mo_odds_78 (by decide) ?_
            refine lv_icmp_gt (tgt := 87) hx hb d_Mo_odds_79 (by decide) (fun h_14 => ?_) (fun h_14 => ?_)
            · have hd := ite_t hd h_14
              refine lv_iconst (v := 0) hx hb d_Mo_odds_87 (by decide) ?_
              refine lv_iadd hx hb d_Mo_odds_88 ?_
              refine lv_i2l hx hb d_Mo_odds_89 rfl ?_
              refine lv_lmul hx hb d_Mo_odds_90 ?_
              refine lv_lstore_n (lv' := [(2, .long (x2_21 * ((0 + 0 : Int32).toInt64))), (9, .int v_11), (8, .int v_9.1), (7, .int v_7.1), (0, .ref (a 0)), (1, .int x1_f21), (4, .long x4_21), (6, .int x6_21)]) hx hb d_Mo_odds_91 rfl hl (by decide) rfl (fun ls hl => ?_)
              refine lv_lload hx hb d_Mo_odds_92 (lv_at hl 6 rfl) ?_
              refine lv_ldc2 (v := 10) hx hb hown (hg _ g_1334) d_Mo_odds_94 ?_
              refine lv_lmul hx hb d_Mo_odds_97 ?_
              refine lv_lstore (lv' := [(4, .long (x4_21 * 10)), (2, .long (x2_21 * ((0 + 0 : Int32).toInt64))), (9, .int v_11), (8, .int v_9.1), (7, .int v_7.1), (0, .ref (a 0)), (1, .int x1_f21), (6, .int x6_21)]) hx hb d_Mo_odds_98 hl (by decide) rfl (fun ls hl => ?_)
              refine lv_iinc (v := x6_21 + 1) (lv' := [(6, .int (x6_21 + 1)), (4, .long (x4_21 * 10)), (2, .long (x2_21 * ((0 + 0 : Int32).toInt64))), (9, .int v_11), (8, .int v_9.1), (7, .int v_7.1), (0, .ref (a 0)), (1, .int x1_f21)]) hx hb d_Mo_odds_100 hl (k := 7) rfl (by rfl) (by decide) rfl (fun ls hl => ?_)
              refine lv_goto (tgt := 21) hx hb d_Mo_odds_103 (by decide) ?_
              exact ih21 (x2_21 * ((0 + 0 : Int32).toInt64)) (x4_21 * 10) (x6_21 + 1) v_9.2 _ _ _ hP hD hS (lv_sub hl [6, 7, 2, 1, 0] rfl) hd
            · have hd := ite_f hd h_14
              refine lv_iload hx hb d_Mo_odds_82 (lv_at hl 2 rfl) ?_
              refine lv_goto (tgt := 88) hx hb d_Mo_odds_84 (by decide) ?_
              refine lv_iadd hx hb d_Mo_odds_88 ?_
              refine lv_i2l hx hb d_Mo_odds_89 rfl ?_
              refine lv_lmul hx hb d_Mo_odds_90 ?_
              refine lv_lstore_n (lv' := [(2, .long (x2_21 * ((0 + v_7.1 : Int32).toInt64))), (9, .int v_11), (8, .int v_9.1), (7, .int v_7.1), (0, .ref (a 0)), (1, .int x1_f21), (4, .long x4_21), (6, .int x6_21)]) hx hb d_Mo_odds_91 rfl hl (by decide) rfl (fun ls hl => ?_)
              refine lv_lload hx hb d_Mo_odds_92 (lv_at hl 6 rfl) ?_
              refine lv_ldc2 (v := 10) hx hb hown (hg _ g_1334) d_Mo_odds_94 ?_
              refine lv_lmul hx hb d_Mo_odds_97 ?_
              refine lv_lstore (lv' := [(4, .long (x4_21 * 10)), (2, .long (x2_21 * ((0 + v_7.1 : Int32).toInt64))), (9, .int v_11), (8, .int v_9.1), (7, .int v_7.1), (0, .ref (a 0)), (1, .int x1_f21), (6, .int x6_21)]) hx hb d_Mo_odds_98 hl (by decide) rfl (fun ls hl => ?_)
              refine lv_iinc (v := x6_21 + 1) (lv' := [(6, .int (x6_21 + 1)), (4, .long (x4_21 * 10)), (2, .long (x2_21 * ((0 + v_7.1 : Int32).toInt64))), (9, .int v_11), (8, .int v_9.1), (7, .int v_7.1), (0, .ref (a 0)), (1, .int x1_f21)]) hx hb d_Mo_odds_100 hl (k := 7) rfl (by rfl) (by decide) rfl (fun ls hl => ?_)
              refine lv_goto (tgt := 21) hx hb d_Mo_odds_103 (by decide) ?_
              exact ih21 (x2_21 * ((0 + v_7.1 : Int32).toInt64)) (x4_21 * 10) (x6_21 + 1) v_9.2 _ _ _ hP hD hS (lv_sub hl [6, 7, 2, 1, 0] rfl) hd
          · have hd := ite_f hd h_13
            refine lv_bipush (v := 10) hx hb d_Mo_odds_64 (by decide) ?_
            refine lv_iload hx hb d_Mo_odds_66 (lv_at hl 2 rfl) ?_
            refine lv_isub hx hb d_Mo_odds_68 ?_
            refine lv_goto (tgt := 73) hx hb d_Mo_odds_69 (by decide) ?_
            refine lv_iload hx hb d_Mo_odds_73 (lv_at hl 0 rfl) ?_
            refine lv_iload hx hb d_Mo_odds_75 (lv_at hl 1 rfl) ?_
            refine lv_iconst (v := 2) hx hb d_Mo_odds_77 (by decide) ?_
            refine lv_idiv hx hb d_Mo_odds_78 (by decide) ?_
            refine lv_icmp_gt (tgt := 87) hx hb d_Mo_odds_79 (by decide) (fun h_15 => ?_) (fun h_15 => ?_)
            · have hd := ite_t hd h_15
              refine lv_iconst (v := 0) hx hb d_Mo_odds_87 (by decide) ?_
              refine lv_iadd hx hb d_Mo_odds_88 ?_
              refine lv_i2l hx hb d_Mo_odds_89 rfl ?_
              refine lv_lmul hx hb d_Mo_odds_90 ?_
              refine lv_lstore_n (lv' := [(2, .long (x2_21 * (((10 - v_7.1) + 0 : Int32).toInt64))), (9, .int v_11), (8, .int v_9.1), (7, .int v_7.1), (0, .ref (a 0)), (1, .int x1_f21), (4, .long x4_21), (6, .int x6_21)]) hx hb d_Mo_odds_91 rfl hl (by decide) rfl (fun ls hl => ?_)
              refine lv_lload hx hb d_Mo_odds_92 (lv_at hl 6 rfl) ?_
              refine lv_ldc2 (v := 10) hx hb hown (hg _ g_1334) d_Mo_odds_94 ?_
              refine lv_lmul hx hb d_Mo_odds_97 ?_
              refine lv_lstore (lv' := [(4, .long (x4_21 * 10)), (2, .long (x2_21 * (((10 - v_7.1) + 0 : Int32).toInt64))), (9, .int v_11), (8, .int v_9.1), (7, .int v_7.1), (0, .ref (a 0)), (1, .int x1_f21), (6, .int x6_21)]) hx hb d_Mo_odds_98 hl (by decide) rfl (fun ls hl => ?_)
              refine lv_iinc (v := x6_21 + 1) (lv' := [(6, .int (x6_21 + 1)), (4, .long (x4_21 * 10)), (2, .long (x2_21 * (((10 - v_7.1) + 0 : Int32).toInt64))), (9, .int v_11), (8, .int v_9.1), (7, .int v_7.1), (0, .ref (a 0)), (1, .int x1_f21)]) hx hb d_Mo_odds_100 hl (k := 7) rfl (by rfl) (by decide) rfl (fun ls hl => ?_)
              refine lv_goto (tgt := 21) hx hb d_Mo_odds_103 (by decide) ?_
              exact ih21 (x2_21 * (((10 - v_7.1) + 0 : Int32).toInt64)) (x4_21 * 10) (x6_21 + 1) v_9.2 _ _ _ hP hD hS (lv_sub hl [6, 7, 2, 1, 0] rfl) hd
            · have hd := ite_f hd h_15
              refine lv_iload hx hb d_Mo_odds_82 (lv_at hl 2 rfl) ?_
              refine lv_goto (tgt := 88) hx hb d_Mo_odds_84 (by decide) ?_
              refine lv_iadd hx hb d_Mo_odds_88 ?_
              refine lv_i2l hx hb d_Mo_odds_89 rfl ?_
              refine lv_lmul hx hb d_Mo_odds_90 ?_
              refine lv_lstore_n (lv' := [(2, .long (x2_21 * (((10 - v_7.1) + v_7.1 : Int32).toInt64))), (9, .int v_11), (8, .int v_9.1), (7, .int v_7.1), (0, .ref (a 0)), (1, .int x1_f21), (4, .long x4_21), (6, .int x6_21)]) hx hb d_Mo_odds_91 rfl hl (by decide) rfl (fun ls hl => ?_)
              refine lv_lload hx hb d_Mo_odds_92 (lv_at hl 6 rfl) ?_
              refine lv_ldc2 (v := 10) hx hb hown (hg _ g_1334) d_Mo_odds_94 ?_
              refine lv_lmul hx hb d_Mo_odds_97 ?_
              refine lv_lstore (lv' := [(4, .long (x4_21 * 10)), (2, .long (x2_21 * (((10 - v_7.1) + v_7.1 : Int32).toInt64))), (9, .int v_11), (8, .int v_9.1), (7, .int v_7.1), (0, .ref (a 0)), (1, .int x1_f21), (6, .int x6_21)]) hx hb d_Mo_odds_98 hl (by decide) rfl (fun ls hl => ?_)
              refine lv_iinc (v := x6_21 + 1) (lv' := [(6, .int (x6_21 + 1)), (4, .long (x4_21 * 10)), (2, .long (x2_21 * (((10 - v_7.1) + v_7.1 : Int32).toInt64))), (9, .int v_11), (8, .int v_9.1), (7, .int v_7.1), (0, .ref (a 0)), (1, .int x1_f21)]) hx hb d_Mo_odds_100 hl (k := 7) rfl (by rfl) (by decide) rfl (fun ls hl => ?_)
              refine lv_goto (tgt := 21) hx hb d_Mo_odds_103 (by decide) ?_
              exact ih21 (x2_21 * (((10 - v_7.1) + v_7.1 : Int32).toInt64)) (x4_21 * 10) (x6_21 + 1) v_9.2 _ _ _ hP hD hS (lv_sub hl [6, 7, 2, 1, 0] rfl) hd
    exact lp21 x1 1000 1 1 0 z _ _ _ hP hD hS (lv_sub hl [3, 4, 2, 1, 0] rfl) hd
  · have hd := ite_t hd h_3
    refine lv_ldc2 (v := (-9223372036854775808)) hx hb hown (hg _ g_1290) d_Mo_odds_9 ?_
    obtain rfl := Option.some.inj hd
    exact retL hx hb hr hlk hK hP hD hS d_Mo_odds_12 rfl
-- OwnsLiftModel.see(IZ)I
def d_Mo_see (x1 : Int32) (x2 : Int32) (z : T_Mo) : Option (Int32 × T_Mo) :=
  if x1 = (-1) then (some (0, (u_Mo_s z (upd (q_Mo_s z) 3 0)))) else ((d_Mo_isPerson x1 z).bind fun v_2 => if v_2 = 0 then (some ((-1), z)) else (if ((q_Mo_s z) 3) = 12 then (some ((-4), z)) else (if inb (72 + ((q_Mo_s z) 3)) 901 = true then (if x2 = 0 then (if inb (84 + ((q_Mo_s (u_Mo_s z (upd (q_Mo_s z) (72 + ((q_Mo_s z) 3)).toNatClampNeg x1))) 3)) 901 = true then (some ((q_Mo_s (u_Mo_s (u_Mo_s (u_Mo_s z (upd (q_Mo_s z) (72 + ((q_Mo_s z) 3)).toNatClampNeg x1)) (upd (q_Mo_s (u_Mo_s z (upd (q_Mo_s z) (72 + ((q_Mo_s z) 3)).toNatClampNeg x1))) (84 + ((q_Mo_s (u_Mo_s z (upd (q_Mo_s z) (72 + ((q_Mo_s z) 3)).toNatClampNeg x1))) 3)).toNatClampNeg 0)) (upd (q_Mo_s (u_Mo_s (u_Mo_s z (upd (q_Mo_s z) (72 + ((q_Mo_s z) 3)).toNatClampNeg x1)) (upd (q_Mo_s (u_Mo_s z (upd (q_Mo_s z) (72 + ((q_Mo_s z) 3)).toNatClampNeg x1))) (84 + ((q_Mo_s (u_Mo_s z (upd (q_Mo_s z) (72 + ((q_Mo_s z) 3)).toNatClampNeg x1))) 3)).toNatClampNeg 0))) 3 (((q_Mo_s (u_Mo_s (u_Mo_s z (upd (q_Mo_s z) (72 + ((q_Mo_s z) 3)).toNatClampNeg x1)) (upd (q_Mo_s (u_Mo_s z (upd (q_Mo_s z) (72 + ((q_Mo_s z) 3)).toNatClampNeg x1))) (84 + ((q_Mo_s (u_Mo_s z (upd (q_Mo_s z) (72 + ((q_Mo_s z) 3)).toNatClampNeg x1))) 3)).toNatClampNeg 0))) 3) + 1)))) 3, (u_Mo_s (u_Mo_s (u_Mo_s z (upd (q_Mo_s z) (72 + ((q_Mo_s z) 3)).toNatClampNeg x1)) (upd (q_Mo_s (u_Mo_s z (upd (q_Mo_s z) (72 + ((q_Mo_s z) 3)).toNatClampNeg x1))) (84 + ((q_Mo_s (u_Mo_s z (upd (q_Mo_s z) (72 + ((q_Mo_s z) 3)).toNatClampNeg x1))) 3)).toNatClampNeg 0)) (upd (q_Mo_s (u_Mo_s (u_Mo_s z (upd (q_Mo_s z) (72 + ((q_Mo_s z) 3)).toNatClampNeg x1)) (upd (q_Mo_s (u_Mo_s z (upd (q_Mo_s z) (72 + ((q_Mo_s z) 3)).toNatClampNeg x1))) (84 + ((q_Mo_s (u_Mo_s z (upd (q_Mo_s z) (72 + ((q_Mo_s z) 3)).toNatClampNeg x1))) 3)).toNatClampNeg 0))) 3 (((q_Mo_s (u_Mo_s (u_Mo_s z (upd (q_Mo_s z) (72 + ((q_Mo_s z) 3)).toNatClampNeg x1)) (upd (q_Mo_s (u_Mo_s z (upd (q_Mo_s z) (72 + ((q_Mo_s z) 3)).toNatClampNeg x1))) (84 + ((q_Mo_s (u_Mo_s z (upd (q_Mo_s z) (72 + ((q_Mo_s z) 3)).toNatClampNeg x1))) 3)).toNatClampNeg 0))) 3) + 1))))) else none) else (if inb (84 + ((q_Mo_s (u_Mo_s z (upd (q_Mo_s z) (72 + ((q_Mo_s z) 3)).toNatClampNeg x1))) 3)) 901 = true then (some ((q_Mo_s (u_Mo_s (u_Mo_s (u_Mo_s z (upd (q_Mo_s z) (72 + ((q_Mo_s z) 3)).toNatClampNeg x1)) (upd (q_Mo_s (u_Mo_s z (upd (q_Mo_s z) (72 + ((q_Mo_s z) 3)).toNatClampNeg x1))) (84 + ((q_Mo_s (u_Mo_s z (upd (q_Mo_s z) (72 + ((q_Mo_s z) 3)).toNatClampNeg x1))) 3)).toNatClampNeg 1)) (upd (q_Mo_s (u_Mo_s (u_Mo_s z (upd (q_Mo_s z) (72 + ((q_Mo_s z) 3)).toNatClampNeg x1)) (upd (q_Mo_s (u_Mo_s z (upd (q_Mo_s z) (72 + ((q_Mo_s z) 3)).toNatClampNeg x1))) (84 + ((q_Mo_s (u_Mo_s z (upd (q_Mo_s z) (72 + ((q_Mo_s z) 3)).toNatClampNeg x1))) 3)).toNatClampNeg 1))) 3 (((q_Mo_s (u_Mo_s (u_Mo_s z (upd (q_Mo_s z) (72 + ((q_Mo_s z) 3)).toNatClampNeg x1)) (upd (q_Mo_s (u_Mo_s z (upd (q_Mo_s z) (72 + ((q_Mo_s z) 3)).toNatClampNeg x1))) (84 + ((q_Mo_s (u_Mo_s z (upd (q_Mo_s z) (72 + ((q_Mo_s z) 3)).toNatClampNeg x1))) 3)).toNatClampNeg 1))) 3) + 1)))) 3, (u_Mo_s (u_Mo_s (u_Mo_s z (upd (q_Mo_s z) (72 + ((q_Mo_s z) 3)).toNatClampNeg x1)) (upd (q_Mo_s (u_Mo_s z (upd (q_Mo_s z) (72 + ((q_Mo_s z) 3)).toNatClampNeg x1))) (84 + ((q_Mo_s (u_Mo_s z (upd (q_Mo_s z) (72 + ((q_Mo_s z) 3)).toNatClampNeg x1))) 3)).toNatClampNeg 1)) (upd (q_Mo_s (u_Mo_s (u_Mo_s z (upd (q_Mo_s z) (72 + ((q_Mo_s z) 3)).toNatClampNeg x1)) (upd (q_Mo_s (u_Mo_s z (upd (q_Mo_s z) (72 + ((q_Mo_s z) 3)).toNatClampNeg x1))) (84 + ((q_Mo_s (u_Mo_s z (upd (q_Mo_s z) (72 + ((q_Mo_s z) 3)).toNatClampNeg x1))) 3)).toNatClampNeg 1))) 3 (((q_Mo_s (u_Mo_s (u_Mo_s z (upd (q_Mo_s z) (72 + ((q_Mo_s z) 3)).toNatClampNeg x1)) (upd (q_Mo_s (u_Mo_s z (upd (q_Mo_s z) (72 + ((q_Mo_s z) 3)).toNatClampNeg x1))) (84 + ((q_Mo_s (u_Mo_s z (upd (q_Mo_s z) (72 + ((q_Mo_s z) 3)).toNatClampNeg x1))) 3)).toNatClampNeg 1))) 3) + 1))))) else none)) else none)))
theorem d_Mo_see_0 : decode b_Mo_see 0 = .ok (.iload_n 1, 1) := by decide +kernel
theorem d_Mo_see_1 : decode b_Mo_see 1 = .ok (.iconst (-1), 1) := by decide +kernel
theorem d_Mo_see_2 : decode b_Mo_see 2 = .ok (.if_icmp .ne 12, 3) := by decide +kernel
theorem d_Mo_see_5 : decode b_Mo_see 5 = .ok (.aload_n 0, 1) := by decide +kernel
theorem d_Mo_see_6 : decode b_Mo_see 6 = .ok (.getfield 9, 3) := by decide +kernel
theorem d_Mo_see_9 : decode b_Mo_see 9 = .ok (.iconst 3, 1) := by decide +kernel
theorem d_Mo_see_10 : decode b_Mo_see 10 = .ok (.iconst 0, 1) := by decide +kernel
theorem d_Mo_see_11 : decode b_Mo_see 11 = .ok (.iastore, 1) := by decide +kernel
theorem d_Mo_see_12 : decode b_Mo_see 12 = .ok (.iconst 0, 1) := by decide +kernel
theorem d_Mo_see_13 : decode b_Mo_see 13 = .ok (.ireturn, 1) := by decide +kernel
theorem d_Mo_see_14 : decode b_Mo_see 14 = .ok (.aload_n 0, 1) := by decide +kernel
theorem d_Mo_see_15 : decode b_Mo_see 15 = .ok (.iload_n 1, 1) := by decide +kernel
theorem d_Mo_see_16 : decode b_Mo_see 16 = .ok (.invokevirtual 147, 3) := by decide +kernel
theorem d_Mo_see_19 : decode b_Mo_see 19 = .ok (.ifCond .ne 5, 3) := by decide +kernel
theorem d_Mo_see_22 : decode b_Mo_see 22 = .ok (.iconst (-1), 1) := by decide +kernel
theorem d_Mo_see_23 : decode b_Mo_see 23 = .ok (.ireturn, 1) := by decide +kernel
theorem d_Mo_see_24 : decode b_Mo_see 24 = .ok (.aload_n 0, 1) := by decide +kernel
theorem d_Mo_see_25 : decode b_Mo_see 25 = .ok (.getfield 9, 3) := by decide +kernel
theorem d_Mo_see_28 : decode b_Mo_see 28 = .ok (.iconst 3, 1) := by decide +kernel
theorem d_Mo_see_29 : decode b_Mo_see 29 = .ok (.iaload, 1) := by decide +kernel
theorem d_Mo_see_30 : decode b_Mo_see 30 = .ok (.bipush 12, 2) := by decide +kernel
theorem d_Mo_see_32 : decode b_Mo_see 32 = .ok (.if_icmp .ne 6, 3) := by decide +kernel
theorem d_Mo_see_35 : decode b_Mo_see 35 = .ok (.bipush (-4), 2) := by decide +kernel
theorem d_Mo_see_37 : decode b_Mo_see 37 = .ok (.ireturn, 1) := by decide +kernel
theorem d_Mo_see_38 : decode b_Mo_see 38 = .ok (.aload_n 0, 1) := by decide +kernel
theorem d_Mo_see_39 : decode b_Mo_see 39 = .ok (.getfield 9, 3) := by decide +kernel
theorem d_Mo_see_42 : decode b_Mo_see 42 = .ok (.bipush 72, 2) := by decide +kernel
theorem d_Mo_see_44 : decode b_Mo_see 44 = .ok (.aload_n 0, 1) := by decide +kernel
theorem d_Mo_see_45 : decode b_Mo_see 45 = .ok (.getfield 9, 3) := by decide +kernel
theorem d_Mo_see_48 : decode b_Mo_see 48 = .ok (.iconst 3, 1) := by decide +kernel
theorem d_Mo_see_49 : decode b_Mo_see 49 = .ok (.iaload, 1) := by decide +kernel
theorem d_Mo_see_50 : decode b_Mo_see 50 = .ok (.iadd, 1) := by decide +kernel
theorem d_Mo_see_51 : decode b_Mo_see 51 = .ok (.iload_n 1, 1) := by decide +kernel
theorem d_Mo_see_52 : decode b_Mo_see 52 = .ok (.iastore, 1) := by decide +kernel
theorem d_Mo_see_53 : decode b_Mo_see 53 = .ok (.aload_n 0, 1) := by decide +kernel
theorem d_Mo_see_54 : decode b_Mo_see 54 = .ok (.getfield 9, 3) := by decide +kernel
theorem d_Mo_see_57 : decode b_Mo_see 57 = .ok (.bipush 84, 2) := by decide +kernel
theorem d_Mo_see_59 : decode b_Mo_see 59 = .ok (.aload_n 0, 1) := by decide +kernel
theorem d_Mo_see_60 : decode b_Mo_see 60 = .ok (.getfield 9, 3) := by decide +kernel
theorem d_Mo_see_63 : decode b_Mo_see 63 = .ok (.iconst 3, 1) := by decide +kernel
theorem d_Mo_see_64 : decode b_Mo_see 64 = .ok (.iaload, 1) := by decide +kernel
theorem d_Mo_see_65 : decode b_Mo_see 65 = .ok (.iadd, 1) := by decide +kernel
theorem d_Mo_see_66 : decode b_Mo_see 66 = .ok (.iload_n 2, 1) := by decide +kernel
theorem d_Mo_see_67 : decode b_Mo_see 67 = .ok (.ifCond .eq 7, 3) := by decide +kernel
theorem d_Mo_see_70 : decode b_Mo_see 70 = .ok (.iconst 1, 1) := by decide +kernel
theorem d_Mo_see_71 : decode b_Mo_see 71 = .ok (.goto 4, 3) := by decide +kernel
theorem d_Mo_see_74 : decode b_Mo_see 74 = .ok (.iconst 0, 1) := by decide +kernel
theorem d_Mo_see_75 : decode b_Mo_see 75 = .ok (.iastore, 1) := by decide +kernel
theorem d_Mo_see_76 : decode b_Mo_see 76 = .ok (.aload_n 0, 1) := by decide +kernel
theorem d_Mo_see_77 : decode b_Mo_see 77 = .ok (.getfield 9, 3) := by decide +kernel
theorem d_Mo_see_80 : decode b_Mo_see 80 = .ok (.iconst 3, 1) := by decide +kernel
theorem d_Mo_see_81 : decode b_Mo_see 81 = .ok (.dup2, 1) := by decide +kernel
theorem d_Mo_see_82 : decode b_Mo_see 82 = .ok (.iaload, 1) := by decide +kernel
theorem d_Mo_see_83 : decode b_Mo_see 83 = .ok (.iconst 1, 1) := by decide +kernel
theorem d_Mo_see_84 : decode b_Mo_see 84 = .ok (.iadd, 1) := by decide +kernel
theorem d_Mo_see_85 : decode b_Mo_see 85 = .ok (.iastore, 1) := by decide +kernel
theorem d_Mo_see_86 : decode b_Mo_see 86 = .ok (.aload_n 0, 1) := by decide +kernel
theorem d_Mo_see_87 : decode b_Mo_see 87 = .ok (.getfield 9, 3) := by decide +kernel
theorem d_Mo_see_90 : decode b_Mo_see 90 = .ok (.iconst 3, 1) := by decide +kernel
theorem d_Mo_see_91 : decode b_Mo_see 91 = .ok (.iaload, 1) := by decide +kernel
theorem d_Mo_see_92 : decode b_Mo_see 92 = .ok (.ireturn, 1) := by decide +kernel
theorem o_Mo_see : OkV y_Mo_see "OwnsLiftModel" b_Mo_see 3 (some .int) 2 := ⟨⟨rfl, by decide +kernel, by decide +kernel, by decide +kernel⟩, g_1336, g_1337, g_81, g_1338⟩
set_option maxHeartbeats 4000000 in
set_option maxRecDepth 100000 in
theorem c_Mo_see (l : Launch) (D : va_G) (g : Nat → ClassId) (a : Nat → Nat) (x1 : Int32) (x2 : Int32) (z : T_Mo) (v : Int32 × T_Mo) (h : d_Mo_see x1 x2 z = some v) :
    MI l y_Mo_see b_Mo_see 3 .int ({ frames := 2, cells := 0, slots := 0, locals := 43 } : Room) D g [.ref (a 0), .int x1, .int x2] (ws_Mo g a z) (v.1) (ws_Mo g a v.2) := by
  have hd := h
  unfold d_Mo_see at hd
  refine enterI rfl (Nat.le_of_ble_eq_true rfl) (fun p e s m below meth c A ls hx hb hml hr hown hg hlk hK hA hP hD hS hCs hl => ?_)
  have hown : s.vm.findClass "OwnsLiftModel" = some m.cls := hown
  have hl : lv_has ls 3 [(0, .ref (a 0)), (1, .int x1), (2, .int x2)] := hl
  show GI p l e s m ({ frames := 2, cells := 0, slots := 0, locals := 43 } : Room) ([.ref (a 0), .int x1, .int x2] : List Value).toArray below meth c A D g (ws_Mo g a v.2) (v.1) s.heap [] (F0 m 0 ls [])
  refine lv_iload_n hx hb d_Mo_see_0 rfl (lv_at hl 1 rfl) ?_
  refine lv_iconst (v := (-1)) hx hb d_Mo_see_1 (by decide) ?_
  refine lv_icmp_ne (tgt := 14) hx hb d_Mo_see_2 (by decide) (fun h_1 => ?_) (fun h_1 => ?_)
  · have hd := ite_f hd h_1
    refine lv_aload_n hx hb d_Mo_see_14 rfl (lv_at hl 0 rfl) ?_
    refine lv_iload_n hx hb d_Mo_see_15 rfl (lv_at hl 1 rfl) ?_
    obtain ⟨v_2, e_3, hd⟩ := bind_s hd
    refine callVI (ws' := ws_Mo g a z) (rest := []) (As := [.int x1]) hx hb hml hown hg hK hP hD hS hA hCs hl.1 (c_Mo_isPerson l D g a x1 z _ e_3) o_Mo_isPerson g_1147 (ci := 1) (q0 := 0) rfl rfl (List.range' 0 12) (segC1 rfl rfl) (by decide) rfl (segP1 rfl rfl) rfl rfl (Nat.le_of_ble_eq_true rfl) ⟨rfl, rfl, Nat.le_of_ble_eq_true rfl, Nat.le_of_ble_eq_true rfl⟩ d_Mo_see_16 (fun H locs hP hD hS => ?_)
    refine lv_if_ne (tgt := 24) hx hb d_Mo_see_19 (by decide) (fun h_4 => ?_) (fun h_4 => ?_)
    · have hd := ite_f hd h_4
      refine lv_aload_n hx hb d_Mo_see_24 rfl (lv_at hl 0 rfl) ?_
      refine va_get (D := D) (ci := 1) (v := .ref (a 1)) (C := R_Mo) (T := F_Mo) (N := 26) hx hb hg i_Mo hown hK hP 0 rfl rfl 1 (by decide) (hg _ g_993) (fun _ h9 => h9) rfl d_Mo_see_25 ?_
      refine lv_iconst (v := 3) hx hb d_Mo_see_28 (by decide) ?_
      refine ialdK hx hb hK hP 1 0 rfl rfl (inb_t (by decide +kernel)) (k := 3) (by decide +kernel) d_Mo_see_29 ?_
      refine lv_bipush (v := 12) hx hb d_Mo_see_30 (by decide) ?_
      refine lv_icmp_ne (tgt := 38) hx hb d_Mo_see_32 (by decide) (fun h_5 => ?_) (fun h_5 => ?_)
      · have hd := ite_f hd h_5
        refine lv_aload_n hx hb d_Mo_see_38 rfl (lv_at hl 0 rfl) ?_
        refine va_get (D := D) (ci := 1) (v := .ref (a 1)) (C := R_Mo) (T := F_Mo) (N := 26) hx hb hg i_Mo hown hK hP 0 rfl rfl 1 (by decide) (hg _ g_993) (fun _ h9 => h9) rfl d_Mo_see_39 ?_
        refine lv_bipush (v := 72) hx hb d_Mo_see_42 (by decide) ?_
        refine lv_aload_n hx hb d_Mo_see_44 rfl (lv_at hl 0 rfl) ?_
        refine va_get (D := D) (ci := 1) (v := .ref (a 1)) (C := R_Mo) (T := F_Mo) (N := 26) hx hb hg i_Mo hown hK hP 0 rfl rfl 1 (by decide) (hg _ g_993) (fun _ h9 => h9) rfl d_Mo_see_45 ?_
        refine lv_iconst (v := 3) hx hb d_Mo_see_48 (by decide) ?_
        refine ialdK hx hb hK hP 1 0 rfl rfl (inb_t (by decide +kernel)) (k := 3) (by decide +kernel) d_Mo_see_49 ?_
        refine lv_iadd hx hb d_Mo_see_50 ?_
        refine lv_iload_n hx hb d_Mo_see_51 rfl (lv_at hl 1 rfl) ?_
        obtain ⟨h_9, hd⟩ := ite_s hd
        refine iastK hx hb hK hP hD hS 1 0 rfl rfl (inb_t h_9) rfl d_Mo_see_52 (fun H locs hP hD hS => ?_)
        have hP : va_P D classes (ws_Mo g a (u_Mo_s z (upd (q_Mo_s z) (72 + ((q_Mo_s z) 3)).toNatClampNeg x1))) H := hP
        have hD : va_D A (ws_Mo g a (u_Mo_s z (upd (q_Mo_s z) (72 + ((q_Mo_s z) 3)).toNatClampNeg x1))) := hD
        refine lv_aload_n hx hb d_Mo_see_53 rfl (lv_at hl 0 rfl) ?_
        refine va_get (D := D) (ci := 1) (v := .ref (a 1)) (C := R_Mo) (T := F_Mo) (N := 26) hx hb hg i_Mo hown hK hP 0 rfl rfl 1 (by decide) (hg _ g_993) (fun _ h9 => h9) rfl d_Mo_see_54 ?_
        refine lv_bipush (v := 84) hx hb d_Mo_see_57 (by decide) ?_
        refine lv_aload_n hx hb d_Mo_see_59 rfl (lv_at hl 0 rfl) ?_
        refine va_get (D := D) (ci := 1) (v := .ref (a 1)) (C := R_Mo) (T := F_Mo) (N := 26) hx hb hg i_Mo hown hK hP 0 rfl rfl 1 (by decide) (hg _ g_993) (fun _ h9 => h9) rfl d_Mo_see_60 ?_
        refine lv_iconst (v := 3) hx hb d_Mo_see_63 (by decide) ?_
        refine ialdK hx hb hK hP 1 0 rfl rfl (inb_t (by decide +kernel)) (k := 3) (by decide +kernel) d_Mo_see_64 ?_
        refine lv_iadd hx hb d_Mo_see_65 ?_
        refine lv_iload_n hx hb d_Mo_see_66 rfl (lv_at hl 2 rfl) ?_
        refine lv_if_eq (tgt := 74) hx hb d_Mo_see_67 (by decide) (fun h_6 => ?_) (fun h_6 => ?_)
        · have hd := ite_t hd h_6
          refine lv_iconst (v := 0) hx hb d_Mo_see_74 (by decide) ?_
          obtain ⟨h_7, hd⟩ := ite_s hd
          refine iastK hx hb hK hP hD hS 1 0 rfl rfl (inb_t h_7) rfl d_Mo_see_75 (fun H locs hP hD hS => ?_)
          have hP : va_P D classes (ws_Mo g a (u_Mo_s (u_Mo_s z (upd (q_Mo_s z) (72 + ((q_Mo_s z) 3)).toNatClampNeg x1)) (upd (q_Mo_s (u_Mo_s z (upd (q_Mo_s z) (72 + ((q_Mo_s z) 3)).toNatClampNeg x1))) (84 + ((q_Mo_s (u_Mo_s z (upd (q_Mo_s z) (72 + ((q_Mo_s z) 3)).toNatClampNeg x1))) 3)).toNatClampNeg 0))) H := hP
          have hD : va_D A (ws_Mo g a (u_Mo_s (u_Mo_s z (upd (q_Mo_s z) (72 + ((q_Mo_s z) 3)).toNatClampNeg x1)) (upd (q_Mo_s (u_Mo_s z (upd (q_Mo_s z) (72 + ((q_Mo_s z) 3)).toNatClampNeg x1))) (84 + ((q_Mo_s (u_Mo_s z (upd (q_Mo_s z) (72 + ((q_Mo_s z) 3)).toNatClampNeg x1))) 3)).toNatClampNeg 0))) := hD
          refine lv_aload_n hx hb d_Mo_see_76 rfl (lv_at hl 0 rfl) ?_
          refine va_get (D := D) (ci := 1) (v := .ref (a 1)) (C := R_Mo) (T := F_Mo) (N := 26) hx hb hg i_Mo hown hK hP 0 rfl rfl 1 (by decide) (hg _ g_993) (fun _ h9 => h9) rfl d_Mo_see_77 ?_
          refine lv_iconst (v := 3) hx hb d_Mo_see_80 (by decide) ?_
          refine lv_dup2_11 hx hb d_Mo_see_81 rfl rfl ?_
          refine ialdK hx hb hK hP 1 0 rfl rfl (inb_t (by decide +kernel)) (k := 3) (by decide +kernel) d_Mo_see_82 ?_
          refine lv_iconst (v := 1) hx hb d_Mo_see_83 (by decide) ?_
          refine lv_iadd hx hb d_Mo_see_84 ?_
          refine iastK hx hb hK hP hD hS 1 0 rfl rfl (inb_t (by decide +kernel)) (k := 3) (by decide +kernel) d_Mo_see_85 (fun H locs hP hD hS => ?_)
          have hP : va_P D classes (ws_Mo g a (u_Mo_s (u_Mo_s (u_Mo_s z (upd (q_Mo_s z) (72 + ((q_Mo_s z) 3)).toNatClampNeg x1)) (upd (q_Mo_s (u_Mo_s z (upd (q_Mo_s z) (72 + ((q_Mo_s z) 3)).toNatClampNeg x1))) (84 + ((q_Mo_s (u_Mo_s z (upd (q_Mo_s z) (72 + ((q_Mo_s z) 3)).toNatClampNeg x1))) 3)).toNatClampNeg 0)) (upd (q_Mo_s (u_Mo_s (u_Mo_s z (upd (q_Mo_s z) (72 + ((q_Mo_s z) 3)).toNatClampNeg x1)) (upd (q_Mo_s (u_Mo_s z (upd (q_Mo_s z) (72 + ((q_Mo_s z) 3)).toNatClampNeg x1))) (84 + ((q_Mo_s (u_Mo_s z (upd (q_Mo_s z) (72 + ((q_Mo_s z) 3)).toNatClampNeg x1))) 3)).toNatClampNeg 0))) 3 (((q_Mo_s (u_Mo_s (u_Mo_s z (upd (q_Mo_s z) (72 + ((q_Mo_s z) 3)).toNatClampNeg x1)) (upd (q_Mo_s (u_Mo_s z (upd (q_Mo_s z) (72 + ((q_Mo_s z) 3)).toNatClampNeg x1))) (84 + ((q_Mo_s (u_Mo_s z (upd (q_Mo_s z) (72 + ((q_Mo_s z) 3)).toNatClampNeg x1))) 3)).toNatClampNeg 0))) 3) + 1)))) H := hP
          have hD : va_D A (ws_Mo g a (u_Mo_s (u_Mo_s (u_Mo_s z (upd (q_Mo_s z) (72 + ((q_Mo_s z) 3)).toNatClampNeg x1)) (upd (q_Mo_s (u_Mo_s z (upd (q_Mo_s z) (72 + ((q_Mo_s z) 3)).toNatClampNeg x1))) (84 + ((q_Mo_s (u_Mo_s z (upd (q_Mo_s z) (72 + ((q_Mo_s z) 3)).toNatClampNeg x1))) 3)).toNatClampNeg 0)) (upd (q_Mo_s (u_Mo_s (u_Mo_s z (upd (q_Mo_s z) (72 + ((q_Mo_s z) 3)).toNatClampNeg x1)) (upd (q_Mo_s (u_Mo_s z (upd (q_Mo_s z) (72 + ((q_Mo_s z) 3)).toNatClampNeg x1))) (84 + ((q_Mo_s (u_Mo_s z (upd (q_Mo_s z) (72 + ((q_Mo_s z) 3)).toNatClampNeg x1))) 3)).toNatClampNeg 0))) 3 (((q_Mo_s (u_Mo_s (u_Mo_s z (upd (q_Mo_s z) (72 + ((q_Mo_s z) 3)).toNatClampNeg x1)) (upd (q_Mo_s (u_Mo_s z (upd (q_Mo_s z) (72 + ((q_Mo_s z) 3)).toNatClampNeg x1))) (84 + ((q_Mo_s (u_Mo_s z (upd (q_Mo_s z) (72 + ((q_Mo_s z) 3)).toNatClampNeg x1))) 3)).toNatClampNeg 0))) 3) + 1)))) := hD
          refine lv_aload_n hx hb d_Mo_see_86 rfl (lv_at hl 0 rfl) ?_
          refine va_get (D := D) (ci := 1) (v := .ref (a 1)) (C := R_Mo) (T := F_Mo) (N := 26) hx hb hg i_Mo hown hK hP 0 rfl rfl 1 (by decide) (hg _ g_993) (fun _ h9 => h9) rfl d_Mo_see_87 ?_
          refine lv_iconst (v := 3) hx hb d_Mo_see_90 (by decide) ?_
          refine ialdK hx hb hK hP 1 0 rfl rfl (inb_t (by decide +kernel)) (k := 3) (by decide +kernel) d_Mo_see_91 ?_
          obtain rfl := Option.some.inj hd
          exact retI hx hb hr hlk hK hP hD hS d_Mo_see_92 rfl
        · have hd := ite_f hd h_6
          refine lv_iconst (v := 1) hx hb d_Mo_see_70 (by decide) ?_
          refine lv_goto (tgt := 75) hx hb d_Mo_see_71 (by decide) ?_
          obtain ⟨h_8, hd⟩ := ite_s hd
          refine iastK hx hb hK hP hD hS 1 0 rfl rfl (inb_t h_8) rfl d_Mo_see_75 (fun H locs hP hD hS => ?_)
          have hP : va_P D classes (ws_Mo g a (u_Mo_s (u_Mo_s z (upd (q_Mo_s z) (72 + ((q_Mo_s z) 3)).toNatClampNeg x1)) (upd (q_Mo_s (u_Mo_s z (upd (q_Mo_s z) (72 + ((q_Mo_s z) 3)).toNatClampNeg x1))) (84 + ((q_Mo_s (u_Mo_s z (upd (q_Mo_s z) (72 + ((q_Mo_s z) 3)).toNatClampNeg x1))) 3)).toNatClampNeg 1))) H := hP
          have hD : va_D A (ws_Mo g a (u_Mo_s (u_Mo_s z (upd (q_Mo_s z) (72 + ((q_Mo_s z) 3)).toNatClampNeg x1)) (upd (q_Mo_s (u_Mo_s z (upd (q_Mo_s z) (72 + ((q_Mo_s z) 3)).toNatClampNeg x1))) (84 + ((q_Mo_s (u_Mo_s z (upd (q_Mo_s z) (72 + ((q_Mo_s z) 3)).toNatClampNeg x1))) 3)).toNatClampNeg 1))) := hD
          refine lv_aload_n hx hb d_Mo_see_76 rfl (lv_at hl 0 rfl) ?_
          refine va_get (D := D) (ci := 1) (v := .ref (a 1)) (C := R_Mo) (T := F_Mo) (N := 26) hx hb hg i_Mo hown hK hP 0 rfl rfl 1 (by decide) (hg _ g_993) (fun _ h9 => h9) rfl d_Mo_see_77 ?_
          refine lv_iconst (v := 3) hx hb d_Mo_see_80 (by decide) ?_
          refine lv_dup2_11 hx hb d_Mo_see_81 rfl rfl ?_
          refine ialdK hx hb hK hP 1 0 rfl rfl (inb_t (by decide +kernel)) (k := 3) (by decide +kernel) d_Mo_see_82 ?_
          refine lv_iconst (v := 1) hx hb d_Mo_see_83 (by decide) ?_
          refine lv_iadd hx hb d_Mo_see_84 ?_
          refine iastK hx hb hK hP hD hS 1 0 rfl rfl (inb_t (by decide +kernel)) (k := 3) (by decide +kernel) d_Mo_see_85 (fun H locs hP hD hS => ?_)
          have hP : va_P D classes (ws_Mo g a (u_Mo_s (u_Mo_s (u_Mo_s z (upd (q_Mo_s z) (72 + ((q_Mo_s z) 3)).toNatClampNeg x1)) (upd (q_Mo_s (u_Mo_s z (upd (q_Mo_s z) (72 + ((q_Mo_s z) 3)).toNatClampNeg x1))) (84 + ((q_Mo_s (u_Mo_s z (upd (q_Mo_s z) (72 + ((q_Mo_s z) 3)).toNatClampNeg x1))) 3)).toNatClampNeg 1)) (upd (q_Mo_s (u_Mo_s (u_Mo_s z (upd (q_Mo_s z) (72 + ((q_Mo_s z) 3)).toNatClampNeg x1)) (upd (q_Mo_s (u_Mo_s z (upd (q_Mo_s z) (72 + ((q_Mo_s z) 3)).toNatClampNeg x1))) (84 + ((q_Mo_s (u_Mo_s z (upd (q_Mo_s z) (72 + ((q_Mo_s z) 3)).toNatClampNeg x1))) 3)).toNatClampNeg 1))) 3 (((q_Mo_s (u_Mo_s (u_Mo_s z (upd (q_Mo_s z) (72 + ((q_Mo_s z) 3)).toNatClampNeg x1)) (upd (q_Mo_s (u_Mo_s z (upd (q_Mo_s z) (72 + ((q_Mo_s z) 3)).toNatClampNeg x1))) (84 + ((q_Mo_s (u_Mo_s z (upd (q_Mo_s z) (72 + ((q_Mo_s z) 3)).toNatClampNeg x1))) 3)).toNatClampNeg 1))) 3) + 1)))) H := hP
          have hD : va_D A (ws_Mo g a (u_Mo_s (u_Mo_s (u_Mo_s z (upd (q_Mo_s z) (72 + ((q_Mo_s z) 3)).toNatClampNeg x1)) (upd (q_Mo_s (u_Mo_s z (upd (q_Mo_s z) (72 + ((q_Mo_s z) 3)).toNatClampNeg x1))) (84 + ((q_Mo_s (u_Mo_s z (upd (q_Mo_s z) (72 + ((q_Mo_s z) 3)).toNatClampNeg x1))) 3)).toNatClampNeg 1)) (upd (q_Mo_s (u_Mo_s (u_Mo_s z (upd (q_Mo_s z) (72 + ((q_Mo_s z) 3)).toNatClampNeg x1)) (upd (q_Mo_s (u_Mo_s z (upd (q_Mo_s z) (72 + ((q_Mo_s z) 3)).toNatClampNeg x1))) (84 + ((q_Mo_s (u_Mo_s z (upd (q_Mo_s z) (72 + ((q_Mo_s z) 3)).toNatClampNeg x1))) 3)).toNatClampNeg 1))) 3 (((q_Mo_s (u_Mo_s (u_Mo_s z (upd (q_Mo_s z) (72 + ((q_Mo_s z) 3)).toNatClampNeg x1)) (upd (q_Mo_s (u_Mo_s z (upd (q_Mo_s z) (72 + ((q_Mo_s z) 3)).toNatClampNeg x1))) (84 + ((q_Mo_s (u_Mo_s z (upd (q_Mo_s z) (72 + ((q_Mo_s z) 3)).toNatClampNeg x1))) 3)).toNatClampNeg 1))) 3) + 1)))) := hD
          refine lv_aload_n hx hb d_Mo_see_86 rfl (lv_at hl 0 rfl) ?_
          refine va_get (D := D) (ci := 1) (v := .ref (a 1)) (C := R_Mo) (T := F_Mo) (N := 26) hx hb hg i_Mo hown hK hP 0 rfl rfl 1 (by decide) (hg _ g_993) (fun _ h9 => h9) rfl d_Mo_see_87 ?_
          refine lv_iconst (v := 3) hx hb d_Mo_see_90 (by decide) ?_
          refine ialdK hx hb hK hP 1 0 rfl rfl (inb_t (by decide +kernel)) (k := 3) (by decide +kernel) d_Mo_see_91 ?_
          obtain rfl := Option.some.inj hd
          exact retI hx hb hr hlk hK hP hD hS d_Mo_see_92 rfl
      · have hd := ite_t hd h_5
        refine lv_bipush (v := (-4)) hx hb d_Mo_see_35 (by decide) ?_
        obtain rfl := Option.some.inj hd
        exact retI hx hb hr hlk hK hP hD hS d_Mo_see_37 rfl
    · have hd := ite_t hd h_4
      refine lv_iconst (v := (-1)) hx hb d_Mo_see_22 (by decide) ?_
      obtain rfl := Option.some.inj hd
      exact retI hx hb hr hlk hK hP hD hS d_Mo_see_23 rfl
  · have hd := ite_t hd h_1
    refine lv_aload_n hx hb d_Mo_see_5 rfl (lv_at hl 0 rfl) ?_
    refine va_get (D := D) (ci := 1) (v := .ref (a 1)) (C := R_Mo) (T := F_Mo) (N := 26) hx hb hg i_Mo hown hK hP 0 rfl rfl 1 (by decide) (hg _ g_993) (fun _ h9 => h9) rfl d_Mo_see_6 ?_
    refine lv_iconst (v := 3) hx hb d_Mo_see_9 (by decide) ?_
    refine lv_iconst (v := 0) hx hb d_Mo_see_10 (by decide) ?_
    refine iastK hx hb hK hP hD hS 1 0 rfl rfl (inb_t (by decide +kernel)) (k := 3) (by decide +kernel) d_Mo_see_11 (fun H locs hP hD hS => ?_)
    have hP : va_P D classes (ws_Mo g a (u_Mo_s z (upd (q_Mo_s z) 3 0))) H := hP
    have hD : va_D A (ws_Mo g a (u_Mo_s z (upd (q_Mo_s z) 3 0))) := hD
    refine lv_iconst (v := 0) hx hb d_Mo_see_12 (by decide) ?_
    obtain rfl := Option.some.inj hd
    exact retI hx hb hr hlk hK hP hD hS d_Mo_see_13 rfl

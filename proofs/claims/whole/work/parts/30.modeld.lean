-- OwnsLiftModel.like(II)I
def d_Mo_like (x1 : Int32) (x2 : Int32) (z : T_Mo) : Option (Int32 × T_Mo) :=
  (d_Mo_isPerson x1 z).bind fun v_1 => if v_1 = 0 then (some ((-1), z)) else ((d_Mo_isThing x2 z).bind fun v_4 => if v_4 = 0 then (some ((-1), z)) else ((d_Mo_likeOf x1 x2 z).bind fun v_7 => some (v_7.1, v_7.2)))
theorem d_Mo_like_0 : decode b_Mo_like 0 = .ok (.aload_n 0, 1) := by decide +kernel
theorem d_Mo_like_1 : decode b_Mo_like 1 = .ok (.iload_n 1, 1) := by decide +kernel
theorem d_Mo_like_2 : decode b_Mo_like 2 = .ok (.invokevirtual 147, 3) := by decide +kernel
theorem d_Mo_like_5 : decode b_Mo_like 5 = .ok (.ifCond .eq 20, 3) := by decide +kernel
theorem d_Mo_like_8 : decode b_Mo_like 8 = .ok (.aload_n 0, 1) := by decide +kernel
theorem d_Mo_like_9 : decode b_Mo_like 9 = .ok (.iload_n 2, 1) := by decide +kernel
theorem d_Mo_like_10 : decode b_Mo_like 10 = .ok (.invokevirtual 160, 3) := by decide +kernel
theorem d_Mo_like_13 : decode b_Mo_like 13 = .ok (.ifCond .eq 12, 3) := by decide +kernel
theorem d_Mo_like_16 : decode b_Mo_like 16 = .ok (.aload_n 0, 1) := by decide +kernel
theorem d_Mo_like_17 : decode b_Mo_like 17 = .ok (.iload_n 1, 1) := by decide +kernel
theorem d_Mo_like_18 : decode b_Mo_like 18 = .ok (.iload_n 2, 1) := by decide +kernel
theorem d_Mo_like_19 : decode b_Mo_like 19 = .ok (.invokevirtual 143, 3) := by decide +kernel
theorem d_Mo_like_22 : decode b_Mo_like 22 = .ok (.goto 4, 3) := by decide +kernel
theorem d_Mo_like_25 : decode b_Mo_like 25 = .ok (.iconst (-1), 1) := by decide +kernel
theorem d_Mo_like_26 : decode b_Mo_like 26 = .ok (.ireturn, 1) := by decide +kernel
theorem o_Mo_like : OkV y_Mo_like "OwnsLiftModel" b_Mo_like 3 (some .int) 2 := ⟨⟨rfl, by decide +kernel, by decide +kernel, by decide +kernel⟩, g_1203, g_1204, g_81, g_1205⟩
set_option maxHeartbeats 4000000 in
set_option maxRecDepth 100000 in
theorem c_Mo_like (l : Launch) (D : va_G) (g : Nat → ClassId) (a : Nat → Nat) (x1 : Int32) (x2 : Int32) (z : T_Mo) (v : Int32 × T_Mo) (h : d_Mo_like x1 x2 z = some v) :
    MI l y_Mo_like b_Mo_like 3 .int ({ frames := 3, cells := 0, slots := 0, locals := 75 } : Room) D g [.ref (a 0), .int x1, .int x2] (ws_Mo g a z) (v.1) (ws_Mo g a v.2) := by
  have hd := h
  unfold d_Mo_like at hd
  refine enterI rfl (Nat.le_of_ble_eq_true rfl) (fun p e s m below meth c A ls hx hb hml hr hown hg hlk hK hA hP hD hS hCs hl => ?_)
  have hown : s.vm.findClass "OwnsLiftModel" = some m.cls := hown
  have hl : lv_has ls 3 [(0, .ref (a 0)), (1, .int x1), (2, .int x2)] := hl
  show GI p l e s m ({ frames := 3, cells := 0, slots := 0, locals := 75 } : Room) ([.ref (a 0), .int x1, .int x2] : List Value).toArray below meth c A D g (ws_Mo g a v.2) (v.1) s.heap [] (F0 m 0 ls [])
  refine lv_aload_n hx hb d_Mo_like_0 rfl (lv_at hl 0 rfl) ?_
  refine lv_iload_n hx hb d_Mo_like_1 rfl (lv_at hl 1 rfl) ?_
  obtain ⟨v_1, e_2, hd⟩ := bind_s hd
  refine callVI (ws' := ws_Mo g a z) (rest := []) (As := [.int x1]) hx hb hml hown hg hK hP hD hS hA hCs hl.1 (c_Mo_isPerson l D g a x1 z _ e_2) o_Mo_isPerson g_1147 (ci := 1) (q0 := 0) rfl rfl (List.range' 0 12) (segC1 rfl rfl) (by decide) rfl (segP1 rfl rfl) rfl rfl (Nat.le_of_ble_eq_true rfl) ⟨rfl, rfl, Nat.le_of_ble_eq_true rfl, Nat.le_of_ble_eq_true rfl⟩ d_Mo_like_2 (fun H locs hP hD hS => ?_)
  refine lv_if_eq (tgt := 25) hx hb d_Mo_like_5 (by decide) (fun h_3 => ?_) (fun h_3 => ?_)
  · have hd := ite_t hd h_3
    refine lv_iconst (v := (-1)) hx hb d_Mo_like_25 (by decide) ?_
    obtain rfl := Option.some.inj hd
    exact retI hx hb hr hlk hK hP hD hS d_Mo_like_26 rfl
  · have hd := ite_f hd h_3
    refine lv_aload_n hx hb d_Mo_like_8 rfl (lv_at hl 0 rfl) ?_
    refine lv_iload_n hx hb d_Mo_like_9 rfl (lv_at hl 2 rfl) ?_
    obtain ⟨v_4, e_5, hd⟩ := bind_s hd
    refine callVI (ws' := ws_Mo g a z) (rest := []) (As := [.int x2]) hx hb hml hown hg hK hP hD hS hA hCs hl.1 (c_Mo_isThing l D g a x2 z _ e_5) o_Mo_isThing g_1183 (ci := 1) (q0 := 0) rfl rfl (List.range' 0 12) (segC1 rfl rfl) (by decide) rfl (segP1 rfl rfl) rfl rfl (Nat.le_of_ble_eq_true rfl) ⟨rfl, rfl, Nat.le_of_ble_eq_true rfl, Nat.le_of_ble_eq_true rfl⟩ d_Mo_like_10 (fun H locs hP hD hS => ?_)
    refine lv_if_eq (tgt := 25) hx hb d_Mo_like_13 (by decide) (fun h_6 => ?_) (fun h_6 => ?_)
    · have hd := ite_t hd h_6
      refine lv_iconst (v := (-1)) hx hb d_Mo_like_25 (by decide) ?_
      obtain rfl := Option.some.inj hd
      exact retI hx hb hr hlk hK hP hD hS d_Mo_like_26 rfl
    · have hd := ite_f hd h_6
      refine lv_aload_n hx hb d_Mo_like_16 rfl (lv_at hl 0 rfl) ?_
      refine lv_iload_n hx hb d_Mo_like_17 rfl (lv_at hl 1 rfl) ?_
      refine lv_iload_n hx hb d_Mo_like_18 rfl (lv_at hl 2 rfl) ?_
      obtain ⟨v_7, e_8, hd⟩ := bind_s hd
      refine callVI (ws' := ws_Mo g a v_7.2) (rest := []) (As := [.int x1, .int x2]) hx hb hml hown hg hK hP hD hS hA hCs hl.1 (c_Mo_likeOf l D g a x1 x2 z _ e_8) o_Mo_likeOf g_1206 (ci := 1) (q0 := 0) rfl rfl (List.range' 0 12) (segC1 rfl rfl) (by decide) rfl (segP1 rfl rfl) rfl rfl (Nat.le_of_ble_eq_true rfl) ⟨rfl, rfl, Nat.le_of_ble_eq_true rfl, Nat.le_of_ble_eq_true rfl⟩ d_Mo_like_19 (fun H locs hP hD hS => ?_)
      refine lv_goto (tgt := 26) hx hb d_Mo_like_22 (by decide) ?_
      obtain rfl := Option.some.inj hd
      exact retI hx hb hr hlk hK hP hD hS d_Mo_like_26 rfl
-- OwnsLiftModel.when()I
def d_Mo_when (z : T_Mo) : Option (Int32) :=
  some ((q_Mo_s z) 6)
theorem d_Mo_when_0 : decode b_Mo_when 0 = .ok (.aload_n 0, 1) := by decide +kernel
theorem d_Mo_when_1 : decode b_Mo_when 1 = .ok (.getfield 9, 3) := by decide +kernel
theorem d_Mo_when_4 : decode b_Mo_when 4 = .ok (.bipush 6, 2) := by decide +kernel
theorem d_Mo_when_6 : decode b_Mo_when 6 = .ok (.iaload, 1) := by decide +kernel
theorem d_Mo_when_7 : decode b_Mo_when 7 = .ok (.ireturn, 1) := by decide +kernel
theorem o_Mo_when : OkV y_Mo_when "OwnsLiftModel" b_Mo_when 1 (some .int) 0 := ⟨⟨rfl, by decide +kernel, by decide +kernel, by decide +kernel⟩, g_1211, g_1212, g_81, g_1213⟩
set_option maxHeartbeats 4000000 in
set_option maxRecDepth 100000 in
theorem c_Mo_when (l : Launch) (D : va_G) (g : Nat → ClassId) (a : Nat → Nat) (z : T_Mo) (v : Int32) (h : d_Mo_when z = some v) :
    MI l y_Mo_when b_Mo_when 1 .int ({ frames := 0, cells := 0, slots := 0, locals := 0 } : Room) D g [.ref (a 0)] (ws_Mo g a z) (v) (ws_Mo g a z) := by
  have hd := h
  unfold d_Mo_when at hd
  refine enterI rfl (Nat.le_of_ble_eq_true rfl) (fun p e s m below meth c A ls hx hb hml hr hown hg hlk hK hA hP hD hS hCs hl => ?_)
  have hown : s.vm.findClass "OwnsLiftModel" = some m.cls := hown
  have hl : lv_has ls 1 [(0, .ref (a 0))] := hl
  show GI p l e s m ({ frames := 0, cells := 0, slots := 0, locals := 0 } : Room) ([.ref (a 0)] : List Value).toArray below meth c A D g (ws_Mo g a z) (v) s.heap [] (F0 m 0 ls [])
  refine lv_aload_n hx hb d_Mo_when_0 rfl (lv_at hl 0 rfl) ?_
  refine va_get (D := D) (ci := 1) (v := .ref (a 1)) (C := R_Mo) (T := F_Mo) (N := 26) hx hb hg i_Mo hown hK hP 0 rfl rfl 1 (by decide) (hg _ g_993) (fun _ h9 => h9) rfl d_Mo_when_1 ?_
  refine lv_bipush (v := 6) hx hb d_Mo_when_4 (by decide) ?_
  refine ialdK hx hb hK hP 1 0 rfl rfl (inb_t (by decide +kernel)) (k := 6) (by decide +kernel) d_Mo_when_6 ?_
  obtain rfl := Option.some.inj hd
  exact retI hx hb hr hlk hK hP hD hS d_Mo_when_7 rfl
-- OwnsLiftModel.isAhead(III)Z
def d_Mo_isAhead (x1 : Int32) (x2 : Int32) (x3 : Int32) (z : T_Mo) : Option (Int32) :=
  if inb (10 + x1) 901 = true then (if inb ((7 * x1) + x2) 28 = true then (if inb ((7 * x1) + x3) 28 = true then (if inb (58 + x2) 901 = true then (if inb (58 + x3) 901 = true then (if ((q_Mo_s z) (10 + x1).toNatClampNeg) = 1 then (if ((q_Mo_s z) (58 + x2).toNatClampNeg) ≤ ((q_Mo_s z) (58 + x3).toNatClampNeg) then (some (0)) else (some (1))) else (if ((q_Mo_s z) (10 + x1).toNatClampNeg) = 2 then (if ((q_Mo_likes z) ((7 * x1) + x3).toNatClampNeg) ≤ ((q_Mo_likes z) ((7 * x1) + x2).toNatClampNeg) then (some (0)) else (some (1))) else (if ((q_Mo_s z) (10 + x1).toNatClampNeg) = 3 then (if ((q_Mo_likes z) ((7 * x1) + x3).toNatClampNeg) ≤ ((q_Mo_likes z) ((7 * x1) + x2).toNatClampNeg) then (some (0)) else (some (1))) else (if ((q_Mo_s z) (10 + x1).toNatClampNeg) = 4 then (if ((q_Mo_s z) (58 + x2).toNatClampNeg) ≤ 0 then (some (0)) else (if ((q_Mo_s z) (58 + x3).toNatClampNeg) = 0 then (some (1)) else (if (((q_Mo_likes z) ((7 * x1) + x3).toNatClampNeg) * ((q_Mo_s z) (58 + x2).toNatClampNeg)) ≤ (((q_Mo_likes z) ((7 * x1) + x2).toNatClampNeg) * ((q_Mo_s z) (58 + x3).toNatClampNeg)) then (some (0)) else (some (1))))) else (if ((q_Mo_s z) (10 + x1).toNatClampNeg) = 5 then (if ((q_Mo_likes z) ((7 * x1) + x2).toNatClampNeg) ≤ ((q_Mo_likes z) ((7 * x1) + x3).toNatClampNeg) then (some (0)) else (some (1))) else (if ((q_Mo_likes z) ((7 * x1) + x3).toNatClampNeg) ≤ ((q_Mo_likes z) ((7 * x1) + x2).toNatClampNeg) then (some (0)) else (some (1)))))))) else none) else none) else none) else none) else none
theorem d_Mo_isAhead_0 : decode b_Mo_isAhead 0 = .ok (.aload_n 0, 1) := by decide +kernel
theorem d_Mo_isAhead_1 : decode b_Mo_isAhead 1 = .ok (.getfield 9, 3) := by decide +kernel
theorem d_Mo_isAhead_4 : decode b_Mo_isAhead 4 = .ok (.bipush 10, 2) := by decide +kernel
theorem d_Mo_isAhead_6 : decode b_Mo_isAhead 6 = .ok (.iload_n 1, 1) := by decide +kernel
theorem d_Mo_isAhead_7 : decode b_Mo_isAhead 7 = .ok (.iadd, 1) := by decide +kernel
theorem d_Mo_isAhead_8 : decode b_Mo_isAhead 8 = .ok (.iaload, 1) := by decide +kernel
theorem d_Mo_isAhead_9 : decode b_Mo_isAhead 9 = .ok (.istore 4, 2) := by decide +kernel
theorem d_Mo_isAhead_11 : decode b_Mo_isAhead 11 = .ok (.aload_n 0, 1) := by decide +kernel
theorem d_Mo_isAhead_12 : decode b_Mo_isAhead 12 = .ok (.getfield 28, 3) := by decide +kernel
theorem d_Mo_isAhead_15 : decode b_Mo_isAhead 15 = .ok (.bipush 7, 2) := by decide +kernel
theorem d_Mo_isAhead_17 : decode b_Mo_isAhead 17 = .ok (.iload_n 1, 1) := by decide +kernel
theorem d_Mo_isAhead_18 : decode b_Mo_isAhead 18 = .ok (.imul, 1) := by decide +kernel
theorem d_Mo_isAhead_19 : decode b_Mo_isAhead 19 = .ok (.iload_n 2, 1) := by decide +kernel
theorem d_Mo_isAhead_20 : decode b_Mo_isAhead 20 = .ok (.iadd, 1) := by decide +kernel
theorem d_Mo_isAhead_21 : decode b_Mo_isAhead 21 = .ok (.iaload, 1) := by decide +kernel
theorem d_Mo_isAhead_22 : decode b_Mo_isAhead 22 = .ok (.istore 5, 2) := by decide +kernel
theorem d_Mo_isAhead_24 : decode b_Mo_isAhead 24 = .ok (.aload_n 0, 1) := by decide +kernel
theorem d_Mo_isAhead_25 : decode b_Mo_isAhead 25 = .ok (.getfield 28, 3) := by decide +kernel
theorem d_Mo_isAhead_28 : decode b_Mo_isAhead 28 = .ok (.bipush 7, 2) := by decide +kernel
theorem d_Mo_isAhead_30 : decode b_Mo_isAhead 30 = .ok (.iload_n 1, 1) := by decide +kernel
theorem d_Mo_isAhead_31 : decode b_Mo_isAhead 31 = .ok (.imul, 1) := by decide +kernel
theorem d_Mo_isAhead_32 : decode b_Mo_isAhead 32 = .ok (.iload_n 3, 1) := by decide +kernel
theorem d_Mo_isAhead_33 : decode b_Mo_isAhead 33 = .ok (.iadd, 1) := by decide +kernel
theorem d_Mo_isAhead_34 : decode b_Mo_isAhead 34 = .ok (.iaload, 1) := by decide +kernel
theorem d_Mo_isAhead_35 : decode b_Mo_isAhead 35 = .ok (.istore 6, 2) := by decide +kernel
theorem d_Mo_isAhead_37 : decode b_Mo_isAhead 37 = .ok (.aload_n 0, 1) := by decide +kernel
theorem d_Mo_isAhead_38 : decode b_Mo_isAhead 38 = .ok (.getfield 9, 3) := by decide +kernel
theorem d_Mo_isAhead_41 : decode b_Mo_isAhead 41 = .ok (.bipush 58, 2) := by decide +kernel
theorem d_Mo_isAhead_43 : decode b_Mo_isAhead 43 = .ok (.iload_n 2, 1) := by decide +kernel
theorem d_Mo_isAhead_44 : decode b_Mo_isAhead 44 = .ok (.iadd, 1) := by decide +kernel
theorem d_Mo_isAhead_45 : decode b_Mo_isAhead 45 = .ok (.iaload, 1) := by decide +kernel
theorem d_Mo_isAhead_46 : decode b_Mo_isAhead 46 = .ok (.istore 7, 2) := by decide +kernel
theorem d_Mo_isAhead_48 : decode b_Mo_isAhead 48 = .ok (.aload_n 0, 1) := by decide +kernel
theorem d_Mo_isAhead_49 : decode b_Mo_isAhead 49 = .ok (.getfield 9, 3) := by decide +kernel
theorem d_Mo_isAhead_52 : decode b_Mo_isAhead 52 = .ok (.bipush 58, 2) := by decide +kernel
theorem d_Mo_isAhead_54 : decode b_Mo_isAhead 54 = .ok (.iload_n 3, 1) := by decide +kernel
theorem d_Mo_isAhead_55 : decode b_Mo_isAhead 55 = .ok (.iadd, 1) := by decide +kernel
theorem d_Mo_isAhead_56 : decode b_Mo_isAhead 56 = .ok (.iaload, 1) := by decide +kernel
theorem d_Mo_isAhead_57 : decode b_Mo_isAhead 57 = .ok (.istore 8, 2) := by decide +kernel
theorem d_Mo_isAhead_59 : decode b_Mo_isAhead 59 = .ok (.iload 4, 2) := by decide +kernel
theorem d_Mo_isAhead_61 : decode b_Mo_isAhead 61 = .ok (.tableswitch 90 1 5 #[35, 90, 90, 48, 77], 35) := by decide +kernel
theorem d_Mo_isAhead_96 : decode b_Mo_isAhead 96 = .ok (.iload 7, 2) := by decide +kernel
theorem d_Mo_isAhead_98 : decode b_Mo_isAhead 98 = .ok (.iload 8, 2) := by decide +kernel
theorem d_Mo_isAhead_100 : decode b_Mo_isAhead 100 = .ok (.if_icmp .le 7, 3) := by decide +kernel
theorem d_Mo_isAhead_103 : decode b_Mo_isAhead 103 = .ok (.iconst 1, 1) := by decide +kernel
theorem d_Mo_isAhead_104 : decode b_Mo_isAhead 104 = .ok (.goto 4, 3) := by decide +kernel
theorem d_Mo_isAhead_107 : decode b_Mo_isAhead 107 = .ok (.iconst 0, 1) := by decide +kernel
theorem d_Mo_isAhead_108 : decode b_Mo_isAhead 108 = .ok (.ireturn, 1) := by decide +kernel
theorem d_Mo_isAhead_109 : decode b_Mo_isAhead 109 = .ok (.iload 7, 2) := by decide +kernel
theorem d_Mo_isAhead_111 : decode b_Mo_isAhead 111 = .ok (.ifCond .le 25, 3) := by decide +kernel
theorem d_Mo_isAhead_114 : decode b_Mo_isAhead 114 = .ok (.iload 8, 2) := by decide +kernel
theorem d_Mo_isAhead_116 : decode b_Mo_isAhead 116 = .ok (.ifCond .eq 16, 3) := by decide +kernel
theorem d_Mo_isAhead_119 : decode b_Mo_isAhead 119 = .ok (.iload 5, 2) := by decide +kernel
theorem d_Mo_isAhead_121 : decode b_Mo_isAhead 121 = .ok (.iload 8, 2) := by decide +kernel
theorem d_Mo_isAhead_123 : decode b_Mo_isAhead 123 = .ok (.imul, 1) := by decide +kernel
theorem d_Mo_isAhead_124 : decode b_Mo_isAhead 124 = .ok (.iload 6, 2) := by decide +kernel
theorem d_Mo_isAhead_126 : decode b_Mo_isAhead 126 = .ok (.iload 7, 2) := by decide +kernel
theorem d_Mo_isAhead_128 : decode b_Mo_isAhead 128 = .ok (.imul, 1) := by decide +kernel
theorem d_Mo_isAhead_129 : decode b_Mo_isAhead 129 = .ok (.if_icmp .ge 7, 3) := by decide +kernel
theorem d_Mo_isAhead_132 : decode b_Mo_isAhead 132 = .ok (.iconst 1, 1) := by decide +kernel
theorem d_Mo_isAhead_133 : decode b_Mo_isAhead 133 = .ok (.goto 4, 3) := by decide +kernel
theorem d_Mo_isAhead_136 : decode b_Mo_isAhead 136 = .ok (.iconst 0, 1) := by decide +kernel
theorem d_Mo_isAhead_137 : decode b_Mo_isAhead 137 = .ok (.ireturn, 1) := by decide +kernel
theorem d_Mo_isAhead_138 : decode b_Mo_isAhead 138 = .ok (.iload 5, 2) := by decide +kernel
theorem d_Mo_isAhead_140 : decode b_Mo_isAhead 140 = .ok (.iload 6, 2) := by decide +kernel
theorem d_Mo_isAhead_142 : decode b_Mo_isAhead 142 = .ok (.if_icmp .le 7, 3) := by decide +kernel
theorem d_Mo_isAhead_145 : decode b_Mo_isAhead 145 = .ok (.iconst 1, 1) := by decide +kernel
theorem d_Mo_isAhead_146 : decode b_Mo_isAhead 146 = .ok (.goto 4, 3) := by decide +kernel
theorem d_Mo_isAhead_149 : decode b_Mo_isAhead 149 = .ok (.iconst 0, 1) := by decide +kernel
theorem d_Mo_isAhead_150 : decode b_Mo_isAhead 150 = .ok (.ireturn, 1) := by decide +kernel
theorem d_Mo_isAhead_151 : decode b_Mo_isAhead 151 = .ok (.iload 5, 2) := by decide +kernel
theorem d_Mo_isAhead_153 : decode b_Mo_isAhead 153 = .ok (.iload 6, 2) := by decide +kernel
theorem d_Mo_isAhead_155 : decode b_Mo_isAhead 155 = .ok (.if_icmp .ge 7, 3) := by decide +kernel
theorem d_Mo_isAhead_158 : decode b_Mo_isAhead 158 = .ok (.iconst 1, 1) := by decide +kernel
theorem d_Mo_isAhead_159 : decode b_Mo_isAhead 159 = .ok (.goto 4, 3) := by decide +kernel
theorem d_Mo_isAhead_162 : decode b_Mo_isAhead 162 = .ok (.iconst 0, 1) := by decide +kernel
theorem d_Mo_isAhead_163 : decode b_Mo_isAhead 163 = .ok (.ireturn, 1) := by decide +kernel
theorem o_Mo_isAhead : OkV y_Mo_isAhead "OwnsLiftModel" b_Mo_isAhead 9 (some .boolean) 3 := ⟨⟨rfl, by decide +kernel, by decide +kernel, by decide +kernel⟩, g_1236, g_51, g_81, g_1237⟩
set_option maxHeartbeats 4000000 in
set_option maxRecDepth 100000 in
theorem c_Mo_isAhead (l : Launch) (D : va_G) (g : Nat → ClassId) (a : Nat → Nat) (x1 : Int32) (x2 : Int32) (x3 : Int32) (z : T_Mo) (v : Int32) (h : d_Mo_isAhead x1 x2 x3 z = some v) :
    MI l y_Mo_isAhead b_Mo_isAhead 9 .boolean ({ frames := 0, cells := 0, slots := 0, locals := 0 } : Room) D g [.ref (a 0), .int x1, .int x2, .int x3] (ws_Mo g a z) (v) (ws_Mo g a z) := by
  have hd := h
  unfold d_Mo_isAhead at hd
  refine enterI rfl (Nat.le_of_ble_eq_true rfl) (fun p e s m below meth c A ls hx hb hml hr hown hg hlk hK hA hP hD hS hCs hl => ?_)
  have hown : s.vm.findClass "OwnsLiftModel" = some m.cls := hown
  have hl : lv_has ls 9 [(0, .ref (a 0)), (1, .int x1), (2, .int x2), (3, .int x3)] := hl
  show GI p l e s m ({ frames := 0, cells := 0, slots := 0, locals := 0 } : Room) ([.ref (a 0), .int x1, .int x2, .int x3] : List Value).toArray below meth c A D g (ws_Mo g a z) (v) s.heap [] (F0 m 0 ls [])
  refine lv_aload_n hx hb d_Mo_isAhead_0 rfl (lv_at hl 0 rfl) ?_
  refine va_get (D := D) (ci := 1) (v := .ref (a 1)) (C := R_Mo) (T := F_Mo) (N := 26) hx hb hg i_Mo hown hK hP 0 rfl rfl 1 (by decide) (hg _ g_993) (fun _ h9 => h9) rfl d_Mo_isAhead_1 ?_
  refine lv_bipush (v := 10) hx hb d_Mo_isAhead_4 (by decide) ?_
  refine lv_iload_n hx hb d_Mo_isAhead_6 rfl (lv_at hl 1 rfl) ?_
  refine lv_iadd hx hb d_Mo_isAhead_7 ?_
  obtain ⟨h_19, hd⟩ := ite_s hd
  refine ialdK hx hb hK hP 1 0 rfl rfl (inb_t h_19) rfl d_Mo_isAhead_8 ?_
  refine lv_istore (lv' := [(4, .int ((q_Mo_s z) (10 + x1).toNatClampNeg)), (0, .ref (a 0)), (1, .int x1), (2, .int x2), (3, .int x3)]) hx hb d_Mo_isAhead_9 hl (by decide) rfl (fun ls hl => ?_)
  refine lv_aload_n hx hb d_Mo_isAhead_11 rfl (lv_at hl 1 rfl) ?_
  refine va_get (D := D) (ci := 1) (v := .ref (a 6)) (C := R_Mo) (T := F_Mo) (N := 26) hx hb hg i_Mo hown hK hP 0 rfl rfl 12 (by decide) (hg _ g_1004) (fun _ h9 => h9) rfl d_Mo_isAhead_12 ?_
  refine lv_bipush (v := 7) hx hb d_Mo_isAhead_15 (by decide) ?_
  refine lv_iload_n hx hb d_Mo_isAhead_17 rfl (lv_at hl 2 rfl) ?_
  refine lv_imul hx hb d_Mo_isAhead_18 ?_
  refine lv_iload_n hx hb d_Mo_isAhead_19 rfl (lv_at hl 3 rfl) ?_
  refine lv_iadd hx hb d_Mo_isAhead_20 ?_
  obtain ⟨h_18, hd⟩ := ite_s hd
  refine ialdK hx hb hK hP 6 0 rfl rfl (inb_t h_18) rfl d_Mo_isAhead_21 ?_
  refine lv_istore (lv' := [(5, .int ((q_Mo_likes z) ((7 * x1) + x2).toNatClampNeg)), (4, .int ((q_Mo_s z) (10 + x1).toNatClampNeg)), (0, .ref (a 0)), (1, .int x1), (2, .int x2), (3, .int x3)]) hx hb d_Mo_isAhead_22 hl (by decide) rfl (fun ls hl => ?_)
  refine lv_aload_n hx hb d_Mo_isAhead_24 rfl (lv_at hl 2 rfl) ?_
  refine va_get (D := D) (ci := 1) (v := .ref (a 6)) (C := R_Mo) (T := F_Mo) (N := 26) hx hb hg i_Mo hown hK hP 0 rfl rfl 12 (by decide) (hg _ g_1004) (fun _ h9 => h9) rfl d_Mo_isAhead_25 ?_
  refine lv_bipush (v := 7) hx hb d_Mo_isAhead_28 (by decide) ?_
  refine lv_iload_n hx hb d_Mo_isAhead_30 rfl (lv_at hl 3 rfl) ?_
  refine lv_imul hx hb d_Mo_isAhead_31 ?_
  refine lv_iload_n hx hb d_Mo_isAhead_32 rfl (lv_at hl 5 rfl) ?_
  refine lv_iadd hx hb d_Mo_isAhead_33 ?_
  obtain ⟨h_17, hd⟩ := ite_s hd
  refine ialdK hx hb hK hP 6 0 rfl rfl (inb_t h_17) rfl d_Mo_isAhead_34 ?_
  refine lv_istore (lv' := [(6, .int ((q_Mo_likes z) ((7 * x1) + x3).toNatClampNeg)), (5, .int ((q_Mo_likes z) ((7 * x1) + x2).toNatClampNeg)), (4, .int ((q_Mo_s z) (10 + x1).toNatClampNeg)), (0, .ref (a 0)), (1, .int x1), (2, .int x2), (3, .int x3)]) hx hb d_Mo_isAhead_35 hl (by decide) rfl (fun ls hl => ?_)
  refine lv_aload_n hx hb d_Mo_isAhead_37 rfl (lv_at hl 3 rfl) ?_
  refine va_get (D := D) (ci := 1) (v := .ref (a 1)) (C := R_Mo) (T := F_Mo) (N := 26) hx hb hg i_Mo hown hK hP 0 rfl rfl 1 (by decide) (hg _ g_993) (fun _ h9 => h9) rfl d_Mo_isAhead_38 ?_
  refine lv_bipush (v := 58) hx hb d_Mo_isAhead_41 (by decide) ?_
  refine lv_iload_n hx hb d_Mo_isAhead_43 rfl (lv_at hl 5 rfl) ?_
  refine lv_iadd hx hb d_Mo_isAhead_44 ?_
  obtain ⟨h_16, hd⟩ := ite_s hd
  refine ialdK hx hb hK hP 1 0 rfl rfl (inb_t h_16) rfl d_Mo_isAhead_45 ?_
  refine lv_istore (lv' := [(7, .int ((q_Mo_s z) (58 + x2).toNatClampNeg)), (6, .int ((q_Mo_likes z) ((7 * x1) + x3).toNatClampNeg)), (5, .int ((q_Mo_likes z) ((7 * x1) + x2).toNatClampNeg)), (4, .int ((q_Mo_s z) (10 + x1).toNatClampNeg)), (0, .ref (a 0)), (1, .int x1), (2, .int x2), (3, .int x3)]) hx hb d_Mo_isAhead_46 hl (by decide) rfl (fun ls hl => ?_)
  refine lv_aload_n hx hb d_Mo_isAhead_48 rfl (lv_at hl 4 rfl) ?_
  refine va_get (D := D) (ci := 1) (v := .ref (a 1)) (C := R_Mo) (T := F_Mo) (N := 26) hx hb hg i_Mo hown hK hP 0 rfl rfl 1 (by decide) (hg _ g_993) (fun _ h9 => h9) rfl d_Mo_isAhead_49 ?_
  refine lv_bipush (v := 58) hx hb d_Mo_isAhead_52 (by decide) ?_
  refine lv_iload_n hx hb d_Mo_isAhead_54 rfl (lv_at hl 7 rfl) ?_
  refine lv_iadd hx hb d_Mo_isAhead_55 ?_
  obtain ⟨h_15, hd⟩ := ite_s hd
  refine ialdK hx hb hK hP 1 0 rfl rfl (inb_t h_15) rfl d_Mo_isAhead_56 ?_
  refine lv_istore (lv' := [(8, .int ((q_Mo_s z) (58 + x3).toNatClampNeg)), (7, .int ((q_Mo_s z) (58 + x2).toNatClampNeg)), (6, .int ((q_Mo_likes z) ((7 * x1) + x3).toNatClampNeg)), (5, .int ((q_Mo_likes z) ((7 * x1) + x2).toNatClampNeg)), (4, .int ((q_Mo_s z) (10 + x1).toNatClampNeg)), (0, .ref (a 0)), (1, .int x1), (2, .int x2), (3, .int x3)]) hx hb d_Mo_isAhead_57 hl (by decide) rfl (fun ls hl => ?_)
  refine lv_iload hx hb d_Mo_isAhead_59 (lv_at hl 4 rfl) ?_
  by_cases h_1 : ((q_Mo_s z) (10 + x1).toNatClampNeg) = 1
  · have hd := ite_t hd h_1
    refine lv_tableIn (tgt := 96) hx hb d_Mo_isAhead_61 (by rw [h_1]; decide) (by rw [h_1]; decide) (off := 35) (by rw [h_1]; decide) (by decide) ?_
    refine lv_iload hx hb d_Mo_isAhead_96 (lv_at hl 1 rfl) ?_
    refine lv_iload hx hb d_Mo_isAhead_98 (lv_at hl 0 rfl) ?_
    refine lv_icmp_le (tgt := 107) hx hb d_Mo_isAhead_100 (by decide) (fun h_2 => ?_) (fun h_2 => ?_)
    · have hd := ite_t hd h_2
      refine lv_iconst (v := 0) hx hb d_Mo_isAhead_107 (by decide) ?_
      obtain rfl := Option.some.inj hd
      exact retZ hx hb hr hlk hK hP hD hS d_Mo_isAhead_108 rfl (by decide +kernel)
    · have hd := ite_f hd h_2
      refine lv_iconst (v := 1) hx hb d_Mo_isAhead_103 (by decide) ?_
      refine lv_goto (tgt := 108) hx hb d_Mo_isAhead_104 (by decide) ?_
      obtain rfl := Option.some.inj hd
      exact retZ hx hb hr hlk hK hP hD hS d_Mo_isAhead_108 rfl (by decide +kernel)
  have hd := ite_f hd h_1
  by_cases h_3 : ((q_Mo_s z) (10 + x1).toNatClampNeg) = 2
  · have hd := ite_t hd h_3
    refine lv_tableIn (tgt := 151) hx hb d_Mo_isAhead_61 (by rw [h_3]; decide) (by rw [h_3]; decide) (off := 90) (by rw [h_3]; decide) (by decide) ?_
    refine lv_iload hx hb d_Mo_isAhead_151 (lv_at hl 3 rfl) ?_
    refine lv_iload hx hb d_Mo_isAhead_153 (lv_at hl 2 rfl) ?_
    refine lv_icmp_ge (tgt := 162) hx hb d_Mo_isAhead_155 (by decide) (fun h_4 => ?_) (fun h_4 => ?_)
    · have hd := ite_t hd h_4
      refine lv_iconst (v := 0) hx hb d_Mo_isAhead_162 (by decide) ?_
      obtain rfl := Option.some.inj hd
      exact retZ hx hb hr hlk hK hP hD hS d_Mo_isAhead_163 rfl (by decide +kernel)
    · have hd := ite_f hd h_4
      refine lv_iconst (v := 1) hx hb d_Mo_isAhead_158 (by decide) ?_
      refine lv_goto (tgt := 163) hx hb d_Mo_isAhead_159 (by decide) ?_
      obtain rfl := Option.some.inj hd
      exact retZ hx hb hr hlk hK hP hD hS d_Mo_isAhead_163 rfl (by decide +kernel)
  have hd := ite_f hd h_3
  by_cases h_5 : ((q_Mo_s z) (10 + x1).toNatClampNeg) = 3
  · have hd := ite_t hd h_5
    refine lv_tableIn (tgt := 151) hx hb d_Mo_isAhead_61 (by rw [h_5]; decide) (by rw [h_5]; decide) (off := 90) (by rw [h_5]; decide) (by decide) ?_
    refine lv_iload hx hb d_Mo_isAhead_151 (lv_at hl 3 rfl) ?_
    refine lv_iload hx hb d_Mo_isAhead_153 (lv_at hl 2 rfl) ?_
    refine lv_icmp_ge (tgt := 162) hx hb d_Mo_isAhead_155 (by decide) (fun h_6 => ?_) (fun h_6 => ?_)
    · have hd := ite_t hd h_6
      refine lv_iconst (v := 0) hx hb d_Mo_isAhead_162 (by decide) ?_
      obtain rfl := Option.some.inj hd
      exact retZ hx hb hr hlk hK hP hD hS d_Mo_isAhead_163 rfl (by decide +kernel)
    · have hd := ite_f hd h_6
      refine lv_iconst (v := 1) hx hb d_Mo_isAhead_158 (by decide) ?_
      refine lv_goto (tgt := 163) hx hb d_Mo_isAhead_159 (by decide) ?_
      obtain rfl := Option.some.inj hd
      exact retZ hx hb hr hlk hK hP hD hS d_Mo_isAhead_163 rfl (by decide +kernel)
  have hd := ite_f hd h_5
  by_cases h_7 : ((q_Mo_s z) (10 + x1).toNatClampNeg) = 4
  · have hd := ite_t hd h_7
    refine lv_tableIn (tgt := 109) hx hb d_Mo_isAhead_61 (by rw [h_7]; decide) (by rw [h_7]; decide) (off := 48) (by rw [h_7]; decide) (by decide) ?_
    refine lv_iload hx hb d_Mo_isAhead_109 (lv_at hl 1 rfl) ?_
    refine lv_if_le (tgt := 136) hx hb d_Mo_isAhead_111 (by decide) (fun h_8 => ?_) (fun h_8 => ?_)
    · have hd := ite_t hd h_8
      refine lv_iconst (v := 0) hx hb d_Mo_isAhead_136 (by decide) ?_
      obtain rfl := Option.some.inj hd
      exact retZ hx hb hr hlk hK hP hD hS d_Mo_isAhead_137 rfl (by decide +kernel)
    · have hd := ite_f hd h_8
      refine lv_iload hx hb d_Mo_isAhead_114 (lv_at hl 0 rfl) ?_
      refine lv_if_eq (tgt := 132) hx hb d_Mo_isAhead_116 (by decide) (fun h_9 => ?_) (fun h_9 => ?_)
      · have hd := ite_t hd h_9
        refine lv_iconst (v := 1) hx hb d_Mo_isAhead_132 (by decide) ?_
        refine lv_goto (tgt := 137) hx hb d_Mo_isAhead_133 (by decide) ?_
        obtain rfl := Option.some.inj hd
        exact retZ hx hb hr hlk hK hP hD hS d_Mo_isAhead_137 rfl (by decide +kernel)
      · have hd := ite_f hd h_9
        refine lv_iload hx hb d_Mo_isAhead_119 (lv_at hl 3 rfl) ?_
        refine lv_iload hx hb d_Mo_isAhead_121 (lv_at hl 0 rfl) ?_
        refine lv_imul hx hb d_Mo_isAhead_123 ?_
        refine lv_iload hx hb d_Mo_isAhead_124 (lv_at hl 2 rfl) ?_
        refine lv_iload hx hb d_Mo_isAhead_126 (lv_at hl 1 rfl) ?_
        refine lv_imul hx hb d_Mo_isAhead_128 ?_
        refine lv_icmp_ge (tgt := 136) hx hb d_Mo_isAhead_129 (by decide) (fun h_10 => ?_) (fun h_10 => ?_)
        · have hd := ite_t hd h_10
          refine lv_iconst (v := 0) hx hb d_Mo_isAhead_136 (by decide) ?_
          obtain rfl := Option.some.inj hd
          exact retZ hx hb hr hlk hK hP hD hS d_Mo_isAhead_137 rfl (by decide +kernel)
        · have hd := ite_f hd h_10
          refine lv_iconst (v := 1) hx hb d_Mo_isAhead_132 (by decide) ?_
          refine lv_goto (tgt := 137) hx hb d_Mo_isAhead_133 (by decide) ?_
          obtain rfl := Option.some.inj hd
          exact retZ hx hb hr hlk hK hP hD hS d_Mo_isAhead_137 rfl (by decide +kernel)
  have hd := ite_f hd h_7
  by_cases h_11 : ((q_Mo_s z) (10 + x1).toNatClampNeg) = 5
  · have hd := ite_t hd h_11
    refine lv_tableIn (tgt := 138) hx hb d_Mo_isAhead_61 (by rw [h_11]; decide) (by rw [h_11]; decide) (off := 77) (by rw [h_11]; decide) (by decide) ?_
    refine lv_iload hx hb d_Mo_isAhead_138 (lv_at hl 3 rfl) ?_
    refine lv_iload hx hb d_Mo_isAhead_140 (lv_at hl 2 rfl) ?_
    refine lv_icmp_le (tgt := 149) hx hb d_Mo_isAhead_142 (by decide) (fun h_12 => ?_) (fun h_12 => ?_)
    · have hd := ite_t hd h_12
      refine lv_iconst (v := 0) hx hb d_Mo_isAhead_149 (by decide) ?_
      obtain rfl := Option.some.inj hd
      exact retZ hx hb hr hlk hK hP hD hS d_Mo_isAhead_150 rfl (by decide +kernel)
    · have hd := ite_f hd h_12
      refine lv_iconst (v := 1) hx hb d_Mo_isAhead_145 (by decide) ?_
      refine lv_goto (tgt := 150) hx hb d_Mo_isAhead_146 (by decide) ?_
      obtain rfl := Option.some.inj hd
      exact retZ hx hb hr hlk hK hP hD hS d_Mo_isAhead_150 rfl (by decide +kernel)
  have hd := ite_f hd h_11
  have ho_14 : (((q_Mo_s z) (10 + x1).toNatClampNeg)).toInt < 1 ∨ 5 < (((q_Mo_s z) (10 + x1).toNatClampNeg)).toInt := by
    refine tab_out 1 5 ?_
    intro k h1 h2 q
    have hk : k = 1 ∨ k = 2 ∨ k = 3 ∨ k = 4 ∨ k = 5 := by omega
    rcases hk with rfl | rfl | rfl | rfl | rfl
    · exact h_1 (Int32.toInt_inj.mp (q.trans (by decide)))
    · exact h_3 (Int32.toInt_inj.mp (q.trans (by decide)))
    · exact h_5 (Int32.toInt_inj.mp (q.trans (by decide)))
    · exact h_7 (Int32.toInt_inj.mp (q.trans (by decide)))
    · exact h_11 (Int32.toInt_inj.mp (q.trans (by decide)))
  refine lv_tableOut (tgt := 151) hx hb d_Mo_isAhead_61 ho_14 (by decide) ?_
  refine lv_iload hx hb d_Mo_isAhead_151 (lv_at hl 3 rfl) ?_
  refine lv_iload hx hb d_Mo_isAhead_153 (lv_at hl 2 rfl) ?_
  refine lv_icmp_ge (tgt := 162) hx hb d_Mo_isAhead_155 (by decide) (fun h_13 => ?_) (fun h_13 => ?_)
  · have hd := ite_t hd h_13
    refine lv_iconst (v := 0) hx hb d_Mo_isAhead_162 (by decide) ?_
    obtain rfl := Option.some.inj hd
    exact retZ hx hb hr hlk hK hP hD hS d_Mo_isAhead_163 rfl (by decide +kernel)
  · have hd := ite_f hd h_13
    refine lv_iconst (v := 1) hx hb d_Mo_isAhead_158 (by decide) ?_
    refine lv_goto (tgt := 163) hx hb d_Mo_isAhead_159 (by decide) ?_
    obtain rfl := Option.some.inj hd
    exact retZ hx hb hr hlk hK hP hD hS d_Mo_isAhead_163 rfl (by decide +kernel)
-- OwnsLiftModel.toldThing(I)I
def B_Mo_toldThing_L2 (x1_f2 : Int32) (z : T_Mo) (self2 : Int32 → Option (Int32)) (x2_2 : Int32) : Option (Int32) :=
  if inb (26 + x1_f2) 901 = true then (if ((q_Mo_s z) (26 + x1_f2).toNatClampNeg) ≤ x2_2 then (some ((-1))) else (if inb ((30 + (7 * x1_f2)) + x2_2) 901 = true then (if inb (65 + ((q_Mo_s z) ((30 + (7 * x1_f2)) + x2_2).toNatClampNeg)) 901 = true then (if ((q_Mo_s z) (65 + ((q_Mo_s z) ((30 + (7 * x1_f2)) + x2_2).toNatClampNeg)).toNatClampNeg) = x1_f2 then (if inb (58 + ((q_Mo_s z) ((30 + (7 * x1_f2)) + x2_2).toNatClampNeg)) 901 = true then (if ((q_Mo_s z) (58 + ((q_Mo_s z) ((30 + (7 * x1_f2)) + x2_2).toNatClampNeg)).toNatClampNeg) ≤ 0 then (self2 (x2_2 + 1)) else (some ((q_Mo_s z) ((30 + (7 * x1_f2)) + x2_2).toNatClampNeg))) else none) else (self2 (x2_2 + 1))) else none) else none)) else none
def d_Mo_toldThing_L2 (x1_f2 : Int32) (z : T_Mo) (n : Nat) : Int32 → Option (Int32) := recN (fun _ => none) (fun self => B_Mo_toldThing_L2 x1_f2 z self) n
def d_Mo_toldThing (x1 : Int32) (z : T_Mo) : Option (Int32) :=
  d_Mo_toldThing_L2 x1 z  1000 0
theorem d_Mo_toldThing_0 : decode b_Mo_toldThing 0 = .ok (.iconst 0, 1) := by decide +kernel
theorem d_Mo_toldThing_1 : decode b_Mo_toldThing 1 = .ok (.istore_n 2, 1) := by decide +kernel
theorem d_Mo_toldThing_2 : decode b_Mo_toldThing 2 = .ok (.iload_n 2, 1) := by decide +kernel
theorem d_Mo_toldThing_3 : decode b_Mo_toldThing 3 = .ok (.aload_n 0, 1) := by decide +kernel
theorem d_Mo_toldThing_4 : decode b_Mo_toldThing 4 = .ok (.getfield 9, 3) := by decide +kernel
theorem d_Mo_toldThing_7 : decode b_Mo_toldThing 7 = .ok (.bipush 26, 2) := by decide +kernel
theorem d_Mo_toldThing_9 : decode b_Mo_toldThing 9 = .ok (.iload_n 1, 1) := by decide +kernel
theorem d_Mo_toldThing_10 : decode b_Mo_toldThing 10 = .ok (.iadd, 1) := by decide +kernel
theorem d_Mo_toldThing_11 : decode b_Mo_toldThing 11 = .ok (.iaload, 1) := by decide +kernel
theorem d_Mo_toldThing_12 : decode b_Mo_toldThing 12 = .ok (.if_icmp .ge 51, 3) := by decide +kernel
theorem d_Mo_toldThing_15 : decode b_Mo_toldThing 15 = .ok (.aload_n 0, 1) := by decide +kernel
theorem d_Mo_toldThing_16 : decode b_Mo_toldThing 16 = .ok (.getfield 9, 3) := by decide +kernel
theorem d_Mo_toldThing_19 : decode b_Mo_toldThing 19 = .ok (.bipush 30, 2) := by decide +kernel
theorem d_Mo_toldThing_21 : decode b_Mo_toldThing 21 = .ok (.bipush 7, 2) := by decide +kernel
theorem d_Mo_toldThing_23 : decode b_Mo_toldThing 23 = .ok (.iload_n 1, 1) := by decide +kernel
theorem d_Mo_toldThing_24 : decode b_Mo_toldThing 24 = .ok (.imul, 1) := by decide +kernel
theorem d_Mo_toldThing_25 : decode b_Mo_toldThing 25 = .ok (.iadd, 1) := by decide +kernel
theorem d_Mo_toldThing_26 : decode b_Mo_toldThing 26 = .ok (.iload_n 2, 1) := by decide +kernel
theorem d_Mo_toldThing_27 : decode b_Mo_toldThing 27 = .ok (.iadd, 1) := by decide +kernel
theorem d_Mo_toldThing_28 : decode b_Mo_toldThing 28 = .ok (.iaload, 1) := by decide +kernel
theorem d_Mo_toldThing_29 : decode b_Mo_toldThing 29 = .ok (.istore_n 3, 1) := by decide +kernel
theorem d_Mo_toldThing_30 : decode b_Mo_toldThing 30 = .ok (.aload_n 0, 1) := by decide +kernel
theorem d_Mo_toldThing_31 : decode b_Mo_toldThing 31 = .ok (.getfield 9, 3) := by decide +kernel
theorem d_Mo_toldThing_34 : decode b_Mo_toldThing 34 = .ok (.bipush 65, 2) := by decide +kernel
theorem d_Mo_toldThing_36 : decode b_Mo_toldThing 36 = .ok (.iload_n 3, 1) := by decide +kernel
theorem d_Mo_toldThing_37 : decode b_Mo_toldThing 37 = .ok (.iadd, 1) := by decide +kernel
theorem d_Mo_toldThing_38 : decode b_Mo_toldThing 38 = .ok (.iaload, 1) := by decide +kernel
theorem d_Mo_toldThing_39 : decode b_Mo_toldThing 39 = .ok (.iload_n 1, 1) := by decide +kernel
theorem d_Mo_toldThing_40 : decode b_Mo_toldThing 40 = .ok (.if_icmp .ne 17, 3) := by decide +kernel
theorem d_Mo_toldThing_43 : decode b_Mo_toldThing 43 = .ok (.aload_n 0, 1) := by decide +kernel
theorem d_Mo_toldThing_44 : decode b_Mo_toldThing 44 = .ok (.getfield 9, 3) := by decide +kernel
theorem d_Mo_toldThing_47 : decode b_Mo_toldThing 47 = .ok (.bipush 58, 2) := by decide +kernel
theorem d_Mo_toldThing_49 : decode b_Mo_toldThing 49 = .ok (.iload_n 3, 1) := by decide +kernel
theorem d_Mo_toldThing_50 : decode b_Mo_toldThing 50 = .ok (.iadd, 1) := by decide +kernel
theorem d_Mo_toldThing_51 : decode b_Mo_toldThing 51 = .ok (.iaload, 1) := by decide +kernel
theorem d_Mo_toldThing_52 : decode b_Mo_toldThing 52 = .ok (.ifCond .le 5, 3) := by decide +kernel
theorem d_Mo_toldThing_55 : decode b_Mo_toldThing 55 = .ok (.iload_n 3, 1) := by decide +kernel
theorem d_Mo_toldThing_56 : decode b_Mo_toldThing 56 = .ok (.ireturn, 1) := by decide +kernel
theorem d_Mo_toldThing_57 : decode b_Mo_toldThing 57 = .ok (.iinc 2 1, 3) := by decide +kernel
theorem d_Mo_toldThing_60 : decode b_Mo_toldThing 60 = .ok (.goto (-58), 3) := by decide +kernel
theorem d_Mo_toldThing_63 : decode b_Mo_toldThing 63 = .ok (.iconst (-1), 1) := by decide +kernel
theorem d_Mo_toldThing_64 : decode b_Mo_toldThing 64 = .ok (.ireturn, 1) := by decide +kernel
theorem o_Mo_toldThing : OkV y_Mo_toldThing "OwnsLiftModel" b_Mo_toldThing 4 (some .int) 1 := ⟨⟨rfl, by decide +kernel, by decide +kernel, by decide +kernel⟩, g_1232, g_50, g_81, g_1233⟩
set_option maxHeartbeats 4000000 in
set_option maxRecDepth 100000 in
theorem c_Mo_toldThing (l : Launch) (D : va_G) (g : Nat → ClassId) (a : Nat → Nat) (x1 : Int32) (z : T_Mo) (v : Int32) (h : d_Mo_toldThing x1 z = some v) :
    MI l y_Mo_toldThing b_Mo_toldThing 4 .int ({ frames := 0, cells := 0, slots := 0, locals := 0 } : Room) D g [.ref (a 0), .int x1] (ws_Mo g a z) (v) (ws_Mo g a z) := by
  have hd := h
  unfold d_Mo_toldThing at hd
  refine enterI rfl (Nat.le_of_ble_eq_true rfl) (fun p e s m below meth c A ls hx hb hml hr hown hg hlk hK hA hP hD hS hCs hl => ?_)
  have hown : s.vm.findClass "OwnsLiftModel" = some m.cls := hown
  have hl : lv_has ls 4 [(0, .ref (a 0)), (1, .int x1)] := hl
  show GI p l e s m ({ frames := 0, cells := 0, slots := 0, locals := 0 } : Room) ([.ref (a 0), .int x1] : List Value).toArray below meth c A D g (ws_Mo g a z) (v) s.heap [] (F0 m 0 ls [])
  refine lv_iconst (v := 0) hx hb d_Mo_toldThing_0 (by decide) ?_
  refine lv_istore_n (lv' := [(2, .int 0), (0, .ref (a 0)), (1, .int x1)]) hx hb d_Mo_toldThing_1 rfl hl (by decide) rfl (fun ls hl => ?_)
  have lp2 : ∀ (x1_f2 : Int32) (n : Nat) (x2_2 : Int32) (H : Heap) (locs : List Loc) (ls : Array Slot), va_P D classes (ws_Mo g a z) H → va_D A (ws_Mo g a z) → va_S A s.heap H locs → lv_has ls 4 [(0, .ref (a 0)), (1, .int x1_f2), (2, .int x2_2)] → d_Mo_toldThing_L2 x1_f2 z n x2_2 = some v → GI p l e s m ({ frames := 0, cells := 0, slots := 0, locals := 0 } : Room) ([.ref (a 0), .int x1] : List Value).toArray below meth c A D g (ws_Mo g a z) (v) H locs (F0 m 2 ls []) := by
    intro x1_f2 n
    induction n with
    | zero =>
      intro  x2_2 H locs ls hP hD hS hl hd
      have hd : none = some v := hd
      cases hd
    | succ n ih2 =>
      intro  x2_2 H locs ls hP hD hS hl hd
      have hd : B_Mo_toldThing_L2 x1_f2 z (d_Mo_toldThing_L2 x1_f2 z n) x2_2 = some v := hd
      generalize d_Mo_toldThing_L2 x1_f2 z n = self2 at ih2 hd
      unfold B_Mo_toldThing_L2 at hd
      refine lv_iload_n hx hb d_Mo_toldThing_2 rfl (lv_at hl 2 rfl) ?_
      refine lv_aload_n hx hb d_Mo_toldThing_3 rfl (lv_at hl 0 rfl) ?_
      refine va_get (D := D) (ci := 1) (v := .ref (a 1)) (C := R_Mo) (T := F_Mo) (N := 26) hx hb hg i_Mo hown hK hP 0 rfl rfl 1 (by decide) (hg _ g_993) (fun _ h9 => h9) rfl d_Mo_toldThing_4 ?_
      refine lv_bipush (v := 26) hx hb d_Mo_toldThing_7 (by decide) ?_
      refine lv_iload_n hx hb d_Mo_toldThing_9 rfl (lv_at hl 1 rfl) ?_
      refine lv_iadd hx hb d_Mo_toldThing_10 ?_
      obtain ⟨h_7, hd⟩ := ite_s hd
      refine ialdK hx hb hK hP 1 0 rfl rfl (inb_t h_7) rfl d_Mo_toldThing_11 ?_
      refine lv_icmp_ge (tgt := 63) hx hb d_Mo_toldThing_12 (by decide) (fun h_1 => ?_) (fun h_1 => ?_)
      · have hd := ite_t hd h_1
        refine lv_iconst (v := (-1)) hx hb d_Mo_toldThing_63 (by decide) ?_
        obtain rfl := Option.some.inj hd
        exact retI hx hb hr hlk hK hP hD hS d_Mo_toldThing_64 rfl
      · have hd := ite_f hd h_1
        refine lv_aload_n hx hb d_Mo_toldThing_15 rfl (lv_at hl 0 rfl) ?_
        refine va_get (D := D) (ci := 1) (v := .ref (a 1)) (C := R_Mo) (T := F_Mo) (N := 26) hx hb hg i_Mo hown hK hP 0 rfl rfl 1 (by decide) (hg _ g_993) (fun _ h9 => h9) rfl d_Mo_toldThing_16 ?_
        refine lv_bipush (v := 30) hx hb d_Mo_toldThing_19 (by decide) ?_
        refine lv_bipush (v := 7) hx hb d_Mo_toldThing_21 (by decide) ?_
        refine lv_iload_n hx hb d_Mo_toldThing_23 rfl (lv_at hl 1 rfl) ?_
        refine lv_imul hx hb d_Mo_toldThing_24 ?_
        refine lv_iadd hx hb d_Mo_toldThing_25 ?_
        refine lv_iload_n hx hb d_Mo_toldThing_26 rfl (lv_at hl 2 rfl) ?_
        refine lv_iadd hx hb d_Mo_toldThing_27 ?_
        obtain ⟨h_6, hd⟩ := ite_s hd
        refine ialdK hx hb hK hP 1 0 rfl rfl (inb_t h_6) rfl d_Mo_toldThing_28 ?_
        refine lv_istore_n (lv' := [(3, .int ((q_Mo_s z) ((30 + (7 * x1_f2)) + x2_2).toNatClampNeg)), (0, .ref (a 0)), (1, .int x1_f2), (2, .int x2_2)]) hx hb d_Mo_toldThing_29 rfl hl (by decide) rfl (fun ls hl => ?_)
        refine lv_aload_n hx hb d_Mo_toldThing_30 rfl (lv_at hl 1 rfl) ?_
        refine va_get (D := D) (ci := 1) (v := .ref (a 1)) (C := R_Mo) (T := F_Mo) (N := 26) hx hb hg i_Mo hown hK hP 0 rfl rfl 1 (by decide) (hg _ g_993) (fun _ h9 => h9) rfl d_Mo_toldThing_31 ?_
        refine lv_bipush (v := 65) hx hb d_Mo_toldThing_34 (by decide) ?_
        refine lv_iload_n hx hb d_Mo_toldThing_36 rfl (lv_at hl 0 rfl) ?_
        refine lv_iadd hx hb d_Mo_toldThing_37 ?_
        obtain ⟨h_5, hd⟩ := ite_s hd
        refine ialdK hx hb hK hP 1 0 rfl rfl (inb_t h_5) rfl d_Mo_toldThing_38 ?_
        refine lv_iload_n hx hb d_Mo_toldThing_39 rfl (lv_at hl 2 rfl) ?_
        refine lv_icmp_ne (tgt := 57) hx hb d_Mo_toldThing_40 (by decide) (fun h_2 => ?_) (fun h_2 => ?_)
        · have hd := ite_f hd h_2
          refine lv_iinc (v := x2_2 + 1) (lv' := [(2, .int (x2_2 + 1)), (3, .int ((q_Mo_s z) ((30 + (7 * x1_f2)) + x2_2).toNatClampNeg)), (0, .ref (a 0)), (1, .int x1_f2)]) hx hb d_Mo_toldThing_57 hl (k := 3) rfl (by rfl) (by decide) rfl (fun ls hl => ?_)
          refine lv_goto (tgt := 2) hx hb d_Mo_toldThing_60 (by decide) ?_
          exact ih2 (x2_2 + 1) _ _ _ hP hD hS (lv_sub hl [2, 3, 0] rfl) hd
        · have hd := ite_t hd h_2
          refine lv_aload_n hx hb d_Mo_toldThing_43 rfl (lv_at hl 1 rfl) ?_
          refine va_get (D := D) (ci := 1) (v := .ref (a 1)) (C := R_Mo) (T := F_Mo) (N := 26) hx hb hg i_Mo hown hK hP 0 rfl rfl 1 (by decide) (hg _ g_993) (fun _ h9 => h9) rfl d_Mo_toldThing_44 ?_
          refine lv_bipush (v := 58) hx hb d_Mo_toldThing_47 (by decide) ?_
          refine lv_iload_n hx hb d_Mo_toldThing_49 rfl (lv_at hl 0 rfl) ?_
          refine lv_iadd hx hb d_Mo_toldThing_50 ?_
          obtain ⟨h_4, hd⟩ := ite_s hd
          refine ialdK hx hb hK hP 1 0 rfl rfl (inb_t h_4) rfl d_Mo_toldThing_51 ?_
          refine lv_if_le (tgt := 57) hx hb d_Mo_toldThing_52 (by decide) (fun h_3 => ?_) (fun h_3 => ?_)
          · have hd := ite_t hd h_3
            refine lv_iinc (v := x2_2 + 1) (lv' := [(2, .int (x2_2 + 1)), (3, .int ((q_Mo_s z) ((30 + (7 * x1_f2)) + x2_2).toNatClampNeg)), (0, .ref (a 0)), (1, .int x1_f2)]) hx hb d_Mo_toldThing_57 hl (k := 3) rfl (by rfl) (by decide) rfl (fun ls hl => ?_)
            refine lv_goto (tgt := 2) hx hb d_Mo_toldThing_60 (by decide) ?_
            exact ih2 (x2_2 + 1) _ _ _ hP hD hS (lv_sub hl [2, 3, 0] rfl) hd
          · have hd := ite_f hd h_3
            refine lv_iload_n hx hb d_Mo_toldThing_55 rfl (lv_at hl 0 rfl) ?_
            obtain rfl := Option.some.inj hd
            exact retI hx hb hr hlk hK hP hD hS d_Mo_toldThing_56 rfl
  exact lp2 x1 1000 0 _ _ _ hP hD hS (lv_sub hl [1, 2, 0] rfl) hd
-- OwnsLiftModel.drops(I)I
def B_Mo_drops_L36 (x1_f36 : Int32) (z : T_Mo) (self36 : Int32 → Int32 → Option (Int32)) (x3_36 : Int32) (x4_36 : Int32) : Option (Int32) :=
  if ((q_Mo_s z) 1) ≤ x4_36 then (some (x3_36)) else (if inb (65 + x4_36) 901 = true then (if ((q_Mo_s z) (65 + x4_36).toNatClampNeg) = x1_f36 then (if x3_36 = (-1) then (self36 x4_36 (x4_36 + 1)) else ((d_Mo_isAhead x1_f36 x4_36 x3_36 z).bind fun v_5 => if v_5 = 0 then (self36 x3_36 (x4_36 + 1)) else (self36 x4_36 (x4_36 + 1)))) else (self36 x3_36 (x4_36 + 1))) else none)
def d_Mo_drops_L36 (x1_f36 : Int32) (z : T_Mo) (n : Nat) : Int32 → Int32 → Option (Int32) := recN (fun _ _ => none) (fun self => B_Mo_drops_L36 x1_f36 z self) n
def d_Mo_drops (x1 : Int32) (z : T_Mo) : Option (Int32) :=
  if inb (10 + x1) 901 = true then (if ((q_Mo_s z) (10 + x1).toNatClampNeg) = 6 then ((d_Mo_toldThing x1 z).bind fun v_9 => if v_9 = (-1) then (d_Mo_drops_L36 x1 z  1000 (-1) 0) else (some (v_9))) else (d_Mo_drops_L36 x1 z  1000 (-1) 0)) else none
theorem d_Mo_drops_0 : decode b_Mo_drops 0 = .ok (.aload_n 0, 1) := by decide +kernel
theorem d_Mo_drops_1 : decode b_Mo_drops 1 = .ok (.getfield 9, 3) := by decide +kernel
theorem d_Mo_drops_4 : decode b_Mo_drops 4 = .ok (.bipush 10, 2) := by decide +kernel
theorem d_Mo_drops_6 : decode b_Mo_drops 6 = .ok (.iload_n 1, 1) := by decide +kernel
theorem d_Mo_drops_7 : decode b_Mo_drops 7 = .ok (.iadd, 1) := by decide +kernel
theorem d_Mo_drops_8 : decode b_Mo_drops 8 = .ok (.iaload, 1) := by decide +kernel
theorem d_Mo_drops_9 : decode b_Mo_drops 9 = .ok (.bipush 6, 2) := by decide +kernel
theorem d_Mo_drops_11 : decode b_Mo_drops 11 = .ok (.if_icmp .ne 11, 3) := by decide +kernel
theorem d_Mo_drops_14 : decode b_Mo_drops 14 = .ok (.aload_n 0, 1) := by decide +kernel
theorem d_Mo_drops_15 : decode b_Mo_drops 15 = .ok (.iload_n 1, 1) := by decide +kernel
theorem d_Mo_drops_16 : decode b_Mo_drops 16 = .ok (.invokevirtual 166, 3) := by decide +kernel
theorem d_Mo_drops_19 : decode b_Mo_drops 19 = .ok (.goto 4, 3) := by decide +kernel
theorem d_Mo_drops_22 : decode b_Mo_drops 22 = .ok (.iconst (-1), 1) := by decide +kernel
theorem d_Mo_drops_23 : decode b_Mo_drops 23 = .ok (.istore_n 2, 1) := by decide +kernel
theorem d_Mo_drops_24 : decode b_Mo_drops 24 = .ok (.iload_n 2, 1) := by decide +kernel
theorem d_Mo_drops_25 : decode b_Mo_drops 25 = .ok (.iconst (-1), 1) := by decide +kernel
theorem d_Mo_drops_26 : decode b_Mo_drops 26 = .ok (.if_icmp .eq 5, 3) := by decide +kernel
theorem d_Mo_drops_29 : decode b_Mo_drops 29 = .ok (.iload_n 2, 1) := by decide +kernel
theorem d_Mo_drops_30 : decode b_Mo_drops 30 = .ok (.ireturn, 1) := by decide +kernel
theorem d_Mo_drops_31 : decode b_Mo_drops 31 = .ok (.iconst (-1), 1) := by decide +kernel
theorem d_Mo_drops_32 : decode b_Mo_drops 32 = .ok (.istore_n 3, 1) := by decide +kernel
theorem d_Mo_drops_33 : decode b_Mo_drops 33 = .ok (.iconst 0, 1) := by decide +kernel
theorem d_Mo_drops_34 : decode b_Mo_drops 34 = .ok (.istore 4, 2) := by decide +kernel
theorem d_Mo_drops_36 : decode b_Mo_drops 36 = .ok (.iload 4, 2) := by decide +kernel
theorem d_Mo_drops_38 : decode b_Mo_drops 38 = .ok (.aload_n 0, 1) := by decide +kernel
theorem d_Mo_drops_39 : decode b_Mo_drops 39 = .ok (.getfield 9, 3) := by decide +kernel
theorem d_Mo_drops_42 : decode b_Mo_drops 42 = .ok (.iconst 1, 1) := by decide +kernel
theorem d_Mo_drops_43 : decode b_Mo_drops 43 = .ok (.iaload, 1) := by decide +kernel
theorem d_Mo_drops_44 : decode b_Mo_drops 44 = .ok (.if_icmp .ge 46, 3) := by decide +kernel
theorem d_Mo_drops_47 : decode b_Mo_drops 47 = .ok (.aload_n 0, 1) := by decide +kernel
theorem d_Mo_drops_48 : decode b_Mo_drops 48 = .ok (.getfield 9, 3) := by decide +kernel
theorem d_Mo_drops_51 : decode b_Mo_drops 51 = .ok (.bipush 65, 2) := by decide +kernel
theorem d_Mo_drops_53 : decode b_Mo_drops 53 = .ok (.iload 4, 2) := by decide +kernel
theorem d_Mo_drops_55 : decode b_Mo_drops 55 = .ok (.iadd, 1) := by decide +kernel
theorem d_Mo_drops_56 : decode b_Mo_drops 56 = .ok (.iaload, 1) := by decide +kernel
theorem d_Mo_drops_57 : decode b_Mo_drops 57 = .ok (.iload_n 1, 1) := by decide +kernel
theorem d_Mo_drops_58 : decode b_Mo_drops 58 = .ok (.if_icmp .ne 24, 3) := by decide +kernel
theorem d_Mo_drops_61 : decode b_Mo_drops 61 = .ok (.iload_n 3, 1) := by decide +kernel
theorem d_Mo_drops_62 : decode b_Mo_drops 62 = .ok (.iconst (-1), 1) := by decide +kernel
theorem d_Mo_drops_63 : decode b_Mo_drops 63 = .ok (.if_icmp .eq 14, 3) := by decide +kernel
theorem d_Mo_drops_66 : decode b_Mo_drops 66 = .ok (.aload_n 0, 1) := by decide +kernel
theorem d_Mo_drops_67 : decode b_Mo_drops 67 = .ok (.iload_n 1, 1) := by decide +kernel
theorem d_Mo_drops_68 : decode b_Mo_drops 68 = .ok (.iload 4, 2) := by decide +kernel
theorem d_Mo_drops_70 : decode b_Mo_drops 70 = .ok (.iload_n 3, 1) := by decide +kernel
theorem d_Mo_drops_71 : decode b_Mo_drops 71 = .ok (.invokevirtual 169, 3) := by decide +kernel
theorem d_Mo_drops_74 : decode b_Mo_drops 74 = .ok (.ifCond .eq 8, 3) := by decide +kernel
theorem d_Mo_drops_77 : decode b_Mo_drops 77 = .ok (.iload 4, 2) := by decide +kernel
theorem d_Mo_drops_79 : decode b_Mo_drops 79 = .ok (.goto 4, 3) := by decide +kernel
theorem d_Mo_drops_82 : decode b_Mo_drops 82 = .ok (.iload_n 3, 1) := by decide +kernel
theorem d_Mo_drops_83 : decode b_Mo_drops 83 = .ok (.istore_n 3, 1) := by decide +kernel
theorem d_Mo_drops_84 : decode b_Mo_drops 84 = .ok (.iinc 4 1, 3) := by decide +kernel
theorem d_Mo_drops_87 : decode b_Mo_drops 87 = .ok (.goto (-51), 3) := by decide +kernel
theorem d_Mo_drops_90 : decode b_Mo_drops 90 = .ok (.iload_n 3, 1) := by decide +kernel
theorem d_Mo_drops_91 : decode b_Mo_drops 91 = .ok (.ireturn, 1) := by decide +kernel
theorem o_Mo_drops : OkV y_Mo_drops "OwnsLiftModel" b_Mo_drops 5 (some .int) 1 := ⟨⟨rfl, by decide +kernel, by decide +kernel, by decide +kernel⟩, g_1228, g_49, g_81, g_1229⟩
set_option maxHeartbeats 4000000 in
set_option maxRecDepth 100000 in
theorem c_Mo_drops (l : Launch) (D : va_G) (g : Nat → ClassId) (a : Nat → Nat) (x1 : Int32) (z : T_Mo) (v : Int32) (h : d_Mo_drops x1 z = some v) :
    MI l y_Mo_drops b_Mo_drops 5 .int ({ frames := 1, cells := 0, slots := 0, locals := 28 } : Room) D g [.ref (a 0), .int x1] (ws_Mo g a z) (v) (ws_Mo g a z) := by
  have hd := h
  unfold d_Mo_drops at hd
  refine enterI rfl (Nat.le_of_ble_eq_true rfl) (fun p e s m below meth c A ls hx hb hml hr hown hg hlk hK hA hP hD hS hCs hl => ?_)
  have hown : s.vm.findClass "OwnsLiftModel" = some m.cls := hown
  have hl : lv_has ls 5 [(0, .ref (a 0)), (1, .int x1)] := hl
  show GI p l e s m ({ frames := 1, cells := 0, slots := 0, locals := 28 } : Room) ([.ref (a 0), .int x1] : List Value).toArray below meth c A D g (ws_Mo g a z) (v) s.heap [] (F0 m 0 ls [])
  refine lv_aload_n hx hb d_Mo_drops_0 rfl (lv_at hl 0 rfl) ?_
  refine va_get (D := D) (ci := 1) (v := .ref (a 1)) (C := R_Mo) (T := F_Mo) (N := 26) hx hb hg i_Mo hown hK hP 0 rfl rfl 1 (by decide) (hg _ g_993) (fun _ h9 => h9) rfl d_Mo_drops_1 ?_
  refine lv_bipush (v := 10) hx hb d_Mo_drops_4 (by decide) ?_
  refine lv_iload_n hx hb d_Mo_drops_6 rfl (lv_at hl 1 rfl) ?_
  refine lv_iadd hx hb d_Mo_drops_7 ?_
  obtain ⟨h_19, hd⟩ := ite_s hd
  refine ialdK hx hb hK hP 1 0 rfl rfl (inb_t h_19) rfl d_Mo_drops_8 ?_
  refine lv_bipush (v := 6) hx hb d_Mo_drops_9 (by decide) ?_
  refine lv_icmp_ne (tgt := 22) hx hb d_Mo_drops_11 (by decide) (fun h_1 => ?_) (fun h_1 => ?_)
  · have hd := ite_f hd h_1
    refine lv_iconst (v := (-1)) hx hb d_Mo_drops_22 (by decide) ?_
    refine lv_istore_n (lv' := [(2, .int (-1)), (0, .ref (a 0)), (1, .int x1)]) hx hb d_Mo_drops_23 rfl hl (by decide) rfl (fun ls hl => ?_)
    refine lv_iload_n hx hb d_Mo_drops_24 rfl (lv_at hl 0 rfl) ?_
    refine lv_iconst (v := (-1)) hx hb d_Mo_drops_25 (by decide) ?_
    refine lv_icmp_eq (tgt := 31) hx hb d_Mo_drops_26 (by decide) (fun _ => ?_) (fun h9 => absurd (by decide) h9)
    refine lv_iconst (v := (-1)) hx hb d_Mo_drops_31 (by decide) ?_
    refine lv_istore_n (lv' := [(3, .int (-1)), (2, .int (-1)), (0, .ref (a 0)), (1, .int x1)]) hx hb d_Mo_drops_32 rfl hl (by decide) rfl (fun ls hl => ?_)
    refine lv_iconst (v := 0) hx hb d_Mo_drops_33 (by decide) ?_
    refine lv_istore (lv' := [(4, .int 0), (3, .int (-1)), (2, .int (-1)), (0, .ref (a 0)), (1, .int x1)]) hx hb d_Mo_drops_34 hl (by decide) rfl (fun ls hl => ?_)
    have lp36 : ∀ (x1_f36 : Int32) (n : Nat) (x3_36 : Int32) (x4_36 : Int32) (H : Heap) (locs : List Loc) (ls : Array Slot), va_P D classes (ws_Mo g a z) H → va_D A (ws_Mo g a z) → va_S A s.heap H locs → lv_has ls 5 [(0, .ref (a 0)), (1, .int x1_f36), (3, .int x3_36), (4, .int x4_36)] → d_Mo_drops_L36 x1_f36 z n x3_36 x4_36 = some v → GI p l e s m ({ frames := 1, cells := 0, slots := 0, locals := 28 } : Room) ([.ref (a 0), .int x1] : List Value).toArray below meth c A D g (ws_Mo g a z) (v) H locs (F0 m 36 ls []) := by
      intro x1_f36 n
      induction n with
      | zero =>
        intro  x3_36 x4_36 H locs ls hP hD hS hl hd
        have hd : none = some v := hd
        cases hd
      | succ n ih36 =>
        intro  x3_36 x4_36 H locs ls hP hD hS hl hd
        have hd : B_Mo_drops_L36 x1_f36 z (d_Mo_drops_L36 x1_f36 z n) x3_36 x4_36 = some v := hd
        generalize d_Mo_drops_L36 x1_f36 z n = self36 at ih36 hd
        unfold B_Mo_drops_L36 at hd
        refine lv_iload hx hb d_Mo_drops_36 (lv_at hl 3 rfl) ?_
        refine lv_aload_n hx hb d_Mo_drops_38 rfl (lv_at hl 0 rfl) ?_
        refine va_get (D := D) (ci := 1) (v := .ref (a 1)) (C := R_Mo) (T := F_Mo) (N := 26) hx hb hg i_Mo hown hK hP 0 rfl rfl 1 (by decide) (hg _ g_993) (fun _ h9 => h9) rfl d_Mo_drops_39 ?_
        refine lv_iconst (v := 1) hx hb d_Mo_drops_42 (by decide) ?_
        refine ialdK hx hb hK hP 1 0 rfl rfl (inb_t (by decide +kernel)) (k := 1) (by decide +kernel) d_Mo_drops_43 ?_
        refine lv_icmp_ge (tgt := 90) hx hb d_Mo_drops_44 (by decide) (fun h_2 => ?_) (fun h_2 => ?_)
        · have hd := ite_t hd h_2
          refine lv_iload_n hx hb d_Mo_drops_90 rfl (lv_at hl 2 rfl) ?_
          obtain rfl := Option.some.inj hd
          exact retI hx hb hr hlk hK hP hD hS d_Mo_drops_91 rfl
        · have hd := ite_f hd h_2
          refine lv_aload_n hx hb d_Mo_drops_47 rfl (lv_at hl 0 rfl) ?_
          refine va_get (D := D) (ci := 1) (v := .ref (a 1)) (C := R_Mo) (T := F_Mo) (N := 26) hx hb hg i_Mo hown hK hP 0 rfl rfl 1 (by decide) (hg _ g_993) (fun _ h9 => h9) rfl d_Mo_drops_48 ?_
          refine lv_bipush (v := 65) hx hb d_Mo_drops_51 (by decide) ?_
          refine lv_iload hx hb d_Mo_drops_53 (lv_at hl 3 rfl) ?_
          refine lv_iadd hx hb d_Mo_drops_55 ?_
          obtain ⟨h_8, hd⟩ := ite_s hd
          refine ialdK hx hb hK hP 1 0 rfl rfl (inb_t h_8) rfl d_Mo_drops_56 ?_
          refine lv_iload_n hx hb d_Mo_drops_57 rfl (lv_at hl 1 rfl) ?_
          refine lv_icmp_ne (tgt := 82) hx hb d_Mo_drops_58 (by decide) (fun h_3 => ?_) (fun h_3 => ?_)
          · have hd := ite_f hd h_3
            refine lv_iload_n hx hb d_Mo_drops_82 rfl (lv_at hl 2 rfl) ?_
            refine lv_istore_n (lv' := [(3, .int x3_36), (0, .ref (a 0)), (1, .int x1_f36), (4, .int x4_36)]) hx hb d_Mo_drops_83 rfl hl (by decide) rfl (fun ls hl => ?_)
            refine lv_iinc (v := x4_36 + 1) (lv' := [(4, .int (x4_36 + 1)), (3, .int x3_36), (0, .ref (a 0)), (1, .int x1_f36)]) hx hb d_Mo_drops_84 hl (k := 3) rfl (by rfl) (by decide) rfl (fun ls hl => ?_)
            refine lv_goto (tgt := 36) hx hb d_Mo_drops_87 (by decide) ?_
            exact ih36 x3_36 (x4_36 + 1) _ _ _ hP hD hS (lv_sub hl [2, 3, 1, 0] rfl) hd
          · have hd := ite_t hd h_3
            refine lv_iload_n hx hb d_Mo_drops_61 rfl (lv_at hl 2 rfl) ?_
            refine lv_iconst (v := (-1)) hx hb d_Mo_drops_62 (by decide) ?_
            refine lv_icmp_eq (tgt := 77) hx hb d_Mo_drops_63 (by decide) (fun h_4 => ?_) (fun h_4 => ?_)
            · have hd := ite_t hd h_4
              refine lv_iload hx hb d_Mo_drops_77 (lv_at hl 3 rfl) ?_
              refine lv_goto (tgt := 83) hx hb d_Mo_drops_79 (by decide) ?_
              refine lv_istore_n (lv' := [(3, .int x4_36), (0, .ref (a 0)), (1, .int x1_f36), (4, .int x4_36)]) hx hb d_Mo_drops_83 rfl hl (by decide) rfl (fun ls hl => ?_)
              refine lv_iinc (v := x4_36 + 1) (lv' := [(4, .int (x4_36 + 1)), (3, .int x4_36), (0, .ref (a 0)), (1, .int x1_f36)]) hx hb d_Mo_drops_84 hl (k := 3) rfl (by rfl) (by decide) rfl (fun ls hl => ?_)
              refine lv_goto (tgt := 36) hx hb d_Mo_drops_87 (by decide) ?_
              exact ih36 x4_36 (x4_36 + 1) _ _ _ hP hD hS (lv_sub hl [2, 3, 1, 0] rfl) hd
            · have hd := ite_f hd h_4
              refine lv_aload_n hx hb d_Mo_drops_66 rfl (lv_at hl 0 rfl) ?_
              refine lv_iload_n hx hb d_Mo_drops_67 rfl (lv_at hl 1 rfl) ?_
              refine lv_iload hx hb d_Mo_drops_68 (lv_at hl 3 rfl) ?_
              refine lv_iload_n hx hb d_Mo_drops_70 rfl (lv_at hl 2 rfl) ?_
              obtain ⟨v_5, e_6, hd⟩ := bind_s hd
              refine callVI (ws' := ws_Mo g a z) (rest := []) (As := [.int x1_f36, .int x4_36, .int x3_36]) hx hb hml hown hg hK hP hD hS hA hCs hl.1 (c_Mo_isAhead l D g a x1_f36 x4_36 x3_36 z _ e_6) o_Mo_isAhead g_1234 (ci := 1) (q0 := 0) rfl rfl (List.range' 0 12) (segC1 rfl rfl) (by decide) rfl (segP1 rfl rfl) rfl rfl (Nat.le_of_ble_eq_true rfl) ⟨rfl, rfl, Nat.le_of_ble_eq_true rfl, Nat.le_of_ble_eq_true rfl⟩ d_Mo_drops_71 (fun H locs hP hD hS => ?_)
              refine lv_if_eq (tgt := 82) hx hb d_Mo_drops_74 (by decide) (fun h_7 => ?_) (fun h_7 => ?_)
              · have hd := ite_t hd h_7
                refine lv_iload_n hx hb d_Mo_drops_82 rfl (lv_at hl 2 rfl) ?_
                refine lv_istore_n (lv' := [(3, .int x3_36), (0, .ref (a 0)), (1, .int x1_f36), (4, .int x4_36)]) hx hb d_Mo_drops_83 rfl hl (by decide) rfl (fun ls hl => ?_)
                refine lv_iinc (v := x4_36 + 1) (lv' := [(4, .int (x4_36 + 1)), (3, .int x3_36), (0, .ref (a 0)), (1, .int x1_f36)]) hx hb d_Mo_drops_84 hl (k := 3) rfl (by rfl) (by decide) rfl (fun ls hl => ?_)
                refine lv_goto (tgt := 36) hx hb d_Mo_drops_87 (by decide) ?_
                exact ih36 x3_36 (x4_36 + 1) _ _ _ hP hD hS (lv_sub hl [2, 3, 1, 0] rfl) hd
              · have hd := ite_f hd h_7
                refine lv_iload hx hb d_Mo_drops_77 (lv_at hl 3 rfl) ?_
                refine lv_goto (tgt := 83) hx hb d_Mo_drops_79 (by decide) ?_
                refine lv_istore_n (lv' := [(3, .int x4_36), (0, .ref (a 0)), (1, .int x1_f36), (4, .int x4_36)]) hx hb d_Mo_drops_83 rfl hl (by decide) rfl (fun ls hl => ?_)
                refine lv_iinc (v := x4_36 + 1) (lv' := [(4, .int (x4_36 + 1)), (3, .int x4_36), (0, .ref (a 0)), (1, .int x1_f36)]) hx hb d_Mo_drops_84 hl (k := 3) rfl (by rfl) (by decide) rfl (fun ls hl => ?_)
                refine lv_goto (tgt := 36) hx hb d_Mo_drops_87 (by decide) ?_
                exact ih36 x4_36 (x4_36 + 1) _ _ _ hP hD hS (lv_sub hl [2, 3, 1, 0] rfl) hd
    exact lp36 x1 1000 (-1) 0 _ _ _ hP hD hS (lv_sub hl [3, 4, 1, 0] rfl) hd
  · have hd := ite_t hd h_1
    refine lv_aload_n hx hb d_Mo_drops_14 rfl (lv_at hl 0 rfl) ?_
    refine lv_iload_n hx hb d_Mo_drops_15 rfl (lv_at hl 1 rfl) ?_
    obtain ⟨v_9, e_10, hd⟩ := bind_s hd
    refine callVI (ws' := ws_Mo g a z) (rest := []) (As := [.int x1]) hx hb hml hown hg hK hP hD hS hA hCs hl.1 (c_Mo_toldThing l D g a x1 z _ e_10) o_Mo_toldThing g_1230 (ci := 1) (q0 := 0) rfl rfl (List.range' 0 12) (segC1 rfl rfl) (by decide) rfl (segP1 rfl rfl) rfl rfl (Nat.le_of_ble_eq_true rfl) ⟨rfl, rfl, Nat.le_of_ble_eq_true rfl, Nat.le_of_ble_eq_true rfl⟩ d_Mo_drops_16 (fun H locs hP hD hS => ?_)
    refine lv_goto (tgt := 23) hx hb d_Mo_drops_19 (by decide) ?_
    refine lv_istore_n (lv' := [(2, .int v_9), (0, .ref (a 0)), (1, .int x1)]) hx hb d_Mo_drops_23 rfl hl (by decide) rfl (fun ls hl => ?_)
    refine lv_iload_n hx hb d_Mo_drops_24 rfl (lv_at hl 0 rfl) ?_
    refine lv_iconst (v := (-1)) hx hb d_Mo_drops_25 (by decide) ?_
    refine lv_icmp_eq (tgt := 31) hx hb d_Mo_drops_26 (by decide) (fun h_11 => ?_) (fun h_11 => ?_)
    · have hd := ite_t hd h_11
      refine lv_iconst (v := (-1)) hx hb d_Mo_drops_31 (by decide) ?_
      refine lv_istore_n (lv' := [(3, .int (-1)), (2, .int v_9), (0, .ref (a 0)), (1, .int x1)]) hx hb d_Mo_drops_32 rfl hl (by decide) rfl (fun ls hl => ?_)
      refine lv_iconst (v := 0) hx hb d_Mo_drops_33 (by decide) ?_
      refine lv_istore (lv' := [(4, .int 0), (3, .int (-1)), (2, .int v_9), (0, .ref (a 0)), (1, .int x1)]) hx hb d_Mo_drops_34 hl (by decide) rfl (fun ls hl => ?_)
      have lp36 : ∀ (x1_f36 : Int32) (n : Nat) (x3_36 : Int32) (x4_36 : Int32) (H : Heap) (locs : List Loc) (ls : Array Slot), va_P D classes (ws_Mo g a z) H → va_D A (ws_Mo g a z) → va_S A s.heap H locs → lv_has ls 5 [(0, .ref (a 0)), (1, .int x1_f36), (3, .int x3_36), (4, .int x4_36)] → d_Mo_drops_L36 x1_f36 z n x3_36 x4_36 = some v → GI p l e s m ({ frames := 1, cells := 0, slots := 0, locals := 28 } : Room) ([.ref (a 0), .int x1] : List Value).toArray below meth c A D g (ws_Mo g a z) (v) H locs (F0 m 36 ls []) := by
        intro x1_f36 n
        induction n with
        | zero =>
          intro  x3_36 x4_36 H locs ls hP hD hS hl hd
          have hd : none = some v := hd
          cases hd
        | succ n ih36 =>
          intro  x3_36 x4_36 H locs ls hP hD hS hl hd
          have hd : B_Mo_drops_L36 x1_f36 z (d_Mo_drops_L36 x1_f36 z n) x3_36 x4_36 = some v := hd
          generalize d_Mo_drops_L36 x1_f36 z n = self36 at ih36 hd
          unfold B_Mo_drops_L36 at hd
          refine lv_iload hx hb d_Mo_drops_36 (lv_at hl 3 rfl) ?_
          refine lv_aload_n hx hb d_Mo_drops_38 rfl (lv_at hl 0 rfl) ?_
          refine va_get (D := D) (ci := 1) (v := .ref (a 1)) (C := R_Mo) (T := F_Mo) (N := 26) hx hb hg i_Mo hown hK hP 0 rfl rfl 1 (by decide) (hg _ g_993) (fun _ h9 => h9) rfl d_Mo_drops_39 ?_
          refine lv_iconst (v := 1) hx hb d_Mo_drops_42 (by decide) ?_
          refine ialdK hx hb hK hP 1 0 rfl rfl (inb_t (by decide +kernel)) (k := 1) (by decide +kernel) d_Mo_drops_43 ?_
          refine lv_icmp_ge (tgt := 90) hx hb d_Mo_drops_44 (by decide) (fun h_12 => ?_) (fun h_12 => ?_)
          · have hd := ite_t hd h_12
            refine lv_iload_n hx hb d_Mo_drops_90 rfl (lv_at hl 2 rfl) ?_
            obtain rfl := Option.some.inj hd
            exact retI hx hb hr hlk hK hP hD hS d_Mo_drops_91 rfl
          · have hd := ite_f hd h_12
            refine lv_aload_n hx hb d_Mo_drops_47 rfl (lv_at hl 0 rfl) ?_
            refine va_get (D := D) (ci := 1) (v := .ref (a 1)) (C := R_Mo) (T := F_Mo) (N := 26) hx hb hg i_Mo hown hK hP 0 rfl rfl 1 (by decide) (hg _ g_993) (fun _ h9 => h9) rfl d_Mo_drops_48 ?_
            refine lv_bipush (v := 65) hx hb d_Mo_drops_51 (by decide) ?_
            refine lv_iload hx hb d_Mo_drops_53 (lv_at hl 3 rfl) ?_
            refine lv_iadd hx hb d_Mo_drops_55 ?_
            obtain ⟨h_18, hd⟩ := ite_s hd
            refine ialdK hx hb hK hP 1 0 rfl rfl (inb_t h_18) rfl d_Mo_drops_56 ?_
            refine lv_iload_n hx hb d_Mo_drops_57 rfl (lv_at hl 1 rfl) ?_
            refine lv_icmp_ne (tgt := 82) hx hb d_Mo_drops_58 (by decide) (fun h_13 => ?_) (fun h_13 => ?_)
            · have hd := ite_f hd h_13
              refine lv_iload_n hx hb d_Mo_drops_82 rfl (lv_at hl 2 rfl) ?_
              refine lv_istore_n (lv' := [(3, .int x3_36), (0, .ref (a 0)), (1, .int x1_f36), (4, .int x4_36)]) hx hb d_Mo_drops_83 rfl hl (by decide) rfl (fun ls hl => ?_)
              refine lv_iinc (v := x4_36 + 1) (lv' := [(4, .int (x4_36 + 1)), (3, .int x3_36), (0, .ref (a 0)), (1, .int x1_f36)]) hx hb d_Mo_drops_84 hl (k := 3) rfl (by rfl) (by decide) rfl (fun ls hl => ?_)
              refine lv_goto (tgt := 36) hx hb d_Mo_drops_87 (by decide) ?_
              exact ih36 x3_36 (x4_36 + 1) _ _ _ hP hD hS (lv_sub hl [2, 3, 1, 0] rfl) hd
            · have hd := ite_t hd h_13
              refine lv_iload_n hx hb d_Mo_drops_61 rfl (lv_at hl 2 rfl) ?_
              refine lv_iconst (v := (-1)) hx hb d_Mo_drops_62 (by decide) ?_
              refine lv_icmp_eq (tgt := 77) hx hb d_Mo_drops_63 (by decide) (fun h_14 => ?_) (fun h_14 => ?_)
              · have hd := ite_t hd h_14
                refine lv_iload hx hb d_Mo_drops_77 (lv_at hl 3 rfl) ?_
                refine lv_goto (tgt := 83) hx hb d_Mo_drops_79 (by decide) ?_
                refine lv_istore_n (lv' := [(3, .int x4_36), (0, .ref (a 0)), (1, .int x1_f36), (4, .int x4_36)]) hx hb d_Mo_drops_83 rfl hl (by decide) rfl (fun ls hl => ?_)
                refine lv_iinc (v := x4_36 + 1) (lv' := [(4, .int (x4_36 + 1)), (3, .int x4_36), (0, .ref (a 0)), (1, .int x1_f36)]) hx hb d_Mo_drops_84 hl (k := 3) rfl (by rfl) (by decide) rfl (fun ls hl => ?_)
                refine lv_goto (tgt := 36) hx hb d_Mo_drops_87 (by decide) ?_
                exact ih36 x4_36 (x4_36 + 1) _ _ _ hP hD hS (lv_sub hl [2, 3, 1, 0] rfl) hd
              · have hd := ite_f hd h_14
                refine lv_aload_n hx hb d_Mo_drops_66 rfl (lv_at hl 0 rfl) ?_
                refine lv_iload_n hx hb d_Mo_drops_67 rfl (lv_at hl 1 rfl) ?_
                refine lv_iload hx hb d_Mo_drops_68 (lv_at hl 3 rfl) ?_
                refine lv_iload_n hx hb d_Mo_drops_70 rfl (lv_at hl 2 rfl) ?_
                obtain ⟨v_15, e_16, hd⟩ := bind_s hd
                refine callVI (ws' := ws_Mo g a z) (rest := []) (As := [.int x1_f36, .int x4_36, .int x3_36]) hx hb hml hown hg hK hP hD hS hA hCs hl.1 (c_Mo_isAhead l D g a x1_f36 x4_36 x3_36 z _ e_16) o_Mo_isAhead g_1234 (ci := 1) (q0 := 0) rfl rfl (List.range' 0 12) (segC1 rfl rfl) (by decide) rfl (segP1 rfl rfl) rfl rfl (Nat.le_of_ble_eq_true rfl) ⟨rfl, rfl, Nat.le_of_ble_eq_true rfl, Nat.le_of_ble_eq_true rfl⟩ d_Mo_drops_71 (fun H locs hP hD hS => ?_)
                refine lv_if_eq (tgt := 82) hx hb d_Mo_drops_74 (by decide) (fun h_17 => ?_) (fun h_17 => ?_)
                · have hd := ite_t hd h_17
                  refine lv_iload_n hx hb d_Mo_drops_82 rfl (lv_at hl 2 rfl) ?_
                  refine lv_istore_n (lv' := [(3, .int x3_36), (0, .ref (a 0)), (1, .int x1_f36), (4, .int x4_36)]) hx hb d_Mo_drops_83 rfl hl (by decide) rfl (fun ls hl => ?_)
                  refine lv_iinc (v := x4_36 + 1) (lv' := [(4, .int (x4_36 + 1)), (3, .int x3_36), (0, .ref (a 0)), (1, .int x1_f36)]) hx hb d_Mo_drops_84 hl (k := 3) rfl (by rfl) (by decide) rfl (fun ls hl => ?_)
                  refine lv_goto (tgt := 36) hx hb d_Mo_drops_87 (by decide) ?_
                  exact ih36 x3_36 (x4_36 + 1) _ _ _ hP hD hS (lv_sub hl [2, 3, 1, 0] rfl) hd
                · have hd := ite_f hd h_17
                  refine lv_iload hx hb d_Mo_drops_77 (lv_at hl 3 rfl) ?_
                  refine lv_goto (tgt := 83) hx hb d_Mo_drops_79 (by decide) ?_
                  refine lv_istore_n (lv' := [(3, .int x4_36), (0, .ref (a 0)), (1, .int x1_f36), (4, .int x4_36)]) hx hb d_Mo_drops_83 rfl hl (by decide) rfl (fun ls hl => ?_)
                  refine lv_iinc (v := x4_36 + 1) (lv' := [(4, .int (x4_36 + 1)), (3, .int x4_36), (0, .ref (a 0)), (1, .int x1_f36)]) hx hb d_Mo_drops_84 hl (k := 3) rfl (by rfl) (by decide) rfl (fun ls hl => ?_)
                  refine lv_goto (tgt := 36) hx hb d_Mo_drops_87 (by decide) ?_
                  exact ih36 x4_36 (x4_36 + 1) _ _ _ hP hD hS (lv_sub hl [2, 3, 1, 0] rfl) hd
      exact lp36 x1 1000 (-1) 0 _ _ _ hP hD hS (lv_sub hl [3, 4, 1, 0] rfl) hd
    · have hd := ite_f hd h_11
      refine lv_iload_n hx hb d_Mo_drops_29 rfl (lv_at hl 0 rfl) ?_
      obtain rfl := Option.some.inj hd
      exact retI hx hb hr hlk hK hP hD hS d_Mo_drops_30 rfl
-- OwnsLiftModel.becomes(II)I
def B_Mo_becomes_L28 (x1_f28 : Int32) (x2_f28 : Int32) (z : T_Mo) (self28 : Int32 → Option (Int32)) (x3_28 : Int32) : Option (Int32) :=
  if ((q_Mo_s z) 0) ≤ x3_28 then (some (4)) else (if ((q_Mo_s z) 0) = 0 then none else ((d_Mo_loadOf ((x1_f28 + x3_28) - (x1_f28 + x3_28) / ((q_Mo_s z) 0) * ((q_Mo_s z) 0)) z).bind fun v_4 => if inb (58 + x2_f28) 901 = true then (if inb ((x1_f28 + x3_28) - (x1_f28 + x3_28) / ((q_Mo_s z) 0) * ((q_Mo_s z) 0)) 4 = true then (if ((q_Mo_lifts z) ((x1_f28 + x3_28) - (x1_f28 + x3_28) / ((q_Mo_s z) 0) * ((q_Mo_s z) 0)).toNatClampNeg) < (v_4 + ((q_Mo_s z) (58 + x2_f28).toNatClampNeg)) then (self28 (x3_28 + 1)) else (some ((x1_f28 + x3_28) - (x1_f28 + x3_28) / ((q_Mo_s z) 0) * ((q_Mo_s z) 0)))) else none) else none))
def d_Mo_becomes_L28 (x1_f28 : Int32) (x2_f28 : Int32) (z : T_Mo) (n : Nat) : Int32 → Option (Int32) := recN (fun _ => none) (fun self => B_Mo_becomes_L28 x1_f28 x2_f28 z self) n
def d_Mo_becomes (x1 : Int32) (x2 : Int32) (z : T_Mo) : Option (Int32) :=
  if inb (10 + x1) 901 = true then (if ((q_Mo_s z) (10 + x1).toNatClampNeg) = 2 then (d_Mo_becomes_L28 x1 x2 z  1000 1) else (if inb (10 + x1) 901 = true then (if ((q_Mo_s z) (10 + x1).toNatClampNeg) = 5 then (d_Mo_becomes_L28 x1 x2 z  1000 1) else (some (4))) else none)) else none
theorem d_Mo_becomes_0 : decode b_Mo_becomes 0 = .ok (.aload_n 0, 1) := by decide +kernel
theorem d_Mo_becomes_1 : decode b_Mo_becomes 1 = .ok (.getfield 9, 3) := by decide +kernel
theorem d_Mo_becomes_4 : decode b_Mo_becomes 4 = .ok (.bipush 10, 2) := by decide +kernel
theorem d_Mo_becomes_6 : decode b_Mo_becomes 6 = .ok (.iload_n 1, 1) := by decide +kernel
theorem d_Mo_becomes_7 : decode b_Mo_becomes 7 = .ok (.iadd, 1) := by decide +kernel
theorem d_Mo_becomes_8 : decode b_Mo_becomes 8 = .ok (.iaload, 1) := by decide +kernel
theorem d_Mo_becomes_9 : decode b_Mo_becomes 9 = .ok (.iconst 2, 1) := by decide +kernel
theorem d_Mo_becomes_10 : decode b_Mo_becomes 10 = .ok (.if_icmp .eq 16, 3) := by decide +kernel
theorem d_Mo_becomes_13 : decode b_Mo_becomes 13 = .ok (.aload_n 0, 1) := by decide +kernel
theorem d_Mo_becomes_14 : decode b_Mo_becomes 14 = .ok (.getfield 9, 3) := by decide +kernel
theorem d_Mo_becomes_17 : decode b_Mo_becomes 17 = .ok (.bipush 10, 2) := by decide +kernel
theorem d_Mo_becomes_19 : decode b_Mo_becomes 19 = .ok (.iload_n 1, 1) := by decide +kernel
theorem d_Mo_becomes_20 : decode b_Mo_becomes 20 = .ok (.iadd, 1) := by decide +kernel
theorem d_Mo_becomes_21 : decode b_Mo_becomes 21 = .ok (.iaload, 1) := by decide +kernel
theorem d_Mo_becomes_22 : decode b_Mo_becomes 22 = .ok (.iconst 5, 1) := by decide +kernel
theorem d_Mo_becomes_23 : decode b_Mo_becomes 23 = .ok (.if_icmp .ne 62, 3) := by decide +kernel
theorem d_Mo_becomes_26 : decode b_Mo_becomes 26 = .ok (.iconst 1, 1) := by decide +kernel
theorem d_Mo_becomes_27 : decode b_Mo_becomes 27 = .ok (.istore_n 3, 1) := by decide +kernel
theorem d_Mo_becomes_28 : decode b_Mo_becomes 28 = .ok (.iload_n 3, 1) := by decide +kernel
theorem d_Mo_becomes_29 : decode b_Mo_becomes 29 = .ok (.aload_n 0, 1) := by decide +kernel
theorem d_Mo_becomes_30 : decode b_Mo_becomes 30 = .ok (.getfield 9, 3) := by decide +kernel
theorem d_Mo_becomes_33 : decode b_Mo_becomes 33 = .ok (.iconst 0, 1) := by decide +kernel
theorem d_Mo_becomes_34 : decode b_Mo_becomes 34 = .ok (.iaload, 1) := by decide +kernel
theorem d_Mo_becomes_35 : decode b_Mo_becomes 35 = .ok (.if_icmp .ge 50, 3) := by decide +kernel
theorem d_Mo_becomes_38 : decode b_Mo_becomes 38 = .ok (.iload_n 1, 1) := by decide +kernel
theorem d_Mo_becomes_39 : decode b_Mo_becomes 39 = .ok (.iload_n 3, 1) := by decide +kernel
theorem d_Mo_becomes_40 : decode b_Mo_becomes 40 = .ok (.iadd, 1) := by decide +kernel
theorem d_Mo_becomes_41 : decode b_Mo_becomes 41 = .ok (.aload_n 0, 1) := by decide +kernel
theorem d_Mo_becomes_42 : decode b_Mo_becomes 42 = .ok (.getfield 9, 3) := by decide +kernel
theorem d_Mo_becomes_45 : decode b_Mo_becomes 45 = .ok (.iconst 0, 1) := by decide +kernel
theorem d_Mo_becomes_46 : decode b_Mo_becomes 46 = .ok (.iaload, 1) := by decide +kernel
theorem d_Mo_becomes_47 : decode b_Mo_becomes 47 = .ok (.irem, 1) := by decide +kernel
theorem d_Mo_becomes_48 : decode b_Mo_becomes 48 = .ok (.istore 4, 2) := by decide +kernel
theorem d_Mo_becomes_50 : decode b_Mo_becomes 50 = .ok (.aload_n 0, 1) := by decide +kernel
theorem d_Mo_becomes_51 : decode b_Mo_becomes 51 = .ok (.iload 4, 2) := by decide +kernel
theorem d_Mo_becomes_53 : decode b_Mo_becomes 53 = .ok (.invokevirtual 151, 3) := by decide +kernel
theorem d_Mo_becomes_56 : decode b_Mo_becomes 56 = .ok (.aload_n 0, 1) := by decide +kernel
theorem d_Mo_becomes_57 : decode b_Mo_becomes 57 = .ok (.getfield 9, 3) := by decide +kernel
theorem d_Mo_becomes_60 : decode b_Mo_becomes 60 = .ok (.bipush 58, 2) := by decide +kernel
theorem d_Mo_becomes_62 : decode b_Mo_becomes 62 = .ok (.iload_n 2, 1) := by decide +kernel
theorem d_Mo_becomes_63 : decode b_Mo_becomes 63 = .ok (.iadd, 1) := by decide +kernel
theorem d_Mo_becomes_64 : decode b_Mo_becomes 64 = .ok (.iaload, 1) := by decide +kernel
theorem d_Mo_becomes_65 : decode b_Mo_becomes 65 = .ok (.iadd, 1) := by decide +kernel
theorem d_Mo_becomes_66 : decode b_Mo_becomes 66 = .ok (.aload_n 0, 1) := by decide +kernel
theorem d_Mo_becomes_67 : decode b_Mo_becomes 67 = .ok (.getfield 31, 3) := by decide +kernel
theorem d_Mo_becomes_70 : decode b_Mo_becomes 70 = .ok (.iload 4, 2) := by decide +kernel
theorem d_Mo_becomes_72 : decode b_Mo_becomes 72 = .ok (.iaload, 1) := by decide +kernel
theorem d_Mo_becomes_73 : decode b_Mo_becomes 73 = .ok (.if_icmp .gt 6, 3) := by decide +kernel
theorem d_Mo_becomes_76 : decode b_Mo_becomes 76 = .ok (.iload 4, 2) := by decide +kernel
theorem d_Mo_becomes_78 : decode b_Mo_becomes 78 = .ok (.ireturn, 1) := by decide +kernel
theorem d_Mo_becomes_79 : decode b_Mo_becomes 79 = .ok (.iinc 3 1, 3) := by decide +kernel
theorem d_Mo_becomes_82 : decode b_Mo_becomes 82 = .ok (.goto (-54), 3) := by decide +kernel
theorem d_Mo_becomes_85 : decode b_Mo_becomes 85 = .ok (.iconst 4, 1) := by decide +kernel
theorem d_Mo_becomes_86 : decode b_Mo_becomes 86 = .ok (.ireturn, 1) := by decide +kernel
theorem o_Mo_becomes : OkV y_Mo_becomes "OwnsLiftModel" b_Mo_becomes 5 (some .int) 2 := ⟨⟨rfl, by decide +kernel, by decide +kernel, by decide +kernel⟩, g_1240, g_52, g_81, g_1241⟩
set_option maxHeartbeats 4000000 in
set_option maxRecDepth 100000 in
theorem c_Mo_becomes (l : Launch) (D : va_G) (g : Nat → ClassId) (a : Nat → Nat) (x1 : Int32) (x2 : Int32) (z : T_Mo) (v : Int32) (h : d_Mo_becomes x1 x2 z = some v) :
    MI l y_Mo_becomes b_Mo_becomes 5 .int ({ frames := 1, cells := 0, slots := 0, locals := 23 } : Room) D g [.ref (a 0), .int x1, .int x2] (ws_Mo g a z) (v) (ws_Mo g a z) := by
  have hd := h
  unfold d_Mo_becomes at hd
  refine enterI rfl (Nat.le_of_ble_eq_true rfl) (fun p e s m below meth c A ls hx hb hml hr hown hg hlk hK hA hP hD hS hCs hl => ?_)
  have hown : s.vm.findClass "OwnsLiftModel" = some m.cls := hown
  have hl : lv_has ls 5 [(0, .ref (a 0)), (1, .int x1), (2, .int x2)] := hl
  show GI p l e s m ({ frames := 1, cells := 0, slots := 0, locals := 23 } : Room) ([.ref (a 0), .int x1, .int x2] : List Value).toArray below meth c A D g (ws_Mo g a z) (v) s.heap [] (F0 m 0 ls [])
  refine lv_aload_n hx hb d_Mo_becomes_0 rfl (lv_at hl 0 rfl) ?_
  refine va_get (D := D) (ci := 1) (v := .ref (a 1)) (C := R_Mo) (T := F_Mo) (N := 26) hx hb hg i_Mo hown hK hP 0 rfl rfl 1 (by decide) (hg _ g_993) (fun _ h9 => h9) rfl d_Mo_becomes_1 ?_
  refine lv_bipush (v := 10) hx hb d_Mo_becomes_4 (by decide) ?_
  refine lv_iload_n hx hb d_Mo_becomes_6 rfl (lv_at hl 1 rfl) ?_
  refine lv_iadd hx hb d_Mo_becomes_7 ?_
  obtain ⟨h_18, hd⟩ := ite_s hd
  refine ialdK hx hb hK hP 1 0 rfl rfl (inb_t h_18) rfl d_Mo_becomes_8 ?_
  refine lv_iconst (v := 2) hx hb d_Mo_becomes_9 (by decide) ?_
  refine lv_icmp_eq (tgt := 26) hx hb d_Mo_becomes_10 (by decide) (fun h_1 => ?_) (fun h_1 => ?_)
  · have hd := ite_t hd h_1
    refine lv_iconst (v := 1) hx hb d_Mo_becomes_26 (by decide) ?_
    refine lv_istore_n (lv' := [(3, .int 1), (0, .ref (a 0)), (1, .int x1), (2, .int x2)]) hx hb d_Mo_becomes_27 rfl hl (by decide) rfl (fun ls hl => ?_)
    have lp28 : ∀ (x1_f28 : Int32) (x2_f28 : Int32) (n : Nat) (x3_28 : Int32) (H : Heap) (locs : List Loc) (ls : Array Slot), va_P D classes (ws_Mo g a z) H → va_D A (ws_Mo g a z) → va_S A s.heap H locs → lv_has ls 5 [(0, .ref (a 0)), (1, .int x1_f28), (2, .int x2_f28), (3, .int x3_28)] → d_Mo_becomes_L28 x1_f28 x2_f28 z n x3_28 = some v → GI p l e s m ({ frames := 1, cells := 0, slots := 0, locals := 23 } : Room) ([.ref (a 0), .int x1, .int x2] : List Value).toArray below meth c A D g (ws_Mo g a z) (v) H locs (F0 m 28 ls []) := by
      intro x1_f28 x2_f28 n
      induction n with
      | zero =>
        intro  x3_28 H locs ls hP hD hS hl hd
        have hd : none = some v := hd
        cases hd
      | succ n ih28 =>
        intro  x3_28 H locs ls hP hD hS hl hd
        have hd : B_Mo_becomes_L28 x1_f28 x2_f28 z (d_Mo_becomes_L28 x1_f28 x2_f28 z n) x3_28 = some v := hd
        generalize d_Mo_becomes_L28 x1_f28 x2_f28 z n = self28 at ih28 hd
        unfold B_Mo_becomes_L28 at hd
        refine lv_iload_n hx hb d_Mo_becomes_28 rfl (lv_at hl 3 rfl) ?_
        refine lv_aload_n hx hb d_Mo_becomes_29 rfl (lv_at hl 0 rfl) ?_
        refine va_get (D := D) (ci := 1) (v := .ref (a 1)) (C := R_Mo) (T := F_Mo) (N := 26) hx hb hg i_Mo hown hK hP 0 rfl rfl 1 (by decide) (hg _ g_993) (fun _ h9 => h9) rfl d_Mo_becomes_30 ?_
        refine lv_iconst (v := 0) hx hb d_Mo_becomes_33 (by decide) ?_
        refine ialdK hx hb hK hP 1 0 rfl rfl (inb_t (by decide +kernel)) (k := 0) (by decide +kernel) d_Mo_becomes_34 ?_
        refine lv_icmp_ge (tgt := 85) hx hb d_Mo_becomes_35 (by decide) (fun h_2 => ?_) (fun h_2 => ?_)
        · have hd := ite_t hd h_2
          refine lv_iconst (v := 4) hx hb d_Mo_becomes_85 (by decide) ?_
          obtain rfl := Option.some.inj hd
          exact retI hx hb hr hlk hK hP hD hS d_Mo_becomes_86 rfl
        · have hd := ite_f hd h_2
          refine lv_iload_n hx hb d_Mo_becomes_38 rfl (lv_at hl 1 rfl) ?_
          refine lv_iload_n hx hb d_Mo_becomes_39 rfl (lv_at hl 3 rfl) ?_
          refine lv_iadd hx hb d_Mo_becomes_40 ?_
          refine lv_aload_n hx hb d_Mo_becomes_41 rfl (lv_at hl 0 rfl) ?_
          refine va_get (D := D) (ci := 1) (v := .ref (a 1)) (C := R_Mo) (T := F_Mo) (N := 26) hx hb hg i_Mo hown hK hP 0 rfl rfl 1 (by decide) (hg _ g_993) (fun _ h9 => h9) rfl d_Mo_becomes_42 ?_
          refine lv_iconst (v := 0) hx hb d_Mo_becomes_45 (by decide) ?_
          refine ialdK hx hb hK hP 1 0 rfl rfl (inb_t (by decide +kernel)) (k := 0) (by decide +kernel) d_Mo_becomes_46 ?_
          obtain ⟨h_3, hd⟩ := ite_n hd
          refine lv_irem hx hb d_Mo_becomes_47 h_3 ?_
          refine lv_istore (lv' := [(4, .int ((x1_f28 + x3_28) - (x1_f28 + x3_28) / ((q_Mo_s z) 0) * ((q_Mo_s z) 0))), (0, .ref (a 0)), (1, .int x1_f28), (2, .int x2_f28), (3, .int x3_28)]) hx hb d_Mo_becomes_48 hl (by decide) rfl (fun ls hl => ?_)
          refine lv_aload_n hx hb d_Mo_becomes_50 rfl (lv_at hl 1 rfl) ?_
          refine lv_iload hx hb d_Mo_becomes_51 (lv_at hl 0 rfl) ?_
          obtain ⟨v_4, e_5, hd⟩ := bind_s hd
          refine callVI (ws' := ws_Mo g a z) (rest := []) (As := [.int ((x1_f28 + x3_28) - (x1_f28 + x3_28) / ((q_Mo_s z) 0) * ((q_Mo_s z) 0))]) hx hb hml hown hg hK hP hD hS hA hCs hl.1 (c_Mo_loadOf l D g a ((x1_f28 + x3_28) - (x1_f28 + x3_28) / ((q_Mo_s z) 0) * ((q_Mo_s z) 0)) z _ e_5) o_Mo_loadOf g_1163 (ci := 1) (q0 := 0) rfl rfl (List.range' 0 12) (segC1 rfl rfl) (by decide) rfl (segP1 rfl rfl) rfl rfl (Nat.le_of_ble_eq_true rfl) ⟨rfl, rfl, Nat.le_of_ble_eq_true rfl, Nat.le_of_ble_eq_true rfl⟩ d_Mo_becomes_53 (fun H locs hP hD hS => ?_)
          refine lv_aload_n hx hb d_Mo_becomes_56 rfl (lv_at hl 1 rfl) ?_
          refine va_get (D := D) (ci := 1) (v := .ref (a 1)) (C := R_Mo) (T := F_Mo) (N := 26) hx hb hg i_Mo hown hK hP 0 rfl rfl 1 (by decide) (hg _ g_993) (fun _ h9 => h9) rfl d_Mo_becomes_57 ?_
          refine lv_bipush (v := 58) hx hb d_Mo_becomes_60 (by decide) ?_
          refine lv_iload_n hx hb d_Mo_becomes_62 rfl (lv_at hl 3 rfl) ?_
          refine lv_iadd hx hb d_Mo_becomes_63 ?_
          obtain ⟨h_8, hd⟩ := ite_s hd
          refine ialdK hx hb hK hP 1 0 rfl rfl (inb_t h_8) rfl d_Mo_becomes_64 ?_
          refine lv_iadd hx hb d_Mo_becomes_65 ?_
          refine lv_aload_n hx hb d_Mo_becomes_66 rfl (lv_at hl 1 rfl) ?_
          refine va_get (D := D) (ci := 1) (v := .ref (a 7)) (C := R_Mo) (T := F_Mo) (N := 26) hx hb hg i_Mo hown hK hP 0 rfl rfl 13 (by decide) (hg _ g_1005) (fun _ h9 => h9) rfl d_Mo_becomes_67 ?_
          refine lv_iload hx hb d_Mo_becomes_70 (lv_at hl 0 rfl) ?_
          obtain ⟨h_7, hd⟩ := ite_s hd
          refine ialdK hx hb hK hP 7 0 rfl rfl (inb_t h_7) rfl d_Mo_becomes_72 ?_
          refine lv_icmp_gt (tgt := 79) hx hb d_Mo_becomes_73 (by decide) (fun h_6 => ?_) (fun h_6 => ?_)
          · have hd := ite_t hd h_6
            refine lv_iinc (v := x3_28 + 1) (lv' := [(3, .int (x3_28 + 1)), (4, .int ((x1_f28 + x3_28) - (x1_f28 + x3_28) / ((q_Mo_s z) 0) * ((q_Mo_s z) 0))), (0, .ref (a 0)), (1, .int x1_f28), (2, .int x2_f28)]) hx hb d_Mo_becomes_79 hl (k := 4) rfl (by rfl) (by decide) rfl (fun ls hl => ?_)
            refine lv_goto (tgt := 28) hx hb d_Mo_becomes_82 (by decide) ?_
            exact ih28 (x3_28 + 1) _ _ _ hP hD hS (lv_sub hl [2, 3, 4, 0] rfl) hd
          · have hd := ite_f hd h_6
            refine lv_iload hx hb d_Mo_becomes_76 (lv_at hl 0 rfl) ?_
            obtain rfl := Option.some.inj hd
            exact retI hx hb hr hlk hK hP hD hS d_Mo_becomes_78 rfl
    exact lp28 x1 x2 1000 1 _ _ _ hP hD hS (lv_sub hl [1, 2, 3, 0] rfl) hd
  · have hd := ite_f hd h_1
    refine lv_aload_n hx hb d_Mo_becomes_13 rfl (lv_at hl 0 rfl) ?_
    refine va_get (D := D) (ci := 1) (v := .ref (a 1)) (C := R_Mo) (T := F_Mo) (N := 26) hx hb hg i_Mo hown hK hP 0 rfl rfl 1 (by decide) (hg _ g_993) (fun _ h9 => h9) rfl d_Mo_becomes_14 ?_
    refine lv_bipush (v := 10) hx hb d_Mo_becomes_17 (by decide) ?_
    refine lv_iload_n hx hb d_Mo_becomes_19 rfl (lv_at hl 1 rfl) ?_
    refine lv_iadd hx hb d_Mo_becomes_20 ?_
    obtain ⟨h_17, hd⟩ := ite_s hd
    refine ialdK hx hb hK hP 1 0 rfl rfl (inb_t h_17) rfl d_Mo_becomes_21 ?_
    refine lv_iconst (v := 5) hx hb d_Mo_becomes_22 (by decide) ?_
    refine lv_icmp_ne (tgt := 85) hx hb d_Mo_becomes_23 (by decide) (fun h_9 => ?_) (fun h_9 => ?_)
    · have hd := ite_f hd h_9
      refine lv_iconst (v := 4) hx hb d_Mo_becomes_85 (by decide) ?_
      obtain rfl := Option.some.inj hd
      exact retI hx hb hr hlk hK hP hD hS d_Mo_becomes_86 rfl
    · have hd := ite_t hd h_9
      refine lv_iconst (v := 1) hx hb d_Mo_becomes_26 (by decide) ?_
      refine lv_istore_n (lv' := [(3, .int 1), (0, .ref (a 0)), (1, .int x1), (2, .int x2)]) hx hb d_Mo_becomes_27 rfl hl (by decide) rfl (fun ls hl => ?_)
      have lp28 : ∀ (x1_f28 : Int32) (x2_f28 : Int32) (n : Nat) (x3_28 : Int32) (H : Heap) (locs : List Loc) (ls : Array Slot), va_P D classes (ws_Mo g a z) H → va_D A (ws_Mo g a z) → va_S A s.heap H locs → lv_has ls 5 [(0, .ref (a 0)), (1, .int x1_f28), (2, .int x2_f28), (3, .int x3_28)] → d_Mo_becomes_L28 x1_f28 x2_f28 z n x3_28 = some v → GI p l e s m ({ frames := 1, cells := 0, slots := 0, locals := 23 } : Room) ([.ref (a 0), .int x1, .int x2] : List Value).toArray below meth c A D g (ws_Mo g a z) (v) H locs (F0 m 28 ls []) := by
        intro x1_f28 x2_f28 n
        induction n with
        | zero =>
          intro  x3_28 H locs ls hP hD hS hl hd
          have hd : none = some v := hd
          cases hd
        | succ n ih28 =>
          intro  x3_28 H locs ls hP hD hS hl hd
          have hd : B_Mo_becomes_L28 x1_f28 x2_f28 z (d_Mo_becomes_L28 x1_f28 x2_f28 z n) x3_28 = some v := hd
          generalize d_Mo_becomes_L28 x1_f28 x2_f28 z n = self28 at ih28 hd
          unfold B_Mo_becomes_L28 at hd
          refine lv_iload_n hx hb d_Mo_becomes_28 rfl (lv_at hl 3 rfl) ?_
          refine lv_aload_n hx hb d_Mo_becomes_29 rfl (lv_at hl 0 rfl) ?_
          refine va_get (D := D) (ci := 1) (v := .ref (a 1)) (C := R_Mo) (T := F_Mo) (N := 26) hx hb hg i_Mo hown hK hP 0 rfl rfl 1 (by decide) (hg _ g_993) (fun _ h9 => h9) rfl d_Mo_becomes_30 ?_
          refine lv_iconst (v := 0) hx hb d_Mo_becomes_33 (by decide) ?_
          refine ialdK hx hb hK hP 1 0 rfl rfl (inb_t (by decide +kernel)) (k := 0) (by decide +kernel) d_Mo_becomes_34 ?_
          refine lv_icmp_ge (tgt := 85) hx hb d_Mo_becomes_35 (by decide) (fun h_10 => ?_) (fun h_10 => ?_)
          · have hd := ite_t hd h_10
            refine lv_iconst (v := 4) hx hb d_Mo_becomes_85 (by decide) ?_
            obtain rfl := Option.some.inj hd
            exact retI hx hb hr hlk hK hP hD hS d_Mo_becomes_86 rfl
          · have hd := ite_f hd h_10
            refine lv_iload_n hx hb d_Mo_becomes_38 rfl (lv_at hl 1 rfl) ?_
            refine lv_iload_n hx hb d_Mo_becomes_39 rfl (lv_at hl 3 rfl) ?_
            refine lv_iadd hx hb d_Mo_becomes_40 ?_
            refine lv_aload_n hx hb d_Mo_becomes_41 rfl (lv_at hl 0 rfl) ?_
            refine va_get (D := D) (ci := 1) (v := .ref (a 1)) (C := R_Mo) (T := F_Mo) (N := 26) hx hb hg i_Mo hown hK hP 0 rfl rfl 1 (by decide) (hg _ g_993) (fun _ h9 => h9) rfl d_Mo_becomes_42 ?_
            refine lv_iconst (v := 0) hx hb d_Mo_becomes_45 (by decide) ?_
            refine ialdK hx hb hK hP 1 0 rfl rfl (inb_t (by decide +kernel)) (k := 0) (by decide +kernel) d_Mo_becomes_46 ?_
            obtain ⟨h_11, hd⟩ := ite_n hd
            refine lv_irem hx hb d_Mo_becomes_47 h_11 ?_
            refine lv_istore (lv' := [(4, .int ((x1_f28 + x3_28) - (x1_f28 + x3_28) / ((q_Mo_s z) 0) * ((q_Mo_s z) 0))), (0, .ref (a 0)), (1, .int x1_f28), (2, .int x2_f28), (3, .int x3_28)]) hx hb d_Mo_becomes_48 hl (by decide) rfl (fun ls hl => ?_)
            refine lv_aload_n hx hb d_Mo_becomes_50 rfl (lv_at hl 1 rfl) ?_
            refine lv_iload hx hb d_Mo_becomes_51 (lv_at hl 0 rfl) ?_
            obtain ⟨v_12, e_13, hd⟩ := bind_s hd
            refine callVI (ws' := ws_Mo g a z) (rest := []) (As := [.int ((x1_f28 + x3_28) - (x1_f28 + x3_28) / ((q_Mo_s z) 0) * ((q_Mo_s z) 0))]) hx hb hml hown hg hK hP hD hS hA hCs hl.1 (c_Mo_loadOf l D g a ((x1_f28 + x3_28) - (x1_f28 + x3_28) / ((q_Mo_s z) 0) * ((q_Mo_s z) 0)) z _ e_13) o_Mo_loadOf g_1163 (ci := 1) (q0 := 0) rfl rfl (List.range' 0 12) (segC1 rfl rfl) (by decide) rfl (segP1 rfl rfl) rfl rfl (Nat.le_of_ble_eq_true rfl) ⟨rfl, rfl, Nat.le_of_ble_eq_true rfl, Nat.le_of_ble_eq_true rfl⟩ d_Mo_becomes_53 (fun H locs hP hD hS => ?_)
            refine lv_aload_n hx hb d_Mo_becomes_56 rfl (lv_at hl 1 rfl) ?_
            refine va_get (D := D) (ci := 1) (v := .ref (a 1)) (C := R_Mo) (T := F_Mo) (N := 26) hx hb hg i_Mo hown hK hP 0 rfl rfl 1 (by decide) (hg _ g_993) (fun _ h9 => h9) rfl d_Mo_becomes_57 ?_
            refine lv_bipush (v := 58) hx hb d_Mo_becomes_60 (by decide) ?_
            refine lv_iload_n hx hb d_Mo_becomes_62 rfl (lv_at hl 3 rfl) ?_
            refine lv_iadd hx hb d_Mo_becomes_63 ?_
            obtain ⟨h_16, hd⟩ := ite_s hd
            refine ialdK hx hb hK hP 1 0 rfl rfl (inb_t h_16) rfl d_Mo_becomes_64 ?_
            refine lv_iadd hx hb d_Mo_becomes_65 ?_
            refine lv_aload_n hx hb d_Mo_becomes_66 rfl (lv_at hl 1 rfl) ?_
            refine va_get (D := D) (ci := 1) (v := .ref (a 7)) (C := R_Mo) (T := F_Mo) (N := 26) hx hb hg i_Mo hown hK hP 0 rfl rfl 13 (by decide) (hg _ g_1005) (fun _ h9 => h9) rfl d_Mo_becomes_67 ?_
            refine lv_iload hx hb d_Mo_becomes_70 (lv_at hl 0 rfl) ?_
            obtain ⟨h_15, hd⟩ := ite_s hd
            refine ialdK hx hb hK hP 7 0 rfl rfl (inb_t h_15) rfl d_Mo_becomes_72 ?_
            refine lv_icmp_gt (tgt := 79) hx hb d_Mo_becomes_73 (by decide) (fun h_14 => ?_) (fun h_14 => ?_)
            · have hd := ite_t hd h_14
              refine lv_iinc (v := x3_28 + 1) (lv' := [(3, .int (x3_28 + 1)), (4, .int ((x1_f28 + x3_28) - (x1_f28 + x3_28) / ((q_Mo_s z) 0) * ((q_Mo_s z) 0))), (0, .ref (a 0)), (1, .int x1_f28), (2, .int x2_f28)]) hx hb d_Mo_becomes_79 hl (k := 4) rfl (by rfl) (by decide) rfl (fun ls hl => ?_)
              refine lv_goto (tgt := 28) hx hb d_Mo_becomes_82 (by decide) ?_
              exact ih28 (x3_28 + 1) _ _ _ hP hD hS (lv_sub hl [2, 3, 4, 0] rfl) hd
            · have hd := ite_f hd h_14
              refine lv_iload hx hb d_Mo_becomes_76 (lv_at hl 0 rfl) ?_
              obtain rfl := Option.some.inj hd
              exact retI hx hb hr hlk hK hP hD hS d_Mo_becomes_78 rfl
      exact lp28 x1 x2 1000 1 _ _ _ hP hD hS (lv_sub hl [1, 2, 3, 0] rfl) hd
-- OwnsLiftModel.benches(I)I
def B_Mo_benches_L2 (x1_f2 : Int32) (self2 : Int32 → T_Mo → Option (Int32 × T_Mo)) (x2_2 : Int32) (z_2 : T_Mo) : Option (Int32 × T_Mo) :=
  (d_Mo_loadOf x1_f2 z_2).bind fun v_1 => if inb x1_f2 4 = true then (if v_1 ≤ ((q_Mo_lifts z_2) x1_f2.toNatClampNeg) then (some (x2_2, z_2)) else ((d_Mo_drops x1_f2 z_2).bind fun v_4 => (d_Mo_becomes x1_f2 v_4 z_2).bind fun v_6 => if inb (65 + v_4) 901 = true then (self2 (x2_2 + 1) (u_Mo_s z_2 (upd (q_Mo_s z_2) (65 + v_4).toNatClampNeg v_6))) else none)) else none
def d_Mo_benches_L2 (x1_f2 : Int32) (n : Nat) : Int32 → T_Mo → Option (Int32 × T_Mo) := recN (fun _ _ => none) (fun self => B_Mo_benches_L2 x1_f2 self) n
def d_Mo_benches (x1 : Int32) (z : T_Mo) : Option (Int32 × T_Mo) :=
  d_Mo_benches_L2 x1  1000 0 z
theorem d_Mo_benches_0 : decode b_Mo_benches 0 = .ok (.iconst 0, 1) := by decide +kernel
theorem d_Mo_benches_1 : decode b_Mo_benches 1 = .ok (.istore_n 2, 1) := by decide +kernel
theorem d_Mo_benches_2 : decode b_Mo_benches 2 = .ok (.aload_n 0, 1) := by decide +kernel
theorem d_Mo_benches_3 : decode b_Mo_benches 3 = .ok (.iload_n 1, 1) := by decide +kernel
theorem d_Mo_benches_4 : decode b_Mo_benches 4 = .ok (.invokevirtual 151, 3) := by decide +kernel
theorem d_Mo_benches_7 : decode b_Mo_benches 7 = .ok (.aload_n 0, 1) := by decide +kernel
theorem d_Mo_benches_8 : decode b_Mo_benches 8 = .ok (.getfield 31, 3) := by decide +kernel
theorem d_Mo_benches_11 : decode b_Mo_benches 11 = .ok (.iload_n 1, 1) := by decide +kernel
theorem d_Mo_benches_12 : decode b_Mo_benches 12 = .ok (.iaload, 1) := by decide +kernel
theorem d_Mo_benches_13 : decode b_Mo_benches 13 = .ok (.if_icmp .le 30, 3) := by decide +kernel
theorem d_Mo_benches_16 : decode b_Mo_benches 16 = .ok (.aload_n 0, 1) := by decide +kernel
theorem d_Mo_benches_17 : decode b_Mo_benches 17 = .ok (.iload_n 1, 1) := by decide +kernel
theorem d_Mo_benches_18 : decode b_Mo_benches 18 = .ok (.invokevirtual 172, 3) := by decide +kernel
theorem d_Mo_benches_21 : decode b_Mo_benches 21 = .ok (.istore_n 3, 1) := by decide +kernel
theorem d_Mo_benches_22 : decode b_Mo_benches 22 = .ok (.aload_n 0, 1) := by decide +kernel
theorem d_Mo_benches_23 : decode b_Mo_benches 23 = .ok (.getfield 9, 3) := by decide +kernel
theorem d_Mo_benches_26 : decode b_Mo_benches 26 = .ok (.bipush 65, 2) := by decide +kernel
theorem d_Mo_benches_28 : decode b_Mo_benches 28 = .ok (.iload_n 3, 1) := by decide +kernel
theorem d_Mo_benches_29 : decode b_Mo_benches 29 = .ok (.iadd, 1) := by decide +kernel
theorem d_Mo_benches_30 : decode b_Mo_benches 30 = .ok (.aload_n 0, 1) := by decide +kernel
theorem d_Mo_benches_31 : decode b_Mo_benches 31 = .ok (.iload_n 1, 1) := by decide +kernel
theorem d_Mo_benches_32 : decode b_Mo_benches 32 = .ok (.iload_n 3, 1) := by decide +kernel
theorem d_Mo_benches_33 : decode b_Mo_benches 33 = .ok (.invokevirtual 175, 3) := by decide +kernel
theorem d_Mo_benches_36 : decode b_Mo_benches 36 = .ok (.iastore, 1) := by decide +kernel
theorem d_Mo_benches_37 : decode b_Mo_benches 37 = .ok (.iinc 2 1, 3) := by decide +kernel
theorem d_Mo_benches_40 : decode b_Mo_benches 40 = .ok (.goto (-38), 3) := by decide +kernel
theorem d_Mo_benches_43 : decode b_Mo_benches 43 = .ok (.iload_n 2, 1) := by decide +kernel
theorem d_Mo_benches_44 : decode b_Mo_benches 44 = .ok (.ireturn, 1) := by decide +kernel
theorem o_Mo_benches : OkV y_Mo_benches "OwnsLiftModel" b_Mo_benches 4 (some .int) 1 := ⟨⟨rfl, by decide +kernel, by decide +kernel, by decide +kernel⟩, g_1224, g_48, g_81, g_1225⟩
set_option maxHeartbeats 4000000 in
set_option maxRecDepth 100000 in
theorem c_Mo_benches (l : Launch) (D : va_G) (g : Nat → ClassId) (a : Nat → Nat) (x1 : Int32) (z : T_Mo) (v : Int32 × T_Mo) (h : d_Mo_benches x1 z = some v) :
    MI l y_Mo_benches b_Mo_benches 4 .int ({ frames := 2, cells := 0, slots := 0, locals := 52 } : Room) D g [.ref (a 0), .int x1] (ws_Mo g a z) (v.1) (ws_Mo g a v.2) := by
  have hd := h
  unfold d_Mo_benches at hd
  refine enterI rfl (Nat.le_of_ble_eq_true rfl) (fun p e s m below meth c A ls hx hb hml hr hown hg hlk hK hA hP hD hS hCs hl => ?_)
  have hown : s.vm.findClass "OwnsLiftModel" = some m.cls := hown
  have hl : lv_has ls 4 [(0, .ref (a 0)), (1, .int x1)] := hl
  show GI p l e s m ({ frames := 2, cells := 0, slots := 0, locals := 52 } : Room) ([.ref (a 0), .int x1] : List Value).toArray below meth c A D g (ws_Mo g a v.2) (v.1) s.heap [] (F0 m 0 ls [])
  refine lv_iconst (v := 0) hx hb d_Mo_benches_0 (by decide) ?_
  refine lv_istore_n (lv' := [(2, .int 0), (0, .ref (a 0)), (1, .int x1)]) hx hb d_Mo_benches_1 rfl hl (by decide) rfl (fun ls hl => ?_)
  have lp2 : ∀ (x1_f2 : Int32) (n : Nat) (x2_2 : Int32) (z_2 : T_Mo) (H : Heap) (locs : List Loc) (ls : Array Slot), va_P D classes (ws_Mo g a z_2) H → va_D A (ws_Mo g a z_2) → va_S A s.heap H locs → lv_has ls 4 [(0, .ref (a 0)), (1, .int x1_f2), (2, .int x2_2)] → d_Mo_benches_L2 x1_f2 n x2_2 z_2 = some v → GI p l e s m ({ frames := 2, cells := 0, slots := 0, locals := 52 } : Room) ([.ref (a 0), .int x1] : List Value).toArray below meth c A D g (ws_Mo g a v.2) (v.1) H locs (F0 m 2 ls []) := by
    intro x1_f2 n
    induction n with
    | zero =>
      intro  x2_2 z_2 H locs ls hP hD hS hl hd
      have hd : none = some v := hd
      cases hd
    | succ n ih2 =>
      intro  x2_2 z_2 H locs ls hP hD hS hl hd
      have hd : B_Mo_benches_L2 x1_f2 (d_Mo_benches_L2 x1_f2 n) x2_2 z_2 = some v := hd
      generalize d_Mo_benches_L2 x1_f2 n = self2 at ih2 hd
      unfold B_Mo_benches_L2 at hd
      refine lv_aload_n hx hb d_Mo_benches_2 rfl (lv_at hl 0 rfl) ?_
      refine lv_iload_n hx hb d_Mo_benches_3 rfl (lv_at hl 1 rfl) ?_
      obtain ⟨v_1, e_2, hd⟩ := bind_s hd
      refine callVI (ws' := ws_Mo g a z_2) (rest := []) (As := [.int x1_f2]) hx hb hml hown hg hK hP hD hS hA hCs hl.1 (c_Mo_loadOf l D g a x1_f2 z_2 _ e_2) o_Mo_loadOf g_1163 (ci := 1) (q0 := 0) rfl rfl (List.range' 0 12) (segC1 rfl rfl) (by decide) rfl (segP1 rfl rfl) rfl rfl (Nat.le_of_ble_eq_true rfl) ⟨rfl, rfl, Nat.le_of_ble_eq_true rfl, Nat.le_of_ble_eq_true rfl⟩ d_Mo_benches_4 (fun H locs hP hD hS => ?_)
      refine lv_aload_n hx hb d_Mo_benches_7 rfl (lv_at hl 0 rfl) ?_
      refine va_get (D := D) (ci := 1) (v := .ref (a 7)) (C := R_Mo) (T := F_Mo) (N := 26) hx hb hg i_Mo hown hK hP 0 rfl rfl 13 (by decide) (hg _ g_1005) (fun _ h9 => h9) rfl d_Mo_benches_8 ?_
      refine lv_iload_n hx hb d_Mo_benches_11 rfl (lv_at hl 1 rfl) ?_
      obtain ⟨h_9, hd⟩ := ite_s hd
      refine ialdK hx hb hK hP 7 0 rfl rfl (inb_t h_9) rfl d_Mo_benches_12 ?_
      refine lv_icmp_le (tgt := 43) hx hb d_Mo_benches_13 (by decide) (fun h_3 => ?_) (fun h_3 => ?_)
      · have hd := ite_t hd h_3
        refine lv_iload_n hx hb d_Mo_benches_43 rfl (lv_at hl 2 rfl) ?_
        obtain rfl := Option.some.inj hd
        exact retI hx hb hr hlk hK hP hD hS d_Mo_benches_44 rfl
      · have hd := ite_f hd h_3
        refine lv_aload_n hx hb d_Mo_benches_16 rfl (lv_at hl 0 rfl) ?_
        refine lv_iload_n hx hb d_Mo_benches_17 rfl (lv_at hl 1 rfl) ?_
        obtain ⟨v_4, e_5, hd⟩ := bind_s hd
        refine callVI (ws' := ws_Mo g a z_2) (rest := []) (As := [.int x1_f2]) hx hb hml hown hg hK hP hD hS hA hCs hl.1 (c_Mo_drops l D g a x1_f2 z_2 _ e_5) o_Mo_drops g_1226 (ci := 1) (q0 := 0) rfl rfl (List.range' 0 12) (segC1 rfl rfl) (by decide) rfl (segP1 rfl rfl) rfl rfl (Nat.le_of_ble_eq_true rfl) ⟨rfl, rfl, Nat.le_of_ble_eq_true rfl, Nat.le_of_ble_eq_true rfl⟩ d_Mo_benches_18 (fun H locs hP hD hS => ?_)
        refine lv_istore_n (lv' := [(3, .int v_4), (0, .ref (a 0)), (1, .int x1_f2), (2, .int x2_2)]) hx hb d_Mo_benches_21 rfl hl (by decide) rfl (fun ls hl => ?_)
        refine lv_aload_n hx hb d_Mo_benches_22 rfl (lv_at hl 1 rfl) ?_
        refine va_get (D := D) (ci := 1) (v := .ref (a 1)) (C := R_Mo) (T := F_Mo) (N := 26) hx hb hg i_Mo hown hK hP 0 rfl rfl 1 (by decide) (hg _ g_993) (fun _ h9 => h9) rfl d_Mo_benches_23 ?_
        refine lv_bipush (v := 65) hx hb d_Mo_benches_26 (by decide) ?_
        refine lv_iload_n hx hb d_Mo_benches_28 rfl (lv_at hl 0 rfl) ?_
        refine lv_iadd hx hb d_Mo_benches_29 ?_
        refine lv_aload_n hx hb d_Mo_benches_30 rfl (lv_at hl 1 rfl) ?_
        refine lv_iload_n hx hb d_Mo_benches_31 rfl (lv_at hl 2 rfl) ?_
        refine lv_iload_n hx hb d_Mo_benches_32 rfl (lv_at hl 0 rfl) ?_
        obtain ⟨v_6, e_7, hd⟩ := bind_s hd
        refine callVI (ws' := ws_Mo g a z_2) (rest := [.int (65 + v_4), .ref (a 1)]) (As := [.int x1_f2, .int v_4]) hx hb hml hown hg hK hP hD hS hA hCs hl.1 (c_Mo_becomes l D g a x1_f2 v_4 z_2 _ e_7) o_Mo_becomes g_1238 (ci := 1) (q0 := 0) rfl rfl (List.range' 0 12) (segC1 rfl rfl) (by decide) rfl (segP1 rfl rfl) rfl rfl (Nat.le_of_ble_eq_true rfl) ⟨rfl, rfl, Nat.le_of_ble_eq_true rfl, Nat.le_of_ble_eq_true rfl⟩ d_Mo_benches_33 (fun H locs hP hD hS => ?_)
        obtain ⟨h_8, hd⟩ := ite_s hd
        refine iastK hx hb hK hP hD hS 1 0 rfl rfl (inb_t h_8) rfl d_Mo_benches_36 (fun H locs hP hD hS => ?_)
        have hP : va_P D classes (ws_Mo g a (u_Mo_s z_2 (upd (q_Mo_s z_2) (65 + v_4).toNatClampNeg v_6))) H := hP
        have hD : va_D A (ws_Mo g a (u_Mo_s z_2 (upd (q_Mo_s z_2) (65 + v_4).toNatClampNeg v_6))) := hD
        refine lv_iinc (v := x2_2 + 1) (lv' := [(2, .int (x2_2 + 1)), (3, .int v_4), (0, .ref (a 0)), (1, .int x1_f2)]) hx hb d_Mo_benches_37 hl (k := 3) rfl (by rfl) (by decide) rfl (fun ls hl => ?_)
        refine lv_goto (tgt := 2) hx hb d_Mo_benches_40 (by decide) ?_
        exact ih2 (x2_2 + 1) (u_Mo_s z_2 (upd (q_Mo_s z_2) (65 + v_4).toNatClampNeg v_6)) _ _ _ hP hD hS (lv_sub hl [2, 3, 0] rfl) hd
  exact lp2 x1 1000 0 z _ _ _ hP hD hS (lv_sub hl [1, 2, 0] rfl) hd
-- OwnsLiftModel.bench(I)I
def d_Mo_bench (x1 : Int32) (z : T_Mo) : Option (Int32 × T_Mo) :=
  (d_Mo_isPerson x1 z).bind fun v_1 => if v_1 = 0 then (some ((-1), z)) else ((d_Mo_looksForAll z).bind fun v_4 => (d_Mo_benches x1 v_4).bind fun v_6 => some (v_6.1, v_6.2))
theorem d_Mo_bench_0 : decode b_Mo_bench 0 = .ok (.aload_n 0, 1) := by decide +kernel
theorem d_Mo_bench_1 : decode b_Mo_bench 1 = .ok (.iload_n 1, 1) := by decide +kernel
theorem d_Mo_bench_2 : decode b_Mo_bench 2 = .ok (.invokevirtual 147, 3) := by decide +kernel
theorem d_Mo_bench_5 : decode b_Mo_bench 5 = .ok (.ifCond .ne 5, 3) := by decide +kernel
theorem d_Mo_bench_8 : decode b_Mo_bench 8 = .ok (.iconst (-1), 1) := by decide +kernel
theorem d_Mo_bench_9 : decode b_Mo_bench 9 = .ok (.ireturn, 1) := by decide +kernel
theorem d_Mo_bench_10 : decode b_Mo_bench 10 = .ok (.aload_n 0, 1) := by decide +kernel
theorem d_Mo_bench_11 : decode b_Mo_bench 11 = .ok (.invokevirtual 178, 3) := by decide +kernel
theorem d_Mo_bench_14 : decode b_Mo_bench 14 = .ok (.aload_n 0, 1) := by decide +kernel
theorem d_Mo_bench_15 : decode b_Mo_bench 15 = .ok (.iload_n 1, 1) := by decide +kernel
theorem d_Mo_bench_16 : decode b_Mo_bench 16 = .ok (.invokevirtual 181, 3) := by decide +kernel
theorem d_Mo_bench_19 : decode b_Mo_bench 19 = .ok (.ireturn, 1) := by decide +kernel
theorem o_Mo_bench : OkV y_Mo_bench "OwnsLiftModel" b_Mo_bench 2 (some .int) 1 := ⟨⟨rfl, by decide +kernel, by decide +kernel, by decide +kernel⟩, g_1215, g_1216, g_81, g_1217⟩
set_option maxHeartbeats 4000000 in
set_option maxRecDepth 100000 in
theorem c_Mo_bench (l : Launch) (D : va_G) (g : Nat → ClassId) (a : Nat → Nat) (x1 : Int32) (z : T_Mo) (v : Int32 × T_Mo) (h : d_Mo_bench x1 z = some v) :
    MI l y_Mo_bench b_Mo_bench 2 .int ({ frames := 4, cells := 0, slots := 0, locals := 97 } : Room) D g [.ref (a 0), .int x1] (ws_Mo g a z) (v.1) (ws_Mo g a v.2) := by
  have hd := h
  unfold d_Mo_bench at hd
  refine enterI rfl (Nat.le_of_ble_eq_true rfl) (fun p e s m below meth c A ls hx hb hml hr hown hg hlk hK hA hP hD hS hCs hl => ?_)
  have hown : s.vm.findClass "OwnsLiftModel" = some m.cls := hown
  have hl : lv_has ls 2 [(0, .ref (a 0)), (1, .int x1)] := hl
  show GI p l e s m ({ frames := 4, cells := 0, slots := 0, locals := 97 } : Room) ([.ref (a 0), .int x1] : List Value).toArray below meth c A D g (ws_Mo g a v.2) (v.1) s.heap [] (F0 m 0 ls [])
  refine lv_aload_n hx hb d_Mo_bench_0 rfl (lv_at hl 0 rfl) ?_
  refine lv_iload_n hx hb d_Mo_bench_1 rfl (lv_at hl 1 rfl) ?_
  obtain ⟨v_1, e_2, hd⟩ := bind_s hd
  refine callVI (ws' := ws_Mo g a z) (rest := []) (As := [.int x1]) hx hb hml hown hg hK hP hD hS hA hCs hl.1 (c_Mo_isPerson l D g a x1 z _ e_2) o_Mo_isPerson g_1147 (ci := 1) (q0 := 0) rfl rfl (List.range' 0 12) (segC1 rfl rfl) (by decide) rfl (segP1 rfl rfl) rfl rfl (Nat.le_of_ble_eq_true rfl) ⟨rfl, rfl, Nat.le_of_ble_eq_true rfl, Nat.le_of_ble_eq_true rfl⟩ d_Mo_bench_2 (fun H locs hP hD hS => ?_)
  refine lv_if_ne (tgt := 10) hx hb d_Mo_bench_5 (by decide) (fun h_3 => ?_) (fun h_3 => ?_)
  · have hd := ite_f hd h_3
    refine lv_aload_n hx hb d_Mo_bench_10 rfl (lv_at hl 0 rfl) ?_
    obtain ⟨v_4, e_5, hd⟩ := bind_s hd
    refine callVV (ws' := ws_Mo g a v_4) (rest := []) (As := []) hx hb hml hown hg hK hP hD hS hA hCs hl.1 (c_Mo_looksForAll l D g a z _ e_5) o_Mo_looksForAll g_1218 (ci := 1) (q0 := 0) rfl rfl (List.range' 0 12) (segC1 rfl rfl) (by decide) rfl (segP1 rfl rfl) rfl rfl (Nat.le_of_ble_eq_true rfl) ⟨rfl, rfl, Nat.le_of_ble_eq_true rfl, Nat.le_of_ble_eq_true rfl⟩ d_Mo_bench_11 (fun H locs hP hD hS => ?_)
    refine lv_aload_n hx hb d_Mo_bench_14 rfl (lv_at hl 0 rfl) ?_
    refine lv_iload_n hx hb d_Mo_bench_15 rfl (lv_at hl 1 rfl) ?_
    obtain ⟨v_6, e_7, hd⟩ := bind_s hd
    refine callVI (ws' := ws_Mo g a v_6.2) (rest := []) (As := [.int x1]) hx hb hml hown hg hK hP hD hS hA hCs hl.1 (c_Mo_benches l D g a x1 v_4 _ e_7) o_Mo_benches g_1222 (ci := 1) (q0 := 0) rfl rfl (List.range' 0 12) (segC1 rfl rfl) (by decide) rfl (segP1 rfl rfl) rfl rfl (Nat.le_of_ble_eq_true rfl) ⟨rfl, rfl, Nat.le_of_ble_eq_true rfl, Nat.le_of_ble_eq_true rfl⟩ d_Mo_bench_16 (fun H locs hP hD hS => ?_)
    obtain rfl := Option.some.inj hd
    exact retI hx hb hr hlk hK hP hD hS d_Mo_bench_19 rfl
  · have hd := ite_t hd h_3
    refine lv_iconst (v := (-1)) hx hb d_Mo_bench_8 (by decide) ?_
    obtain rfl := Option.some.inj hd
    exact retI hx hb hr hlk hK hP hD hS d_Mo_bench_9 rfl
-- OwnsLiftModel.year()I
def B_Mo_year_L28 (k28_75 : T_Mo → Option (Int32 × T_Mo)) (self28 : Int32 → T_Mo → Option (Int32 × T_Mo)) (x1_28 : Int32) (z_28 : T_Mo) : Option (Int32 × T_Mo) :=
  if ((q_Mo_s z_28) 0) ≤ x1_28 then (k28_75 z_28) else (if inb (22 + x1_28) 901 = true then (if inb (22 + x1_28) 901 = true then (if 99 ≤ ((q_Mo_s z_28) (22 + x1_28).toNatClampNeg) then (if inb (22 + x1_28) 901 = true then (self28 (x1_28 + 1) (u_Mo_s z_28 (upd (q_Mo_s z_28) (22 + x1_28).toNatClampNeg (((q_Mo_s z_28) (22 + x1_28).toNatClampNeg) + 0)))) else none) else (if inb (22 + x1_28) 901 = true then (self28 (x1_28 + 1) (u_Mo_s z_28 (upd (q_Mo_s z_28) (22 + x1_28).toNatClampNeg (((q_Mo_s z_28) (22 + x1_28).toNatClampNeg) + 1)))) else none)) else none) else none)
def d_Mo_year_L28 (k28_75 : T_Mo → Option (Int32 × T_Mo)) (n : Nat) : Int32 → T_Mo → Option (Int32 × T_Mo) := recN (fun _ _ => none) (fun self => B_Mo_year_L28 k28_75 self) n
def B_Mo_year_L77 (self77 : Int32 → T_Mo → Option (Int32 × T_Mo)) (x1_77 : Int32) (z_77 : T_Mo) : Option (Int32 × T_Mo) :=
  if ((q_Mo_s z_77) 1) ≤ x1_77 then (some ((q_Mo_s z_77) 6, z_77)) else (if inb (58 + x1_77) 901 = true then ((d_Mo_tells (-400) 99 x1_77 z_77).bind fun v_9 => if 0 ≤ (((q_Mo_s z_77) (58 + x1_77).toNatClampNeg) - v_9.1) then (if inb (58 + x1_77) 901 = true then (self77 (x1_77 + 1) (u_Mo_s v_9.2 (upd (q_Mo_s v_9.2) (58 + x1_77).toNatClampNeg (((q_Mo_s z_77) (58 + x1_77).toNatClampNeg) - v_9.1)))) else none) else (if inb (58 + x1_77) 901 = true then (self77 (x1_77 + 1) (u_Mo_s v_9.2 (upd (q_Mo_s v_9.2) (58 + x1_77).toNatClampNeg 0))) else none)) else none)
def d_Mo_year_L77 (n : Nat) : Int32 → T_Mo → Option (Int32 × T_Mo) := recN (fun _ _ => none) (fun self => B_Mo_year_L77 self) n
def d_Mo_year (z : T_Mo) : Option (Int32 × T_Mo) :=
  if ((q_Mo_s z) 6) = 99 then (some ((-3), z)) else (d_Mo_year_L28 (fun z_28 => d_Mo_year_L77  1000 0 z_28) 1000 0 (u_Mo_s z (upd (q_Mo_s z) 6 (((q_Mo_s z) 6) + 1))))
theorem d_Mo_year_0 : decode b_Mo_year 0 = .ok (.aload_n 0, 1) := by decide +kernel
theorem d_Mo_year_1 : decode b_Mo_year 1 = .ok (.getfield 9, 3) := by decide +kernel
theorem d_Mo_year_4 : decode b_Mo_year 4 = .ok (.bipush 6, 2) := by decide +kernel
theorem d_Mo_year_6 : decode b_Mo_year 6 = .ok (.iaload, 1) := by decide +kernel
theorem d_Mo_year_7 : decode b_Mo_year 7 = .ok (.bipush 99, 2) := by decide +kernel
theorem d_Mo_year_9 : decode b_Mo_year 9 = .ok (.if_icmp .ne 6, 3) := by decide +kernel
theorem d_Mo_year_12 : decode b_Mo_year 12 = .ok (.bipush (-3), 2) := by decide +kernel
theorem d_Mo_year_14 : decode b_Mo_year 14 = .ok (.ireturn, 1) := by decide +kernel
theorem d_Mo_year_15 : decode b_Mo_year 15 = .ok (.aload_n 0, 1) := by decide +kernel
theorem d_Mo_year_16 : decode b_Mo_year 16 = .ok (.getfield 9, 3) := by decide +kernel
theorem d_Mo_year_19 : decode b_Mo_year 19 = .ok (.bipush 6, 2) := by decide +kernel
theorem d_Mo_year_21 : decode b_Mo_year 21 = .ok (.dup2, 1) := by decide +kernel
theorem d_Mo_year_22 : decode b_Mo_year 22 = .ok (.iaload, 1) := by decide +kernel
theorem d_Mo_year_23 : decode b_Mo_year 23 = .ok (.iconst 1, 1) := by decide +kernel
theorem d_Mo_year_24 : decode b_Mo_year 24 = .ok (.iadd, 1) := by decide +kernel
theorem d_Mo_year_25 : decode b_Mo_year 25 = .ok (.iastore, 1) := by decide +kernel
theorem d_Mo_year_26 : decode b_Mo_year 26 = .ok (.iconst 0, 1) := by decide +kernel
theorem d_Mo_year_27 : decode b_Mo_year 27 = .ok (.istore_n 1, 1) := by decide +kernel
theorem d_Mo_year_28 : decode b_Mo_year 28 = .ok (.iload_n 1, 1) := by decide +kernel
theorem d_Mo_year_29 : decode b_Mo_year 29 = .ok (.aload_n 0, 1) := by decide +kernel
theorem d_Mo_year_30 : decode b_Mo_year 30 = .ok (.getfield 9, 3) := by decide +kernel
theorem d_Mo_year_33 : decode b_Mo_year 33 = .ok (.iconst 0, 1) := by decide +kernel
theorem d_Mo_year_34 : decode b_Mo_year 34 = .ok (.iaload, 1) := by decide +kernel
theorem d_Mo_year_35 : decode b_Mo_year 35 = .ok (.if_icmp .ge 40, 3) := by decide +kernel
theorem d_Mo_year_38 : decode b_Mo_year 38 = .ok (.aload_n 0, 1) := by decide +kernel
theorem d_Mo_year_39 : decode b_Mo_year 39 = .ok (.getfield 9, 3) := by decide +kernel
theorem d_Mo_year_42 : decode b_Mo_year 42 = .ok (.bipush 22, 2) := by decide +kernel
theorem d_Mo_year_44 : decode b_Mo_year 44 = .ok (.iload_n 1, 1) := by decide +kernel
theorem d_Mo_year_45 : decode b_Mo_year 45 = .ok (.iadd, 1) := by decide +kernel
theorem d_Mo_year_46 : decode b_Mo_year 46 = .ok (.dup2, 1) := by decide +kernel
theorem d_Mo_year_47 : decode b_Mo_year 47 = .ok (.iaload, 1) := by decide +kernel
theorem d_Mo_year_48 : decode b_Mo_year 48 = .ok (.aload_n 0, 1) := by decide +kernel
theorem d_Mo_year_49 : decode b_Mo_year 49 = .ok (.getfield 9, 3) := by decide +kernel
theorem d_Mo_year_52 : decode b_Mo_year 52 = .ok (.bipush 22, 2) := by decide +kernel
theorem d_Mo_year_54 : decode b_Mo_year 54 = .ok (.iload_n 1, 1) := by decide +kernel
theorem d_Mo_year_55 : decode b_Mo_year 55 = .ok (.iadd, 1) := by decide +kernel
theorem d_Mo_year_56 : decode b_Mo_year 56 = .ok (.iaload, 1) := by decide +kernel
theorem d_Mo_year_57 : decode b_Mo_year 57 = .ok (.bipush 99, 2) := by decide +kernel
theorem d_Mo_year_59 : decode b_Mo_year 59 = .ok (.if_icmp .ge 7, 3) := by decide +kernel
theorem d_Mo_year_62 : decode b_Mo_year 62 = .ok (.iconst 1, 1) := by decide +kernel
theorem d_Mo_year_63 : decode b_Mo_year 63 = .ok (.goto 4, 3) := by decide +kernel
theorem d_Mo_year_66 : decode b_Mo_year 66 = .ok (.iconst 0, 1) := by decide +kernel
theorem d_Mo_year_67 : decode b_Mo_year 67 = .ok (.iadd, 1) := by decide +kernel
theorem d_Mo_year_68 : decode b_Mo_year 68 = .ok (.iastore, 1) := by decide +kernel
theorem d_Mo_year_69 : decode b_Mo_year 69 = .ok (.iinc 1 1, 3) := by decide +kernel
theorem d_Mo_year_72 : decode b_Mo_year 72 = .ok (.goto (-44), 3) := by decide +kernel
theorem d_Mo_year_75 : decode b_Mo_year 75 = .ok (.iconst 0, 1) := by decide +kernel
theorem d_Mo_year_76 : decode b_Mo_year 76 = .ok (.istore_n 1, 1) := by decide +kernel
theorem d_Mo_year_77 : decode b_Mo_year 77 = .ok (.iload_n 1, 1) := by decide +kernel
theorem d_Mo_year_78 : decode b_Mo_year 78 = .ok (.aload_n 0, 1) := by decide +kernel
theorem d_Mo_year_79 : decode b_Mo_year 79 = .ok (.getfield 9, 3) := by decide +kernel
theorem d_Mo_year_82 : decode b_Mo_year 82 = .ok (.iconst 1, 1) := by decide +kernel
theorem d_Mo_year_83 : decode b_Mo_year 83 = .ok (.iaload, 1) := by decide +kernel
theorem d_Mo_year_84 : decode b_Mo_year 84 = .ok (.if_icmp .ge 48, 3) := by decide +kernel
theorem d_Mo_year_87 : decode b_Mo_year 87 = .ok (.aload_n 0, 1) := by decide +kernel
theorem d_Mo_year_88 : decode b_Mo_year 88 = .ok (.getfield 9, 3) := by decide +kernel
theorem d_Mo_year_91 : decode b_Mo_year 91 = .ok (.bipush 58, 2) := by decide +kernel
theorem d_Mo_year_93 : decode b_Mo_year 93 = .ok (.iload_n 1, 1) := by decide +kernel
theorem d_Mo_year_94 : decode b_Mo_year 94 = .ok (.iadd, 1) := by decide +kernel
theorem d_Mo_year_95 : decode b_Mo_year 95 = .ok (.iaload, 1) := by decide +kernel
theorem d_Mo_year_96 : decode b_Mo_year 96 = .ok (.aload_n 0, 1) := by decide +kernel
theorem d_Mo_year_97 : decode b_Mo_year 97 = .ok (.sipush (-400), 3) := by decide +kernel
theorem d_Mo_year_100 : decode b_Mo_year 100 = .ok (.bipush 99, 2) := by decide +kernel
theorem d_Mo_year_102 : decode b_Mo_year 102 = .ok (.iload_n 1, 1) := by decide +kernel
theorem d_Mo_year_103 : decode b_Mo_year 103 = .ok (.invokevirtual 136, 3) := by decide +kernel
theorem d_Mo_year_106 : decode b_Mo_year 106 = .ok (.isub, 1) := by decide +kernel
theorem d_Mo_year_107 : decode b_Mo_year 107 = .ok (.istore_n 2, 1) := by decide +kernel
theorem d_Mo_year_108 : decode b_Mo_year 108 = .ok (.aload_n 0, 1) := by decide +kernel
theorem d_Mo_year_109 : decode b_Mo_year 109 = .ok (.getfield 9, 3) := by decide +kernel
theorem d_Mo_year_112 : decode b_Mo_year 112 = .ok (.bipush 58, 2) := by decide +kernel
theorem d_Mo_year_114 : decode b_Mo_year 114 = .ok (.iload_n 1, 1) := by decide +kernel
theorem d_Mo_year_115 : decode b_Mo_year 115 = .ok (.iadd, 1) := by decide +kernel
theorem d_Mo_year_116 : decode b_Mo_year 116 = .ok (.iload_n 2, 1) := by decide +kernel
theorem d_Mo_year_117 : decode b_Mo_year 117 = .ok (.ifCond .ge 7, 3) := by decide +kernel
theorem d_Mo_year_120 : decode b_Mo_year 120 = .ok (.iconst 0, 1) := by decide +kernel
theorem d_Mo_year_121 : decode b_Mo_year 121 = .ok (.goto 4, 3) := by decide +kernel
theorem d_Mo_year_124 : decode b_Mo_year 124 = .ok (.iload_n 2, 1) := by decide +kernel
theorem d_Mo_year_125 : decode b_Mo_year 125 = .ok (.iastore, 1) := by decide +kernel
theorem d_Mo_year_126 : decode b_Mo_year 126 = .ok (.iinc 1 1, 3) := by decide +kernel
theorem d_Mo_year_129 : decode b_Mo_year 129 = .ok (.goto (-52), 3) := by decide +kernel
theorem d_Mo_year_132 : decode b_Mo_year 132 = .ok (.aload_n 0, 1) := by decide +kernel
theorem d_Mo_year_133 : decode b_Mo_year 133 = .ok (.getfield 9, 3) := by decide +kernel
theorem d_Mo_year_136 : decode b_Mo_year 136 = .ok (.bipush 6, 2) := by decide +kernel
theorem d_Mo_year_138 : decode b_Mo_year 138 = .ok (.iaload, 1) := by decide +kernel
theorem d_Mo_year_139 : decode b_Mo_year 139 = .ok (.ireturn, 1) := by decide +kernel
theorem o_Mo_year : OkV y_Mo_year "OwnsLiftModel" b_Mo_year 3 (some .int) 0 := ⟨⟨rfl, by decide +kernel, by decide +kernel, by decide +kernel⟩, g_1243, g_1244, g_81, g_1245⟩
set_option maxHeartbeats 4000000 in
set_option maxRecDepth 100000 in
theorem c_Mo_year (l : Launch) (D : va_G) (g : Nat → ClassId) (a : Nat → Nat) (z : T_Mo) (v : Int32 × T_Mo) (h : d_Mo_year z = some v) :
    MI l y_Mo_year b_Mo_year 3 .int ({ frames := 2, cells := 0, slots := 0, locals := 53 } : Room) D g [.ref (a 0)] (ws_Mo g a z) (v.1) (ws_Mo g a v.2) := by
  have hd := h
  unfold d_Mo_year at hd
  refine enterI rfl (Nat.le_of_ble_eq_true rfl) (fun p e s m below meth c A ls hx hb hml hr hown hg hlk hK hA hP hD hS hCs hl => ?_)
  have hown : s.vm.findClass "OwnsLiftModel" = some m.cls := hown
  have hl : lv_has ls 3 [(0, .ref (a 0))] := hl
  show GI p l e s m ({ frames := 2, cells := 0, slots := 0, locals := 53 } : Room) ([.ref (a 0)] : List Value).toArray below meth c A D g (ws_Mo g a v.2) (v.1) s.heap [] (F0 m 0 ls [])
  refine lv_aload_n hx hb d_Mo_year_0 rfl (lv_at hl 0 rfl) ?_
  refine va_get (D := D) (ci := 1) (v := .ref (a 1)) (C := R_Mo) (T := F_Mo) (N := 26) hx hb hg i_Mo hown hK hP 0 rfl rfl 1 (by decide) (hg _ g_993) (fun _ h9 => h9) rfl d_Mo_year_1 ?_
  refine lv_bipush (v := 6) hx hb d_Mo_year_4 (by decide) ?_
  refine ialdK hx hb hK hP 1 0 rfl rfl (inb_t (by decide +kernel)) (k := 6) (by decide +kernel) d_Mo_year_6 ?_
  refine lv_bipush (v := 99) hx hb d_Mo_year_7 (by decide) ?_
  refine lv_icmp_ne (tgt := 15) hx hb d_Mo_year_9 (by decide) (fun h_1 => ?_) (fun h_1 => ?_)
  · have hd := ite_f hd h_1
    refine lv_aload_n hx hb d_Mo_year_15 rfl (lv_at hl 0 rfl) ?_
    refine va_get (D := D) (ci := 1) (v := .ref (a 1)) (C := R_Mo) (T := F_Mo) (N := 26) hx hb hg i_Mo hown hK hP 0 rfl rfl 1 (by decide) (hg _ g_993) (fun _ h9 => h9) rfl d_Mo_year_16 ?_
    refine lv_bipush (v := 6) hx hb d_Mo_year_19 (by decide) ?_
    refine lv_dup2_11 hx hb d_Mo_year_21 rfl rfl ?_
    refine ialdK hx hb hK hP 1 0 rfl rfl (inb_t (by decide +kernel)) (k := 6) (by decide +kernel) d_Mo_year_22 ?_
    refine lv_iconst (v := 1) hx hb d_Mo_year_23 (by decide) ?_
    refine lv_iadd hx hb d_Mo_year_24 ?_
    refine iastK hx hb hK hP hD hS 1 0 rfl rfl (inb_t (by decide +kernel)) (k := 6) (by decide +kernel) d_Mo_year_25 (fun H locs hP hD hS => ?_)
    have hP : va_P D classes (ws_Mo g a (u_Mo_s z (upd (q_Mo_s z) 6 (((q_Mo_s z) 6) + 1)))) H := hP
    have hD : va_D A (ws_Mo g a (u_Mo_s z (upd (q_Mo_s z) 6 (((q_Mo_s z) 6) + 1)))) := hD
    refine lv_iconst (v := 0) hx hb d_Mo_year_26 (by decide) ?_
    refine lv_istore_n (lv' := [(1, .int 0), (0, .ref (a 0))]) hx hb d_Mo_year_27 rfl hl (by decide) rfl (fun ls hl => ?_)
    have ex28_75 : ∀ (z_28 : T_Mo) (H : Heap) (locs : List Loc) (ls : Array Slot), va_P D classes (ws_Mo g a z_28) H → va_D A (ws_Mo g a z_28) → va_S A s.heap H locs → lv_has ls 3 [(0, .ref (a 0))] → (d_Mo_year_L77  1000 0 z_28) = some v → GI p l e s m ({ frames := 2, cells := 0, slots := 0, locals := 53 } : Room) ([.ref (a 0)] : List Value).toArray below meth c A D g (ws_Mo g a v.2) (v.1) H locs (F0 m 75 ls []) := by
      intro z_28 H locs ls hP hD hS hl hd
      refine lv_iconst (v := 0) hx hb d_Mo_year_75 (by decide) ?_
      refine lv_istore_n (lv' := [(1, .int 0), (0, .ref (a 0))]) hx hb d_Mo_year_76 rfl hl (by decide) rfl (fun ls hl => ?_)
      have lp77 : ∀ (n : Nat) (x1_77 : Int32) (z_77 : T_Mo) (H : Heap) (locs : List Loc) (ls : Array Slot), va_P D classes (ws_Mo g a z_77) H → va_D A (ws_Mo g a z_77) → va_S A s.heap H locs → lv_has ls 3 [(0, .ref (a 0)), (1, .int x1_77)] → d_Mo_year_L77 n x1_77 z_77 = some v → GI p l e s m ({ frames := 2, cells := 0, slots := 0, locals := 53 } : Room) ([.ref (a 0)] : List Value).toArray below meth c A D g (ws_Mo g a v.2) (v.1) H locs (F0 m 77 ls []) := by
        intro n
        induction n with
        | zero =>
          intro  x1_77 z_77 H locs ls hP hD hS hl hd
          have hd : none = some v := hd
          cases hd
        | succ n ih77 =>
          intro  x1_77 z_77 H locs ls hP hD hS hl hd
          have hd : B_Mo_year_L77 (d_Mo_year_L77 n) x1_77 z_77 = some v := hd
          generalize d_Mo_year_L77 n = self77 at ih77 hd
          unfold B_Mo_year_L77 at hd
          refine lv_iload_n hx hb d_Mo_year_77 rfl (lv_at hl 1 rfl) ?_
          refine lv_aload_n hx hb d_Mo_year_78 rfl (lv_at hl 0 rfl) ?_
          refine va_get (D := D) (ci := 1) (v := .ref (a 1)) (C := R_Mo) (T := F_Mo) (N := 26) hx hb hg i_Mo hown hK hP 0 rfl rfl 1 (by decide) (hg _ g_993) (fun _ h9 => h9) rfl d_Mo_year_79 ?_
          refine lv_iconst (v := 1) hx hb d_Mo_year_82 (by decide) ?_
          refine ialdK hx hb hK hP 1 0 rfl rfl (inb_t (by decide +kernel)) (k := 1) (by decide +kernel) d_Mo_year_83 ?_
          refine lv_icmp_ge (tgt := 132) hx hb d_Mo_year_84 (by decide) (fun h_8 => ?_) (fun h_8 => ?_)
          · have hd := ite_t hd h_8
            refine lv_aload_n hx hb d_Mo_year_132 rfl (lv_at hl 0 rfl) ?_
            refine va_get (D := D) (ci := 1) (v := .ref (a 1)) (C := R_Mo) (T := F_Mo) (N := 26) hx hb hg i_Mo hown hK hP 0 rfl rfl 1 (by decide) (hg _ g_993) (fun _ h9 => h9) rfl d_Mo_year_133 ?_
            refine lv_bipush (v := 6) hx hb d_Mo_year_136 (by decide) ?_
            refine ialdK hx hb hK hP 1 0 rfl rfl (inb_t (by decide +kernel)) (k := 6) (by decide +kernel) d_Mo_year_138 ?_
            obtain rfl := Option.some.inj hd
            exact retI hx hb hr hlk hK hP hD hS d_Mo_year_139 rfl
          · have hd := ite_f hd h_8
            refine lv_aload_n hx hb d_Mo_year_87 rfl (lv_at hl 0 rfl) ?_
            refine va_get (D := D) (ci := 1) (v := .ref (a 1)) (C := R_Mo) (T := F_Mo) (N := 26) hx hb hg i_Mo hown hK hP 0 rfl rfl 1 (by decide) (hg _ g_993) (fun _ h9 => h9) rfl d_Mo_year_88 ?_
            refine lv_bipush (v := 58) hx hb d_Mo_year_91 (by decide) ?_
            refine lv_iload_n hx hb d_Mo_year_93 rfl (lv_at hl 1 rfl) ?_
            refine lv_iadd hx hb d_Mo_year_94 ?_
            obtain ⟨h_14, hd⟩ := ite_s hd
            refine ialdK hx hb hK hP 1 0 rfl rfl (inb_t h_14) rfl d_Mo_year_95 ?_
            refine lv_aload_n hx hb d_Mo_year_96 rfl (lv_at hl 0 rfl) ?_
            refine lv_sipush (v := (-400)) hx hb d_Mo_year_97 (by decide) ?_
            refine lv_bipush (v := 99) hx hb d_Mo_year_100 (by decide) ?_
            refine lv_iload_n hx hb d_Mo_year_102 rfl (lv_at hl 1 rfl) ?_
            obtain ⟨v_9, e_10, hd⟩ := bind_s hd
            refine callVI (ws' := ws_Mo g a v_9.2) (rest := [.int ((q_Mo_s z_77) (58 + x1_77).toNatClampNeg)]) (As := [.int (-400), .int 99, .int x1_77]) hx hb hml hown hg hK hP hD hS hA hCs hl.1 (c_Mo_tells l D g a (-400) 99 x1_77 z_77 _ e_10) o_Mo_tells g_1155 (ci := 1) (q0 := 0) rfl rfl (List.range' 0 12) (segC1 rfl rfl) (by decide) rfl (segP1 rfl rfl) rfl rfl (Nat.le_of_ble_eq_true rfl) ⟨rfl, rfl, Nat.le_of_ble_eq_true rfl, Nat.le_of_ble_eq_true rfl⟩ d_Mo_year_103 (fun H locs hP hD hS => ?_)
            refine lv_isub hx hb d_Mo_year_106 ?_
            refine lv_istore_n (lv' := [(2, .int (((q_Mo_s z_77) (58 + x1_77).toNatClampNeg) - v_9.1)), (0, .ref (a 0)), (1, .int x1_77)]) hx hb d_Mo_year_107 rfl hl (by decide) rfl (fun ls hl => ?_)
            refine lv_aload_n hx hb d_Mo_year_108 rfl (lv_at hl 1 rfl) ?_
            refine va_get (D := D) (ci := 1) (v := .ref (a 1)) (C := R_Mo) (T := F_Mo) (N := 26) hx hb hg i_Mo hown hK hP 0 rfl rfl 1 (by decide) (hg _ g_993) (fun _ h9 => h9) rfl d_Mo_year_109 ?_
            refine lv_bipush (v := 58) hx hb d_Mo_year_112 (by decide) ?_
            refine lv_iload_n hx hb d_Mo_year_114 rfl (lv_at hl 2 rfl) ?_
            refine lv_iadd hx hb d_Mo_year_115 ?_
            refine lv_iload_n hx hb d_Mo_year_116 rfl (lv_at hl 0 rfl) ?_
            refine lv_if_ge (tgt := 124) hx hb d_Mo_year_117 (by decide) (fun h_11 => ?_) (fun h_11 => ?_)
            · have hd := ite_t hd h_11
              refine lv_iload_n hx hb d_Mo_year_124 rfl (lv_at hl 0 rfl) ?_
              obtain ⟨h_12, hd⟩ := ite_s hd
              refine iastK hx hb hK hP hD hS 1 0 rfl rfl (inb_t h_12) rfl d_Mo_year_125 (fun H locs hP hD hS => ?_)
              have hP : va_P D classes (ws_Mo g a (u_Mo_s v_9.2 (upd (q_Mo_s v_9.2) (58 + x1_77).toNatClampNeg (((q_Mo_s z_77) (58 + x1_77).toNatClampNeg) - v_9.1)))) H := hP
              have hD : va_D A (ws_Mo g a (u_Mo_s v_9.2 (upd (q_Mo_s v_9.2) (58 + x1_77).toNatClampNeg (((q_Mo_s z_77) (58 + x1_77).toNatClampNeg) - v_9.1)))) := hD
              refine lv_iinc (v := x1_77 + 1) (lv' := [(1, .int (x1_77 + 1)), (2, .int (((q_Mo_s z_77) (58 + x1_77).toNatClampNeg) - v_9.1)), (0, .ref (a 0))]) hx hb d_Mo_year_126 hl (k := 2) rfl (by rfl) (by decide) rfl (fun ls hl => ?_)
              refine lv_goto (tgt := 77) hx hb d_Mo_year_129 (by decide) ?_
              exact ih77 (x1_77 + 1) (u_Mo_s v_9.2 (upd (q_Mo_s v_9.2) (58 + x1_77).toNatClampNeg (((q_Mo_s z_77) (58 + x1_77).toNatClampNeg) - v_9.1))) _ _ _ hP hD hS (lv_sub hl [2, 0] rfl) hd
            · have hd := ite_f hd h_11
              refine lv_iconst (v := 0) hx hb d_Mo_year_120 (by decide) ?_
              refine lv_goto (tgt := 125) hx hb d_Mo_year_121 (by decide) ?_
              obtain ⟨h_13, hd⟩ := ite_s hd
              refine iastK hx hb hK hP hD hS 1 0 rfl rfl (inb_t h_13) rfl d_Mo_year_125 (fun H locs hP hD hS => ?_)
              have hP : va_P D classes (ws_Mo g a (u_Mo_s v_9.2 (upd (q_Mo_s v_9.2) (58 + x1_77).toNatClampNeg 0))) H := hP
              have hD : va_D A (ws_Mo g a (u_Mo_s v_9.2 (upd (q_Mo_s v_9.2) (58 + x1_77).toNatClampNeg 0))) := hD
              refine lv_iinc (v := x1_77 + 1) (lv' := [(1, .int (x1_77 + 1)), (2, .int (((q_Mo_s z_77) (58 + x1_77).toNatClampNeg) - v_9.1)), (0, .ref (a 0))]) hx hb d_Mo_year_126 hl (k := 2) rfl (by rfl) (by decide) rfl (fun ls hl => ?_)
              refine lv_goto (tgt := 77) hx hb d_Mo_year_129 (by decide) ?_
              exact ih77 (x1_77 + 1) (u_Mo_s v_9.2 (upd (q_Mo_s v_9.2) (58 + x1_77).toNatClampNeg 0)) _ _ _ hP hD hS (lv_sub hl [2, 0] rfl) hd
      exact lp77 1000 0 z_28 _ _ _ hP hD hS (lv_sub hl [1, 0] rfl) hd
    have lp28 : ∀ (k28_75 : T_Mo → Option (Int32 × T_Mo)) (hk28_75 : ∀ (z_28 : T_Mo) (H : Heap) (locs : List Loc) (ls : Array Slot), va_P D classes (ws_Mo g a z_28) H → va_D A (ws_Mo g a z_28) → va_S A s.heap H locs → lv_has ls 3 [(0, .ref (a 0))] → k28_75 z_28 = some v → GI p l e s m ({ frames := 2, cells := 0, slots := 0, locals := 53 } : Room) ([.ref (a 0)] : List Value).toArray below meth c A D g (ws_Mo g a v.2) (v.1) H locs (F0 m 75 ls [])) (n : Nat) (x1_28 : Int32) (z_28 : T_Mo) (H : Heap) (locs : List Loc) (ls : Array Slot), va_P D classes (ws_Mo g a z_28) H → va_D A (ws_Mo g a z_28) → va_S A s.heap H locs → lv_has ls 3 [(0, .ref (a 0)), (1, .int x1_28)] → d_Mo_year_L28 k28_75 n x1_28 z_28 = some v → GI p l e s m ({ frames := 2, cells := 0, slots := 0, locals := 53 } : Room) ([.ref (a 0)] : List Value).toArray below meth c A D g (ws_Mo g a v.2) (v.1) H locs (F0 m 28 ls []) := by
      intro k28_75 hk28_75 n
      induction n with
      | zero =>
        intro  x1_28 z_28 H locs ls hP hD hS hl hd
        have hd : none = some v := hd
        cases hd
      | succ n ih28 =>
        intro  x1_28 z_28 H locs ls hP hD hS hl hd
        have hd : B_Mo_year_L28 k28_75 (d_Mo_year_L28 k28_75 n) x1_28 z_28 = some v := hd
        generalize d_Mo_year_L28 k28_75 n = self28 at ih28 hd
        unfold B_Mo_year_L28 at hd
        refine lv_iload_n hx hb d_Mo_year_28 rfl (lv_at hl 1 rfl) ?_
        refine lv_aload_n hx hb d_Mo_year_29 rfl (lv_at hl 0 rfl) ?_
        refine va_get (D := D) (ci := 1) (v := .ref (a 1)) (C := R_Mo) (T := F_Mo) (N := 26) hx hb hg i_Mo hown hK hP 0 rfl rfl 1 (by decide) (hg _ g_993) (fun _ h9 => h9) rfl d_Mo_year_30 ?_
        refine lv_iconst (v := 0) hx hb d_Mo_year_33 (by decide) ?_
        refine ialdK hx hb hK hP 1 0 rfl rfl (inb_t (by decide +kernel)) (k := 0) (by decide +kernel) d_Mo_year_34 ?_
        refine lv_icmp_ge (tgt := 75) hx hb d_Mo_year_35 (by decide) (fun h_2 => ?_) (fun h_2 => ?_)
        · have hd := ite_t hd h_2
          exact hk28_75 z_28 _ _ _ hP hD hS (lv_sub hl [0] rfl) hd
        · have hd := ite_f hd h_2
          refine lv_aload_n hx hb d_Mo_year_38 rfl (lv_at hl 0 rfl) ?_
          refine va_get (D := D) (ci := 1) (v := .ref (a 1)) (C := R_Mo) (T := F_Mo) (N := 26) hx hb hg i_Mo hown hK hP 0 rfl rfl 1 (by decide) (hg _ g_993) (fun _ h9 => h9) rfl d_Mo_year_39 ?_
          refine lv_bipush (v := 22) hx hb d_Mo_year_42 (by decide) ?_
          refine lv_iload_n hx hb d_Mo_year_44 rfl (lv_at hl 1 rfl) ?_
          refine lv_iadd hx hb d_Mo_year_45 ?_
          refine lv_dup2_11 hx hb d_Mo_year_46 rfl rfl ?_
          obtain ⟨h_7, hd⟩ := ite_s hd
          refine ialdK hx hb hK hP 1 0 rfl rfl (inb_t h_7) rfl d_Mo_year_47 ?_
          refine lv_aload_n hx hb d_Mo_year_48 rfl (lv_at hl 0 rfl) ?_
          refine va_get (D := D) (ci := 1) (v := .ref (a 1)) (C := R_Mo) (T := F_Mo) (N := 26) hx hb hg i_Mo hown hK hP 0 rfl rfl 1 (by decide) (hg _ g_993) (fun _ h9 => h9) rfl d_Mo_year_49 ?_
          refine lv_bipush (v := 22) hx hb d_Mo_year_52 (by decide) ?_
          refine lv_iload_n hx hb d_Mo_year_54 rfl (lv_at hl 1 rfl) ?_
          refine lv_iadd hx hb d_Mo_year_55 ?_
          obtain ⟨h_6, hd⟩ := ite_s hd
          refine ialdK hx hb hK hP 1 0 rfl rfl (inb_t h_6) rfl d_Mo_year_56 ?_
          refine lv_bipush (v := 99) hx hb d_Mo_year_57 (by decide) ?_
          refine lv_icmp_ge (tgt := 66) hx hb d_Mo_year_59 (by decide) (fun h_3 => ?_) (fun h_3 => ?_)
          · have hd := ite_t hd h_3
            refine lv_iconst (v := 0) hx hb d_Mo_year_66 (by decide) ?_
            refine lv_iadd hx hb d_Mo_year_67 ?_
            obtain ⟨h_4, hd⟩ := ite_s hd
            refine iastK hx hb hK hP hD hS 1 0 rfl rfl (inb_t h_4) rfl d_Mo_year_68 (fun H locs hP hD hS => ?_)
            have hP : va_P D classes (ws_Mo g a (u_Mo_s z_28 (upd (q_Mo_s z_28) (22 + x1_28).toNatClampNeg (((q_Mo_s z_28) (22 + x1_28).toNatClampNeg) + 0)))) H := hP
            have hD : va_D A (ws_Mo g a (u_Mo_s z_28 (upd (q_Mo_s z_28) (22 + x1_28).toNatClampNeg (((q_Mo_s z_28) (22 + x1_28).toNatClampNeg) + 0)))) := hD
            refine lv_iinc (v := x1_28 + 1) (lv' := [(1, .int (x1_28 + 1)), (0, .ref (a 0))]) hx hb d_Mo_year_69 hl (k := 1) rfl (by rfl) (by decide) rfl (fun ls hl => ?_)
            refine lv_goto (tgt := 28) hx hb d_Mo_year_72 (by decide) ?_
            exact ih28 (x1_28 + 1) (u_Mo_s z_28 (upd (q_Mo_s z_28) (22 + x1_28).toNatClampNeg (((q_Mo_s z_28) (22 + x1_28).toNatClampNeg) + 0))) _ _ _ hP hD hS (lv_sub hl [1, 0] rfl) hd
          · have hd := ite_f hd h_3
            refine lv_iconst (v := 1) hx hb d_Mo_year_62 (by decide) ?_
            refine lv_goto (tgt := 67) hx hb d_Mo_year_63 (by decide) ?_
            refine lv_iadd hx hb d_Mo_year_67 ?_
            obtain ⟨h_5, hd⟩ := ite_s hd
            refine iastK hx hb hK hP hD hS 1 0 rfl rfl (inb_t h_5) rfl d_Mo_year_68 (fun H locs hP hD hS => ?_)
            have hP : va_P D classes (ws_Mo g a (u_Mo_s z_28 (upd (q_Mo_s z_28) (22 + x1_28).toNatClampNeg (((q_Mo_s z_28) (22 + x1_28).toNatClampNeg) + 1)))) H := hP
            have hD : va_D A (ws_Mo g a (u_Mo_s z_28 (upd (q_Mo_s z_28) (22 + x1_28).toNatClampNeg (((q_Mo_s z_28) (22 + x1_28).toNatClampNeg) + 1)))) := hD
            refine lv_iinc (v := x1_28 + 1) (lv' := [(1, .int (x1_28 + 1)), (0, .ref (a 0))]) hx hb d_Mo_year_69 hl (k := 1) rfl (by rfl) (by decide) rfl (fun ls hl => ?_)
            refine lv_goto (tgt := 28) hx hb d_Mo_year_72 (by decide) ?_
            exact ih28 (x1_28 + 1) (u_Mo_s z_28 (upd (q_Mo_s z_28) (22 + x1_28).toNatClampNeg (((q_Mo_s z_28) (22 + x1_28).toNatClampNeg) + 1))) _ _ _ hP hD hS (lv_sub hl [1, 0] rfl) hd
    exact lp28 _ ex28_75 1000 0 (u_Mo_s z (upd (q_Mo_s z) 6 (((q_Mo_s z) 6) + 1))) _ _ _ hP hD hS (lv_sub hl [1, 0] rfl) hd
  · have hd := ite_t hd h_1
    refine lv_bipush (v := (-3)) hx hb d_Mo_year_12 (by decide) ?_
    obtain rfl := Option.some.inj hd
    exact retI hx hb hr hlk hK hP hD hS d_Mo_year_14 rfl
-- OwnsLiftModel.begins()V
def B_Mo_begins_L6 (self6 : Int32 → T_Mo → Option (T_Mo)) (x1_6 : Int32) (z_6 : T_Mo) : Option (T_Mo) :=
  if 5 ≤ x1_6 then (some ((u_Mo_fewest (u_Mo_mostOwned (u_Mo_bestLike z_6 (-1)) 0) (-5)))) else (if inb x1_6 5 = true then (self6 (x1_6 + 1) (u_Mo_loads z_6 (upd (q_Mo_loads z_6) x1_6.toNatClampNeg 0))) else none)
def d_Mo_begins_L6 (n : Nat) : Int32 → T_Mo → Option (T_Mo) := recN (fun _ _ => none) (fun self => B_Mo_begins_L6 self) n
def d_Mo_begins (z : T_Mo) : Option (T_Mo) :=
  (d_Mo_looksForAll z).bind fun v_1 => d_Mo_begins_L6  1000 0 v_1
theorem d_Mo_begins_0 : decode b_Mo_begins 0 = .ok (.aload_n 0, 1) := by decide +kernel
theorem d_Mo_begins_1 : decode b_Mo_begins 1 = .ok (.invokevirtual 178, 3) := by decide +kernel
theorem d_Mo_begins_4 : decode b_Mo_begins 4 = .ok (.iconst 0, 1) := by decide +kernel
theorem d_Mo_begins_5 : decode b_Mo_begins 5 = .ok (.istore_n 1, 1) := by decide +kernel
theorem d_Mo_begins_6 : decode b_Mo_begins 6 = .ok (.iload_n 1, 1) := by decide +kernel
theorem d_Mo_begins_7 : decode b_Mo_begins 7 = .ok (.iconst 5, 1) := by decide +kernel
theorem d_Mo_begins_8 : decode b_Mo_begins 8 = .ok (.if_icmp .ge 16, 3) := by decide +kernel
theorem d_Mo_begins_11 : decode b_Mo_begins 11 = .ok (.aload_n 0, 1) := by decide +kernel
theorem d_Mo_begins_12 : decode b_Mo_begins 12 = .ok (.getfield 34, 3) := by decide +kernel
theorem d_Mo_begins_15 : decode b_Mo_begins 15 = .ok (.iload_n 1, 1) := by decide +kernel
theorem d_Mo_begins_16 : decode b_Mo_begins 16 = .ok (.iconst 0, 1) := by decide +kernel
theorem d_Mo_begins_17 : decode b_Mo_begins 17 = .ok (.iastore, 1) := by decide +kernel
theorem d_Mo_begins_18 : decode b_Mo_begins 18 = .ok (.iinc 1 1, 3) := by decide +kernel
theorem d_Mo_begins_21 : decode b_Mo_begins 21 = .ok (.goto (-15), 3) := by decide +kernel
theorem d_Mo_begins_24 : decode b_Mo_begins 24 = .ok (.aload_n 0, 1) := by decide +kernel
theorem d_Mo_begins_25 : decode b_Mo_begins 25 = .ok (.iconst (-1), 1) := by decide +kernel
theorem d_Mo_begins_26 : decode b_Mo_begins 26 = .ok (.putfield 184, 3) := by decide +kernel
theorem d_Mo_begins_29 : decode b_Mo_begins 29 = .ok (.aload_n 0, 1) := by decide +kernel
theorem d_Mo_begins_30 : decode b_Mo_begins 30 = .ok (.iconst 0, 1) := by decide +kernel
theorem d_Mo_begins_31 : decode b_Mo_begins 31 = .ok (.putfield 187, 3) := by decide +kernel
theorem d_Mo_begins_34 : decode b_Mo_begins 34 = .ok (.aload_n 0, 1) := by decide +kernel
theorem d_Mo_begins_35 : decode b_Mo_begins 35 = .ok (.bipush (-5), 2) := by decide +kernel
theorem d_Mo_begins_37 : decode b_Mo_begins 37 = .ok (.putfield 190, 3) := by decide +kernel
theorem d_Mo_begins_40 : decode b_Mo_begins 40 = .ok (.return_, 1) := by decide +kernel
theorem o_Mo_begins : OkV y_Mo_begins "OwnsLiftModel" b_Mo_begins 2 none 0 := ⟨⟨rfl, by decide +kernel, by decide +kernel, by decide +kernel⟩, g_1252, g_53, g_81, g_1253⟩
set_option maxHeartbeats 4000000 in
set_option maxRecDepth 100000 in
theorem c_Mo_begins (l : Launch) (D : va_G) (g : Nat → ClassId) (a : Nat → Nat) (z : T_Mo) (v : T_Mo) (h : d_Mo_begins z = some v) :
    MV l y_Mo_begins b_Mo_begins 2 ({ frames := 4, cells := 0, slots := 0, locals := 97 } : Room) D g [.ref (a 0)] (ws_Mo g a z) (ws_Mo g a v) := by
  have hd := h
  unfold d_Mo_begins at hd
  refine enterV rfl (Nat.le_of_ble_eq_true rfl) (fun p e s m below meth c A ls hx hb hml hr hown hg hlk hK hA hP hD hS hCs hl => ?_)
  have hown : s.vm.findClass "OwnsLiftModel" = some m.cls := hown
  have hl : lv_has ls 2 [(0, .ref (a 0))] := hl
  show GV p l e s m ({ frames := 4, cells := 0, slots := 0, locals := 97 } : Room) ([.ref (a 0)] : List Value).toArray below meth c A D g (ws_Mo g a v) s.heap [] (F0 m 0 ls [])
  refine lv_aload_n hx hb d_Mo_begins_0 rfl (lv_at hl 0 rfl) ?_
  obtain ⟨v_1, e_2, hd⟩ := bind_s hd
  refine callVV (ws' := ws_Mo g a v_1) (rest := []) (As := []) hx hb hml hown hg hK hP hD hS hA hCs hl.1 (c_Mo_looksForAll l D g a z _ e_2) o_Mo_looksForAll g_1218 (ci := 1) (q0 := 0) rfl rfl (List.range' 0 12) (segC1 rfl rfl) (by decide) rfl (segP1 rfl rfl) rfl rfl (Nat.le_of_ble_eq_true rfl) ⟨rfl, rfl, Nat.le_of_ble_eq_true rfl, Nat.le_of_ble_eq_true rfl⟩ d_Mo_begins_1 (fun H locs hP hD hS => ?_)
  refine lv_iconst (v := 0) hx hb d_Mo_begins_4 (by decide) ?_
  refine lv_istore_n (lv' := [(1, .int 0), (0, .ref (a 0))]) hx hb d_Mo_begins_5 rfl hl (by decide) rfl (fun ls hl => ?_)
  have lp6 : ∀ (n : Nat) (x1_6 : Int32) (z_6 : T_Mo) (H : Heap) (locs : List Loc) (ls : Array Slot), va_P D classes (ws_Mo g a z_6) H → va_D A (ws_Mo g a z_6) → va_S A s.heap H locs → lv_has ls 2 [(0, .ref (a 0)), (1, .int x1_6)] → d_Mo_begins_L6 n x1_6 z_6 = some v → GV p l e s m ({ frames := 4, cells := 0, slots := 0, locals := 97 } : Room) ([.ref (a 0)] : List Value).toArray below meth c A D g (ws_Mo g a v) H locs (F0 m 6 ls []) := by
    intro n
    induction n with
    | zero =>
      intro  x1_6 z_6 H locs ls hP hD hS hl hd
      have hd : none = some v := hd
      cases hd
    | succ n ih6 =>
      intro  x1_6 z_6 H locs ls hP hD hS hl hd
      have hd : B_Mo_begins_L6 (d_Mo_begins_L6 n) x1_6 z_6 = some v := hd
      generalize d_Mo_begins_L6 n = self6 at ih6 hd
      unfold B_Mo_begins_L6 at hd
      refine lv_iload_n hx hb d_Mo_begins_6 rfl (lv_at hl 1 rfl) ?_
      refine lv_iconst (v := 5) hx hb d_Mo_begins_7 (by decide) ?_
      refine lv_icmp_ge (tgt := 24) hx hb d_Mo_begins_8 (by decide) (fun h_3 => ?_) (fun h_3 => ?_)
      · have hd := ite_t hd h_3
        refine lv_aload_n hx hb d_Mo_begins_24 rfl (lv_at hl 0 rfl) ?_
        refine lv_iconst (v := (-1)) hx hb d_Mo_begins_25 (by decide) ?_
        refine va_put (D := D) (ci := 1) (v := .int (-1)) (ty := .int) (C := R_Mo) (T := F_Mo) (N := 26) hx hb hg i_Mo t_Mo t_Mo_ok n_Mo hown hK hP hD hS 0 rfl rfl 17 (by decide) (hg _ g_1009) (fun _ h9 => h9) rfl (by decide +kernel) rfl rfl (Nat.le_of_ble_eq_true rfl) d_Mo_begins_26 (fun H locs hP hD hS => ?_)
        have hP : va_P D classes (ws_Mo g a (u_Mo_bestLike z_6 (-1))) H := hP
        have hD : va_D A (ws_Mo g a (u_Mo_bestLike z_6 (-1))) := hD
        refine lv_aload_n hx hb d_Mo_begins_29 rfl (lv_at hl 0 rfl) ?_
        refine lv_iconst (v := 0) hx hb d_Mo_begins_30 (by decide) ?_
        refine va_put (D := D) (ci := 1) (v := .int 0) (ty := .int) (C := R_Mo) (T := F_Mo) (N := 26) hx hb hg i_Mo t_Mo t_Mo_ok n_Mo hown hK hP hD hS 0 rfl rfl 18 (by decide) (hg _ g_1010) (fun _ h9 => h9) rfl (by decide +kernel) rfl rfl (Nat.le_of_ble_eq_true rfl) d_Mo_begins_31 (fun H locs hP hD hS => ?_)
        have hP : va_P D classes (ws_Mo g a (u_Mo_mostOwned (u_Mo_bestLike z_6 (-1)) 0)) H := hP
        have hD : va_D A (ws_Mo g a (u_Mo_mostOwned (u_Mo_bestLike z_6 (-1)) 0)) := hD
        refine lv_aload_n hx hb d_Mo_begins_34 rfl (lv_at hl 0 rfl) ?_
        refine lv_bipush (v := (-5)) hx hb d_Mo_begins_35 (by decide) ?_
        refine va_put (D := D) (ci := 1) (v := .int (-5)) (ty := .int) (C := R_Mo) (T := F_Mo) (N := 26) hx hb hg i_Mo t_Mo t_Mo_ok n_Mo hown hK hP hD hS 0 rfl rfl 19 (by decide) (hg _ g_1011) (fun _ h9 => h9) rfl (by decide +kernel) rfl rfl (Nat.le_of_ble_eq_true rfl) d_Mo_begins_37 (fun H locs hP hD hS => ?_)
        have hP : va_P D classes (ws_Mo g a (u_Mo_fewest (u_Mo_mostOwned (u_Mo_bestLike z_6 (-1)) 0) (-5))) H := hP
        have hD : va_D A (ws_Mo g a (u_Mo_fewest (u_Mo_mostOwned (u_Mo_bestLike z_6 (-1)) 0) (-5))) := hD
        obtain rfl := Option.some.inj hd
        exact retV hx hb hr hlk hK hP hD hS d_Mo_begins_40
      · have hd := ite_f hd h_3
        refine lv_aload_n hx hb d_Mo_begins_11 rfl (lv_at hl 0 rfl) ?_
        refine va_get (D := D) (ci := 1) (v := .ref (a 8)) (C := R_Mo) (T := F_Mo) (N := 26) hx hb hg i_Mo hown hK hP 0 rfl rfl 14 (by decide) (hg _ g_1006) (fun _ h9 => h9) rfl d_Mo_begins_12 ?_
        refine lv_iload_n hx hb d_Mo_begins_15 rfl (lv_at hl 1 rfl) ?_
        refine lv_iconst (v := 0) hx hb d_Mo_begins_16 (by decide) ?_
        obtain ⟨h_4, hd⟩ := ite_s hd
        refine iastK hx hb hK hP hD hS 8 0 rfl rfl (inb_t h_4) rfl d_Mo_begins_17 (fun H locs hP hD hS => ?_)
        have hP : va_P D classes (ws_Mo g a (u_Mo_loads z_6 (upd (q_Mo_loads z_6) x1_6.toNatClampNeg 0))) H := hP
        have hD : va_D A (ws_Mo g a (u_Mo_loads z_6 (upd (q_Mo_loads z_6) x1_6.toNatClampNeg 0))) := hD
        refine lv_iinc (v := x1_6 + 1) (lv' := [(1, .int (x1_6 + 1)), (0, .ref (a 0))]) hx hb d_Mo_begins_18 hl (k := 1) rfl (by rfl) (by decide) rfl (fun ls hl => ?_)
        refine lv_goto (tgt := 6) hx hb d_Mo_begins_21 (by decide) ?_
        exact ih6 (x1_6 + 1) (u_Mo_loads z_6 (upd (q_Mo_loads z_6) x1_6.toNatClampNeg 0)) _ _ _ hP hD hS (lv_sub hl [1, 0] rfl) hd
  exact lp6 1000 0 v_1 _ _ _ hP hD hS (lv_sub hl [1, 0] rfl) hd
-- recursion: Mo_waysFrom
def B_Mo_waysFrom_L77 (rc : Int32 → Int32 → Int32 → T_Mo → Option (T_Mo)) (x1_f77 : Int32) (x2_f77 : Int32) (x3_f77 : Int32) (self77 : Int32 → T_Mo → Option (T_Mo)) (x4_77 : Int32) (z_77 : T_Mo) : Option (T_Mo) :=
  if ((q_Mo_s z_77) 0) ≤ x4_77 then (if inb x1_f77 7 = true then ((rc (x1_f77 + 1) x2_f77 x3_f77 (u_Mo_way z_77 (upd (q_Mo_way z_77) x1_f77.toNatClampNeg 4))).bind fun v_3 => some (v_3)) else none) else (if inb x4_77 5 = true then (if inb (58 + x1_f77) 901 = true then (if inb x4_77 4 = true then (if ((q_Mo_lifts z_77) x4_77.toNatClampNeg) < (((q_Mo_loads z_77) x4_77.toNatClampNeg) + ((q_Mo_s z_77) (58 + x1_f77).toNatClampNeg)) then (self77 (x4_77 + 1) z_77) else (if inb x4_77 5 = true then (if inb (58 + x1_f77) 901 = true then (if inb x4_77 5 = true then (if inb x1_f77 7 = true then (if inb ((7 * x4_77) + x1_f77) 28 = true then ((rc (x1_f77 + 1) (x2_f77 + ((q_Mo_likes (u_Mo_way (u_Mo_loads z_77 (upd (q_Mo_loads z_77) x4_77.toNatClampNeg (((q_Mo_loads z_77) x4_77.toNatClampNeg) + ((q_Mo_s z_77) (58 + x1_f77).toNatClampNeg)))) (upd (q_Mo_way (u_Mo_loads z_77 (upd (q_Mo_loads z_77) x4_77.toNatClampNeg (((q_Mo_loads z_77) x4_77.toNatClampNeg) + ((q_Mo_s z_77) (58 + x1_f77).toNatClampNeg))))) x1_f77.toNatClampNeg x4_77))) ((7 * x4_77) + x1_f77).toNatClampNeg)) (x3_f77 + 1) (u_Mo_way (u_Mo_loads z_77 (upd (q_Mo_loads z_77) x4_77.toNatClampNeg (((q_Mo_loads z_77) x4_77.toNatClampNeg) + ((q_Mo_s z_77) (58 + x1_f77).toNatClampNeg)))) (upd (q_Mo_way (u_Mo_loads z_77 (upd (q_Mo_loads z_77) x4_77.toNatClampNeg (((q_Mo_loads z_77) x4_77.toNatClampNeg) + ((q_Mo_s z_77) (58 + x1_f77).toNatClampNeg))))) x1_f77.toNatClampNeg x4_77))).bind fun v_7 => if inb x4_77 5 = true then (if inb (58 + x1_f77) 901 = true then (if inb x4_77 5 = true then (self77 (x4_77 + 1) (u_Mo_loads v_7 (upd (q_Mo_loads v_7) x4_77.toNatClampNeg (((q_Mo_loads v_7) x4_77.toNatClampNeg) - ((q_Mo_s v_7) (58 + x1_f77).toNatClampNeg))))) else none) else none) else none) else none) else none) else none) else none) else none)) else none) else none) else none)
def d_Mo_waysFrom_L77 (rc : Int32 → Int32 → Int32 → T_Mo → Option (T_Mo)) (x1_f77 : Int32) (x2_f77 : Int32) (x3_f77 : Int32) (n : Nat) : Int32 → T_Mo → Option (T_Mo) := recN (fun _ _ => none) (fun self => B_Mo_waysFrom_L77 rc x1_f77 x2_f77 x3_f77 self) n
def B_Mo_waysFrom_L46 (rc : Int32 → Int32 → Int32 → T_Mo → Option (T_Mo)) (self46 : Int32 → T_Mo → Option (T_Mo)) (x4_46 : Int32) (z_46 : T_Mo) : Option (T_Mo) :=
  if 7 ≤ x4_46 then (some (z_46)) else (if inb x4_46 7 = true then (if inb x4_46 7 = true then (self46 (x4_46 + 1) (u_Mo_bestWay z_46 (upd (q_Mo_bestWay z_46) x4_46.toNatClampNeg ((q_Mo_way z_46) x4_46.toNatClampNeg)))) else none) else none)
def d_Mo_waysFrom_L46 (rc : Int32 → Int32 → Int32 → T_Mo → Option (T_Mo)) (n : Nat) : Int32 → T_Mo → Option (T_Mo) := recN (fun _ _ => none) (fun self => B_Mo_waysFrom_L46 rc self) n
def B_Mo_waysFrom (rc : Int32 → Int32 → Int32 → T_Mo → Option (T_Mo)) (x1 : Int32) (x2 : Int32) (x3 : Int32) (z : T_Mo) : Option (T_Mo) :=
  if x1 = ((q_Mo_s z) 1) then (if x3 ≤ (q_Mo_mostOwned z) then (if x2 ≤ (q_Mo_bestLike z) then (some (z)) else (d_Mo_waysFrom_L46 rc  1000 0 (u_Mo_bestLike z x2))) else (if x2 ≤ (q_Mo_bestLike (u_Mo_mostOwned z x3)) then (some ((u_Mo_mostOwned z x3))) else (d_Mo_waysFrom_L46 rc  1000 0 (u_Mo_bestLike (u_Mo_mostOwned z x3) x2)))) else (d_Mo_waysFrom_L77 rc x1 x2 x3  1000 0 z)
def d_Mo_waysFrom (n : Nat) : Int32 → Int32 → Int32 → T_Mo → Option (T_Mo) := recN (fun _ _ _ _ => none) (fun rc => B_Mo_waysFrom rc) n
theorem d_Mo_waysFrom_0 : decode b_Mo_waysFrom 0 = .ok (.iload_n 1, 1) := by decide +kernel
theorem d_Mo_waysFrom_1 : decode b_Mo_waysFrom 1 = .ok (.aload_n 0, 1) := by decide +kernel
theorem d_Mo_waysFrom_2 : decode b_Mo_waysFrom 2 = .ok (.getfield 9, 3) := by decide +kernel
theorem d_Mo_waysFrom_5 : decode b_Mo_waysFrom 5 = .ok (.iconst 1, 1) := by decide +kernel
theorem d_Mo_waysFrom_6 : decode b_Mo_waysFrom 6 = .ok (.iaload, 1) := by decide +kernel
theorem d_Mo_waysFrom_7 : decode b_Mo_waysFrom 7 = .ok (.if_icmp .ne 67, 3) := by decide +kernel
theorem d_Mo_waysFrom_10 : decode b_Mo_waysFrom 10 = .ok (.aload_n 0, 1) := by decide +kernel
theorem d_Mo_waysFrom_11 : decode b_Mo_waysFrom 11 = .ok (.iload_n 3, 1) := by decide +kernel
theorem d_Mo_waysFrom_12 : decode b_Mo_waysFrom 12 = .ok (.aload_n 0, 1) := by decide +kernel
theorem d_Mo_waysFrom_13 : decode b_Mo_waysFrom 13 = .ok (.getfield 187, 3) := by decide +kernel
theorem d_Mo_waysFrom_16 : decode b_Mo_waysFrom 16 = .ok (.if_icmp .le 7, 3) := by decide +kernel
theorem d_Mo_waysFrom_19 : decode b_Mo_waysFrom 19 = .ok (.iload_n 3, 1) := by decide +kernel
theorem d_Mo_waysFrom_20 : decode b_Mo_waysFrom 20 = .ok (.goto 7, 3) := by decide +kernel
theorem d_Mo_waysFrom_23 : decode b_Mo_waysFrom 23 = .ok (.aload_n 0, 1) := by decide +kernel
theorem d_Mo_waysFrom_24 : decode b_Mo_waysFrom 24 = .ok (.getfield 187, 3) := by decide +kernel
theorem d_Mo_waysFrom_27 : decode b_Mo_waysFrom 27 = .ok (.putfield 187, 3) := by decide +kernel
theorem d_Mo_waysFrom_30 : decode b_Mo_waysFrom 30 = .ok (.iload_n 2, 1) := by decide +kernel
theorem d_Mo_waysFrom_31 : decode b_Mo_waysFrom 31 = .ok (.aload_n 0, 1) := by decide +kernel
theorem d_Mo_waysFrom_32 : decode b_Mo_waysFrom 32 = .ok (.getfield 184, 3) := by decide +kernel
theorem d_Mo_waysFrom_35 : decode b_Mo_waysFrom 35 = .ok (.if_icmp .le 38, 3) := by decide +kernel
theorem d_Mo_waysFrom_38 : decode b_Mo_waysFrom 38 = .ok (.aload_n 0, 1) := by decide +kernel
theorem d_Mo_waysFrom_39 : decode b_Mo_waysFrom 39 = .ok (.iload_n 2, 1) := by decide +kernel
theorem d_Mo_waysFrom_40 : decode b_Mo_waysFrom 40 = .ok (.putfield 184, 3) := by decide +kernel
theorem d_Mo_waysFrom_43 : decode b_Mo_waysFrom 43 = .ok (.iconst 0, 1) := by decide +kernel
theorem d_Mo_waysFrom_44 : decode b_Mo_waysFrom 44 = .ok (.istore 4, 2) := by decide +kernel
theorem d_Mo_waysFrom_46 : decode b_Mo_waysFrom 46 = .ok (.iload 4, 2) := by decide +kernel
theorem d_Mo_waysFrom_48 : decode b_Mo_waysFrom 48 = .ok (.bipush 7, 2) := by decide +kernel
theorem d_Mo_waysFrom_50 : decode b_Mo_waysFrom 50 = .ok (.if_icmp .ge 23, 3) := by decide +kernel
theorem d_Mo_waysFrom_53 : decode b_Mo_waysFrom 53 = .ok (.aload_n 0, 1) := by decide +kernel
theorem d_Mo_waysFrom_54 : decode b_Mo_waysFrom 54 = .ok (.getfield 40, 3) := by decide +kernel
theorem d_Mo_waysFrom_57 : decode b_Mo_waysFrom 57 = .ok (.iload 4, 2) := by decide +kernel
theorem d_Mo_waysFrom_59 : decode b_Mo_waysFrom 59 = .ok (.aload_n 0, 1) := by decide +kernel
theorem d_Mo_waysFrom_60 : decode b_Mo_waysFrom 60 = .ok (.getfield 37, 3) := by decide +kernel
theorem d_Mo_waysFrom_63 : decode b_Mo_waysFrom 63 = .ok (.iload 4, 2) := by decide +kernel
theorem d_Mo_waysFrom_65 : decode b_Mo_waysFrom 65 = .ok (.iaload, 1) := by decide +kernel
theorem d_Mo_waysFrom_66 : decode b_Mo_waysFrom 66 = .ok (.iastore, 1) := by decide +kernel
theorem d_Mo_waysFrom_67 : decode b_Mo_waysFrom 67 = .ok (.iinc 4 1, 3) := by decide +kernel
theorem d_Mo_waysFrom_70 : decode b_Mo_waysFrom 70 = .ok (.goto (-24), 3) := by decide +kernel
theorem d_Mo_waysFrom_73 : decode b_Mo_waysFrom 73 = .ok (.return_, 1) := by decide +kernel
theorem d_Mo_waysFrom_74 : decode b_Mo_waysFrom 74 = .ok (.iconst 0, 1) := by decide +kernel
theorem d_Mo_waysFrom_75 : decode b_Mo_waysFrom 75 = .ok (.istore 4, 2) := by decide +kernel
theorem d_Mo_waysFrom_77 : decode b_Mo_waysFrom 77 = .ok (.iload 4, 2) := by decide +kernel
theorem d_Mo_waysFrom_79 : decode b_Mo_waysFrom 79 = .ok (.aload_n 0, 1) := by decide +kernel
theorem d_Mo_waysFrom_80 : decode b_Mo_waysFrom 80 = .ok (.getfield 9, 3) := by decide +kernel
theorem d_Mo_waysFrom_83 : decode b_Mo_waysFrom 83 = .ok (.iconst 0, 1) := by decide +kernel
theorem d_Mo_waysFrom_84 : decode b_Mo_waysFrom 84 = .ok (.iaload, 1) := by decide +kernel
theorem d_Mo_waysFrom_85 : decode b_Mo_waysFrom 85 = .ok (.if_icmp .ge 106, 3) := by decide +kernel
theorem d_Mo_waysFrom_88 : decode b_Mo_waysFrom 88 = .ok (.aload_n 0, 1) := by decide +kernel
theorem d_Mo_waysFrom_89 : decode b_Mo_waysFrom 89 = .ok (.getfield 34, 3) := by decide +kernel
theorem d_Mo_waysFrom_92 : decode b_Mo_waysFrom 92 = .ok (.iload 4, 2) := by decide +kernel
theorem d_Mo_waysFrom_94 : decode b_Mo_waysFrom 94 = .ok (.iaload, 1) := by decide +kernel
theorem d_Mo_waysFrom_95 : decode b_Mo_waysFrom 95 = .ok (.aload_n 0, 1) := by decide +kernel
theorem d_Mo_waysFrom_96 : decode b_Mo_waysFrom 96 = .ok (.getfield 9, 3) := by decide +kernel
theorem d_Mo_waysFrom_99 : decode b_Mo_waysFrom 99 = .ok (.bipush 58, 2) := by decide +kernel
theorem d_Mo_waysFrom_101 : decode b_Mo_waysFrom 101 = .ok (.iload_n 1, 1) := by decide +kernel
theorem d_Mo_waysFrom_102 : decode b_Mo_waysFrom 102 = .ok (.iadd, 1) := by decide +kernel
theorem d_Mo_waysFrom_103 : decode b_Mo_waysFrom 103 = .ok (.iaload, 1) := by decide +kernel
theorem d_Mo_waysFrom_104 : decode b_Mo_waysFrom 104 = .ok (.iadd, 1) := by decide +kernel
theorem d_Mo_waysFrom_105 : decode b_Mo_waysFrom 105 = .ok (.aload_n 0, 1) := by decide +kernel
theorem d_Mo_waysFrom_106 : decode b_Mo_waysFrom 106 = .ok (.getfield 31, 3) := by decide +kernel
theorem d_Mo_waysFrom_109 : decode b_Mo_waysFrom 109 = .ok (.iload 4, 2) := by decide +kernel
theorem d_Mo_waysFrom_111 : decode b_Mo_waysFrom 111 = .ok (.iaload, 1) := by decide +kernel
theorem d_Mo_waysFrom_112 : decode b_Mo_waysFrom 112 = .ok (.if_icmp .gt 73, 3) := by decide +kernel
theorem d_Mo_waysFrom_115 : decode b_Mo_waysFrom 115 = .ok (.aload_n 0, 1) := by decide +kernel
theorem d_Mo_waysFrom_116 : decode b_Mo_waysFrom 116 = .ok (.getfield 34, 3) := by decide +kernel
theorem d_Mo_waysFrom_119 : decode b_Mo_waysFrom 119 = .ok (.iload 4, 2) := by decide +kernel
theorem d_Mo_waysFrom_121 : decode b_Mo_waysFrom 121 = .ok (.dup2, 1) := by decide +kernel
theorem d_Mo_waysFrom_122 : decode b_Mo_waysFrom 122 = .ok (.iaload, 1) := by decide +kernel
theorem d_Mo_waysFrom_123 : decode b_Mo_waysFrom 123 = .ok (.aload_n 0, 1) := by decide +kernel
theorem d_Mo_waysFrom_124 : decode b_Mo_waysFrom 124 = .ok (.getfield 9, 3) := by decide +kernel
theorem d_Mo_waysFrom_127 : decode b_Mo_waysFrom 127 = .ok (.bipush 58, 2) := by decide +kernel
theorem d_Mo_waysFrom_129 : decode b_Mo_waysFrom 129 = .ok (.iload_n 1, 1) := by decide +kernel
theorem d_Mo_waysFrom_130 : decode b_Mo_waysFrom 130 = .ok (.iadd, 1) := by decide +kernel
theorem d_Mo_waysFrom_131 : decode b_Mo_waysFrom 131 = .ok (.iaload, 1) := by decide +kernel
theorem d_Mo_waysFrom_132 : decode b_Mo_waysFrom 132 = .ok (.iadd, 1) := by decide +kernel
theorem d_Mo_waysFrom_133 : decode b_Mo_waysFrom 133 = .ok (.iastore, 1) := by decide +kernel
theorem d_Mo_waysFrom_134 : decode b_Mo_waysFrom 134 = .ok (.aload_n 0, 1) := by decide +kernel
theorem d_Mo_waysFrom_135 : decode b_Mo_waysFrom 135 = .ok (.getfield 37, 3) := by decide +kernel
theorem d_Mo_waysFrom_138 : decode b_Mo_waysFrom 138 = .ok (.iload_n 1, 1) := by decide +kernel
theorem d_Mo_waysFrom_139 : decode b_Mo_waysFrom 139 = .ok (.iload 4, 2) := by decide +kernel
theorem d_Mo_waysFrom_141 : decode b_Mo_waysFrom 141 = .ok (.iastore, 1) := by decide +kernel
theorem d_Mo_waysFrom_142 : decode b_Mo_waysFrom 142 = .ok (.aload_n 0, 1) := by decide +kernel
theorem d_Mo_waysFrom_143 : decode b_Mo_waysFrom 143 = .ok (.iload_n 1, 1) := by decide +kernel
theorem d_Mo_waysFrom_144 : decode b_Mo_waysFrom 144 = .ok (.iconst 1, 1) := by decide +kernel
theorem d_Mo_waysFrom_145 : decode b_Mo_waysFrom 145 = .ok (.iadd, 1) := by decide +kernel
theorem d_Mo_waysFrom_146 : decode b_Mo_waysFrom 146 = .ok (.iload_n 2, 1) := by decide +kernel
theorem d_Mo_waysFrom_147 : decode b_Mo_waysFrom 147 = .ok (.aload_n 0, 1) := by decide +kernel
theorem d_Mo_waysFrom_148 : decode b_Mo_waysFrom 148 = .ok (.getfield 28, 3) := by decide +kernel
theorem d_Mo_waysFrom_151 : decode b_Mo_waysFrom 151 = .ok (.bipush 7, 2) := by decide +kernel
theorem d_Mo_waysFrom_153 : decode b_Mo_waysFrom 153 = .ok (.iload 4, 2) := by decide +kernel
theorem d_Mo_waysFrom_155 : decode b_Mo_waysFrom 155 = .ok (.imul, 1) := by decide +kernel
theorem d_Mo_waysFrom_156 : decode b_Mo_waysFrom 156 = .ok (.iload_n 1, 1) := by decide +kernel
theorem d_Mo_waysFrom_157 : decode b_Mo_waysFrom 157 = .ok (.iadd, 1) := by decide +kernel
theorem d_Mo_waysFrom_158 : decode b_Mo_waysFrom 158 = .ok (.iaload, 1) := by decide +kernel
theorem d_Mo_waysFrom_159 : decode b_Mo_waysFrom 159 = .ok (.iadd, 1) := by decide +kernel
theorem d_Mo_waysFrom_160 : decode b_Mo_waysFrom 160 = .ok (.iload_n 3, 1) := by decide +kernel
theorem d_Mo_waysFrom_161 : decode b_Mo_waysFrom 161 = .ok (.iconst 1, 1) := by decide +kernel
theorem d_Mo_waysFrom_162 : decode b_Mo_waysFrom 162 = .ok (.iadd, 1) := by decide +kernel
theorem d_Mo_waysFrom_163 : decode b_Mo_waysFrom 163 = .ok (.invokevirtual 193, 3) := by decide +kernel
theorem d_Mo_waysFrom_166 : decode b_Mo_waysFrom 166 = .ok (.aload_n 0, 1) := by decide +kernel
theorem d_Mo_waysFrom_167 : decode b_Mo_waysFrom 167 = .ok (.getfield 34, 3) := by decide +kernel
theorem d_Mo_waysFrom_170 : decode b_Mo_waysFrom 170 = .ok (.iload 4, 2) := by decide +kernel
theorem d_Mo_waysFrom_172 : decode b_Mo_waysFrom 172 = .ok (.dup2, 1) := by decide +kernel
theorem d_Mo_waysFrom_173 : decode b_Mo_waysFrom 173 = .ok (.iaload, 1) := by decide +kernel
theorem d_Mo_waysFrom_174 : decode b_Mo_waysFrom 174 = .ok (.aload_n 0, 1) := by decide +kernel
theorem d_Mo_waysFrom_175 : decode b_Mo_waysFrom 175 = .ok (.getfield 9, 3) := by decide +kernel
theorem d_Mo_waysFrom_178 : decode b_Mo_waysFrom 178 = .ok (.bipush 58, 2) := by decide +kernel
theorem d_Mo_waysFrom_180 : decode b_Mo_waysFrom 180 = .ok (.iload_n 1, 1) := by decide +kernel
theorem d_Mo_waysFrom_181 : decode b_Mo_waysFrom 181 = .ok (.iadd, 1) := by decide +kernel
theorem d_Mo_waysFrom_182 : decode b_Mo_waysFrom 182 = .ok (.iaload, 1) := by decide +kernel
theorem d_Mo_waysFrom_183 : decode b_Mo_waysFrom 183 = .ok (.isub, 1) := by decide +kernel
theorem d_Mo_waysFrom_184 : decode b_Mo_waysFrom 184 = .ok (.iastore, 1) := by decide +kernel
theorem d_Mo_waysFrom_185 : decode b_Mo_waysFrom 185 = .ok (.iinc 4 1, 3) := by decide +kernel
theorem d_Mo_waysFrom_188 : decode b_Mo_waysFrom 188 = .ok (.goto (-111), 3) := by decide +kernel
theorem d_Mo_waysFrom_191 : decode b_Mo_waysFrom 191 = .ok (.aload_n 0, 1) := by decide +kernel
theorem d_Mo_waysFrom_192 : decode b_Mo_waysFrom 192 = .ok (.getfield 37, 3) := by decide +kernel
theorem d_Mo_waysFrom_195 : decode b_Mo_waysFrom 195 = .ok (.iload_n 1, 1) := by decide +kernel
theorem d_Mo_waysFrom_196 : decode b_Mo_waysFrom 196 = .ok (.iconst 4, 1) := by decide +kernel
theorem d_Mo_waysFrom_197 : decode b_Mo_waysFrom 197 = .ok (.iastore, 1) := by decide +kernel
theorem d_Mo_waysFrom_198 : decode b_Mo_waysFrom 198 = .ok (.aload_n 0, 1) := by decide +kernel
theorem d_Mo_waysFrom_199 : decode b_Mo_waysFrom 199 = .ok (.iload_n 1, 1) := by decide +kernel
theorem d_Mo_waysFrom_200 : decode b_Mo_waysFrom 200 = .ok (.iconst 1, 1) := by decide +kernel
theorem d_Mo_waysFrom_201 : decode b_Mo_waysFrom 201 = .ok (.iadd, 1) := by decide +kernel
theorem d_Mo_waysFrom_202 : decode b_Mo_waysFrom 202 = .ok (.iload_n 2, 1) := by decide +kernel
theorem d_Mo_waysFrom_203 : decode b_Mo_waysFrom 203 = .ok (.iload_n 3, 1) := by decide +kernel
theorem d_Mo_waysFrom_204 : decode b_Mo_waysFrom 204 = .ok (.invokevirtual 193, 3) := by decide +kernel
theorem d_Mo_waysFrom_207 : decode b_Mo_waysFrom 207 = .ok (.return_, 1) := by decide +kernel
theorem o_Mo_waysFrom : OkV y_Mo_waysFrom "OwnsLiftModel" b_Mo_waysFrom 5 none 3 := ⟨⟨rfl, by decide +kernel, by decide +kernel, by decide +kernel⟩, g_1256, g_54, g_81, g_1257⟩

set_option maxHeartbeats 8000000 in
set_option maxRecDepth 100000 in
theorem cg_Mo_waysFrom : ∀ nr : Nat, (∀ (l : Launch) (D : va_G) (g : Nat → ClassId) (a : Nat → Nat) (x1 : Int32) (x2 : Int32) (x3 : Int32) (z : T_Mo) (v : T_Mo) (h : d_Mo_waysFrom nr x1 x2 x3 z = some v), MV l y_Mo_waysFrom b_Mo_waysFrom 5 ({ frames := 1 + 2 * nr, cells := 0, slots := 0, locals := 1 + 60 * nr } : Room) D g [.ref (a 0), .int x1, .int x2, .int x3] (ws_Mo g a z) (ws_Mo g a v)) := by
  intro nr
  induction nr with
  | zero =>
    exact (by intro l D g a x1 x2 x3 z v h; have h : none = some v := h; cases h)
  | succ nr ih =>
    refine ?_
    · intro l D g a x1 x2 x3 z v h
      have hd : B_Mo_waysFrom (d_Mo_waysFrom nr) x1 x2 x3 z = some v := h
      have ihc := ih
      generalize hrc : (d_Mo_waysFrom nr) = rc at hd
      have ih : ∀ (l : Launch) (D : va_G) (g : Nat → ClassId) (a : Nat → Nat) (x1 : Int32) (x2 : Int32) (x3 : Int32) (z : T_Mo) (v : T_Mo) (h : rc x1 x2 x3 z = some v), MV l y_Mo_waysFrom b_Mo_waysFrom 5 ({ frames := 1 + 2 * nr, cells := 0, slots := 0, locals := 1 + 60 * nr } : Room) D g [.ref (a 0), .int x1, .int x2, .int x3] (ws_Mo g a z) (ws_Mo g a v) := fun l D g a x1 x2 x3 z v h => ih l D g a x1 x2 x3 z v (by rw [hrc]; exact h)
      clear ihc hrc
      unfold B_Mo_waysFrom at hd
      refine enterV rfl (Nat.le_of_ble_eq_true rfl) (fun p e s m below meth c A ls hx hb hml hr hown hg hlk hK hA hP hD hS hCs hl => ?_)
      have hown : s.vm.findClass "OwnsLiftModel" = some m.cls := hown
      have hl : lv_has ls 5 [(0, .ref (a 0)), (1, .int x1), (2, .int x2), (3, .int x3)] := hl
      show GV p l e s m ({ frames := 1 + 2 * (nr + 1), cells := 0, slots := 0, locals := 1 + 60 * (nr + 1) } : Room) ([.ref (a 0), .int x1, .int x2, .int x3] : List Value).toArray below meth c A D g (ws_Mo g a v) s.heap [] (F0 m 0 ls [])
      refine lv_iload_n hx hb d_Mo_waysFrom_0 rfl (lv_at hl 1 rfl) ?_
      refine lv_aload_n hx hb d_Mo_waysFrom_1 rfl (lv_at hl 0 rfl) ?_
      refine va_get (D := D) (ci := 1) (v := .ref (a 1)) (C := R_Mo) (T := F_Mo) (N := 26) hx hb hg i_Mo hown hK hP 0 rfl rfl 1 (by decide) (hg _ g_993) (fun _ h9 => h9) rfl d_Mo_waysFrom_2 ?_
      refine lv_iconst (v := 1) hx hb d_Mo_waysFrom_5 (by decide) ?_
      refine ialdK hx hb hK hP 1 0 rfl rfl (inb_t (by decide +kernel)) (k := 1) (by decide +kernel) d_Mo_waysFrom_6 ?_
      refine lv_icmp_ne (tgt := 74) hx hb d_Mo_waysFrom_7 (by decide) (fun h_1 => ?_) (fun h_1 => ?_)
      · have hd := ite_f hd h_1
        refine lv_iconst (v := 0) hx hb d_Mo_waysFrom_74 (by decide) ?_
        refine lv_istore (lv' := [(4, .int 0), (0, .ref (a 0)), (1, .int x1), (2, .int x2), (3, .int x3)]) hx hb d_Mo_waysFrom_75 hl (by decide) rfl (fun ls hl => ?_)
        have lp77 : ∀ (x1_f77 : Int32) (x2_f77 : Int32) (x3_f77 : Int32) (n : Nat) (x4_77 : Int32) (z_77 : T_Mo) (H : Heap) (locs : List Loc) (ls : Array Slot), va_P D classes (ws_Mo g a z_77) H → va_D A (ws_Mo g a z_77) → va_S A s.heap H locs → lv_has ls 5 [(0, .ref (a 0)), (1, .int x1_f77), (2, .int x2_f77), (3, .int x3_f77), (4, .int x4_77)] → d_Mo_waysFrom_L77 rc x1_f77 x2_f77 x3_f77 n x4_77 z_77 = some v → GV p l e s m ({ frames := 1 + 2 * (nr + 1), cells := 0, slots := 0, locals := 1 + 60 * (nr + 1) } : Room) ([.ref (a 0), .int x1, .int x2, .int x3] : List Value).toArray below meth c A D g (ws_Mo g a v) H locs (F0 m 77 ls []) := by
          intro x1_f77 x2_f77 x3_f77 n
          induction n with
          | zero =>
            intro  x4_77 z_77 H locs ls hP hD hS hl hd
            have hd : none = some v := hd
            cases hd
          | succ n ih77 =>
            intro  x4_77 z_77 H locs ls hP hD hS hl hd
            have hd : B_Mo_waysFrom_L77 rc x1_f77 x2_f77 x3_f77 (d_Mo_waysFrom_L77 rc x1_f77 x2_f77 x3_f77 n) x4_77 z_77 = some v := hd
            generalize d_Mo_waysFrom_L77 rc x1_f77 x2_f77 x3_f77 n = self77 at ih77 hd
            unfold B_Mo_waysFrom_L77 at hd
            refine lv_iload hx hb d_Mo_waysFrom_77 (lv_at hl 4 rfl) ?_
            refine lv_aload_n hx hb d_Mo_waysFrom_79 rfl (lv_at hl 0 rfl) ?_
            refine va_get (D := D) (ci := 1) (v := .ref (a 1)) (C := R_Mo) (T := F_Mo) (N := 26) hx hb hg i_Mo hown hK hP 0 rfl rfl 1 (by decide) (hg _ g_993) (fun _ h9 => h9) rfl d_Mo_waysFrom_80 ?_
            refine lv_iconst (v := 0) hx hb d_Mo_waysFrom_83 (by decide) ?_
            refine ialdK hx hb hK hP 1 0 rfl rfl (inb_t (by decide +kernel)) (k := 0) (by decide +kernel) d_Mo_waysFrom_84 ?_
            refine lv_icmp_ge (tgt := 191) hx hb d_Mo_waysFrom_85 (by decide) (fun h_2 => ?_) (fun h_2 => ?_)
            · have hd := ite_t hd h_2
              refine lv_aload_n hx hb d_Mo_waysFrom_191 rfl (lv_at hl 0 rfl) ?_
              refine va_get (D := D) (ci := 1) (v := .ref (a 9)) (C := R_Mo) (T := F_Mo) (N := 26) hx hb hg i_Mo hown hK hP 0 rfl rfl 15 (by decide) (hg _ g_1007) (fun _ h9 => h9) rfl d_Mo_waysFrom_192 ?_
              refine lv_iload_n hx hb d_Mo_waysFrom_195 rfl (lv_at hl 1 rfl) ?_
              refine lv_iconst (v := 4) hx hb d_Mo_waysFrom_196 (by decide) ?_
              obtain ⟨h_5, hd⟩ := ite_s hd
              refine iastK hx hb hK hP hD hS 9 0 rfl rfl (inb_t h_5) rfl d_Mo_waysFrom_197 (fun H locs hP hD hS => ?_)
              have hP : va_P D classes (ws_Mo g a (u_Mo_way z_77 (upd (q_Mo_way z_77) x1_f77.toNatClampNeg 4))) H := hP
              have hD : va_D A (ws_Mo g a (u_Mo_way z_77 (upd (q_Mo_way z_77) x1_f77.toNatClampNeg 4))) := hD
              refine lv_aload_n hx hb d_Mo_waysFrom_198 rfl (lv_at hl 0 rfl) ?_
              refine lv_iload_n hx hb d_Mo_waysFrom_199 rfl (lv_at hl 1 rfl) ?_
              refine lv_iconst (v := 1) hx hb d_Mo_waysFrom_200 (by decide) ?_
              refine lv_iadd hx hb d_Mo_waysFrom_201 ?_
              refine lv_iload_n hx hb d_Mo_waysFrom_202 rfl (lv_at hl 2 rfl) ?_
              refine lv_iload_n hx hb d_Mo_waysFrom_203 rfl (lv_at hl 3 rfl) ?_
              obtain ⟨v_3, e_4, hd⟩ := bind_s hd
              refine callVV (ws' := ws_Mo g a v_3) (rest := []) (As := [.int (x1_f77 + 1), .int x2_f77, .int x3_f77]) hx hb hml hown hg hK hP hD hS hA hCs hl.1 (ih l D g a (x1_f77 + 1) x2_f77 x3_f77 (u_Mo_way z_77 (upd (q_Mo_way z_77) x1_f77.toNatClampNeg 4)) _ e_4) o_Mo_waysFrom g_1254 (ci := 1) (q0 := 0) rfl rfl (List.range' 0 12) (segC1 rfl rfl) (by decide) rfl (segP1 rfl rfl) rfl rfl (Nat.le_of_ble_eq_true rfl) ⟨rfl, rfl, by show _ ≤ _; (try dsimp only); omega, by show _ ≤ _; (try dsimp only); omega⟩ d_Mo_waysFrom_204 (fun H locs hP hD hS => ?_)
              obtain rfl := Option.some.inj hd
              exact retV hx hb hr hlk hK hP hD hS d_Mo_waysFrom_207
            · have hd := ite_f hd h_2
              refine lv_aload_n hx hb d_Mo_waysFrom_88 rfl (lv_at hl 0 rfl) ?_
              refine va_get (D := D) (ci := 1) (v := .ref (a 8)) (C := R_Mo) (T := F_Mo) (N := 26) hx hb hg i_Mo hown hK hP 0 rfl rfl 14 (by decide) (hg _ g_1006) (fun _ h9 => h9) rfl d_Mo_waysFrom_89 ?_
              refine lv_iload hx hb d_Mo_waysFrom_92 (lv_at hl 4 rfl) ?_
              obtain ⟨h_19, hd⟩ := ite_s hd
              refine ialdK hx hb hK hP 8 0 rfl rfl (inb_t h_19) rfl d_Mo_waysFrom_94 ?_
              refine lv_aload_n hx hb d_Mo_waysFrom_95 rfl (lv_at hl 0 rfl) ?_
              refine va_get (D := D) (ci := 1) (v := .ref (a 1)) (C := R_Mo) (T := F_Mo) (N := 26) hx hb hg i_Mo hown hK hP 0 rfl rfl 1 (by decide) (hg _ g_993) (fun _ h9 => h9) rfl d_Mo_waysFrom_96 ?_
              refine lv_bipush (v := 58) hx hb d_Mo_waysFrom_99 (by decide) ?_
              refine lv_iload_n hx hb d_Mo_waysFrom_101 rfl (lv_at hl 1 rfl) ?_
              refine lv_iadd hx hb d_Mo_waysFrom_102 ?_
              obtain ⟨h_18, hd⟩ := ite_s hd
              refine ialdK hx hb hK hP 1 0 rfl rfl (inb_t h_18) rfl d_Mo_waysFrom_103 ?_
              refine lv_iadd hx hb d_Mo_waysFrom_104 ?_
              refine lv_aload_n hx hb d_Mo_waysFrom_105 rfl (lv_at hl 0 rfl) ?_
              refine va_get (D := D) (ci := 1) (v := .ref (a 7)) (C := R_Mo) (T := F_Mo) (N := 26) hx hb hg i_Mo hown hK hP 0 rfl rfl 13 (by decide) (hg _ g_1005) (fun _ h9 => h9) rfl d_Mo_waysFrom_106 ?_
              refine lv_iload hx hb d_Mo_waysFrom_109 (lv_at hl 4 rfl) ?_
              obtain ⟨h_17, hd⟩ := ite_s hd
              refine ialdK hx hb hK hP 7 0 rfl rfl (inb_t h_17) rfl d_Mo_waysFrom_111 ?_
              refine lv_icmp_gt (tgt := 185) hx hb d_Mo_waysFrom_112 (by decide) (fun h_6 => ?_) (fun h_6 => ?_)
              · have hd := ite_t hd h_6
                refine lv_iinc (v := x4_77 + 1) (lv' := [(4, .int (x4_77 + 1)), (0, .ref (a 0)), (1, .int x1_f77), (2, .int x2_f77), (3, .int x3_f77)]) hx hb d_Mo_waysFrom_185 hl (k := 4) rfl (by rfl) (by decide) rfl (fun ls hl => ?_)
                refine lv_goto (tgt := 77) hx hb d_Mo_waysFrom_188 (by decide) ?_
                exact ih77 (x4_77 + 1) z_77 _ _ _ hP hD hS (lv_sub hl [1, 2, 3, 4, 0] rfl) hd
              · have hd := ite_f hd h_6
                refine lv_aload_n hx hb d_Mo_waysFrom_115 rfl (lv_at hl 0 rfl) ?_
                refine va_get (D := D) (ci := 1) (v := .ref (a 8)) (C := R_Mo) (T := F_Mo) (N := 26) hx hb hg i_Mo hown hK hP 0 rfl rfl 14 (by decide) (hg _ g_1006) (fun _ h9 => h9) rfl d_Mo_waysFrom_116 ?_
                refine lv_iload hx hb d_Mo_waysFrom_119 (lv_at hl 4 rfl) ?_
                refine lv_dup2_11 hx hb d_Mo_waysFrom_121 rfl rfl ?_
                obtain ⟨h_16, hd⟩ := ite_s hd
                refine ialdK hx hb hK hP 8 0 rfl rfl (inb_t h_16) rfl d_Mo_waysFrom_122 ?_
                refine lv_aload_n hx hb d_Mo_waysFrom_123 rfl (lv_at hl 0 rfl) ?_
                refine va_get (D := D) (ci := 1) (v := .ref (a 1)) (C := R_Mo) (T := F_Mo) (N := 26) hx hb hg i_Mo hown hK hP 0 rfl rfl 1 (by decide) (hg _ g_993) (fun _ h9 => h9) rfl d_Mo_waysFrom_124 ?_
                refine lv_bipush (v := 58) hx hb d_Mo_waysFrom_127 (by decide) ?_
                refine lv_iload_n hx hb d_Mo_waysFrom_129 rfl (lv_at hl 1 rfl) ?_
                refine lv_iadd hx hb d_Mo_waysFrom_130 ?_
                obtain ⟨h_15, hd⟩ := ite_s hd
                refine ialdK hx hb hK hP 1 0 rfl rfl (inb_t h_15) rfl d_Mo_waysFrom_131 ?_
                refine lv_iadd hx hb d_Mo_waysFrom_132 ?_
                obtain ⟨h_14, hd⟩ := ite_s hd
                refine iastK hx hb hK hP hD hS 8 0 rfl rfl (inb_t h_14) rfl d_Mo_waysFrom_133 (fun H locs hP hD hS => ?_)
                have hP : va_P D classes (ws_Mo g a (u_Mo_loads z_77 (upd (q_Mo_loads z_77) x4_77.toNatClampNeg (((q_Mo_loads z_77) x4_77.toNatClampNeg) + ((q_Mo_s z_77) (58 + x1_f77).toNatClampNeg))))) H := hP
                have hD : va_D A (ws_Mo g a (u_Mo_loads z_77 (upd (q_Mo_loads z_77) x4_77.toNatClampNeg (((q_Mo_loads z_77) x4_77.toNatClampNeg) + ((q_Mo_s z_77) (58 + x1_f77).toNatClampNeg))))) := hD
                refine lv_aload_n hx hb d_Mo_waysFrom_134 rfl (lv_at hl 0 rfl) ?_
                refine va_get (D := D) (ci := 1) (v := .ref (a 9)) (C := R_Mo) (T := F_Mo) (N := 26) hx hb hg i_Mo hown hK hP 0 rfl rfl 15 (by decide) (hg _ g_1007) (fun _ h9 => h9) rfl d_Mo_waysFrom_135 ?_
                refine lv_iload_n hx hb d_Mo_waysFrom_138 rfl (lv_at hl 1 rfl) ?_
                refine lv_iload hx hb d_Mo_waysFrom_139 (lv_at hl 4 rfl) ?_
                obtain ⟨h_13, hd⟩ := ite_s hd
                refine iastK hx hb hK hP hD hS 9 0 rfl rfl (inb_t h_13) rfl d_Mo_waysFrom_141 (fun H locs hP hD hS => ?_)
                have hP : va_P D classes (ws_Mo g a (u_Mo_way (u_Mo_loads z_77 (upd (q_Mo_loads z_77) x4_77.toNatClampNeg (((q_Mo_loads z_77) x4_77.toNatClampNeg) + ((q_Mo_s z_77) (58 + x1_f77).toNatClampNeg)))) (upd (q_Mo_way (u_Mo_loads z_77 (upd (q_Mo_loads z_77) x4_77.toNatClampNeg (((q_Mo_loads z_77) x4_77.toNatClampNeg) + ((q_Mo_s z_77) (58 + x1_f77).toNatClampNeg))))) x1_f77.toNatClampNeg x4_77))) H := hP
                have hD : va_D A (ws_Mo g a (u_Mo_way (u_Mo_loads z_77 (upd (q_Mo_loads z_77) x4_77.toNatClampNeg (((q_Mo_loads z_77) x4_77.toNatClampNeg) + ((q_Mo_s z_77) (58 + x1_f77).toNatClampNeg)))) (upd (q_Mo_way (u_Mo_loads z_77 (upd (q_Mo_loads z_77) x4_77.toNatClampNeg (((q_Mo_loads z_77) x4_77.toNatClampNeg) + ((q_Mo_s z_77) (58 + x1_f77).toNatClampNeg))))) x1_f77.toNatClampNeg x4_77))) := hD
                refine lv_aload_n hx hb d_Mo_waysFrom_142 rfl (lv_at hl 0 rfl) ?_
                refine lv_iload_n hx hb d_Mo_waysFrom_143 rfl (lv_at hl 1 rfl) ?_
                refine lv_iconst (v := 1) hx hb d_Mo_waysFrom_144 (by decide) ?_
                refine lv_iadd hx hb d_Mo_waysFrom_145 ?_
                refine lv_iload_n hx hb d_Mo_waysFrom_146 rfl (lv_at hl 2 rfl) ?_
                refine lv_aload_n hx hb d_Mo_waysFrom_147 rfl (lv_at hl 0 rfl) ?_
                refine va_get (D := D) (ci := 1) (v := .ref (a 6)) (C := R_Mo) (T := F_Mo) (N := 26) hx hb hg i_Mo hown hK hP 0 rfl rfl 12 (by decide) (hg _ g_1004) (fun _ h9 => h9) rfl d_Mo_waysFrom_148 ?_
                refine lv_bipush (v := 7) hx hb d_Mo_waysFrom_151 (by decide) ?_
                refine lv_iload hx hb d_Mo_waysFrom_153 (lv_at hl 4 rfl) ?_
                refine lv_imul hx hb d_Mo_waysFrom_155 ?_
                refine lv_iload_n hx hb d_Mo_waysFrom_156 rfl (lv_at hl 1 rfl) ?_
                refine lv_iadd hx hb d_Mo_waysFrom_157 ?_
                obtain ⟨h_12, hd⟩ := ite_s hd
                refine ialdK hx hb hK hP 6 0 rfl rfl (inb_t h_12) rfl d_Mo_waysFrom_158 ?_
                refine lv_iadd hx hb d_Mo_waysFrom_159 ?_
                refine lv_iload_n hx hb d_Mo_waysFrom_160 rfl (lv_at hl 3 rfl) ?_
                refine lv_iconst (v := 1) hx hb d_Mo_waysFrom_161 (by decide) ?_
                refine lv_iadd hx hb d_Mo_waysFrom_162 ?_
                obtain ⟨v_7, e_8, hd⟩ := bind_s hd
                refine callVV (ws' := ws_Mo g a v_7) (rest := []) (As := [.int (x1_f77 + 1), .int (x2_f77 + ((q_Mo_likes (u_Mo_way (u_Mo_loads z_77 (upd (q_Mo_loads z_77) x4_77.toNatClampNeg (((q_Mo_loads z_77) x4_77.toNatClampNeg) + ((q_Mo_s z_77) (58 + x1_f77).toNatClampNeg)))) (upd (q_Mo_way (u_Mo_loads z_77 (upd (q_Mo_loads z_77) x4_77.toNatClampNeg (((q_Mo_loads z_77) x4_77.toNatClampNeg) + ((q_Mo_s z_77) (58 + x1_f77).toNatClampNeg))))) x1_f77.toNatClampNeg x4_77))) ((7 * x4_77) + x1_f77).toNatClampNeg)), .int (x3_f77 + 1)]) hx hb hml hown hg hK hP hD hS hA hCs hl.1 (ih l D g a (x1_f77 + 1) (x2_f77 + ((q_Mo_likes (u_Mo_way (u_Mo_loads z_77 (upd (q_Mo_loads z_77) x4_77.toNatClampNeg (((q_Mo_loads z_77) x4_77.toNatClampNeg) + ((q_Mo_s z_77) (58 + x1_f77).toNatClampNeg)))) (upd (q_Mo_way (u_Mo_loads z_77 (upd (q_Mo_loads z_77) x4_77.toNatClampNeg (((q_Mo_loads z_77) x4_77.toNatClampNeg) + ((q_Mo_s z_77) (58 + x1_f77).toNatClampNeg))))) x1_f77.toNatClampNeg x4_77))) ((7 * x4_77) + x1_f77).toNatClampNeg)) (x3_f77 + 1) (u_Mo_way (u_Mo_loads z_77 (upd (q_Mo_loads z_77) x4_77.toNatClampNeg (((q_Mo_loads z_77) x4_77.toNatClampNeg) + ((q_Mo_s z_77) (58 + x1_f77).toNatClampNeg)))) (upd (q_Mo_way (u_Mo_loads z_77 (upd (q_Mo_loads z_77) x4_77.toNatClampNeg (((q_Mo_loads z_77) x4_77.toNatClampNeg) + ((q_Mo_s z_77) (58 + x1_f77).toNatClampNeg))))) x1_f77.toNatClampNeg x4_77)) _ e_8) o_Mo_waysFrom g_1254 (ci := 1) (q0 := 0) rfl rfl (List.range' 0 12) (segC1 rfl rfl) (by decide) rfl (segP1 rfl rfl) rfl rfl (Nat.le_of_ble_eq_true rfl) ⟨rfl, rfl, by show _ ≤ _; (try dsimp only); omega, by show _ ≤ _; (try dsimp only); omega⟩ d_Mo_waysFrom_163 (fun H locs hP hD hS => ?_)
                refine lv_aload_n hx hb d_Mo_waysFrom_166 rfl (lv_at hl 0 rfl) ?_
                refine va_get (D := D) (ci := 1) (v := .ref (a 8)) (C := R_Mo) (T := F_Mo) (N := 26) hx hb hg i_Mo hown hK hP 0 rfl rfl 14 (by decide) (hg _ g_1006) (fun _ h9 => h9) rfl d_Mo_waysFrom_167 ?_
                refine lv_iload hx hb d_Mo_waysFrom_170 (lv_at hl 4 rfl) ?_
                refine lv_dup2_11 hx hb d_Mo_waysFrom_172 rfl rfl ?_
                obtain ⟨h_11, hd⟩ := ite_s hd
                refine ialdK hx hb hK hP 8 0 rfl rfl (inb_t h_11) rfl d_Mo_waysFrom_173 ?_
                refine lv_aload_n hx hb d_Mo_waysFrom_174 rfl (lv_at hl 0 rfl) ?_
                refine va_get (D := D) (ci := 1) (v := .ref (a 1)) (C := R_Mo) (T := F_Mo) (N := 26) hx hb hg i_Mo hown hK hP 0 rfl rfl 1 (by decide) (hg _ g_993) (fun _ h9 => h9) rfl d_Mo_waysFrom_175 ?_
                refine lv_bipush (v := 58) hx hb d_Mo_waysFrom_178 (by decide) ?_
                refine lv_iload_n hx hb d_Mo_waysFrom_180 rfl (lv_at hl 1 rfl) ?_
                refine lv_iadd hx hb d_Mo_waysFrom_181 ?_
                obtain ⟨h_10, hd⟩ := ite_s hd
                refine ialdK hx hb hK hP 1 0 rfl rfl (inb_t h_10) rfl d_Mo_waysFrom_182 ?_
                refine lv_isub hx hb d_Mo_waysFrom_183 ?_
                obtain ⟨h_9, hd⟩ := ite_s hd
                refine iastK hx hb hK hP hD hS 8 0 rfl rfl (inb_t h_9) rfl d_Mo_waysFrom_184 (fun H locs hP hD hS => ?_)
                have hP : va_P D classes (ws_Mo g a (u_Mo_loads v_7 (upd (q_Mo_loads v_7) x4_77.toNatClampNeg (((q_Mo_loads v_7) x4_77.toNatClampNeg) - ((q_Mo_s v_7) (58 + x1_f77).toNatClampNeg))))) H := hP
                have hD : va_D A (ws_Mo g a (u_Mo_loads v_7 (upd (q_Mo_loads v_7) x4_77.toNatClampNeg (((q_Mo_loads v_7) x4_77.toNatClampNeg) - ((q_Mo_s v_7) (58 + x1_f77).toNatClampNeg))))) := hD
                refine lv_iinc (v := x4_77 + 1) (lv' := [(4, .int (x4_77 + 1)), (0, .ref (a 0)), (1, .int x1_f77), (2, .int x2_f77), (3, .int x3_f77)]) hx hb d_Mo_waysFrom_185 hl (k := 4) rfl (by rfl) (by decide) rfl (fun ls hl => ?_)
                refine lv_goto (tgt := 77) hx hb d_Mo_waysFrom_188 (by decide) ?_
                exact ih77 (x4_77 + 1) (u_Mo_loads v_7 (upd (q_Mo_loads v_7) x4_77.toNatClampNeg (((q_Mo_loads v_7) x4_77.toNatClampNeg) - ((q_Mo_s v_7) (58 + x1_f77).toNatClampNeg)))) _ _ _ hP hD hS (lv_sub hl [1, 2, 3, 4, 0] rfl) hd
        exact lp77 x1 x2 x3 1000 0 z _ _ _ hP hD hS (lv_sub hl [1, 2, 3, 4, 0] rfl) hd
      · have hd := ite_t hd h_1
        refine lv_aload_n hx hb d_Mo_waysFrom_10 rfl (lv_at hl 0 rfl) ?_
        refine lv_iload_n hx hb d_Mo_waysFrom_11 rfl (lv_at hl 3 rfl) ?_
        refine lv_aload_n hx hb d_Mo_waysFrom_12 rfl (lv_at hl 0 rfl) ?_
        refine va_get (D := D) (ci := 1) (v := .int (q_Mo_mostOwned z)) (C := R_Mo) (T := F_Mo) (N := 26) hx hb hg i_Mo hown hK hP 0 rfl rfl 18 (by decide) (hg _ g_1010) (fun _ h9 => h9) rfl d_Mo_waysFrom_13 ?_
        refine lv_icmp_le (tgt := 23) hx hb d_Mo_waysFrom_16 (by decide) (fun h_20 => ?_) (fun h_20 => ?_)
        · have hd := ite_t hd h_20
          refine lv_aload_n hx hb d_Mo_waysFrom_23 rfl (lv_at hl 0 rfl) ?_
          refine va_get (D := D) (ci := 1) (v := .int (q_Mo_mostOwned z)) (C := R_Mo) (T := F_Mo) (N := 26) hx hb hg i_Mo hown hK hP 0 rfl rfl 18 (by decide) (hg _ g_1010) (fun _ h9 => h9) rfl d_Mo_waysFrom_24 ?_
          refine va_put (D := D) (ci := 1) (v := .int (q_Mo_mostOwned z)) (ty := .int) (C := R_Mo) (T := F_Mo) (N := 26) hx hb hg i_Mo t_Mo t_Mo_ok n_Mo hown hK hP hD hS 0 rfl rfl 18 (by decide) (hg _ g_1010) (fun _ h9 => h9) rfl (by decide +kernel) rfl rfl (Nat.le_of_ble_eq_true rfl) d_Mo_waysFrom_27 (fun H locs hP hD hS => ?_)
          have hP : va_P D classes (ws_Mo g a z) H := hP
          have hD : va_D A (ws_Mo g a z) := hD
          refine lv_iload_n hx hb d_Mo_waysFrom_30 rfl (lv_at hl 2 rfl) ?_
          refine lv_aload_n hx hb d_Mo_waysFrom_31 rfl (lv_at hl 0 rfl) ?_
          refine va_get (D := D) (ci := 1) (v := .int (q_Mo_bestLike z)) (C := R_Mo) (T := F_Mo) (N := 26) hx hb hg i_Mo hown hK hP 0 rfl rfl 17 (by decide) (hg _ g_1009) (fun _ h9 => h9) rfl d_Mo_waysFrom_32 ?_
          refine lv_icmp_le (tgt := 73) hx hb d_Mo_waysFrom_35 (by decide) (fun h_21 => ?_) (fun h_21 => ?_)
          · have hd := ite_t hd h_21
            obtain rfl := Option.some.inj hd
            exact retV hx hb hr hlk hK hP hD hS d_Mo_waysFrom_73
          · have hd := ite_f hd h_21
            refine lv_aload_n hx hb d_Mo_waysFrom_38 rfl (lv_at hl 0 rfl) ?_
            refine lv_iload_n hx hb d_Mo_waysFrom_39 rfl (lv_at hl 2 rfl) ?_
            refine va_put (D := D) (ci := 1) (v := .int x2) (ty := .int) (C := R_Mo) (T := F_Mo) (N := 26) hx hb hg i_Mo t_Mo t_Mo_ok n_Mo hown hK hP hD hS 0 rfl rfl 17 (by decide) (hg _ g_1009) (fun _ h9 => h9) rfl (by decide +kernel) rfl rfl (Nat.le_of_ble_eq_true rfl) d_Mo_waysFrom_40 (fun H locs hP hD hS => ?_)
            have hP : va_P D classes (ws_Mo g a (u_Mo_bestLike z x2)) H := hP
            have hD : va_D A (ws_Mo g a (u_Mo_bestLike z x2)) := hD
            refine lv_iconst (v := 0) hx hb d_Mo_waysFrom_43 (by decide) ?_
            refine lv_istore (lv' := [(4, .int 0), (0, .ref (a 0)), (1, .int x1), (2, .int x2), (3, .int x3)]) hx hb d_Mo_waysFrom_44 hl (by decide) rfl (fun ls hl => ?_)
            have lp46 : ∀ (n : Nat) (x4_46 : Int32) (z_46 : T_Mo) (H : Heap) (locs : List Loc) (ls : Array Slot), va_P D classes (ws_Mo g a z_46) H → va_D A (ws_Mo g a z_46) → va_S A s.heap H locs → lv_has ls 5 [(0, .ref (a 0)), (4, .int x4_46)] → d_Mo_waysFrom_L46 rc n x4_46 z_46 = some v → GV p l e s m ({ frames := 1 + 2 * (nr + 1), cells := 0, slots := 0, locals := 1 + 60 * (nr + 1) } : Room) ([.ref (a 0), .int x1, .int x2, .int x3] : List Value).toArray below meth c A D g (ws_Mo g a v) H locs (F0 m 46 ls []) := by
              intro n
              induction n with
              | zero =>
                intro  x4_46 z_46 H locs ls hP hD hS hl hd
                have hd : none = some v := hd
                cases hd
              | succ n ih46 =>
                intro  x4_46 z_46 H locs ls hP hD hS hl hd
                have hd : B_Mo_waysFrom_L46 rc (d_Mo_waysFrom_L46 rc n) x4_46 z_46 = some v := hd
                generalize d_Mo_waysFrom_L46 rc n = self46 at ih46 hd
                unfold B_Mo_waysFrom_L46 at hd
                refine lv_iload hx hb d_Mo_waysFrom_46 (lv_at hl 1 rfl) ?_
                refine lv_bipush (v := 7) hx hb d_Mo_waysFrom_48 (by decide) ?_
                refine lv_icmp_ge (tgt := 73) hx hb d_Mo_waysFrom_50 (by decide) (fun h_22 => ?_) (fun h_22 => ?_)
                · have hd := ite_t hd h_22
                  obtain rfl := Option.some.inj hd
                  exact retV hx hb hr hlk hK hP hD hS d_Mo_waysFrom_73
                · have hd := ite_f hd h_22
                  refine lv_aload_n hx hb d_Mo_waysFrom_53 rfl (lv_at hl 0 rfl) ?_
                  refine va_get (D := D) (ci := 1) (v := .ref (a 10)) (C := R_Mo) (T := F_Mo) (N := 26) hx hb hg i_Mo hown hK hP 0 rfl rfl 16 (by decide) (hg _ g_1008) (fun _ h9 => h9) rfl d_Mo_waysFrom_54 ?_
                  refine lv_iload hx hb d_Mo_waysFrom_57 (lv_at hl 1 rfl) ?_
                  refine lv_aload_n hx hb d_Mo_waysFrom_59 rfl (lv_at hl 0 rfl) ?_
                  refine va_get (D := D) (ci := 1) (v := .ref (a 9)) (C := R_Mo) (T := F_Mo) (N := 26) hx hb hg i_Mo hown hK hP 0 rfl rfl 15 (by decide) (hg _ g_1007) (fun _ h9 => h9) rfl d_Mo_waysFrom_60 ?_
                  refine lv_iload hx hb d_Mo_waysFrom_63 (lv_at hl 1 rfl) ?_
                  obtain ⟨h_24, hd⟩ := ite_s hd
                  refine ialdK hx hb hK hP 9 0 rfl rfl (inb_t h_24) rfl d_Mo_waysFrom_65 ?_
                  obtain ⟨h_23, hd⟩ := ite_s hd
                  refine iastK hx hb hK hP hD hS 10 0 rfl rfl (inb_t h_23) rfl d_Mo_waysFrom_66 (fun H locs hP hD hS => ?_)
                  have hP : va_P D classes (ws_Mo g a (u_Mo_bestWay z_46 (upd (q_Mo_bestWay z_46) x4_46.toNatClampNeg ((q_Mo_way z_46) x4_46.toNatClampNeg)))) H := hP
                  have hD : va_D A (ws_Mo g a (u_Mo_bestWay z_46 (upd (q_Mo_bestWay z_46) x4_46.toNatClampNeg ((q_Mo_way z_46) x4_46.toNatClampNeg)))) := hD
                  refine lv_iinc (v := x4_46 + 1) (lv' := [(4, .int (x4_46 + 1)), (0, .ref (a 0))]) hx hb d_Mo_waysFrom_67 hl (k := 1) rfl (by rfl) (by decide) rfl (fun ls hl => ?_)
                  refine lv_goto (tgt := 46) hx hb d_Mo_waysFrom_70 (by decide) ?_
                  exact ih46 (x4_46 + 1) (u_Mo_bestWay z_46 (upd (q_Mo_bestWay z_46) x4_46.toNatClampNeg ((q_Mo_way z_46) x4_46.toNatClampNeg))) _ _ _ hP hD hS (lv_sub hl [1, 0] rfl) hd
            exact lp46 1000 0 (u_Mo_bestLike z x2) _ _ _ hP hD hS (lv_sub hl [1, 0] rfl) hd
        · have hd := ite_f hd h_20
          refine lv_iload_n hx hb d_Mo_waysFrom_19 rfl (lv_at hl 3 rfl) ?_
          refine lv_goto (tgt := 27) hx hb d_Mo_waysFrom_20 (by decide) ?_
          refine va_put (D := D) (ci := 1) (v := .int x3) (ty := .int) (C := R_Mo) (T := F_Mo) (N := 26) hx hb hg i_Mo t_Mo t_Mo_ok n_Mo hown hK hP hD hS 0 rfl rfl 18 (by decide) (hg _ g_1010) (fun _ h9 => h9) rfl (by decide +kernel) rfl rfl (Nat.le_of_ble_eq_true rfl) d_Mo_waysFrom_27 (fun H locs hP hD hS => ?_)
          have hP : va_P D classes (ws_Mo g a (u_Mo_mostOwned z x3)) H := hP
          have hD : va_D A (ws_Mo g a (u_Mo_mostOwned z x3)) := hD
          refine lv_iload_n hx hb d_Mo_waysFrom_30 rfl (lv_at hl 2 rfl) ?_
          refine lv_aload_n hx hb d_Mo_waysFrom_31 rfl (lv_at hl 0 rfl) ?_
          refine va_get (D := D) (ci := 1) (v := .int (q_Mo_bestLike (u_Mo_mostOwned z x3))) (C := R_Mo) (T := F_Mo) (N := 26) hx hb hg i_Mo hown hK hP 0 rfl rfl 17 (by decide) (hg _ g_1009) (fun _ h9 => h9) rfl d_Mo_waysFrom_32 ?_
          refine lv_icmp_le (tgt := 73) hx hb d_Mo_waysFrom_35 (by decide) (fun h_25 => ?_) (fun h_25 => ?_)
          · have hd := ite_t hd h_25
            obtain rfl := Option.some.inj hd
            exact retV hx hb hr hlk hK hP hD hS d_Mo_waysFrom_73
          · have hd := ite_f hd h_25
            refine lv_aload_n hx hb d_Mo_waysFrom_38 rfl (lv_at hl 0 rfl) ?_
            refine lv_iload_n hx hb d_Mo_waysFrom_39 rfl (lv_at hl 2 rfl) ?_
            refine va_put (D := D) (ci := 1) (v := .int x2) (ty := .int) (C := R_Mo) (T := F_Mo) (N := 26) hx hb hg i_Mo t_Mo t_Mo_ok n_Mo hown hK hP hD hS 0 rfl rfl 17 (by decide) (hg _ g_1009) (fun _ h9 => h9) rfl (by decide +kernel) rfl rfl (Nat.le_of_ble_eq_true rfl) d_Mo_waysFrom_40 (fun H locs hP hD hS => ?_)
            have hP : va_P D classes (ws_Mo g a (u_Mo_bestLike (u_Mo_mostOwned z x3) x2)) H := hP
            have hD : va_D A (ws_Mo g a (u_Mo_bestLike (u_Mo_mostOwned z x3) x2)) := hD
            refine lv_iconst (v := 0) hx hb d_Mo_waysFrom_43 (by decide) ?_
            refine lv_istore (lv' := [(4, .int 0), (0, .ref (a 0)), (1, .int x1), (2, .int x2), (3, .int x3)]) hx hb d_Mo_waysFrom_44 hl (by decide) rfl (fun ls hl => ?_)
            have lp46 : ∀ (n : Nat) (x4_46 : Int32) (z_46 : T_Mo) (H : Heap) (locs : List Loc) (ls : Array Slot), va_P D classes (ws_Mo g a z_46) H → va_D A (ws_Mo g a z_46) → va_S A s.heap H locs → lv_has ls 5 [(0, .ref (a 0)), (4, .int x4_46)] → d_Mo_waysFrom_L46 rc n x4_46 z_46 = some v → GV p l e s m ({ frames := 1 + 2 * (nr + 1), cells := 0, slots := 0, locals := 1 + 60 * (nr + 1) } : Room) ([.ref (a 0), .int x1, .int x2, .int x3] : List Value).toArray below meth c A D g (ws_Mo g a v) H locs (F0 m 46 ls []) := by
              intro n
              induction n with
              | zero =>
                intro  x4_46 z_46 H locs ls hP hD hS hl hd
                have hd : none = some v := hd
                cases hd
              | succ n ih46 =>
                intro  x4_46 z_46 H locs ls hP hD hS hl hd
                have hd : B_Mo_waysFrom_L46 rc (d_Mo_waysFrom_L46 rc n) x4_46 z_46 = some v := hd
                generalize d_Mo_waysFrom_L46 rc n = self46 at ih46 hd
                unfold B_Mo_waysFrom_L46 at hd
                refine lv_iload hx hb d_Mo_waysFrom_46 (lv_at hl 1 rfl) ?_
                refine lv_bipush (v := 7) hx hb d_Mo_waysFrom_48 (by decide) ?_
                refine lv_icmp_ge (tgt := 73) hx hb d_Mo_waysFrom_50 (by decide) (fun h_26 => ?_) (fun h_26 => ?_)
                · have hd := ite_t hd h_26
                  obtain rfl := Option.some.inj hd
                  exact retV hx hb hr hlk hK hP hD hS d_Mo_waysFrom_73
                · have hd := ite_f hd h_26
                  refine lv_aload_n hx hb d_Mo_waysFrom_53 rfl (lv_at hl 0 rfl) ?_
                  refine va_get (D := D) (ci := 1) (v := .ref (a 10)) (C := R_Mo) (T := F_Mo) (N := 26) hx hb hg i_Mo hown hK hP 0 rfl rfl 16 (by decide) (hg _ g_1008) (fun _ h9 => h9) rfl d_Mo_waysFrom_54 ?_
                  refine lv_iload hx hb d_Mo_waysFrom_57 (lv_at hl 1 rfl) ?_
                  refine lv_aload_n hx hb d_Mo_waysFrom_59 rfl (lv_at hl 0 rfl) ?_
                  refine va_get (D := D) (ci := 1) (v := .ref (a 9)) (C := R_Mo) (T := F_Mo) (N := 26) hx hb hg i_Mo hown hK hP 0 rfl rfl 15 (by decide) (hg _ g_1007) (fun _ h9 => h9) rfl d_Mo_waysFrom_60 ?_
                  refine lv_iload hx hb d_Mo_waysFrom_63 (lv_at hl 1 rfl) ?_
                  obtain ⟨h_28, hd⟩ := ite_s hd
                  refine ialdK hx hb hK hP 9 0 rfl rfl (inb_t h_28) rfl d_Mo_waysFrom_65 ?_
                  obtain ⟨h_27, hd⟩ := ite_s hd
                  refine iastK hx hb hK hP hD hS 10 0 rfl rfl (inb_t h_27) rfl d_Mo_waysFrom_66 (fun H locs hP hD hS => ?_)
                  have hP : va_P D classes (ws_Mo g a (u_Mo_bestWay z_46 (upd (q_Mo_bestWay z_46) x4_46.toNatClampNeg ((q_Mo_way z_46) x4_46.toNatClampNeg)))) H := hP
                  have hD : va_D A (ws_Mo g a (u_Mo_bestWay z_46 (upd (q_Mo_bestWay z_46) x4_46.toNatClampNeg ((q_Mo_way z_46) x4_46.toNatClampNeg)))) := hD
                  refine lv_iinc (v := x4_46 + 1) (lv' := [(4, .int (x4_46 + 1)), (0, .ref (a 0))]) hx hb d_Mo_waysFrom_67 hl (k := 1) rfl (by rfl) (by decide) rfl (fun ls hl => ?_)
                  refine lv_goto (tgt := 46) hx hb d_Mo_waysFrom_70 (by decide) ?_
                  exact ih46 (x4_46 + 1) (u_Mo_bestWay z_46 (upd (q_Mo_bestWay z_46) x4_46.toNatClampNeg ((q_Mo_way z_46) x4_46.toNatClampNeg))) _ _ _ hP hD hS (lv_sub hl [1, 0] rfl) hd
            exact lp46 1000 0 (u_Mo_bestLike (u_Mo_mostOwned z x3) x2) _ _ _ hP hD hS (lv_sub hl [1, 0] rfl) hd
theorem c_Mo_waysFrom (n : Nat) (l : Launch) (D : va_G) (g : Nat → ClassId) (a : Nat → Nat) (x1 : Int32) (x2 : Int32) (x3 : Int32) (z : T_Mo) (v : T_Mo) (h : d_Mo_waysFrom n x1 x2 x3 z = some v) :
    MV l y_Mo_waysFrom b_Mo_waysFrom 5 ({ frames := 1 + 2 * n, cells := 0, slots := 0, locals := 1 + 60 * n } : Room) D g [.ref (a 0), .int x1, .int x2, .int x3] (ws_Mo g a z) (ws_Mo g a v) := (cg_Mo_waysFrom n) l D g a x1 x2 x3 z v h

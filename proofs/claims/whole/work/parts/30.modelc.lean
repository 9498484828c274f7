-- OwnsLiftModel.likeOf(II)I
def d_Mo_likeOf (x1 : Int32) (x2 : Int32) (z : T_Mo) : Option (Int32 × T_Mo) :=
  (d_Mo_tells (-10) x1 x2 z).bind fun v_1 => some (1 + v_1.1, v_1.2)
theorem d_Mo_likeOf_0 : decode b_Mo_likeOf 0 = .ok (.iconst 1, 1) := by decide +kernel
theorem d_Mo_likeOf_1 : decode b_Mo_likeOf 1 = .ok (.aload_n 0, 1) := by decide +kernel
theorem d_Mo_likeOf_2 : decode b_Mo_likeOf 2 = .ok (.bipush (-10), 2) := by decide +kernel
theorem d_Mo_likeOf_4 : decode b_Mo_likeOf 4 = .ok (.iload_n 1, 1) := by decide +kernel
theorem d_Mo_likeOf_5 : decode b_Mo_likeOf 5 = .ok (.iload_n 2, 1) := by decide +kernel
theorem d_Mo_likeOf_6 : decode b_Mo_likeOf 6 = .ok (.invokevirtual 136, 3) := by decide +kernel
theorem d_Mo_likeOf_9 : decode b_Mo_likeOf 9 = .ok (.iadd, 1) := by decide +kernel
theorem d_Mo_likeOf_10 : decode b_Mo_likeOf 10 = .ok (.ireturn, 1) := by decide +kernel
theorem o_Mo_likeOf : OkV y_Mo_likeOf "OwnsLiftModel" b_Mo_likeOf 3 (some .int) 2 := ⟨⟨rfl, by decide +kernel, by decide +kernel, by decide +kernel⟩, g_1208, g_46, g_81, g_1209⟩
set_option maxHeartbeats 4000000 in
set_option maxRecDepth 100000 in
theorem c_Mo_likeOf (l : Launch) (D : va_G) (g : Nat → ClassId) (a : Nat → Nat) (x1 : Int32) (x2 : Int32) (z : T_Mo) (v : Int32 × T_Mo) (h : d_Mo_likeOf x1 x2 z = some v) :
    MI l y_Mo_likeOf b_Mo_likeOf 3 .int ({ frames := 2, cells := 0, slots := 0, locals := 53 } : Room) D g [.ref (a 0), .int x1, .int x2] (ws_Mo g a z) (v.1) (ws_Mo g a v.2) := by
  have hd := h
  unfold d_Mo_likeOf at hd
  refine enterI rfl (Nat.le_of_ble_eq_true rfl) (fun p e s m below meth c A ls hx hb hml hr hown hg hlk hK hA hP hD hS hCs hl => ?_)
  have hown : s.vm.findClass "OwnsLiftModel" = some m.cls := hown
  have hl : lv_has ls 3 [(0, .ref (a 0)), (1, .int x1), (2, .int x2)] := hl
  show GI p l e s m ({ frames := 2, cells := 0, slots := 0, locals := 53 } : Room) ([.ref (a 0), .int x1, .int x2] : List Value).toArray below meth c A D g (ws_Mo g a v.2) (v.1) s.heap [] (F0 m 0 ls [])
  refine lv_iconst (v := 1) hx hb d_Mo_likeOf_0 (by decide) ?_
  refine lv_aload_n hx hb d_Mo_likeOf_1 rfl (lv_at hl 0 rfl) ?_
  refine lv_bipush (v := (-10)) hx hb d_Mo_likeOf_2 (by decide) ?_
  refine lv_iload_n hx hb d_Mo_likeOf_4 rfl (lv_at hl 1 rfl) ?_
  refine lv_iload_n hx hb d_Mo_likeOf_5 rfl (lv_at hl 2 rfl) ?_
  obtain ⟨v_1, e_2, hd⟩ := bind_s hd
  refine callVI (ws' := ws_Mo g a v_1.2) (rest := [.int 1]) (As := [.int (-10), .int x1, .int x2]) hx hb hml hown hg hK hP hD hS hA hCs hl.1 (c_Mo_tells l D g a (-10) x1 x2 z _ e_2) o_Mo_tells g_1155 (ci := 1) (q0 := 0) rfl rfl (List.range' 0 12) (segC1 rfl rfl) (by decide) rfl (segP1 rfl rfl) rfl rfl (Nat.le_of_ble_eq_true rfl) ⟨rfl, rfl, Nat.le_of_ble_eq_true rfl, Nat.le_of_ble_eq_true rfl⟩ d_Mo_likeOf_6 (fun H locs hP hD hS => ?_)
  refine lv_iadd hx hb d_Mo_likeOf_9 ?_
  obtain rfl := Option.some.inj hd
  exact retI hx hb hr hlk hK hP hD hS d_Mo_likeOf_10 rfl
-- OwnsLiftModel.liftsOf(I)I
def d_Mo_liftsOf (x1 : Int32) (z : T_Mo) : Option (Int32 × T_Mo) :=
  if inb (18 + x1) 901 = true then ((d_Mo_tells (-200) x1 99 z).bind fun v_1 => if inb (10 + x1) 901 = true then (if ((q_Mo_s v_1.2) (10 + x1).toNatClampNeg) = 3 then (if inb (14 + x1) 901 = true then (some ((((q_Mo_s z) (18 + x1).toNatClampNeg) + v_1.1) + ((q_Mo_s v_1.2) (14 + x1).toNatClampNeg), v_1.2)) else none) else (if inb (10 + x1) 901 = true then (if ((q_Mo_s v_1.2) (10 + x1).toNatClampNeg) = 6 then (if inb (14 + x1) 901 = true then (some ((((q_Mo_s z) (18 + x1).toNatClampNeg) + v_1.1) + ((q_Mo_s v_1.2) (14 + x1).toNatClampNeg), v_1.2)) else none) else (some ((((q_Mo_s z) (18 + x1).toNatClampNeg) + v_1.1) + 0, v_1.2))) else none)) else none) else none
theorem d_Mo_liftsOf_0 : decode b_Mo_liftsOf 0 = .ok (.aload_n 0, 1) := by decide +kernel
theorem d_Mo_liftsOf_1 : decode b_Mo_liftsOf 1 = .ok (.getfield 9, 3) := by decide +kernel
theorem d_Mo_liftsOf_4 : decode b_Mo_liftsOf 4 = .ok (.bipush 18, 2) := by decide +kernel
theorem d_Mo_liftsOf_6 : decode b_Mo_liftsOf 6 = .ok (.iload_n 1, 1) := by decide +kernel
theorem d_Mo_liftsOf_7 : decode b_Mo_liftsOf 7 = .ok (.iadd, 1) := by decide +kernel
theorem d_Mo_liftsOf_8 : decode b_Mo_liftsOf 8 = .ok (.iaload, 1) := by decide +kernel
theorem d_Mo_liftsOf_9 : decode b_Mo_liftsOf 9 = .ok (.aload_n 0, 1) := by decide +kernel
theorem d_Mo_liftsOf_10 : decode b_Mo_liftsOf 10 = .ok (.sipush (-200), 3) := by decide +kernel
theorem d_Mo_liftsOf_13 : decode b_Mo_liftsOf 13 = .ok (.iload_n 1, 1) := by decide +kernel
theorem d_Mo_liftsOf_14 : decode b_Mo_liftsOf 14 = .ok (.bipush 99, 2) := by decide +kernel
theorem d_Mo_liftsOf_16 : decode b_Mo_liftsOf 16 = .ok (.invokevirtual 136, 3) := by decide +kernel
theorem d_Mo_liftsOf_19 : decode b_Mo_liftsOf 19 = .ok (.iadd, 1) := by decide +kernel
theorem d_Mo_liftsOf_20 : decode b_Mo_liftsOf 20 = .ok (.aload_n 0, 1) := by decide +kernel
theorem d_Mo_liftsOf_21 : decode b_Mo_liftsOf 21 = .ok (.getfield 9, 3) := by decide +kernel
theorem d_Mo_liftsOf_24 : decode b_Mo_liftsOf 24 = .ok (.bipush 10, 2) := by decide +kernel
theorem d_Mo_liftsOf_26 : decode b_Mo_liftsOf 26 = .ok (.iload_n 1, 1) := by decide +kernel
theorem d_Mo_liftsOf_27 : decode b_Mo_liftsOf 27 = .ok (.iadd, 1) := by decide +kernel
theorem d_Mo_liftsOf_28 : decode b_Mo_liftsOf 28 = .ok (.iaload, 1) := by decide +kernel
theorem d_Mo_liftsOf_29 : decode b_Mo_liftsOf 29 = .ok (.iconst 3, 1) := by decide +kernel
theorem d_Mo_liftsOf_30 : decode b_Mo_liftsOf 30 = .ok (.if_icmp .eq 17, 3) := by decide +kernel
theorem d_Mo_liftsOf_33 : decode b_Mo_liftsOf 33 = .ok (.aload_n 0, 1) := by decide +kernel
theorem d_Mo_liftsOf_34 : decode b_Mo_liftsOf 34 = .ok (.getfield 9, 3) := by decide +kernel
theorem d_Mo_liftsOf_37 : decode b_Mo_liftsOf 37 = .ok (.bipush 10, 2) := by decide +kernel
theorem d_Mo_liftsOf_39 : decode b_Mo_liftsOf 39 = .ok (.iload_n 1, 1) := by decide +kernel
theorem d_Mo_liftsOf_40 : decode b_Mo_liftsOf 40 = .ok (.iadd, 1) := by decide +kernel
theorem d_Mo_liftsOf_41 : decode b_Mo_liftsOf 41 = .ok (.iaload, 1) := by decide +kernel
theorem d_Mo_liftsOf_42 : decode b_Mo_liftsOf 42 = .ok (.bipush 6, 2) := by decide +kernel
theorem d_Mo_liftsOf_44 : decode b_Mo_liftsOf 44 = .ok (.if_icmp .ne 15, 3) := by decide +kernel
theorem d_Mo_liftsOf_47 : decode b_Mo_liftsOf 47 = .ok (.aload_n 0, 1) := by decide +kernel
theorem d_Mo_liftsOf_48 : decode b_Mo_liftsOf 48 = .ok (.getfield 9, 3) := by decide +kernel
theorem d_Mo_liftsOf_51 : decode b_Mo_liftsOf 51 = .ok (.bipush 14, 2) := by decide +kernel
theorem d_Mo_liftsOf_53 : decode b_Mo_liftsOf 53 = .ok (.iload_n 1, 1) := by decide +kernel
theorem d_Mo_liftsOf_54 : decode b_Mo_liftsOf 54 = .ok (.iadd, 1) := by decide +kernel
theorem d_Mo_liftsOf_55 : decode b_Mo_liftsOf 55 = .ok (.iaload, 1) := by decide +kernel
theorem d_Mo_liftsOf_56 : decode b_Mo_liftsOf 56 = .ok (.goto 4, 3) := by decide +kernel
theorem d_Mo_liftsOf_59 : decode b_Mo_liftsOf 59 = .ok (.iconst 0, 1) := by decide +kernel
theorem d_Mo_liftsOf_60 : decode b_Mo_liftsOf 60 = .ok (.iadd, 1) := by decide +kernel
theorem d_Mo_liftsOf_61 : decode b_Mo_liftsOf 61 = .ok (.ireturn, 1) := by decide +kernel
theorem o_Mo_liftsOf : OkV y_Mo_liftsOf "OwnsLiftModel" b_Mo_liftsOf 2 (some .int) 1 := ⟨⟨rfl, by decide +kernel, by decide +kernel, by decide +kernel⟩, g_1153, g_39, g_81, g_1154⟩
set_option maxHeartbeats 4000000 in
set_option maxRecDepth 100000 in
theorem c_Mo_liftsOf (l : Launch) (D : va_G) (g : Nat → ClassId) (a : Nat → Nat) (x1 : Int32) (z : T_Mo) (v : Int32 × T_Mo) (h : d_Mo_liftsOf x1 z = some v) :
    MI l y_Mo_liftsOf b_Mo_liftsOf 2 .int ({ frames := 2, cells := 0, slots := 0, locals := 53 } : Room) D g [.ref (a 0), .int x1] (ws_Mo g a z) (v.1) (ws_Mo g a v.2) := by
  have hd := h
  unfold d_Mo_liftsOf at hd
  refine enterI rfl (Nat.le_of_ble_eq_true rfl) (fun p e s m below meth c A ls hx hb hml hr hown hg hlk hK hA hP hD hS hCs hl => ?_)
  have hown : s.vm.findClass "OwnsLiftModel" = some m.cls := hown
  have hl : lv_has ls 2 [(0, .ref (a 0)), (1, .int x1)] := hl
  show GI p l e s m ({ frames := 2, cells := 0, slots := 0, locals := 53 } : Room) ([.ref (a 0), .int x1] : List Value).toArray below meth c A D g (ws_Mo g a v.2) (v.1) s.heap [] (F0 m 0 ls [])
  refine lv_aload_n hx hb d_Mo_liftsOf_0 rfl (lv_at hl 0 rfl) ?_
  refine va_get (D := D) (ci := 1) (v := .ref (a 1)) (C := R_Mo) (T := F_Mo) (N := 26) hx hb hg i_Mo hown hK hP 0 rfl rfl 1 (by decide) (hg _ g_993) (fun _ h9 => h9) rfl d_Mo_liftsOf_1 ?_
  refine lv_bipush (v := 18) hx hb d_Mo_liftsOf_4 (by decide) ?_
  refine lv_iload_n hx hb d_Mo_liftsOf_6 rfl (lv_at hl 1 rfl) ?_
  refine lv_iadd hx hb d_Mo_liftsOf_7 ?_
  obtain ⟨h_9, hd⟩ := ite_s hd
  refine ialdK hx hb hK hP 1 0 rfl rfl (inb_t h_9) rfl d_Mo_liftsOf_8 ?_
  refine lv_aload_n hx hb d_Mo_liftsOf_9 rfl (lv_at hl 0 rfl) ?_
  refine lv_sipush (v := (-200)) hx hb d_Mo_liftsOf_10 (by decide) ?_
  refine lv_iload_n hx hb d_Mo_liftsOf_13 rfl (lv_at hl 1 rfl) ?_
  refine lv_bipush (v := 99) hx hb d_Mo_liftsOf_14 (by decide) ?_
  obtain ⟨v_1, e_2, hd⟩ := bind_s hd
  refine callVI (ws' := ws_Mo g a v_1.2) (rest := [.int ((q_Mo_s z) (18 + x1).toNatClampNeg)]) (As := [.int (-200), .int x1, .int 99]) hx hb hml hown hg hK hP hD hS hA hCs hl.1 (c_Mo_tells l D g a (-200) x1 99 z _ e_2) o_Mo_tells g_1155 (ci := 1) (q0 := 0) rfl rfl (List.range' 0 12) (segC1 rfl rfl) (by decide) rfl (segP1 rfl rfl) rfl rfl (Nat.le_of_ble_eq_true rfl) ⟨rfl, rfl, Nat.le_of_ble_eq_true rfl, Nat.le_of_ble_eq_true rfl⟩ d_Mo_liftsOf_16 (fun H locs hP hD hS => ?_)
  refine lv_iadd hx hb d_Mo_liftsOf_19 ?_
  refine lv_aload_n hx hb d_Mo_liftsOf_20 rfl (lv_at hl 0 rfl) ?_
  refine va_get (D := D) (ci := 1) (v := .ref (a 1)) (C := R_Mo) (T := F_Mo) (N := 26) hx hb hg i_Mo hown hK hP 0 rfl rfl 1 (by decide) (hg _ g_993) (fun _ h9 => h9) rfl d_Mo_liftsOf_21 ?_
  refine lv_bipush (v := 10) hx hb d_Mo_liftsOf_24 (by decide) ?_
  refine lv_iload_n hx hb d_Mo_liftsOf_26 rfl (lv_at hl 1 rfl) ?_
  refine lv_iadd hx hb d_Mo_liftsOf_27 ?_
  obtain ⟨h_8, hd⟩ := ite_s hd
  refine ialdK hx hb hK hP 1 0 rfl rfl (inb_t h_8) rfl d_Mo_liftsOf_28 ?_
  refine lv_iconst (v := 3) hx hb d_Mo_liftsOf_29 (by decide) ?_
  refine lv_icmp_eq (tgt := 47) hx hb d_Mo_liftsOf_30 (by decide) (fun h_3 => ?_) (fun h_3 => ?_)
  · have hd := ite_t hd h_3
    refine lv_aload_n hx hb d_Mo_liftsOf_47 rfl (lv_at hl 0 rfl) ?_
    refine va_get (D := D) (ci := 1) (v := .ref (a 1)) (C := R_Mo) (T := F_Mo) (N := 26) hx hb hg i_Mo hown hK hP 0 rfl rfl 1 (by decide) (hg _ g_993) (fun _ h9 => h9) rfl d_Mo_liftsOf_48 ?_
    refine lv_bipush (v := 14) hx hb d_Mo_liftsOf_51 (by decide) ?_
    refine lv_iload_n hx hb d_Mo_liftsOf_53 rfl (lv_at hl 1 rfl) ?_
    refine lv_iadd hx hb d_Mo_liftsOf_54 ?_
    obtain ⟨h_4, hd⟩ := ite_s hd
    refine ialdK hx hb hK hP 1 0 rfl rfl (inb_t h_4) rfl d_Mo_liftsOf_55 ?_
    refine lv_goto (tgt := 60) hx hb d_Mo_liftsOf_56 (by decide) ?_
    refine lv_iadd hx hb d_Mo_liftsOf_60 ?_
    obtain rfl := Option.some.inj hd
    exact retI hx hb hr hlk hK hP hD hS d_Mo_liftsOf_61 rfl
  · have hd := ite_f hd h_3
    refine lv_aload_n hx hb d_Mo_liftsOf_33 rfl (lv_at hl 0 rfl) ?_
    refine va_get (D := D) (ci := 1) (v := .ref (a 1)) (C := R_Mo) (T := F_Mo) (N := 26) hx hb hg i_Mo hown hK hP 0 rfl rfl 1 (by decide) (hg _ g_993) (fun _ h9 => h9) rfl d_Mo_liftsOf_34 ?_
    refine lv_bipush (v := 10) hx hb d_Mo_liftsOf_37 (by decide) ?_
    refine lv_iload_n hx hb d_Mo_liftsOf_39 rfl (lv_at hl 1 rfl) ?_
    refine lv_iadd hx hb d_Mo_liftsOf_40 ?_
    obtain ⟨h_7, hd⟩ := ite_s hd
    refine ialdK hx hb hK hP 1 0 rfl rfl (inb_t h_7) rfl d_Mo_liftsOf_41 ?_
    refine lv_bipush (v := 6) hx hb d_Mo_liftsOf_42 (by decide) ?_
    refine lv_icmp_ne (tgt := 59) hx hb d_Mo_liftsOf_44 (by decide) (fun h_5 => ?_) (fun h_5 => ?_)
    · have hd := ite_f hd h_5
      refine lv_iconst (v := 0) hx hb d_Mo_liftsOf_59 (by decide) ?_
      refine lv_iadd hx hb d_Mo_liftsOf_60 ?_
      obtain rfl := Option.some.inj hd
      exact retI hx hb hr hlk hK hP hD hS d_Mo_liftsOf_61 rfl
    · have hd := ite_t hd h_5
      refine lv_aload_n hx hb d_Mo_liftsOf_47 rfl (lv_at hl 0 rfl) ?_
      refine va_get (D := D) (ci := 1) (v := .ref (a 1)) (C := R_Mo) (T := F_Mo) (N := 26) hx hb hg i_Mo hown hK hP 0 rfl rfl 1 (by decide) (hg _ g_993) (fun _ h9 => h9) rfl d_Mo_liftsOf_48 ?_
      refine lv_bipush (v := 14) hx hb d_Mo_liftsOf_51 (by decide) ?_
      refine lv_iload_n hx hb d_Mo_liftsOf_53 rfl (lv_at hl 1 rfl) ?_
      refine lv_iadd hx hb d_Mo_liftsOf_54 ?_
      obtain ⟨h_6, hd⟩ := ite_s hd
      refine ialdK hx hb hK hP 1 0 rfl rfl (inb_t h_6) rfl d_Mo_liftsOf_55 ?_
      refine lv_goto (tgt := 60) hx hb d_Mo_liftsOf_56 (by decide) ?_
      refine lv_iadd hx hb d_Mo_liftsOf_60 ?_
      obtain rfl := Option.some.inj hd
      exact retI hx hb hr hlk hK hP hD hS d_Mo_liftsOf_61 rfl
-- OwnsLiftModel.illOf(I)I
def d_Mo_illOf (x1 : Int32) (z : T_Mo) : Option (Int32 × T_Mo) :=
  (d_Mo_tells (-600) x1 99 z).bind fun v_1 => if v_1.1 ≤ 10 then (some (v_1.1, v_1.2)) else (some (10, v_1.2))
theorem d_Mo_illOf_0 : decode b_Mo_illOf 0 = .ok (.aload_n 0, 1) := by decide +kernel
theorem d_Mo_illOf_1 : decode b_Mo_illOf 1 = .ok (.sipush (-600), 3) := by decide +kernel
theorem d_Mo_illOf_4 : decode b_Mo_illOf 4 = .ok (.iload_n 1, 1) := by decide +kernel
theorem d_Mo_illOf_5 : decode b_Mo_illOf 5 = .ok (.bipush 99, 2) := by decide +kernel
theorem d_Mo_illOf_7 : decode b_Mo_illOf 7 = .ok (.invokevirtual 136, 3) := by decide +kernel
theorem d_Mo_illOf_10 : decode b_Mo_illOf 10 = .ok (.istore_n 2, 1) := by decide +kernel
theorem d_Mo_illOf_11 : decode b_Mo_illOf 11 = .ok (.iload_n 2, 1) := by decide +kernel
theorem d_Mo_illOf_12 : decode b_Mo_illOf 12 = .ok (.bipush 10, 2) := by decide +kernel
theorem d_Mo_illOf_14 : decode b_Mo_illOf 14 = .ok (.if_icmp .le 8, 3) := by decide +kernel
theorem d_Mo_illOf_17 : decode b_Mo_illOf 17 = .ok (.bipush 10, 2) := by decide +kernel
theorem d_Mo_illOf_19 : decode b_Mo_illOf 19 = .ok (.goto 4, 3) := by decide +kernel
theorem d_Mo_illOf_22 : decode b_Mo_illOf 22 = .ok (.iload_n 2, 1) := by decide +kernel
theorem d_Mo_illOf_23 : decode b_Mo_illOf 23 = .ok (.ireturn, 1) := by decide +kernel
theorem o_Mo_illOf : OkV y_Mo_illOf "OwnsLiftModel" b_Mo_illOf 3 (some .int) 1 := ⟨⟨rfl, by decide +kernel, by decide +kernel, by decide +kernel⟩, g_1169, g_43, g_81, g_1170⟩
set_option maxHeartbeats 4000000 in
set_option maxRecDepth 100000 in
theorem c_Mo_illOf (l : Launch) (D : va_G) (g : Nat → ClassId) (a : Nat → Nat) (x1 : Int32) (z : T_Mo) (v : Int32 × T_Mo) (h : d_Mo_illOf x1 z = some v) :
    MI l y_Mo_illOf b_Mo_illOf 3 .int ({ frames := 2, cells := 0, slots := 0, locals := 53 } : Room) D g [.ref (a 0), .int x1] (ws_Mo g a z) (v.1) (ws_Mo g a v.2) := by
  have hd := h
  unfold d_Mo_illOf at hd
  refine enterI rfl (Nat.le_of_ble_eq_true rfl) (fun p e s m below meth c A ls hx hb hml hr hown hg hlk hK hA hP hD hS hCs hl => ?_)
  have hown : s.vm.findClass "OwnsLiftModel" = some m.cls := hown
  have hl : lv_has ls 3 [(0, .ref (a 0)), (1, .int x1)] := hl
  show GI p l e s m ({ frames := 2, cells := 0, slots := 0, locals := 53 } : Room) ([.ref (a 0), .int x1] : List Value).toArray below meth c A D g (ws_Mo g a v.2) (v.1) s.heap [] (F0 m 0 ls [])
  refine lv_aload_n hx hb d_Mo_illOf_0 rfl (lv_at hl 0 rfl) ?_
  refine lv_sipush (v := (-600)) hx hb d_Mo_illOf_1 (by decide) ?_
  refine lv_iload_n hx hb d_Mo_illOf_4 rfl (lv_at hl 1 rfl) ?_
  refine lv_bipush (v := 99) hx hb d_Mo_illOf_5 (by decide) ?_
  obtain ⟨v_1, e_2, hd⟩ := bind_s hd
  refine callVI (ws' := ws_Mo g a v_1.2) (rest := []) (As := [.int (-600), .int x1, .int 99]) hx hb hml hown hg hK hP hD hS hA hCs hl.1 (c_Mo_tells l D g a (-600) x1 99 z _ e_2) o_Mo_tells g_1155 (ci := 1) (q0 := 0) rfl rfl (List.range' 0 12) (segC1 rfl rfl) (by decide) rfl (segP1 rfl rfl) rfl rfl (Nat.le_of_ble_eq_true rfl) ⟨rfl, rfl, Nat.le_of_ble_eq_true rfl, Nat.le_of_ble_eq_true rfl⟩ d_Mo_illOf_7 (fun H locs hP hD hS => ?_)
  refine lv_istore_n (lv' := [(2, .int v_1.1), (0, .ref (a 0)), (1, .int x1)]) hx hb d_Mo_illOf_10 rfl hl (by decide) rfl (fun ls hl => ?_)
  refine lv_iload_n hx hb d_Mo_illOf_11 rfl (lv_at hl 0 rfl) ?_
  refine lv_bipush (v := 10) hx hb d_Mo_illOf_12 (by decide) ?_
  refine lv_icmp_le (tgt := 22) hx hb d_Mo_illOf_14 (by decide) (fun h_3 => ?_) (fun h_3 => ?_)
  · have hd := ite_t hd h_3
    refine lv_iload_n hx hb d_Mo_illOf_22 rfl (lv_at hl 0 rfl) ?_
    obtain rfl := Option.some.inj hd
    exact retI hx hb hr hlk hK hP hD hS d_Mo_illOf_23 rfl
  · have hd := ite_f hd h_3
    refine lv_bipush (v := 10) hx hb d_Mo_illOf_17 (by decide) ?_
    refine lv_goto (tgt := 23) hx hb d_Mo_illOf_19 (by decide) ?_
    obtain rfl := Option.some.inj hd
    exact retI hx hb hr hlk hK hP hD hS d_Mo_illOf_23 rfl
-- OwnsLiftModel.looksForAll()V
def B_Mo_looksForAll_L25 (x1_f25 : Int32) (k25_58 : T_Mo → Option (T_Mo)) (self25 : Int32 → T_Mo → Option (T_Mo)) (x2_25 : Int32) (z_25 : T_Mo) : Option (T_Mo) :=
  if ((q_Mo_s z_25) 1) ≤ x2_25 then (k25_58 z_25) else ((d_Mo_likeOf x1_f25 x2_25 z_25).bind fun v_5 => if inb ((7 * x1_f25) + x2_25) 28 = true then (self25 (x2_25 + 1) (u_Mo_likes v_5.2 (upd (q_Mo_likes v_5.2) ((7 * x1_f25) + x2_25).toNatClampNeg v_5.1))) else none)
def d_Mo_looksForAll_L25 (x1_f25 : Int32) (k25_58 : T_Mo → Option (T_Mo)) (n : Nat) : Int32 → T_Mo → Option (T_Mo) := recN (fun _ _ => none) (fun self => B_Mo_looksForAll_L25 x1_f25 k25_58 self) n
def B_Mo_looksForAll_L2 (self2 : Int32 → T_Mo → Option (T_Mo)) (x1_2 : Int32) (z_2 : T_Mo) : Option (T_Mo) :=
  if ((q_Mo_s z_2) 0) ≤ x1_2 then (some (z_2)) else ((d_Mo_liftsOf x1_2 z_2).bind fun v_2 => if inb x1_2 4 = true then (d_Mo_looksForAll_L25 x1_2 (fun z_25 => self2 (x1_2 + 1) z_25) 1000 0 (u_Mo_lifts v_2.2 (upd (q_Mo_lifts v_2.2) x1_2.toNatClampNeg v_2.1))) else none)
def d_Mo_looksForAll_L2 (n : Nat) : Int32 → T_Mo → Option (T_Mo) := recN (fun _ _ => none) (fun self => B_Mo_looksForAll_L2 self) n
def d_Mo_looksForAll (z : T_Mo) : Option (T_Mo) :=
  d_Mo_looksForAll_L2  1000 0 z
theorem d_Mo_looksForAll_0 : decode b_Mo_looksForAll 0 = .ok (.iconst 0, 1) := by decide +kernel
theorem d_Mo_looksForAll_1 : decode b_Mo_looksForAll 1 = .ok (.istore_n 1, 1) := by decide +kernel
theorem d_Mo_looksForAll_2 : decode b_Mo_looksForAll 2 = .ok (.iload_n 1, 1) := by decide +kernel
theorem d_Mo_looksForAll_3 : decode b_Mo_looksForAll 3 = .ok (.aload_n 0, 1) := by decide +kernel
theorem d_Mo_looksForAll_4 : decode b_Mo_looksForAll 4 = .ok (.getfield 9, 3) := by decide +kernel
theorem d_Mo_looksForAll_7 : decode b_Mo_looksForAll 7 = .ok (.iconst 0, 1) := by decide +kernel
theorem d_Mo_looksForAll_8 : decode b_Mo_looksForAll 8 = .ok (.iaload, 1) := by decide +kernel
theorem d_Mo_looksForAll_9 : decode b_Mo_looksForAll 9 = .ok (.if_icmp .ge 55, 3) := by decide +kernel
theorem d_Mo_looksForAll_12 : decode b_Mo_looksForAll 12 = .ok (.aload_n 0, 1) := by decide +kernel
theorem d_Mo_looksForAll_13 : decode b_Mo_looksForAll 13 = .ok (.getfield 31, 3) := by decide +kernel
theorem d_Mo_looksForAll_16 : decode b_Mo_looksForAll 16 = .ok (.iload_n 1, 1) := by decide +kernel
theorem d_Mo_looksForAll_17 : decode b_Mo_looksForAll 17 = .ok (.aload_n 0, 1) := by decide +kernel
theorem d_Mo_looksForAll_18 : decode b_Mo_looksForAll 18 = .ok (.iload_n 1, 1) := by decide +kernel
theorem d_Mo_looksForAll_19 : decode b_Mo_looksForAll 19 = .ok (.invokevirtual 140, 3) := by decide +kernel
theorem d_Mo_looksForAll_22 : decode b_Mo_looksForAll 22 = .ok (.iastore, 1) := by decide +kernel
theorem d_Mo_looksForAll_23 : decode b_Mo_looksForAll 23 = .ok (.iconst 0, 1) := by decide +kernel
theorem d_Mo_looksForAll_24 : decode b_Mo_looksForAll 24 = .ok (.istore_n 2, 1) := by decide +kernel
theorem d_Mo_looksForAll_25 : decode b_Mo_looksForAll 25 = .ok (.iload_n 2, 1) := by decide +kernel
theorem d_Mo_looksForAll_26 : decode b_Mo_looksForAll 26 = .ok (.aload_n 0, 1) := by decide +kernel
theorem d_Mo_looksForAll_27 : decode b_Mo_looksForAll 27 = .ok (.getfield 9, 3) := by decide +kernel
theorem d_Mo_looksForAll_30 : decode b_Mo_looksForAll 30 = .ok (.iconst 1, 1) := by decide +kernel
theorem d_Mo_looksForAll_31 : decode b_Mo_looksForAll 31 = .ok (.iaload, 1) := by decide +kernel
theorem d_Mo_looksForAll_32 : decode b_Mo_looksForAll 32 = .ok (.if_icmp .ge 26, 3) := by decide +kernel
theorem d_Mo_looksForAll_35 : decode b_Mo_looksForAll 35 = .ok (.aload_n 0, 1) := by decide +kernel
theorem d_Mo_looksForAll_36 : decode b_Mo_looksForAll 36 = .ok (.getfield 28, 3) := by decide +kernel
theorem d_Mo_looksForAll_39 : decode b_Mo_looksForAll 39 = .ok (.bipush 7, 2) := by decide +kernel
theorem d_Mo_looksForAll_41 : decode b_Mo_looksForAll 41 = .ok (.iload_n 1, 1) := by decide +kernel
theorem d_Mo_looksForAll_42 : decode b_Mo_looksForAll 42 = .ok (.imul, 1) := by decide +kernel
theorem d_Mo_looksForAll_43 : decode b_Mo_looksForAll 43 = .ok (.iload_n 2, 1) := by decide +kernel
theorem d_Mo_looksForAll_44 : decode b_Mo_looksForAll 44 = .ok (.iadd, 1) := by decide +kernel
theorem d_Mo_looksForAll_45 : decode b_Mo_looksForAll 45 = .ok (.aload_n 0, 1) := by decide +kernel
theorem d_Mo_looksForAll_46 : decode b_Mo_looksForAll 46 = .ok (.iload_n 1, 1) := by decide +kernel
theorem d_Mo_looksForAll_47 : decode b_Mo_looksForAll 47 = .ok (.iload_n 2, 1) := by decide +kernel
theorem d_Mo_looksForAll_48 : decode b_Mo_looksForAll 48 = .ok (.invokevirtual 143, 3) := by decide +kernel
theorem d_Mo_looksForAll_51 : decode b_Mo_looksForAll 51 = .ok (.iastore, 1) := by decide +kernel
theorem d_Mo_looksForAll_52 : decode b_Mo_looksForAll 52 = .ok (.iinc 2 1, 3) := by decide +kernel
theorem d_Mo_looksForAll_55 : decode b_Mo_looksForAll 55 = .ok (.goto (-30), 3) := by decide +kernel
theorem d_Mo_looksForAll_58 : decode b_Mo_looksForAll 58 = .ok (.iinc 1 1, 3) := by decide +kernel
theorem d_Mo_looksForAll_61 : decode b_Mo_looksForAll 61 = .ok (.goto (-59), 3) := by decide +kernel
theorem d_Mo_looksForAll_64 : decode b_Mo_looksForAll 64 = .ok (.return_, 1) := by decide +kernel
theorem o_Mo_looksForAll : OkV y_Mo_looksForAll "OwnsLiftModel" b_Mo_looksForAll 3 none 0 := ⟨⟨rfl, by decide +kernel, by decide +kernel, by decide +kernel⟩, g_1220, g_47, g_81, g_1221⟩
set_option maxHeartbeats 4000000 in
set_option maxRecDepth 100000 in
theorem c_Mo_looksForAll (l : Launch) (D : va_G) (g : Nat → ClassId) (a : Nat → Nat) (z : T_Mo) (v : T_Mo) (h : d_Mo_looksForAll z = some v) :
    MV l y_Mo_looksForAll b_Mo_looksForAll 3 ({ frames := 3, cells := 0, slots := 0, locals := 75 } : Room) D g [.ref (a 0)] (ws_Mo g a z) (ws_Mo g a v) := by
  have hd := h
  unfold d_Mo_looksForAll at hd
  refine enterV rfl (Nat.le_of_ble_eq_true rfl) (fun p e s m below meth c A ls hx hb hml hr hown hg hlk hK hA hP hD hS hCs hl => ?_)
  have hown : s.vm.findClass "OwnsLiftModel" = some m.cls := hown
  have hl : lv_has ls 3 [(0, .ref (a 0))] := hl
  show GV p l e s m ({ frames := 3, cells := 0, slots := 0, locals := 75 } : Room) ([.ref (a 0)] : List Value).toArray below meth c A D g (ws_Mo g a v) s.heap [] (F0 m 0 ls [])
  refine lv_iconst (v := 0) hx hb d_Mo_looksForAll_0 (by decide) ?_
  refine lv_istore_n (lv' := [(1, .int 0), (0, .ref (a 0))]) hx hb d_Mo_looksForAll_1 rfl hl (by decide) rfl (fun ls hl => ?_)
  have lp2 : ∀ (n : Nat) (x1_2 : Int32) (z_2 : T_Mo) (H : Heap) (locs : List Loc) (ls : Array Slot), va_P D classes (ws_Mo g a z_2) H → va_D A (ws_Mo g a z_2) → va_S A s.heap H locs → lv_has ls 3 [(0, .ref (a 0)), (1, .int x1_2)] → d_Mo_looksForAll_L2 n x1_2 z_2 = some v → GV p l e s m ({ frames := 3, cells := 0, slots := 0, locals := 75 } : Room) ([.ref (a 0)] : List Value).toArray below meth c A D g (ws_Mo g a v) H locs (F0 m 2 ls []) := by
    intro n
    induction n with
    | zero =>
      intro  x1_2 z_2 H locs ls hP hD hS hl hd
      have hd : none = some v := hd
      cases hd
    | succ n ih2 =>
      intro  x1_2 z_2 H locs ls hP hD hS hl hd
      have hd : B_Mo_looksForAll_L2 (d_Mo_looksForAll_L2 n) x1_2 z_2 = some v := hd
      generalize d_Mo_looksForAll_L2 n = self2 at ih2 hd
      unfold B_Mo_looksForAll_L2 at hd
      refine lv_iload_n hx hb d_Mo_looksForAll_2 rfl (lv_at hl 1 rfl) ?_
      refine lv_aload_n hx hb d_Mo_looksForAll_3 rfl (lv_at hl 0 rfl) ?_
      refine va_get (D := D) (ci := 1) (v := .ref (a 1)) (C := R_Mo) (T := F_Mo) (N := 26) hx hb hg i_Mo hown hK hP 0 rfl rfl 1 (by decide) (hg _ g_993) (fun _ h9 => h9) rfl d_Mo_looksForAll_4 ?_
      refine lv_iconst (v := 0) hx hb d_Mo_looksForAll_7 (by decide) ?_
      refine ialdK hx hb hK hP 1 0 rfl rfl (inb_t (by decide +kernel)) (k := 0) (by decide +kernel) d_Mo_looksForAll_8 ?_
      refine lv_icmp_ge (tgt := 64) hx hb d_Mo_looksForAll_9 (by decide) (fun h_1 => ?_) (fun h_1 => ?_)
      · have hd := ite_t hd h_1
        obtain rfl := Option.some.inj hd
        exact retV hx hb hr hlk hK hP hD hS d_Mo_looksForAll_64
      · have hd := ite_f hd h_1
        refine lv_aload_n hx hb d_Mo_looksForAll_12 rfl (lv_at hl 0 rfl) ?_
        refine va_get (D := D) (ci := 1) (v := .ref (a 7)) (C := R_Mo) (T := F_Mo) (N := 26) hx hb hg i_Mo hown hK hP 0 rfl rfl 13 (by decide) (hg _ g_1005) (fun _ h9 => h9) rfl d_Mo_looksForAll_13 ?_
        refine lv_iload_n hx hb d_Mo_looksForAll_16 rfl (lv_at hl 1 rfl) ?_
        refine lv_aload_n hx hb d_Mo_looksForAll_17 rfl (lv_at hl 0 rfl) ?_
        refine lv_iload_n hx hb d_Mo_looksForAll_18 rfl (lv_at hl 1 rfl) ?_
        obtain ⟨v_2, e_3, hd⟩ := bind_s hd
        refine callVI (ws' := ws_Mo g a v_2.2) (rest := [.int x1_2, .ref (a 7)]) (As := [.int x1_2]) hx hb hml hown hg hK hP hD hS hA hCs hl.1 (c_Mo_liftsOf l D g a x1_2 z_2 _ e_3) o_Mo_liftsOf g_1151 (ci := 1) (q0 := 0) rfl rfl (List.range' 0 12) (segC1 rfl rfl) (by decide) rfl (segP1 rfl rfl) rfl rfl (Nat.le_of_ble_eq_true rfl) ⟨rfl, rfl, Nat.le_of_ble_eq_true rfl, Nat.le_of_ble_eq_true rfl⟩ d_Mo_looksForAll_19 (fun H locs hP hD hS => ?_)
        obtain ⟨h_8, hd⟩ := ite_s hd
        refine iastK hx hb hK hP hD hS 7 0 rfl rfl (inb_t h_8) rfl d_Mo_looksForAll_22 (fun H locs hP hD hS => ?_)
        have hP : va_P D classes (ws_Mo g a (u_Mo_lifts v_2.2 (upd (q_Mo_lifts v_2.2) x1_2.toNatClampNeg v_2.1))) H := hP
        have hD : va_D A (ws_Mo g a (u_Mo_lifts v_2.2 (upd (q_Mo_lifts v_2.2) x1_2.toNatClampNeg v_2.1))) := hD
        refine lv_iconst (v := 0) hx hb d_Mo_looksForAll_23 (by decide) ?_
        refine lv_istore_n (lv' := [(2, .int 0), (0, .ref (a 0)), (1, .int x1_2)]) hx hb d_Mo_looksForAll_24 rfl hl (by decide) rfl (fun ls hl => ?_)
        have ex25_58 : ∀ (z_25 : T_Mo) (H : Heap) (locs : List Loc) (ls : Array Slot), va_P D classes (ws_Mo g a z_25) H → va_D A (ws_Mo g a z_25) → va_S A s.heap H locs → lv_has ls 3 [(0, .ref (a 0)), (1, .int x1_2)] → (self2 (x1_2 + 1) z_25) = some v → GV p l e s m ({ frames := 3, cells := 0, slots := 0, locals := 75 } : Room) ([.ref (a 0)] : List Value).toArray below meth c A D g (ws_Mo g a v) H locs (F0 m 58 ls []) := by
          intro z_25 H locs ls hP hD hS hl hd
          refine lv_iinc (v := x1_2 + 1) (lv' := [(1, .int (x1_2 + 1)), (0, .ref (a 0))]) hx hb d_Mo_looksForAll_58 hl (k := 1) rfl (by rfl) (by decide) rfl (fun ls hl => ?_)
          refine lv_goto (tgt := 2) hx hb d_Mo_looksForAll_61 (by decide) ?_
          exact ih2 (x1_2 + 1) z_25 _ _ _ hP hD hS (lv_sub hl [1, 0] rfl) hd
        have lp25 : ∀ (x1_f25 : Int32) (k25_58 : T_Mo → Option (T_Mo)) (hk25_58 : ∀ (z_25 : T_Mo) (H : Heap) (locs : List Loc) (ls : Array Slot), va_P D classes (ws_Mo g a z_25) H → va_D A (ws_Mo g a z_25) → va_S A s.heap H locs → lv_has ls 3 [(0, .ref (a 0)), (1, .int x1_f25)] → k25_58 z_25 = some v → GV p l e s m ({ frames := 3, cells := 0, slots := 0, locals := 75 } : Room) ([.ref (a 0)] : List Value).toArray below meth c A D g (ws_Mo g a v) H locs (F0 m 58 ls [])) (n : Nat) (x2_25 : Int32) (z_25 : T_Mo) (H : Heap) (locs : List Loc) (ls : Array Slot), va_P D classes (ws_Mo g a z_25) H → va_D A (ws_Mo g a z_25) → va_S A s.heap H locs → lv_has ls 3 [(0, .ref (a 0)), (1, .int x1_f25), (2, .int x2_25)] → d_Mo_looksForAll_L25 x1_f25 k25_58 n x2_25 z_25 = some v → GV p l e s m ({ frames := 3, cells := 0, slots := 0, locals := 75 } : Room) ([.ref (a 0)] : List Value).toArray below meth c A D g (ws_Mo g a v) H locs (F0 m 25 ls []) := by
          intro x1_f25 k25_58 hk25_58 n
          induction n with
          | zero =>
            intro  x2_25 z_25 H locs ls hP hD hS hl hd
            have hd : none = some v := hd
            cases hd
          | succ n ih25 =>
            intro  x2_25 z_25 H locs ls hP hD hS hl hd
            have hd : B_Mo_looksForAll_L25 x1_f25 k25_58 (d_Mo_looksForAll_L25 x1_f25 k25_58 n) x2_25 z_25 = some v := hd
            generalize d_Mo_looksForAll_L25 x1_f25 k25_58 n = self25 at ih25 hd
            unfold B_Mo_looksForAll_L25 at hd
            refine lv_iload_n hx hb d_Mo_looksForAll_25 rfl (lv_at hl 2 rfl) ?_
            refine lv_aload_n hx hb d_Mo_looksForAll_26 rfl (lv_at hl 0 rfl) ?_
            refine va_get (D := D) (ci := 1) (v := .ref (a 1)) (C := R_Mo) (T := F_Mo) (N := 26) hx hb hg i_Mo hown hK hP 0 rfl rfl 1 (by decide) (hg _ g_993) (fun _ h9 => h9) rfl d_Mo_looksForAll_27 ?_
            refine lv_iconst (v := 1) hx hb d_Mo_looksForAll_30 (by decide) ?_
            refine ialdK hx hb hK hP 1 0 rfl rfl (inb_t (by decide +kernel)) (k := 1) (by decide +kernel) d_Mo_looksForAll_31 ?_
            refine lv_icmp_ge (tgt := 58) hx hb d_Mo_looksForAll_32 (by decide) (fun h_4 => ?_) (fun h_4 => ?_)
            · have hd := ite_t hd h_4
              exact hk25_58 z_25 _ _ _ hP hD hS (lv_sub hl [0, 1] rfl) hd
            · have hd := ite_f hd h_4
              refine lv_aload_n hx hb d_Mo_looksForAll_35 rfl (lv_at hl 0 rfl) ?_
              refine va_get (D := D) (ci := 1) (v := .ref (a 6)) (C := R_Mo) (T := F_Mo) (N := 26) hx hb hg i_Mo hown hK hP 0 rfl rfl 12 (by decide) (hg _ g_1004) (fun _ h9 => h9) rfl d_Mo_looksForAll_36 ?_
              refine lv_bipush (v := 7) hx hb d_Mo_looksForAll_39 (by decide) ?_
              refine lv_iload_n hx hb d_Mo_looksForAll_41 rfl (lv_at hl 1 rfl) ?_
              refine lv_imul hx hb d_Mo_looksForAll_42 ?_
              refine lv_iload_n hx hb d_Mo_looksForAll_43 rfl (lv_at hl 2 rfl) ?_
              refine lv_iadd hx hb d_Mo_looksForAll_44 ?_
              refine lv_aload_n hx hb d_Mo_looksForAll_45 rfl (lv_at hl 0 rfl) ?_
              refine lv_iload_n hx hb d_Mo_looksForAll_46 rfl (lv_at hl 1 rfl) ?_
              refine lv_iload_n hx hb d_Mo_looksForAll_47 rfl (lv_at hl 2 rfl) ?_
              obtain ⟨v_5, e_6, hd⟩ := bind_s hd
              refine callVI (ws' := ws_Mo g a v_5.2) (rest := [.int ((7 * x1_f25) + x2_25), .ref (a 6)]) (As := [.int x1_f25, .int x2_25]) hx hb hml hown hg hK hP hD hS hA hCs hl.1 (c_Mo_likeOf l D g a x1_f25 x2_25 z_25 _ e_6) o_Mo_likeOf g_1206 (ci := 1) (q0 := 0) rfl rfl (List.range' 0 12) (segC1 rfl rfl) (by decide) rfl (segP1 rfl rfl) rfl rfl (Nat.le_of_ble_eq_true rfl) ⟨rfl, rfl, Nat.le_of_ble_eq_true rfl, Nat.le_of_ble_eq_true rfl⟩ d_Mo_looksForAll_48 (fun H locs hP hD hS => ?_)
              obtain ⟨h_7, hd⟩ := ite_s hd
              refine iastK hx hb hK hP hD hS 6 0 rfl rfl (inb_t h_7) rfl d_Mo_looksForAll_51 (fun H locs hP hD hS => ?_)
              have hP : va_P D classes (ws_Mo g a (u_Mo_likes v_5.2 (upd (q_Mo_likes v_5.2) ((7 * x1_f25) + x2_25).toNatClampNeg v_5.1))) H := hP
              have hD : va_D A (ws_Mo g a (u_Mo_likes v_5.2 (upd (q_Mo_likes v_5.2) ((7 * x1_f25) + x2_25).toNatClampNeg v_5.1))) := hD
              refine lv_iinc (v := x2_25 + 1) (lv' := [(2, .int (x2_25 + 1)), (0, .ref (a 0)), (1, .int x1_f25)]) hx hb d_Mo_looksForAll_52 hl (k := 2) rfl (by rfl) (by decide) rfl (fun ls hl => ?_)
              refine lv_goto (tgt := 25) hx hb d_Mo_looksForAll_55 (by decide) ?_
              exact ih25 (x2_25 + 1) (u_Mo_likes v_5.2 (upd (q_Mo_likes v_5.2) ((7 * x1_f25) + x2_25).toNatClampNeg v_5.1)) _ _ _ hP hD hS (lv_sub hl [1, 2, 0] rfl) hd
        exact lp25 x1_2 _ ex25_58 1000 0 (u_Mo_lifts v_2.2 (upd (q_Mo_lifts v_2.2) x1_2.toNatClampNeg v_2.1)) _ _ _ hP hD hS (lv_sub hl [1, 2, 0] rfl) hd
  exact lp2 1000 0 z _ _ _ hP hD hS (lv_sub hl [1, 0] rfl) hd
-- OwnsLiftModel.person(IIII)I
def d_Mo_person (x1 : Int32) (x2 : Int32) (x3 : Int32) (x4 : Int32) (z : T_Mo) : Option (Int32 × T_Mo) :=
  (d_Mo_in x1 0 6).bind fun v_1 => if v_1 = 0 then (some ((-1), z)) else ((d_Mo_in x2 0 9).bind fun v_4 => if v_4 = 0 then (some ((-2), z)) else ((d_Mo_in x3 0 99).bind fun v_7 => if v_7 = 0 then (some ((-2), z)) else ((d_Mo_in x4 0 99).bind fun v_10 => if v_10 = 0 then (some ((-2), z)) else (if ((q_Mo_s z) 0) = 4 then (some ((-4), z)) else (if inb (10 + ((q_Mo_s z) 0)) 901 = true then (if inb (14 + ((q_Mo_s z) 0)) 901 = true then (if inb (18 + ((q_Mo_s z) 0)) 901 = true then (if inb (22 + ((q_Mo_s z) 0)) 901 = true then (if inb (26 + ((q_Mo_s z) 0)) 901 = true then (some ((q_Mo_s z) 0, (u_Mo_s (u_Mo_s (u_Mo_s (u_Mo_s (u_Mo_s (u_Mo_s z (upd (q_Mo_s z) (10 + ((q_Mo_s z) 0)).toNatClampNeg x1)) (upd (q_Mo_s (u_Mo_s z (upd (q_Mo_s z) (10 + ((q_Mo_s z) 0)).toNatClampNeg x1))) (14 + ((q_Mo_s z) 0)).toNatClampNeg x2)) (upd (q_Mo_s (u_Mo_s (u_Mo_s z (upd (q_Mo_s z) (10 + ((q_Mo_s z) 0)).toNatClampNeg x1)) (upd (q_Mo_s (u_Mo_s z (upd (q_Mo_s z) (10 + ((q_Mo_s z) 0)).toNatClampNeg x1))) (14 + ((q_Mo_s z) 0)).toNatClampNeg x2))) (18 + ((q_Mo_s z) 0)).toNatClampNeg x3)) (upd (q_Mo_s (u_Mo_s (u_Mo_s (u_Mo_s z (upd (q_Mo_s z) (10 + ((q_Mo_s z) 0)).toNatClampNeg x1)) (upd (q_Mo_s (u_Mo_s z (upd (q_Mo_s z) (10 + ((q_Mo_s z) 0)).toNatClampNeg x1))) (14 + ((q_Mo_s z) 0)).toNatClampNeg x2)) (upd (q_Mo_s (u_Mo_s (u_Mo_s z (upd (q_Mo_s z) (10 + ((q_Mo_s z) 0)).toNatClampNeg x1)) (upd (q_Mo_s (u_Mo_s z (upd (q_Mo_s z) (10 + ((q_Mo_s z) 0)).toNatClampNeg x1))) (14 + ((q_Mo_s z) 0)).toNatClampNeg x2))) (18 + ((q_Mo_s z) 0)).toNatClampNeg x3))) (22 + ((q_Mo_s z) 0)).toNatClampNeg x4)) (upd (q_Mo_s (u_Mo_s (u_Mo_s (u_Mo_s (u_Mo_s z (upd (q_Mo_s z) (10 + ((q_Mo_s z) 0)).toNatClampNeg x1)) (upd (q_Mo_s (u_Mo_s z (upd (q_Mo_s z) (10 + ((q_Mo_s z) 0)).toNatClampNeg x1))) (14 + ((q_Mo_s z) 0)).toNatClampNeg x2)) (upd (q_Mo_s (u_Mo_s (u_Mo_s z (upd (q_Mo_s z) (10 + ((q_Mo_s z) 0)).toNatClampNeg x1)) (upd (q_Mo_s (u_Mo_s z (upd (q_Mo_s z) (10 + ((q_Mo_s z) 0)).toNatClampNeg x1))) (14 + ((q_Mo_s z) 0)).toNatClampNeg x2))) (18 + ((q_Mo_s z) 0)).toNatClampNeg x3)) (upd (q_Mo_s (u_Mo_s (u_Mo_s (u_Mo_s z (upd (q_Mo_s z) (10 + ((q_Mo_s z) 0)).toNatClampNeg x1)) (upd (q_Mo_s (u_Mo_s z (upd (q_Mo_s z) (10 + ((q_Mo_s z) 0)).toNatClampNeg x1))) (14 + ((q_Mo_s z) 0)).toNatClampNeg x2)) (upd (q_Mo_s (u_Mo_s (u_Mo_s z (upd (q_Mo_s z) (10 + ((q_Mo_s z) 0)).toNatClampNeg x1)) (upd (q_Mo_s (u_Mo_s z (upd (q_Mo_s z) (10 + ((q_Mo_s z) 0)).toNatClampNeg x1))) (14 + ((q_Mo_s z) 0)).toNatClampNeg x2))) (18 + ((q_Mo_s z) 0)).toNatClampNeg x3))) (22 + ((q_Mo_s z) 0)).toNatClampNeg x4))) (26 + ((q_Mo_s z) 0)).toNatClampNeg 0)) (upd (q_Mo_s (u_Mo_s (u_Mo_s (u_Mo_s (u_Mo_s (u_Mo_s z (upd (q_Mo_s z) (10 + ((q_Mo_s z) 0)).toNatClampNeg x1)) (upd (q_Mo_s (u_Mo_s z (upd (q_Mo_s z) (10 + ((q_Mo_s z) 0)).toNatClampNeg x1))) (14 + ((q_Mo_s z) 0)).toNatClampNeg x2)) (upd (q_Mo_s (u_Mo_s (u_Mo_s z (upd (q_Mo_s z) (10 + ((q_Mo_s z) 0)).toNatClampNeg x1)) (upd (q_Mo_s (u_Mo_s z (upd (q_Mo_s z) (10 + ((q_Mo_s z) 0)).toNatClampNeg x1))) (14 + ((q_Mo_s z) 0)).toNatClampNeg x2))) (18 + ((q_Mo_s z) 0)).toNatClampNeg x3)) (upd (q_Mo_s (u_Mo_s (u_Mo_s (u_Mo_s z (upd (q_Mo_s z) (10 + ((q_Mo_s z) 0)).toNatClampNeg x1)) (upd (q_Mo_s (u_Mo_s z (upd (q_Mo_s z) (10 + ((q_Mo_s z) 0)).toNatClampNeg x1))) (14 + ((q_Mo_s z) 0)).toNatClampNeg x2)) (upd (q_Mo_s (u_Mo_s (u_Mo_s z (upd (q_Mo_s z) (10 + ((q_Mo_s z) 0)).toNatClampNeg x1)) (upd (q_Mo_s (u_Mo_s z (upd (q_Mo_s z) (10 + ((q_Mo_s z) 0)).toNatClampNeg x1))) (14 + ((q_Mo_s z) 0)).toNatClampNeg x2))) (18 + ((q_Mo_s z) 0)).toNatClampNeg x3))) (22 + ((q_Mo_s z) 0)).toNatClampNeg x4)) (upd (q_Mo_s (u_Mo_s (u_Mo_s (u_Mo_s (u_Mo_s z (upd (q_Mo_s z) (10 + ((q_Mo_s z) 0)).toNatClampNeg x1)) (upd (q_Mo_s (u_Mo_s z (upd (q_Mo_s z) (10 + ((q_Mo_s z) 0)).toNatClampNeg x1))) (14 + ((q_Mo_s z) 0)).toNatClampNeg x2)) (upd (q_Mo_s (u_Mo_s (u_Mo_s z (upd (q_Mo_s z) (10 + ((q_Mo_s z) 0)).toNatClampNeg x1)) (upd (q_Mo_s (u_Mo_s z (upd (q_Mo_s z) (10 + ((q_Mo_s z) 0)).toNatClampNeg x1))) (14 + ((q_Mo_s z) 0)).toNatClampNeg x2))) (18 + ((q_Mo_s z) 0)).toNatClampNeg x3)) (upd (q_Mo_s (u_Mo_s (u_Mo_s (u_Mo_s z (upd (q_Mo_s z) (10 + ((q_Mo_s z) 0)).toNatClampNeg x1)) (upd (q_Mo_s (u_Mo_s z (upd (q_Mo_s z) (10 + ((q_Mo_s z) 0)).toNatClampNeg x1))) (14 + ((q_Mo_s z) 0)).toNatClampNeg x2)) (upd (q_Mo_s (u_Mo_s (u_Mo_s z (upd (q_Mo_s z) (10 + ((q_Mo_s z) 0)).toNatClampNeg x1)) (upd (q_Mo_s (u_Mo_s z (upd (q_Mo_s z) (10 + ((q_Mo_s z) 0)).toNatClampNeg x1))) (14 + ((q_Mo_s z) 0)).toNatClampNeg x2))) (18 + ((q_Mo_s z) 0)).toNatClampNeg x3))) (22 + ((q_Mo_s z) 0)).toNatClampNeg x4))) (26 + ((q_Mo_s z) 0)).toNatClampNeg 0))) 0 (((q_Mo_s (u_Mo_s (u_Mo_s (u_Mo_s (u_Mo_s (u_Mo_s z (upd (q_Mo_s z) (10 + ((q_Mo_s z) 0)).toNatClampNeg x1)) (upd (q_Mo_s (u_Mo_s z (upd (q_Mo_s z) (10 + ((q_Mo_s z) 0)).toNatClampNeg x1))) (14 + ((q_Mo_s z) 0)).toNatClampNeg x2)) (upd (q_Mo_s (u_Mo_s (u_Mo_s z (upd (q_Mo_s z) (10 + ((q_Mo_s z) 0)).toNatClampNeg x1)) (upd (q_Mo_s (u_Mo_s z (upd (q_Mo_s z) (10 + ((q_Mo_s z) 0)).toNatClampNeg x1))) (14 + ((q_Mo_s z) 0)).toNatClampNeg x2))) (18 + ((q_Mo_s z) 0)).toNatClampNeg x3)) (upd (q_Mo_s (u_Mo_s (u_Mo_s (u_Mo_s z (upd (q_Mo_s z) (10 + ((q_Mo_s z) 0)).toNatClampNeg x1)) (upd (q_Mo_s (u_Mo_s z (upd (q_Mo_s z) (10 + ((q_Mo_s z) 0)).toNatClampNeg x1))) (14 + ((q_Mo_s z) 0)).toNatClampNeg x2)) (upd (q_Mo_s (u_Mo_s (u_Mo_s z (upd (q_Mo_s z) (10 + ((q_Mo_s z) 0)).toNatClampNeg x1)) (upd (q_Mo_s (u_Mo_s z (upd (q_Mo_s z) (10 + ((q_Mo_s z) 0)).toNatClampNeg x1))) (14 + ((q_Mo_s z) 0)).toNatClampNeg x2))) (18 + ((q_Mo_s z) 0)).toNatClampNeg x3))) (22 + ((q_Mo_s z) 0)).toNatClampNeg x4)) (upd (q_Mo_s (u_Mo_s (u_Mo_s (u_Mo_s (u_Mo_s z (upd (q_Mo_s z) (10 + ((q_Mo_s z) 0)).toNatClampNeg x1)) (upd (q_Mo_s (u_Mo_s z (upd (q_Mo_s z) (10 + ((q_Mo_s z) 0)).toNatClampNeg x1))) (14 + ((q_Mo_s z) 0)).toNatClampNeg x2)) (upd (q_Mo_s (u_Mo_s (u_Mo_s z (upd (q_Mo_s z) (10 + ((q_Mo_s z) 0)).toNatClampNeg x1)) (upd (q_Mo_s (u_Mo_s z (upd (q_Mo_s z) (10 + ((q_Mo_s z) 0)).toNatClampNeg x1))) (14 + ((q_Mo_s z) 0)).toNatClampNeg x2))) (18 + ((q_Mo_s z) 0)).toNatClampNeg x3)) (upd (q_Mo_s (u_Mo_s (u_Mo_s (u_Mo_s z (upd (q_Mo_s z) (10 + ((q_Mo_s z) 0)).toNatClampNeg x1)) (upd (q_Mo_s (u_Mo_s z (upd (q_Mo_s z) (10 + ((q_Mo_s z) 0)).toNatClampNeg x1))) (14 + ((q_Mo_s z) 0)).toNatClampNeg x2)) (upd (q_Mo_s (u_Mo_s (u_Mo_s z (upd (q_Mo_s z) (10 + ((q_Mo_s z) 0)).toNatClampNeg x1)) (upd (q_Mo_s (u_Mo_s z (upd (q_Mo_s z) (10 + ((q_Mo_s z) 0)).toNatClampNeg x1))) (14 + ((q_Mo_s z) 0)).toNatClampNeg x2))) (18 + ((q_Mo_s z) 0)).toNatClampNeg x3))) (22 + ((q_Mo_s z) 0)).toNatClampNeg x4))) (26 + ((q_Mo_s z) 0)).toNatClampNeg 0))) 0) + 1))))) else none) else none) else none) else none) else none)))))
theorem d_Mo_person_0 : decode b_Mo_person 0 = .ok (.iload_n 1, 1) := by decide +kernel
theorem d_Mo_person_1 : decode b_Mo_person 1 = .ok (.iconst 0, 1) := by decide +kernel
theorem d_Mo_person_2 : decode b_Mo_person 2 = .ok (.bipush 6, 2) := by decide +kernel
theorem d_Mo_person_4 : decode b_Mo_person 4 = .ok (.invokestatic 50, 3) := by decide +kernel
theorem d_Mo_person_7 : decode b_Mo_person 7 = .ok (.ifCond .ne 5, 3) := by decide +kernel
theorem d_Mo_person_10 : decode b_Mo_person 10 = .ok (.iconst (-1), 1) := by decide +kernel
theorem d_Mo_person_11 : decode b_Mo_person 11 = .ok (.ireturn, 1) := by decide +kernel
theorem d_Mo_person_12 : decode b_Mo_person 12 = .ok (.iload_n 2, 1) := by decide +kernel
theorem d_Mo_person_13 : decode b_Mo_person 13 = .ok (.iconst 0, 1) := by decide +kernel
theorem d_Mo_person_14 : decode b_Mo_person 14 = .ok (.bipush 9, 2) := by decide +kernel
theorem d_Mo_person_16 : decode b_Mo_person 16 = .ok (.invokestatic 50, 3) := by decide +kernel
theorem d_Mo_person_19 : decode b_Mo_person 19 = .ok (.ifCond .eq 24, 3) := by decide +kernel
theorem d_Mo_person_22 : decode b_Mo_person 22 = .ok (.iload_n 3, 1) := by decide +kernel
theorem d_Mo_person_23 : decode b_Mo_person 23 = .ok (.iconst 0, 1) := by decide +kernel
theorem d_Mo_person_24 : decode b_Mo_person 24 = .ok (.bipush 99, 2) := by decide +kernel
theorem d_Mo_person_26 : decode b_Mo_person 26 = .ok (.invokestatic 50, 3) := by decide +kernel
theorem d_Mo_person_29 : decode b_Mo_person 29 = .ok (.ifCond .eq 14, 3) := by decide +kernel
theorem d_Mo_person_32 : decode b_Mo_person 32 = .ok (.iload 4, 2) := by decide +kernel
theorem d_Mo_person_34 : decode b_Mo_person 34 = .ok (.iconst 0, 1) := by decide +kernel
theorem d_Mo_person_35 : decode b_Mo_person 35 = .ok (.bipush 99, 2) := by decide +kernel
theorem d_Mo_person_37 : decode b_Mo_person 37 = .ok (.invokestatic 50, 3) := by decide +kernel
theorem d_Mo_person_40 : decode b_Mo_person 40 = .ok (.ifCond .ne 6, 3) := by decide +kernel
theorem d_Mo_person_43 : decode b_Mo_person 43 = .ok (.bipush (-2), 2) := by decide +kernel
theorem d_Mo_person_45 : decode b_Mo_person 45 = .ok (.ireturn, 1) := by decide +kernel
theorem d_Mo_person_46 : decode b_Mo_person 46 = .ok (.aload_n 0, 1) := by decide +kernel
theorem d_Mo_person_47 : decode b_Mo_person 47 = .ok (.getfield 9, 3) := by decide +kernel
theorem d_Mo_person_50 : decode b_Mo_person 50 = .ok (.iconst 0, 1) := by decide +kernel
theorem d_Mo_person_51 : decode b_Mo_person 51 = .ok (.iaload, 1) := by decide +kernel
theorem d_Mo_person_52 : decode b_Mo_person 52 = .ok (.iconst 4, 1) := by decide +kernel
theorem d_Mo_person_53 : decode b_Mo_person 53 = .ok (.if_icmp .ne 6, 3) := by decide +kernel
theorem d_Mo_person_56 : decode b_Mo_person 56 = .ok (.bipush (-4), 2) := by decide +kernel
theorem d_Mo_person_58 : decode b_Mo_person 58 = .ok (.ireturn, 1) := by decide +kernel
theorem d_Mo_person_59 : decode b_Mo_person 59 = .ok (.aload_n 0, 1) := by decide +kernel
theorem d_Mo_person_60 : decode b_Mo_person 60 = .ok (.getfield 9, 3) := by decide +kernel
theorem d_Mo_person_63 : decode b_Mo_person 63 = .ok (.iconst 0, 1) := by decide +kernel
theorem d_Mo_person_64 : decode b_Mo_person 64 = .ok (.iaload, 1) := by decide +kernel
theorem d_Mo_person_65 : decode b_Mo_person 65 = .ok (.istore 5, 2) := by decide +kernel
theorem d_Mo_person_67 : decode b_Mo_person 67 = .ok (.aload_n 0, 1) := by decide +kernel
theorem d_Mo_person_68 : decode b_Mo_person 68 = .ok (.getfield 9, 3) := by decide +kernel
theorem d_Mo_person_71 : decode b_Mo_person 71 = .ok (.bipush 10, 2) := by decide +kernel
theorem d_Mo_person_73 : decode b_Mo_person 73 = .ok (.iload 5, 2) := by decide +kernel
theorem d_Mo_person_75 : decode b_Mo_person 75 = .ok (.iadd, 1) := by decide +kernel
theorem d_Mo_person_76 : decode b_Mo_person 76 = .ok (.iload_n 1, 1) := by decide +kernel
theorem d_Mo_person_77 : decode b_Mo_person 77 = .ok (.iastore, 1) := by decide +kernel
theorem d_Mo_person_78 : decode b_Mo_person 78 = .ok (.aload_n 0, 1) := by decide +kernel
theorem d_Mo_person_79 : decode b_Mo_person 79 = .ok (.getfield 9, 3) := by decide +kernel
theorem d_Mo_person_82 : decode b_Mo_person 82 = .ok (.bipush 14, 2) := by decide +kernel
theorem d_Mo_person_84 : decode b_Mo_person 84 = .ok (.iload 5, 2) := by decide +kernel
theorem d_Mo_person_86 : decode b_Mo_person 86 = .ok (.iadd, 1) := by decide +kernel
theorem d_Mo_person_87 : decode b_Mo_person 87 = .ok (.iload_n 2, 1) := by decide +kernel
theorem d_Mo_person_88 : decode b_Mo_person 88 = .ok (.iastore, 1) := by decide +kernel
theorem d_Mo_person_89 : decode b_Mo_person 89 = .ok (.aload_n 0, 1) := by decide +kernel
theorem d_Mo_person_90 : decode b_Mo_person 90 = .ok (.getfield 9, 3) := by decide +kernel
theorem d_Mo_person_93 : decode b_Mo_person 93 = .ok (.bipush 18, 2) := by decide +kernel
theorem d_Mo_person_95 : decode b_Mo_person 95 = .ok (.iload 5, 2) := by decide +kernel
theorem d_Mo_person_97 : decode b_Mo_person 97 = .ok (.iadd, 1) := by decide +kernel
theorem d_Mo_person_98 : decode b_Mo_person 98 = .ok (.iload_n 3, 1) := by decide +kernel
theorem d_Mo_person_99 : decode b_Mo_person 99 = .ok (.iastore, 1) := by decide +kernel
theorem d_Mo_person_100 : decode b_Mo_person 100 = .ok (.aload_n 0, 1) := by decide +kernel
theorem d_Mo_person_101 : decode b_Mo_person 101 = .ok (.getfield 9, 3) := by decide +kernel
theorem d_Mo_person_104 : decode b_Mo_person 104 = .ok (.bipush 22, 2) := by decide +kernel
theorem d_Mo_person_106 : decode b_Mo_person 106 = .ok (.iload 5, 2) := by decide +kernel
theorem d_Mo_person_108 : decode b_Mo_person 108 = .ok (.iadd, 1) := by decide +kernel
theorem d_Mo_person_109 : decode b_Mo_person 109 = .ok (.iload 4, 2) := by decide +kernel
theorem d_Mo_person_111 : decode b_Mo_person 111 = .ok (.iastore, 1) := by decide +kernel
theorem d_Mo_person_112 : decode b_Mo_person 112 = .ok (.aload_n 0, 1) := by decide +kernel
theorem d_Mo_person_113 : decode b_Mo_person 113 = .ok (.getfield 9, 3) := by decide +kernel
theorem d_Mo_person_116 : decode b_Mo_person 116 = .ok (.bipush 26, 2) := by decide +kernel
theorem d_Mo_person_118 : decode b_Mo_person 118 = .ok (.iload 5, 2) := by decide +kernel
theorem d_Mo_person_120 : decode b_Mo_person 120 = .ok (.iadd, 1) := by decide +kernel
theorem d_Mo_person_121 : decode b_Mo_person 121 = .ok (.iconst 0, 1) := by decide +kernel
theorem d_Mo_person_122 : decode b_Mo_person 122 = .ok (.iastore, 1) := by decide +kernel
theorem d_Mo_person_123 : decode b_Mo_person 123 = .ok (.aload_n 0, 1) := by decide +kernel
theorem d_Mo_person_124 : decode b_Mo_person 124 = .ok (.getfield 9, 3) := by decide +kernel
theorem d_Mo_person_127 : decode b_Mo_person 127 = .ok (.iconst 0, 1) := by decide +kernel
theorem d_Mo_person_128 : decode b_Mo_person 128 = .ok (.dup2, 1) := by decide +kernel
theorem d_Mo_person_129 : decode b_Mo_person 129 = .ok (.iaload, 1) := by decide +kernel
theorem d_Mo_person_130 : decode b_Mo_person 130 = .ok (.iconst 1, 1) := by decide +kernel
theorem d_Mo_person_131 : decode b_Mo_person 131 = .ok (.iadd, 1) := by decide +kernel
theorem d_Mo_person_132 : decode b_Mo_person 132 = .ok (.iastore, 1) := by decide +kernel
theorem d_Mo_person_133 : decode b_Mo_person 133 = .ok (.iload 5, 2) := by decide +kernel
theorem d_Mo_person_135 : decode b_Mo_person 135 = .ok (.ireturn, 1) := by decide +kernel
theorem o_Mo_person : OkV y_Mo_person "OwnsLiftModel" b_Mo_person 6 (some .int) 4 := ⟨⟨rfl, by decide +kernel, by decide +kernel, by decide +kernel⟩, g_1140, g_1141, g_81, g_1142⟩
set_option maxHeartbeats 4000000 in
set_option maxRecDepth 100000 in
theorem c_Mo_person (l : Launch) (D : va_G) (g : Nat → ClassId) (a : Nat → Nat) (x1 : Int32) (x2 : Int32) (x3 : Int32) (x4 : Int32) (z : T_Mo) (v : Int32 × T_Mo) (h : d_Mo_person x1 x2 x3 x4 z = some v) :
    MI l y_Mo_person b_Mo_person 6 .int ({ frames := 1, cells := 0, slots := 0, locals := 22 } : Room) D g [.ref (a 0), .int x1, .int x2, .int x3, .int x4] (ws_Mo g a z) (v.1) (ws_Mo g a v.2) := by
  have hd := h
  unfold d_Mo_person at hd
  refine enterI rfl (Nat.le_of_ble_eq_true rfl) (fun p e s m below meth c A ls hx hb hml hr hown hg hlk hK hA hP hD hS hCs hl => ?_)
  have hown : s.vm.findClass "OwnsLiftModel" = some m.cls := hown
  have hl : lv_has ls 6 [(0, .ref (a 0)), (1, .int x1), (2, .int x2), (3, .int x3), (4, .int x4)] := hl
  show GI p l e s m ({ frames := 1, cells := 0, slots := 0, locals := 22 } : Room) ([.ref (a 0), .int x1, .int x2, .int x3, .int x4] : List Value).toArray below meth c A D g (ws_Mo g a v.2) (v.1) s.heap [] (F0 m 0 ls [])
  refine lv_iload_n hx hb d_Mo_person_0 rfl (lv_at hl 1 rfl) ?_
  refine lv_iconst (v := 0) hx hb d_Mo_person_1 (by decide) ?_
  refine lv_bipush (v := 6) hx hb d_Mo_person_2 (by decide) ?_
  obtain ⟨v_1, e_2, hd⟩ := bind_s hd
  refine callSI (ws' := ws_Mo g a z) (rest := []) (As := [.int x1, .int 0, .int 6]) hx hb hml hown hg hK hP hD hS hA hCs hl.1 (c_Mo_in l D g  x1 0 6 _ e_2) o_Mo_in g_1076 [] segC0 rfl rfl segP0 rfl rfl (Nat.le_of_ble_eq_true rfl) ⟨rfl, rfl, Nat.le_of_ble_eq_true rfl, Nat.le_of_ble_eq_true rfl⟩ d_Mo_person_4 (fun H locs hP hD hS => ?_)
  refine lv_if_ne (tgt := 12) hx hb d_Mo_person_7 (by decide) (fun h_3 => ?_) (fun h_3 => ?_)
  · have hd := ite_f hd h_3
    refine lv_iload_n hx hb d_Mo_person_12 rfl (lv_at hl 2 rfl) ?_
    refine lv_iconst (v := 0) hx hb d_Mo_person_13 (by decide) ?_
    refine lv_bipush (v := 9) hx hb d_Mo_person_14 (by decide) ?_
    obtain ⟨v_4, e_5, hd⟩ := bind_s hd
    refine callSI (ws' := ws_Mo g a z) (rest := []) (As := [.int x2, .int 0, .int 9]) hx hb hml hown hg hK hP hD hS hA hCs hl.1 (c_Mo_in l D g  x2 0 9 _ e_5) o_Mo_in g_1076 [] segC0 rfl rfl segP0 rfl rfl (Nat.le_of_ble_eq_true rfl) ⟨rfl, rfl, Nat.le_of_ble_eq_true rfl, Nat.le_of_ble_eq_true rfl⟩ d_Mo_person_16 (fun H locs hP hD hS => ?_)
    refine lv_if_eq (tgt := 43) hx hb d_Mo_person_19 (by decide) (fun h_6 => ?_) (fun h_6 => ?_)
    · have hd := ite_t hd h_6
      refine lv_bipush (v := (-2)) hx hb d_Mo_person_43 (by decide) ?_
      obtain rfl := Option.some.inj hd
      exact retI hx hb hr hlk hK hP hD hS d_Mo_person_45 rfl
    · have hd := ite_f hd h_6
      refine lv_iload_n hx hb d_Mo_person_22 rfl (lv_at hl 3 rfl) ?_
      refine lv_iconst (v := 0) hx hb d_Mo_person_23 (by decide) ?_
      refine lv_bipush (v := 99) hx hb d_Mo_person_24 (by decide) ?_
      obtain ⟨v_7, e_8, hd⟩ := bind_s hd
      refine callSI (ws' := ws_Mo g a z) (rest := []) (As := [.int x3, .int 0, .int 99]) hx hb hml hown hg hK hP hD hS hA hCs hl.1 (c_Mo_in l D g  x3 0 99 _ e_8) o_Mo_in g_1076 [] segC0 rfl rfl segP0 rfl rfl (Nat.le_of_ble_eq_true rfl) ⟨rfl, rfl, Nat.le_of_ble_eq_true rfl, Nat.le_of_ble_eq_true rfl⟩ d_Mo_person_26 (fun H locs hP hD hS => ?_)
      refine lv_if_eq (tgt := 43) hx hb d_Mo_person_29 (by decide) (fun h_9 => ?_) (fun h_9 => ?_)
      · have hd := ite_t hd h_9
        refine lv_bipush (v := (-2)) hx hb d_Mo_person_43 (by decide) ?_
        obtain rfl := Option.some.inj hd
        exact retI hx hb hr hlk hK hP hD hS d_Mo_person_45 rfl
      · have hd := ite_f hd h_9
        refine lv_iload hx hb d_Mo_person_32 (lv_at hl 4 rfl) ?_
        refine lv_iconst (v := 0) hx hb d_Mo_person_34 (by decide) ?_
        refine lv_bipush (v := 99) hx hb d_Mo_person_35 (by decide) ?_
        obtain ⟨v_10, e_11, hd⟩ := bind_s hd
        refine callSI (ws' := ws_Mo g a z) (rest := []) (As := [.int x4, .int 0, .int 99]) hx hb hml hown hg hK hP hD hS hA hCs hl.1 (c_Mo_in l D g  x4 0 99 _ e_11) o_Mo_in g_1076 [] segC0 rfl rfl segP0 rfl rfl (Nat.le_of_ble_eq_true rfl) ⟨rfl, rfl, Nat.le_of_ble_eq_true rfl, Nat.le_of_ble_eq_true rfl⟩ d_Mo_person_37 (fun H locs hP hD hS => ?_)
        refine lv_if_ne (tgt := 46) hx hb d_Mo_person_40 (by decide) (fun h_12 => ?_) (fun h_12 => ?_)
        · have hd := ite_f hd h_12
          refine lv_aload_n hx hb d_Mo_person_46 rfl (lv_at hl 0 rfl) ?_
          refine va_get (D := D) (ci := 1) (v := .ref (a 1)) (C := R_Mo) (T := F_Mo) (N := 26) hx hb hg i_Mo hown hK hP 0 rfl rfl 1 (by decide) (hg _ g_993) (fun _ h9 => h9) rfl d_Mo_person_47 ?_
          refine lv_iconst (v := 0) hx hb d_Mo_person_50 (by decide) ?_
          refine ialdK hx hb hK hP 1 0 rfl rfl (inb_t (by decide +kernel)) (k := 0) (by decide +kernel) d_Mo_person_51 ?_
          refine lv_iconst (v := 4) hx hb d_Mo_person_52 (by decide) ?_
          refine lv_icmp_ne (tgt := 59) hx hb d_Mo_person_53 (by decide) (fun h_13 => ?_) (fun h_13 => ?_)
          · have hd := ite_f hd h_13
            refine lv_aload_n hx hb d_Mo_person_59 rfl (lv_at hl 0 rfl) ?_
            refine va_get (D := D) (ci := 1) (v := .ref (a 1)) (C := R_Mo) (T := F_Mo) (N := 26) hx hb hg i_Mo hown hK hP 0 rfl rfl 1 (by decide) (hg _ g_993) (fun _ h9 => h9) rfl d_Mo_person_60 ?_
            refine lv_iconst (v := 0) hx hb d_Mo_person_63 (by decide) ?_
            refine ialdK hx hb hK hP 1 0 rfl rfl (inb_t (by decide +kernel)) (k := 0) (by decide +kernel) d_Mo_person_64 ?_
            refine lv_istore (lv' := [(5, .int ((q_Mo_s z) 0)), (0, .ref (a 0)), (1, .int x1), (2, .int x2), (3, .int x3), (4, .int x4)]) hx hb d_Mo_person_65 hl (by decide) rfl (fun ls hl => ?_)
            refine lv_aload_n hx hb d_Mo_person_67 rfl (lv_at hl 1 rfl) ?_
            refine va_get (D := D) (ci := 1) (v := .ref (a 1)) (C := R_Mo) (T := F_Mo) (N := 26) hx hb hg i_Mo hown hK hP 0 rfl rfl 1 (by decide) (hg _ g_993) (fun _ h9 => h9) rfl d_Mo_person_68 ?_
            refine lv_bipush (v := 10) hx hb d_Mo_person_71 (by decide) ?_
            refine lv_iload hx hb d_Mo_person_73 (lv_at hl 0 rfl) ?_
            refine lv_iadd hx hb d_Mo_person_75 ?_
            refine lv_iload_n hx hb d_Mo_person_76 rfl (lv_at hl 2 rfl) ?_
            obtain ⟨h_18, hd⟩ := ite_s hd
            refine iastK hx hb hK hP hD hS 1 0 rfl rfl (inb_t h_18) rfl d_Mo_person_77 (fun H locs hP hD hS => ?_)
            have hP : va_P D classes (ws_Mo g a (u_Mo_s z (upd (q_Mo_s z) (10 + ((q_Mo_s z) 0)).toNatClampNeg x1))) H := hP
            have hD : va_D A (ws_Mo g a (u_Mo_s z (upd (q_Mo_s z) (10 + ((q_Mo_s z) 0)).toNatClampNeg x1))) := hD
            refine lv_aload_n hx hb d_Mo_person_78 rfl (lv_at hl 1 rfl) ?_
            refine va_get (D := D) (ci := 1) (v := .ref (a 1)) (C := R_Mo) (T := F_Mo) (N := 26) hx hb hg i_Mo hown hK hP 0 rfl rfl 1 (by decide) (hg _ g_993) (fun _ h9 => h9) rfl d_Mo_person_79 ?_
            refine lv_bipush (v := 14) hx hb d_Mo_person_82 (by decide) ?_
            refine lv_iload hx hb d_Mo_person_84 (lv_at hl 0 rfl) ?_
            refine lv_iadd hx hb d_Mo_person_86 ?_
            refine lv_iload_n hx hb d_Mo_person_87 rfl (lv_at hl 3 rfl) ?_
            obtain ⟨h_17, hd⟩ := ite_s hd
            refine iastK hx hb hK hP hD hS 1 0 rfl rfl (inb_t h_17) rfl d_Mo_person_88 (fun H locs hP hD hS => ?_)
            have hP : va_P D classes (ws_Mo g a (u_Mo_s (u_Mo_s z (upd (q_Mo_s z) (10 + ((q_Mo_s z) 0)).toNatClampNeg x1)) (upd (q_Mo_s (u_Mo_s z (upd (q_Mo_s z) (10 + ((q_Mo_s z) 0)).toNatClampNeg x1))) (14 + ((q_Mo_s z) 0)).toNatClampNeg x2))) H := hP
            have hD : va_D A (ws_Mo g a (u_Mo_s (u_Mo_s z (upd (q_Mo_s z) (10 + ((q_Mo_s z) 0)).toNatClampNeg x1)) (upd (q_Mo_s (u_Mo_s z (upd (q_Mo_s z) (10 + ((q_Mo_s z) 0)).toNatClampNeg x1))) (14 + ((q_Mo_s z) 0)).toNatClampNeg x2))) := hD
            refine lv_aload_n hx hb d_Mo_person_89 rfl (lv_at hl 1 rfl) ?_
            refine va_get (D := D) (ci := 1) (v := .ref (a 1)) (C := R_Mo) (T := F_Mo) (N := 26) hx hb hg i_Mo hown hK hP 0 rfl rfl 1 (by decide) (hg _ g_993) (fun _ h9 => h9) rfl d_Mo_person_90 ?_
            refine lv_bipush (v := 18) hx hb d_Mo_person_93 (by decide) ?_
            refine lv_iload hx hb d_Mo_person_95 (lv_at hl 0 rfl) ?_
            refine lv_iadd hx hb d_Mo_person_97 ?_
            refine lv_iload_n hx hb d_Mo_person_98 rfl (lv_at hl 4 rfl) ?_
            obtain ⟨h_16, hd⟩ := ite_s hd
            refine iastK hx hb hK hP hD hS 1 0 rfl rfl (inb_t h_16) rfl d_Mo_person_99 (fun H locs hP hD hS => ?_)
            have hP : va_P D classes (ws_Mo g a (u_Mo_s (u_Mo_s (u_Mo_s z (upd (q_Mo_s z) (10 + ((q_Mo_s z) 0)).toNatClampNeg x1)) (upd (q_Mo_s (u_Mo_s z (upd (q_Mo_s z) (10 + ((q_Mo_s z) 0)).toNatClampNeg x1))) (14 + ((q_Mo_s z) 0)).toNatClampNeg x2)) (upd (q_Mo_s (u_Mo_s (u_Mo_s z (upd (q_Mo_s z) (10 + ((q_Mo_s z) 0)).toNatClampNeg x1)) (upd (q_Mo_s (u_Mo_s z (upd (q_Mo_s z) (10 + ((q_Mo_s z) 0)).toNatClampNeg x1))) (14 + ((q_Mo_s z) 0)).toNatClampNeg x2))) (18 + ((q_Mo_s z) 0)).toNatClampNeg x3))) H := hP
            have hD : va_D A (ws_Mo g a (u_Mo_s (u_Mo_s (u_Mo_s z (upd (q_Mo_s z) (10 + ((q_Mo_s z) 0)).toNatClampNeg x1)) (upd (q_Mo_s (u_Mo_s z (upd (q_Mo_s z) (10 + ((q_Mo_s z) 0)).toNatClampNeg x1))) (14 + ((q_Mo_s z) 0)).toNatClampNeg x2)) (upd (q_Mo_s (u_Mo_s (u_Mo_s z (upd (q_Mo_s z) (10 + ((q_Mo_s z) 0)).toNatClampNeg x1)) (upd (q_Mo_s (u_Mo_s z (upd (q_Mo_s z) (10 + ((q_Mo_s z) 0)).toNatClampNeg x1))) (14 + ((q_Mo_s z) 0)).toNatClampNeg x2))) (18 + ((q_Mo_s z) 0)).toNatClampNeg x3))) := hD
            refine lv_aload_n hx hb d_Mo_person_100 rfl (lv_at hl 1 rfl) ?_
            refine va_get (D := D) (ci := 1) (v := .ref (a 1)) (C := R_Mo) (T := F_Mo) (N := 26) hx hb hg i_Mo hown hK hP 0 rfl rfl 1 (by decide) (hg _ g_993) (fun _ h9 => h9) rfl d_Mo_person_101 ?_
            refine lv_bipush (v := 22) hx hb d_Mo_person_104 (by decide) ?_
            refine lv_iload hx hb d_Mo_person_106 (lv_at hl 0 rfl) ?_
            refine lv_iadd hx hb d_Mo_person_108 ?_
            refine lv_iload hx hb d_Mo_person_109 (lv_at hl 5 rfl) ?_
            obtain ⟨h_15, hd⟩ := ite_s hd
            refine iastK hx hb hK hP hD hS 1 0 rfl rfl (inb_t h_15) rfl d_Mo_person_111 (fun H locs hP hD hS => ?_)
            have hP : va_P D classes (ws_Mo g a (u_Mo_s (u_Mo_s (u_Mo_s (u_Mo_s z (upd (q_Mo_s z) (10 + ((q_Mo_s z) 0)).toNatClampNeg x1)) (upd (q_Mo_s (u_Mo_s z (upd (q_Mo_s z) (10 + ((q_Mo_s z) 0)).toNatClampNeg x1))) (14 + ((q_Mo_s z) 0)).toNatClampNeg x2)) (upd (q_Mo_s (u_Mo_s (u_Mo_s z (upd (q_Mo_s z) (10 + ((q_Mo_s z) 0)).toNatClampNeg x1)) (upd (q_Mo_s (u_Mo_s z (upd (q_Mo_s z) (10 + ((q_Mo_s z) 0)).toNatClampNeg x1))) (14 + ((q_Mo_s z) 0)).toNatClampNeg x2))) (18 + ((q_Mo_s z) 0)).toNatClampNeg x3)) (upd (q_Mo_s (u_Mo_s (u_Mo_s (u_Mo_s z (upd (q_Mo_s z) (10 + ((q_Mo_s z) 0)).toNatClampNeg x1)) (upd (q_Mo_s (u_Mo_s z (upd (q_Mo_s z) (10 + ((q_Mo_s z) 0)).toNatClampNeg x1))) (14 + ((q_Mo_s z) 0)).toNatClampNeg x2)) (upd (q_Mo_s (u_Mo_s (u_Mo_s z (upd (q_Mo_s z) (10 + ((q_Mo_s z) 0)).toNatClampNeg x1)) (upd (q_Mo_s (u_Mo_s z (upd (q_Mo_s z) (10 + ((q_Mo_s z) 0)).toNatClampNeg x1))) (14 + ((q_Mo_s z) 0)).toNatClampNeg x2))) (18 + ((q_Mo_s z) 0)).toNatClampNeg x3))) (22 + ((q_Mo_s z) 0)).toNatClampNeg x4))) H := hP
            have hD : va_D A (ws_Mo g a (u_Mo_s (u_Mo_s (u_Mo_s (u_Mo_s z (upd (q_Mo_s z) (10 + ((q_Mo_s z) 0)).toNatClampNeg x1)) (upd (q_Mo_s (u_Mo_s z (upd (q_Mo_s z) (10 + ((q_Mo_s z) 0)).toNatClampNeg x1))) (14 + ((q_Mo_s z) 0)).toNatClampNeg x2)) (upd (q_Mo_s (u_Mo_s (u_Mo_s z (upd (q_Mo_s z) (10 + ((q_Mo_s z) 0)).toNatClampNeg x1)) (upd (q_Mo_s (u_Mo_s z (upd (q_Mo_s z) (10 + ((q_Mo_s z) 0)).toNatClampNeg x1))) (14 + ((q_Mo_s z) 0)).toNatClampNeg x2))) (18 + ((q_Mo_s z) 0)).toNatClampNeg x3)) (upd (q_Mo_s (u_Mo_s (u_Mo_s (u_Mo_s z (upd (q_Mo_s z) (10 + ((q_Mo_s z) 0)).toNatClampNeg x1)) (upd (q_Mo_s (u_Mo_s z (upd (q_Mo_s z) (10 + ((q_Mo_s z) 0)).toNatClampNeg x1))) (14 + ((q_Mo_s z) 0)).toNatClampNeg x2)) (upd (q_Mo_s (u_Mo_s (u_Mo_s z (upd (q_Mo_s z) (10 + ((q_Mo_s z) 0)).toNatClampNeg x1)) (upd (q_Mo_s (u_Mo_s z (upd (q_Mo_s z) (10 + ((q_Mo_s z) 0)).toNatClampNeg x1))) (14 + ((q_Mo_s z) 0)).toNatClampNeg x2))) (18 + ((q_Mo_s z) 0)).toNatClampNeg x3))) (22 + ((q_Mo_s z) 0)).toNatClampNeg x4))) := hD
            refine lv_aload_n hx hb d_Mo_person_112 rfl (lv_at hl 1 rfl) ?_
            refine va_get (D := D) (ci := 1) (v := .ref (a 1)) (C := R_Mo) (T := F_Mo) (N := 26) hx hb hg i_Mo hown hK hP 0 rfl rfl 1 (by decide) (hg _ g_993) (fun _ h9 => h9) rfl d_Mo_person_113 ?_
            refine lv_bipush (v := 26) hx hb d_Mo_person_116 (by decide) ?_
            refine lv_iload hx hb d_Mo_person_118 (lv_at hl 0 rfl) ?_
            refine lv_iadd hx hb d_Mo_person_120 ?_
            refine lv_iconst (v := 0) hx hb d_Mo_person_121 (by decide) ?_
            obtain ⟨h_14, hd⟩ := ite_s hd
            refine iastK hx hb hK hP hD hS 1 0 rfl rfl (inb_t h_14) rfl d_Mo_person_122 (fun H locs hP hD hS => ?_)
            have hP : va_P D classes (ws_Mo g a (u_Mo_s (u_Mo_s (u_Mo_s (u_Mo_s (u_Mo_s z (upd (q_Mo_s z) (10 + ((q_Mo_s z) 0)).toNatClampNeg x1)) (upd (q_Mo_s (u_Mo_s z (upd (q_Mo_s z) (10 + ((q_Mo_s z) 0)).toNatClampNeg x1))) (14 + ((q_Mo_s z) 0)).toNatClampNeg x2)) (upd (q_Mo_s (u_Mo_s (u_Mo_s z (upd (q_Mo_s z) (10 + ((q_Mo_s z) 0)).toNatClampNeg x1)) (upd (q_Mo_s (u_Mo_s z (upd (q_Mo_s z) (10 + ((q_Mo_s z) 0)).toNatClampNeg x1))) (14 + ((q_Mo_s z) 0)).toNatClampNeg x2))) (18 + ((q_Mo_s z) 0)).toNatClampNeg x3)) (upd (q_Mo_s (u_Mo_s (u_Mo_s (u_Mo_s z (upd (q_Mo_s z) (10 + ((q_Mo_s z) 0)).toNatClampNeg x1)) (upd (q_Mo_s (u_Mo_s z (upd (q_Mo_s z) (10 + ((q_Mo_s z) 0)).toNatClampNeg x1))) (14 + ((q_Mo_s z) 0)).toNatClampNeg x2)) (upd (q_Mo_s (u_Mo_s (u_Mo_s z (upd (q_Mo_s z) (10 + ((q_Mo_s z) 0)).toNatClampNeg x1)) (upd (q_Mo_s (u_Mo_s z (upd (q_Mo_s z) (10 + ((q_Mo_s z) 0)).toNatClampNeg x1))) (14 + ((q_Mo_s z) 0)).toNatClampNeg x2))) (18 + ((q_Mo_s z) 0)).toNatClampNeg x3))) (22 + ((q_Mo_s z) 0)).toNatClampNeg x4)) (upd (q_Mo_s (u_Mo_s (u_Mo_s (u_Mo_s (u_Mo_s z (upd (q_Mo_s z) (10 + ((q_Mo_s z) 0)).toNatClampNeg x1)) (upd (q_Mo_s (u_Mo_s z (upd (q_Mo_s z) (10 + ((q_Mo_s z) 0)).toNatClampNeg x1))) (14 + ((q_Mo_s z) 0)).toNatClampNeg x2)) (upd (q_Mo_s (u_Mo_s (u_Mo_s z (upd (q_Mo_s z) (10 + ((q_Mo_s z) 0)).toNatClampNeg x1)) (upd (q_Mo_s (u_Mo_s z (upd (q_Mo_s z) (10 + ((q_Mo_s z) 0)).toNatClampNeg x1))) (14 + ((q_Mo_s z) 0)).toNatClampNeg x2))) (18 + ((q_Mo_s z) 0)).toNatClampNeg x3)) (upd (q_Mo_s (u_Mo_s (u_Mo_s (u_Mo_s z (upd (q_Mo_s z) (10 + ((q_Mo_s z) 0)).toNatClampNeg x1)) (upd (q_Mo_s (u_Mo_s z (upd (q_Mo_s z) (10 + ((q_Mo_s z) 0)).toNatClampNeg x1))) (14 + ((q_Mo_s z) 0)).toNatClampNeg x2)) (upd (q_Mo_s (u_Mo_s (u_Mo_s z (upd (q_Mo_s z) (10 + ((q_Mo_s z) 0)).toNatClampNeg x1)) (upd (q_Mo_s (u_Mo_s z (upd (q_Mo_s z) (10 + ((q_Mo_s z) 0)).toNatClampNeg x1))) (14 + ((q_Mo_s z) 0)).toNatClampNeg x2))) (18 + ((q_Mo_s z) 0)).toNatClampNeg x3))) (22 + ((q_Mo_s z) 0)).toNatClampNeg x4))) (26 + ((q_Mo_s z) 0)).toNatClampNeg 0))) H := hP
            have hD : va_D A (ws_Mo g a (u_Mo_s (u_Mo_s (u_Mo_s (u_Mo_s (u_Mo_s z (upd (q_Mo_s z) (10 + ((q_Mo_s z) 0)).toNatClampNeg x1)) (upd (q_Mo_s (u_Mo_s z (upd (q_Mo_s z) (10 + ((q_Mo_s z) 0)).toNatClampNeg x1))) (14 + ((q_Mo_s z) 0)).toNatClampNeg x2)) (upd (q_Mo_s (u_Mo_s (u_Mo_s z (upd (q_Mo_s z) (10 + ((q_Mo_s z) 0)).toNatClampNeg x1)) (upd (q_Mo_s (u_Mo_s z (upd (q_Mo_s z) (10 + ((q_Mo_s z) 0)).toNatClampNeg x1))) (14 + ((q_Mo_s z) 0)).toNatClampNeg x2))) (18 + ((q_Mo_s z) 0)).toNatClampNeg x3)) (upd (q_Mo_s (u_Mo_s (u_Mo_s (u_Mo_s z (upd (q_Mo_s z) (10 + ((q_Mo_s z) 0)).toNatClampNeg x1)) (upd (q_Mo_s (u_Mo_s z (upd (q_Mo_s z) (10 + ((q_Mo_s z) 0)).toNatClampNeg x1))) (14 + ((q_Mo_s z) 0)).toNatClampNeg x2)) (upd (q_Mo_s (u_Mo_s (u_Mo_s z (upd (q_Mo_s z) (10 + ((q_Mo_s z) 0)).toNatClampNeg x1)) (upd (q_Mo_s (u_Mo_s z (upd (q_Mo_s z) (10 + ((q_Mo_s z) 0)).toNatClampNeg x1))) (14 + ((q_Mo_s z) 0)).toNatClampNeg x2))) (18 + ((q_Mo_s z) 0)).toNatClampNeg x3))) (22 + ((q_Mo_s z) 0)).toNatClampNeg x4)) (upd (q_Mo_s (u_Mo_s (u_Mo_s (u_Mo_s (u_Mo_s z (upd (q_Mo_s z) (10 + ((q_Mo_s z) 0)).toNatClampNeg x1)) (upd (q_Mo_s (u_Mo_s z (upd (q_Mo_s z) (10 + ((q_Mo_s z) 0)).toNatClampNeg x1))) (14 + ((q_Mo_s z) 0)).toNatClampNeg x2)) (upd (q_Mo_s (u_Mo_s (u_Mo_s z (upd (q_Mo_s z) (10 + ((q_Mo_s z) 0)).toNatClampNeg x1)) (upd (q_Mo_s (u_Mo_s z (upd (q_Mo_s z) (10 + ((q_Mo_s z) 0)).toNatClampNeg x1))) (14 + ((q_Mo_s z) 0)).toNatClampNeg x2))) (18 + ((q_Mo_s z) 0)).toNatClampNeg x3)) (upd (q_Mo_s (u_Mo_s (u_Mo_s (u_Mo_s z (upd (q_Mo_s z) (10 + ((q_Mo_s z) 0)).toNatClampNeg x1)) (upd (q_Mo_s (u_Mo_s z (upd (q_Mo_s z) (10 + ((q_Mo_s z) 0)).toNatClampNeg x1))) (14 + ((q_Mo_s z) 0)).toNatClampNeg x2)) (upd (q_Mo_s (u_Mo_s (u_Mo_s z (upd (q_Mo_s z) (10 + ((q_Mo_s z) 0)).toNatClampNeg x1)) (upd (q_Mo_s (u_Mo_s z (upd (q_Mo_s z) (10 + ((q_Mo_s z) 0)).toNatClampNeg x1))) (14 + ((q_Mo_s z) 0)).toNatClampNeg x2))) (18 + ((q_Mo_s z) 0)).toNatClampNeg x3))) (22 + ((q_Mo_s z) 0)).toNatClampNeg x4))) (26 + ((q_Mo_s z) 0)).toNatClampNeg 0))) := hD
            refine lv_aload_n hx hb d_Mo_person_123 rfl (lv_at hl 1 rfl) ?_
            refine va_get (D := D) (ci := 1) (v := .ref (a 1)) (C := R_Mo) (T := F_Mo) (N := 26) hx hb hg i_Mo hown hK hP 0 rfl rfl 1 (by decide) (hg _ g_993) (fun _ h9 => h9) rfl d_Mo_person_124 ?_
            refine lv_iconst (v := 0) hx hb d_Mo_person_127 (by decide) ?_
            refine lv_dup2_11 hx hb d_Mo_person_128 rfl rfl ?_
            refine ialdK hx hb hK hP 1 0 rfl rfl (inb_t (by decide +kernel)) (k := 0) (by decide +kernel) d_Mo_person_129 ?_
            refine lv_iconst (v := 1) hx hb d_Mo_person_130 (by decide) ?_
            refine lv_iadd hx hb d_Mo_person_131 ?_
            refine iastK hx hb hK hP hD hS 1 0 rfl rfl (inb_t (by decide +kernel)) (k := 0) (by decide +kernel) d_Mo_person_132 (fun H locs hP hD hS => ?_)
            have hP : va_P D classes (ws_Mo g a (u_Mo_s (u_Mo_s (u_Mo_s (u_Mo_s (u_Mo_s (u_Mo_s z (upd (q_Mo_s z) (10 + ((q_Mo_s z) 0)).toNatClampNeg x1)) (upd (q_Mo_s (u_Mo_s z (upd (q_Mo_s z) (10 + ((q_Mo_s z) 0)).toNatClampNeg x1))) (14 + ((q_Mo_s z) 0)).toNatClampNeg x2)) (upd (q_Mo_s (u_Mo_s (u_Mo_s z (upd (q_Mo_s z) (10 + ((q_Mo_s z) 0)).toNatClampNeg x1)) (upd (q_Mo_s (u_Mo_s z (upd (q_Mo_s z) (10 + ((q_Mo_s z) 0)).toNatClampNeg x1))) (14 + ((q_Mo_s z) 0)).toNatClampNeg x2))) (18 + ((q_Mo_s z) 0)).toNatClampNeg x3)) (upd (q_Mo_s (u_Mo_s (u_Mo_s (u_Mo_s z (upd (q_Mo_s z) (10 + ((q_Mo_s z) 0)).toNatClampNeg x1)) (upd (q_Mo_s (u_Mo_s z (upd (q_Mo_s z) (10 + ((q_Mo_s z) 0)).toNatClampNeg x1))) (14 + ((q_Mo_s z) 0)).toNatClampNeg x2)) (upd (q_Mo_s (u_Mo_s (u_Mo_s z (upd (q_Mo_s z) (10 + ((q_Mo_s z) 0)).toNatClampNeg x1)) (upd (q_Mo_s (u_Mo_s z (upd (q_Mo_s z) (10 + ((q_Mo_s z) 0)).toNatClampNeg x1))) (14 + ((q_Mo_s z) 0)).toNatClampNeg x2))) (18 + ((q_Mo_s z) 0)).toNatClampNeg x3))) (22 + ((q_Mo_s z) 0)).toNatClampNeg x4)) (upd (q_Mo_s (u_Mo_s (u_Mo_s (u_Mo_s (u_Mo_s z (upd (q_Mo_s z) (10 + ((q_Mo_s z) 0)).toNatClampNeg x1)) (upd (q_Mo_s (u_Mo_s z (upd (q_Mo_s z) (10 + ((q_Mo_s z) 0)).toNatClampNeg x1))) (14 + ((q_Mo_s z) 0)).toNatClampNeg x2)) (upd (q_Mo_s (u_Mo_s (u_Mo_s z (upd (q_Mo_s z) (10 + ((q_Mo_s z) 0)).toNatClampNeg x1)) (upd (q_Mo_s (u_Mo_s z (upd (q_Mo_s z) (10 + ((q_Mo_s z) 0)).toNatClampNeg x1))) (14 + ((q_Mo_s z) 0)).toNatClampNeg x2))) (18 + ((q_Mo_s z) 0)).toNatClampNeg x3)) (upd (q_Mo_s (u_Mo_s (u_Mo_s (u_Mo_s z (upd (q_Mo_s z) (10 + ((q_Mo_s z) 0)).toNatClampNeg x1)) (upd (q_Mo_s (u_Mo_s z (upd (q_Mo_s z) (10 + ((q_Mo_s z) 0)).toNatClampNeg x1))) (14 + ((q_Mo_s z) 0)).toNatClampNeg x2)) (upd (q_Mo_s (u_Mo_s (u_Mo_s z (upd (q_Mo_s z) (10 + ((q_Mo_s z) 0)).toNatClampNeg x1)) (upd (q_Mo_s (u_Mo_s z (upd (q_Mo_s z) (10 + ((q_Mo_s z) 0)).toNatClampNeg x1))) (14 + ((q_Mo_s z) 0)).toNatClampNeg x2))) (18 + ((q_Mo_s z) 0)).toNatClampNeg x3))) (22 + ((q_Mo_s z) 0)).toNatClampNeg x4))) (26 + ((q_Mo_s z) 0)).toNatClampNeg 0)) (upd (q_Mo_s (u_Mo_s (u_Mo_s (u_Mo_s (u_Mo_s (u_Mo_s z (upd (q_Mo_s z) (10 + ((q_Mo_s z) 0)).toNatClampNeg x1)) (upd (q_Mo_s (u_Mo_s z (upd (q_Mo_s z) (10 + ((q_Mo_s z) 0)).toNatClampNeg x1))) (14 + ((q_Mo_s z) 0)).toNatClampNeg x2)) (upd (q_Mo_s (u_Mo_s (u_Mo_s z (upd (q_Mo_s z) (10 + ((q_Mo_s z) 0)).toNatClampNeg x1)) (upd (q_Mo_s (u_Mo_s z (upd (q_Mo_s z) (10 + ((q_Mo_s z) 0)).toNatClampNeg x1))) (14 + ((q_Mo_s z) 0)).toNatClampNeg x2))) (18 + ((q_Mo_s z) 0)).toNatClampNeg x3)) (upd (q_Mo_s (u_Mo_s (u_Mo_s (u_Mo_s z (upd (q_Mo_s z) (10 + ((q_Mo_s z) 0)).toNatClampNeg x1)) (upd (q_Mo_s (u_Mo_s z (upd (q_Mo_s z) (10 + ((q_Mo_s z) 0)).toNatClampNeg x1))) (14 + ((q_Mo_s z) 0)).toNatClampNeg x2)) (upd (q_Mo_s (u_Mo_s (u_Mo_s z (upd (q_Mo_s z) (10 + ((q_Mo_s z) 0)).toNatClampNeg x1)) (upd (q_Mo_s (u_Mo_s z (upd (q_Mo_s z) (10 + ((q_Mo_s z) 0)).toNatClampNeg x1))) (14 + ((q_Mo_s z) 0)).toNatClampNeg x2))) (18 + ((q_Mo_s z) 0)).toNatClampNeg x3))) (22 + ((q_Mo_s z) 0)).toNatClampNeg x4)) (upd (q_Mo_s (u_Mo_s (u_Mo_s (u_Mo_s (u_Mo_s z (upd (q_Mo_s z) (10 + ((q_Mo_s z) 0)).toNatClampNeg x1)) (upd (q_Mo_s (u_Mo_s z (upd (q_Mo_s z) (10 + ((q_Mo_s z) 0)).toNatClampNeg x1))) (14 + ((q_Mo_s z) 0)).toNatClampNeg x2)) (upd (q_Mo_s (u_Mo_s (u_Mo_s z (upd (q_Mo_s z) (10 + ((q_Mo_s z) 0)).toNatClampNeg x1)) (upd (q_Mo_s (u_Mo_s z (upd (q_Mo_s z) (10 + ((q_Mo_s z) 0)).toNatClampNeg x1))) (14 + ((q_Mo_s z) 0)).toNatClampNeg x2))) (18 + ((q_Mo_s z) 0)).toNatClampNeg x3)) (upd (q_Mo_s (u_Mo_s (u_Mo_s (u_Mo_s z (upd (q_Mo_s z) (10 + ((q_Mo_s z) 0)).toNatClampNeg x1)) (upd (q_Mo_s (u_Mo_s z (upd (q_Mo_s z) (10 + ((q_Mo_s z) 0)).toNatClampNeg x1))) (14 + ((q_Mo_s z) 0)).toNatClampNeg x2)) (upd (q_Mo_s (u_Mo_s (u_Mo_s z (upd (q_Mo_s z) (10 + ((q_Mo_s z) 0)).toNatClampNeg x1)) (upd (q_Mo_s (u_Mo_s z (upd (q_Mo_s z) (10 + ((q_Mo_s z) 0)).toNatClampNeg x1))) (14 + ((q_Mo_s z) 0)).toNatClampNeg x2))) (18 + ((q_Mo_s z) 0)).toNatClampNeg x3))) (22 + ((q_Mo_s z) 0)).toNatClampNeg x4))) (26 + ((q_Mo_s z) 0)).toNatClampNeg 0))) 0 (((q_Mo_s (u_Mo_s (u_Mo_s (u_Mo_s (u_Mo_s (u_Mo_s z (upd (q_Mo_s z) (10 + ((q_Mo_s z) 0)).toNatClampNeg x1)) (upd (q_Mo_s (u_Mo_s z (upd (q_Mo_s z) (10 + ((q_Mo_s z) 0)).toNatClampNeg x1))) (14 + ((q_Mo_s z) 0)).toNatClampNeg x2)) (upd (q_Mo_s (u_Mo_s (u_Mo_s z (upd (q_Mo_s z) (10 + ((q_Mo_s z) 0)).toNatClampNeg x1)) (upd (q_Mo_s (u_Mo_s z (upd (q_Mo_s z) (10 + ((q_Mo_s z) 0)).toNatClampNeg x1))) (14 + ((q_Mo_s z) 0)).toNatClampNeg x2))) (18 + ((q_Mo_s z) 0)).toNatClampNeg x3)) (upd (q_Mo_s (u_Mo_s (u_Mo_s (u_Mo_s z (upd (q_Mo_s z) (10 + ((q_Mo_s z) 0)).toNatClampNeg x1)) (upd (q_Mo_s (u_Mo_s z (upd (q_Mo_s z) (10 + ((q_Mo_s z) 0)).toNatClampNeg x1))) (14 + ((q_Mo_s z) 0)).toNatClampNeg x2)) (upd (q_Mo_s (u_Mo_s (u_Mo_s z (upd (q_Mo_s z) (10 + ((q_Mo_s z) 0)).toNatClampNeg x1)) (upd (q_Mo_s (u_Mo_s z (upd (q_Mo_s z) (10 + ((q_Mo_s z) 0)).toNatClampNeg x1))) (14 + ((q_Mo_s z) 0)).toNatClampNeg x2))) (18 + ((q_Mo_s z) 0)).toNatClampNeg x3))) (22 + ((q_Mo_s z) 0)).toNatClampNeg x4)) (upd (q_Mo_s (u_Mo_s (u_Mo_s (u_Mo_s (u_Mo_s z (upd (q_Mo_s z) (10 + ((q_Mo_s z) 0)).toNatClampNeg x1)) (upd (q_Mo_s (u_Mo_s z (upd (q_Mo_s z) (10 + ((q_Mo_s z) 0)).toNatClampNeg x1))) (14 + ((q_Mo_s z) 0)).toNatClampNeg x2)) (upd (q_Mo_s (u_Mo_s (u_Mo_s z (upd (q_Mo_s z) (10 + ((q_Mo_s z) 0)).toNatClampNeg x1)) (upd (q_Mo_s (u_Mo_s z (upd (q_Mo_s z) (10 + ((q_Mo_s z) 0)).toNatClampNeg x1))) (14 + ((q_Mo_s z) 0)).toNatClampNeg x2))) (18 + ((q_Mo_s z) 0)).toNatClampNeg x3)) (upd (q_Mo_s (u_Mo_s (u_Mo_s (u_Mo_s z (upd (q_Mo_s z) (10 + ((q_Mo_s z) 0)).toNatClampNeg x1)) (upd (q_Mo_s (u_Mo_s z (upd (q_Mo_s z) (10 + ((q_Mo_s z) 0)).toNatClampNeg x1))) (14 + ((q_Mo_s z) 0)).toNatClampNeg x2)) (upd (q_Mo_s (u_Mo_s (u_Mo_s z (upd (q_Mo_s z) (10 + ((q_Mo_s z) 0)).toNatClampNeg x1)) (upd (q_Mo_s (u_Mo_s z (upd (q_Mo_s z) (10 + ((q_Mo_s z) 0)).toNatClampNeg x1))) (14 + ((q_Mo_s z) 0)).toNatClampNeg x2))) (18 + ((q_Mo_s z) 0)).toNatClampNeg x3))) (22 + ((q_Mo_s z) 0)).toNatClampNeg x4))) (26 + ((q_Mo_s z) 0)).toNatClampNeg 0))) 0) + 1)))) H := hP
            have hD : va_D A (ws_Mo g a (u_Mo_s (u_Mo_s (u_Mo_s (u_Mo_s (u_Mo_s (u_Mo_s z (upd (q_Mo_s z) (10 + ((q_Mo_s z) 0)).toNatClampNeg x1)) (upd (q_Mo_s (u_Mo_s z (upd (q_Mo_s z) (10 + ((q_Mo_s z) 0)).toNatClampNeg x1))) (14 + ((q_Mo_s z) 0)).toNatClampNeg x2)) (upd (q_Mo_s (u_Mo_s (u_Mo_s z (upd (q_Mo_s z) (10 + ((q_Mo_s z) 0)).toNatClampNeg x1)) (upd (q_Mo_s (u_Mo_s z (upd (q_Mo_s z) (10 + ((q_Mo_s z) 0)).toNatClampNeg x1))) (14 + ((q_Mo_s z) 0)).toNatClampNeg x2))) (18 + ((q_Mo_s z) 0)).toNatClampNeg x3)) (upd (q_Mo_s (u_Mo_s (u_Mo_s (u_Mo_s z (upd (q_Mo_s z) (10 + ((q_Mo_s z) 0)).toNatClampNeg x1)) (upd (q_Mo_s (u_Mo_s z (upd (q_Mo_s z) (10 + ((q_Mo_s z) 0)).toNatClampNeg x1))) (14 + ((q_Mo_s z) 0)).toNatClampNeg x2)) (upd (q_Mo_s (u_Mo_s (u_Mo_s z (upd (q_Mo_s z) (10 + ((q_Mo_s z) 0)).toNatClampNeg x1)) (upd (q_Mo_s (u_Mo_s z (upd (q_Mo_s z) (10 + ((q_Mo_s z) 0)).toNatClampNeg x1))) (14 + ((q_Mo_s z) 0)).toNatClampNeg x2))) (18 + ((q_Mo_s z) 0)).toNatClampNeg x3))) (22 + ((q_Mo_s z) 0)).toNatClampNeg x4)) (upd (q_Mo_s (u_Mo_s (u_Mo_s (u_Mo_s (u_Mo_s z (upd (q_Mo_s z) (10 + ((q_Mo_s z) 0)).toNatClampNeg x1)) (upd (q_Mo_s (u_Mo_s z (upd (q_Mo_s z) (10 + ((q_Mo_s z) 0)).toNatClampNeg x1))) (14 + ((q_Mo_s z) 0)).toNatClampNeg x2)) (upd (q_Mo_s (u_Mo_s (u_Mo_s z (upd (q_Mo_s z) (10 + ((q_Mo_s z) 0)).toNatClampNeg x1)) (upd (q_Mo_s (u_Mo_s z (upd (q_Mo_s z) (10 + ((q_Mo_s z) 0)).toNatClampNeg x1))) (14 + ((q_Mo_s z) 0)).toNatClampNeg x2))) (18 + ((q_Mo_s z) 0)).toNatClampNeg x3)) (upd (q_Mo_s (u_Mo_s (u_Mo_s (u_Mo_s z (upd (q_Mo_s z) (10 + ((q_Mo_s z) 0)).toNatClampNeg x1)) (upd (q_Mo_s (u_Mo_s z (upd (q_Mo_s z) (10 + ((q_Mo_s z) 0)).toNatClampNeg x1))) (14 + ((q_Mo_s z) 0)).toNatClampNeg x2)) (upd (q_Mo_s (u_Mo_s (u_Mo_s z (upd (q_Mo_s z) (10 + ((q_Mo_s z) 0)).toNatClampNeg x1)) (upd (q_Mo_s (u_Mo_s z (upd (q_Mo_s z) (10 + ((q_Mo_s z) 0)).toNatClampNeg x1))) (14 + ((q_Mo_s z) 0)).toNatClampNeg x2))) (18 + ((q_Mo_s z) 0)).toNatClampNeg x3))) (22 + ((q_Mo_s z) 0)).toNatClampNeg x4))) (26 + ((q_Mo_s z) 0)).toNatClampNeg 0)) (upd (q_Mo_s (u_Mo_s (u_Mo_s (u_Mo_s (u_Mo_s (u_Mo_s z (upd (q_Mo_s z) (10 + ((q_Mo_s z) 0)).toNatClampNeg x1)) (upd (q_Mo_s (u_Mo_s z (upd (q_Mo_s z) (10 + ((q_Mo_s z) 0)).toNatClampNeg x1))) (14 + ((q_Mo_s z) 0)).toNatClampNeg x2)) (upd (q_Mo_s (u_Mo_s (u_Mo_s z (upd (q_Mo_s z) (10 + ((q_Mo_s z) 0)).toNatClampNeg x1)) (upd (q_Mo_s (u_Mo_s z (upd (q_Mo_s z) (10 + ((q_Mo_s z) 0)).toNatClampNeg x1))) (14 + ((q_Mo_s z) 0)).toNatClampNeg x2))) (18 + ((q_Mo_s z) 0)).toNatClampNeg x3)) (upd (q_Mo_s (u_Mo_s (u_Mo_s (u_Mo_s z (upd (q_Mo_s z) (10 + ((q_Mo_s z) 0)).toNatClampNeg x1)) (upd (q_Mo_s (u_Mo_s z (upd (q_Mo_s z) (10 + ((q_Mo_s z) 0)).toNatClampNeg x1))) (14 + ((q_Mo_s z) 0)).toNatClampNeg x2)) (upd (q_Mo_s (u_Mo_s (u_Mo_s z (upd (q_Mo_s z) (10 + ((q_Mo_s z) 0)).toNatClampNeg x1)) (upd (q_Mo_s (u_Mo_s z (upd (q_Mo_s z) (10 + ((q_Mo_s z) 0)).toNatClampNeg x1))) (14 + ((q_Mo_s z) 0)).toNatClampNeg x2))) (18 + ((q_Mo_s z) 0)).toNatClampNeg x3))) (22 + ((q_Mo_s z) 0)).toNatClampNeg x4)) (upd (q_Mo_s (u_Mo_s (u_Mo_s (u_Mo_s (u_Mo_s z (upd (q_Mo_s z) (10 + ((q_Mo_s z) 0)).toNatClampNeg x1)) (upd (q_Mo_s (u_Mo_s z (upd (q_Mo_s z) (10 + ((q_Mo_s z) 0)).toNatClampNeg x1))) (14 + ((q_Mo_s z) 0)).toNatClampNeg x2)) (upd (q_Mo_s (u_Mo_s (u_Mo_s z (upd (q_Mo_s z) (10 + ((q_Mo_s z) 0)).toNatClampNeg x1)) (upd (q_Mo_s (u_Mo_s z (upd (q_Mo_s z) (10 + ((q_Mo_s z) 0)).toNatClampNeg x1))) (14 + ((q_Mo_s z) 0)).toNatClampNeg x2))) (18 + ((q_Mo_s z) 0)).toNatClampNeg x3)) (upd (q_Mo_s (u_Mo_s (u_Mo_s (u_Mo_s z (upd (q_Mo_s z) (10 + ((q_Mo_s z) 0)).toNatClampNeg x1)) (upd (q_Mo_s (u_Mo_s z (upd (q_Mo_s z) (10 + ((q_Mo_s z) 0)).toNatClampNeg x1))) (14 + ((q_Mo_s z) 0)).toNatClampNeg x2)) (upd (q_Mo_s (u_Mo_s (u_Mo_s z (upd (q_Mo_s z) (10 + ((q_Mo_s z) 0)).toNatClampNeg x1)) (upd (q_Mo_s (u_Mo_s z (upd (q_Mo_s z) (10 + ((q_Mo_s z) 0)).toNatClampNeg x1))) (14 + ((q_Mo_s z) 0)).toNatClampNeg x2))) (18 + ((q_Mo_s z) 0)).toNatClampNeg x3))) (22 + ((q_Mo_s z) 0)).toNatClampNeg x4))) (26 + ((q_Mo_s z) 0)).toNatClampNeg 0))) 0 (((q_Mo_s (u_Mo_s (u_Mo_s (u_Mo_s (u_Mo_s (u_Mo_s z (upd (q_Mo_s z) (10 + ((q_Mo_s z) 0)).toNatClampNeg x1)) (upd (q_Mo_s (u_Mo_s z (upd (q_Mo_s z) (10 + ((q_Mo_s z) 0)).toNatClampNeg x1))) (14 + ((q_Mo_s z) 0)).toNatClampNeg x2)) (upd (q_Mo_s (u_Mo_s (u_Mo_s z (upd (q_Mo_s z) (10 + ((q_Mo_s z) 0)).toNatClampNeg x1)) (upd (q_Mo_s (u_Mo_s z (upd (q_Mo_s z) (10 + ((q_Mo_s z) 0)).toNatClampNeg x1))) (14 + ((q_Mo_s z) 0)).toNatClampNeg x2))) (18 + ((q_Mo_s z) 0)).toNatClampNeg x3)) (upd (q_Mo_s (u_Mo_s (u_Mo_s (u_Mo_s z (upd (q_Mo_s z) (10 + ((q_Mo_s z) 0)).toNatClampNeg x1)) (upd (q_Mo_s (u_Mo_s z (upd (q_Mo_s z) (10 + ((q_Mo_s z) 0)).toNatClampNeg x1))) (14 + ((q_Mo_s z) 0)).toNatClampNeg x2)) (upd (q_Mo_s (u_Mo_s (u_Mo_s z (upd (q_Mo_s z) (10 + ((q_Mo_s z) 0)).toNatClampNeg x1)) (upd (q_Mo_s (u_Mo_s z (upd (q_Mo_s z) (10 + ((q_Mo_s z) 0)).toNatClampNeg x1))) (14 + ((q_Mo_s z) 0)).toNatClampNeg x2))) (18 + ((q_Mo_s z) 0)).toNatClampNeg x3))) (22 + ((q_Mo_s z) 0)).toNatClampNeg x4)) (upd (q_Mo_s (u_Mo_s (u_Mo_s (u_Mo_s (u_Mo_s z (upd (q_Mo_s z) (10 + ((q_Mo_s z) 0)).toNatClampNeg x1)) (upd (q_Mo_s (u_Mo_s z (upd (q_Mo_s z) (10 + ((q_Mo_s z) 0)).toNatClampNeg x1))) (14 + ((q_Mo_s z) 0)).toNatClampNeg x2)) (upd (q_Mo_s (u_Mo_s (u_Mo_s z (upd (q_Mo_s z) (10 + ((q_Mo_s z) 0)).toNatClampNeg x1)) (upd (q_Mo_s (u_Mo_s z (upd (q_Mo_s z) (10 + ((q_Mo_s z) 0)).toNatClampNeg x1))) (14 + ((q_Mo_s z) 0)).toNatClampNeg x2))) (18 + ((q_Mo_s z) 0)).toNatClampNeg x3)) (upd (q_Mo_s (u_Mo_s (u_Mo_s (u_Mo_s z (upd (q_Mo_s z) (10 + ((q_Mo_s z) 0)).toNatClampNeg x1)) (upd (q_Mo_s (u_Mo_s z (upd (q_Mo_s z) (10 + ((q_Mo_s z) 0)).toNatClampNeg x1))) (14 + ((q_Mo_s z) 0)).toNatClampNeg x2)) (upd (q_Mo_s (u_Mo_s (u_Mo_s z (upd (q_Mo_s z) (10 + ((q_Mo_s z) 0)).toNatClampNeg x1)) (upd (q_Mo_s (u_Mo_s z (upd (q_Mo_s z) (10 + ((q_Mo_s z) 0)).toNatClampNeg x1))) (14 + ((q_Mo_s z) 0)).toNatClampNeg x2))) (18 + ((q_Mo_s z) 0)).toNatClampNeg x3))) (22 + ((q_Mo_s z) 0)).toNatClampNeg x4))) (26 + ((q_Mo_s z) 0)).toNatClampNeg 0))) 0) + 1)))) := hD
            refine lv_iload hx hb d_Mo_person_133 (lv_at hl 0 rfl) ?_
            obtain rfl := Option.some.inj hd
            exact retI hx hb hr hlk hK hP hD hS d_Mo_person_135 rfl
          · have hd := ite_t hd h_13
            refine lv_bipush (v := (-4)) hx hb d_Mo_person_56 (by decide) ?_
            obtain rfl := Option.some.inj hd
            exact retI hx hb hr hlk hK hP hD hS d_Mo_person_58 rfl
        · have hd := ite_t hd h_12
          refine lv_bipush (v := (-2)) hx hb d_Mo_person_43 (by decide) ?_
          obtain rfl := Option.some.inj hd
          exact retI hx hb hr hlk hK hP hD hS d_Mo_person_45 rfl
  · have hd := ite_t hd h_3
    refine lv_iconst (v := (-1)) hx hb d_Mo_person_10 (by decide) ?_
    obtain rfl := Option.some.inj hd
    exact retI hx hb hr hlk hK hP hD hS d_Mo_person_11 rfl
-- OwnsLiftModel.loadOf(I)I
def B_Mo_loadOf_L4 (x1_f4 : Int32) (z : T_Mo) (self4 : Int32 → Int32 → Option (Int32)) (x2_4 : Int32) (x3_4 : Int32) : Option (Int32) :=
  if ((q_Mo_s z) 1) ≤ x3_4 then (some (x2_4)) else (if inb (65 + x3_4) 901 = true then (if ((q_Mo_s z) (65 + x3_4).toNatClampNeg) = x1_f4 then (if inb (58 + x3_4) 901 = true then (self4 (x2_4 + ((q_Mo_s z) (58 + x3_4).toNatClampNeg)) (x3_4 + 1)) else none) else (self4 (x2_4 + 0) (x3_4 + 1))) else none)
def d_Mo_loadOf_L4 (x1_f4 : Int32) (z : T_Mo) (n : Nat) : Int32 → Int32 → Option (Int32) := recN (fun _ _ => none) (fun self => B_Mo_loadOf_L4 x1_f4 z self) n
def d_Mo_loadOf (x1 : Int32) (z : T_Mo) : Option (Int32) :=
  d_Mo_loadOf_L4 x1 z  1000 0 0
theorem d_Mo_loadOf_0 : decode b_Mo_loadOf 0 = .ok (.iconst 0, 1) := by decide +kernel
theorem d_Mo_loadOf_1 : decode b_Mo_loadOf 1 = .ok (.istore_n 2, 1) := by decide +kernel
theorem d_Mo_loadOf_2 : decode b_Mo_loadOf 2 = .ok (.iconst 0, 1) := by decide +kernel
theorem d_Mo_loadOf_3 : decode b_Mo_loadOf 3 = .ok (.istore_n 3, 1) := by decide +kernel
theorem d_Mo_loadOf_4 : decode b_Mo_loadOf 4 = .ok (.iload_n 3, 1) := by decide +kernel
theorem d_Mo_loadOf_5 : decode b_Mo_loadOf 5 = .ok (.aload_n 0, 1) := by decide +kernel
theorem d_Mo_loadOf_6 : decode b_Mo_loadOf 6 = .ok (.getfield 9, 3) := by decide +kernel
theorem d_Mo_loadOf_9 : decode b_Mo_loadOf 9 = .ok (.iconst 1, 1) := by decide +kernel
theorem d_Mo_loadOf_10 : decode b_Mo_loadOf 10 = .ok (.iaload, 1) := by decide +kernel
theorem d_Mo_loadOf_11 : decode b_Mo_loadOf 11 = .ok (.if_icmp .ge 38, 3) := by decide +kernel
theorem d_Mo_loadOf_14 : decode b_Mo_loadOf 14 = .ok (.iload_n 2, 1) := by decide +kernel
theorem d_Mo_loadOf_15 : decode b_Mo_loadOf 15 = .ok (.aload_n 0, 1) := by decide +kernel
theorem d_Mo_loadOf_16 : decode b_Mo_loadOf 16 = .ok (.getfield 9, 3) := by decide +kernel
theorem d_Mo_loadOf_19 : decode b_Mo_loadOf 19 = .ok (.bipush 65, 2) := by decide +kernel
theorem d_Mo_loadOf_21 : decode b_Mo_loadOf 21 = .ok (.iload_n 3, 1) := by decide +kernel
theorem d_Mo_loadOf_22 : decode b_Mo_loadOf 22 = .ok (.iadd, 1) := by decide +kernel
theorem d_Mo_loadOf_23 : decode b_Mo_loadOf 23 = .ok (.iaload, 1) := by decide +kernel
theorem d_Mo_loadOf_24 : decode b_Mo_loadOf 24 = .ok (.iload_n 1, 1) := by decide +kernel
theorem d_Mo_loadOf_25 : decode b_Mo_loadOf 25 = .ok (.if_icmp .ne 15, 3) := by decide +kernel
theorem d_Mo_loadOf_28 : decode b_Mo_loadOf 28 = .ok (.aload_n 0, 1) := by decide +kernel
theorem d_Mo_loadOf_29 : decode b_Mo_loadOf 29 = .ok (.getfield 9, 3) := by decide +kernel
theorem d_Mo_loadOf_32 : decode b_Mo_loadOf 32 = .ok (.bipush 58, 2) := by decide +kernel
theorem d_Mo_loadOf_34 : decode b_Mo_loadOf 34 = .ok (.iload_n 3, 1) := by decide +kernel
theorem d_Mo_loadOf_35 : decode b_Mo_loadOf 35 = .ok (.iadd, 1) := by decide +kernel
theorem d_Mo_loadOf_36 : decode b_Mo_loadOf 36 = .ok (.iaload, 1) := by decide +kernel
theorem d_Mo_loadOf_37 : decode b_Mo_loadOf 37 = .ok (.goto 4, 3) := by decide +kernel
theorem d_Mo_loadOf_40 : decode b_Mo_loadOf 40 = .ok (.iconst 0, 1) := by decide +kernel
theorem d_Mo_loadOf_41 : decode b_Mo_loadOf 41 = .ok (.iadd, 1) := by decide +kernel
theorem d_Mo_loadOf_42 : decode b_Mo_loadOf 42 = .ok (.istore_n 2, 1) := by decide +kernel
theorem d_Mo_loadOf_43 : decode b_Mo_loadOf 43 = .ok (.iinc 3 1, 3) := by decide +kernel
theorem d_Mo_loadOf_46 : decode b_Mo_loadOf 46 = .ok (.goto (-42), 3) := by decide +kernel
theorem d_Mo_loadOf_49 : decode b_Mo_loadOf 49 = .ok (.iload_n 2, 1) := by decide +kernel
theorem d_Mo_loadOf_50 : decode b_Mo_loadOf 50 = .ok (.ireturn, 1) := by decide +kernel
theorem o_Mo_loadOf : OkV y_Mo_loadOf "OwnsLiftModel" b_Mo_loadOf 4 (some .int) 1 := ⟨⟨rfl, by decide +kernel, by decide +kernel, by decide +kernel⟩, g_1165, g_42, g_81, g_1166⟩
set_option maxHeartbeats 4000000 in
set_option maxRecDepth 100000 in
theorem c_Mo_loadOf (l : Launch) (D : va_G) (g : Nat → ClassId) (a : Nat → Nat) (x1 : Int32) (z : T_Mo) (v : Int32) (h : d_Mo_loadOf x1 z = some v) :
    MI l y_Mo_loadOf b_Mo_loadOf 4 .int ({ frames := 0, cells := 0, slots := 0, locals := 0 } : Room) D g [.ref (a 0), .int x1] (ws_Mo g a z) (v) (ws_Mo g a z) := by
  have hd := h
  unfold d_Mo_loadOf at hd
  refine enterI rfl (Nat.le_of_ble_eq_true rfl) (fun p e s m below meth c A ls hx hb hml hr hown hg hlk hK hA hP hD hS hCs hl => ?_)
  have hown : s.vm.findClass "OwnsLiftModel" = some m.cls := hown
  have hl : lv_has ls 4 [(0, .ref (a 0)), (1, .int x1)] := hl
  show GI p l e s m ({ frames := 0, cells := 0, slots := 0, locals := 0 } : Room) ([.ref (a 0), .int x1] : List Value).toArray below meth c A D g (ws_Mo g a z) (v) s.heap [] (F0 m 0 ls [])
  refine lv_iconst (v := 0) hx hb d_Mo_loadOf_0 (by decide) ?_
  refine lv_istore_n (lv' := [(2, .int 0), (0, .ref (a 0)), (1, .int x1)]) hx hb d_Mo_loadOf_1 rfl hl (by decide) rfl (fun ls hl => ?_)
  refine lv_iconst (v := 0) hx hb d_Mo_loadOf_2 (by decide) ?_
  refine lv_istore_n (lv' := [(3, .int 0), (2, .int 0), (0, .ref (a 0)), (1, .int x1)]) hx hb d_Mo_loadOf_3 rfl hl (by decide) rfl (fun ls hl => ?_)
  have lp4 : ∀ (x1_f4 : Int32) (n : Nat) (x2_4 : Int32) (x3_4 : Int32) (H : Heap) (locs : List Loc) (ls : Array Slot), va_P D classes (ws_Mo g a z) H → va_D A (ws_Mo g a z) → va_S A s.heap H locs → lv_has ls 4 [(0, .ref (a 0)), (1, .int x1_f4), (2, .int x2_4), (3, .int x3_4)] → d_Mo_loadOf_L4 x1_f4 z n x2_4 x3_4 = some v → GI p l e s m ({ frames := 0, cells := 0, slots := 0, locals := 0 } : Room) ([.ref (a 0), .int x1] : List Value).toArray below meth c A D g (ws_Mo g a z) (v) H locs (F0 m 4 ls []) := by
    intro x1_f4 n
    induction n with
    | zero =>
      intro  x2_4 x3_4 H locs ls hP hD hS hl hd
      have hd : none = some v := hd
      cases hd
    | succ n ih4 =>
      intro  x2_4 x3_4 H locs ls hP hD hS hl hd
      have hd : B_Mo_loadOf_L4 x1_f4 z (d_Mo_loadOf_L4 x1_f4 z n) x2_4 x3_4 = some v := hd
      generalize d_Mo_loadOf_L4 x1_f4 z n = self4 at ih4 hd
      unfold B_Mo_loadOf_L4 at hd
      refine lv_iload_n hx hb d_Mo_loadOf_4 rfl (lv_at hl 3 rfl) ?_
      refine lv_aload_n hx hb d_Mo_loadOf_5 rfl (lv_at hl 0 rfl) ?_
      refine va_get (D := D) (ci := 1) (v := .ref (a 1)) (C := R_Mo) (T := F_Mo) (N := 26) hx hb hg i_Mo hown hK hP 0 rfl rfl 1 (by decide) (hg _ g_993) (fun _ h9 => h9) rfl d_Mo_loadOf_6 ?_
      refine lv_iconst (v := 1) hx hb d_Mo_loadOf_9 (by decide) ?_
      refine ialdK hx hb hK hP 1 0 rfl rfl (inb_t (by decide +kernel)) (k := 1) (by decide +kernel) d_Mo_loadOf_10 ?_
      refine lv_icmp_ge (tgt := 49) hx hb d_Mo_loadOf_11 (by decide) (fun h_1 => ?_) (fun h_1 => ?_)
      · have hd := ite_t hd h_1
        refine lv_iload_n hx hb d_Mo_loadOf_49 rfl (lv_at hl 2 rfl) ?_
        obtain rfl := Option.some.inj hd
        exact retI hx hb hr hlk hK hP hD hS d_Mo_loadOf_50 rfl
      · have hd := ite_f hd h_1
        refine lv_iload_n hx hb d_Mo_loadOf_14 rfl (lv_at hl 2 rfl) ?_
        refine lv_aload_n hx hb d_Mo_loadOf_15 rfl (lv_at hl 0 rfl) ?_
        refine va_get (D := D) (ci := 1) (v := .ref (a 1)) (C := R_Mo) (T := F_Mo) (N := 26) hx hb hg i_Mo hown hK hP 0 rfl rfl 1 (by decide) (hg _ g_993) (fun _ h9 => h9) rfl d_Mo_loadOf_16 ?_
        refine lv_bipush (v := 65) hx hb d_Mo_loadOf_19 (by decide) ?_
        refine lv_iload_n hx hb d_Mo_loadOf_21 rfl (lv_at hl 3 rfl) ?_
        refine lv_iadd hx hb d_Mo_loadOf_22 ?_
        obtain ⟨h_4, hd⟩ := ite_s hd
        refine ialdK hx hb hK hP 1 0 rfl rfl (inb_t h_4) rfl d_Mo_loadOf_23 ?_
        refine lv_iload_n hx hb d_Mo_loadOf_24 rfl (lv_at hl 1 rfl) ?_
        refine lv_icmp_ne (tgt := 40) hx hb d_Mo_loadOf_25 (by decide) (fun h_2 => ?_) (fun h_2 => ?_)
        · have hd := ite_f hd h_2
          refine lv_iconst (v := 0) hx hb d_Mo_loadOf_40 (by decide) ?_
          refine lv_iadd hx hb d_Mo_loadOf_41 ?_
          refine lv_istore_n (lv' := [(2, .int (x2_4 + 0)), (0, .ref (a 0)), (1, .int x1_f4), (3, .int x3_4)]) hx hb d_Mo_loadOf_42 rfl hl (by decide) rfl (fun ls hl => ?_)
          refine lv_iinc (v := x3_4 + 1) (lv' := [(3, .int (x3_4 + 1)), (2, .int (x2_4 + 0)), (0, .ref (a 0)), (1, .int x1_f4)]) hx hb d_Mo_loadOf_43 hl (k := 3) rfl (by rfl) (by decide) rfl (fun ls hl => ?_)
          refine lv_goto (tgt := 4) hx hb d_Mo_loadOf_46 (by decide) ?_
          exact ih4 (x2_4 + 0) (x3_4 + 1) _ _ _ hP hD hS (lv_sub hl [2, 3, 1, 0] rfl) hd
        · have hd := ite_t hd h_2
          refine lv_aload_n hx hb d_Mo_loadOf_28 rfl (lv_at hl 0 rfl) ?_
          refine va_get (D := D) (ci := 1) (v := .ref (a 1)) (C := R_Mo) (T := F_Mo) (N := 26) hx hb hg i_Mo hown hK hP 0 rfl rfl 1 (by decide) (hg _ g_993) (fun _ h9 => h9) rfl d_Mo_loadOf_29 ?_
          refine lv_bipush (v := 58) hx hb d_Mo_loadOf_32 (by decide) ?_
          refine lv_iload_n hx hb d_Mo_loadOf_34 rfl (lv_at hl 3 rfl) ?_
          refine lv_iadd hx hb d_Mo_loadOf_35 ?_
          obtain ⟨h_3, hd⟩ := ite_s hd
          refine ialdK hx hb hK hP 1 0 rfl rfl (inb_t h_3) rfl d_Mo_loadOf_36 ?_
          refine lv_goto (tgt := 41) hx hb d_Mo_loadOf_37 (by decide) ?_
          refine lv_iadd hx hb d_Mo_loadOf_41 ?_
          refine lv_istore_n (lv' := [(2, .int (x2_4 + ((q_Mo_s z) (58 + x3_4).toNatClampNeg))), (0, .ref (a 0)), (1, .int x1_f4), (3, .int x3_4)]) hx hb d_Mo_loadOf_42 rfl hl (by decide) rfl (fun ls hl => ?_)
          refine lv_iinc (v := x3_4 + 1) (lv' := [(3, .int (x3_4 + 1)), (2, .int (x2_4 + ((q_Mo_s z) (58 + x3_4).toNatClampNeg))), (0, .ref (a 0)), (1, .int x1_f4)]) hx hb d_Mo_loadOf_43 hl (k := 3) rfl (by rfl) (by decide) rfl (fun ls hl => ?_)
          refine lv_goto (tgt := 4) hx hb d_Mo_loadOf_46 (by decide) ?_
          exact ih4 (x2_4 + ((q_Mo_s z) (58 + x3_4).toNatClampNeg)) (x3_4 + 1) _ _ _ hP hD hS (lv_sub hl [2, 3, 1, 0] rfl) hd
  exact lp4 x1 1000 0 0 _ _ _ hP hD hS (lv_sub hl [2, 3, 1, 0] rfl) hd
-- OwnsLiftModel.thingsOf(I)I
def B_Mo_thingsOf_L4 (x1_f4 : Int32) (z : T_Mo) (self4 : Int32 → Int32 → Option (Int32)) (x2_4 : Int32) (x3_4 : Int32) : Option (Int32) :=
  if ((q_Mo_s z) 1) ≤ x3_4 then (some (x2_4)) else (if inb (65 + x3_4) 901 = true then (if ((q_Mo_s z) (65 + x3_4).toNatClampNeg) = x1_f4 then (self4 (x2_4 ||| ((1 : Int32) <<< (x3_4 &&& 31))) (x3_4 + 1)) else (self4 (x2_4 ||| 0) (x3_4 + 1))) else none)
def d_Mo_thingsOf_L4 (x1_f4 : Int32) (z : T_Mo) (n : Nat) : Int32 → Int32 → Option (Int32) := recN (fun _ _ => none) (fun self => B_Mo_thingsOf_L4 x1_f4 z self) n
def d_Mo_thingsOf (x1 : Int32) (z : T_Mo) : Option (Int32) :=
  d_Mo_thingsOf_L4 x1 z  1000 0 0
theorem d_Mo_thingsOf_0 : decode b_Mo_thingsOf 0 = .ok (.iconst 0, 1) := by decide +kernel
theorem d_Mo_thingsOf_1 : decode b_Mo_thingsOf 1 = .ok (.istore_n 2, 1) := by decide +kernel
theorem d_Mo_thingsOf_2 : decode b_Mo_thingsOf 2 = .ok (.iconst 0, 1) := by decide +kernel
theorem d_Mo_thingsOf_3 : decode b_Mo_thingsOf 3 = .ok (.istore_n 3, 1) := by decide +kernel
theorem d_Mo_thingsOf_4 : decode b_Mo_thingsOf 4 = .ok (.iload_n 3, 1) := by decide +kernel
theorem d_Mo_thingsOf_5 : decode b_Mo_thingsOf 5 = .ok (.aload_n 0, 1) := by decide +kernel
theorem d_Mo_thingsOf_6 : decode b_Mo_thingsOf 6 = .ok (.getfield 9, 3) := by decide +kernel
theorem d_Mo_thingsOf_9 : decode b_Mo_thingsOf 9 = .ok (.iconst 1, 1) := by decide +kernel
theorem d_Mo_thingsOf_10 : decode b_Mo_thingsOf 10 = .ok (.iaload, 1) := by decide +kernel
theorem d_Mo_thingsOf_11 : decode b_Mo_thingsOf 11 = .ok (.if_icmp .ge 32, 3) := by decide +kernel
theorem d_Mo_thingsOf_14 : decode b_Mo_thingsOf 14 = .ok (.iload_n 2, 1) := by decide +kernel
theorem d_Mo_thingsOf_15 : decode b_Mo_thingsOf 15 = .ok (.aload_n 0, 1) := by decide +kernel
theorem d_Mo_thingsOf_16 : decode b_Mo_thingsOf 16 = .ok (.getfield 9, 3) := by decide +kernel
theorem d_Mo_thingsOf_19 : decode b_Mo_thingsOf 19 = .ok (.bipush 65, 2) := by decide +kernel
theorem d_Mo_thingsOf_21 : decode b_Mo_thingsOf 21 = .ok (.iload_n 3, 1) := by decide +kernel
theorem d_Mo_thingsOf_22 : decode b_Mo_thingsOf 22 = .ok (.iadd, 1) := by decide +kernel
theorem d_Mo_thingsOf_23 : decode b_Mo_thingsOf 23 = .ok (.iaload, 1) := by decide +kernel
theorem d_Mo_thingsOf_24 : decode b_Mo_thingsOf 24 = .ok (.iload_n 1, 1) := by decide +kernel
theorem d_Mo_thingsOf_25 : decode b_Mo_thingsOf 25 = .ok (.if_icmp .ne 9, 3) := by decide +kernel
theorem d_Mo_thingsOf_28 : decode b_Mo_thingsOf 28 = .ok (.iconst 1, 1) := by decide +kernel
theorem d_Mo_thingsOf_29 : decode b_Mo_thingsOf 29 = .ok (.iload_n 3, 1) := by decide +kernel
theorem d_Mo_thingsOf_30 : decode b_Mo_thingsOf 30 = .ok (.ishl, 1) := by decide +kernel
theorem d_Mo_thingsOf_31 : decode b_Mo_thingsOf 31 = .ok (.goto 4, 3) := by decide +kernel
theorem d_Mo_thingsOf_34 : decode b_Mo_thingsOf 34 = .ok (.iconst 0, 1) := by decide +kernel
theorem d_Mo_thingsOf_35 : decode b_Mo_thingsOf 35 = .ok (.ior, 1) := by decide +kernel
theorem d_Mo_thingsOf_36 : decode b_Mo_thingsOf 36 = .ok (.istore_n 2, 1) := by decide +kernel
theorem d_Mo_thingsOf_37 : decode b_Mo_thingsOf 37 = .ok (.iinc 3 1, 3) := by decide +kernel
theorem d_Mo_thingsOf_40 : decode b_Mo_thingsOf 40 = .ok (.goto (-36), 3) := by decide +kernel
theorem d_Mo_thingsOf_43 : decode b_Mo_thingsOf 43 = .ok (.iload_n 2, 1) := by decide +kernel
theorem d_Mo_thingsOf_44 : decode b_Mo_thingsOf 44 = .ok (.ireturn, 1) := by decide +kernel
theorem o_Mo_thingsOf : OkV y_Mo_thingsOf "OwnsLiftModel" b_Mo_thingsOf 4 (some .int) 1 := ⟨⟨rfl, by decide +kernel, by decide +kernel, by decide +kernel⟩, g_1173, g_44, g_81, g_1174⟩
set_option maxHeartbeats 4000000 in
set_option maxRecDepth 100000 in
theorem c_Mo_thingsOf (l : Launch) (D : va_G) (g : Nat → ClassId) (a : Nat → Nat) (x1 : Int32) (z : T_Mo) (v : Int32) (h : d_Mo_thingsOf x1 z = some v) :
    MI l y_Mo_thingsOf b_Mo_thingsOf 4 .int ({ frames := 0, cells := 0, slots := 0, locals := 0 } : Room) D g [.ref (a 0), .int x1] (ws_Mo g a z) (v) (ws_Mo g a z) := by
  have hd := h
  unfold d_Mo_thingsOf at hd
  refine enterI rfl (Nat.le_of_ble_eq_true rfl) (fun p e s m below meth c A ls hx hb hml hr hown hg hlk hK hA hP hD hS hCs hl => ?_)
  have hown : s.vm.findClass "OwnsLiftModel" = some m.cls := hown
  have hl : lv_has ls 4 [(0, .ref (a 0)), (1, .int x1)] := hl
  show GI p l e s m ({ frames := 0, cells := 0, slots := 0, locals := 0 } : Room) ([.ref (a 0), .int x1] : List Value).toArray below meth c A D g (ws_Mo g a z) (v) s.heap [] (F0 m 0 ls [])
  refine lv_iconst (v := 0) hx hb d_Mo_thingsOf_0 (by decide) ?_
  refine lv_istore_n (lv' := [(2, .int 0), (0, .ref (a 0)), (1, .int x1)]) hx hb d_Mo_thingsOf_1 rfl hl (by decide) rfl (fun ls hl => ?_)
  refine lv_iconst (v := 0) hx hb d_Mo_thingsOf_2 (by decide) ?_
  refine lv_istore_n (lv' := [(3, .int 0), (2, .int 0), (0, .ref (a 0)), (1, .int x1)]) hx hb d_Mo_thingsOf_3 rfl hl (by decide) rfl (fun ls hl => ?_)
  have lp4 : ∀ (x1_f4 : Int32) (n : Nat) (x2_4 : Int32) (x3_4 : Int32) (H : Heap) (locs : List Loc) (ls : Array Slot), va_P D classes (ws_Mo g a z) H → va_D A (ws_Mo g a z) → va_S A s.heap H locs → lv_has ls 4 [(0, .ref (a 0)), (1, .int x1_f4), (2, .int x2_4), (3, .int x3_4)] → d_Mo_thingsOf_L4 x1_f4 z n x2_4 x3_4 = some v → GI p l e s m ({ frames := 0, cells := 0, slots := 0, locals := 0 } : Room) ([.ref (a 0), .int x1] : List Value).toArray below meth c A D g (ws_Mo g a z) (v) H locs (F0 m 4 ls []) := by
    intro x1_f4 n
    induction n with
    | zero =>
      intro  x2_4 x3_4 H locs ls hP hD hS hl hd
      have hd : none = some v := hd
      cases hd
    | succ n ih4 =>
      intro  x2_4 x3_4 H locs ls hP hD hS hl hd
      have hd : B_Mo_thingsOf_L4 x1_f4 z (d_Mo_thingsOf_L4 x1_f4 z n) x2_4 x3_4 = some v := hd
      generalize d_Mo_thingsOf_L4 x1_f4 z n = self4 at ih4 hd
      unfold B_Mo_thingsOf_L4 at hd
      refine lv_iload_n hx hb d_Mo_thingsOf_4 rfl (lv_at hl 3 rfl) ?_
      refine lv_aload_n hx hb d_Mo_thingsOf_5 rfl (lv_at hl 0 rfl) ?_
      refine va_get (D := D) (ci := 1) (v := .ref (a 1)) (C := R_Mo) (T := F_Mo) (N := 26) hx hb hg i_Mo hown hK hP 0 rfl rfl 1 (by decide) (hg _ g_993) (fun _ h9 => h9) rfl d_Mo_thingsOf_6 ?_
      refine lv_iconst (v := 1) hx hb d_Mo_thingsOf_9 (by decide) ?_
      refine ialdK hx hb hK hP 1 0 rfl rfl (inb_t (by decide +kernel)) (k := 1) (by decide +kernel) d_Mo_thingsOf_10 ?_
      refine lv_icmp_ge (tgt := 43) hx hb d_Mo_thingsOf_11 (by decide) (fun h_1 => ?_) (fun h_1 => ?_)
      · have hd := ite_t hd h_1
        refine lv_iload_n hx hb d_Mo_thingsOf_43 rfl (lv_at hl 2 rfl) ?_
        obtain rfl := Option.some.inj hd
        exact retI hx hb hr hlk hK hP hD hS d_Mo_thingsOf_44 rfl
      · have hd := ite_f hd h_1
        refine lv_iload_n hx hb d_Mo_thingsOf_14 rfl (lv_at hl 2 rfl) ?_
        refine lv_aload_n hx hb d_Mo_thingsOf_15 rfl (lv_at hl 0 rfl) ?_
        refine va_get (D := D) (ci := 1) (v := .ref (a 1)) (C := R_Mo) (T := F_Mo) (N := 26) hx hb hg i_Mo hown hK hP 0 rfl rfl 1 (by decide) (hg _ g_993) (fun _ h9 => h9) rfl d_Mo_thingsOf_16 ?_
        refine lv_bipush (v := 65) hx hb d_Mo_thingsOf_19 (by decide) ?_
        refine lv_iload_n hx hb d_Mo_thingsOf_21 rfl (lv_at hl 3 rfl) ?_
        refine lv_iadd hx hb d_Mo_thingsOf_22 ?_
        obtain ⟨h_3, hd⟩ := ite_s hd
        refine ialdK hx hb hK hP 1 0 rfl rfl (inb_t h_3) rfl d_Mo_thingsOf_23 ?_
        refine lv_iload_n hx hb d_Mo_thingsOf_24 rfl (lv_at hl 1 rfl) ?_
        refine lv_icmp_ne (tgt := 34) hx hb d_Mo_thingsOf_25 (by decide) (fun h_2 => ?_) (fun h_2 => ?_)
        · have hd := ite_f hd h_2
          refine lv_iconst (v := 0) hx hb d_Mo_thingsOf_34 (by decide) ?_
          refine lv_ior hx hb d_Mo_thingsOf_35 ?_
          refine lv_istore_n (lv' := [(2, .int (x2_4 ||| 0)), (0, .ref (a 0)), (1, .int x1_f4), (3, .int x3_4)]) hx hb d_Mo_thingsOf_36 rfl hl (by decide) rfl (fun ls hl => ?_)
          refine lv_iinc (v := x3_4 + 1) (lv' := [(3, .int (x3_4 + 1)), (2, .int (x2_4 ||| 0)), (0, .ref (a 0)), (1, .int x1_f4)]) hx hb d_Mo_thingsOf_37 hl (k := 3) rfl (by rfl) (by decide) rfl (fun ls hl => ?_)
          refine lv_goto (tgt := 4) hx hb d_Mo_thingsOf_40 (by decide) ?_
          exact ih4 (x2_4 ||| 0) (x3_4 + 1) _ _ _ hP hD hS (lv_sub hl [2, 3, 1, 0] rfl) hd
        · have hd := ite_t hd h_2
          refine lv_iconst (v := 1) hx hb d_Mo_thingsOf_28 (by decide) ?_
          refine lv_iload_n hx hb d_Mo_thingsOf_29 rfl (lv_at hl 3 rfl) ?_
          refine lv_ishl hx hb d_Mo_thingsOf_30 ?_
          refine lv_goto (tgt := 35) hx hb d_Mo_thingsOf_31 (by decide) ?_
          refine lv_ior hx hb d_Mo_thingsOf_35 ?_
          refine lv_istore_n (lv' := [(2, .int (x2_4 ||| ((1 : Int32) <<< (x3_4 &&& 31)))), (0, .ref (a 0)), (1, .int x1_f4), (3, .int x3_4)]) hx hb d_Mo_thingsOf_36 rfl hl (by decide) rfl (fun ls hl => ?_)
          refine lv_iinc (v := x3_4 + 1) (lv' := [(3, .int (x3_4 + 1)), (2, .int (x2_4 ||| ((1 : Int32) <<< (x3_4 &&& 31)))), (0, .ref (a 0)), (1, .int x1_f4)]) hx hb d_Mo_thingsOf_37 hl (k := 3) rfl (by rfl) (by decide) rfl (fun ls hl => ?_)
          refine lv_goto (tgt := 4) hx hb d_Mo_thingsOf_40 (by decide) ?_
          exact ih4 (x2_4 ||| ((1 : Int32) <<< (x3_4 &&& 31))) (x3_4 + 1) _ _ _ hP hD hS (lv_sub hl [2, 3, 1, 0] rfl) hd
  exact lp4 x1 1000 0 0 _ _ _ hP hD hS (lv_sub hl [2, 3, 1, 0] rfl) hd
-- OwnsLiftModel.of(II)I
def d_Mo_of (x1 : Int32) (x2 : Int32) (z : T_Mo) : Option (Int32 × T_Mo) :=
  (d_Mo_isPerson x1 z).bind fun v_1 => if v_1 = 0 then (some ((-1), z)) else (if x2 = 4 then ((d_Mo_liftsOf x1 z).bind fun v_5 => some (v_5.1, v_5.2)) else (if x2 = 5 then ((d_Mo_loadOf x1 z).bind fun v_8 => some (v_8, z)) else (if x2 = 6 then ((d_Mo_loadOf x1 z).bind fun v_11 => (d_Mo_liftsOf x1 z).bind fun v_13 => if v_11 ≤ v_13.1 then (some (0, v_13.2)) else (some (1, v_13.2))) else (if x2 = 7 then ((d_Mo_illOf x1 z).bind fun v_17 => some (v_17.1, v_17.2)) else (if x2 = 8 then ((d_Mo_thingsOf x1 z).bind fun v_20 => some (v_20, z)) else (if x2 = 9 then (if inb (26 + x1) 901 = true then (some ((q_Mo_s z) (26 + x1).toNatClampNeg, z)) else none) else ((d_Mo_in x2 0 3).bind fun v_24 => if v_24 = 0 then (some ((-1), z)) else (if inb ((10 + (4 * x2)) + x1) 901 = true then (some ((q_Mo_s z) ((10 + (4 * x2)) + x1).toNatClampNeg, z)) else none))))))))
theorem d_Mo_of_0 : decode b_Mo_of 0 = .ok (.aload_n 0, 1) := by decide +kernel
theorem d_Mo_of_1 : decode b_Mo_of 1 = .ok (.iload_n 1, 1) := by decide +kernel
theorem d_Mo_of_2 : decode b_Mo_of 2 = .ok (.invokevirtual 147, 3) := by decide +kernel
theorem d_Mo_of_5 : decode b_Mo_of 5 = .ok (.ifCond .ne 5, 3) := by decide +kernel
theorem d_Mo_of_8 : decode b_Mo_of 8 = .ok (.iconst (-1), 1) := by decide +kernel
theorem d_Mo_of_9 : decode b_Mo_of 9 = .ok (.ireturn, 1) := by decide +kernel
theorem d_Mo_of_10 : decode b_Mo_of 10 = .ok (.iload_n 2, 1) := by decide +kernel
theorem d_Mo_of_11 : decode b_Mo_of 11 = .ok (.tableswitch 90 4 9 #[37, 43, 49, 68, 74, 80], 37) := by decide +kernel
theorem d_Mo_of_48 : decode b_Mo_of 48 = .ok (.aload_n 0, 1) := by decide +kernel
theorem d_Mo_of_49 : decode b_Mo_of 49 = .ok (.iload_n 1, 1) := by decide +kernel
theorem d_Mo_of_50 : decode b_Mo_of 50 = .ok (.invokevirtual 140, 3) := by decide +kernel
theorem d_Mo_of_53 : decode b_Mo_of 53 = .ok (.ireturn, 1) := by decide +kernel
theorem d_Mo_of_54 : decode b_Mo_of 54 = .ok (.aload_n 0, 1) := by decide +kernel
theorem d_Mo_of_55 : decode b_Mo_of 55 = .ok (.iload_n 1, 1) := by decide +kernel
theorem d_Mo_of_56 : decode b_Mo_of 56 = .ok (.invokevirtual 151, 3) := by decide +kernel
theorem d_Mo_of_59 : decode b_Mo_of 59 = .ok (.ireturn, 1) := by decide +kernel
theorem d_Mo_of_60 : decode b_Mo_of 60 = .ok (.aload_n 0, 1) := by decide +kernel
theorem d_Mo_of_61 : decode b_Mo_of 61 = .ok (.iload_n 1, 1) := by decide +kernel
theorem d_Mo_of_62 : decode b_Mo_of 62 = .ok (.invokevirtual 151, 3) := by decide +kernel
theorem d_Mo_of_65 : decode b_Mo_of 65 = .ok (.aload_n 0, 1) := by decide +kernel
theorem d_Mo_of_66 : decode b_Mo_of 66 = .ok (.iload_n 1, 1) := by decide +kernel
theorem d_Mo_of_67 : decode b_Mo_of 67 = .ok (.invokevirtual 140, 3) := by decide +kernel
theorem d_Mo_of_70 : decode b_Mo_of 70 = .ok (.if_icmp .le 7, 3) := by decide +kernel
theorem d_Mo_of_73 : decode b_Mo_of 73 = .ok (.iconst 1, 1) := by decide +kernel
theorem d_Mo_of_74 : decode b_Mo_of 74 = .ok (.goto 4, 3) := by decide +kernel
theorem d_Mo_of_77 : decode b_Mo_of 77 = .ok (.iconst 0, 1) := by decide +kernel
theorem d_Mo_of_78 : decode b_Mo_of 78 = .ok (.ireturn, 1) := by decide +kernel
theorem d_Mo_of_79 : decode b_Mo_of 79 = .ok (.aload_n 0, 1) := by decide +kernel
theorem d_Mo_of_80 : decode b_Mo_of 80 = .ok (.iload_n 1, 1) := by decide +kernel
theorem d_Mo_of_81 : decode b_Mo_of 81 = .ok (.invokevirtual 154, 3) := by decide +kernel
theorem d_Mo_of_84 : decode b_Mo_of 84 = .ok (.ireturn, 1) := by decide +kernel
theorem d_Mo_of_85 : decode b_Mo_of 85 = .ok (.aload_n 0, 1) := by decide +kernel
theorem d_Mo_of_86 : decode b_Mo_of 86 = .ok (.iload_n 1, 1) := by decide +kernel
theorem d_Mo_of_87 : decode b_Mo_of 87 = .ok (.invokevirtual 157, 3) := by decide +kernel
theorem d_Mo_of_90 : decode b_Mo_of 90 = .ok (.ireturn, 1) := by decide +kernel
theorem d_Mo_of_91 : decode b_Mo_of 91 = .ok (.aload_n 0, 1) := by decide +kernel
theorem d_Mo_of_92 : decode b_Mo_of 92 = .ok (.getfield 9, 3) := by decide +kernel
theorem d_Mo_of_95 : decode b_Mo_of 95 = .ok (.bipush 26, 2) := by decide +kernel
theorem d_Mo_of_97 : decode b_Mo_of 97 = .ok (.iload_n 1, 1) := by decide +kernel
theorem d_Mo_of_98 : decode b_Mo_of 98 = .ok (.iadd, 1) := by decide +kernel
theorem d_Mo_of_99 : decode b_Mo_of 99 = .ok (.iaload, 1) := by decide +kernel
theorem d_Mo_of_100 : decode b_Mo_of 100 = .ok (.ireturn, 1) := by decide +kernel
theorem d_Mo_of_101 : decode b_Mo_of 101 = .ok (.iload_n 2, 1) := by decide +kernel
theorem d_Mo_of_102 : decode b_Mo_of 102 = .ok (.iconst 0, 1) := by decide +kernel
theorem d_Mo_of_103 : decode b_Mo_of 103 = .ok (.iconst 3, 1) := by decide +kernel
theorem d_Mo_of_104 : decode b_Mo_of 104 = .ok (.invokestatic 50, 3) := by decide +kernel
theorem d_Mo_of_107 : decode b_Mo_of 107 = .ok (.ifCond .eq 19, 3) := by decide +kernel
theorem d_Mo_of_110 : decode b_Mo_of 110 = .ok (.aload_n 0, 1) := by decide +kernel
theorem d_Mo_of_111 : decode b_Mo_of 111 = .ok (.getfield 9, 3) := by decide +kernel
theorem d_Mo_of_114 : decode b_Mo_of 114 = .ok (.bipush 10, 2) := by decide +kernel
theorem d_Mo_of_116 : decode b_Mo_of 116 = .ok (.iconst 4, 1) := by decide +kernel
theorem d_Mo_of_117 : decode b_Mo_of 117 = .ok (.iload_n 2, 1) := by decide +kernel
theorem d_Mo_of_118 : decode b_Mo_of 118 = .ok (.imul, 1) := by decide +kernel
theorem d_Mo_of_119 : decode b_Mo_of 119 = .ok (.iadd, 1) := by decide +kernel
theorem d_Mo_of_120 : decode b_Mo_of 120 = .ok (.iload_n 1, 1) := by decide +kernel
theorem d_Mo_of_121 : decode b_Mo_of 121 = .ok (.iadd, 1) := by decide +kernel
theorem d_Mo_of_122 : decode b_Mo_of 122 = .ok (.iaload, 1) := by decide +kernel
theorem d_Mo_of_123 : decode b_Mo_of 123 = .ok (.goto 4, 3) := by decide +kernel
theorem d_Mo_of_126 : decode b_Mo_of 126 = .ok (.iconst (-1), 1) := by decide +kernel
theorem d_Mo_of_127 : decode b_Mo_of 127 = .ok (.ireturn, 1) := by decide +kernel
theorem o_Mo_of : OkV y_Mo_of "OwnsLiftModel" b_Mo_of 3 (some .int) 2 := ⟨⟨rfl, by decide +kernel, by decide +kernel, by decide +kernel⟩, g_1144, g_1145, g_81, g_1146⟩
set_option maxHeartbeats 4000000 in
set_option maxRecDepth 100000 in
theorem c_Mo_of (l : Launch) (D : va_G) (g : Nat → ClassId) (a : Nat → Nat) (x1 : Int32) (x2 : Int32) (z : T_Mo) (v : Int32 × T_Mo) (h : d_Mo_of x1 x2 z = some v) :
    MI l y_Mo_of b_Mo_of 3 .int ({ frames := 3, cells := 0, slots := 0, locals := 75 } : Room) D g [.ref (a 0), .int x1, .int x2] (ws_Mo g a z) (v.1) (ws_Mo g a v.2) := by
  have hd := h
  unfold d_Mo_of at hd
  refine enterI rfl (Nat.le_of_ble_eq_true rfl) (fun p e s m below meth c A ls hx hb hml hr hown hg hlk hK hA hP hD hS hCs hl => ?_)
  have hown : s.vm.findClass "OwnsLiftModel" = some m.cls := hown
  have hl : lv_has ls 3 [(0, .ref (a 0)), (1, .int x1), (2, .int x2)] := hl
  show GI p l e s m ({ frames := 3, cells := 0, slots := 0, locals := 75 } : Room) ([.ref (a 0), .int x1, .int x2] : List Value).toArray below meth c A D g (ws_Mo g a v.2) (v.1) s.heap [] (F0 m 0 ls [])
  refine lv_aload_n hx hb d_Mo_of_0 rfl (lv_at hl 0 rfl) ?_
  refine lv_iload_n hx hb d_Mo_of_1 rfl (lv_at hl 1 rfl) ?_
  obtain ⟨v_1, e_2, hd⟩ := bind_s hd
  refine callVI (ws' := ws_Mo g a z) (rest := []) (As := [.int x1]) hx hb hml hown hg hK hP hD hS hA hCs hl.1 (c_Mo_isPerson l D g a x1 z _ e_2) o_Mo_isPerson g_1147 (ci := 1) (q0 := 0) rfl rfl (List.range' 0 12) (segC1 rfl rfl) (by decide) rfl (segP1 rfl rfl) rfl rfl (Nat.le_of_ble_eq_true rfl) ⟨rfl, rfl, Nat.le_of_ble_eq_true rfl, Nat.le_of_ble_eq_true rfl⟩ d_Mo_of_2 (fun H locs hP hD hS => ?_)
  refine lv_if_ne (tgt := 10) hx hb d_Mo_of_5 (by decide) (fun h_3 => ?_) (fun h_3 => ?_)
  · have hd := ite_f hd h_3
    refine lv_iload_n hx hb d_Mo_of_10 rfl (lv_at hl 2 rfl) ?_
    by_cases h_4 : x2 = 4
    · have hd := ite_t hd h_4
      refine lv_tableIn (tgt := 48) hx hb d_Mo_of_11 (by rw [h_4]; decide) (by rw [h_4]; decide) (off := 37) (by rw [h_4]; decide) (by decide) ?_
      refine lv_aload_n hx hb d_Mo_of_48 rfl (lv_at hl 0 rfl) ?_
      refine lv_iload_n hx hb d_Mo_of_49 rfl (lv_at hl 1 rfl) ?_
      obtain ⟨v_5, e_6, hd⟩ := bind_s hd
      refine callVI (ws' := ws_Mo g a v_5.2) (rest := []) (As := [.int x1]) hx hb hml hown hg hK hP hD hS hA hCs hl.1 (c_Mo_liftsOf l D g a x1 z _ e_6) o_Mo_liftsOf g_1151 (ci := 1) (q0 := 0) rfl rfl (List.range' 0 12) (segC1 rfl rfl) (by decide) rfl (segP1 rfl rfl) rfl rfl (Nat.le_of_ble_eq_true rfl) ⟨rfl, rfl, Nat.le_of_ble_eq_true rfl, Nat.le_of_ble_eq_true rfl⟩ d_Mo_of_50 (fun H locs hP hD hS => ?_)
      obtain rfl := Option.some.inj hd
      exact retI hx hb hr hlk hK hP hD hS d_Mo_of_53 rfl
    have hd := ite_f hd h_4
    by_cases h_7 : x2 = 5
    · have hd := ite_t hd h_7
      refine lv_tableIn (tgt := 54) hx hb d_Mo_of_11 (by rw [h_7]; decide) (by rw [h_7]; decide) (off := 43) (by rw [h_7]; decide) (by decide) ?_
      refine lv_aload_n hx hb d_Mo_of_54 rfl (lv_at hl 0 rfl) ?_
      refine lv_iload_n hx hb d_Mo_of_55 rfl (lv_at hl 1 rfl) ?_
      obtain ⟨v_8, e_9, hd⟩ := bind_s hd
      refine callVI (ws' := ws_Mo g a z) (rest := []) (As := [.int x1]) hx hb hml hown hg hK hP hD hS hA hCs hl.1 (c_Mo_loadOf l D g a x1 z _ e_9) o_Mo_loadOf g_1163 (ci := 1) (q0 := 0) rfl rfl (List.range' 0 12) (segC1 rfl rfl) (by decide) rfl (segP1 rfl rfl) rfl rfl (Nat.le_of_ble_eq_true rfl) ⟨rfl, rfl, Nat.le_of_ble_eq_true rfl, Nat.le_of_ble_eq_true rfl⟩ d_Mo_of_56 (fun H locs hP hD hS => ?_)
      obtain rfl := Option.some.inj hd
      exact retI hx hb hr hlk hK hP hD hS d_Mo_of_59 rfl
    have hd := ite_f hd h_7
    by_cases h_10 : x2 = 6
    · have hd := ite_t hd h_10
      refine lv_tableIn (tgt := 60) hx hb d_Mo_of_11 (by rw [h_10]; decide) (by rw [h_10]; decide) (off := 49) (by rw [h_10]; decide) (by decide) ?_
      refine lv_aload_n hx hb d_Mo_of_60 rfl (lv_at hl 0 rfl) ?_
      refine lv_iload_n hx hb d_Mo_of_61 rfl (lv_at hl 1 rfl) ?_
      obtain ⟨v_11, e_12, hd⟩ := bind_s hd
      refine callVI (ws' := ws_Mo g a z) (rest := []) (As := [.int x1]) hx hb hml hown hg hK hP hD hS hA hCs hl.1 (c_Mo_loadOf l D g a x1 z _ e_12) o_Mo_loadOf g_1163 (ci := 1) (q0 := 0) rfl rfl (List.range' 0 12) (segC1 rfl rfl) (by decide) rfl (segP1 rfl rfl) rfl rfl (Nat.le_of_ble_eq_true rfl) ⟨rfl, rfl, Nat.le_of_ble_eq_true rfl, Nat.le_of_ble_eq_true rfl⟩ d_Mo_of_62 (fun H locs hP hD hS => ?_)
      refine lv_aload_n hx hb d_Mo_of_65 rfl (lv_at hl 0 rfl) ?_
      refine lv_iload_n hx hb d_Mo_of_66 rfl (lv_at hl 1 rfl) ?_
      obtain ⟨v_13, e_14, hd⟩ := bind_s hd
      refine callVI (ws' := ws_Mo g a v_13.2) (rest := [.int v_11]) (As := [.int x1]) hx hb hml hown hg hK hP hD hS hA hCs hl.1 (c_Mo_liftsOf l D g a x1 z _ e_14) o_Mo_liftsOf g_1151 (ci := 1) (q0 := 0) rfl rfl (List.range' 0 12) (segC1 rfl rfl) (by decide) rfl (segP1 rfl rfl) rfl rfl (Nat.le_of_ble_eq_true rfl) ⟨rfl, rfl, Nat.le_of_ble_eq_true rfl, Nat.le_of_ble_eq_true rfl⟩ d_Mo_of_67 (fun H locs hP hD hS => ?_)
      refine lv_icmp_le (tgt := 77) hx hb d_Mo_of_70 (by decide) (fun h_15 => ?_) (fun h_15 => ?_)
      · have hd := ite_t hd h_15
        refine lv_iconst (v := 0) hx hb d_Mo_of_77 (by decide) ?_
        obtain rfl := Option.some.inj hd
        exact retI hx hb hr hlk hK hP hD hS d_Mo_of_78 rfl
      · have hd := ite_f hd h_15
        refine lv_iconst (v := 1) hx hb d_Mo_of_73 (by decide) ?_
        refine lv_goto (tgt := 78) hx hb d_Mo_of_74 (by decide) ?_
        obtain rfl := Option.some.inj hd
        exact retI hx hb hr hlk hK hP hD hS d_Mo_of_78 rfl
    have hd := ite_f hd h_10
    by_cases h_16 : x2 = 7
    · have hd := ite_t hd h_16
      refine lv_tableIn (tgt := 79) hx hb d_Mo_of_11 (by rw [h_16]; decide) (by rw [h_16]; decide) (off := 68) (by rw [h_16]; decide) (by decide) ?_
      refine lv_aload_n hx hb d_Mo_of_79 rfl (lv_at hl 0 rfl) ?_
      refine lv_iload_n hx hb d_Mo_of_80 rfl (lv_at hl 1 rfl) ?_
      obtain ⟨v_17, e_18, hd⟩ := bind_s hd
      refine callVI (ws' := ws_Mo g a v_17.2) (rest := []) (As := [.int x1]) hx hb hml hown hg hK hP hD hS hA hCs hl.1 (c_Mo_illOf l D g a x1 z _ e_18) o_Mo_illOf g_1167 (ci := 1) (q0 := 0) rfl rfl (List.range' 0 12) (segC1 rfl rfl) (by decide) rfl (segP1 rfl rfl) rfl rfl (Nat.le_of_ble_eq_true rfl) ⟨rfl, rfl, Nat.le_of_ble_eq_true rfl, Nat.le_of_ble_eq_true rfl⟩ d_Mo_of_81 (fun H locs hP hD hS => ?_)
      obtain rfl := Option.some.inj hd
      exact retI hx hb hr hlk hK hP hD hS d_Mo_of_84 rfl
    have hd := ite_f hd h_16
    by_cases h_19 : x2 = 8
    · have hd := ite_t hd h_19
      refine lv_tableIn (tgt := 85) hx hb d_Mo_of_11 (by rw [h_19]; decide) (by rw [h_19]; decide) (off := 74) (by rw [h_19]; decide) (by decide) ?_
      refine lv_aload_n hx hb d_Mo_of_85 rfl (lv_at hl 0 rfl) ?_
      refine lv_iload_n hx hb d_Mo_of_86 rfl (lv_at hl 1 rfl) ?_
      obtain ⟨v_20, e_21, hd⟩ := bind_s hd
      refine callVI (ws' := ws_Mo g a z) (rest := []) (As := [.int x1]) hx hb hml hown hg hK hP hD hS hA hCs hl.1 (c_Mo_thingsOf l D g a x1 z _ e_21) o_Mo_thingsOf g_1171 (ci := 1) (q0 := 0) rfl rfl (List.range' 0 12) (segC1 rfl rfl) (by decide) rfl (segP1 rfl rfl) rfl rfl (Nat.le_of_ble_eq_true rfl) ⟨rfl, rfl, Nat.le_of_ble_eq_true rfl, Nat.le_of_ble_eq_true rfl⟩ d_Mo_of_87 (fun H locs hP hD hS => ?_)
      obtain rfl := Option.some.inj hd
      exact retI hx hb hr hlk hK hP hD hS d_Mo_of_90 rfl
    have hd := ite_f hd h_19
    by_cases h_22 : x2 = 9
    · have hd := ite_t hd h_22
      refine lv_tableIn (tgt := 91) hx hb d_Mo_of_11 (by rw [h_22]; decide) (by rw [h_22]; decide) (off := 80) (by rw [h_22]; decide) (by decide) ?_
      refine lv_aload_n hx hb d_Mo_of_91 rfl (lv_at hl 0 rfl) ?_
      refine va_get (D := D) (ci := 1) (v := .ref (a 1)) (C := R_Mo) (T := F_Mo) (N := 26) hx hb hg i_Mo hown hK hP 0 rfl rfl 1 (by decide) (hg _ g_993) (fun _ h9 => h9) rfl d_Mo_of_92 ?_
      refine lv_bipush (v := 26) hx hb d_Mo_of_95 (by decide) ?_
      refine lv_iload_n hx hb d_Mo_of_97 rfl (lv_at hl 1 rfl) ?_
      refine lv_iadd hx hb d_Mo_of_98 ?_
      obtain ⟨h_23, hd⟩ := ite_s hd
      refine ialdK hx hb hK hP 1 0 rfl rfl (inb_t h_23) rfl d_Mo_of_99 ?_
      obtain rfl := Option.some.inj hd
      exact retI hx hb hr hlk hK hP hD hS d_Mo_of_100 rfl
    have hd := ite_f hd h_22
    have ho_28 : (x2).toInt < 4 ∨ 9 < (x2).toInt := by
      refine tab_out 4 9 ?_
      intro k h1 h2 q
      have hk : k = 4 ∨ k = 5 ∨ k = 6 ∨ k = 7 ∨ k = 8 ∨ k = 9 := by omega
      rcases hk with rfl | rfl | rfl | rfl | rfl | rfl
      · exact h_4 (Int32.toInt_inj.mp (q.trans (by decide)))
      · exact h_7 (Int32.toInt_inj.mp (q.trans (by decide)))
      · exact h_10 (Int32.toInt_inj.mp (q.trans (by decide)))
      · exact h_16 (Int32.toInt_inj.mp (q.trans (by decide)))
      · exact h_19 (Int32.toInt_inj.mp (q.trans (by decide)))
      · exact h_22 (Int32.toInt_inj.mp (q.trans (by decide)))
    refine lv_tableOut (tgt := 101) hx hb d_Mo_of_11 ho_28 (by decide) ?_
    refine lv_iload_n hx hb d_Mo_of_101 rfl (lv_at hl 2 rfl) ?_
    refine lv_iconst (v := 0) hx hb d_Mo_of_102 (by decide) ?_
    refine lv_iconst (v := 3) hx hb d_Mo_of_103 (by decide) ?_
    obtain ⟨v_24, e_25, hd⟩ := bind_s hd
    refine callSI (ws' := ws_Mo g a z) (rest := []) (As := [.int x2, .int 0, .int 3]) hx hb hml hown hg hK hP hD hS hA hCs hl.1 (c_Mo_in l D g  x2 0 3 _ e_25) o_Mo_in g_1076 [] segC0 rfl rfl segP0 rfl rfl (Nat.le_of_ble_eq_true rfl) ⟨rfl, rfl, Nat.le_of_ble_eq_true rfl, Nat.le_of_ble_eq_true rfl⟩ d_Mo_of_104 (fun H locs hP hD hS => ?_)
    refine lv_if_eq (tgt := 126) hx hb d_Mo_of_107 (by decide) (fun h_26 => ?_) (fun h_26 => ?_)
    · have hd := ite_t hd h_26
      refine lv_iconst (v := (-1)) hx hb d_Mo_of_126 (by decide) ?_
      obtain rfl := Option.some.inj hd
      exact retI hx hb hr hlk hK hP hD hS d_Mo_of_127 rfl
    · have hd := ite_f hd h_26
      refine lv_aload_n hx hb d_Mo_of_110 rfl (lv_at hl 0 rfl) ?_
      refine va_get (D := D) (ci := 1) (v := .ref (a 1)) (C := R_Mo) (T := F_Mo) (N := 26) hx hb hg i_Mo hown hK hP 0 rfl rfl 1 (by decide) (hg _ g_993) (fun _ h9 => h9) rfl d_Mo_of_111 ?_
      refine lv_bipush (v := 10) hx hb d_Mo_of_114 (by decide) ?_
      refine lv_iconst (v := 4) hx hb d_Mo_of_116 (by decide) ?_
      refine lv_iload_n hx hb d_Mo_of_117 rfl (lv_at hl 2 rfl) ?_
      refine lv_imul hx hb d_Mo_of_118 ?_
      refine lv_iadd hx hb d_Mo_of_119 ?_
      refine lv_iload_n hx hb d_Mo_of_120 rfl (lv_at hl 1 rfl) ?_
      refine lv_iadd hx hb d_Mo_of_121 ?_
      obtain ⟨h_27, hd⟩ := ite_s hd
      refine ialdK hx hb hK hP 1 0 rfl rfl (inb_t h_27) rfl d_Mo_of_122 ?_
      refine lv_goto (tgt := 127) hx hb d_Mo_of_123 (by decide) ?_
      obtain rfl := Option.some.inj hd
      exact retI hx hb hr hlk hK hP hD hS d_Mo_of_127 rfl
  · have hd := ite_t hd h_3
    refine lv_iconst (v := (-1)) hx hb d_Mo_of_8 (by decide) ?_
    obtain rfl := Option.some.inj hd
    exact retI hx hb hr hlk hK hP hD hS d_Mo_of_9 rfl
-- OwnsLiftModel.strength(II)I
def d_Mo_strength (x1 : Int32) (x2 : Int32) (z : T_Mo) : Option (Int32 × T_Mo) :=
  (d_Mo_isPerson x1 z).bind fun v_1 => if v_1 = 0 then (some ((-1), z)) else ((d_Mo_in x2 0 99).bind fun v_4 => if v_4 = 0 then (some ((-2), z)) else (if inb (18 + x1) 901 = true then (if inb (18 + x1) 901 = true then (some ((q_Mo_s z) (18 + x1).toNatClampNeg, (u_Mo_s z (upd (q_Mo_s z) (18 + x1).toNatClampNeg x2)))) else none) else none))
theorem d_Mo_strength_0 : decode b_Mo_strength 0 = .ok (.aload_n 0, 1) := by decide +kernel
theorem d_Mo_strength_1 : decode b_Mo_strength 1 = .ok (.iload_n 1, 1) := by decide +kernel
theorem d_Mo_strength_2 : decode b_Mo_strength 2 = .ok (.invokevirtual 147, 3) := by decide +kernel
theorem d_Mo_strength_5 : decode b_Mo_strength 5 = .ok (.ifCond .ne 5, 3) := by decide +kernel
theorem d_Mo_strength_8 : decode b_Mo_strength 8 = .ok (.iconst (-1), 1) := by decide +kernel
theorem d_Mo_strength_9 : decode b_Mo_strength 9 = .ok (.ireturn, 1) := by decide +kernel
theorem d_Mo_strength_10 : decode b_Mo_strength 10 = .ok (.iload_n 2, 1) := by decide +kernel
theorem d_Mo_strength_11 : decode b_Mo_strength 11 = .ok (.iconst 0, 1) := by decide +kernel
theorem d_Mo_strength_12 : decode b_Mo_strength 12 = .ok (.bipush 99, 2) := by decide +kernel
theorem d_Mo_strength_14 : decode b_Mo_strength 14 = .ok (.invokestatic 50, 3) := by decide +kernel
theorem d_Mo_strength_17 : decode b_Mo_strength 17 = .ok (.ifCond .ne 6, 3) := by decide +kernel
theorem d_Mo_strength_20 : decode b_Mo_strength 20 = .ok (.bipush (-2), 2) := by decide +kernel
theorem d_Mo_strength_22 : decode b_Mo_strength 22 = .ok (.ireturn, 1) := by decide +kernel
theorem d_Mo_strength_23 : decode b_Mo_strength 23 = .ok (.aload_n 0, 1) := by decide +kernel
theorem d_Mo_strength_24 : decode b_Mo_strength 24 = .ok (.getfield 9, 3) := by decide +kernel
theorem d_Mo_strength_27 : decode b_Mo_strength 27 = .ok (.bipush 18, 2) := by decide +kernel
theorem d_Mo_strength_29 : decode b_Mo_strength 29 = .ok (.iload_n 1, 1) := by decide +kernel
theorem d_Mo_strength_30 : decode b_Mo_strength 30 = .ok (.iadd, 1) := by decide +kernel
theorem d_Mo_strength_31 : decode b_Mo_strength 31 = .ok (.iaload, 1) := by decide +kernel
theorem d_Mo_strength_32 : decode b_Mo_strength 32 = .ok (.istore_n 3, 1) := by decide +kernel
theorem d_Mo_strength_33 : decode b_Mo_strength 33 = .ok (.aload_n 0, 1) := by decide +kernel
theorem d_Mo_strength_34 : decode b_Mo_strength 34 = .ok (.getfield 9, 3) := by decide +kernel
theorem d_Mo_strength_37 : decode b_Mo_strength 37 = .ok (.bipush 18, 2) := by decide +kernel
theorem d_Mo_strength_39 : decode b_Mo_strength 39 = .ok (.iload_n 1, 1) := by decide +kernel
theorem d_Mo_strength_40 : decode b_Mo_strength 40 = .ok (.iadd, 1) := by decide +kernel
theorem d_Mo_strength_41 : decode b_Mo_strength 41 = .ok (.iload_n 2, 1) := by decide +kernel
theorem d_Mo_strength_42 : decode b_Mo_strength 42 = .ok (.iastore, 1) := by decide +kernel
theorem d_Mo_strength_43 : decode b_Mo_strength 43 = .ok (.iload_n 3, 1) := by decide +kernel
theorem d_Mo_strength_44 : decode b_Mo_strength 44 = .ok (.ireturn, 1) := by decide +kernel
theorem o_Mo_strength : OkV y_Mo_strength "OwnsLiftModel" b_Mo_strength 4 (some .int) 2 := ⟨⟨rfl, by decide +kernel, by decide +kernel, by decide +kernel⟩, g_1176, g_1177, g_81, g_1178⟩
set_option maxHeartbeats 4000000 in
set_option maxRecDepth 100000 in
theorem c_Mo_strength (l : Launch) (D : va_G) (g : Nat → ClassId) (a : Nat → Nat) (x1 : Int32) (x2 : Int32) (z : T_Mo) (v : Int32 × T_Mo) (h : d_Mo_strength x1 x2 z = some v) :
    MI l y_Mo_strength b_Mo_strength 4 .int ({ frames := 2, cells := 0, slots := 0, locals := 43 } : Room) D g [.ref (a 0), .int x1, .int x2] (ws_Mo g a z) (v.1) (ws_Mo g a v.2) := by
  have hd := h
  unfold d_Mo_strength at hd
  refine enterI rfl (Nat.le_of_ble_eq_true rfl) (fun p e s m below meth c A ls hx hb hml hr hown hg hlk hK hA hP hD hS hCs hl => ?_)
  have hown : s.vm.findClass "OwnsLiftModel" = some m.cls := hown
  have hl : lv_has ls 4 [(0, .ref (a 0)), (1, .int x1), (2, .int x2)] := hl
  show GI p l e s m ({ frames := 2, cells := 0, slots := 0, locals := 43 } : Room) ([.ref (a 0), .int x1, .int x2] : List Value).toArray below meth c A D g (ws_Mo g a v.2) (v.1) s.heap [] (F0 m 0 ls [])
  refine lv_aload_n hx hb d_Mo_strength_0 rfl (lv_at hl 0 rfl) ?_
  refine lv_iload_n hx hb d_Mo_strength_1 rfl (lv_at hl 1 rfl) ?_
  obtain ⟨v_1, e_2, hd⟩ := bind_s hd
  refine callVI (ws' := ws_Mo g a z) (rest := []) (As := [.int x1]) hx hb hml hown hg hK hP hD hS hA hCs hl.1 (c_Mo_isPerson l D g a x1 z _ e_2) o_Mo_isPerson g_1147 (ci := 1) (q0 := 0) rfl rfl (List.range' 0 12) (segC1 rfl rfl) (by decide) rfl (segP1 rfl rfl) rfl rfl (Nat.le_of_ble_eq_true rfl) ⟨rfl, rfl, Nat.le_of_ble_eq_true rfl, Nat.le_of_ble_eq_true rfl⟩ d_Mo_strength_2 (fun H locs hP hD hS => ?_)
  refine lv_if_ne (tgt := 10) hx hb d_Mo_strength_5 (by decide) (fun h_3 => ?_) (fun h_3 => ?_)
  · have hd := ite_f hd h_3
    refine lv_iload_n hx hb d_Mo_strength_10 rfl (lv_at hl 2 rfl) ?_
    refine lv_iconst (v := 0) hx hb d_Mo_strength_11 (by decide) ?_
    refine lv_bipush (v := 99) hx hb d_Mo_strength_12 (by decide) ?_
    obtain ⟨v_4, e_5, hd⟩ := bind_s hd
    refine callSI (ws' := ws_Mo g a z) (rest := []) (As := [.int x2, .int 0, .int 99]) hx hb hml hown hg hK hP hD hS hA hCs hl.1 (c_Mo_in l D g  x2 0 99 _ e_5) o_Mo_in g_1076 [] segC0 rfl rfl segP0 rfl rfl (Nat.le_of_ble_eq_true rfl) ⟨rfl, rfl, Nat.le_of_ble_eq_true rfl, Nat.le_of_ble_eq_true rfl⟩ d_Mo_strength_14 (fun H locs hP hD hS => ?_)
    refine lv_if_ne (tgt := 23) hx hb d_Mo_strength_17 (by decide) (fun h_6 => ?_) (fun h_6 => ?_)
    · have hd := ite_f hd h_6
      refine lv_aload_n hx hb d_Mo_strength_23 rfl (lv_at hl 0 rfl) ?_
      refine va_get (D := D) (ci := 1) (v := .ref (a 1)) (C := R_Mo) (T := F_Mo) (N := 26) hx hb hg i_Mo hown hK hP 0 rfl rfl 1 (by decide) (hg _ g_993) (fun _ h9 => h9) rfl d_Mo_strength_24 ?_
      refine lv_bipush (v := 18) hx hb d_Mo_strength_27 (by decide) ?_
      refine lv_iload_n hx hb d_Mo_strength_29 rfl (lv_at hl 1 rfl) ?_
      refine lv_iadd hx hb d_Mo_strength_30 ?_
      obtain ⟨h_8, hd⟩ := ite_s hd
      refine ialdK hx hb hK hP 1 0 rfl rfl (inb_t h_8) rfl d_Mo_strength_31 ?_
      refine lv_istore_n (lv' := [(3, .int ((q_Mo_s z) (18 + x1).toNatClampNeg)), (0, .ref (a 0)), (1, .int x1), (2, .int x2)]) hx hb d_Mo_strength_32 rfl hl (by decide) rfl (fun ls hl => ?_)
      refine lv_aload_n hx hb d_Mo_strength_33 rfl (lv_at hl 1 rfl) ?_
      refine va_get (D := D) (ci := 1) (v := .ref (a 1)) (C := R_Mo) (T := F_Mo) (N := 26) hx hb hg i_Mo hown hK hP 0 rfl rfl 1 (by decide) (hg _ g_993) (fun _ h9 => h9) rfl d_Mo_strength_34 ?_
      refine lv_bipush (v := 18) hx hb d_Mo_strength_37 (by decide) ?_
      refine lv_iload_n hx hb d_Mo_strength_39 rfl (lv_at hl 2 rfl) ?_
      refine lv_iadd hx hb d_Mo_strength_40 ?_
      refine lv_iload_n hx hb d_Mo_strength_41 rfl (lv_at hl 3 rfl) ?_
      obtain ⟨h_7, hd⟩ := ite_s hd
      refine iastK hx hb hK hP hD hS 1 0 rfl rfl (inb_t h_7) rfl d_Mo_strength_42 (fun H locs hP hD hS => ?_)
      have hP : va_P D classes (ws_Mo g a (u_Mo_s z (upd (q_Mo_s z) (18 + x1).toNatClampNeg x2))) H := hP
      have hD : va_D A (ws_Mo g a (u_Mo_s z (upd (q_Mo_s z) (18 + x1).toNatClampNeg x2))) := hD
      refine lv_iload_n hx hb d_Mo_strength_43 rfl (lv_at hl 0 rfl) ?_
      obtain rfl := Option.some.inj hd
      exact retI hx hb hr hlk hK hP hD hS d_Mo_strength_44 rfl
    · have hd := ite_t hd h_6
      refine lv_bipush (v := (-2)) hx hb d_Mo_strength_20 (by decide) ?_
      obtain rfl := Option.some.inj hd
      exact retI hx hb hr hlk hK hP hD hS d_Mo_strength_22 rfl
  · have hd := ite_t hd h_3
    refine lv_iconst (v := (-1)) hx hb d_Mo_strength_8 (by decide) ?_
    obtain rfl := Option.some.inj hd
    exact retI hx hb hr hlk hK hP hD hS d_Mo_strength_9 rfl
-- OwnsLiftModel.row(II)I
def d_Mo_row (x1 : Int32) (x2 : Int32) (z : T_Mo) : Option (Int32 × T_Mo) :=
  (d_Mo_isPerson x1 z).bind fun v_1 => if v_1 = 0 then (some ((-1), z)) else (if x2 = (-1) then (if inb (10 + x1) 901 = true then (if ((q_Mo_s z) (10 + x1).toNatClampNeg) = 6 then (if x2 = (-1) then (if inb (26 + x1) 901 = true then (some (0, (u_Mo_s z (upd (q_Mo_s z) (26 + x1).toNatClampNeg 0)))) else none) else (if inb (26 + x1) 901 = true then (if ((q_Mo_s z) (26 + x1).toNatClampNeg) = 7 then (some ((-4), z)) else (if inb (26 + x1) 901 = true then (if inb ((30 + (7 * x1)) + ((q_Mo_s z) (26 + x1).toNatClampNeg)) 901 = true then (if inb (26 + x1) 901 = true then (if inb (26 + x1) 901 = true then (if inb (26 + x1) 901 = true then (some ((q_Mo_s (u_Mo_s (u_Mo_s z (upd (q_Mo_s z) ((30 + (7 * x1)) + ((q_Mo_s z) (26 + x1).toNatClampNeg)).toNatClampNeg x2)) (upd (q_Mo_s (u_Mo_s z (upd (q_Mo_s z) ((30 + (7 * x1)) + ((q_Mo_s z) (26 + x1).toNatClampNeg)).toNatClampNeg x2))) (26 + x1).toNatClampNeg (((q_Mo_s (u_Mo_s z (upd (q_Mo_s z) ((30 + (7 * x1)) + ((q_Mo_s z) (26 + x1).toNatClampNeg)).toNatClampNeg x2))) (26 + x1).toNatClampNeg) + 1)))) (26 + x1).toNatClampNeg, (u_Mo_s (u_Mo_s z (upd (q_Mo_s z) ((30 + (7 * x1)) + ((q_Mo_s z) (26 + x1).toNatClampNeg)).toNatClampNeg x2)) (upd (q_Mo_s (u_Mo_s z (upd (q_Mo_s z) ((30 + (7 * x1)) + ((q_Mo_s z) (26 + x1).toNatClampNeg)).toNatClampNeg x2))) (26 + x1).toNatClampNeg (((q_Mo_s (u_Mo_s z (upd (q_Mo_s z) ((30 + (7 * x1)) + ((q_Mo_s z) (26 + x1).toNatClampNeg)).toNatClampNeg x2))) (26 + x1).toNatClampNeg) + 1))))) else none) else none) else none) else none) else none)) else none)) else (some ((-3), z))) else none) else ((d_Mo_isThing x2 z).bind fun v_16 => if v_16 = 0 then (some ((-1), z)) else (if inb (10 + x1) 901 = true then (if ((q_Mo_s z) (10 + x1).toNatClampNeg) = 6 then (if x2 = (-1) then (if inb (26 + x1) 901 = true then (some (0, (u_Mo_s z (upd (q_Mo_s z) (26 + x1).toNatClampNeg 0)))) else none) else (if inb (26 + x1) 901 = true then (if ((q_Mo_s z) (26 + x1).toNatClampNeg) = 7 then (some ((-4), z)) else (if inb (26 + x1) 901 = true then (if inb ((30 + (7 * x1)) + ((q_Mo_s z) (26 + x1).toNatClampNeg)) 901 = true then (if inb (26 + x1) 901 = true then (if inb (26 + x1) 901 = true then (if inb (26 + x1) 901 = true then (some ((q_Mo_s (u_Mo_s (u_Mo_s z (upd (q_Mo_s z) ((30 + (7 * x1)) + ((q_Mo_s z) (26 + x1).toNatClampNeg)).toNatClampNeg x2)) (upd (q_Mo_s (u_Mo_s z (upd (q_Mo_s z) ((30 + (7 * x1)) + ((q_Mo_s z) (26 + x1).toNatClampNeg)).toNatClampNeg x2))) (26 + x1).toNatClampNeg (((q_Mo_s (u_Mo_s z (upd (q_Mo_s z) ((30 + (7 * x1)) + ((q_Mo_s z) (26 + x1).toNatClampNeg)).toNatClampNeg x2))) (26 + x1).toNatClampNeg) + 1)))) (26 + x1).toNatClampNeg, (u_Mo_s (u_Mo_s z (upd (q_Mo_s z) ((30 + (7 * x1)) + ((q_Mo_s z) (26 + x1).toNatClampNeg)).toNatClampNeg x2)) (upd (q_Mo_s (u_Mo_s z (upd (q_Mo_s z) ((30 + (7 * x1)) + ((q_Mo_s z) (26 + x1).toNatClampNeg)).toNatClampNeg x2))) (26 + x1).toNatClampNeg (((q_Mo_s (u_Mo_s z (upd (q_Mo_s z) ((30 + (7 * x1)) + ((q_Mo_s z) (26 + x1).toNatClampNeg)).toNatClampNeg x2))) (26 + x1).toNatClampNeg) + 1))))) else none) else none) else none) else none) else none)) else none)) else (some ((-3), z))) else none)))
theorem d_Mo_row_0 : decode b_Mo_row 0 = .ok (.aload_n 0, 1) := by decide +kernel
theorem d_Mo_row_1 : decode b_Mo_row 1 = .ok (.iload_n 1, 1) := by decide +kernel
theorem d_Mo_row_2 : decode b_Mo_row 2 = .ok (.invokevirtual 147, 3) := by decide +kernel
theorem d_Mo_row_5 : decode b_Mo_row 5 = .ok (.ifCond .eq 16, 3) := by decide +kernel
theorem d_Mo_row_8 : decode b_Mo_row 8 = .ok (.iload_n 2, 1) := by decide +kernel
theorem d_Mo_row_9 : decode b_Mo_row 9 = .ok (.iconst (-1), 1) := by decide +kernel
theorem d_Mo_row_10 : decode b_Mo_row 10 = .ok (.if_icmp .eq 13, 3) := by decide +kernel
theorem d_Mo_row_13 : decode b_Mo_row 13 = .ok (.aload_n 0, 1) := by decide +kernel
theorem d_Mo_row_14 : decode b_Mo_row 14 = .ok (.iload_n 2, 1) := by decide +kernel
theorem d_Mo_row_15 : decode b_Mo_row 15 = .ok (.invokevirtual 160, 3) := by decide +kernel
theorem d_Mo_row_18 : decode b_Mo_row 18 = .ok (.ifCond .ne 5, 3) := by decide +kernel
theorem d_Mo_row_21 : decode b_Mo_row 21 = .ok (.iconst (-1), 1) := by decide +kernel
theorem d_Mo_row_22 : decode b_Mo_row 22 = .ok (.ireturn, 1) := by decide +kernel
theorem d_Mo_row_23 : decode b_Mo_row 23 = .ok (.aload_n 0, 1) := by decide +kernel
theorem d_Mo_row_24 : decode b_Mo_row 24 = .ok (.getfield 9, 3) := by decide +kernel
theorem d_Mo_row_27 : decode b_Mo_row 27 = .ok (.bipush 10, 2) := by decide +kernel
theorem d_Mo_row_29 : decode b_Mo_row 29 = .ok (.iload_n 1, 1) := by decide +kernel
theorem d_Mo_row_30 : decode b_Mo_row 30 = .ok (.iadd, 1) := by decide +kernel
theorem d_Mo_row_31 : decode b_Mo_row 31 = .ok (.iaload, 1) := by decide +kernel
theorem d_Mo_row_32 : decode b_Mo_row 32 = .ok (.bipush 6, 2) := by decide +kernel
theorem d_Mo_row_34 : decode b_Mo_row 34 = .ok (.if_icmp .eq 6, 3) := by decide +kernel
theorem d_Mo_row_37 : decode b_Mo_row 37 = .ok (.bipush (-3), 2) := by decide +kernel
theorem d_Mo_row_39 : decode b_Mo_row 39 = .ok (.ireturn, 1) := by decide +kernel
theorem d_Mo_row_40 : decode b_Mo_row 40 = .ok (.iload_n 2, 1) := by decide +kernel
theorem d_Mo_row_41 : decode b_Mo_row 41 = .ok (.iconst (-1), 1) := by decide +kernel
theorem d_Mo_row_42 : decode b_Mo_row 42 = .ok (.if_icmp .ne 15, 3) := by decide +kernel
theorem d_Mo_row_45 : decode b_Mo_row 45 = .ok (.aload_n 0, 1) := by decide +kernel
theorem d_Mo_row_46 : decode b_Mo_row 46 = .ok (.getfield 9, 3) := by decide +kernel
theorem d_Mo_row_49 : decode b_Mo_row 49 = .ok (.bipush 26, 2) := by decide +kernel
theorem d_Mo_row_51 : decode b_Mo_row 51 = .ok (.iload_n 1, 1) := by decide +kernel
theorem d_Mo_row_52 : decode b_Mo_row 52 = .ok (.iadd, 1) := by decide +kernel
theorem d_Mo_row_53 : decode b_Mo_row 53 = .ok (.iconst 0, 1) := by decide +kernel
theorem d_Mo_row_54 : decode b_Mo_row 54 = .ok (.iastore, 1) := by decide +kernel
theorem d_Mo_row_55 : decode b_Mo_row 55 = .ok (.iconst 0, 1) := by decide +kernel
theorem d_Mo_row_56 : decode b_Mo_row 56 = .ok (.ireturn, 1) := by decide +kernel
theorem d_Mo_row_57 : decode b_Mo_row 57 = .ok (.aload_n 0, 1) := by decide +kernel
theorem d_Mo_row_58 : decode b_Mo_row 58 = .ok (.getfield 9, 3) := by decide +kernel
theorem d_Mo_row_61 : decode b_Mo_row 61 = .ok (.bipush 26, 2) := by decide +kernel
theorem d_Mo_row_63 : decode b_Mo_row 63 = .ok (.iload_n 1, 1) := by decide +kernel
theorem d_Mo_row_64 : decode b_Mo_row 64 = .ok (.iadd, 1) := by decide +kernel
theorem d_Mo_row_65 : decode b_Mo_row 65 = .ok (.iaload, 1) := by decide +kernel
theorem d_Mo_row_66 : decode b_Mo_row 66 = .ok (.bipush 7, 2) := by decide +kernel
theorem d_Mo_row_68 : decode b_Mo_row 68 = .ok (.if_icmp .ne 6, 3) := by decide +kernel
theorem d_Mo_row_71 : decode b_Mo_row 71 = .ok (.bipush (-4), 2) := by decide +kernel
theorem d_Mo_row_73 : decode b_Mo_row 73 = .ok (.ireturn, 1) := by decide +kernel
theorem d_Mo_row_74 : decode b_Mo_row 74 = .ok (.aload_n 0, 1) := by decide +kernel
theorem d_Mo_row_75 : decode b_Mo_row 75 = .ok (.getfield 9, 3) := by decide +kernel
theorem d_Mo_row_78 : decode b_Mo_row 78 = .ok (.bipush 30, 2) := by decide +kernel
theorem d_Mo_row_80 : decode b_Mo_row 80 = .ok (.bipush 7, 2) := by decide +kernel
theorem d_Mo_row_82 : decode b_Mo_row 82 = .ok (.iload_n 1, 1) := by decide +kernel
theorem d_Mo_row_83 : decode b_Mo_row 83 = .ok (.imul, 1) := by decide +kernel
theorem d_Mo_row_84 : decode b_Mo_row 84 = .ok (.iadd, 1) := by decide +kernel
theorem d_Mo_row_85 : decode b_Mo_row 85 = .ok (.aload_n 0, 1) := by decide +kernel
theorem d_Mo_row_86 : decode b_Mo_row 86 = .ok (.getfield 9, 3) := by decide +kernel
theorem d_Mo_row_89 : decode b_Mo_row 89 = .ok (.bipush 26, 2) := by decide +kernel
theorem d_Mo_row_91 : decode b_Mo_row 91 = .ok (.iload_n 1, 1) := by decide +kernel
theorem d_Mo_row_92 : decode b_Mo_row 92 = .ok (.iadd, 1) := by decide +kernel
theorem d_Mo_row_93 : decode b_Mo_row 93 = .ok (.iaload, 1) := by decide +kernel
theorem d_Mo_row_94 : decode b_Mo_row 94 = .ok (.iadd, 1) := by decide +kernel
theorem d_Mo_row_95 : decode b_Mo_row 95 = .ok (.iload_n 2, 1) := by decide +kernel
theorem d_Mo_row_96 : decode b_Mo_row 96 = .ok (.iastore, 1) := by decide +kernel
theorem d_Mo_row_97 : decode b_Mo_row 97 = .ok (.aload_n 0, 1) := by decide +kernel
theorem d_Mo_row_98 : decode b_Mo_row 98 = .ok (.getfield 9, 3) := by decide +kernel
theorem d_Mo_row_101 : decode b_Mo_row 101 = .ok (.bipush 26, 2) := by decide +kernel
theorem d_Mo_row_103 : decode b_Mo_row 103 = .ok (.iload_n 1, 1) := by decide +kernel
theorem d_Mo_row_104 : decode b_Mo_row 104 = .ok (.iadd, 1) := by decide +kernel
theorem d_Mo_row_105 : decode b_Mo_row 105 = .ok (.dup2, 1) := by decide +kernel
theorem d_Mo_row_106 : decode b_Mo_row 106 = .ok (.iaload, 1) := by decide +kernel
theorem d_Mo_row_107 : decode b_Mo_row 107 = .ok (.iconst 1, 1) := by decide +kernel
theorem d_Mo_row_108 : decode b_Mo_row 108 = .ok (.iadd, 1) := by decide +kernel
theorem d_Mo_row_109 : decode b_Mo_row 109 = .ok (.iastore, 1) := by decide +kernel
theorem d_Mo_row_110 : decode b_Mo_row 110 = .ok (.aload_n 0, 1) := by decide +kernel
theorem d_Mo_row_111 : decode b_Mo_row 111 = .ok (.getfield 9, 3) := by decide +kernel
theorem d_Mo_row_114 : decode b_Mo_row 114 = .ok (.bipush 26, 2) := by decide +kernel
theorem d_Mo_row_116 : decode b_Mo_row 116 = .ok (.iload_n 1, 1) := by decide +kernel
theorem d_Mo_row_117 : decode b_Mo_row 117 = .ok (.iadd, 1) := by decide +kernel
theorem d_Mo_row_118 : decode b_Mo_row 118 = .ok (.iaload, 1) := by decide +kernel
theorem d_Mo_row_119 : decode b_Mo_row 119 = .ok (.ireturn, 1) := by decide +kernel
theorem o_Mo_row : OkV y_Mo_row "OwnsLiftModel" b_Mo_row 3 (some .int) 2 := ⟨⟨rfl, by decide +kernel, by decide +kernel, by decide +kernel⟩, g_1180, g_1181, g_81, g_1182⟩
set_option maxHeartbeats 4000000 in
set_option maxRecDepth 100000 in
theorem c_Mo_row (l : Launch) (D : va_G) (g : Nat → ClassId) (a : Nat → Nat) (x1 : Int32) (x2 : Int32) (z : T_Mo) (v : Int32 × T_Mo) (h : d_Mo_row x1 x2 z = some v) :
    MI l y_Mo_row b_Mo_row 3 .int ({ frames := 2, cells := 0, slots := 0, locals := 43 } : Room) D g [.ref (a 0), .int x1, .int x2] (ws_Mo g a z) (v.1) (ws_Mo g a v.2) := by
  have hd := h
  unfold d_Mo_row at hd
  refine enterI rfl (Nat.le_of_ble_eq_true rfl) (fun p e s m below meth c A ls hx hb hml hr hown hg hlk hK hA hP hD hS hCs hl => ?_)
  have hown : s.vm.findClass "OwnsLiftModel" = some m.cls := hown
  have hl : lv_has ls 3 [(0, .ref (a 0)), (1, .int x1), (2, .int x2)] := hl
  show GI p l e s m ({ frames := 2, cells := 0, slots := 0, locals := 43 } : Room) ([.ref (a 0), .int x1, .int x2] : List Value).toArray below meth c A D g (ws_Mo g a v.2) (v.1) s.heap [] (F0 m 0 ls [])
  refine lv_aload_n hx hb d_Mo_row_0 rfl (lv_at hl 0 rfl) ?_
  refine lv_iload_n hx hb d_Mo_row_1 rfl (lv_at hl 1 rfl) ?_
  obtain ⟨v_1, e_2, hd⟩ := bind_s hd
  refine callVI (ws' := ws_Mo g a z) (rest := []) (As := [.int x1]) hx hb hml hown hg hK hP hD hS hA hCs hl.1 (c_Mo_isPerson l D g a x1 z _ e_2) o_Mo_isPerson g_1147 (ci := 1) (q0 := 0) rfl rfl (List.range' 0 12) (segC1 rfl rfl) (by decide) rfl (segP1 rfl rfl) rfl rfl (Nat.le_of_ble_eq_true rfl) ⟨rfl, rfl, Nat.le_of_ble_eq_true rfl, Nat.le_of_ble_eq_true rfl⟩ d_Mo_row_2 (fun H locs hP hD hS => ?_)
  refine lv_if_eq (tgt := 21) hx hb d_Mo_row_5 (by decide) (fun h_3 => ?_) (fun h_3 => ?_)
  · have hd := ite_t hd h_3
    refine lv_iconst (v := (-1)) hx hb d_Mo_row_21 (by decide) ?_
    obtain rfl := Option.some.inj hd
    exact retI hx hb hr hlk hK hP hD hS d_Mo_row_22 rfl
  · have hd := ite_f hd h_3
    refine lv_iload_n hx hb d_Mo_row_8 rfl (lv_at hl 2 rfl) ?_
    refine lv_iconst (v := (-1)) hx hb d_Mo_row_9 (by decide) ?_
    refine lv_icmp_eq (tgt := 23) hx hb d_Mo_row_10 (by decide) (fun h_4 => ?_) (fun h_4 => ?_)
    · have hd := ite_t hd h_4
      refine lv_aload_n hx hb d_Mo_row_23 rfl (lv_at hl 0 rfl) ?_
      refine va_get (D := D) (ci := 1) (v := .ref (a 1)) (C := R_Mo) (T := F_Mo) (N := 26) hx hb hg i_Mo hown hK hP 0 rfl rfl 1 (by decide) (hg _ g_993) (fun _ h9 => h9) rfl d_Mo_row_24 ?_
      refine lv_bipush (v := 10) hx hb d_Mo_row_27 (by decide) ?_
      refine lv_iload_n hx hb d_Mo_row_29 rfl (lv_at hl 1 rfl) ?_
      refine lv_iadd hx hb d_Mo_row_30 ?_
      obtain ⟨h_15, hd⟩ := ite_s hd
      refine ialdK hx hb hK hP 1 0 rfl rfl (inb_t h_15) rfl d_Mo_row_31 ?_
      refine lv_bipush (v := 6) hx hb d_Mo_row_32 (by decide) ?_
      refine lv_icmp_eq (tgt := 40) hx hb d_Mo_row_34 (by decide) (fun h_5 => ?_) (fun h_5 => ?_)
      · have hd := ite_t hd h_5
        refine lv_iload_n hx hb d_Mo_row_40 rfl (lv_at hl 2 rfl) ?_
        refine lv_iconst (v := (-1)) hx hb d_Mo_row_41 (by decide) ?_
        refine lv_icmp_ne (tgt := 57) hx hb d_Mo_row_42 (by decide) (fun h_6 => ?_) (fun h_6 => ?_)
        · have hd := ite_f hd h_6
          refine lv_aload_n hx hb d_Mo_row_57 rfl (lv_at hl 0 rfl) ?_
          refine va_get (D := D) (ci := 1) (v := .ref (a 1)) (C := R_Mo) (T := F_Mo) (N := 26) hx hb hg i_Mo hown hK hP 0 rfl rfl 1 (by decide) (hg _ g_993) (fun _ h9 => h9) rfl d_Mo_row_58 ?_
          refine lv_bipush (v := 26) hx hb d_Mo_row_61 (by decide) ?_
          refine lv_iload_n hx hb d_Mo_row_63 rfl (lv_at hl 1 rfl) ?_
          refine lv_iadd hx hb d_Mo_row_64 ?_
          obtain ⟨h_13, hd⟩ := ite_s hd
          refine ialdK hx hb hK hP 1 0 rfl rfl (inb_t h_13) rfl d_Mo_row_65 ?_
          refine lv_bipush (v := 7) hx hb d_Mo_row_66 (by decide) ?_
          refine lv_icmp_ne (tgt := 74) hx hb d_Mo_row_68 (by decide) (fun h_7 => ?_) (fun h_7 => ?_)
          · have hd := ite_f hd h_7
            refine lv_aload_n hx hb d_Mo_row_74 rfl (lv_at hl 0 rfl) ?_
            refine va_get (D := D) (ci := 1) (v := .ref (a 1)) (C := R_Mo) (T := F_Mo) (N := 26) hx hb hg i_Mo hown hK hP 0 rfl rfl 1 (by decide) (hg _ g_993) (fun _ h9 => h9) rfl d_Mo_row_75 ?_
            refine lv_bipush (v := 30) hx hb d_Mo_row_78 (by decide) ?_
            refine lv_bipush (v := 7) hx hb d_Mo_row_80 (by decide) ?_
            refine lv_iload_n hx hb d_Mo_row_82 rfl (lv_at hl 1 rfl) ?_
            refine lv_imul hx hb d_Mo_row_83 ?_
            refine lv_iadd hx hb d_Mo_row_84 ?_
            refine lv_aload_n hx hb d_Mo_row_85 rfl (lv_at hl 0 rfl) ?_
            refine va_get (D := D) (ci := 1) (v := .ref (a 1)) (C := R_Mo) (T := F_Mo) (N := 26) hx hb hg i_Mo hown hK hP 0 rfl rfl 1 (by decide) (hg _ g_993) (fun _ h9 => h9) rfl d_Mo_row_86 ?_
            refine lv_bipush (v := 26) hx hb d_Mo_row_89 (by decide) ?_
            refine lv_iload_n hx hb d_Mo_row_91 rfl (lv_at hl 1 rfl) ?_
            refine lv_iadd hx hb d_Mo_row_92 ?_
            obtain ⟨h_12, hd⟩ := ite_s hd
            refine ialdK hx hb hK hP 1 0 rfl rfl (inb_t h_12) rfl d_Mo_row_93 ?_
            refine lv_iadd hx hb d_Mo_row_94 ?_
            refine lv_iload_n hx hb d_Mo_row_95 rfl (lv_at hl 2 rfl) ?_
            obtain ⟨h_11, hd⟩ := ite_s hd
            refine iastK hx hb hK hP hD hS 1 0 rfl rfl (inb_t h_11) rfl d_Mo_row_96 (fun H locs hP hD hS => ?_)
            have hP : va_P D classes (ws_Mo g a (u_Mo_s z (upd (q_Mo_s z) ((30 + (7 * x1)) + ((q_Mo_s z) (26 + x1).toNatClampNeg)).toNatClampNeg x2))) H := hP
            have hD : va_D A (ws_Mo g a (u_Mo_s z (upd (q_Mo_s z) ((30 + (7 * x1)) + ((q_Mo_s z) (26 + x1).toNatClampNeg)).toNatClampNeg x2))) := hD
            refine lv_aload_n hx hb d_Mo_row_97 rfl (lv_at hl 0 rfl) ?_
            refine va_get (D := D) (ci := 1) (v := .ref (a 1)) (C := R_Mo) (T := F_Mo) (N := 26) hx hb hg i_Mo hown hK hP 0 rfl rfl 1 (by decide) (hg _ g_993) (fun _ h9 => h9) rfl d_Mo_row_98 ?_
            refine lv_bipush (v := 26) hx hb d_Mo_row_101 (by decide) ?_
            refine lv_iload_n hx hb d_Mo_row_103 rfl (lv_at hl 1 rfl) ?_
            refine lv_iadd hx hb d_Mo_row_104 ?_
            refine lv_dup2_11 hx hb d_Mo_row_105 rfl rfl ?_
            obtain ⟨h_10, hd⟩ := ite_s hd
            refine ialdK hx hb hK hP 1 0 rfl rfl (inb_t h_10) rfl d_Mo_row_106 ?_
            refine lv_iconst (v := 1) hx hb d_Mo_row_107 (by decide) ?_
            refine lv_iadd hx hb d_Mo_row_108 ?_
            obtain ⟨h_9, hd⟩ := ite_s hd
            refine iastK hx hb hK hP hD hS 1 0 rfl rfl (inb_t h_9) rfl d_Mo_row_109 (fun H locs hP hD hS => ?_)
            have hP : va_P D classes (ws_Mo g a (u_Mo_s (u_Mo_s z (upd (q_Mo_s z) ((30 + (7 * x1)) + ((q_Mo_s z) (26 + x1).toNatClampNeg)).toNatClampNeg x2)) (upd (q_Mo_s (u_Mo_s z (upd (q_Mo_s z) ((30 + (7 * x1)) + ((q_Mo_s z) (26 + x1).toNatClampNeg)).toNatClampNeg x2))) (26 + x1).toNatClampNeg (((q_Mo_s (u_Mo_s z (upd (q_Mo_s z) ((30 + (7 * x1)) + ((q_Mo_s z) (26 + x1).toNatClampNeg)).toNatClampNeg x2))) (26 + x1).toNatClampNeg) + 1)))) H := hP
            have hD : va_D A (ws_Mo g a (u_Mo_s (u_Mo_s z (upd (q_Mo_s z) ((30 + (7 * x1)) + ((q_Mo_s z) (26 + x1).toNatClampNeg)).toNatClampNeg x2)) (upd (q_Mo_s (u_Mo_s z (upd (q_Mo_s z) ((30 + (7 * x1)) + ((q_Mo_s z) (26 + x1).toNatClampNeg)).toNatClampNeg x2))) (26 + x1).toNatClampNeg (((q_Mo_s (u_Mo_s z (upd (q_Mo_s z) ((30 + (7 * x1)) + ((q_Mo_s z) (26 + x1).toNatClampNeg)).toNatClampNeg x2))) (26 + x1).toNatClampNeg) + 1)))) := hD
            refine lv_aload_n hx hb d_Mo_row_110 rfl (lv_at hl 0 rfl) ?_
            refine va_get (D := D) (ci := 1) (v := .ref (a 1)) (C := R_Mo) (T := F_Mo) (N := 26) hx hb hg i_Mo hown hK hP 0 rfl rfl 1 (by decide) (hg _ g_993) (fun _ h9 => h9) rfl d_Mo_row_111 ?_
            refine lv_bipush (v := 26) hx hb d_Mo_row_114 (by decide) ?_
            refine lv_iload_n hx hb d_Mo_row_116 rfl (lv_at hl 1 rfl) ?_
            refine lv_iadd hx hb d_Mo_row_117 ?_
            obtain ⟨h_8, hd⟩ := ite_s hd
            refine ialdK hx hb hK hP 1 0 rfl rfl (inb_t h_8) rfl d_Mo_row_118 ?_
            obtain rfl := Option.some.inj hd
            exact retI hx hb hr hlk hK hP hD hS d_Mo_row_119 rfl
          · have hd := ite_t hd h_7
            refine lv_bipush (v := (-4)) hx hb d_Mo_row_71 (by decide) ?_
            obtain rfl := Option.some.inj hd
            exact retI hx hb hr hlk hK hP hD hS d_Mo_row_73 rfl
        · have hd := ite_t hd h_6
          refine lv_aload_n hx hb d_Mo_row_45 rfl (lv_at hl 0 rfl) ?_
          refine va_get (D := D) (ci := 1) (v := .ref (a 1)) (C := R_Mo) (T := F_Mo) (N := 26) hx hb hg i_Mo hown hK hP 0 rfl rfl 1 (by decide) (hg _ g_993) (fun _ h9 => h9) rfl d_Mo_row_46 ?_
          refine lv_bipush (v := 26) hx hb d_Mo_row_49 (by decide) ?_
          refine lv_iload_n hx hb d_Mo_row_51 rfl (lv_at hl 1 rfl) ?_
          refine lv_iadd hx hb d_Mo_row_52 ?_
          refine lv_iconst (v := 0) hx hb d_Mo_row_53 (by decide) ?_
          obtain ⟨h_14, hd⟩ := ite_s hd
          refine iastK hx hb hK hP hD hS 1 0 rfl rfl (inb_t h_14) rfl d_Mo_row_54 (fun H locs hP hD hS => ?_)
          have hP : va_P D classes (ws_Mo g a (u_Mo_s z (upd (q_Mo_s z) (26 + x1).toNatClampNeg 0))) H := hP
          have hD : va_D A (ws_Mo g a (u_Mo_s z (upd (q_Mo_s z) (26 + x1).toNatClampNeg 0))) := hD
          refine lv_iconst (v := 0) hx hb d_Mo_row_55 (by decide) ?_
          obtain rfl := Option.some.inj hd
          exact retI hx hb hr hlk hK hP hD hS d_Mo_row_56 rfl
      · have hd := ite_f hd h_5
        refine lv_bipush (v := (-3)) hx hb d_Mo_row_37 (by decide) ?_
        obtain rfl := Option.some.inj hd
        exact retI hx hb hr hlk hK hP hD hS d_Mo_row_39 rfl
    · have hd := ite_f hd h_4
      refine lv_aload_n hx hb d_Mo_row_13 rfl (lv_at hl 0 rfl) ?_
      refine lv_iload_n hx hb d_Mo_row_14 rfl (lv_at hl 2 rfl) ?_
      obtain ⟨v_16, e_17, hd⟩ := bind_s hd
      refine callVI (ws' := ws_Mo g a z) (rest := []) (As := [.int x2]) hx hb hml hown hg hK hP hD hS hA hCs hl.1 (c_Mo_isThing l D g a x2 z _ e_17) o_Mo_isThing g_1183 (ci := 1) (q0 := 0) rfl rfl (List.range' 0 12) (segC1 rfl rfl) (by decide) rfl (segP1 rfl rfl) rfl rfl (Nat.le_of_ble_eq_true rfl) ⟨rfl, rfl, Nat.le_of_ble_eq_true rfl, Nat.le_of_ble_eq_true rfl⟩ d_Mo_row_15 (fun H locs hP hD hS => ?_)
      refine lv_if_ne (tgt := 23) hx hb d_Mo_row_18 (by decide) (fun h_18 => ?_) (fun h_18 => ?_)
      · have hd := ite_f hd h_18
        refine lv_aload_n hx hb d_Mo_row_23 rfl (lv_at hl 0 rfl) ?_
        refine va_get (D := D) (ci := 1) (v := .ref (a 1)) (C := R_Mo) (T := F_Mo) (N := 26) hx hb hg i_Mo hown hK hP 0 rfl rfl 1 (by decide) (hg _ g_993) (fun _ h9 => h9) rfl d_Mo_row_24 ?_
        refine lv_bipush (v := 10) hx hb d_Mo_row_27 (by decide) ?_
        refine lv_iload_n hx hb d_Mo_row_29 rfl (lv_at hl 1 rfl) ?_
        refine lv_iadd hx hb d_Mo_row_30 ?_
        obtain ⟨h_29, hd⟩ := ite_s hd
        refine ialdK hx hb hK hP 1 0 rfl rfl (inb_t h_29) rfl d_Mo_row_31 ?_
        refine lv_bipush (v := 6) hx hb d_Mo_row_32 (by decide) ?_
        refine lv_icmp_eq (tgt := 40) hx hb d_Mo_row_34 (by decide) (fun h_19 => ?_) (fun h_19 => ?_)
        · have hd := ite_t hd h_19
          refine lv_iload_n hx hb d_Mo_row_40 rfl (lv_at hl 2 rfl) ?_
          refine lv_iconst (v := (-1)) hx hb d_Mo_row_41 (by decide) ?_
          refine lv_icmp_ne (tgt := 57) hx hb d_Mo_row_42 (by decide) (fun h_20 => ?_) (fun h_20 => ?_)
          · have hd := ite_f hd h_20
            refine lv_aload_n hx hb d_Mo_row_57 rfl (lv_at hl 0 rfl) ?_
            refine va_get (D := D) (ci := 1) (v := .ref (a 1)) (C := R_Mo) (T := F_Mo) (N := 26) hx hb hg i_Mo hown hK hP 0 rfl rfl 1 (by decide) (hg _ g_993) (fun _ h9 => h9) rfl d_Mo_row_58 ?_
            refine lv_bipush (v := 26) hx hb d_Mo_row_61 (by decide) ?_
            refine lv_iload_n hx hb d_Mo_row_63 rfl (lv_at hl 1 rfl) ?_
            refine lv_iadd hx hb d_Mo_row_64 ?_
            obtain ⟨h_27, hd⟩ := ite_s hd
            refine ialdK hx hb hK hP 1 0 rfl rfl (inb_t h_27) rfl d_Mo_row_65 ?_
            refine lv_bipush (v := 7) hx hb d_Mo_row_66 (by decide) ?_
            refine lv_icmp_ne (tgt := 74) hx hb d_Mo_row_68 (by decide) (fun h_21 => ?_) (fun h_21 => ?_)
            · have hd := ite_f hd h_21
              refine lv_aload_n hx hb d_Mo_row_74 rfl (lv_at hl 0 rfl) ?_
              refine va_get (D := D) (ci := 1) (v := .ref (a 1)) (C := R_Mo) (T := F_Mo) (N := 26) hx hb hg i_Mo hown hK hP 0 rfl rfl 1 (by decide) (hg _ g_993) (fun _ h9 => h9) rfl d_Mo_row_75 ?_
              refine lv_bipush (v := 30) hx hb d_Mo_row_78 (by decide) ?_
              refine lv_bipush (v := 7) hx hb d_Mo_row_80 (by decide) ?_
              refine lv_iload_n hx hb d_Mo_row_82 rfl (lv_at hl 1 rfl) ?_
              refine lv_imul hx hb d_Mo_row_83 ?_
              refine lv_iadd hx hb d_Mo_row_84 ?_
              refine lv_aload_n hx hb d_Mo_row_85 rfl (lv_at hl 0 rfl) ?_
              refine va_get (D := D) (ci := 1) (v := .ref (a 1)) (C := R_Mo) (T := F_Mo) (N := 26) hx hb hg i_Mo hown hK hP 0 rfl rfl 1 (by decide) (hg _ g_993) (fun _ h9 => h9) rfl d_Mo_row_86 ?_
              refine lv_bipush (v := 26) hx hb d_Mo_row_89 (by decide) ?_
              refine lv_iload_n hx hb d_Mo_row_91 rfl (lv_at hl 1 rfl) ?_
              refine lv_iadd hx hb d_Mo_row_92 ?_
              obtain ⟨h_26, hd⟩ := ite_s hd
              refine ialdK hx hb hK hP 1 0 rfl rfl (inb_t h_26) rfl d_Mo_row_93 ?_
              refine lv_iadd hx hb d_Mo_row_94 ?_
              refine lv_iload_n hx hb d_Mo_row_95 rfl (lv_at hl 2 rfl) ?_
              obtain ⟨h_25, hd⟩ := ite_s hd
              refine iastK hx hb hK hP hD hS 1 0 rfl rfl (inb_t h_25) rfl d_Mo_row_96 (fun H locs hP hD hS => ?_)
              have hP : va_P D classes (ws_Mo g a (u_Mo_s z (upd (q_Mo_s z) ((30 + (7 * x1)) + ((q_Mo_s z) (26 + x1).toNatClampNeg)).toNatClampNeg x2))) H := hP
              have hD : va_D A (ws_Mo g a (u_Mo_s z (upd (q_Mo_s z) ((30 + (7 * x1)) + ((q_Mo_s z) (26 + x1).toNatClampNeg)).toNatClampNeg x2))) := hD
              refine lv_aload_n hx hb d_Mo_row_97 rfl (lv_at hl 0 rfl) ?_
              refine va_get (D := D) (ci := 1) (v := .ref (a 1)) (C := R_Mo) (T := F_Mo) (N := 26) hx hb hg i_Mo hown hK hP 0 rfl rfl 1 (by decide) (hg _ g_993) (fun _ h9 => h9) rfl d_Mo_row_98 ?_
              refine lv_bipush (v := 26) hx hb d_Mo_row_101 (by decide) ?_
              refine lv_iload_n hx hb d_Mo_row_103 rfl (lv_at hl 1 rfl) ?_
              refine lv_iadd hx hb d_Mo_row_104 ?_
              refine lv_dup2_11 hx hb d_Mo_row_105 rfl rfl ?_
              obtain ⟨h_24, hd⟩ := ite_s hd
              refine ialdK hx hb hK hP 1 0 rfl rfl (inb_t h_24) rfl d_Mo_row_106 ?_
              refine lv_iconst (v := 1) hx hb d_Mo_row_107 (by decide) ?_
              refine lv_iadd hx hb d_Mo_row_108 ?_
              obtain ⟨h_23, hd⟩ := ite_s hd
              refine iastK hx hb hK hP hD hS 1 0 rfl rfl (inb_t h_23) rfl d_Mo_row_109 (fun H locs hP hD hS => ?_)
              have hP : va_P D classes (ws_Mo g a (u_Mo_s (u_Mo_s z (upd (q_Mo_s z) ((30 + (7 * x1)) + ((q_Mo_s z) (26 + x1).toNatClampNeg)).toNatClampNeg x2)) (upd (q_Mo_s (u_Mo_s z (upd (q_Mo_s z) ((30 + (7 * x1)) + ((q_Mo_s z) (26 + x1).toNatClampNeg)).toNatClampNeg x2))) (26 + x1).toNatClampNeg (((q_Mo_s (u_Mo_s z (upd (q_Mo_s z) ((30 + (7 * x1)) + ((q_Mo_s z) (26 + x1).toNatClampNeg)).toNatClampNeg x2))) (26 + x1).toNatClampNeg) + 1)))) H := hP
              have hD : va_D A (ws_Mo g a (u_Mo_s (u_Mo_s z (upd (q_Mo_s z) ((30 + (7 * x1)) + ((q_Mo_s z) (26 + x1).toNatClampNeg)).toNatClampNeg x2)) (upd (q_Mo_s (u_Mo_s z (upd (q_Mo_s z) ((30 + (7 * x1)) + ((q_Mo_s z) (26 + x1).toNatClampNeg)).toNatClampNeg x2))) (26 + x1).toNatClampNeg (((q_Mo_s (u_Mo_s z (upd (q_Mo_s z) ((30 + (7 * x1)) + ((q_Mo_s z) (26 + x1).toNatClampNeg)).toNatClampNeg x2))) (26 + x1).toNatClampNeg) + 1)))) := hD
              refine lv_aload_n hx hb d_Mo_row_110 rfl (lv_at hl 0 rfl) ?_
              refine va_get (D := D) (ci := 1) (v := .ref (a 1)) (C := R_Mo) (T := F_Mo) (N := 26) hx hb hg i_Mo hown hK hP 0 rfl rfl 1 (by decide) (hg _ g_993) (fun _ h9 => h9) rfl d_Mo_row_111 ?_
              refine lv_bipush (v := 26) hx hb d_Mo_row_114 (by decide) ?_
              refine lv_iload_n hx hb d_Mo_row_116 rfl (lv_at hl 1 rfl) ?_
              refine lv_iadd hx hb d_Mo_row_117 ?_
              obtain ⟨h_22, hd⟩ := ite_s hd
              refine ialdK hx hb hK hP 1 0 rfl rfl (inb_t h_22) rfl d_Mo_row_118 ?_
              obtain rfl := Option.some.inj hd
              exact retI hx hb hr hlk hK hP hD hS d_Mo_row_119 rfl
            · have hd := ite_t hd h_21
              refine lv_bipush (v := (-4)) hx hb d_Mo_row_71 (by decide) ?_
              obtain rfl := Option.some.inj hd
              exact retI hx hb hr hlk hK hP hD hS d_Mo_row_73 rfl
          · have hd := ite_t hd h_20
            refine lv_aload_n hx hb d_Mo_row_45 rfl (lv_at hl 0 rfl) ?_
            refine va_get (D := D) (ci := 1) (v := .ref (a 1)) (C := R_Mo) (T := F_Mo) (N := 26) hx hb hg i_Mo hown hK hP 0 rfl rfl 1 (by decide) (hg _ g_993) (fun _ h9 => h9) rfl d_Mo_row_46 ?_
            refine lv_bipush (v := 26) hx hb d_Mo_row_49 (by decide) ?_
            refine lv_iload_n hx hb d_Mo_row_51 rfl (lv_at hl 1 rfl) ?_
            refine lv_iadd hx hb d_Mo_row_52 ?_
            refine lv_iconst (v := 0) hx hb d_Mo_row_53 (by decide) ?_
            obtain ⟨h_28, hd⟩ := ite_s hd
            refine iastK hx hb hK hP hD hS 1 0 rfl rfl (inb_t h_28) rfl d_Mo_row_54 (fun H locs hP hD hS => ?_)
            have hP : va_P D classes (ws_Mo g a (u_Mo_s z (upd (q_Mo_s z) (26 + x1).toNatClampNeg 0))) H := hP
            have hD : va_D A (ws_Mo g a (u_Mo_s z (upd (q_Mo_s z) (26 + x1).toNatClampNeg 0))) := hD
            refine lv_iconst (v := 0) hx hb d_Mo_row_55 (by decide) ?_
            obtain rfl := Option.some.inj hd
            exact retI hx hb hr hlk hK hP hD hS d_Mo_row_56 rfl
        · have hd := ite_f hd h_19
          refine lv_bipush (v := (-3)) hx hb d_Mo_row_37 (by decide) ?_
          obtain rfl := Option.some.inj hd
          exact retI hx hb hr hlk hK hP hD hS d_Mo_row_39 rfl
      · have hd := ite_t hd h_18
        refine lv_iconst (v := (-1)) hx hb d_Mo_row_21 (by decide) ?_
        obtain rfl := Option.some.inj hd
        exact retI hx hb hr hlk hK hP hD hS d_Mo_row_22 rfl
-- OwnsLiftModel.thing(I)I
def d_Mo_thing (x1 : Int32) (z : T_Mo) : Option (Int32 × T_Mo) :=
  (d_Mo_in x1 0 50).bind fun v_1 => if v_1 = 0 then (some ((-2), z)) else (if ((q_Mo_s z) 1) = 7 then (some ((-4), z)) else (if inb (58 + ((q_Mo_s z) 1)) 901 = true then (if inb (65 + ((q_Mo_s z) 1)) 901 = true then (some ((q_Mo_s z) 1, (u_Mo_s (u_Mo_s (u_Mo_s z (upd (q_Mo_s z) (58 + ((q_Mo_s z) 1)).toNatClampNeg x1)) (upd (q_Mo_s (u_Mo_s z (upd (q_Mo_s z) (58 + ((q_Mo_s z) 1)).toNatClampNeg x1))) (65 + ((q_Mo_s z) 1)).toNatClampNeg 4)) (upd (q_Mo_s (u_Mo_s (u_Mo_s z (upd (q_Mo_s z) (58 + ((q_Mo_s z) 1)).toNatClampNeg x1)) (upd (q_Mo_s (u_Mo_s z (upd (q_Mo_s z) (58 + ((q_Mo_s z) 1)).toNatClampNeg x1))) (65 + ((q_Mo_s z) 1)).toNatClampNeg 4))) 1 (((q_Mo_s (u_Mo_s (u_Mo_s z (upd (q_Mo_s z) (58 + ((q_Mo_s z) 1)).toNatClampNeg x1)) (upd (q_Mo_s (u_Mo_s z (upd (q_Mo_s z) (58 + ((q_Mo_s z) 1)).toNatClampNeg x1))) (65 + ((q_Mo_s z) 1)).toNatClampNeg 4))) 1) + 1))))) else none) else none))
theorem d_Mo_thing_0 : decode b_Mo_thing 0 = .ok (.iload_n 1, 1) := by decide +kernel
theorem d_Mo_thing_1 : decode b_Mo_thing 1 = .ok (.iconst 0, 1) := by decide +kernel
theorem d_Mo_thing_2 : decode b_Mo_thing 2 = .ok (.bipush 50, 2) := by decide +kernel
theorem d_Mo_thing_4 : decode b_Mo_thing 4 = .ok (.invokestatic 50, 3) := by decide +kernel
theorem d_Mo_thing_7 : decode b_Mo_thing 7 = .ok (.ifCond .ne 6, 3) := by decide +kernel
theorem d_Mo_thing_10 : decode b_Mo_thing 10 = .ok (.bipush (-2), 2) := by decide +kernel
theorem d_Mo_thing_12 : decode b_Mo_thing 12 = .ok (.ireturn, 1) := by decide +kernel
theorem d_Mo_thing_13 : decode b_Mo_thing 13 = .ok (.aload_n 0, 1) := by decide +kernel
theorem d_Mo_thing_14 : decode b_Mo_thing 14 = .ok (.getfield 9, 3) := by decide +kernel
theorem d_Mo_thing_17 : decode b_Mo_thing 17 = .ok (.iconst 1, 1) := by decide +kernel
theorem d_Mo_thing_18 : decode b_Mo_thing 18 = .ok (.iaload, 1) := by decide +kernel
theorem d_Mo_thing_19 : decode b_Mo_thing 19 = .ok (.bipush 7, 2) := by decide +kernel
theorem d_Mo_thing_21 : decode b_Mo_thing 21 = .ok (.if_icmp .ne 6, 3) := by decide +kernel
theorem d_Mo_thing_24 : decode b_Mo_thing 24 = .ok (.bipush (-4), 2) := by decide +kernel
theorem d_Mo_thing_26 : decode b_Mo_thing 26 = .ok (.ireturn, 1) := by decide +kernel
theorem d_Mo_thing_27 : decode b_Mo_thing 27 = .ok (.aload_n 0, 1) := by decide +kernel
theorem d_Mo_thing_28 : decode b_Mo_thing 28 = .ok (.getfield 9, 3) := by decide +kernel
theorem d_Mo_thing_31 : decode b_Mo_thing 31 = .ok (.iconst 1, 1) := by decide +kernel
theorem d_Mo_thing_32 : decode b_Mo_thing 32 = .ok (.iaload, 1) := by decide +kernel
theorem d_Mo_thing_33 : decode b_Mo_thing 33 = .ok (.istore_n 2, 1) := by decide +kernel
theorem d_Mo_thing_34 : decode b_Mo_thing 34 = .ok (.aload_n 0, 1) := by decide +kernel
theorem d_Mo_thing_35 : decode b_Mo_thing 35 = .ok (.getfield 9, 3) := by decide +kernel
theorem d_Mo_thing_38 : decode b_Mo_thing 38 = .ok (.bipush 58, 2) := by decide +kernel
theorem d_Mo_thing_40 : decode b_Mo_thing 40 = .ok (.iload_n 2, 1) := by decide +kernel
theorem d_Mo_thing_41 : decode b_Mo_thing 41 = .ok (.iadd, 1) := by decide +kernel
theorem d_Mo_thing_42 : decode b_Mo_thing 42 = .ok (.iload_n 1, 1) := by decide +kernel
theorem d_Mo_thing_43 : decode b_Mo_thing 43 = .ok (.iastore, 1) := by decide +kernel
theorem d_Mo_thing_44 : decode b_Mo_thing 44 = .ok (.aload_n 0, 1) := by decide +kernel
theorem d_Mo_thing_45 : decode b_Mo_thing 45 = .ok (.getfield 9, 3) := by decide +kernel
theorem d_Mo_thing_48 : decode b_Mo_thing 48 = .ok (.bipush 65, 2) := by decide +kernel
theorem d_Mo_thing_50 : decode b_Mo_thing 50 = .ok (.iload_n 2, 1) := by decide +kernel
theorem d_Mo_thing_51 : decode b_Mo_thing 51 = .ok (.iadd, 1) := by decide +kernel
theorem d_Mo_thing_52 : decode b_Mo_thing 52 = .ok (.iconst 4, 1) := by decide +kernel
theorem d_Mo_thing_53 : decode b_Mo_thing 53 = .ok (.iastore, 1) := by decide +kernel
theorem d_Mo_thing_54 : decode b_Mo_thing 54 = .ok (.aload_n 0, 1) := by decide +kernel
theorem d_Mo_thing_55 : decode b_Mo_thing 55 = .ok (.getfield 9, 3) := by decide +kernel
theorem d_Mo_thing_58 : decode b_Mo_thing 58 = .ok (.iconst 1, 1) := by decide +kernel
theorem d_Mo_thing_59 : decode b_Mo_thing 59 = .ok (.dup2, 1) := by decide +kernel
theorem d_Mo_thing_60 : decode b_Mo_thing 60 = .ok (.iaload, 1) := by decide +kernel
theorem d_Mo_thing_61 : decode b_Mo_thing 61 = .ok (.iconst 1, 1) := by decide +kernel
theorem d_Mo_thing_62 : decode b_Mo_thing 62 = .ok (.iadd, 1) := by decide +kernel
theorem d_Mo_thing_63 : decode b_Mo_thing 63 = .ok (.iastore, 1) := by decide +kernel
theorem d_Mo_thing_64 : decode b_Mo_thing 64 = .ok (.iload_n 2, 1) := by decide +kernel
theorem d_Mo_thing_65 : decode b_Mo_thing 65 = .ok (.ireturn, 1) := by decide +kernel
theorem o_Mo_thing : OkV y_Mo_thing "OwnsLiftModel" b_Mo_thing 3 (some .int) 1 := ⟨⟨rfl, by decide +kernel, by decide +kernel, by decide +kernel⟩, g_1188, g_1189, g_81, g_1190⟩
set_option maxHeartbeats 4000000 in
set_option maxRecDepth 100000 in
theorem c_Mo_thing (l : Launch) (D : va_G) (g : Nat → ClassId) (a : Nat → Nat) (x1 : Int32) (z : T_Mo) (v : Int32 × T_Mo) (h : d_Mo_thing x1 z = some v) :
    MI l y_Mo_thing b_Mo_thing 3 .int ({ frames := 1, cells := 0, slots := 0, locals := 22 } : Room) D g [.ref (a 0), .int x1] (ws_Mo g a z) (v.1) (ws_Mo g a v.2) := by
  have hd := h
  unfold d_Mo_thing at hd
  refine enterI rfl (Nat.le_of_ble_eq_true rfl) (fun p e s m below meth c A ls hx hb hml hr hown hg hlk hK hA hP hD hS hCs hl => ?_)
  have hown : s.vm.findClass "OwnsLiftModel" = some m.cls := hown
  have hl : lv_has ls 3 [(0, .ref (a 0)), (1, .int x1)] := hl
  show GI p l e s m ({ frames := 1, cells := 0, slots := 0, locals := 22 } : Room) ([.ref (a 0), .int x1] : List Value).toArray below meth c A D g (ws_Mo g a v.2) (v.1) s.heap [] (F0 m 0 ls [])
  refine lv_iload_n hx hb d_Mo_thing_0 rfl (lv_at hl 1 rfl) ?_
  refine lv_iconst (v := 0) hx hb d_Mo_thing_1 (by decide) ?_
  refine lv_bipush (v := 50) hx hb d_Mo_thing_2 (by decide) ?_
  obtain ⟨v_1, e_2, hd⟩ := bind_s hd
  refine callSI (ws' := ws_Mo g a z) (rest := []) (As := [.int x1, .int 0, .int 50]) hx hb hml hown hg hK hP hD hS hA hCs hl.1 (c_Mo_in l D g  x1 0 50 _ e_2) o_Mo_in g_1076 [] segC0 rfl rfl segP0 rfl rfl (Nat.le_of_ble_eq_true rfl) ⟨rfl, rfl, Nat.le_of_ble_eq_true rfl, Nat.le_of_ble_eq_true rfl⟩ d_Mo_thing_4 (fun H locs hP hD hS => ?_)
  refine lv_if_ne (tgt := 13) hx hb d_Mo_thing_7 (by decide) (fun h_3 => ?_) (fun h_3 => ?_)
  · have hd := ite_f hd h_3
    refine lv_aload_n hx hb d_Mo_thing_13 rfl (lv_at hl 0 rfl) ?_
    refine va_get (D := D) (ci := 1) (v := .ref (a 1)) (C := R_Mo) (T := F_Mo) (N := 26) hx hb hg i_Mo hown hK hP 0 rfl rfl 1 (by decide) (hg _ g_993) (fun _ h9 => h9) rfl d_Mo_thing_14 ?_
    refine lv_iconst (v := 1) hx hb d_Mo_thing_17 (by decide) ?_
    refine ialdK hx hb hK hP 1 0 rfl rfl (inb_t (by decide +kernel)) (k := 1) (by decide +kernel) d_Mo_thing_18 ?_
    refine lv_bipush (v := 7) hx hb d_Mo_thing_19 (by decide) ?_
    refine lv_icmp_ne (tgt := 27) hx hb d_Mo_thing_21 (by decide) (fun h_4 => ?_) (fun h_4 => ?_)
    · have hd := ite_f hd h_4
      refine lv_aload_n hx hb d_Mo_thing_27 rfl (lv_at hl 0 rfl) ?_
      refine va_get (D := D) (ci := 1) (v := .ref (a 1)) (C := R_Mo) (T := F_Mo) (N := 26) hx hb hg i_Mo hown hK hP 0 rfl rfl 1 (by decide) (hg _ g_993) (fun _ h9 => h9) rfl d_Mo_thing_28 ?_
      refine lv_iconst (v := 1) hx hb d_Mo_thing_31 (by decide) ?_
      refine ialdK hx hb hK hP 1 0 rfl rfl (inb_t (by decide +kernel)) (k := 1) (by decide +kernel) d_Mo_thing_32 ?_
      refine lv_istore_n (lv' := [(2, .int ((q_Mo_s z) 1)), (0, .ref (a 0)), (1, .int x1)]) hx hb d_Mo_thing_33 rfl hl (by decide) rfl (fun ls hl => ?_)
      refine lv_aload_n hx hb d_Mo_thing_34 rfl (lv_at hl 1 rfl) ?_
      refine va_get (D := D) (ci := 1) (v := .ref (a 1)) (C := R_Mo) (T := F_Mo) (N := 26) hx hb hg i_Mo hown hK hP 0 rfl rfl 1 (by decide) (hg _ g_993) (fun _ h9 => h9) rfl d_Mo_thing_35 ?_
      refine lv_bipush (v := 58) hx hb d_Mo_thing_38 (by decide) ?_
      refine lv_iload_n hx hb d_Mo_thing_40 rfl (lv_at hl 0 rfl) ?_
      refine lv_iadd hx hb d_Mo_thing_41 ?_
      refine lv_iload_n hx hb d_Mo_thing_42 rfl (lv_at hl 2 rfl) ?_
      obtain ⟨h_6, hd⟩ := ite_s hd
      refine iastK hx hb hK hP hD hS 1 0 rfl rfl (inb_t h_6) rfl d_Mo_thing_43 (fun H locs hP hD hS => ?_)
      have hP : va_P D classes (ws_Mo g a (u_Mo_s z (upd (q_Mo_s z) (58 + ((q_Mo_s z) 1)).toNatClampNeg x1))) H := hP
      have hD : va_D A (ws_Mo g a (u_Mo_s z (upd (q_Mo_s z) (58 + ((q_Mo_s z) 1)).toNatClampNeg x1))) := hD
      refine lv_aload_n hx hb d_Mo_thing_44 rfl (lv_at hl 1 rfl) ?_
      refine va_get (D := D) (ci := 1) (v := .ref (a 1)) (C := R_Mo) (T := F_Mo) (N := 26) hx hb hg i_Mo hown hK hP 0 rfl rfl 1 (by decide) (hg _ g_993) (fun _ h9 => h9) rfl d_Mo_thing_45 ?_
      refine lv_bipush (v := 65) hx hb d_Mo_thing_48 (by decide) ?_
      refine lv_iload_n hx hb d_Mo_thing_50 rfl (lv_at hl 0 rfl) ?_
      refine lv_iadd hx hb d_Mo_thing_51 ?_
      refine lv_iconst (v := 4) hx hb d_Mo_thing_52 (by decide) ?_
      obtain ⟨h_5, hd⟩ := ite_s hd
      refine iastK hx hb hK hP hD hS 1 0 rfl rfl (inb_t h_5) rfl d_Mo_thing_53 (fun H locs hP hD hS => ?_)
      have hP : va_P D classes (ws_Mo g a (u_Mo_s (u_Mo_s z (upd (q_Mo_s z) (58 + ((q_Mo_s z) 1)).toNatClampNeg x1)) (upd (q_Mo_s (u_Mo_s z (upd (q_Mo_s z) (58 + ((q_Mo_s z) 1)).toNatClampNeg x1))) (65 + ((q_Mo_s z) 1)).toNatClampNeg 4))) H := hP
      have hD : va_D A (ws_Mo g a (u_Mo_s (u_Mo_s z (upd (q_Mo_s z) (58 + ((q_Mo_s z) 1)).toNatClampNeg x1)) (upd (q_Mo_s (u_Mo_s z (upd (q_Mo_s z) (58 + ((q_Mo_s z) 1)).toNatClampNeg x1))) (65 + ((q_Mo_s z) 1)).toNatClampNeg 4))) := hD
      refine lv_aload_n hx hb d_Mo_thing_54 rfl (lv_at hl 1 rfl) ?_
      refine va_get (D := D) (ci := 1) (v := .ref (a 1)) (C := R_Mo) (T := F_Mo) (N := 26) hx hb hg i_Mo hown hK hP 0 rfl rfl 1 (by decide) (hg _ g_993) (fun _ h9 => h9) rfl d_Mo_thing_55 ?_
      refine lv_iconst (v := 1) hx hb d_Mo_thing_58 (by decide) ?_
      refine lv_dup2_11 hx hb d_Mo_thing_59 rfl rfl ?_
      refine ialdK hx hb hK hP 1 0 rfl rfl (inb_t (by decide +kernel)) (k := 1) (by decide +kernel) d_Mo_thing_60 ?_
      refine lv_iconst (v := 1) hx hb d_Mo_thing_61 (by decide) ?_
      refine lv_iadd hx hb d_Mo_thing_62 ?_
      refine iastK hx hb hK hP hD hS 1 0 rfl rfl (inb_t (by decide +kernel)) (k := 1) (by decide +kernel) d_Mo_thing_63 (fun H locs hP hD hS => ?_)
      have hP : va_P D classes (ws_Mo g a (u_Mo_s (u_Mo_s (u_Mo_s z (upd (q_Mo_s z) (58 + ((q_Mo_s z) 1)).toNatClampNeg x1)) (upd (q_Mo_s (u_Mo_s z (upd (q_Mo_s z) (58 + ((q_Mo_s z) 1)).toNatClampNeg x1))) (65 + ((q_Mo_s z) 1)).toNatClampNeg 4)) (upd (q_Mo_s (u_Mo_s (u_Mo_s z (upd (q_Mo_s z) (58 + ((q_Mo_s z) 1)).toNatClampNeg x1)) (upd (q_Mo_s (u_Mo_s z (upd (q_Mo_s z) (58 + ((q_Mo_s z) 1)).toNatClampNeg x1))) (65 + ((q_Mo_s z) 1)).toNatClampNeg 4))) 1 (((q_Mo_s (u_Mo_s (u_Mo_s z (upd (q_Mo_s z) (58 + ((q_Mo_s z) 1)).toNatClampNeg x1)) (upd (q_Mo_s (u_Mo_s z (upd (q_Mo_s z) (58 + ((q_Mo_s z) 1)).toNatClampNeg x1))) (65 + ((q_Mo_s z) 1)).toNatClampNeg 4))) 1) + 1)))) H := hP
      have hD : va_D A (ws_Mo g a (u_Mo_s (u_Mo_s (u_Mo_s z (upd (q_Mo_s z) (58 + ((q_Mo_s z) 1)).toNatClampNeg x1)) (upd (q_Mo_s (u_Mo_s z (upd (q_Mo_s z) (58 + ((q_Mo_s z) 1)).toNatClampNeg x1))) (65 + ((q_Mo_s z) 1)).toNatClampNeg 4)) (upd (q_Mo_s (u_Mo_s (u_Mo_s z (upd (q_Mo_s z) (58 + ((q_Mo_s z) 1)).toNatClampNeg x1)) (upd (q_Mo_s (u_Mo_s z (upd (q_Mo_s z) (58 + ((q_Mo_s z) 1)).toNatClampNeg x1))) (65 + ((q_Mo_s z) 1)).toNatClampNeg 4))) 1 (((q_Mo_s (u_Mo_s (u_Mo_s z (upd (q_Mo_s z) (58 + ((q_Mo_s z) 1)).toNatClampNeg x1)) (upd (q_Mo_s (u_Mo_s z (upd (q_Mo_s z) (58 + ((q_Mo_s z) 1)).toNatClampNeg x1))) (65 + ((q_Mo_s z) 1)).toNatClampNeg 4))) 1) + 1)))) := hD
      refine lv_iload_n hx hb d_Mo_thing_64 rfl (lv_at hl 0 rfl) ?_
      obtain rfl := Option.some.inj hd
      exact retI hx hb hr hlk hK hP hD hS d_Mo_thing_65 rfl
    · have hd := ite_t hd h_4
      refine lv_bipush (v := (-4)) hx hb d_Mo_thing_24 (by decide) ?_
      obtain rfl := Option.some.inj hd
      exact retI hx hb hr hlk hK hP hD hS d_Mo_thing_26 rfl
  · have hd := ite_t hd h_3
    refine lv_bipush (v := (-2)) hx hb d_Mo_thing_10 (by decide) ?_
    obtain rfl := Option.some.inj hd
    exact retI hx hb hr hlk hK hP hD hS d_Mo_thing_12 rfl
-- OwnsLiftModel.orNobody(I)I
def d_Mo_orNobody (x0 : Int32) : Option (Int32) :=
  if x0 = 4 then (some ((-5))) else (some (x0))
theorem d_Mo_orNobody_0 : decode b_Mo_orNobody 0 = .ok (.iload_n 0, 1) := by decide +kernel
theorem d_Mo_orNobody_1 : decode b_Mo_orNobody 1 = .ok (.iconst 4, 1) := by decide +kernel
theorem d_Mo_orNobody_2 : decode b_Mo_orNobody 2 = .ok (.if_icmp .ne 8, 3) := by decide +kernel
theorem d_Mo_orNobody_5 : decode b_Mo_orNobody 5 = .ok (.bipush (-5), 2) := by decide +kernel
theorem d_Mo_orNobody_7 : decode b_Mo_orNobody 7 = .ok (.goto 4, 3) := by decide +kernel
theorem d_Mo_orNobody_10 : decode b_Mo_orNobody 10 = .ok (.iload_n 0, 1) := by decide +kernel
theorem d_Mo_orNobody_11 : decode b_Mo_orNobody 11 = .ok (.ireturn, 1) := by decide +kernel
theorem o_Mo_orNobody : OkS y_Mo_orNobody b_Mo_orNobody 1 (some .int) 1 := ⟨⟨by decide +kernel, by decide +kernel, by decide +kernel⟩, g_1196, g_81, g_1197⟩
set_option maxHeartbeats 4000000 in
set_option maxRecDepth 100000 in
theorem c_Mo_orNobody (l : Launch) (D : va_G) (g : Nat → ClassId) (x0 : Int32) (v : Int32) (h : d_Mo_orNobody x0 = some v) :
    MI l y_Mo_orNobody b_Mo_orNobody 1 .int ({ frames := 0, cells := 0, slots := 0, locals := 0 } : Room) D g [.int x0] (([] : va_W)) (v) (([] : va_W)) := by
  have hd := h
  unfold d_Mo_orNobody at hd
  refine enterI rfl (Nat.le_of_ble_eq_true rfl) (fun p e s m below meth c A ls hx hb hml hr hown hg hlk hK hA hP hD hS hCs hl => ?_)
  have hown : s.vm.findClass "OwnsLiftModel" = some m.cls := hown
  have hl : lv_has ls 1 [(0, .int x0)] := hl
  show GI p l e s m ({ frames := 0, cells := 0, slots := 0, locals := 0 } : Room) ([.int x0] : List Value).toArray below meth c A D g (([] : va_W)) (v) s.heap [] (F0 m 0 ls [])
  refine lv_iload_n hx hb d_Mo_orNobody_0 rfl (lv_at hl 0 rfl) ?_
  refine lv_iconst (v := 4) hx hb d_Mo_orNobody_1 (by decide) ?_
  refine lv_icmp_ne (tgt := 10) hx hb d_Mo_orNobody_2 (by decide) (fun h_1 => ?_) (fun h_1 => ?_)
  · have hd := ite_f hd h_1
    refine lv_iload_n hx hb d_Mo_orNobody_10 rfl (lv_at hl 0 rfl) ?_
    obtain rfl := Option.some.inj hd
    exact retI hx hb hr hlk hK hP hD hS d_Mo_orNobody_11 rfl
  · have hd := ite_t hd h_1
    refine lv_bipush (v := (-5)) hx hb d_Mo_orNobody_5 (by decide) ?_
    refine lv_goto (tgt := 11) hx hb d_Mo_orNobody_7 (by decide) ?_
    obtain rfl := Option.some.inj hd
    exact retI hx hb hr hlk hK hP hD hS d_Mo_orNobody_11 rfl
-- OwnsLiftModel.at(II)I
def d_Mo_at (x1 : Int32) (x2 : Int32) (z : T_Mo) : Option (Int32) :=
  (d_Mo_isThing x1 z).bind fun v_1 => if v_1 = 0 then (some ((-1001))) else ((d_Mo_in x2 0 1).bind fun v_4 => if v_4 = 0 then (some ((-1001))) else (if x2 = 0 then (if inb (58 + x1) 901 = true then (some ((q_Mo_s z) (58 + x1).toNatClampNeg)) else none) else (if inb (65 + x1) 901 = true then ((d_Mo_orNobody ((q_Mo_s z) (65 + x1).toNatClampNeg)).bind fun v_8 => some (v_8)) else none)))
theorem d_Mo_at_0 : decode b_Mo_at 0 = .ok (.aload_n 0, 1) := by decide +kernel
theorem d_Mo_at_1 : decode b_Mo_at 1 = .ok (.iload_n 1, 1) := by decide +kernel
theorem d_Mo_at_2 : decode b_Mo_at 2 = .ok (.invokevirtual 160, 3) := by decide +kernel
theorem d_Mo_at_5 : decode b_Mo_at 5 = .ok (.ifCond .eq 12, 3) := by decide +kernel
theorem d_Mo_at_8 : decode b_Mo_at 8 = .ok (.iload_n 2, 1) := by decide +kernel
theorem d_Mo_at_9 : decode b_Mo_at 9 = .ok (.iconst 0, 1) := by decide +kernel
theorem d_Mo_at_10 : decode b_Mo_at 10 = .ok (.iconst 1, 1) := by decide +kernel
theorem d_Mo_at_11 : decode b_Mo_at 11 = .ok (.invokestatic 50, 3) := by decide +kernel
theorem d_Mo_at_14 : decode b_Mo_at 14 = .ok (.ifCond .ne 7, 3) := by decide +kernel
theorem d_Mo_at_17 : decode b_Mo_at 17 = .ok (.sipush (-1001), 3) := by decide +kernel
theorem d_Mo_at_20 : decode b_Mo_at 20 = .ok (.ireturn, 1) := by decide +kernel
theorem d_Mo_at_21 : decode b_Mo_at 21 = .ok (.iload_n 2, 1) := by decide +kernel
theorem d_Mo_at_22 : decode b_Mo_at 22 = .ok (.ifCond .ne 15, 3) := by decide +kernel
theorem d_Mo_at_25 : decode b_Mo_at 25 = .ok (.aload_n 0, 1) := by decide +kernel
theorem d_Mo_at_26 : decode b_Mo_at 26 = .ok (.getfield 9, 3) := by decide +kernel
theorem d_Mo_at_29 : decode b_Mo_at 29 = .ok (.bipush 58, 2) := by decide +kernel
theorem d_Mo_at_31 : decode b_Mo_at 31 = .ok (.iload_n 1, 1) := by decide +kernel
theorem d_Mo_at_32 : decode b_Mo_at 32 = .ok (.iadd, 1) := by decide +kernel
theorem d_Mo_at_33 : decode b_Mo_at 33 = .ok (.iaload, 1) := by decide +kernel
theorem d_Mo_at_34 : decode b_Mo_at 34 = .ok (.goto 15, 3) := by decide +kernel
theorem d_Mo_at_37 : decode b_Mo_at 37 = .ok (.aload_n 0, 1) := by decide +kernel
theorem d_Mo_at_38 : decode b_Mo_at 38 = .ok (.getfield 9, 3) := by decide +kernel
theorem d_Mo_at_41 : decode b_Mo_at 41 = .ok (.bipush 65, 2) := by decide +kernel
theorem d_Mo_at_43 : decode b_Mo_at 43 = .ok (.iload_n 1, 1) := by decide +kernel
theorem d_Mo_at_44 : decode b_Mo_at 44 = .ok (.iadd, 1) := by decide +kernel
theorem d_Mo_at_45 : decode b_Mo_at 45 = .ok (.iaload, 1) := by decide +kernel
theorem d_Mo_at_46 : decode b_Mo_at 46 = .ok (.invokestatic 163, 3) := by decide +kernel
theorem d_Mo_at_49 : decode b_Mo_at 49 = .ok (.ireturn, 1) := by decide +kernel
theorem o_Mo_at : OkV y_Mo_at "OwnsLiftModel" b_Mo_at 3 (some .int) 2 := ⟨⟨rfl, by decide +kernel, by decide +kernel, by decide +kernel⟩, g_1192, g_1193, g_81, g_1194⟩
set_option maxHeartbeats 4000000 in
set_option maxRecDepth 100000 in
theorem c_Mo_at (l : Launch) (D : va_G) (g : Nat → ClassId) (a : Nat → Nat) (x1 : Int32) (x2 : Int32) (z : T_Mo) (v : Int32) (h : d_Mo_at x1 x2 z = some v) :
    MI l y_Mo_at b_Mo_at 3 .int ({ frames := 2, cells := 0, slots := 0, locals := 43 } : Room) D g [.ref (a 0), .int x1, .int x2] (ws_Mo g a z) (v) (ws_Mo g a z) := by
  have hd := h
  unfold d_Mo_at at hd
  refine enterI rfl (Nat.le_of_ble_eq_true rfl) (fun p e s m below meth c A ls hx hb hml hr hown hg hlk hK hA hP hD hS hCs hl => ?_)
  have hown : s.vm.findClass "OwnsLiftModel" = some m.cls := hown
  have hl : lv_has ls 3 [(0, .ref (a 0)), (1, .int x1), (2, .int x2)] := hl
  show GI p l e s m ({ frames := 2, cells := 0, slots := 0, locals := 43 } : Room) ([.ref (a 0), .int x1, .int x2] : List Value).toArray below meth c A D g (ws_Mo g a z) (v) s.heap [] (F0 m 0 ls [])
  refine lv_aload_n hx hb d_Mo_at_0 rfl (lv_at hl 0 rfl) ?_
  refine lv_iload_n hx hb d_Mo_at_1 rfl (lv_at hl 1 rfl) ?_
  obtain ⟨v_1, e_2, hd⟩ := bind_s hd
  refine callVI (ws' := ws_Mo g a z) (rest := []) (As := [.int x1]) hx hb hml hown hg hK hP hD hS hA hCs hl.1 (c_Mo_isThing l D g a x1 z _ e_2) o_Mo_isThing g_1183 (ci := 1) (q0 := 0) rfl rfl (List.range' 0 12) (segC1 rfl rfl) (by decide) rfl (segP1 rfl rfl) rfl rfl (Nat.le_of_ble_eq_true rfl) ⟨rfl, rfl, Nat.le_of_ble_eq_true rfl, Nat.le_of_ble_eq_true rfl⟩ d_Mo_at_2 (fun H locs hP hD hS => ?_)
  refine lv_if_eq (tgt := 17) hx hb d_Mo_at_5 (by decide) (fun h_3 => ?_) (fun h_3 => ?_)
  · have hd := ite_t hd h_3
    refine lv_sipush (v := (-1001)) hx hb d_Mo_at_17 (by decide) ?_
    obtain rfl := Option.some.inj hd
    exact retI hx hb hr hlk hK hP hD hS d_Mo_at_20 rfl
  · have hd := ite_f hd h_3
    refine lv_iload_n hx hb d_Mo_at_8 rfl (lv_at hl 2 rfl) ?_
    refine lv_iconst (v := 0) hx hb d_Mo_at_9 (by decide) ?_
    refine lv_iconst (v := 1) hx hb d_Mo_at_10 (by decide) ?_
    obtain ⟨v_4, e_5, hd⟩ := bind_s hd
    refine callSI (ws' := ws_Mo g a z) (rest := []) (As := [.int x2, .int 0, .int 1]) hx hb hml hown hg hK hP hD hS hA hCs hl.1 (c_Mo_in l D g  x2 0 1 _ e_5) o_Mo_in g_1076 [] segC0 rfl rfl segP0 rfl rfl (Nat.le_of_ble_eq_true rfl) ⟨rfl, rfl, Nat.le_of_ble_eq_true rfl, Nat.le_of_ble_eq_true rfl⟩ d_Mo_at_11 (fun H locs hP hD hS => ?_)
    refine lv_if_ne (tgt := 21) hx hb d_Mo_at_14 (by decide) (fun h_6 => ?_) (fun h_6 => ?_)
    · have hd := ite_f hd h_6
      refine lv_iload_n hx hb d_Mo_at_21 rfl (lv_at hl 2 rfl) ?_
      refine lv_if_ne (tgt := 37) hx hb d_Mo_at_22 (by decide) (fun h_7 => ?_) (fun h_7 => ?_)
      · have hd := ite_f hd h_7
        refine lv_aload_n hx hb d_Mo_at_37 rfl (lv_at hl 0 rfl) ?_
        refine va_get (D := D) (ci := 1) (v := .ref (a 1)) (C := R_Mo) (T := F_Mo) (N := 26) hx hb hg i_Mo hown hK hP 0 rfl rfl 1 (by decide) (hg _ g_993) (fun _ h9 => h9) rfl d_Mo_at_38 ?_
        refine lv_bipush (v := 65) hx hb d_Mo_at_41 (by decide) ?_
        refine lv_iload_n hx hb d_Mo_at_43 rfl (lv_at hl 1 rfl) ?_
        refine lv_iadd hx hb d_Mo_at_44 ?_
        obtain ⟨h_10, hd⟩ := ite_s hd
        refine ialdK hx hb hK hP 1 0 rfl rfl (inb_t h_10) rfl d_Mo_at_45 ?_
        obtain ⟨v_8, e_9, hd⟩ := bind_s hd
        refine callSI (ws' := ws_Mo g a z) (rest := []) (As := [.int ((q_Mo_s z) (65 + x1).toNatClampNeg)]) hx hb hml hown hg hK hP hD hS hA hCs hl.1 (c_Mo_orNobody l D g  ((q_Mo_s z) (65 + x1).toNatClampNeg) _ e_9) o_Mo_orNobody g_1195 [] segC0 rfl rfl segP0 rfl rfl (Nat.le_of_ble_eq_true rfl) ⟨rfl, rfl, Nat.le_of_ble_eq_true rfl, Nat.le_of_ble_eq_true rfl⟩ d_Mo_at_46 (fun H locs hP hD hS => ?_)
        obtain rfl := Option.some.inj hd
        exact retI hx hb hr hlk hK hP hD hS d_Mo_at_49 rfl
      · have hd := ite_t hd h_7
        refine lv_aload_n hx hb d_Mo_at_25 rfl (lv_at hl 0 rfl) ?_
        refine va_get (D := D) (ci := 1) (v := .ref (a 1)) (C := R_Mo) (T := F_Mo) (N := 26) hx hb hg i_Mo hown hK hP 0 rfl rfl 1 (by decide) (hg _ g_993) (fun _ h9 => h9) rfl d_Mo_at_26 ?_
        refine lv_bipush (v := 58) hx hb d_Mo_at_29 (by decide) ?_
        refine lv_iload_n hx hb d_Mo_at_31 rfl (lv_at hl 1 rfl) ?_
        refine lv_iadd hx hb d_Mo_at_32 ?_
        obtain ⟨h_11, hd⟩ := ite_s hd
        refine ialdK hx hb hK hP 1 0 rfl rfl (inb_t h_11) rfl d_Mo_at_33 ?_
        refine lv_goto (tgt := 49) hx hb d_Mo_at_34 (by decide) ?_
        obtain rfl := Option.some.inj hd
        exact retI hx hb hr hlk hK hP hD hS d_Mo_at_49 rfl
    · have hd := ite_t hd h_6
      refine lv_sipush (v := (-1001)) hx hb d_Mo_at_17 (by decide) ?_
      obtain rfl := Option.some.inj hd
      exact retI hx hb hr hlk hK hP hD hS d_Mo_at_20 rfl
-- OwnsLiftModel.give(II)I
def d_Mo_give (x1 : Int32) (x2 : Int32) (z : T_Mo) : Option (Int32 × T_Mo) :=
  (d_Mo_isThing x1 z).bind fun v_1 => if v_1 = 0 then (some ((-1001), z)) else (if x2 = (-1) then (if inb (65 + x1) 901 = true then (if x2 = (-1) then (if inb (65 + x1) 901 = true then ((d_Mo_orNobody ((q_Mo_s z) (65 + x1).toNatClampNeg)).bind fun v_9 => some (v_9, (u_Mo_s z (upd (q_Mo_s z) (65 + x1).toNatClampNeg 4)))) else none) else (if inb (65 + x1) 901 = true then ((d_Mo_orNobody ((q_Mo_s z) (65 + x1).toNatClampNeg)).bind fun v_6 => some (v_6, (u_Mo_s z (upd (q_Mo_s z) (65 + x1).toNatClampNeg x2)))) else none)) else none) else ((d_Mo_isPerson x2 z).bind fun v_13 => if v_13 = 0 then (some ((-1001), z)) else (if inb (65 + x1) 901 = true then (if x2 = (-1) then (if inb (65 + x1) 901 = true then ((d_Mo_orNobody ((q_Mo_s z) (65 + x1).toNatClampNeg)).bind fun v_20 => some (v_20, (u_Mo_s z (upd (q_Mo_s z) (65 + x1).toNatClampNeg 4)))) else none) else (if inb (65 + x1) 901 = true then ((d_Mo_orNobody ((q_Mo_s z) (65 + x1).toNatClampNeg)).bind fun v_17 => some (v_17, (u_Mo_s z (upd (q_Mo_s z) (65 + x1).toNatClampNeg x2)))) else none)) else none)))
theorem d_Mo_give_0 : decode b_Mo_give 0 = .ok (.aload_n 0, 1) := by decide +kernel
theorem d_Mo_give_1 : decode b_Mo_give 1 = .ok (.iload_n 1, 1) := by decide +kernel
theorem d_Mo_give_2 : decode b_Mo_give 2 = .ok (.invokevirtual 160, 3) := by decide +kernel
theorem d_Mo_give_5 : decode b_Mo_give 5 = .ok (.ifCond .eq 16, 3) := by decide +kernel
theorem d_Mo_give_8 : decode b_Mo_give 8 = .ok (.iload_n 2, 1) := by decide +kernel
theorem d_Mo_give_9 : decode b_Mo_give 9 = .ok (.iconst (-1), 1) := by decide +kernel
theorem d_Mo_give_10 : decode b_Mo_give 10 = .ok (.if_icmp .eq 15, 3) := by decide +kernel
theorem d_Mo_give_13 : decode b_Mo_give 13 = .ok (.aload_n 0, 1) := by decide +kernel
theorem d_Mo_give_14 : decode b_Mo_give 14 = .ok (.iload_n 2, 1) := by decide +kernel
theorem d_Mo_give_15 : decode b_Mo_give 15 = .ok (.invokevirtual 147, 3) := by decide +kernel
theorem d_Mo_give_18 : decode b_Mo_give 18 = .ok (.ifCond .ne 7, 3) := by decide +kernel
theorem d_Mo_give_21 : decode b_Mo_give 21 = .ok (.sipush (-1001), 3) := by decide +kernel
theorem d_Mo_give_24 : decode b_Mo_give 24 = .ok (.ireturn, 1) := by decide +kernel
theorem d_Mo_give_25 : decode b_Mo_give 25 = .ok (.aload_n 0, 1) := by decide +kernel
theorem d_Mo_give_26 : decode b_Mo_give 26 = .ok (.getfield 9, 3) := by decide +kernel
theorem d_Mo_give_29 : decode b_Mo_give 29 = .ok (.bipush 65, 2) := by decide +kernel
theorem d_Mo_give_31 : decode b_Mo_give 31 = .ok (.iload_n 1, 1) := by decide +kernel
theorem d_Mo_give_32 : decode b_Mo_give 32 = .ok (.iadd, 1) := by decide +kernel
theorem d_Mo_give_33 : decode b_Mo_give 33 = .ok (.iaload, 1) := by decide +kernel
theorem d_Mo_give_34 : decode b_Mo_give 34 = .ok (.istore_n 3, 1) := by decide +kernel
theorem d_Mo_give_35 : decode b_Mo_give 35 = .ok (.aload_n 0, 1) := by decide +kernel
theorem d_Mo_give_36 : decode b_Mo_give 36 = .ok (.getfield 9, 3) := by decide +kernel
theorem d_Mo_give_39 : decode b_Mo_give 39 = .ok (.bipush 65, 2) := by decide +kernel
theorem d_Mo_give_41 : decode b_Mo_give 41 = .ok (.iload_n 1, 1) := by decide +kernel
theorem d_Mo_give_42 : decode b_Mo_give 42 = .ok (.iadd, 1) := by decide +kernel
theorem d_Mo_give_43 : decode b_Mo_give 43 = .ok (.iload_n 2, 1) := by decide +kernel
theorem d_Mo_give_44 : decode b_Mo_give 44 = .ok (.iconst (-1), 1) := by decide +kernel
theorem d_Mo_give_45 : decode b_Mo_give 45 = .ok (.if_icmp .ne 7, 3) := by decide +kernel
theorem d_Mo_give_48 : decode b_Mo_give 48 = .ok (.iconst 4, 1) := by decide +kernel
theorem d_Mo_give_49 : decode b_Mo_give 49 = .ok (.goto 4, 3) := by decide +kernel
theorem d_Mo_give_52 : decode b_Mo_give 52 = .ok (.iload_n 2, 1) := by decide +kernel
theorem d_Mo_give_53 : decode b_Mo_give 53 = .ok (.iastore, 1) := by decide +kernel
theorem d_Mo_give_54 : decode b_Mo_give 54 = .ok (.iload_n 3, 1) := by decide +kernel
theorem d_Mo_give_55 : decode b_Mo_give 55 = .ok (.invokestatic 163, 3) := by decide +kernel
theorem d_Mo_give_58 : decode b_Mo_give 58 = .ok (.ireturn, 1) := by decide +kernel
theorem o_Mo_give : OkV y_Mo_give "OwnsLiftModel" b_Mo_give 4 (some .int) 2 := ⟨⟨rfl, by decide +kernel, by decide +kernel, by decide +kernel⟩, g_1199, g_1200, g_81, g_1201⟩
set_option maxHeartbeats 4000000 in
set_option maxRecDepth 100000 in
theorem c_Mo_give (l : Launch) (D : va_G) (g : Nat → ClassId) (a : Nat → Nat) (x1 : Int32) (x2 : Int32) (z : T_Mo) (v : Int32 × T_Mo) (h : d_Mo_give x1 x2 z = some v) :
    MI l y_Mo_give b_Mo_give 4 .int ({ frames := 2, cells := 0, slots := 0, locals := 43 } : Room) D g [.ref (a 0), .int x1, .int x2] (ws_Mo g a z) (v.1) (ws_Mo g a v.2) := by
  have hd := h
  unfold d_Mo_give at hd
  refine enterI rfl (Nat.le_of_ble_eq_true rfl) (fun p e s m below meth c A ls hx hb hml hr hown hg hlk hK hA hP hD hS hCs hl => ?_)
  have hown : s.vm.findClass "OwnsLiftModel" = some m.cls := hown
  have hl : lv_has ls 4 [(0, .ref (a 0)), (1, .int x1), (2, .int x2)] := hl
  show GI p l e s m ({ frames := 2, cells := 0, slots := 0, locals := 43 } : Room) ([.ref (a 0), .int x1, .int x2] : List Value).toArray below meth c A D g (ws_Mo g a v.2) (v.1) s.heap [] (F0 m 0 ls [])
  refine lv_aload_n hx hb d_Mo_give_0 rfl (lv_at hl 0 rfl) ?_
  refine lv_iload_n hx hb d_Mo_give_1 rfl (lv_at hl 1 rfl) ?_
  obtain ⟨v_1, e_2, hd⟩ := bind_s hd
  refine callVI (ws' := ws_Mo g a z) (rest := []) (As := [.int x1]) hx hb hml hown hg hK hP hD hS hA hCs hl.1 (c_Mo_isThing l D g a x1 z _ e_2) o_Mo_isThing g_1183 (ci := 1) (q0 := 0) rfl rfl (List.range' 0 12) (segC1 rfl rfl) (by decide) rfl (segP1 rfl rfl) rfl rfl (Nat.le_of_ble_eq_true rfl) ⟨rfl, rfl, Nat.le_of_ble_eq_true rfl, Nat.le_of_ble_eq_true rfl⟩ d_Mo_give_2 (fun H locs hP hD hS => ?_)
  refine lv_if_eq (tgt := 21) hx hb d_Mo_give_5 (by decide) (fun h_3 => ?_) (fun h_3 => ?_)
  · have hd := ite_t hd h_3
    refine lv_sipush (v := (-1001)) hx hb d_Mo_give_21 (by decide) ?_
    obtain rfl := Option.some.inj hd
    exact retI hx hb hr hlk hK hP hD hS d_Mo_give_24 rfl
  · have hd := ite_f hd h_3
    refine lv_iload_n hx hb d_Mo_give_8 rfl (lv_at hl 2 rfl) ?_
    refine lv_iconst (v := (-1)) hx hb d_Mo_give_9 (by decide) ?_
    refine lv_icmp_eq (tgt := 25) hx hb d_Mo_give_10 (by decide) (fun h_4 => ?_) (fun h_4 => ?_)
    · have hd := ite_t hd h_4
      refine lv_aload_n hx hb d_Mo_give_25 rfl (lv_at hl 0 rfl) ?_
      refine va_get (D := D) (ci := 1) (v := .ref (a 1)) (C := R_Mo) (T := F_Mo) (N := 26) hx hb hg i_Mo hown hK hP 0 rfl rfl 1 (by decide) (hg _ g_993) (fun _ h9 => h9) rfl d_Mo_give_26 ?_
      refine lv_bipush (v := 65) hx hb d_Mo_give_29 (by decide) ?_
      refine lv_iload_n hx hb d_Mo_give_31 rfl (lv_at hl 1 rfl) ?_
      refine lv_iadd hx hb d_Mo_give_32 ?_
      obtain ⟨h_12, hd⟩ := ite_s hd
      refine ialdK hx hb hK hP 1 0 rfl rfl (inb_t h_12) rfl d_Mo_give_33 ?_
      refine lv_istore_n (lv' := [(3, .int ((q_Mo_s z) (65 + x1).toNatClampNeg)), (0, .ref (a 0)), (1, .int x1), (2, .int x2)]) hx hb d_Mo_give_34 rfl hl (by decide) rfl (fun ls hl => ?_)
      refine lv_aload_n hx hb d_Mo_give_35 rfl (lv_at hl 1 rfl) ?_
      refine va_get (D := D) (ci := 1) (v := .ref (a 1)) (C := R_Mo) (T := F_Mo) (N := 26) hx hb hg i_Mo hown hK hP 0 rfl rfl 1 (by decide) (hg _ g_993) (fun _ h9 => h9) rfl d_Mo_give_36 ?_
      refine lv_bipush (v := 65) hx hb d_Mo_give_39 (by decide) ?_
      refine lv_iload_n hx hb d_Mo_give_41 rfl (lv_at hl 2 rfl) ?_
      refine lv_iadd hx hb d_Mo_give_42 ?_
      refine lv_iload_n hx hb d_Mo_give_43 rfl (lv_at hl 3 rfl) ?_
      refine lv_iconst (v := (-1)) hx hb d_Mo_give_44 (by decide) ?_
      refine lv_icmp_ne (tgt := 52) hx hb d_Mo_give_45 (by decide) (fun h_5 => ?_) (fun h_5 => ?_)
      · have hd := ite_f hd h_5
        refine lv_iload_n hx hb d_Mo_give_52 rfl (lv_at hl 3 rfl) ?_
        obtain ⟨h_8, hd⟩ := ite_s hd
        refine iastK hx hb hK hP hD hS 1 0 rfl rfl (inb_t h_8) rfl d_Mo_give_53 (fun H locs hP hD hS => ?_)
        have hP : va_P D classes (ws_Mo g a (u_Mo_s z (upd (q_Mo_s z) (65 + x1).toNatClampNeg x2))) H := hP
        have hD : va_D A (ws_Mo g a (u_Mo_s z (upd (q_Mo_s z) (65 + x1).toNatClampNeg x2))) := hD
        refine lv_iload_n hx hb d_Mo_give_54 rfl (lv_at hl 0 rfl) ?_
        obtain ⟨v_6, e_7, hd⟩ := bind_s hd
        refine callSI (ws' := ws_Mo g a (u_Mo_s z (upd (q_Mo_s z) (65 + x1).toNatClampNeg x2))) (rest := []) (As := [.int ((q_Mo_s z) (65 + x1).toNatClampNeg)]) hx hb hml hown hg hK hP hD hS hA hCs hl.1 (c_Mo_orNobody l D g  ((q_Mo_s z) (65 + x1).toNatClampNeg) _ e_7) o_Mo_orNobody g_1195 [] segC0 rfl rfl segP0 rfl rfl (Nat.le_of_ble_eq_true rfl) ⟨rfl, rfl, Nat.le_of_ble_eq_true rfl, Nat.le_of_ble_eq_true rfl⟩ d_Mo_give_55 (fun H locs hP hD hS => ?_)
        obtain rfl := Option.some.inj hd
        exact retI hx hb hr hlk hK hP hD hS d_Mo_give_58 rfl
      · have hd := ite_t hd h_5
        refine lv_iconst (v := 4) hx hb d_Mo_give_48 (by decide) ?_
        refine lv_goto (tgt := 53) hx hb d_Mo_give_49 (by decide) ?_
        obtain ⟨h_11, hd⟩ := ite_s hd
        refine iastK hx hb hK hP hD hS 1 0 rfl rfl (inb_t h_11) rfl d_Mo_give_53 (fun H locs hP hD hS => ?_)
        have hP : va_P D classes (ws_Mo g a (u_Mo_s z (upd (q_Mo_s z) (65 + x1).toNatClampNeg 4))) H := hP
        have hD : va_D A (ws_Mo g a (u_Mo_s z (upd (q_Mo_s z) (65 + x1).toNatClampNeg 4))) := hD
        refine lv_iload_n hx hb d_Mo_give_54 rfl (lv_at hl 0 rfl) ?_
        obtain ⟨v_9, e_10, hd⟩ := bind_s hd
        refine callSI (ws' := ws_Mo g a (u_Mo_s z (upd (q_Mo_s z) (65 + x1).toNatClampNeg 4))) (rest := []) (As := [.int ((q_Mo_s z) (65 + x1).toNatClampNeg)]) hx hb hml hown hg hK hP hD hS hA hCs hl.1 (c_Mo_orNobody l D g  ((q_Mo_s z) (65 + x1).toNatClampNeg) _ e_10) o_Mo_orNobody g_1195 [] segC0 rfl rfl segP0 rfl rfl (Nat.le_of_ble_eq_true rfl) ⟨rfl, rfl, Nat.le_of_ble_eq_true rfl, Nat.le_of_ble_eq_true rfl⟩ d_Mo_give_55 (fun H locs hP hD hS => ?_)
        obtain rfl := Option.some.inj hd
        exact retI hx hb hr hlk hK hP hD hS d_Mo_give_58 rfl
    · have hd := ite_f hd h_4
      refine lv_aload_n hx hb d_Mo_give_13 rfl (lv_at hl 0 rfl) ?_
      refine lv_iload_n hx hb d_Mo_give_14 rfl (lv_at hl 2 rfl) ?_
      obtain ⟨v_13, e_14, hd⟩ := bind_s hd
      refine callVI (ws' := ws_Mo g a z) (rest := []) (As := [.int x2]) hx hb hml hown hg hK hP hD hS hA hCs hl.1 (c_Mo_isPerson l D g a x2 z _ e_14) o_Mo_isPerson g_1147 (ci := 1) (q0 := 0) rfl rfl (List.range' 0 12) (segC1 rfl rfl) (by decide) rfl (segP1 rfl rfl) rfl rfl (Nat.le_of_ble_eq_true rfl) ⟨rfl, rfl, Nat.le_of_ble_eq_true rfl, Nat.le_of_ble_eq_true rfl⟩ d_Mo_give_15 (fun H locs hP hD hS => ?_)
      refine lv_if_ne (tgt := 25) hx hb d_Mo_give_18 (by decide) (fun h_15 => ?_) (fun h_15 => ?_)
      · have hd := ite_f hd h_15
        refine lv_aload_n hx hb d_Mo_give_25 rfl (lv_at hl 0 rfl) ?_
        refine va_get (D := D) (ci := 1) (v := .ref (a 1)) (C := R_Mo) (T := F_Mo) (N := 26) hx hb hg i_Mo hown hK hP 0 rfl rfl 1 (by decide) (hg _ g_993) (fun _ h9 => h9) rfl d_Mo_give_26 ?_
        refine lv_bipush (v := 65) hx hb d_Mo_give_29 (by decide) ?_
        refine lv_iload_n hx hb d_Mo_give_31 rfl (lv_at hl 1 rfl) ?_
        refine lv_iadd hx hb d_Mo_give_32 ?_
        obtain ⟨h_23, hd⟩ := ite_s hd
        refine ialdK hx hb hK hP 1 0 rfl rfl (inb_t h_23) rfl d_Mo_give_33 ?_
        refine lv_istore_n (lv' := [(3, .int ((q_Mo_s z) (65 + x1).toNatClampNeg)), (0, .ref (a 0)), (1, .int x1), (2, .int x2)]) hx hb d_Mo_give_34 rfl hl (by decide) rfl (fun ls hl => ?_)
        refine lv_aload_n hx hb d_Mo_give_35 rfl (lv_at hl 1 rfl) ?_
        refine va_get (D := D) (ci := 1) (v := .ref (a 1)) (C := R_Mo) (T := F_Mo) (N := 26) hx hb hg i_Mo hown hK hP 0 rfl rfl 1 (by decide) (hg _ g_993) (fun _ h9 => h9) rfl d_Mo_give_36 ?_
        refine lv_bipush (v := 65) hx hb d_Mo_give_39 (by decide) ?_
        refine lv_iload_n hx hb d_Mo_give_41 rfl (lv_at hl 2 rfl) ?_
        refine lv_iadd hx hb d_Mo_give_42 ?_
        refine lv_iload_n hx hb d_Mo_give_43 rfl (lv_at hl 3 rfl) ?_
        refine lv_iconst (v := (-1)) hx hb d_Mo_give_44 (by decide) ?_
        refine lv_icmp_ne (tgt := 52) hx hb d_Mo_give_45 (by decide) (fun h_16 => ?_) (fun h_16 => ?_)
        · have hd := ite_f hd h_16
          refine lv_iload_n hx hb d_Mo_give_52 rfl (lv_at hl 3 rfl) ?_
          obtain ⟨h_19, hd⟩ := ite_s hd
          refine iastK hx hb hK hP hD hS 1 0 rfl rfl (inb_t h_19) rfl d_Mo_give_53 (fun H locs hP hD hS => ?_)
          have hP : va_P D classes (ws_Mo g a (u_Mo_s z (upd (q_Mo_s z) (65 + x1).toNatClampNeg x2))) H := hP
          have hD : va_D A (ws_Mo g a (u_Mo_s z (upd (q_Mo_s z) (65 + x1).toNatClampNeg x2))) := hD
          refine lv_iload_n hx hb d_Mo_give_54 rfl (lv_at hl 0 rfl) ?_
          obtain ⟨v_17, e_18, hd⟩ := bind_s hd
          refine callSI (ws' := ws_Mo g a (u_Mo_s z (upd (q_Mo_s z) (65 + x1).toNatClampNeg x2))) (rest := []) (As := [.int ((q_Mo_s z) (65 + x1).toNatClampNeg)]) hx hb hml hown hg hK hP hD hS hA hCs hl.1 (c_Mo_orNobody l D g  ((q_Mo_s z) (65 + x1).toNatClampNeg) _ e_18) o_Mo_orNobody g_1195 [] segC0 rfl rfl segP0 rfl rfl (Nat.le_of_ble_eq_true rfl) ⟨rfl, rfl, Nat.le_of_ble_eq_true rfl, Nat.le_of_ble_eq_true rfl⟩ d_Mo_give_55 (fun H locs hP hD hS => ?_)
          obtain rfl := Option.some.inj hd
          exact retI hx hb hr hlk hK hP hD hS d_Mo_give_58 rfl
        · have hd := ite_t hd h_16
          refine lv_iconst (v := 4) hx hb d_Mo_give_48 (by decide) ?_
          refine lv_goto (tgt := 53) hx hb d_Mo_give_49 (by decide) ?_
          obtain ⟨h_22, hd⟩ := ite_s hd
          refine iastK hx hb hK hP hD hS 1 0 rfl rfl (inb_t h_22) rfl d_Mo_give_53 (fun H locs hP hD hS => ?_)
          have hP : va_P D classes (ws_Mo g a (u_Mo_s z (upd (q_Mo_s z) (65 + x1).toNatClampNeg 4))) H := hP
          have hD : va_D A (ws_Mo g a (u_Mo_s z (upd (q_Mo_s z) (65 + x1).toNatClampNeg 4))) := hD
          refine lv_iload_n hx hb d_Mo_give_54 rfl (lv_at hl 0 rfl) ?_
          obtain ⟨v_20, e_21, hd⟩ := bind_s hd
          refine callSI (ws' := ws_Mo g a (u_Mo_s z (upd (q_Mo_s z) (65 + x1).toNatClampNeg 4))) (rest := []) (As := [.int ((q_Mo_s z) (65 + x1).toNatClampNeg)]) hx hb hml hown hg hK hP hD hS hA hCs hl.1 (c_Mo_orNobody l D g  ((q_Mo_s z) (65 + x1).toNatClampNeg) _ e_21) o_Mo_orNobody g_1195 [] segC0 rfl rfl segP0 rfl rfl (Nat.le_of_ble_eq_true rfl) ⟨rfl, rfl, Nat.le_of_ble_eq_true rfl, Nat.le_of_ble_eq_true rfl⟩ d_Mo_give_55 (fun H locs hP hD hS => ?_)
          obtain rfl := Option.some.inj hd
          exact retI hx hb hr hlk hK hP hD hS d_Mo_give_58 rfl
      · have hd := ite_t hd h_15
        refine lv_sipush (v := (-1001)) hx hb d_Mo_give_21 (by decide) ?_
        obtain rfl := Option.some.inj hd
        exact retI hx hb hr hlk hK hP hD hS d_Mo_give_24 rfl

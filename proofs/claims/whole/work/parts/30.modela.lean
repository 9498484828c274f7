-- OwnsLiftModel.in(III)Z
def d_Mo_in (x0 : Int32) (x1 : Int32) (x2 : Int32) : Option (Int32) :=
  if x0 < x1 then (some (0)) else (if x2 < x0 then (some (0)) else (some (1)))
theorem nz_Mo_in {x0 : Int32} {x1 : Int32} {x2 : Int32} {v : Int32} (h : d_Mo_in x0 x1 x2 = some v) : narrow .boolean (.int v) = .int v := by
  unfold d_Mo_in at h
  (repeat' split at h) <;> first | (cases h; done) | (obtain rfl := Option.some.inj h; rfl)
theorem d_Mo_in_0 : decode b_Mo_in 0 = .ok (.iload_n 0, 1) := by decide +kernel
theorem d_Mo_in_1 : decode b_Mo_in 1 = .ok (.iload_n 1, 1) := by decide +kernel
theorem d_Mo_in_2 : decode b_Mo_in 2 = .ok (.if_icmp .lt 12, 3) := by decide +kernel
theorem d_Mo_in_5 : decode b_Mo_in 5 = .ok (.iload_n 0, 1) := by decide +kernel
theorem d_Mo_in_6 : decode b_Mo_in 6 = .ok (.iload_n 2, 1) := by decide +kernel
theorem d_Mo_in_7 : decode b_Mo_in 7 = .ok (.if_icmp .gt 7, 3) := by decide +kernel
theorem d_Mo_in_10 : decode b_Mo_in 10 = .ok (.iconst 1, 1) := by decide +kernel
theorem d_Mo_in_11 : decode b_Mo_in 11 = .ok (.goto 4, 3) := by decide +kernel
theorem d_Mo_in_14 : decode b_Mo_in 14 = .ok (.iconst 0, 1) := by decide +kernel
theorem d_Mo_in_15 : decode b_Mo_in 15 = .ok (.ireturn, 1) := by decide +kernel
theorem o_Mo_in : OkS y_Mo_in b_Mo_in 3 (some .boolean) 3 := ⟨⟨by decide +kernel, by decide +kernel, by decide +kernel⟩, g_1077, g_81, g_1078⟩
set_option maxHeartbeats 4000000 in
set_option maxRecDepth 100000 in
theorem c_Mo_in (l : Launch) (D : va_G) (g : Nat → ClassId) (x0 : Int32) (x1 : Int32) (x2 : Int32) (v : Int32) (h : d_Mo_in x0 x1 x2 = some v) :
    MI l y_Mo_in b_Mo_in 3 .boolean ({ frames := 0, cells := 0, slots := 0, locals := 0 } : Room) D g [.int x0, .int x1, .int x2] (([] : va_W)) (v) (([] : va_W)) := by
  have hd := h
  unfold d_Mo_in at hd
  refine enterI rfl (Nat.le_of_ble_eq_true rfl) (fun p e s m below meth c A ls hx hb hml hr hown hg hlk hK hA hP hD hS hCs hl => ?_)
  have hown : s.vm.findClass "OwnsLiftModel" = some m.cls := hown
  have hl : lv_has ls 3 [(0, .int x0), (1, .int x1), (2, .int x2)] := hl
  show GI p l e s m ({ frames := 0, cells := 0, slots := 0, locals := 0 } : Room) ([.int x0, .int x1, .int x2] : List Value).toArray below meth c A D g (([] : va_W)) (v) s.heap [] (F0 m 0 ls [])
  refine lv_iload_n hx hb d_Mo_in_0 rfl (lv_at hl 0 rfl) ?_
  refine lv_iload_n hx hb d_Mo_in_1 rfl (lv_at hl 1 rfl) ?_
  refine lv_icmp_lt (tgt := 14) hx hb d_Mo_in_2 (by decide) (fun h_1 => ?_) (fun h_1 => ?_)
  · have hd := ite_t hd h_1
    refine lv_iconst (v := 0) hx hb d_Mo_in_14 (by decide) ?_
    obtain rfl := Option.some.inj hd
    exact retZ hx hb hr hlk hK hP hD hS d_Mo_in_15 rfl (by decide +kernel)
  · have hd := ite_f hd h_1
    refine lv_iload_n hx hb d_Mo_in_5 rfl (lv_at hl 0 rfl) ?_
    refine lv_iload_n hx hb d_Mo_in_6 rfl (lv_at hl 2 rfl) ?_
    refine lv_icmp_gt (tgt := 14) hx hb d_Mo_in_7 (by decide) (fun h_2 => ?_) (fun h_2 => ?_)
    · have hd := ite_t hd h_2
      refine lv_iconst (v := 0) hx hb d_Mo_in_14 (by decide) ?_
      obtain rfl := Option.some.inj hd
      exact retZ hx hb hr hlk hK hP hD hS d_Mo_in_15 rfl (by decide +kernel)
    · have hd := ite_f hd h_2
      refine lv_iconst (v := 1) hx hb d_Mo_in_10 (by decide) ?_
      refine lv_goto (tgt := 15) hx hb d_Mo_in_11 (by decide) ?_
      obtain rfl := Option.some.inj hd
      exact retZ hx hb hr hlk hK hP hD hS d_Mo_in_15 rfl (by decide +kernel)
-- OwnsLiftModel.isPerson(I)Z
def d_Mo_isPerson (x1 : Int32) (z : T_Mo) : Option (Int32) :=
  (d_Mo_in x1 0 (((q_Mo_s z) 0) - 1)).bind fun v_1 => some (v_1)
theorem d_Mo_isPerson_0 : decode b_Mo_isPerson 0 = .ok (.iload_n 1, 1) := by decide +kernel
theorem d_Mo_isPerson_1 : decode b_Mo_isPerson 1 = .ok (.iconst 0, 1) := by decide +kernel
theorem d_Mo_isPerson_2 : decode b_Mo_isPerson 2 = .ok (.aload_n 0, 1) := by decide +kernel
theorem d_Mo_isPerson_3 : decode b_Mo_isPerson 3 = .ok (.getfield 9, 3) := by decide +kernel
theorem d_Mo_isPerson_6 : decode b_Mo_isPerson 6 = .ok (.iconst 0, 1) := by decide +kernel
theorem d_Mo_isPerson_7 : decode b_Mo_isPerson 7 = .ok (.iaload, 1) := by decide +kernel
theorem d_Mo_isPerson_8 : decode b_Mo_isPerson 8 = .ok (.iconst 1, 1) := by decide +kernel
theorem d_Mo_isPerson_9 : decode b_Mo_isPerson 9 = .ok (.isub, 1) := by decide +kernel
theorem d_Mo_isPerson_10 : decode b_Mo_isPerson 10 = .ok (.invokestatic 50, 3) := by decide +kernel
theorem d_Mo_isPerson_13 : decode b_Mo_isPerson 13 = .ok (.ireturn, 1) := by decide +kernel
theorem o_Mo_isPerson : OkV y_Mo_isPerson "OwnsLiftModel" b_Mo_isPerson 2 (some .boolean) 1 := ⟨⟨rfl, by decide +kernel, by decide +kernel, by decide +kernel⟩, g_1149, g_38, g_81, g_1150⟩
set_option maxHeartbeats 4000000 in
set_option maxRecDepth 100000 in
theorem c_Mo_isPerson (l : Launch) (D : va_G) (g : Nat → ClassId) (a : Nat → Nat) (x1 : Int32) (z : T_Mo) (v : Int32) (h : d_Mo_isPerson x1 z = some v) :
    MI l y_Mo_isPerson b_Mo_isPerson 2 .boolean ({ frames := 1, cells := 0, slots := 0, locals := 22 } : Room) D g [.ref (a 0), .int x1] (ws_Mo g a z) (v) (ws_Mo g a z) := by
  have hd := h
  unfold d_Mo_isPerson at hd
  refine enterI rfl (Nat.le_of_ble_eq_true rfl) (fun p e s m below meth c A ls hx hb hml hr hown hg hlk hK hA hP hD hS hCs hl => ?_)
  have hown : s.vm.findClass "OwnsLiftModel" = some m.cls := hown
  have hl : lv_has ls 2 [(0, .ref (a 0)), (1, .int x1)] := hl
  show GI p l e s m ({ frames := 1, cells := 0, slots := 0, locals := 22 } : Room) ([.ref (a 0), .int x1] : List Value).toArray below meth c A D g (ws_Mo g a z) (v) s.heap [] (F0 m 0 ls [])
  refine lv_iload_n hx hb d_Mo_isPerson_0 rfl (lv_at hl 1 rfl) ?_
  refine lv_iconst (v := 0) hx hb d_Mo_isPerson_1 (by decide) ?_
  refine lv_aload_n hx hb d_Mo_isPerson_2 rfl (lv_at hl 0 rfl) ?_
  refine va_get (D := D) (ci := 1) (v := .ref (a 1)) (C := R_Mo) (T := F_Mo) (N := 26) hx hb hg i_Mo hown hK hP 0 rfl rfl 1 (by decide) (hg _ g_993) (fun _ h9 => h9) rfl d_Mo_isPerson_3 ?_
  refine lv_iconst (v := 0) hx hb d_Mo_isPerson_6 (by decide) ?_
  refine ialdK hx hb hK hP 1 0 rfl rfl (inb_t (by decide +kernel)) (k := 0) (by decide +kernel) d_Mo_isPerson_7 ?_
  refine lv_iconst (v := 1) hx hb d_Mo_isPerson_8 (by decide) ?_
  refine lv_isub hx hb d_Mo_isPerson_9 ?_
  obtain ⟨v_1, e_2, hd⟩ := bind_s hd
  refine callSI (ws' := ws_Mo g a z) (rest := []) (As := [.int x1, .int 0, .int (((q_Mo_s z) 0) - 1)]) hx hb hml hown hg hK hP hD hS hA hCs hl.1 (c_Mo_in l D g  x1 0 (((q_Mo_s z) 0) - 1) _ e_2) o_Mo_in g_1076 [] segC0 rfl rfl segP0 rfl rfl (Nat.le_of_ble_eq_true rfl) ⟨rfl, rfl, Nat.le_of_ble_eq_true rfl, Nat.le_of_ble_eq_true rfl⟩ d_Mo_isPerson_10 (fun H locs hP hD hS => ?_)
  obtain rfl := Option.some.inj hd
  exact retZ hx hb hr hlk hK hP hD hS d_Mo_isPerson_13 rfl (nz_Mo_in e_2)
-- OwnsLiftModel.isThing(I)Z
def d_Mo_isThing (x1 : Int32) (z : T_Mo) : Option (Int32) :=
  (d_Mo_in x1 0 (((q_Mo_s z) 1) - 1)).bind fun v_1 => some (v_1)
theorem d_Mo_isThing_0 : decode b_Mo_isThing 0 = .ok (.iload_n 1, 1) := by decide +kernel
theorem d_Mo_isThing_1 : decode b_Mo_isThing 1 = .ok (.iconst 0, 1) := by decide +kernel
theorem d_Mo_isThing_2 : decode b_Mo_isThing 2 = .ok (.aload_n 0, 1) := by decide +kernel
theorem d_Mo_isThing_3 : decode b_Mo_isThing 3 = .ok (.getfield 9, 3) := by decide +kernel
theorem d_Mo_isThing_6 : decode b_Mo_isThing 6 = .ok (.iconst 1, 1) := by decide +kernel
theorem d_Mo_isThing_7 : decode b_Mo_isThing 7 = .ok (.iaload, 1) := by decide +kernel
theorem d_Mo_isThing_8 : decode b_Mo_isThing 8 = .ok (.iconst 1, 1) := by decide +kernel
theorem d_Mo_isThing_9 : decode b_Mo_isThing 9 = .ok (.isub, 1) := by decide +kernel
theorem d_Mo_isThing_10 : decode b_Mo_isThing 10 = .ok (.invokestatic 50, 3) := by decide +kernel
theorem d_Mo_isThing_13 : decode b_Mo_isThing 13 = .ok (.ireturn, 1) := by decide +kernel
theorem o_Mo_isThing : OkV y_Mo_isThing "OwnsLiftModel" b_Mo_isThing 2 (some .boolean) 1 := ⟨⟨rfl, by decide +kernel, by decide +kernel, by decide +kernel⟩, g_1185, g_45, g_81, g_1186⟩
set_option maxHeartbeats 4000000 in
set_option maxRecDepth 100000 in
theorem c_Mo_isThing (l : Launch) (D : va_G) (g : Nat → ClassId) (a : Nat → Nat) (x1 : Int32) (z : T_Mo) (v : Int32) (h : d_Mo_isThing x1 z = some v) :
    MI l y_Mo_isThing b_Mo_isThing 2 .boolean ({ frames := 1, cells := 0, slots := 0, locals := 22 } : Room) D g [.ref (a 0), .int x1] (ws_Mo g a z) (v) (ws_Mo g a z) := by
  have hd := h
  unfold d_Mo_isThing at hd
  refine enterI rfl (Nat.le_of_ble_eq_true rfl) (fun p e s m below meth c A ls hx hb hml hr hown hg hlk hK hA hP hD hS hCs hl => ?_)
  have hown : s.vm.findClass "OwnsLiftModel" = some m.cls := hown
  have hl : lv_has ls 2 [(0, .ref (a 0)), (1, .int x1)] := hl
  show GI p l e s m ({ frames := 1, cells := 0, slots := 0, locals := 22 } : Room) ([.ref (a 0), .int x1] : List Value).toArray below meth c A D g (ws_Mo g a z) (v) s.heap [] (F0 m 0 ls [])
  refine lv_iload_n hx hb d_Mo_isThing_0 rfl (lv_at hl 1 rfl) ?_
  refine lv_iconst (v := 0) hx hb d_Mo_isThing_1 (by decide) ?_
  refine lv_aload_n hx hb d_Mo_isThing_2 rfl (lv_at hl 0 rfl) ?_
  refine va_get (D := D) (ci := 1) (v := .ref (a 1)) (C := R_Mo) (T := F_Mo) (N := 26) hx hb hg i_Mo hown hK hP 0 rfl rfl 1 (by decide) (hg _ g_993) (fun _ h9 => h9) rfl d_Mo_isThing_3 ?_
  refine lv_iconst (v := 1) hx hb d_Mo_isThing_6 (by decide) ?_
  refine ialdK hx hb hK hP 1 0 rfl rfl (inb_t (by decide +kernel)) (k := 1) (by decide +kernel) d_Mo_isThing_7 ?_
  refine lv_iconst (v := 1) hx hb d_Mo_isThing_8 (by decide) ?_
  refine lv_isub hx hb d_Mo_isThing_9 ?_
  obtain ⟨v_1, e_2, hd⟩ := bind_s hd
  refine callSI (ws' := ws_Mo g a z) (rest := []) (As := [.int x1, .int 0, .int (((q_Mo_s z) 1) - 1)]) hx hb hml hown hg hK hP hD hS hA hCs hl.1 (c_Mo_in l D g  x1 0 (((q_Mo_s z) 1) - 1) _ e_2) o_Mo_in g_1076 [] segC0 rfl rfl segP0 rfl rfl (Nat.le_of_ble_eq_true rfl) ⟨rfl, rfl, Nat.le_of_ble_eq_true rfl, Nat.le_of_ble_eq_true rfl⟩ d_Mo_isThing_10 (fun H locs hP hD hS => ?_)
  obtain rfl := Option.some.inj hd
  exact retZ hx hb hr hlk hK hP hD hS d_Mo_isThing_13 rfl (nz_Mo_in e_2)
-- OwnsLiftModel.feed(I)I
def d_Mo_feed (x1 : Int32) (z : T_Mo) : Option (Int32 × T_Mo) :=
  (d_Mo_in x1 0 127).bind fun v_1 => if v_1 = 0 then (some ((-2), z)) else (if ((q_Mo_s z) 4) = 100 then (some ((-4), z)) else (if inb (96 + ((q_Mo_s z) 4)) 901 = true then (some ((q_Mo_s (u_Mo_s (u_Mo_s z (upd (q_Mo_s z) (96 + ((q_Mo_s z) 4)).toNatClampNeg x1)) (upd (q_Mo_s (u_Mo_s z (upd (q_Mo_s z) (96 + ((q_Mo_s z) 4)).toNatClampNeg x1))) 4 (((q_Mo_s (u_Mo_s z (upd (q_Mo_s z) (96 + ((q_Mo_s z) 4)).toNatClampNeg x1))) 4) + 1)))) 4, (u_Mo_s (u_Mo_s z (upd (q_Mo_s z) (96 + ((q_Mo_s z) 4)).toNatClampNeg x1)) (upd (q_Mo_s (u_Mo_s z (upd (q_Mo_s z) (96 + ((q_Mo_s z) 4)).toNatClampNeg x1))) 4 (((q_Mo_s (u_Mo_s z (upd (q_Mo_s z) (96 + ((q_Mo_s z) 4)).toNatClampNeg x1))) 4) + 1))))) else none))
theorem d_Mo_feed_0 : decode b_Mo_feed 0 = .ok (.iload_n 1, 1) := by decide +kernel
theorem d_Mo_feed_1 : decode b_Mo_feed 1 = .ok (.iconst 0, 1) := by decide +kernel
theorem d_Mo_feed_2 : decode b_Mo_feed 2 = .ok (.bipush 127, 2) := by decide +kernel
theorem d_Mo_feed_4 : decode b_Mo_feed 4 = .ok (.invokestatic 50, 3) := by decide +kernel
theorem d_Mo_feed_7 : decode b_Mo_feed 7 = .ok (.ifCond .ne 6, 3) := by decide +kernel
theorem d_Mo_feed_10 : decode b_Mo_feed 10 = .ok (.bipush (-2), 2) := by decide +kernel
theorem d_Mo_feed_12 : decode b_Mo_feed 12 = .ok (.ireturn, 1) := by decide +kernel
theorem d_Mo_feed_13 : decode b_Mo_feed 13 = .ok (.aload_n 0, 1) := by decide +kernel
theorem d_Mo_feed_14 : decode b_Mo_feed 14 = .ok (.getfield 9, 3) := by decide +kernel
theorem d_Mo_feed_17 : decode b_Mo_feed 17 = .ok (.iconst 4, 1) := by decide +kernel
theorem d_Mo_feed_18 : decode b_Mo_feed 18 = .ok (.iaload, 1) := by decide +kernel
theorem d_Mo_feed_19 : decode b_Mo_feed 19 = .ok (.bipush 100, 2) := by decide +kernel
theorem d_Mo_feed_21 : decode b_Mo_feed 21 = .ok (.if_icmp .ne 6, 3) := by decide +kernel
theorem d_Mo_feed_24 : decode b_Mo_feed 24 = .ok (.bipush (-4), 2) := by decide +kernel
theorem d_Mo_feed_26 : decode b_Mo_feed 26 = .ok (.ireturn, 1) := by decide +kernel
theorem d_Mo_feed_27 : decode b_Mo_feed 27 = .ok (.aload_n 0, 1) := by decide +kernel
theorem d_Mo_feed_28 : decode b_Mo_feed 28 = .ok (.getfield 9, 3) := by decide +kernel
theorem d_Mo_feed_31 : decode b_Mo_feed 31 = .ok (.bipush 96, 2) := by decide +kernel
theorem d_Mo_feed_33 : decode b_Mo_feed 33 = .ok (.aload_n 0, 1) := by decide +kernel
theorem d_Mo_feed_34 : decode b_Mo_feed 34 = .ok (.getfield 9, 3) := by decide +kernel
theorem d_Mo_feed_37 : decode b_Mo_feed 37 = .ok (.iconst 4, 1) := by decide +kernel
theorem d_Mo_feed_38 : decode b_Mo_feed 38 = .ok (.iaload, 1) := by decide +kernel
theorem d_Mo_feed_39 : decode b_Mo_feed 39 = .ok (.iadd, 1) := by decide +kernel
theorem d_Mo_feed_40 : decode b_Mo_feed 40 = .ok (.iload_n 1, 1) := by decide +kernel
theorem d_Mo_feed_41 : decode b_Mo_feed 41 = .ok (.iastore, 1) := by decide +kernel
theorem d_Mo_feed_42 : decode b_Mo_feed 42 = .ok (.aload_n 0, 1) := by decide +kernel
theorem d_Mo_feed_43 : decode b_Mo_feed 43 = .ok (.getfield 9, 3) := by decide +kernel
theorem d_Mo_feed_46 : decode b_Mo_feed 46 = .ok (.iconst 4, 1) := by decide +kernel
theorem d_Mo_feed_47 : decode b_Mo_feed 47 = .ok (.dup2, 1) := by decide +kernel
theorem d_Mo_feed_48 : decode b_Mo_feed 48 = .ok (.iaload, 1) := by decide +kernel
theorem d_Mo_feed_49 : decode b_Mo_feed 49 = .ok (.iconst 1, 1) := by decide +kernel
theorem d_Mo_feed_50 : decode b_Mo_feed 50 = .ok (.iadd, 1) := by decide +kernel
theorem d_Mo_feed_51 : decode b_Mo_feed 51 = .ok (.iastore, 1) := by decide +kernel
theorem d_Mo_feed_52 : decode b_Mo_feed 52 = .ok (.aload_n 0, 1) := by decide +kernel
theorem d_Mo_feed_53 : decode b_Mo_feed 53 = .ok (.getfield 9, 3) := by decide +kernel
theorem d_Mo_feed_56 : decode b_Mo_feed 56 = .ok (.iconst 4, 1) := by decide +kernel
theorem d_Mo_feed_57 : decode b_Mo_feed 57 = .ok (.iaload, 1) := by decide +kernel
theorem d_Mo_feed_58 : decode b_Mo_feed 58 = .ok (.ireturn, 1) := by decide +kernel
theorem o_Mo_feed : OkV y_Mo_feed "OwnsLiftModel" b_Mo_feed 2 (some .int) 1 := ⟨⟨rfl, by decide +kernel, by decide +kernel, by decide +kernel⟩, g_1073, g_1074, g_81, g_1075⟩
set_option maxHeartbeats 4000000 in
set_option maxRecDepth 100000 in
theorem c_Mo_feed (l : Launch) (D : va_G) (g : Nat → ClassId) (a : Nat → Nat) (x1 : Int32) (z : T_Mo) (v : Int32 × T_Mo) (h : d_Mo_feed x1 z = some v) :
    MI l y_Mo_feed b_Mo_feed 2 .int ({ frames := 1, cells := 0, slots := 0, locals := 22 } : Room) D g [.ref (a 0), .int x1] (ws_Mo g a z) (v.1) (ws_Mo g a v.2) := by
  have hd := h
  unfold d_Mo_feed at hd
  refine enterI rfl (Nat.le_of_ble_eq_true rfl) (fun p e s m below meth c A ls hx hb hml hr hown hg hlk hK hA hP hD hS hCs hl => ?_)
  have hown : s.vm.findClass "OwnsLiftModel" = some m.cls := hown
  have hl : lv_has ls 2 [(0, .ref (a 0)), (1, .int x1)] := hl
  show GI p l e s m ({ frames := 1, cells := 0, slots := 0, locals := 22 } : Room) ([.ref (a 0), .int x1] : List Value).toArray below meth c A D g (ws_Mo g a v.2) (v.1) s.heap [] (F0 m 0 ls [])
  refine lv_iload_n hx hb d_Mo_feed_0 rfl (lv_at hl 1 rfl) ?_
  refine lv_iconst (v := 0) hx hb d_Mo_feed_1 (by decide) ?_
  refine lv_bipush (v := 127) hx hb d_Mo_feed_2 (by decide) ?_
  obtain ⟨v_1, e_2, hd⟩ := bind_s hd
  refine callSI (ws' := ws_Mo g a z) (rest := []) (As := [.int x1, .int 0, .int 127]) hx hb hml hown hg hK hP hD hS hA hCs hl.1 (c_Mo_in l D g  x1 0 127 _ e_2) o_Mo_in g_1076 [] segC0 rfl rfl segP0 rfl rfl (Nat.le_of_ble_eq_true rfl) ⟨rfl, rfl, Nat.le_of_ble_eq_true rfl, Nat.le_of_ble_eq_true rfl⟩ d_Mo_feed_4 (fun H locs hP hD hS => ?_)
  refine lv_if_ne (tgt := 13) hx hb d_Mo_feed_7 (by decide) (fun h_3 => ?_) (fun h_3 => ?_)
  · have hd := ite_f hd h_3
    refine lv_aload_n hx hb d_Mo_feed_13 rfl (lv_at hl 0 rfl) ?_
    refine va_get (D := D) (ci := 1) (v := .ref (a 1)) (C := R_Mo) (T := F_Mo) (N := 26) hx hb hg i_Mo hown hK hP 0 rfl rfl 1 (by decide) (hg _ g_993) (fun _ h9 => h9) rfl d_Mo_feed_14 ?_
    refine lv_iconst (v := 4) hx hb d_Mo_feed_17 (by decide) ?_
    refine ialdK hx hb hK hP 1 0 rfl rfl (inb_t (by decide +kernel)) (k := 4) (by decide +kernel) d_Mo_feed_18 ?_
    refine lv_bipush (v := 100) hx hb d_Mo_feed_19 (by decide) ?_
    refine lv_icmp_ne (tgt := 27) hx hb d_Mo_feed_21 (by decide) (fun h_4 => ?_) (fun h_4 => ?_)
    · have hd := ite_f hd h_4
      refine lv_aload_n hx hb d_Mo_feed_27 rfl (lv_at hl 0 rfl) ?_
      refine va_get (D := D) (ci := 1) (v := .ref (a 1)) (C := R_Mo) (T := F_Mo) (N := 26) hx hb hg i_Mo hown hK hP 0 rfl rfl 1 (by decide) (hg _ g_993) (fun _ h9 => h9) rfl d_Mo_feed_28 ?_
      refine lv_bipush (v := 96) hx hb d_Mo_feed_31 (by decide) ?_
      refine lv_aload_n hx hb d_Mo_feed_33 rfl (lv_at hl 0 rfl) ?_
      refine va_get (D := D) (ci := 1) (v := .ref (a 1)) (C := R_Mo) (T := F_Mo) (N := 26) hx hb hg i_Mo hown hK hP 0 rfl rfl 1 (by decide) (hg _ g_993) (fun _ h9 => h9) rfl d_Mo_feed_34 ?_
      refine lv_iconst (v := 4) hx hb d_Mo_feed_37 (by decide) ?_
      refine ialdK hx hb hK hP 1 0 rfl rfl (inb_t (by decide +kernel)) (k := 4) (by decide +kernel) d_Mo_feed_38 ?_
      refine lv_iadd hx hb d_Mo_feed_39 ?_
      refine lv_iload_n hx hb d_Mo_feed_40 rfl (lv_at hl 1 rfl) ?_
      obtain ⟨h_5, hd⟩ := ite_s hd
      refine iastK hx hb hK hP hD hS 1 0 rfl rfl (inb_t h_5) rfl d_Mo_feed_41 (fun H locs hP hD hS => ?_)
      have hP : va_P D classes (ws_Mo g a (u_Mo_s z (upd (q_Mo_s z) (96 + ((q_Mo_s z) 4)).toNatClampNeg x1))) H := hP
      have hD : va_D A (ws_Mo g a (u_Mo_s z (upd (q_Mo_s z) (96 + ((q_Mo_s z) 4)).toNatClampNeg x1))) := hD
      refine lv_aload_n hx hb d_Mo_feed_42 rfl (lv_at hl 0 rfl) ?_
      refine va_get (D := D) (ci := 1) (v := .ref (a 1)) (C := R_Mo) (T := F_Mo) (N := 26) hx hb hg i_Mo hown hK hP 0 rfl rfl 1 (by decide) (hg _ g_993) (fun _ h9 => h9) rfl d_Mo_feed_43 ?_
      refine lv_iconst (v := 4) hx hb d_Mo_feed_46 (by decide) ?_
      refine lv_dup2_11 hx hb d_Mo_feed_47 rfl rfl ?_
      refine ialdK hx hb hK hP 1 0 rfl rfl (inb_t (by decide +kernel)) (k := 4) (by decide +kernel) d_Mo_feed_48 ?_
      refine lv_iconst (v := 1) hx hb d_Mo_feed_49 (by decide) ?_
      refine lv_iadd hx hb d_Mo_feed_50 ?_
      refine iastK hx hb hK hP hD hS 1 0 rfl rfl (inb_t (by decide +kernel)) (k := 4) (by decide +kernel) d_Mo_feed_51 (fun H locs hP hD hS => ?_)
      have hP : va_P D classes (ws_Mo g a (u_Mo_s (u_Mo_s z (upd (q_Mo_s z) (96 + ((q_Mo_s z) 4)).toNatClampNeg x1)) (upd (q_Mo_s (u_Mo_s z (upd (q_Mo_s z) (96 + ((q_Mo_s z) 4)).toNatClampNeg x1))) 4 (((q_Mo_s (u_Mo_s z (upd (q_Mo_s z) (96 + ((q_Mo_s z) 4)).toNatClampNeg x1))) 4) + 1)))) H := hP
      have hD : va_D A (ws_Mo g a (u_Mo_s (u_Mo_s z (upd (q_Mo_s z) (96 + ((q_Mo_s z) 4)).toNatClampNeg x1)) (upd (q_Mo_s (u_Mo_s z (upd (q_Mo_s z) (96 + ((q_Mo_s z) 4)).toNatClampNeg x1))) 4 (((q_Mo_s (u_Mo_s z (upd (q_Mo_s z) (96 + ((q_Mo_s z) 4)).toNatClampNeg x1))) 4) + 1)))) := hD
      refine lv_aload_n hx hb d_Mo_feed_52 rfl (lv_at hl 0 rfl) ?_
      refine va_get (D := D) (ci := 1) (v := .ref (a 1)) (C := R_Mo) (T := F_Mo) (N := 26) hx hb hg i_Mo hown hK hP 0 rfl rfl 1 (by decide) (hg _ g_993) (fun _ h9 => h9) rfl d_Mo_feed_53 ?_
      refine lv_iconst (v := 4) hx hb d_Mo_feed_56 (by decide) ?_
      refine ialdK hx hb hK hP 1 0 rfl rfl (inb_t (by decide +kernel)) (k := 4) (by decide +kernel) d_Mo_feed_57 ?_
      obtain rfl := Option.some.inj hd
      exact retI hx hb hr hlk hK hP hD hS d_Mo_feed_58 rfl
    · have hd := ite_t hd h_4
      refine lv_bipush (v := (-4)) hx hb d_Mo_feed_24 (by decide) ?_
      obtain rfl := Option.some.inj hd
      exact retI hx hb hr hlk hK hP hD hS d_Mo_feed_26 rfl
  · have hd := ite_t hd h_3
    refine lv_bipush (v := (-2)) hx hb d_Mo_feed_10 (by decide) ?_
    obtain rfl := Option.some.inj hd
    exact retI hx hb hr hlk hK hP hD hS d_Mo_feed_12 rfl
-- OwnsLiftModel.here()I
def d_Mo_here (z : T_Mo) : Option (Int32) :=
  if (q_Mo_end z) ≤ (q_Mo_spot z) then (some ((-1))) else (if inb (96 + (q_Mo_spot z)) 901 = true then (some ((q_Mo_s z) (96 + (q_Mo_spot z)).toNatClampNeg)) else none)
theorem d_Mo_here_0 : decode b_Mo_here 0 = .ok (.aload_n 0, 1) := by decide +kernel
theorem d_Mo_here_1 : decode b_Mo_here 1 = .ok (.getfield 54, 3) := by decide +kernel
theorem d_Mo_here_4 : decode b_Mo_here 4 = .ok (.aload_n 0, 1) := by decide +kernel
theorem d_Mo_here_5 : decode b_Mo_here 5 = .ok (.getfield 57, 3) := by decide +kernel
theorem d_Mo_here_8 : decode b_Mo_here 8 = .ok (.if_icmp .ge 18, 3) := by decide +kernel
theorem d_Mo_here_11 : decode b_Mo_here 11 = .ok (.aload_n 0, 1) := by decide +kernel
theorem d_Mo_here_12 : decode b_Mo_here 12 = .ok (.getfield 9, 3) := by decide +kernel
theorem d_Mo_here_15 : decode b_Mo_here 15 = .ok (.bipush 96, 2) := by decide +kernel
theorem d_Mo_here_17 : decode b_Mo_here 17 = .ok (.aload_n 0, 1) := by decide +kernel
theorem d_Mo_here_18 : decode b_Mo_here 18 = .ok (.getfield 54, 3) := by decide +kernel
theorem d_Mo_here_21 : decode b_Mo_here 21 = .ok (.iadd, 1) := by decide +kernel
theorem d_Mo_here_22 : decode b_Mo_here 22 = .ok (.iaload, 1) := by decide +kernel
theorem d_Mo_here_23 : decode b_Mo_here 23 = .ok (.goto 4, 3) := by decide +kernel
theorem d_Mo_here_26 : decode b_Mo_here 26 = .ok (.iconst (-1), 1) := by decide +kernel
theorem d_Mo_here_27 : decode b_Mo_here 27 = .ok (.ireturn, 1) := by decide +kernel
theorem o_Mo_here : OkV y_Mo_here "OwnsLiftModel" b_Mo_here 1 (some .int) 0 := ⟨⟨rfl, by decide +kernel, by decide +kernel, by decide +kernel⟩, g_1089, g_27, g_81, g_1090⟩
set_option maxHeartbeats 4000000 in
set_option maxRecDepth 100000 in
theorem c_Mo_here (l : Launch) (D : va_G) (g : Nat → ClassId) (a : Nat → Nat) (z : T_Mo) (v : Int32) (h : d_Mo_here z = some v) :
    MI l y_Mo_here b_Mo_here 1 .int ({ frames := 0, cells := 0, slots := 0, locals := 0 } : Room) D g [.ref (a 0)] (ws_Mo g a z) (v) (ws_Mo g a z) := by
  have hd := h
  unfold d_Mo_here at hd
  refine enterI rfl (Nat.le_of_ble_eq_true rfl) (fun p e s m below meth c A ls hx hb hml hr hown hg hlk hK hA hP hD hS hCs hl => ?_)
  have hown : s.vm.findClass "OwnsLiftModel" = some m.cls := hown
  have hl : lv_has ls 1 [(0, .ref (a 0))] := hl
  show GI p l e s m ({ frames := 0, cells := 0, slots := 0, locals := 0 } : Room) ([.ref (a 0)] : List Value).toArray below meth c A D g (ws_Mo g a z) (v) s.heap [] (F0 m 0 ls [])
  refine lv_aload_n hx hb d_Mo_here_0 rfl (lv_at hl 0 rfl) ?_
  refine va_get (D := D) (ci := 1) (v := .int (q_Mo_spot z)) (C := R_Mo) (T := F_Mo) (N := 26) hx hb hg i_Mo hown hK hP 0 rfl rfl 6 (by decide) (hg _ g_998) (fun _ h9 => h9) rfl d_Mo_here_1 ?_
  refine lv_aload_n hx hb d_Mo_here_4 rfl (lv_at hl 0 rfl) ?_
  refine va_get (D := D) (ci := 1) (v := .int (q_Mo_end z)) (C := R_Mo) (T := F_Mo) (N := 26) hx hb hg i_Mo hown hK hP 0 rfl rfl 7 (by decide) (hg _ g_999) (fun _ h9 => h9) rfl d_Mo_here_5 ?_
  refine lv_icmp_ge (tgt := 26) hx hb d_Mo_here_8 (by decide) (fun h_1 => ?_) (fun h_1 => ?_)
  · have hd := ite_t hd h_1
    refine lv_iconst (v := (-1)) hx hb d_Mo_here_26 (by decide) ?_
    obtain rfl := Option.some.inj hd
    exact retI hx hb hr hlk hK hP hD hS d_Mo_here_27 rfl
  · have hd := ite_f hd h_1
    refine lv_aload_n hx hb d_Mo_here_11 rfl (lv_at hl 0 rfl) ?_
    refine va_get (D := D) (ci := 1) (v := .ref (a 1)) (C := R_Mo) (T := F_Mo) (N := 26) hx hb hg i_Mo hown hK hP 0 rfl rfl 1 (by decide) (hg _ g_993) (fun _ h9 => h9) rfl d_Mo_here_12 ?_
    refine lv_bipush (v := 96) hx hb d_Mo_here_15 (by decide) ?_
    refine lv_aload_n hx hb d_Mo_here_17 rfl (lv_at hl 0 rfl) ?_
    refine va_get (D := D) (ci := 1) (v := .int (q_Mo_spot z)) (C := R_Mo) (T := F_Mo) (N := 26) hx hb hg i_Mo hown hK hP 0 rfl rfl 6 (by decide) (hg _ g_998) (fun _ h9 => h9) rfl d_Mo_here_18 ?_
    refine lv_iadd hx hb d_Mo_here_21 ?_
    obtain ⟨h_2, hd⟩ := ite_s hd
    refine ialdK hx hb hK hP 1 0 rfl rfl (inb_t h_2) rfl d_Mo_here_22 ?_
    refine lv_goto (tgt := 27) hx hb d_Mo_here_23 (by decide) ?_
    obtain rfl := Option.some.inj hd
    exact retI hx hb hr hlk hK hP hD hS d_Mo_here_27 rfl
-- OwnsLiftModel.must(I)V
def d_Mo_must (x1 : Int32) (z : T_Mo) : Option (T_Mo) :=
  if (q_Mo_isWrong z) = 0 then ((d_Mo_here z).bind fun v_3 => if v_3 = x1 then (if (q_Mo_isWrong (u_Mo_isWrong z 0)) = 0 then (some ((u_Mo_spot (u_Mo_isWrong z 0) ((q_Mo_spot (u_Mo_isWrong z 0)) + 1)))) else (some ((u_Mo_spot (u_Mo_isWrong z 0) ((q_Mo_spot (u_Mo_isWrong z 0)) + 0))))) else (if (q_Mo_isWrong (u_Mo_isWrong z 1)) = 0 then (some ((u_Mo_spot (u_Mo_isWrong z 1) ((q_Mo_spot (u_Mo_isWrong z 1)) + 1)))) else (some ((u_Mo_spot (u_Mo_isWrong z 1) ((q_Mo_spot (u_Mo_isWrong z 1)) + 0)))))) else (if (q_Mo_isWrong (u_Mo_isWrong z 1)) = 0 then (some ((u_Mo_spot (u_Mo_isWrong z 1) ((q_Mo_spot (u_Mo_isWrong z 1)) + 1)))) else (some ((u_Mo_spot (u_Mo_isWrong z 1) ((q_Mo_spot (u_Mo_isWrong z 1)) + 0)))))
theorem d_Mo_must_0 : decode b_Mo_must 0 = .ok (.aload_n 0, 1) := by decide +kernel
theorem d_Mo_must_1 : decode b_Mo_must 1 = .ok (.aload_n 0, 1) := by decide +kernel
theorem d_Mo_must_2 : decode b_Mo_must 2 = .ok (.getfield 60, 3) := by decide +kernel
theorem d_Mo_must_5 : decode b_Mo_must 5 = .ok (.ifCond .ne 11, 3) := by decide +kernel
theorem d_Mo_must_8 : decode b_Mo_must 8 = .ok (.aload_n 0, 1) := by decide +kernel
theorem d_Mo_must_9 : decode b_Mo_must 9 = .ok (.invokevirtual 64, 3) := by decide +kernel
theorem d_Mo_must_12 : decode b_Mo_must 12 = .ok (.iload_n 1, 1) := by decide +kernel
theorem d_Mo_must_13 : decode b_Mo_must 13 = .ok (.if_icmp .eq 7, 3) := by decide +kernel
theorem d_Mo_must_16 : decode b_Mo_must 16 = .ok (.iconst 1, 1) := by decide +kernel
theorem d_Mo_must_17 : decode b_Mo_must 17 = .ok (.goto 4, 3) := by decide +kernel
theorem d_Mo_must_20 : decode b_Mo_must 20 = .ok (.iconst 0, 1) := by decide +kernel
theorem d_Mo_must_21 : decode b_Mo_must 21 = .ok (.putfield 60, 3) := by decide +kernel
theorem d_Mo_must_24 : decode b_Mo_must 24 = .ok (.aload_n 0, 1) := by decide +kernel
theorem d_Mo_must_25 : decode b_Mo_must 25 = .ok (.dup, 1) := by decide +kernel
theorem d_Mo_must_26 : decode b_Mo_must 26 = .ok (.getfield 54, 3) := by decide +kernel
theorem d_Mo_must_29 : decode b_Mo_must 29 = .ok (.aload_n 0, 1) := by decide +kernel
theorem d_Mo_must_30 : decode b_Mo_must 30 = .ok (.getfield 60, 3) := by decide +kernel
theorem d_Mo_must_33 : decode b_Mo_must 33 = .ok (.ifCond .eq 7, 3) := by decide +kernel
theorem d_Mo_must_36 : decode b_Mo_must 36 = .ok (.iconst 0, 1) := by decide +kernel
theorem d_Mo_must_37 : decode b_Mo_must 37 = .ok (.goto 4, 3) := by decide +kernel
theorem d_Mo_must_40 : decode b_Mo_must 40 = .ok (.iconst 1, 1) := by decide +kernel
theorem d_Mo_must_41 : decode b_Mo_must 41 = .ok (.iadd, 1) := by decide +kernel
theorem d_Mo_must_42 : decode b_Mo_must 42 = .ok (.putfield 54, 3) := by decide +kernel
theorem d_Mo_must_45 : decode b_Mo_must 45 = .ok (.return_, 1) := by decide +kernel
theorem o_Mo_must : OkV y_Mo_must "OwnsLiftModel" b_Mo_must 2 none 1 := ⟨⟨rfl, by decide +kernel, by decide +kernel, by decide +kernel⟩, g_1097, g_29, g_81, g_1098⟩
set_option maxHeartbeats 4000000 in
set_option maxRecDepth 100000 in
theorem c_Mo_must (l : Launch) (D : va_G) (g : Nat → ClassId) (a : Nat → Nat) (x1 : Int32) (z : T_Mo) (v : T_Mo) (h : d_Mo_must x1 z = some v) :
    MV l y_Mo_must b_Mo_must 2 ({ frames := 1, cells := 0, slots := 0, locals := 20 } : Room) D g [.ref (a 0), .int x1] (ws_Mo g a z) (ws_Mo g a v) := by
  have hd := h
  unfold d_Mo_must at hd
  refine enterV rfl (Nat.le_of_ble_eq_true rfl) (fun p e s m below meth c A ls hx hb hml hr hown hg hlk hK hA hP hD hS hCs hl => ?_)
  have hown : s.vm.findClass "OwnsLiftModel" = some m.cls := hown
  have hl : lv_has ls 2 [(0, .ref (a 0)), (1, .int x1)] := hl
  show GV p l e s m ({ frames := 1, cells := 0, slots := 0, locals := 20 } : Room) ([.ref (a 0), .int x1] : List Value).toArray below meth c A D g (ws_Mo g a v) s.heap [] (F0 m 0 ls [])
  refine lv_aload_n hx hb d_Mo_must_0 rfl (lv_at hl 0 rfl) ?_
  refine lv_aload_n hx hb d_Mo_must_1 rfl (lv_at hl 0 rfl) ?_
  refine va_get (D := D) (ci := 1) (v := .int (q_Mo_isWrong z)) (C := R_Mo) (T := F_Mo) (N := 26) hx hb hg i_Mo hown hK hP 0 rfl rfl 8 (by decide) (hg _ g_1000) (fun _ h9 => h9) rfl d_Mo_must_2 ?_
  refine lv_if_ne (tgt := 16) hx hb d_Mo_must_5 (by decide) (fun h_1 => ?_) (fun h_1 => ?_)
  · have hd := ite_f hd h_1
    refine lv_iconst (v := 1) hx hb d_Mo_must_16 (by decide) ?_
    refine lv_goto (tgt := 21) hx hb d_Mo_must_17 (by decide) ?_
    refine va_put (D := D) (ci := 1) (v := .int 1) (ty := .boolean) (C := R_Mo) (T := F_Mo) (N := 26) hx hb hg i_Mo t_Mo t_Mo_ok n_Mo hown hK hP hD hS 0 rfl rfl 8 (by decide) (hg _ g_1000) (fun _ h9 => h9) rfl (by decide +kernel) (by decide +kernel) rfl (Nat.le_of_ble_eq_true rfl) d_Mo_must_21 (fun H locs hP hD hS => ?_)
    have hP : va_P D classes (ws_Mo g a (u_Mo_isWrong z 1)) H := hP
    have hD : va_D A (ws_Mo g a (u_Mo_isWrong z 1)) := hD
    refine lv_aload_n hx hb d_Mo_must_24 rfl (lv_at hl 0 rfl) ?_
    refine lv_dup hx hb d_Mo_must_25 rfl ?_
    refine va_get (D := D) (ci := 1) (v := .int (q_Mo_spot (u_Mo_isWrong z 1))) (C := R_Mo) (T := F_Mo) (N := 26) hx hb hg i_Mo hown hK hP 0 rfl rfl 6 (by decide) (hg _ g_998) (fun _ h9 => h9) rfl d_Mo_must_26 ?_
    refine lv_aload_n hx hb d_Mo_must_29 rfl (lv_at hl 0 rfl) ?_
    refine va_get (D := D) (ci := 1) (v := .int (q_Mo_isWrong (u_Mo_isWrong z 1))) (C := R_Mo) (T := F_Mo) (N := 26) hx hb hg i_Mo hown hK hP 0 rfl rfl 8 (by decide) (hg _ g_1000) (fun _ h9 => h9) rfl d_Mo_must_30 ?_
    refine lv_if_eq (tgt := 40) hx hb d_Mo_must_33 (by decide) (fun h_2 => ?_) (fun h_2 => ?_)
    · have hd := ite_t hd h_2
      refine lv_iconst (v := 1) hx hb d_Mo_must_40 (by decide) ?_
      refine lv_iadd hx hb d_Mo_must_41 ?_
      refine va_put (D := D) (ci := 1) (v := .int ((q_Mo_spot (u_Mo_isWrong z 1)) + 1)) (ty := .int) (C := R_Mo) (T := F_Mo) (N := 26) hx hb hg i_Mo t_Mo t_Mo_ok n_Mo hown hK hP hD hS 0 rfl rfl 6 (by decide) (hg _ g_998) (fun _ h9 => h9) rfl (by decide +kernel) rfl rfl (Nat.le_of_ble_eq_true rfl) d_Mo_must_42 (fun H locs hP hD hS => ?_)
      have hP : va_P D classes (ws_Mo g a (u_Mo_spot (u_Mo_isWrong z 1) ((q_Mo_spot (u_Mo_isWrong z 1)) + 1))) H := hP
      have hD : va_D A (ws_Mo g a (u_Mo_spot (u_Mo_isWrong z 1) ((q_Mo_spot (u_Mo_isWrong z 1)) + 1))) := hD
      obtain rfl := Option.some.inj hd
      exact retV hx hb hr hlk hK hP hD hS d_Mo_must_45
    · have hd := ite_f hd h_2
      refine lv_iconst (v := 0) hx hb d_Mo_must_36 (by decide) ?_
      refine lv_goto (tgt := 41) hx hb d_Mo_must_37 (by decide) ?_
      refine lv_iadd hx hb d_Mo_must_41 ?_
      refine va_put (D := D) (ci := 1) (v := .int ((q_Mo_spot (u_Mo_isWrong z 1)) + 0)) (ty := .int) (C := R_Mo) (T := F_Mo) (N := 26) hx hb hg i_Mo t_Mo t_Mo_ok n_Mo hown hK hP hD hS 0 rfl rfl 6 (by decide) (hg _ g_998) (fun _ h9 => h9) rfl (by decide +kernel) rfl rfl (Nat.le_of_ble_eq_true rfl) d_Mo_must_42 (fun H locs hP hD hS => ?_)
      have hP : va_P D classes (ws_Mo g a (u_Mo_spot (u_Mo_isWrong z 1) ((q_Mo_spot (u_Mo_isWrong z 1)) + 0))) H := hP
      have hD : va_D A (ws_Mo g a (u_Mo_spot (u_Mo_isWrong z 1) ((q_Mo_spot (u_Mo_isWrong z 1)) + 0))) := hD
      obtain rfl := Option.some.inj hd
      exact retV hx hb hr hlk hK hP hD hS d_Mo_must_45
  · have hd := ite_t hd h_1
    refine lv_aload_n hx hb d_Mo_must_8 rfl (lv_at hl 0 rfl) ?_
    obtain ⟨v_3, e_4, hd⟩ := bind_s hd
    refine callVI (ws' := ws_Mo g a z) (rest := [.ref (a 0)]) (As := []) hx hb hml hown hg hK hP hD hS hA hCs hl.1 (c_Mo_here l D g a z _ e_4) o_Mo_here g_1087 (ci := 1) (q0 := 0) rfl rfl (List.range' 0 12) (segC1 rfl rfl) (by decide) rfl (segP1 rfl rfl) rfl rfl (Nat.le_of_ble_eq_true rfl) ⟨rfl, rfl, Nat.le_of_ble_eq_true rfl, Nat.le_of_ble_eq_true rfl⟩ d_Mo_must_9 (fun H locs hP hD hS => ?_)
    refine lv_iload_n hx hb d_Mo_must_12 rfl (lv_at hl 1 rfl) ?_
    refine lv_icmp_eq (tgt := 20) hx hb d_Mo_must_13 (by decide) (fun h_5 => ?_) (fun h_5 => ?_)
    · have hd := ite_t hd h_5
      refine lv_iconst (v := 0) hx hb d_Mo_must_20 (by decide) ?_
      refine va_put (D := D) (ci := 1) (v := .int 0) (ty := .boolean) (C := R_Mo) (T := F_Mo) (N := 26) hx hb hg i_Mo t_Mo t_Mo_ok n_Mo hown hK hP hD hS 0 rfl rfl 8 (by decide) (hg _ g_1000) (fun _ h9 => h9) rfl (by decide +kernel) (by decide +kernel) rfl (Nat.le_of_ble_eq_true rfl) d_Mo_must_21 (fun H locs hP hD hS => ?_)
      have hP : va_P D classes (ws_Mo g a (u_Mo_isWrong z 0)) H := hP
      have hD : va_D A (ws_Mo g a (u_Mo_isWrong z 0)) := hD
      refine lv_aload_n hx hb d_Mo_must_24 rfl (lv_at hl 0 rfl) ?_
      refine lv_dup hx hb d_Mo_must_25 rfl ?_
      refine va_get (D := D) (ci := 1) (v := .int (q_Mo_spot (u_Mo_isWrong z 0))) (C := R_Mo) (T := F_Mo) (N := 26) hx hb hg i_Mo hown hK hP 0 rfl rfl 6 (by decide) (hg _ g_998) (fun _ h9 => h9) rfl d_Mo_must_26 ?_
      refine lv_aload_n hx hb d_Mo_must_29 rfl (lv_at hl 0 rfl) ?_
      refine va_get (D := D) (ci := 1) (v := .int (q_Mo_isWrong (u_Mo_isWrong z 0))) (C := R_Mo) (T := F_Mo) (N := 26) hx hb hg i_Mo hown hK hP 0 rfl rfl 8 (by decide) (hg _ g_1000) (fun _ h9 => h9) rfl d_Mo_must_30 ?_
      refine lv_if_eq (tgt := 40) hx hb d_Mo_must_33 (by decide) (fun h_6 => ?_) (fun h_6 => ?_)
      · have hd := ite_t hd h_6
        refine lv_iconst (v := 1) hx hb d_Mo_must_40 (by decide) ?_
        refine lv_iadd hx hb d_Mo_must_41 ?_
        refine va_put (D := D) (ci := 1) (v := .int ((q_Mo_spot (u_Mo_isWrong z 0)) + 1)) (ty := .int) (C := R_Mo) (T := F_Mo) (N := 26) hx hb hg i_Mo t_Mo t_Mo_ok n_Mo hown hK hP hD hS 0 rfl rfl 6 (by decide) (hg _ g_998) (fun _ h9 => h9) rfl (by decide +kernel) rfl rfl (Nat.le_of_ble_eq_true rfl) d_Mo_must_42 (fun H locs hP hD hS => ?_)
        have hP : va_P D classes (ws_Mo g a (u_Mo_spot (u_Mo_isWrong z 0) ((q_Mo_spot (u_Mo_isWrong z 0)) + 1))) H := hP
        have hD : va_D A (ws_Mo g a (u_Mo_spot (u_Mo_isWrong z 0) ((q_Mo_spot (u_Mo_isWrong z 0)) + 1))) := hD
        obtain rfl := Option.some.inj hd
        exact retV hx hb hr hlk hK hP hD hS d_Mo_must_45
      · have hd := ite_f hd h_6
        refine lv_iconst (v := 0) hx hb d_Mo_must_36 (by decide) ?_
        refine lv_goto (tgt := 41) hx hb d_Mo_must_37 (by decide) ?_
        refine lv_iadd hx hb d_Mo_must_41 ?_
        refine va_put (D := D) (ci := 1) (v := .int ((q_Mo_spot (u_Mo_isWrong z 0)) + 0)) (ty := .int) (C := R_Mo) (T := F_Mo) (N := 26) hx hb hg i_Mo t_Mo t_Mo_ok n_Mo hown hK hP hD hS 0 rfl rfl 6 (by decide) (hg _ g_998) (fun _ h9 => h9) rfl (by decide +kernel) rfl rfl (Nat.le_of_ble_eq_true rfl) d_Mo_must_42 (fun H locs hP hD hS => ?_)
        have hP : va_P D classes (ws_Mo g a (u_Mo_spot (u_Mo_isWrong z 0) ((q_Mo_spot (u_Mo_isWrong z 0)) + 0))) H := hP
        have hD : va_D A (ws_Mo g a (u_Mo_spot (u_Mo_isWrong z 0) ((q_Mo_spot (u_Mo_isWrong z 0)) + 0))) := hD
        obtain rfl := Option.some.inj hd
        exact retV hx hb hr hlk hK hP hD hS d_Mo_must_45
    · have hd := ite_f hd h_5
      refine lv_iconst (v := 1) hx hb d_Mo_must_16 (by decide) ?_
      refine lv_goto (tgt := 21) hx hb d_Mo_must_17 (by decide) ?_
      refine va_put (D := D) (ci := 1) (v := .int 1) (ty := .boolean) (C := R_Mo) (T := F_Mo) (N := 26) hx hb hg i_Mo t_Mo t_Mo_ok n_Mo hown hK hP hD hS 0 rfl rfl 8 (by decide) (hg _ g_1000) (fun _ h9 => h9) rfl (by decide +kernel) (by decide +kernel) rfl (Nat.le_of_ble_eq_true rfl) d_Mo_must_21 (fun H locs hP hD hS => ?_)
      have hP : va_P D classes (ws_Mo g a (u_Mo_isWrong z 1)) H := hP
      have hD : va_D A (ws_Mo g a (u_Mo_isWrong z 1)) := hD
      refine lv_aload_n hx hb d_Mo_must_24 rfl (lv_at hl 0 rfl) ?_
      refine lv_dup hx hb d_Mo_must_25 rfl ?_
      refine va_get (D := D) (ci := 1) (v := .int (q_Mo_spot (u_Mo_isWrong z 1))) (C := R_Mo) (T := F_Mo) (N := 26) hx hb hg i_Mo hown hK hP 0 rfl rfl 6 (by decide) (hg _ g_998) (fun _ h9 => h9) rfl d_Mo_must_26 ?_
      refine lv_aload_n hx hb d_Mo_must_29 rfl (lv_at hl 0 rfl) ?_
      refine va_get (D := D) (ci := 1) (v := .int (q_Mo_isWrong (u_Mo_isWrong z 1))) (C := R_Mo) (T := F_Mo) (N := 26) hx hb hg i_Mo hown hK hP 0 rfl rfl 8 (by decide) (hg _ g_1000) (fun _ h9 => h9) rfl d_Mo_must_30 ?_
      refine lv_if_eq (tgt := 40) hx hb d_Mo_must_33 (by decide) (fun h_7 => ?_) (fun h_7 => ?_)
      · have hd := ite_t hd h_7
        refine lv_iconst (v := 1) hx hb d_Mo_must_40 (by decide) ?_
        refine lv_iadd hx hb d_Mo_must_41 ?_
        refine va_put (D := D) (ci := 1) (v := .int ((q_Mo_spot (u_Mo_isWrong z 1)) + 1)) (ty := .int) (C := R_Mo) (T := F_Mo) (N := 26) hx hb hg i_Mo t_Mo t_Mo_ok n_Mo hown hK hP hD hS 0 rfl rfl 6 (by decide) (hg _ g_998) (fun _ h9 => h9) rfl (by decide +kernel) rfl rfl (Nat.le_of_ble_eq_true rfl) d_Mo_must_42 (fun H locs hP hD hS => ?_)
        have hP : va_P D classes (ws_Mo g a (u_Mo_spot (u_Mo_isWrong z 1) ((q_Mo_spot (u_Mo_isWrong z 1)) + 1))) H := hP
        have hD : va_D A (ws_Mo g a (u_Mo_spot (u_Mo_isWrong z 1) ((q_Mo_spot (u_Mo_isWrong z 1)) + 1))) := hD
        obtain rfl := Option.some.inj hd
        exact retV hx hb hr hlk hK hP hD hS d_Mo_must_45
      · have hd := ite_f hd h_7
        refine lv_iconst (v := 0) hx hb d_Mo_must_36 (by decide) ?_
        refine lv_goto (tgt := 41) hx hb d_Mo_must_37 (by decide) ?_
        refine lv_iadd hx hb d_Mo_must_41 ?_
        refine va_put (D := D) (ci := 1) (v := .int ((q_Mo_spot (u_Mo_isWrong z 1)) + 0)) (ty := .int) (C := R_Mo) (T := F_Mo) (N := 26) hx hb hg i_Mo t_Mo t_Mo_ok n_Mo hown hK hP hD hS 0 rfl rfl 6 (by decide) (hg _ g_998) (fun _ h9 => h9) rfl (by decide +kernel) rfl rfl (Nat.le_of_ble_eq_true rfl) d_Mo_must_42 (fun H locs hP hD hS => ?_)
        have hP : va_P D classes (ws_Mo g a (u_Mo_spot (u_Mo_isWrong z 1) ((q_Mo_spot (u_Mo_isWrong z 1)) + 0))) H := hP
        have hD : va_D A (ws_Mo g a (u_Mo_spot (u_Mo_isWrong z 1) ((q_Mo_spot (u_Mo_isWrong z 1)) + 0))) := hD
        obtain rfl := Option.some.inj hd
        exact retV hx hb hr hlk hK hP hD hS d_Mo_must_45
-- OwnsLiftModel.spells(Ljava/lang/String;)V
def B_Mo_spells_L2 (t1 : Nat) (self2 : Int32 → T_Mo → Option (T_Mo)) (x2_2 : Int32) (z_2 : T_Mo) : Option (T_Mo) :=
  (d_JS_length t1).bind fun v_1 => if v_1 ≤ x2_2 then (some (z_2)) else ((d_JS_charAt t1 x2_2).bind fun v_4 => (d_Mo_must v_4 z_2).bind fun v_6 => self2 (x2_2 + 1) v_6)
def d_Mo_spells_L2 (t1 : Nat) (n : Nat) : Int32 → T_Mo → Option (T_Mo) := recN (fun _ _ => none) (fun self => B_Mo_spells_L2 t1 self) n
def d_Mo_spells (t1 : Nat) (z : T_Mo) : Option (T_Mo) :=
  d_Mo_spells_L2 t1  1000 0 z
theorem d_Mo_spells_0 : decode b_Mo_spells 0 = .ok (.iconst 0, 1) := by decide +kernel
theorem d_Mo_spells_1 : decode b_Mo_spells 1 = .ok (.istore_n 2, 1) := by decide +kernel
theorem d_Mo_spells_2 : decode b_Mo_spells 2 = .ok (.iload_n 2, 1) := by decide +kernel
theorem d_Mo_spells_3 : decode b_Mo_spells 3 = .ok (.aload_n 1, 1) := by decide +kernel
theorem d_Mo_spells_4 : decode b_Mo_spells 4 = .ok (.invokevirtual 68, 3) := by decide +kernel
theorem d_Mo_spells_7 : decode b_Mo_spells 7 = .ok (.if_icmp .ge 18, 3) := by decide +kernel
theorem d_Mo_spells_10 : decode b_Mo_spells 10 = .ok (.aload_n 0, 1) := by decide +kernel
theorem d_Mo_spells_11 : decode b_Mo_spells 11 = .ok (.aload_n 1, 1) := by decide +kernel
theorem d_Mo_spells_12 : decode b_Mo_spells 12 = .ok (.iload_n 2, 1) := by decide +kernel
theorem d_Mo_spells_13 : decode b_Mo_spells 13 = .ok (.invokevirtual 73, 3) := by decide +kernel
theorem d_Mo_spells_16 : decode b_Mo_spells 16 = .ok (.invokevirtual 77, 3) := by decide +kernel
theorem d_Mo_spells_19 : decode b_Mo_spells 19 = .ok (.iinc 2 1, 3) := by decide +kernel
theorem d_Mo_spells_22 : decode b_Mo_spells 22 = .ok (.goto (-20), 3) := by decide +kernel
theorem d_Mo_spells_25 : decode b_Mo_spells 25 = .ok (.return_, 1) := by decide +kernel
theorem o_Mo_spells : OkV y_Mo_spells "OwnsLiftModel" b_Mo_spells 3 none 1 := ⟨⟨rfl, by decide +kernel, by decide +kernel, by decide +kernel⟩, g_1106, g_31, g_81, g_1107⟩
set_option maxHeartbeats 4000000 in
set_option maxRecDepth 100000 in
theorem c_Mo_spells (l : Launch) (D : va_G) (g : Nat → ClassId) (a : Nat → Nat) (t1 : Nat) (z : T_Mo) (v : T_Mo) (h : d_Mo_spells t1 z = some v) :
    MV l y_Mo_spells b_Mo_spells 3 ({ frames := 4, cells := 0, slots := 0, locals := 85 } : Room) D g [.ref (a 0), .ref (g (10 + t1))] (ws_Mo g a z) (ws_Mo g a v) := by
  have hd := h
  unfold d_Mo_spells at hd
  refine enterV rfl (Nat.le_of_ble_eq_true rfl) (fun p e s m below meth c A ls hx hb hml hr hown hg hlk hK hA hP hD hS hCs hl => ?_)
  have hown : s.vm.findClass "OwnsLiftModel" = some m.cls := hown
  have hl : lv_has ls 3 [(0, .ref (a 0)), (1, .ref (g (10 + t1)))] := hl
  show GV p l e s m ({ frames := 4, cells := 0, slots := 0, locals := 85 } : Room) ([.ref (a 0), .ref (g (10 + t1))] : List Value).toArray below meth c A D g (ws_Mo g a v) s.heap [] (F0 m 0 ls [])
  refine lv_iconst (v := 0) hx hb d_Mo_spells_0 (by decide) ?_
  refine lv_istore_n (lv' := [(2, .int 0), (0, .ref (a 0)), (1, .ref (g (10 + t1)))]) hx hb d_Mo_spells_1 rfl hl (by decide) rfl (fun ls hl => ?_)
  have lp2 : ∀ (n : Nat) (x2_2 : Int32) (z_2 : T_Mo) (H : Heap) (locs : List Loc) (ls : Array Slot), va_P D classes (ws_Mo g a z_2) H → va_D A (ws_Mo g a z_2) → va_S A s.heap H locs → lv_has ls 3 [(0, .ref (a 0)), (1, .ref (g (10 + t1))), (2, .int x2_2)] → d_Mo_spells_L2 t1 n x2_2 z_2 = some v → GV p l e s m ({ frames := 4, cells := 0, slots := 0, locals := 85 } : Room) ([.ref (a 0), .ref (g (10 + t1))] : List Value).toArray below meth c A D g (ws_Mo g a v) H locs (F0 m 2 ls []) := by
    intro n
    induction n with
    | zero =>
      intro  x2_2 z_2 H locs ls hP hD hS hl hd
      have hd : none = some v := hd
      cases hd
    | succ n ih2 =>
      intro  x2_2 z_2 H locs ls hP hD hS hl hd
      have hd : B_Mo_spells_L2 t1 (d_Mo_spells_L2 t1 n) x2_2 z_2 = some v := hd
      generalize d_Mo_spells_L2 t1 n = self2 at ih2 hd
      unfold B_Mo_spells_L2 at hd
      refine lv_iload_n hx hb d_Mo_spells_2 rfl (lv_at hl 2 rfl) ?_
      refine lv_aload_n hx hb d_Mo_spells_3 rfl (lv_at hl 1 rfl) ?_
      obtain ⟨v_1, e_2, hd⟩ := bind_s hd
      refine callTI (ws' := ws_Mo g a z_2) (rest := [.int x2_2]) (As := []) hx hb hml hown hg hK hP hD hS hA hCs hl.1 (c_JS_length l D g  t1 _ e_2) o_JS_length g_1108 (vk_recv (i := t1) hCs.1.1 (lt_JS_length e_2) hS) [] segC0 rfl rfl segP0 rfl rfl (Nat.le_of_ble_eq_true rfl) ⟨rfl, rfl, Nat.le_of_ble_eq_true rfl, Nat.le_of_ble_eq_true rfl⟩ d_Mo_spells_4 (fun H locs hP hD hS => ?_)
      refine lv_icmp_ge (tgt := 25) hx hb d_Mo_spells_7 (by decide) (fun h_3 => ?_) (fun h_3 => ?_)
      · have hd := ite_t hd h_3
        obtain rfl := Option.some.inj hd
        exact retV hx hb hr hlk hK hP hD hS d_Mo_spells_25
      · have hd := ite_f hd h_3
        refine lv_aload_n hx hb d_Mo_spells_10 rfl (lv_at hl 0 rfl) ?_
        refine lv_aload_n hx hb d_Mo_spells_11 rfl (lv_at hl 1 rfl) ?_
        refine lv_iload_n hx hb d_Mo_spells_12 rfl (lv_at hl 2 rfl) ?_
        obtain ⟨v_4, e_5, hd⟩ := bind_s hd
        refine callTI (ws' := ws_Mo g a z_2) (rest := [.ref (a 0)]) (As := [.int x2_2]) hx hb hml hown hg hK hP hD hS hA hCs hl.1 (c_JS_charAt l D g  t1 x2_2 _ e_5) o_JS_charAt g_1109 (vk_recv (i := t1) hCs.1.1 (lt_JS_charAt e_5) hS) [] segC0 rfl rfl segP0 rfl rfl (Nat.le_of_ble_eq_true rfl) ⟨rfl, rfl, Nat.le_of_ble_eq_true rfl, Nat.le_of_ble_eq_true rfl⟩ d_Mo_spells_13 (fun H locs hP hD hS => ?_)
        obtain ⟨v_6, e_7, hd⟩ := bind_s hd
        refine callVV (ws' := ws_Mo g a v_6) (rest := []) (As := [.int v_4]) hx hb hml hown hg hK hP hD hS hA hCs hl.1 (c_Mo_must l D g a v_4 z_2 _ e_7) o_Mo_must g_1095 (ci := 1) (q0 := 0) rfl rfl (List.range' 0 12) (segC1 rfl rfl) (by decide) rfl (segP1 rfl rfl) rfl rfl (Nat.le_of_ble_eq_true rfl) ⟨rfl, rfl, Nat.le_of_ble_eq_true rfl, Nat.le_of_ble_eq_true rfl⟩ d_Mo_spells_16 (fun H locs hP hD hS => ?_)
        refine lv_iinc (v := x2_2 + 1) (lv' := [(2, .int (x2_2 + 1)), (0, .ref (a 0)), (1, .ref (g (10 + t1)))]) hx hb d_Mo_spells_19 hl (k := 2) rfl (by rfl) (by decide) rfl (fun ls hl => ?_)
        refine lv_goto (tgt := 2) hx hb d_Mo_spells_22 (by decide) ?_
        exact ih2 (x2_2 + 1) v_6 _ _ _ hP hD hS (lv_sub hl [1, 2, 0] rfl) hd
  exact lp2 1000 0 z _ _ _ hP hD hS (lv_sub hl [1, 2, 0] rfl) hd
-- OwnsLiftModel.figures()I
def B_Mo_figures_L34 (self34 : Int32 → Int32 → T_Mo → Option (Int32 × T_Mo)) (x1_34 : Int32) (x2_34 : Int32) (z_34 : T_Mo) : Option (Int32 × T_Mo) :=
  if 2 ≤ x2_34 then (some (x1_34, z_34)) else (if (q_Mo_isWrong z_34) = 0 then ((d_Mo_here z_34).bind fun v_4 => (d_Mo_in v_4 48 57).bind fun v_6 => if v_6 = 0 then (some (x1_34, z_34)) else (if x2_34 = 0 then ((d_Mo_here z_34).bind fun v_10 => self34 (((10 * x1_34) + v_10) - 48) (x2_34 + 1) (u_Mo_spot z_34 ((q_Mo_spot z_34) + 1))) else (if x1_34 ≤ 0 then (some (x1_34, z_34)) else ((d_Mo_here z_34).bind fun v_13 => self34 (((10 * x1_34) + v_13) - 48) (x2_34 + 1) (u_Mo_spot z_34 ((q_Mo_spot z_34) + 1)))))) else (some (x1_34, z_34)))
def d_Mo_figures_L34 (n : Nat) : Int32 → Int32 → T_Mo → Option (Int32 × T_Mo) := recN (fun _ _ _ => none) (fun self => B_Mo_figures_L34 self) n
def d_Mo_figures (z : T_Mo) : Option (Int32 × T_Mo) :=
  if (q_Mo_isWrong z) = 0 then ((d_Mo_here z).bind fun v_15 => (d_Mo_in v_15 48 57).bind fun v_17 => if v_17 = 0 then (d_Mo_figures_L34  1000 0 0 (u_Mo_isWrong z 1)) else (d_Mo_figures_L34  1000 0 0 (u_Mo_isWrong z 0))) else (d_Mo_figures_L34  1000 0 0 (u_Mo_isWrong z 1))
theorem d_Mo_figures_0 : decode b_Mo_figures 0 = .ok (.aload_n 0, 1) := by decide +kernel
theorem d_Mo_figures_1 : decode b_Mo_figures 1 = .ok (.aload_n 0, 1) := by decide +kernel
theorem d_Mo_figures_2 : decode b_Mo_figures 2 = .ok (.getfield 60, 3) := by decide +kernel
theorem d_Mo_figures_5 : decode b_Mo_figures 5 = .ok (.ifCond .ne 17, 3) := by decide +kernel
theorem d_Mo_figures_8 : decode b_Mo_figures 8 = .ok (.aload_n 0, 1) := by decide +kernel
theorem d_Mo_figures_9 : decode b_Mo_figures 9 = .ok (.invokevirtual 64, 3) := by decide +kernel
theorem d_Mo_figures_12 : decode b_Mo_figures 12 = .ok (.bipush 48, 2) := by decide +kernel
theorem d_Mo_figures_14 : decode b_Mo_figures 14 = .ok (.bipush 57, 2) := by decide +kernel
theorem d_Mo_figures_16 : decode b_Mo_figures 16 = .ok (.invokestatic 50, 3) := by decide +kernel
theorem d_Mo_figures_19 : decode b_Mo_figures 19 = .ok (.ifCond .ne 7, 3) := by decide +kernel
theorem d_Mo_figures_22 : decode b_Mo_figures 22 = .ok (.iconst 1, 1) := by decide +kernel
theorem d_Mo_figures_23 : decode b_Mo_figures 23 = .ok (.goto 4, 3) := by decide +kernel
theorem d_Mo_figures_26 : decode b_Mo_figures 26 = .ok (.iconst 0, 1) := by decide +kernel
theorem d_Mo_figures_27 : decode b_Mo_figures 27 = .ok (.putfield 60, 3) := by decide +kernel
theorem d_Mo_figures_30 : decode b_Mo_figures 30 = .ok (.iconst 0, 1) := by decide +kernel
theorem d_Mo_figures_31 : decode b_Mo_figures 31 = .ok (.istore_n 1, 1) := by decide +kernel
theorem d_Mo_figures_32 : decode b_Mo_figures 32 = .ok (.iconst 0, 1) := by decide +kernel
theorem d_Mo_figures_33 : decode b_Mo_figures 33 = .ok (.istore_n 2, 1) := by decide +kernel
theorem d_Mo_figures_34 : decode b_Mo_figures 34 = .ok (.iload_n 2, 1) := by decide +kernel
theorem d_Mo_figures_35 : decode b_Mo_figures 35 = .ok (.iconst 2, 1) := by decide +kernel
theorem d_Mo_figures_36 : decode b_Mo_figures 36 = .ok (.if_icmp .ge 61, 3) := by decide +kernel
theorem d_Mo_figures_39 : decode b_Mo_figures 39 = .ok (.aload_n 0, 1) := by decide +kernel
theorem d_Mo_figures_40 : decode b_Mo_figures 40 = .ok (.getfield 60, 3) := by decide +kernel
theorem d_Mo_figures_43 : decode b_Mo_figures 43 = .ok (.ifCond .ne 54, 3) := by decide +kernel
theorem d_Mo_figures_46 : decode b_Mo_figures 46 = .ok (.aload_n 0, 1) := by decide +kernel
theorem d_Mo_figures_47 : decode b_Mo_figures 47 = .ok (.invokevirtual 64, 3) := by decide +kernel
theorem d_Mo_figures_50 : decode b_Mo_figures 50 = .ok (.bipush 48, 2) := by decide +kernel
theorem d_Mo_figures_52 : decode b_Mo_figures 52 = .ok (.bipush 57, 2) := by decide +kernel
theorem d_Mo_figures_54 : decode b_Mo_figures 54 = .ok (.invokestatic 50, 3) := by decide +kernel
theorem d_Mo_figures_57 : decode b_Mo_figures 57 = .ok (.ifCond .eq 40, 3) := by decide +kernel
theorem d_Mo_figures_60 : decode b_Mo_figures 60 = .ok (.iload_n 2, 1) := by decide +kernel
theorem d_Mo_figures_61 : decode b_Mo_figures 61 = .ok (.ifCond .eq 7, 3) := by decide +kernel
theorem d_Mo_figures_64 : decode b_Mo_figures 64 = .ok (.iload_n 1, 1) := by decide +kernel
theorem d_Mo_figures_65 : decode b_Mo_figures 65 = .ok (.ifCond .le 32, 3) := by decide +kernel
theorem d_Mo_figures_68 : decode b_Mo_figures 68 = .ok (.bipush 10, 2) := by decide +kernel
theorem d_Mo_figures_70 : decode b_Mo_figures 70 = .ok (.iload_n 1, 1) := by decide +kernel
theorem d_Mo_figures_71 : decode b_Mo_figures 71 = .ok (.imul, 1) := by decide +kernel
theorem d_Mo_figures_72 : decode b_Mo_figures 72 = .ok (.aload_n 0, 1) := by decide +kernel
theorem d_Mo_figures_73 : decode b_Mo_figures 73 = .ok (.invokevirtual 64, 3) := by decide +kernel
theorem d_Mo_figures_76 : decode b_Mo_figures 76 = .ok (.iadd, 1) := by decide +kernel
theorem d_Mo_figures_77 : decode b_Mo_figures 77 = .ok (.bipush 48, 2) := by decide +kernel
theorem d_Mo_figures_79 : decode b_Mo_figures 79 = .ok (.isub, 1) := by decide +kernel
theorem d_Mo_figures_80 : decode b_Mo_figures 80 = .ok (.istore_n 1, 1) := by decide +kernel
theorem d_Mo_figures_81 : decode b_Mo_figures 81 = .ok (.aload_n 0, 1) := by decide +kernel
theorem d_Mo_figures_82 : decode b_Mo_figures 82 = .ok (.dup, 1) := by decide +kernel
theorem d_Mo_figures_83 : decode b_Mo_figures 83 = .ok (.getfield 54, 3) := by decide +kernel
theorem d_Mo_figures_86 : decode b_Mo_figures 86 = .ok (.iconst 1, 1) := by decide +kernel
theorem d_Mo_figures_87 : decode b_Mo_figures 87 = .ok (.iadd, 1) := by decide +kernel
theorem d_Mo_figures_88 : decode b_Mo_figures 88 = .ok (.putfield 54, 3) := by decide +kernel
theorem d_Mo_figures_91 : decode b_Mo_figures 91 = .ok (.iinc 2 1, 3) := by decide +kernel
theorem d_Mo_figures_94 : decode b_Mo_figures 94 = .ok (.goto (-60), 3) := by decide +kernel
theorem d_Mo_figures_97 : decode b_Mo_figures 97 = .ok (.iload_n 1, 1) := by decide +kernel
theorem d_Mo_figures_98 : decode b_Mo_figures 98 = .ok (.ireturn, 1) := by decide +kernel
theorem o_Mo_figures : OkV y_Mo_figures "OwnsLiftModel" b_Mo_figures 3 (some .int) 0 := ⟨⟨rfl, by decide +kernel, by decide +kernel, by decide +kernel⟩, g_1112, g_32, g_81, g_1113⟩
set_option maxHeartbeats 4000000 in
set_option maxRecDepth 100000 in
theorem c_Mo_figures (l : Launch) (D : va_G) (g : Nat → ClassId) (a : Nat → Nat) (z : T_Mo) (v : Int32 × T_Mo) (h : d_Mo_figures z = some v) :
    MI l y_Mo_figures b_Mo_figures 3 .int ({ frames := 1, cells := 0, slots := 0, locals := 22 } : Room) D g [.ref (a 0)] (ws_Mo g a z) (v.1) (ws_Mo g a v.2) := by
  have hd := h
  unfold d_Mo_figures at hd
  refine enterI rfl (Nat.le_of_ble_eq_true rfl) (fun p e s m below meth c A ls hx hb hml hr hown hg hlk hK hA hP hD hS hCs hl => ?_)
  have hown : s.vm.findClass "OwnsLiftModel" = some m.cls := hown
  have hl : lv_has ls 3 [(0, .ref (a 0))] := hl
  show GI p l e s m ({ frames := 1, cells := 0, slots := 0, locals := 22 } : Room) ([.ref (a 0)] : List Value).toArray below meth c A D g (ws_Mo g a v.2) (v.1) s.heap [] (F0 m 0 ls [])
  refine lv_aload_n hx hb d_Mo_figures_0 rfl (lv_at hl 0 rfl) ?_
  refine lv_aload_n hx hb d_Mo_figures_1 rfl (lv_at hl 0 rfl) ?_
  refine va_get (D := D) (ci := 1) (v := .int (q_Mo_isWrong z)) (C := R_Mo) (T := F_Mo) (N := 26) hx hb hg i_Mo hown hK hP 0 rfl rfl 8 (by decide) (hg _ g_1000) (fun _ h9 => h9) rfl d_Mo_figures_2 ?_
  refine lv_if_ne (tgt := 22) hx hb d_Mo_figures_5 (by decide) (fun h_1 => ?_) (fun h_1 => ?_)
  · have hd := ite_f hd h_1
    refine lv_iconst (v := 1) hx hb d_Mo_figures_22 (by decide) ?_
    refine lv_goto (tgt := 27) hx hb d_Mo_figures_23 (by decide) ?_
    refine va_put (D := D) (ci := 1) (v := .int 1) (ty := .boolean) (C := R_Mo) (T := F_Mo) (N := 26) hx hb hg i_Mo t_Mo t_Mo_ok n_Mo hown hK hP hD hS 0 rfl rfl 8 (by decide) (hg _ g_1000) (fun _ h9 => h9) rfl (by decide +kernel) (by decide +kernel) rfl (Nat.le_of_ble_eq_true rfl) d_Mo_figures_27 (fun H locs hP hD hS => ?_)
    have hP : va_P D classes (ws_Mo g a (u_Mo_isWrong z 1)) H := hP
    have hD : va_D A (ws_Mo g a (u_Mo_isWrong z 1)) := hD
    refine lv_iconst (v := 0) hx hb d_Mo_figures_30 (by decide) ?_
    refine lv_istore_n (lv' := [(1, .int 0), (0, .ref (a 0))]) hx hb d_Mo_figures_31 rfl hl (by decide) rfl (fun ls hl => ?_)
    refine lv_iconst (v := 0) hx hb d_Mo_figures_32 (by decide) ?_
    refine lv_istore_n (lv' := [(2, .int 0), (1, .int 0), (0, .ref (a 0))]) hx hb d_Mo_figures_33 rfl hl (by decide) rfl (fun ls hl => ?_)
    have lp34 : ∀ (n : Nat) (x1_34 : Int32) (x2_34 : Int32) (z_34 : T_Mo) (H : Heap) (locs : List Loc) (ls : Array Slot), va_P D classes (ws_Mo g a z_34) H → va_D A (ws_Mo g a z_34) → va_S A s.heap H locs → lv_has ls 3 [(0, .ref (a 0)), (1, .int x1_34), (2, .int x2_34)] → d_Mo_figures_L34 n x1_34 x2_34 z_34 = some v → GI p l e s m ({ frames := 1, cells := 0, slots := 0, locals := 22 } : Room) ([.ref (a 0)] : List Value).toArray below meth c A D g (ws_Mo g a v.2) (v.1) H locs (F0 m 34 ls []) := by
      intro n
      induction n with
      | zero =>
        intro  x1_34 x2_34 z_34 H locs ls hP hD hS hl hd
        have hd : none = some v := hd
        cases hd
      | succ n ih34 =>
        intro  x1_34 x2_34 z_34 H locs ls hP hD hS hl hd
        have hd : B_Mo_figures_L34 (d_Mo_figures_L34 n) x1_34 x2_34 z_34 = some v := hd
        generalize d_Mo_figures_L34 n = self34 at ih34 hd
        unfold B_Mo_figures_L34 at hd
        refine lv_iload_n hx hb d_Mo_figures_34 rfl (lv_at hl 2 rfl) ?_
        refine lv_iconst (v := 2) hx hb d_Mo_figures_35 (by decide) ?_
        refine lv_icmp_ge (tgt := 97) hx hb d_Mo_figures_36 (by decide) (fun h_2 => ?_) (fun h_2 => ?_)
        · have hd := ite_t hd h_2
          refine lv_iload_n hx hb d_Mo_figures_97 rfl (lv_at hl 1 rfl) ?_
          obtain rfl := Option.some.inj hd
          exact retI hx hb hr hlk hK hP hD hS d_Mo_figures_98 rfl
        · have hd := ite_f hd h_2
          refine lv_aload_n hx hb d_Mo_figures_39 rfl (lv_at hl 0 rfl) ?_
          refine va_get (D := D) (ci := 1) (v := .int (q_Mo_isWrong z_34)) (C := R_Mo) (T := F_Mo) (N := 26) hx hb hg i_Mo hown hK hP 0 rfl rfl 8 (by decide) (hg _ g_1000) (fun _ h9 => h9) rfl d_Mo_figures_40 ?_
          refine lv_if_ne (tgt := 97) hx hb d_Mo_figures_43 (by decide) (fun h_3 => ?_) (fun h_3 => ?_)
          · have hd := ite_f hd h_3
            refine lv_iload_n hx hb d_Mo_figures_97 rfl (lv_at hl 1 rfl) ?_
            obtain rfl := Option.some.inj hd
            exact retI hx hb hr hlk hK hP hD hS d_Mo_figures_98 rfl
          · have hd := ite_t hd h_3
            refine lv_aload_n hx hb d_Mo_figures_46 rfl (lv_at hl 0 rfl) ?_
            obtain ⟨v_4, e_5, hd⟩ := bind_s hd
            refine callVI (ws' := ws_Mo g a z_34) (rest := []) (As := []) hx hb hml hown hg hK hP hD hS hA hCs hl.1 (c_Mo_here l D g a z_34 _ e_5) o_Mo_here g_1087 (ci := 1) (q0 := 0) rfl rfl (List.range' 0 12) (segC1 rfl rfl) (by decide) rfl (segP1 rfl rfl) rfl rfl (Nat.le_of_ble_eq_true rfl) ⟨rfl, rfl, Nat.le_of_ble_eq_true rfl, Nat.le_of_ble_eq_true rfl⟩ d_Mo_figures_47 (fun H locs hP hD hS => ?_)
            refine lv_bipush (v := 48) hx hb d_Mo_figures_50 (by decide) ?_
            refine lv_bipush (v := 57) hx hb d_Mo_figures_52 (by decide) ?_
            obtain ⟨v_6, e_7, hd⟩ := bind_s hd
            refine callSI (ws' := ws_Mo g a z_34) (rest := []) (As := [.int v_4, .int 48, .int 57]) hx hb hml hown hg hK hP hD hS hA hCs hl.1 (c_Mo_in l D g  v_4 48 57 _ e_7) o_Mo_in g_1076 [] segC0 rfl rfl segP0 rfl rfl (Nat.le_of_ble_eq_true rfl) ⟨rfl, rfl, Nat.le_of_ble_eq_true rfl, Nat.le_of_ble_eq_true rfl⟩ d_Mo_figures_54 (fun H locs hP hD hS => ?_)
            refine lv_if_eq (tgt := 97) hx hb d_Mo_figures_57 (by decide) (fun h_8 => ?_) (fun h_8 => ?_)
            · have hd := ite_t hd h_8
              refine lv_iload_n hx hb d_Mo_figures_97 rfl (lv_at hl 1 rfl) ?_
              obtain rfl := Option.some.inj hd
              exact retI hx hb hr hlk hK hP hD hS d_Mo_figures_98 rfl
            · have hd := ite_f hd h_8
              refine lv_iload_n hx hb d_Mo_figures_60 rfl (lv_at hl 2 rfl) ?_
              refine lv_if_eq (tgt := 68) hx hb d_Mo_figures_61 (by decide) (fun h_9 => ?_) (fun h_9 => ?_)
              · have hd := ite_t hd h_9
                refine lv_bipush (v := 10) hx hb d_Mo_figures_68 (by decide) ?_
                refine lv_iload_n hx hb d_Mo_figures_70 rfl (lv_at hl 1 rfl) ?_
                refine lv_imul hx hb d_Mo_figures_71 ?_
                refine lv_aload_n hx hb d_Mo_figures_72 rfl (lv_at hl 0 rfl) ?_
                obtain ⟨v_10, e_11, hd⟩ := bind_s hd
                refine callVI (ws' := ws_Mo g a z_34) (rest := [.int (10 * x1_34)]) (As := []) hx hb hml hown hg hK hP hD hS hA hCs hl.1 (c_Mo_here l D g a z_34 _ e_11) o_Mo_here g_1087 (ci := 1) (q0 := 0) rfl rfl (List.range' 0 12) (segC1 rfl rfl) (by decide) rfl (segP1 rfl rfl) rfl rfl (Nat.le_of_ble_eq_true rfl) ⟨rfl, rfl, Nat.le_of_ble_eq_true rfl, Nat.le_of_ble_eq_true rfl⟩ d_Mo_figures_73 (fun H locs hP hD hS => ?_)
                refine lv_iadd hx hb d_Mo_figures_76 ?_
                refine lv_bipush (v := 48) hx hb d_Mo_figures_77 (by decide) ?_
                refine lv_isub hx hb d_Mo_figures_79 ?_
                refine lv_istore_n (lv' := [(1, .int (((10 * x1_34) + v_10) - 48)), (0, .ref (a 0)), (2, .int x2_34)]) hx hb d_Mo_figures_80 rfl hl (by decide) rfl (fun ls hl => ?_)
                refine lv_aload_n hx hb d_Mo_figures_81 rfl (lv_at hl 1 rfl) ?_
                refine lv_dup hx hb d_Mo_figures_82 rfl ?_
                refine va_get (D := D) (ci := 1) (v := .int (q_Mo_spot z_34)) (C := R_Mo) (T := F_Mo) (N := 26) hx hb hg i_Mo hown hK hP 0 rfl rfl 6 (by decide) (hg _ g_998) (fun _ h9 => h9) rfl d_Mo_figures_83 ?_
                refine lv_iconst (v := 1) hx hb d_Mo_figures_86 (by decide) ?_
                refine lv_iadd hx hb d_Mo_figures_87 ?_
                refine va_put (D := D) (ci := 1) (v := .int ((q_Mo_spot z_34) + 1)) (ty := .int) (C := R_Mo) (T := F_Mo) (N := 26) hx hb hg i_Mo t_Mo t_Mo_ok n_Mo hown hK hP hD hS 0 rfl rfl 6 (by decide) (hg _ g_998) (fun _ h9 => h9) rfl (by decide +kernel) rfl rfl (Nat.le_of_ble_eq_true rfl) d_Mo_figures_88 (fun H locs hP hD hS => ?_)
                have hP : va_P D classes (ws_Mo g a (u_Mo_spot z_34 ((q_Mo_spot z_34) + 1))) H := hP
                have hD : va_D A (ws_Mo g a (u_Mo_spot z_34 ((q_Mo_spot z_34) + 1))) := hD
                refine lv_iinc (v := x2_34 + 1) (lv' := [(2, .int (x2_34 + 1)), (1, .int (((10 * x1_34) + v_10) - 48)), (0, .ref (a 0))]) hx hb d_Mo_figures_91 hl (k := 2) rfl (by rfl) (by decide) rfl (fun ls hl => ?_)
                refine lv_goto (tgt := 34) hx hb d_Mo_figures_94 (by decide) ?_
                exact ih34 (((10 * x1_34) + v_10) - 48) (x2_34 + 1) (u_Mo_spot z_34 ((q_Mo_spot z_34) + 1)) _ _ _ hP hD hS (lv_sub hl [2, 1, 0] rfl) hd
              · have hd := ite_f hd h_9
                refine lv_iload_n hx hb d_Mo_figures_64 rfl (lv_at hl 1 rfl) ?_
                refine lv_if_le (tgt := 97) hx hb d_Mo_figures_65 (by decide) (fun h_12 => ?_) (fun h_12 => ?_)
                · have hd := ite_t hd h_12
                  refine lv_iload_n hx hb d_Mo_figures_97 rfl (lv_at hl 1 rfl) ?_
                  obtain rfl := Option.some.inj hd
                  exact retI hx hb hr hlk hK hP hD hS d_Mo_figures_98 rfl
                · have hd := ite_f hd h_12
                  refine lv_bipush (v := 10) hx hb d_Mo_figures_68 (by decide) ?_
                  refine lv_iload_n hx hb d_Mo_figures_70 rfl (lv_at hl 1 rfl) ?_
                  refine lv_imul hx hb d_Mo_figures_71 ?_
                  refine lv_aload_n hx hb d_Mo_figures_72 rfl (lv_at hl 0 rfl) ?_
                  obtain ⟨v_13, e_14, hd⟩ := bind_s hd
                  refine callVI (ws' := ws_Mo g a z_34) (rest := [.int (10 * x1_34)]) (As := []) hx hb hml hown hg hK hP hD hS hA hCs hl.1 (c_Mo_here l D g a z_34 _ e_14) o_Mo_here g_1087 (ci := 1) (q0 := 0) rfl rfl (List.range' 0 12) (segC1 rfl rfl) (by decide) rfl (segP1 rfl rfl) rfl rfl (Nat.le_of_ble_eq_true rfl) ⟨rfl, rfl, Nat.le_of_ble_eq_true rfl, Nat.le_of_ble_eq_true rfl⟩ d_Mo_figures_73 (fun H locs hP hD hS => ?_)
                  refine lv_iadd hx hb d_Mo_figures_76 ?_
                  refine lv_bipush (v := 48) hx hb d_Mo_figures_77 (by decide) ?_
                  refine lv_isub hx hb d_Mo_figures_79 ?_
                  refine lv_istore_n (lv' := [(1, .int (((10 * x1_34) + v_13) - 48)), (0, .ref (a 0)), (2, .int x2_34)]) hx hb d_Mo_figures_80 rfl hl (by decide) rfl (fun ls hl => ?_)
                  refine lv_aload_n hx hb d_Mo_figures_81 rfl (lv_at hl 1 rfl) ?_
                  refine lv_dup hx hb d_Mo_figures_82 rfl ?_
                  refine va_get (D := D) (ci := 1) (v := .int (q_Mo_spot z_34)) (C := R_Mo) (T := F_Mo) (N := 26) hx hb hg i_Mo hown hK hP 0 rfl rfl 6 (by decide) (hg _ g_998) (fun _ h9 => h9) rfl d_Mo_figures_83 ?_
                  refine lv_iconst (v := 1) hx hb d_Mo_figures_86 (by decide) ?_
                  refine lv_iadd hx hb d_Mo_figures_87 ?_
                  refine va_put (D := D) (ci := 1) (v := .int ((q_Mo_spot z_34) + 1)) (ty := .int) (C := R_Mo) (T := F_Mo) (N := 26) hx hb hg i_Mo t_Mo t_Mo_ok n_Mo hown hK hP hD hS 0 rfl rfl 6 (by decide) (hg _ g_998) (fun _ h9 => h9) rfl (by decide +kernel) rfl rfl (Nat.le_of_ble_eq_true rfl) d_Mo_figures_88 (fun H locs hP hD hS => ?_)
                  have hP : va_P D classes (ws_Mo g a (u_Mo_spot z_34 ((q_Mo_spot z_34) + 1))) H := hP
                  have hD : va_D A (ws_Mo g a (u_Mo_spot z_34 ((q_Mo_spot z_34) + 1))) := hD
                  refine lv_iinc (v := x2_34 + 1) (lv' := [(2, .int (x2_34 + 1)), (1, .int (((10 * x1_34) + v_13) - 48)), (0, .ref (a 0))]) hx hb d_Mo_figures_91 hl (k := 2) rfl (by rfl) (by decide) rfl (fun ls hl => ?_)
                  refine lv_goto (tgt := 34) hx hb d_Mo_figures_94 (by decide) ?_
                  exact ih34 (((10 * x1_34) + v_13) - 48) (x2_34 + 1) (u_Mo_spot z_34 ((q_Mo_spot z_34) + 1)) _ _ _ hP hD hS (lv_sub hl [2, 1, 0] rfl) hd
    exact lp34 1000 0 0 (u_Mo_isWrong z 1) _ _ _ hP hD hS (lv_sub hl [2, 1, 0] rfl) hd
  · have hd := ite_t hd h_1
    refine lv_aload_n hx hb d_Mo_figures_8 rfl (lv_at hl 0 rfl) ?_
    obtain ⟨v_15, e_16, hd⟩ := bind_s hd
    refine callVI (ws' := ws_Mo g a z) (rest := [.ref (a 0)]) (As := []) hx hb hml hown hg hK hP hD hS hA hCs hl.1 (c_Mo_here l D g a z _ e_16) o_Mo_here g_1087 (ci := 1) (q0 := 0) rfl rfl (List.range' 0 12) (segC1 rfl rfl) (by decide) rfl (segP1 rfl rfl) rfl rfl (Nat.le_of_ble_eq_true rfl) ⟨rfl, rfl, Nat.le_of_ble_eq_true rfl, Nat.le_of_ble_eq_true rfl⟩ d_Mo_figures_9 (fun H locs hP hD hS => ?_)
    refine lv_bipush (v := 48) hx hb d_Mo_figures_12 (by decide) ?_
    refine lv_bipush (v := 57) hx hb d_Mo_figures_14 (by decide) ?_
    obtain ⟨v_17, e_18, hd⟩ := bind_s hd
    refine callSI (ws' := ws_Mo g a z) (rest := [.ref (a 0)]) (As := [.int v_15, .int 48, .int 57]) hx hb hml hown hg hK hP hD hS hA hCs hl.1 (c_Mo_in l D g  v_15 48 57 _ e_18) o_Mo_in g_1076 [] segC0 rfl rfl segP0 rfl rfl (Nat.le_of_ble_eq_true rfl) ⟨rfl, rfl, Nat.le_of_ble_eq_true rfl, Nat.le_of_ble_eq_true rfl⟩ d_Mo_figures_16 (fun H locs hP hD hS => ?_)
    refine lv_if_ne (tgt := 26) hx hb d_Mo_figures_19 (by decide) (fun h_19 => ?_) (fun h_19 => ?_)
    · have hd := ite_f hd h_19
      refine lv_iconst (v := 0) hx hb d_Mo_figures_26 (by decide) ?_
      refine va_put (D := D) (ci := 1) (v := .int 0) (ty := .boolean) (C := R_Mo) (T := F_Mo) (N := 26) hx hb hg i_Mo t_Mo t_Mo_ok n_Mo hown hK hP hD hS 0 rfl rfl 8 (by decide) (hg _ g_1000) (fun _ h9 => h9) rfl (by decide +kernel) (by decide +kernel) rfl (Nat.le_of_ble_eq_true rfl) d_Mo_figures_27 (fun H locs hP hD hS => ?_)
      have hP : va_P D classes (ws_Mo g a (u_Mo_isWrong z 0)) H := hP
      have hD : va_D A (ws_Mo g a (u_Mo_isWrong z 0)) := hD
      refine lv_iconst (v := 0) hx hb d_Mo_figures_30 (by decide) ?_
      refine lv_istore_n (lv' := [(1, .int 0), (0, .ref (a 0))]) hx hb d_Mo_figures_31 rfl hl (by decide) rfl (fun ls hl => ?_)
      refine lv_iconst (v := 0) hx hb d_Mo_figures_32 (by decide) ?_
      refine lv_istore_n (lv' := [(2, .int 0), (1, .int 0), (0, .ref (a 0))]) hx hb d_Mo_figures_33 rfl hl (by decide) rfl (fun ls hl => ?_)
      have lp34 : ∀ (n : Nat) (x1_34 : Int32) (x2_34 : Int32) (z_34 : T_Mo) (H : Heap) (locs : List Loc) (ls : Array Slot), va_P D classes (ws_Mo g a z_34) H → va_D A (ws_Mo g a z_34) → va_S A s.heap H locs → lv_has ls 3 [(0, .ref (a 0)), (1, .int x1_34), (2, .int x2_34)] → d_Mo_figures_L34 n x1_34 x2_34 z_34 = some v → GI p l e s m ({ frames := 1, cells := 0, slots := 0, locals := 22 } : Room) ([.ref (a 0)] : List Value).toArray below meth c A D g (ws_Mo g a v.2) (v.1) H locs (F0 m 34 ls []) := by
        intro n
        induction n with
        | zero =>
          intro  x1_34 x2_34 z_34 H locs ls hP hD hS hl hd
          have hd : none = some v := hd
          cases hd
        | succ n ih34 =>
          intro  x1_34 x2_34 z_34 H locs ls hP hD hS hl hd
          have hd : B_Mo_figures_L34 (d_Mo_figures_L34 n) x1_34 x2_34 z_34 = some v := hd
          generalize d_Mo_figures_L34 n = self34 at ih34 hd
          unfold B_Mo_figures_L34 at hd
          refine lv_iload_n hx hb d_Mo_figures_34 rfl (lv_at hl 2 rfl) ?_
          refine lv_iconst (v := 2) hx hb d_Mo_figures_35 (by decide) ?_
          refine lv_icmp_ge (tgt := 97) hx hb d_Mo_figures_36 (by decide) (fun h_20 => ?_) (fun h_20 => ?_)
          · have hd := ite_t hd h_20
            refine lv_iload_n hx hb d_Mo_figures_97 rfl (lv_at hl 1 rfl) ?_
            obtain rfl := Option.some.inj hd
            exact retI hx hb hr hlk hK hP hD hS d_Mo_figures_98 rfl
          · have hd := ite_f hd h_20
            refine lv_aload_n hx hb d_Mo_figures_39 rfl (lv_at hl 0 rfl) ?_
            refine va_get (D := D) (ci := 1) (v := .int (q_Mo_isWrong z_34)) (C := R_Mo) (T := F_Mo) (N := 26) hx hb hg i_Mo hown hK hP 0 rfl rfl 8 (by decide) (hg _ g_1000) (fun _ h9 => h9) rfl d_Mo_figures_40 ?_
            refine lv_if_ne (tgt := 97) hx hb d_Mo_figures_43 (by decide) (fun h_21 => ?_) (fun h_21 => ?_)
            · have hd := ite_f hd h_21
              refine lv_iload_n hx hb d_Mo_figures_97 rfl (lv_at hl 1 rfl) ?_
              obtain rfl := Option.some.inj hd
              exact retI hx hb hr hlk hK hP hD hS d_Mo_figures_98 rfl
            · have hd := ite_t hd h_21
              refine lv_aload_n hx hb d_Mo_figures_46 rfl (lv_at hl 0 rfl) ?_
              obtain ⟨v_22, e_23, hd⟩ := bind_s hd
              refine callVI (ws' := ws_Mo g a z_34) (rest := []) (As := []) hx hb hml hown hg hK hP hD hS hA hCs hl.1 (c_Mo_here l D g a z_34 _ e_23) o_Mo_here g_1087 (ci := 1) (q0 := 0) rfl rfl (List.range' 0 12) (segC1 rfl rfl) (by decide) rfl (segP1 rfl rfl) rfl rfl (Nat.le_of_ble_eq_true rfl) ⟨rfl, rfl, Nat.le_of_ble_eq_true rfl, Nat.le_of_ble_eq_true rfl⟩ d_Mo_figures_47 (fun H locs hP hD hS => ?_)
              refine lv_bipush (v := 48) hx hb d_Mo_figures_50 (by decide) ?_
              refine lv_bipush (v := 57) hx hb d_Mo_figures_52 (by decide) ?_
              obtain ⟨v_24, e_25, hd⟩ := bind_s hd
              refine callSI (ws' := ws_Mo g a z_34) (rest := []) (As := [.int v_22, .int 48, .int 57]) hx hb hml hown hg hK hP hD hS hA hCs hl.1 (c_Mo_in l D g  v_22 48 57 _ e_25) o_Mo_in g_1076 [] segC0 rfl rfl segP0 rfl rfl (Nat.le_of_ble_eq_true rfl) ⟨rfl, rfl, Nat.le_of_ble_eq_true rfl, Nat.le_of_ble_eq_true rfl⟩ d_Mo_figures_54 (fun H locs hP hD hS => ?_)
              refine lv_if_eq (tgt := 97) hx hb d_Mo_figures_57 (by decide) (fun h_26 => ?_) (fun h_26 => ?_)
              · have hd := ite_t hd h_26
                refine lv_iload_n hx hb d_Mo_figures_97 rfl (lv_at hl 1 rfl) ?_
                obtain rfl := Option.some.inj hd
                exact retI hx hb hr hlk hK hP hD hS d_Mo_figures_98 rfl
              · have hd := ite_f hd h_26
                refine lv_iload_n hx hb d_Mo_figures_60 rfl (lv_at hl 2 rfl) ?_
                refine lv_if_eq (tgt := 68) hx hb d_Mo_figures_61 (by decide) (fun h_27 => ?_) (fun h_27 => ?_)
                · have hd := ite_t hd h_27
                  refine lv_bipush (v := 10) hx hb d_Mo_figures_68 (by decide) ?_
                  refine lv_iload_n hx hb d_Mo_figures_70 rfl (lv_at hl 1 rfl) ?_
                  refine lv_imul hx hb d_Mo_figures_71 ?_
                  refine lv_aload_n hx hb d_Mo_figures_72 rfl (lv_at hl 0 rfl) ?_
                  obtain ⟨v_28, e_29, hd⟩ := bind_s hd
                  refine callVI (ws' := ws_Mo g a z_34) (rest := [.int (10 * x1_34)]) (As := []) hx hb hml hown hg hK hP hD hS hA hCs hl.1 (c_Mo_here l D g a z_34 _ e_29) o_Mo_here g_1087 (ci := 1) (q0 := 0) rfl rfl (List.range' 0 12) (segC1 rfl rfl) (by decide) rfl (segP1 rfl rfl) rfl rfl (Nat.le_of_ble_eq_true rfl) ⟨rfl, rfl, Nat.le_of_ble_eq_true rfl, Nat.le_of_ble_eq_true rfl⟩ d_Mo_figures_73 (fun H locs hP hD hS => ?_)
                  refine lv_iadd hx hb d_Mo_figures_76 ?_
                  refine lv_bipush (v := 48) hx hb d_Mo_figures_77 (by decide) ?_
                  refine lv_isub hx hb d_Mo_figures_79 ?_
                  refine lv_istore_n (lv' := [(1, .int (((10 * x1_34) + v_28) - 48)), (0, .ref (a 0)), (2, .int x2_34)]) hx hb d_Mo_figures_80 rfl hl (by decide) rfl (fun ls hl => ?_)
                  refine lv_aload_n hx hb d_Mo_figures_81 rfl (lv_at hl 1 rfl) ?_
                  refine lv_dup hx hb d_Mo_figures_82 rfl ?_
                  refine va_get (D := D) (ci := 1) (v := .int (q_Mo_spot z_34)) (C := R_Mo) (T := F_Mo) (N := 26) hx hb hg i_Mo hown hK hP 0 rfl rfl 6 (by decide) (hg _ g_998) (fun _ h9 => h9) rfl d_Mo_figures_83 ?_
                  refine lv_iconst (v := 1) hx hb d_Mo_figures_86 (by decide) ?_
                  refine lv_iadd hx hb d_Mo_figures_87 ?_
                  refine va_put (D := D) (ci := 1) (v := .int ((q_Mo_spot z_34) + 1)) (ty := .int) (C := R_Mo) (T := F_Mo) (N := 26) hx hb hg i_Mo t_Mo t_Mo_ok n_Mo hown hK hP hD hS 0 rfl rfl 6 (by decide) (hg _ g_998) (fun _ h9 => h9) rfl (by decide +kernel) rfl rfl (Nat.le_of_ble_eq_true rfl) d_Mo_figures_88 (fun H locs hP hD hS => ?_)
                  have hP : va_P D classes (ws_Mo g a (u_Mo_spot z_34 ((q_Mo_spot z_34) + 1))) H := hP
                  have hD : va_D A (ws_Mo g a (u_Mo_spot z_34 ((q_Mo_spot z_34) + 1))) := hD
                  refine lv_iinc (v := x2_34 + 1) (lv' := [(2, .int (x2_34 + 1)), (1, .int (((10 * x1_34) + v_28) - 48)), (0, .ref (a 0))]) hx hb d_Mo_figures_91 hl (k := 2) rfl (by rfl) (by decide) rfl (fun ls hl => ?_)
                  refine lv_goto (tgt := 34) hx hb d_Mo_figures_94 (by decide) ?_
                  exact ih34 (((10 * x1_34) + v_28) - 48) (x2_34 + 1) (u_Mo_spot z_34 ((q_Mo_spot z_34) + 1)) _ _ _ hP hD hS (lv_sub hl [2, 1, 0] rfl) hd
                · have hd := ite_f hd h_27
                  refine lv_iload_n hx hb d_Mo_figures_64 rfl (lv_at hl 1 rfl) ?_
                  refine lv_if_le (tgt := 97) hx hb d_Mo_figures_65 (by decide) (fun h_30 => ?_) (fun h_30 => ?_)
                  · have hd := ite_t hd h_30
                    refine lv_iload_n hx hb d_Mo_figures_97 rfl (lv_at hl 1 rfl) ?_
                    obtain rfl := Option.some.inj hd
                    exact retI hx hb hr hlk hK hP hD hS d_Mo_figures_98 rfl
                  · have hd := ite_f hd h_30
                    refine lv_bipush (v := 10) hx hb d_Mo_figures_68 (by decide) ?_
                    refine lv_iload_n hx hb d_Mo_figures_70 rfl (lv_at hl 1 rfl) ?_
                    refine lv_imul hx hb d_Mo_figures_71 ?_
                    refine lv_aload_n hx hb d_Mo_figures_72 rfl (lv_at hl 0 rfl) ?_
                    obtain ⟨v_31, e_32, hd⟩ := bind_s hd
                    refine callVI (ws' := ws_Mo g a z_34) (rest := [.int (10 * x1_34)]) (As := []) hx hb hml hown hg hK hP hD hS hA hCs hl.1 (c_Mo_here l D g a z_34 _ e_32) o_Mo_here g_1087 (ci := 1) (q0 := 0) rfl rfl (List.range' 0 12) (segC1 rfl rfl) (by decide) rfl (segP1 rfl rfl) rfl rfl (Nat.le_of_ble_eq_true rfl) ⟨rfl, rfl, Nat.le_of_ble_eq_true rfl, Nat.le_of_ble_eq_true rfl⟩ d_Mo_figures_73 (fun H locs hP hD hS => ?_)
                    refine lv_iadd hx hb d_Mo_figures_76 ?_
                    refine lv_bipush (v := 48) hx hb d_Mo_figures_77 (by decide) ?_
                    refine lv_isub hx hb d_Mo_figures_79 ?_
                    refine lv_istore_n (lv' := [(1, .int (((10 * x1_34) + v_31) - 48)), (0, .ref (a 0)), (2, .int x2_34)]) hx hb d_Mo_figures_80 rfl hl (by decide) rfl (fun ls hl => ?_)
                    refine lv_aload_n hx hb d_Mo_figures_81 rfl (lv_at hl 1 rfl) ?_
                    refine lv_dup hx hb d_Mo_figures_82 rfl ?_
                    refine va_get (D := D) (ci := 1) (v := .int (q_Mo_spot z_34)) (C := R_Mo) (T := F_Mo) (N := 26) hx hb hg i_Mo hown hK hP 0 rfl rfl 6 (by decide) (hg _ g_998) (fun _ h9 => h9) rfl d_Mo_figures_83 ?_
                    refine lv_iconst (v := 1) hx hb d_Mo_figures_86 (by decide) ?_
                    refine lv_iadd hx hb d_Mo_figures_87 ?_
                    refine va_put (D := D) (ci := 1) (v := .int ((q_Mo_spot z_34) + 1)) (ty := .int) (C := R_Mo) (T := F_Mo) (N := 26) hx hb hg i_Mo t_Mo t_Mo_ok n_Mo hown hK hP hD hS 0 rfl rfl 6 (by decide) (hg _ g_998) (fun _ h9 => h9) rfl (by decide +kernel) rfl rfl (Nat.le_of_ble_eq_true rfl) d_Mo_figures_88 (fun H locs hP hD hS => ?_)
                    have hP : va_P D classes (ws_Mo g a (u_Mo_spot z_34 ((q_Mo_spot z_34) + 1))) H := hP
                    have hD : va_D A (ws_Mo g a (u_Mo_spot z_34 ((q_Mo_spot z_34) + 1))) := hD
                    refine lv_iinc (v := x2_34 + 1) (lv' := [(2, .int (x2_34 + 1)), (1, .int (((10 * x1_34) + v_31) - 48)), (0, .ref (a 0))]) hx hb d_Mo_figures_91 hl (k := 2) rfl (by rfl) (by decide) rfl (fun ls hl => ?_)
                    refine lv_goto (tgt := 34) hx hb d_Mo_figures_94 (by decide) ?_
                    exact ih34 (((10 * x1_34) + v_31) - 48) (x2_34 + 1) (u_Mo_spot z_34 ((q_Mo_spot z_34) + 1)) _ _ _ hP hD hS (lv_sub hl [2, 1, 0] rfl) hd
      exact lp34 1000 0 0 (u_Mo_isWrong z 0) _ _ _ hP hD hS (lv_sub hl [2, 1, 0] rfl) hd
    · have hd := ite_t hd h_19
      refine lv_iconst (v := 1) hx hb d_Mo_figures_22 (by decide) ?_
      refine lv_goto (tgt := 27) hx hb d_Mo_figures_23 (by decide) ?_
      refine va_put (D := D) (ci := 1) (v := .int 1) (ty := .boolean) (C := R_Mo) (T := F_Mo) (N := 26) hx hb hg i_Mo t_Mo t_Mo_ok n_Mo hown hK hP hD hS 0 rfl rfl 8 (by decide) (hg _ g_1000) (fun _ h9 => h9) rfl (by decide +kernel) (by decide +kernel) rfl (Nat.le_of_ble_eq_true rfl) d_Mo_figures_27 (fun H locs hP hD hS => ?_)
      have hP : va_P D classes (ws_Mo g a (u_Mo_isWrong z 1)) H := hP
      have hD : va_D A (ws_Mo g a (u_Mo_isWrong z 1)) := hD
      refine lv_iconst (v := 0) hx hb d_Mo_figures_30 (by decide) ?_
      refine lv_istore_n (lv' := [(1, .int 0), (0, .ref (a 0))]) hx hb d_Mo_figures_31 rfl hl (by decide) rfl (fun ls hl => ?_)
      refine lv_iconst (v := 0) hx hb d_Mo_figures_32 (by decide) ?_
      refine lv_istore_n (lv' := [(2, .int 0), (1, .int 0), (0, .ref (a 0))]) hx hb d_Mo_figures_33 rfl hl (by decide) rfl (fun ls hl => ?_)
      have lp34 : ∀ (n : Nat) (x1_34 : Int32) (x2_34 : Int32) (z_34 : T_Mo) (H : Heap) (locs : List Loc) (ls : Array Slot), va_P D classes (ws_Mo g a z_34) H → va_D A (ws_Mo g a z_34) → va_S A s.heap H locs → lv_has ls 3 [(0, .ref (a 0)), (1, .int x1_34), (2, .int x2_34)] → d_Mo_figures_L34 n x1_34 x2_34 z_34 = some v → GI p l e s m ({ frames := 1, cells := 0, slots := 0, locals := 22 } : Room) ([.ref (a 0)] : List Value).toArray below meth c A D g (ws_Mo g a v.2) (v.1) H locs (F0 m 34 ls []) := by
        intro n
        induction n with
        | zero =>
          intro  x1_34 x2_34 z_34 H locs ls hP hD hS hl hd
          have hd : none = some v := hd
          cases hd
        | succ n ih34 =>
          intro  x1_34 x2_34 z_34 H locs ls hP hD hS hl hd
          have hd : B_Mo_figures_L34 (d_Mo_figures_L34 n) x1_34 x2_34 z_34 = some v := hd
          generalize d_Mo_figures_L34 n = self34 at ih34 hd
          unfold B_Mo_figures_L34 at hd
          refine lv_iload_n hx hb d_Mo_figures_34 rfl (lv_at hl 2 rfl) ?_
          refine lv_iconst (v := 2) hx hb d_Mo_figures_35 (by decide) ?_
          refine lv_icmp_ge (tgt := 97) hx hb d_Mo_figures_36 (by decide) (fun h_33 => ?_) (fun h_33 => ?_)
          · have hd := ite_t hd h_33
            refine lv_iload_n hx hb d_Mo_figures_97 rfl (lv_at hl 1 rfl) ?_
            obtain rfl := Option.some.inj hd
            exact retI hx hb hr hlk hK hP hD hS d_Mo_figures_98 rfl
          · have hd := ite_f hd h_33
            refine lv_aload_n hx hb d_Mo_figures_39 rfl (lv_at hl 0 rfl) ?_
            refine va_get (D := D) (ci := 1) (v := .int (q_Mo_isWrong z_34)) (C := R_Mo) (T := F_Mo) (N := 26) hx hb hg i_Mo hown hK hP 0 rfl rfl 8 (by decide) (hg _ g_1000) (fun _ h9 => h9) rfl d_Mo_figures_40 ?_
            refine lv_if_ne (tgt := 97) hx hb d_Mo_figures_43 (by decide) (fun h_34 => ?_) (fun h_34 => ?_)
            · have hd := ite_f hd h_34
              refine lv_iload_n hx hb d_Mo_figures_97 rfl (lv_at hl 1 rfl) ?_
              obtain rfl := Option.some.inj hd
              exact retI hx hb hr hlk hK hP hD hS d_Mo_figures_98 rfl
            · have hd := ite_t hd h_34
              refine lv_aload_n hx hb d_Mo_figures_46 rfl (lv_at hl 0 rfl) ?_
              obtain ⟨v_35, e_36, hd⟩ := bind_s hd
              refine callVI (ws' := ws_Mo g a z_34) (rest := []) (As := []) hx hb hml hown hg hK hP hD hS hA hCs hl.1 (c_Mo_here l D g a z_34 _ e_36) o_Mo_here g_1087 (ci := 1) (q0 := 0) rfl rfl (List.range' 0 12) (segC1 rfl rfl) (by decide) rfl (segP1 rfl rfl) rfl rfl (Nat.le_of_ble_eq_true rfl) ⟨rfl, rfl, Nat.le_of_ble_eq_true rfl, Nat.le_of_ble_eq_true rfl⟩ d_Mo_figures_47 (fun H locs hP hD hS => ?_)
              refine lv_bipush (v := 48) hx hb d_Mo_figures_50 (by decide) ?_
              refine lv_bipush (v := 57) hx hb d_Mo_figures_52 (by decide) ?_
              obtain ⟨v_37, e_38, hd⟩ := bind_s hd
              refine callSI (ws' := ws_Mo g a z_34) (rest := []) (As := [.int v_35, .int 48, .int 57]) hx hb hml hown hg hK hP hD hS hA hCs hl.1 (c_Mo_in l D g  v_35 48 57 _ e_38) o_Mo_in g_1076 [] segC0 rfl rfl segP0 rfl rfl (Nat.le_of_ble_eq_true rfl) ⟨rfl, rfl, Nat.le_of_ble_eq_true rfl, Nat.le_of_ble_eq_true rfl⟩ d_Mo_figures_54 (fun H locs hP hD hS => ?_)
              refine lv_if_eq (tgt := 97) hx hb d_Mo_figures_57 (by decide) (fun h_39 => ?_) (fun h_39 => ?_)
              · have hd := ite_t hd h_39
                refine lv_iload_n hx hb d_Mo_figures_97 rfl (lv_at hl 1 rfl) ?_
                obtain rfl := Option.some.inj hd
                exact retI hx hb hr hlk hK hP hD hS d_Mo_figures_98 rfl
              · have hd := ite_f hd h_39
                refine lv_iload_n hx hb d_Mo_figures_60 rfl (lv_at hl 2 rfl) ?_
                refine lv_if_eq (tgt := 68) hx hb d_Mo_figures_61 (by decide) (fun h_40 => ?_) (fun h_40 => ?_)
                · have hd := ite_t hd h_40
                  refine lv_bipush (v := 10) hx hb d_Mo_figures_68 (by decide) ?_
                  refine lv_iload_n hx hb d_Mo_figures_70 rfl (lv_at hl 1 rfl) ?_
                  refine lv_imul hx hb d_Mo_figures_71 ?_
                  refine lv_aload_n hx hb d_Mo_figures_72 rfl (lv_at hl 0 rfl) ?_
                  obtain ⟨v_41, e_42, hd⟩ := bind_s hd
                  refine callVI (ws' := ws_Mo g a z_34) (rest := [.int (10 * x1_34)]) (As := []) hx hb hml hown hg hK hP hD hS hA hCs hl.1 (c_Mo_here l D g a z_34 _ e_42) o_Mo_here g_1087 (ci := 1) (q0 := 0) rfl rfl (List.range' 0 12) (segC1 rfl rfl) (by decide) rfl (segP1 rfl rfl) rfl rfl (Nat.le_of_ble_eq_true rfl) ⟨rfl, rfl, Nat.le_of_ble_eq_true rfl, Nat.le_of_ble_eq_true rfl⟩ d_Mo_figures_73 (fun H locs hP hD hS => ?_)
                  refine lv_iadd hx hb d_Mo_figures_76 ?_
                  refine lv_bipush (v := 48) hx hb d_Mo_figures_77 (by decide) ?_
                  refine lv_isub hx hb d_Mo_figures_79 ?_
                  refine lv_istore_n (lv' := [(1, .int (((10 * x1_34) + v_41) - 48)), (0, .ref (a 0)), (2, .int x2_34)]) hx hb d_Mo_figures_80 rfl hl (by decide) rfl (fun ls hl => ?_)
                  refine lv_aload_n hx hb d_Mo_figures_81 rfl (lv_at hl 1 rfl) ?_
                  refine lv_dup hx hb d_Mo_figures_82 rfl ?_
                  refine va_get (D := D) (ci := 1) (v := .int (q_Mo_spot z_34)) (C := R_Mo) (T := F_Mo) (N := 26) hx hb hg i_Mo hown hK hP 0 rfl rfl 6 (by decide) (hg _ g_998) (fun _ h9 => h9) rfl d_Mo_figures_83 ?_
                  refine lv_iconst (v := 1) hx hb d_Mo_figures_86 (by decide) ?_
                  refine lv_iadd hx hb d_Mo_figures_87 ?_
                  refine va_put (D := D) (ci := 1) (v := .int ((q_Mo_spot z_34) + 1)) (ty := .int) (C := R_Mo) (T := F_Mo) (N := 26) hx hb hg i_Mo t_Mo t_Mo_ok n_Mo hown hK hP hD hS 0 rfl rfl 6 (by decide) (hg _ g_998) (fun _ h9 => h9) rfl (by decide +kernel) rfl rfl (Nat.le_of_ble_eq_true rfl) d_Mo_figures_88 (fun H locs hP hD hS => ?_)
                  have hP : va_P D classes (ws_Mo g a (u_Mo_spot z_34 ((q_Mo_spot z_34) + 1))) H := hP
                  have hD : va_D A (ws_Mo g a (u_Mo_spot z_34 ((q_Mo_spot z_34) + 1))) := hD
                  refine lv_iinc (v := x2_34 + 1) (lv' := [(2, .int (x2_34 + 1)), (1, .int (((10 * x1_34) + v_41) - 48)), (0, .ref (a 0))]) hx hb d_Mo_figures_91 hl (k := 2) rfl (by rfl) (by decide) rfl (fun ls hl => ?_)
                  refine lv_goto (tgt := 34) hx hb d_Mo_figures_94 (by decide) ?_
                  exact ih34 (((10 * x1_34) + v_41) - 48) (x2_34 + 1) (u_Mo_spot z_34 ((q_Mo_spot z_34) + 1)) _ _ _ hP hD hS (lv_sub hl [2, 1, 0] rfl) hd
                · have hd := ite_f hd h_40
                  refine lv_iload_n hx hb d_Mo_figures_64 rfl (lv_at hl 1 rfl) ?_
                  refine lv_if_le (tgt := 97) hx hb d_Mo_figures_65 (by decide) (fun h_43 => ?_) (fun h_43 => ?_)
                  · have hd := ite_t hd h_43
                    refine lv_iload_n hx hb d_Mo_figures_97 rfl (lv_at hl 1 rfl) ?_
                    obtain rfl := Option.some.inj hd
                    exact retI hx hb hr hlk hK hP hD hS d_Mo_figures_98 rfl
                  · have hd := ite_f hd h_43
                    refine lv_bipush (v := 10) hx hb d_Mo_figures_68 (by decide) ?_
                    refine lv_iload_n hx hb d_Mo_figures_70 rfl (lv_at hl 1 rfl) ?_
                    refine lv_imul hx hb d_Mo_figures_71 ?_
                    refine lv_aload_n hx hb d_Mo_figures_72 rfl (lv_at hl 0 rfl) ?_
                    obtain ⟨v_44, e_45, hd⟩ := bind_s hd
                    refine callVI (ws' := ws_Mo g a z_34) (rest := [.int (10 * x1_34)]) (As := []) hx hb hml hown hg hK hP hD hS hA hCs hl.1 (c_Mo_here l D g a z_34 _ e_45) o_Mo_here g_1087 (ci := 1) (q0 := 0) rfl rfl (List.range' 0 12) (segC1 rfl rfl) (by decide) rfl (segP1 rfl rfl) rfl rfl (Nat.le_of_ble_eq_true rfl) ⟨rfl, rfl, Nat.le_of_ble_eq_true rfl, Nat.le_of_ble_eq_true rfl⟩ d_Mo_figures_73 (fun H locs hP hD hS => ?_)
                    refine lv_iadd hx hb d_Mo_figures_76 ?_
                    refine lv_bipush (v := 48) hx hb d_Mo_figures_77 (by decide) ?_
                    refine lv_isub hx hb d_Mo_figures_79 ?_
                    refine lv_istore_n (lv' := [(1, .int (((10 * x1_34) + v_44) - 48)), (0, .ref (a 0)), (2, .int x2_34)]) hx hb d_Mo_figures_80 rfl hl (by decide) rfl (fun ls hl => ?_)
                    refine lv_aload_n hx hb d_Mo_figures_81 rfl (lv_at hl 1 rfl) ?_
                    refine lv_dup hx hb d_Mo_figures_82 rfl ?_
                    refine va_get (D := D) (ci := 1) (v := .int (q_Mo_spot z_34)) (C := R_Mo) (T := F_Mo) (N := 26) hx hb hg i_Mo hown hK hP 0 rfl rfl 6 (by decide) (hg _ g_998) (fun _ h9 => h9) rfl d_Mo_figures_83 ?_
                    refine lv_iconst (v := 1) hx hb d_Mo_figures_86 (by decide) ?_
                    refine lv_iadd hx hb d_Mo_figures_87 ?_
                    refine va_put (D := D) (ci := 1) (v := .int ((q_Mo_spot z_34) + 1)) (ty := .int) (C := R_Mo) (T := F_Mo) (N := 26) hx hb hg i_Mo t_Mo t_Mo_ok n_Mo hown hK hP hD hS 0 rfl rfl 6 (by decide) (hg _ g_998) (fun _ h9 => h9) rfl (by decide +kernel) rfl rfl (Nat.le_of_ble_eq_true rfl) d_Mo_figures_88 (fun H locs hP hD hS => ?_)
                    have hP : va_P D classes (ws_Mo g a (u_Mo_spot z_34 ((q_Mo_spot z_34) + 1))) H := hP
                    have hD : va_D A (ws_Mo g a (u_Mo_spot z_34 ((q_Mo_spot z_34) + 1))) := hD
                    refine lv_iinc (v := x2_34 + 1) (lv' := [(2, .int (x2_34 + 1)), (1, .int (((10 * x1_34) + v_44) - 48)), (0, .ref (a 0))]) hx hb d_Mo_figures_91 hl (k := 2) rfl (by rfl) (by decide) rfl (fun ls hl => ?_)
                    refine lv_goto (tgt := 34) hx hb d_Mo_figures_94 (by decide) ?_
                    exact ih34 (((10 * x1_34) + v_44) - 48) (x2_34 + 1) (u_Mo_spot z_34 ((q_Mo_spot z_34) + 1)) _ _ _ hP hD hS (lv_sub hl [2, 1, 0] rfl) hd
      exact lp34 1000 0 0 (u_Mo_isWrong z 1) _ _ _ hP hD hS (lv_sub hl [2, 1, 0] rfl) hd
-- OwnsLiftModel.among(Ljava/lang/String;)I
def B_Mo_among_L2 (t1 : Nat) (z_f2 : T_Mo) (self2 : Int32 → Option (Int32 × T_Mo)) (x2_2 : Int32) : Option (Int32 × T_Mo) :=
  (d_JS_length t1).bind fun v_1 => if v_1 ≤ x2_2 then (some ((-1), z_f2)) else ((d_Mo_here z_f2).bind fun v_4 => (d_JS_charAt t1 x2_2).bind fun v_6 => if v_4 = v_6 then (some (x2_2, (u_Mo_spot z_f2 ((q_Mo_spot z_f2) + 1)))) else (self2 (x2_2 + 1)))
def d_Mo_among_L2 (t1 : Nat) (z_f2 : T_Mo) (n : Nat) : Int32 → Option (Int32 × T_Mo) := recN (fun _ => none) (fun self => B_Mo_among_L2 t1 z_f2 self) n
def d_Mo_among (t1 : Nat) (z : T_Mo) : Option (Int32 × T_Mo) :=
  d_Mo_among_L2 t1 z  1000 0
theorem d_Mo_among_0 : decode b_Mo_among 0 = .ok (.iconst 0, 1) := by decide +kernel
theorem d_Mo_among_1 : decode b_Mo_among 1 = .ok (.istore_n 2, 1) := by decide +kernel
theorem d_Mo_among_2 : decode b_Mo_among 2 = .ok (.iload_n 2, 1) := by decide +kernel
theorem d_Mo_among_3 : decode b_Mo_among 3 = .ok (.aload_n 1, 1) := by decide +kernel
theorem d_Mo_among_4 : decode b_Mo_among 4 = .ok (.invokevirtual 68, 3) := by decide +kernel
theorem d_Mo_among_7 : decode b_Mo_among 7 = .ok (.if_icmp .ge 33, 3) := by decide +kernel
theorem d_Mo_among_10 : decode b_Mo_among 10 = .ok (.aload_n 0, 1) := by decide +kernel
theorem d_Mo_among_11 : decode b_Mo_among 11 = .ok (.invokevirtual 64, 3) := by decide +kernel
theorem d_Mo_among_14 : decode b_Mo_among 14 = .ok (.aload_n 1, 1) := by decide +kernel
theorem d_Mo_among_15 : decode b_Mo_among 15 = .ok (.iload_n 2, 1) := by decide +kernel
theorem d_Mo_among_16 : decode b_Mo_among 16 = .ok (.invokevirtual 73, 3) := by decide +kernel
theorem d_Mo_among_19 : decode b_Mo_among 19 = .ok (.if_icmp .ne 15, 3) := by decide +kernel
theorem d_Mo_among_22 : decode b_Mo_among 22 = .ok (.aload_n 0, 1) := by decide +kernel
theorem d_Mo_among_23 : decode b_Mo_among 23 = .ok (.dup, 1) := by decide +kernel
theorem d_Mo_among_24 : decode b_Mo_among 24 = .ok (.getfield 54, 3) := by decide +kernel
theorem d_Mo_among_27 : decode b_Mo_among 27 = .ok (.iconst 1, 1) := by decide +kernel
theorem d_Mo_among_28 : decode b_Mo_among 28 = .ok (.iadd, 1) := by decide +kernel
theorem d_Mo_among_29 : decode b_Mo_among 29 = .ok (.putfield 54, 3) := by decide +kernel
theorem d_Mo_among_32 : decode b_Mo_among 32 = .ok (.iload_n 2, 1) := by decide +kernel
theorem d_Mo_among_33 : decode b_Mo_among 33 = .ok (.ireturn, 1) := by decide +kernel
theorem d_Mo_among_34 : decode b_Mo_among 34 = .ok (.iinc 2 1, 3) := by decide +kernel
theorem d_Mo_among_37 : decode b_Mo_among 37 = .ok (.goto (-35), 3) := by decide +kernel
theorem d_Mo_among_40 : decode b_Mo_among 40 = .ok (.iconst (-1), 1) := by decide +kernel
theorem d_Mo_among_41 : decode b_Mo_among 41 = .ok (.ireturn, 1) := by decide +kernel
theorem o_Mo_among : OkV y_Mo_among "OwnsLiftModel" b_Mo_among 3 (some .int) 1 := ⟨⟨rfl, by decide +kernel, by decide +kernel, by decide +kernel⟩, g_1133, g_37, g_81, g_1134⟩
set_option maxHeartbeats 4000000 in
set_option maxRecDepth 100000 in
theorem c_Mo_among (l : Launch) (D : va_G) (g : Nat → ClassId) (a : Nat → Nat) (t1 : Nat) (z : T_Mo) (v : Int32 × T_Mo) (h : d_Mo_among t1 z = some v) :
    MI l y_Mo_among b_Mo_among 3 .int ({ frames := 4, cells := 0, slots := 0, locals := 85 } : Room) D g [.ref (a 0), .ref (g (10 + t1))] (ws_Mo g a z) (v.1) (ws_Mo g a v.2) := by
  have hd := h
  unfold d_Mo_among at hd
  refine enterI rfl (Nat.le_of_ble_eq_true rfl) (fun p e s m below meth c A ls hx hb hml hr hown hg hlk hK hA hP hD hS hCs hl => ?_)
  have hown : s.vm.findClass "OwnsLiftModel" = some m.cls := hown
  have hl : lv_has ls 3 [(0, .ref (a 0)), (1, .ref (g (10 + t1)))] := hl
  show GI p l e s m ({ frames := 4, cells := 0, slots := 0, locals := 85 } : Room) ([.ref (a 0), .ref (g (10 + t1))] : List Value).toArray below meth c A D g (ws_Mo g a v.2) (v.1) s.heap [] (F0 m 0 ls [])
  refine lv_iconst (v := 0) hx hb d_Mo_among_0 (by decide) ?_
  refine lv_istore_n (lv' := [(2, .int 0), (0, .ref (a 0)), (1, .ref (g (10 + t1)))]) hx hb d_Mo_among_1 rfl hl (by decide) rfl (fun ls hl => ?_)
  have lp2 : ∀ (z_f2 : T_Mo) (n : Nat) (x2_2 : Int32) (H : Heap) (locs : List Loc) (ls : Array Slot), va_P D classes (ws_Mo g a z_f2) H → va_D A (ws_Mo g a z_f2) → va_S A s.heap H locs → lv_has ls 3 [(0, .ref (a 0)), (1, .ref (g (10 + t1))), (2, .int x2_2)] → d_Mo_among_L2 t1 z_f2 n x2_2 = some v → GI p l e s m ({ frames := 4, cells := 0, slots := 0, locals := 85 } : Room) ([.ref (a 0), .ref (g (10 + t1))] : List Value).toArray below meth c A D g (ws_Mo g a v.2) (v.1) H locs (F0 m 2 ls []) := by
    intro z_f2 n
    induction n with
    | zero =>
      intro  x2_2 H locs ls hP hD hS hl hd
      have hd : none = some v := hd
      cases hd
    | succ n ih2 =>
      intro  x2_2 H locs ls hP hD hS hl hd
      have hd : B_Mo_among_L2 t1 z_f2 (d_Mo_among_L2 t1 z_f2 n) x2_2 = some v := hd
      generalize d_Mo_among_L2 t1 z_f2 n = self2 at ih2 hd
      unfold B_Mo_among_L2 at hd
      refine lv_iload_n hx hb d_Mo_among_2 rfl (lv_at hl 2 rfl) ?_
      refine lv_aload_n hx hb d_Mo_among_3 rfl (lv_at hl 1 rfl) ?_
      obtain ⟨v_1, e_2, hd⟩ := bind_s hd
      refine callTI (ws' := ws_Mo g a z_f2) (rest := [.int x2_2]) (As := []) hx hb hml hown hg hK hP hD hS hA hCs hl.1 (c_JS_length l D g  t1 _ e_2) o_JS_length g_1108 (vk_recv (i := t1) hCs.1.1 (lt_JS_length e_2) hS) [] segC0 rfl rfl segP0 rfl rfl (Nat.le_of_ble_eq_true rfl) ⟨rfl, rfl, Nat.le_of_ble_eq_true rfl, Nat.le_of_ble_eq_true rfl⟩ d_Mo_among_4 (fun H locs hP hD hS => ?_)
      refine lv_icmp_ge (tgt := 40) hx hb d_Mo_among_7 (by decide) (fun h_3 => ?_) (fun h_3 => ?_)
      · have hd := ite_t hd h_3
        refine lv_iconst (v := (-1)) hx hb d_Mo_among_40 (by decide) ?_
        obtain rfl := Option.some.inj hd
        exact retI hx hb hr hlk hK hP hD hS d_Mo_among_41 rfl
      · have hd := ite_f hd h_3
        refine lv_aload_n hx hb d_Mo_among_10 rfl (lv_at hl 0 rfl) ?_
        obtain ⟨v_4, e_5, hd⟩ := bind_s hd
        refine callVI (ws' := ws_Mo g a z_f2) (rest := []) (As := []) hx hb hml hown hg hK hP hD hS hA hCs hl.1 (c_Mo_here l D g a z_f2 _ e_5) o_Mo_here g_1087 (ci := 1) (q0 := 0) rfl rfl (List.range' 0 12) (segC1 rfl rfl) (by decide) rfl (segP1 rfl rfl) rfl rfl (Nat.le_of_ble_eq_true rfl) ⟨rfl, rfl, Nat.le_of_ble_eq_true rfl, Nat.le_of_ble_eq_true rfl⟩ d_Mo_among_11 (fun H locs hP hD hS => ?_)
        refine lv_aload_n hx hb d_Mo_among_14 rfl (lv_at hl 1 rfl) ?_
        refine lv_iload_n hx hb d_Mo_among_15 rfl (lv_at hl 2 rfl) ?_
        obtain ⟨v_6, e_7, hd⟩ := bind_s hd
        refine callTI (ws' := ws_Mo g a z_f2) (rest := [.int v_4]) (As := [.int x2_2]) hx hb hml hown hg hK hP hD hS hA hCs hl.1 (c_JS_charAt l D g  t1 x2_2 _ e_7) o_JS_charAt g_1109 (vk_recv (i := t1) hCs.1.1 (lt_JS_charAt e_7) hS) [] segC0 rfl rfl segP0 rfl rfl (Nat.le_of_ble_eq_true rfl) ⟨rfl, rfl, Nat.le_of_ble_eq_true rfl, Nat.le_of_ble_eq_true rfl⟩ d_Mo_among_16 (fun H locs hP hD hS => ?_)
        refine lv_icmp_ne (tgt := 34) hx hb d_Mo_among_19 (by decide) (fun h_8 => ?_) (fun h_8 => ?_)
        · have hd := ite_f hd h_8
          refine lv_iinc (v := x2_2 + 1) (lv' := [(2, .int (x2_2 + 1)), (0, .ref (a 0)), (1, .ref (g (10 + t1)))]) hx hb d_Mo_among_34 hl (k := 2) rfl (by rfl) (by decide) rfl (fun ls hl => ?_)
          refine lv_goto (tgt := 2) hx hb d_Mo_among_37 (by decide) ?_
          exact ih2 (x2_2 + 1) _ _ _ hP hD hS (lv_sub hl [1, 2, 0] rfl) hd
        · have hd := ite_t hd h_8
          refine lv_aload_n hx hb d_Mo_among_22 rfl (lv_at hl 0 rfl) ?_
          refine lv_dup hx hb d_Mo_among_23 rfl ?_
          refine va_get (D := D) (ci := 1) (v := .int (q_Mo_spot z_f2)) (C := R_Mo) (T := F_Mo) (N := 26) hx hb hg i_Mo hown hK hP 0 rfl rfl 6 (by decide) (hg _ g_998) (fun _ h9 => h9) rfl d_Mo_among_24 ?_
          refine lv_iconst (v := 1) hx hb d_Mo_among_27 (by decide) ?_
          refine lv_iadd hx hb d_Mo_among_28 ?_
          refine va_put (D := D) (ci := 1) (v := .int ((q_Mo_spot z_f2) + 1)) (ty := .int) (C := R_Mo) (T := F_Mo) (N := 26) hx hb hg i_Mo t_Mo t_Mo_ok n_Mo hown hK hP hD hS 0 rfl rfl 6 (by decide) (hg _ g_998) (fun _ h9 => h9) rfl (by decide +kernel) rfl rfl (Nat.le_of_ble_eq_true rfl) d_Mo_among_29 (fun H locs hP hD hS => ?_)
          have hP : va_P D classes (ws_Mo g a (u_Mo_spot z_f2 ((q_Mo_spot z_f2) + 1))) H := hP
          have hD : va_D A (ws_Mo g a (u_Mo_spot z_f2 ((q_Mo_spot z_f2) + 1))) := hD
          refine lv_iload_n hx hb d_Mo_among_32 rfl (lv_at hl 2 rfl) ?_
          obtain rfl := Option.some.inj hd
          exact retI hx hb hr hlk hK hP hD hS d_Mo_among_33 rfl
  exact lp2 z 1000 0 _ _ _ hP hD hS (lv_sub hl [1, 2, 0] rfl) hd
-- OwnsLiftModel.emits(I)V
def d_Mo_emits (x1 : Int32) (z : T_Mo) : Option (T_Mo) :=
  if (q_Mo_isWrong z) = 0 then (if inb (196 + (q_Mo_act z)) 901 = true then (if inb ((201 + (140 * (q_Mo_act z))) + ((q_Mo_s z) (196 + (q_Mo_act z)).toNatClampNeg)) 901 = true then (if inb (196 + (q_Mo_act (u_Mo_s z (upd (q_Mo_s z) ((201 + (140 * (q_Mo_act z))) + ((q_Mo_s z) (196 + (q_Mo_act z)).toNatClampNeg)).toNatClampNeg x1)))) 901 = true then (if inb (196 + (q_Mo_act (u_Mo_s z (upd (q_Mo_s z) ((201 + (140 * (q_Mo_act z))) + ((q_Mo_s z) (196 + (q_Mo_act z)).toNatClampNeg)).toNatClampNeg x1)))) 901 = true then (some ((u_Mo_s (u_Mo_s z (upd (q_Mo_s z) ((201 + (140 * (q_Mo_act z))) + ((q_Mo_s z) (196 + (q_Mo_act z)).toNatClampNeg)).toNatClampNeg x1)) (upd (q_Mo_s (u_Mo_s z (upd (q_Mo_s z) ((201 + (140 * (q_Mo_act z))) + ((q_Mo_s z) (196 + (q_Mo_act z)).toNatClampNeg)).toNatClampNeg x1))) (196 + (q_Mo_act (u_Mo_s z (upd (q_Mo_s z) ((201 + (140 * (q_Mo_act z))) + ((q_Mo_s z) (196 + (q_Mo_act z)).toNatClampNeg)).toNatClampNeg x1)))).toNatClampNeg (((q_Mo_s (u_Mo_s z (upd (q_Mo_s z) ((201 + (140 * (q_Mo_act z))) + ((q_Mo_s z) (196 + (q_Mo_act z)).toNatClampNeg)).toNatClampNeg x1))) (196 + (q_Mo_act (u_Mo_s z (upd (q_Mo_s z) ((201 + (140 * (q_Mo_act z))) + ((q_Mo_s z) (196 + (q_Mo_act z)).toNatClampNeg)).toNatClampNeg x1)))).toNatClampNeg) + 1))))) else none) else none) else none) else none) else (some (z))
theorem d_Mo_emits_0 : decode b_Mo_emits 0 = .ok (.aload_n 0, 1) := by decide +kernel
theorem d_Mo_emits_1 : decode b_Mo_emits 1 = .ok (.getfield 60, 3) := by decide +kernel
theorem d_Mo_emits_4 : decode b_Mo_emits 4 = .ok (.ifCond .ne 52, 3) := by decide +kernel
theorem d_Mo_emits_7 : decode b_Mo_emits 7 = .ok (.aload_n 0, 1) := by decide +kernel
theorem d_Mo_emits_8 : decode b_Mo_emits 8 = .ok (.getfield 9, 3) := by decide +kernel
theorem d_Mo_emits_11 : decode b_Mo_emits 11 = .ok (.sipush 201, 3) := by decide +kernel
theorem d_Mo_emits_14 : decode b_Mo_emits 14 = .ok (.sipush 140, 3) := by decide +kernel
theorem d_Mo_emits_17 : decode b_Mo_emits 17 = .ok (.aload_n 0, 1) := by decide +kernel
theorem d_Mo_emits_18 : decode b_Mo_emits 18 = .ok (.getfield 81, 3) := by decide +kernel
theorem d_Mo_emits_21 : decode b_Mo_emits 21 = .ok (.imul, 1) := by decide +kernel
theorem d_Mo_emits_22 : decode b_Mo_emits 22 = .ok (.iadd, 1) := by decide +kernel
theorem d_Mo_emits_23 : decode b_Mo_emits 23 = .ok (.aload_n 0, 1) := by decide +kernel
theorem d_Mo_emits_24 : decode b_Mo_emits 24 = .ok (.getfield 9, 3) := by decide +kernel
theorem d_Mo_emits_27 : decode b_Mo_emits 27 = .ok (.sipush 196, 3) := by decide +kernel
theorem d_Mo_emits_30 : decode b_Mo_emits 30 = .ok (.aload_n 0, 1) := by decide +kernel
theorem d_Mo_emits_31 : decode b_Mo_emits 31 = .ok (.getfield 81, 3) := by decide +kernel
theorem d_Mo_emits_34 : decode b_Mo_emits 34 = .ok (.iadd, 1) := by decide +kernel
theorem d_Mo_emits_35 : decode b_Mo_emits 35 = .ok (.iaload, 1) := by decide +kernel
theorem d_Mo_emits_36 : decode b_Mo_emits 36 = .ok (.iadd, 1) := by decide +kernel
theorem d_Mo_emits_37 : decode b_Mo_emits 37 = .ok (.iload_n 1, 1) := by decide +kernel
theorem d_Mo_emits_38 : decode b_Mo_emits 38 = .ok (.iastore, 1) := by decide +kernel
theorem d_Mo_emits_39 : decode b_Mo_emits 39 = .ok (.aload_n 0, 1) := by decide +kernel
theorem d_Mo_emits_40 : decode b_Mo_emits 40 = .ok (.getfield 9, 3) := by decide +kernel
theorem d_Mo_emits_43 : decode b_Mo_emits 43 = .ok (.sipush 196, 3) := by decide +kernel
theorem d_Mo_emits_46 : decode b_Mo_emits 46 = .ok (.aload_n 0, 1) := by decide +kernel
theorem d_Mo_emits_47 : decode b_Mo_emits 47 = .ok (.getfield 81, 3) := by decide +kernel
theorem d_Mo_emits_50 : decode b_Mo_emits 50 = .ok (.iadd, 1) := by decide +kernel
theorem d_Mo_emits_51 : decode b_Mo_emits 51 = .ok (.dup2, 1) := by decide +kernel
theorem d_Mo_emits_52 : decode b_Mo_emits 52 = .ok (.iaload, 1) := by decide +kernel
theorem d_Mo_emits_53 : decode b_Mo_emits 53 = .ok (.iconst 1, 1) := by decide +kernel
theorem d_Mo_emits_54 : decode b_Mo_emits 54 = .ok (.iadd, 1) := by decide +kernel
theorem d_Mo_emits_55 : decode b_Mo_emits 55 = .ok (.iastore, 1) := by decide +kernel
theorem d_Mo_emits_56 : decode b_Mo_emits 56 = .ok (.return_, 1) := by decide +kernel
theorem o_Mo_emits : OkV y_Mo_emits "OwnsLiftModel" b_Mo_emits 2 none 1 := ⟨⟨rfl, by decide +kernel, by decide +kernel, by decide +kernel⟩, g_1128, g_36, g_81, g_1129⟩
set_option maxHeartbeats 4000000 in
set_option maxRecDepth 100000 in
theorem c_Mo_emits (l : Launch) (D : va_G) (g : Nat → ClassId) (a : Nat → Nat) (x1 : Int32) (z : T_Mo) (v : T_Mo) (h : d_Mo_emits x1 z = some v) :
    MV l y_Mo_emits b_Mo_emits 2 ({ frames := 0, cells := 0, slots := 0, locals := 0 } : Room) D g [.ref (a 0), .int x1] (ws_Mo g a z) (ws_Mo g a v) := by
  have hd := h
  unfold d_Mo_emits at hd
  refine enterV rfl (Nat.le_of_ble_eq_true rfl) (fun p e s m below meth c A ls hx hb hml hr hown hg hlk hK hA hP hD hS hCs hl => ?_)
  have hown : s.vm.findClass "OwnsLiftModel" = some m.cls := hown
  have hl : lv_has ls 2 [(0, .ref (a 0)), (1, .int x1)] := hl
  show GV p l e s m ({ frames := 0, cells := 0, slots := 0, locals := 0 } : Room) ([.ref (a 0), .int x1] : List Value).toArray below meth c A D g (ws_Mo g a v) s.heap [] (F0 m 0 ls [])
  refine lv_aload_n hx hb d_Mo_emits_0 rfl (lv_at hl 0 rfl) ?_
  refine va_get (D := D) (ci := 1) (v := .int (q_Mo_isWrong z)) (C := R_Mo) (T := F_Mo) (N := 26) hx hb hg i_Mo hown hK hP 0 rfl rfl 8 (by decide) (hg _ g_1000) (fun _ h9 => h9) rfl d_Mo_emits_1 ?_
  refine lv_if_ne (tgt := 56) hx hb d_Mo_emits_4 (by decide) (fun h_1 => ?_) (fun h_1 => ?_)
  · have hd := ite_f hd h_1
    obtain rfl := Option.some.inj hd
    exact retV hx hb hr hlk hK hP hD hS d_Mo_emits_56
  · have hd := ite_t hd h_1
    refine lv_aload_n hx hb d_Mo_emits_7 rfl (lv_at hl 0 rfl) ?_
    refine va_get (D := D) (ci := 1) (v := .ref (a 1)) (C := R_Mo) (T := F_Mo) (N := 26) hx hb hg i_Mo hown hK hP 0 rfl rfl 1 (by decide) (hg _ g_993) (fun _ h9 => h9) rfl d_Mo_emits_8 ?_
    refine lv_sipush (v := 201) hx hb d_Mo_emits_11 (by decide) ?_
    refine lv_sipush (v := 140) hx hb d_Mo_emits_14 (by decide) ?_
    refine lv_aload_n hx hb d_Mo_emits_17 rfl (lv_at hl 0 rfl) ?_
    refine va_get (D := D) (ci := 1) (v := .int (q_Mo_act z)) (C := R_Mo) (T := F_Mo) (N := 26) hx hb hg i_Mo hown hK hP 0 rfl rfl 5 (by decide) (hg _ g_997) (fun _ h9 => h9) rfl d_Mo_emits_18 ?_
    refine lv_imul hx hb d_Mo_emits_21 ?_
    refine lv_iadd hx hb d_Mo_emits_22 ?_
    refine lv_aload_n hx hb d_Mo_emits_23 rfl (lv_at hl 0 rfl) ?_
    refine va_get (D := D) (ci := 1) (v := .ref (a 1)) (C := R_Mo) (T := F_Mo) (N := 26) hx hb hg i_Mo hown hK hP 0 rfl rfl 1 (by decide) (hg _ g_993) (fun _ h9 => h9) rfl d_Mo_emits_24 ?_
    refine lv_sipush (v := 196) hx hb d_Mo_emits_27 (by decide) ?_
    refine lv_aload_n hx hb d_Mo_emits_30 rfl (lv_at hl 0 rfl) ?_
    refine va_get (D := D) (ci := 1) (v := .int (q_Mo_act z)) (C := R_Mo) (T := F_Mo) (N := 26) hx hb hg i_Mo hown hK hP 0 rfl rfl 5 (by decide) (hg _ g_997) (fun _ h9 => h9) rfl d_Mo_emits_31 ?_
    refine lv_iadd hx hb d_Mo_emits_34 ?_
    obtain ⟨h_5, hd⟩ := ite_s hd
    refine ialdK hx hb hK hP 1 0 rfl rfl (inb_t h_5) rfl d_Mo_emits_35 ?_
    refine lv_iadd hx hb d_Mo_emits_36 ?_
    refine lv_iload_n hx hb d_Mo_emits_37 rfl (lv_at hl 1 rfl) ?_
    obtain ⟨h_4, hd⟩ := ite_s hd
    refine iastK hx hb hK hP hD hS 1 0 rfl rfl (inb_t h_4) rfl d_Mo_emits_38 (fun H locs hP hD hS => ?_)
    have hP : va_P D classes (ws_Mo g a (u_Mo_s z (upd (q_Mo_s z) ((201 + (140 * (q_Mo_act z))) + ((q_Mo_s z) (196 + (q_Mo_act z)).toNatClampNeg)).toNatClampNeg x1))) H := hP
    have hD : va_D A (ws_Mo g a (u_Mo_s z (upd (q_Mo_s z) ((201 + (140 * (q_Mo_act z))) + ((q_Mo_s z) (196 + (q_Mo_act z)).toNatClampNeg)).toNatClampNeg x1))) := hD
    refine lv_aload_n hx hb d_Mo_emits_39 rfl (lv_at hl 0 rfl) ?_
    refine va_get (D := D) (ci := 1) (v := .ref (a 1)) (C := R_Mo) (T := F_Mo) (N := 26) hx hb hg i_Mo hown hK hP 0 rfl rfl 1 (by decide) (hg _ g_993) (fun _ h9 => h9) rfl d_Mo_emits_40 ?_
    refine lv_sipush (v := 196) hx hb d_Mo_emits_43 (by decide) ?_
    refine lv_aload_n hx hb d_Mo_emits_46 rfl (lv_at hl 0 rfl) ?_
    refine va_get (D := D) (ci := 1) (v := .int (q_Mo_act (u_Mo_s z (upd (q_Mo_s z) ((201 + (140 * (q_Mo_act z))) + ((q_Mo_s z) (196 + (q_Mo_act z)).toNatClampNeg)).toNatClampNeg x1)))) (C := R_Mo) (T := F_Mo) (N := 26) hx hb hg i_Mo hown hK hP 0 rfl rfl 5 (by decide) (hg _ g_997) (fun _ h9 => h9) rfl d_Mo_emits_47 ?_
    refine lv_iadd hx hb d_Mo_emits_50 ?_
    refine lv_dup2_11 hx hb d_Mo_emits_51 rfl rfl ?_
    obtain ⟨h_3, hd⟩ := ite_s hd
    refine ialdK hx hb hK hP 1 0 rfl rfl (inb_t h_3) rfl d_Mo_emits_52 ?_
    refine lv_iconst (v := 1) hx hb d_Mo_emits_53 (by decide) ?_
    refine lv_iadd hx hb d_Mo_emits_54 ?_
    obtain ⟨h_2, hd⟩ := ite_s hd
    refine iastK hx hb hK hP hD hS 1 0 rfl rfl (inb_t h_2) rfl d_Mo_emits_55 (fun H locs hP hD hS => ?_)
    have hP : va_P D classes (ws_Mo g a (u_Mo_s (u_Mo_s z (upd (q_Mo_s z) ((201 + (140 * (q_Mo_act z))) + ((q_Mo_s z) (196 + (q_Mo_act z)).toNatClampNeg)).toNatClampNeg x1)) (upd (q_Mo_s (u_Mo_s z (upd (q_Mo_s z) ((201 + (140 * (q_Mo_act z))) + ((q_Mo_s z) (196 + (q_Mo_act z)).toNatClampNeg)).toNatClampNeg x1))) (196 + (q_Mo_act (u_Mo_s z (upd (q_Mo_s z) ((201 + (140 * (q_Mo_act z))) + ((q_Mo_s z) (196 + (q_Mo_act z)).toNatClampNeg)).toNatClampNeg x1)))).toNatClampNeg (((q_Mo_s (u_Mo_s z (upd (q_Mo_s z) ((201 + (140 * (q_Mo_act z))) + ((q_Mo_s z) (196 + (q_Mo_act z)).toNatClampNeg)).toNatClampNeg x1))) (196 + (q_Mo_act (u_Mo_s z (upd (q_Mo_s z) ((201 + (140 * (q_Mo_act z))) + ((q_Mo_s z) (196 + (q_Mo_act z)).toNatClampNeg)).toNatClampNeg x1)))).toNatClampNeg) + 1)))) H := hP
    have hD : va_D A (ws_Mo g a (u_Mo_s (u_Mo_s z (upd (q_Mo_s z) ((201 + (140 * (q_Mo_act z))) + ((q_Mo_s z) (196 + (q_Mo_act z)).toNatClampNeg)).toNatClampNeg x1)) (upd (q_Mo_s (u_Mo_s z (upd (q_Mo_s z) ((201 + (140 * (q_Mo_act z))) + ((q_Mo_s z) (196 + (q_Mo_act z)).toNatClampNeg)).toNatClampNeg x1))) (196 + (q_Mo_act (u_Mo_s z (upd (q_Mo_s z) ((201 + (140 * (q_Mo_act z))) + ((q_Mo_s z) (196 + (q_Mo_act z)).toNatClampNeg)).toNatClampNeg x1)))).toNatClampNeg (((q_Mo_s (u_Mo_s z (upd (q_Mo_s z) ((201 + (140 * (q_Mo_act z))) + ((q_Mo_s z) (196 + (q_Mo_act z)).toNatClampNeg)).toNatClampNeg x1))) (196 + (q_Mo_act (u_Mo_s z (upd (q_Mo_s z) ((201 + (140 * (q_Mo_act z))) + ((q_Mo_s z) (196 + (q_Mo_act z)).toNatClampNeg)).toNatClampNeg x1)))).toNatClampNeg) + 1)))) := hD
    obtain rfl := Option.some.inj hd
    exact retV hx hb hr hlk hK hP hD hS d_Mo_emits_56
-- recursion: Mo_every, Mo_factor, Mo_some
def B_Mo_every_L4 (rc : (T_Mo → Option (T_Mo)) × (T_Mo → Option (T_Mo)) × (T_Mo → Option (T_Mo))) (self4 : T_Mo → Option (T_Mo)) (z_4 : T_Mo) : Option (T_Mo) :=
  if (q_Mo_isWrong z_4) = 0 then ((d_Mo_here z_4).bind fun v_4 => if v_4 = 38 then ((rc.2.1 (u_Mo_spot z_4 ((q_Mo_spot z_4) + 1))).bind fun v_7 => (d_Mo_emits (-2) v_7).bind fun v_9 => self4 v_9) else (some (z_4))) else (some (z_4))
def d_Mo_every_L4 (rc : (T_Mo → Option (T_Mo)) × (T_Mo → Option (T_Mo)) × (T_Mo → Option (T_Mo))) (n : Nat) : T_Mo → Option (T_Mo) := recN (fun _ => none) (fun self => B_Mo_every_L4 rc self) n
def B_Mo_every (rc : (T_Mo → Option (T_Mo)) × (T_Mo → Option (T_Mo)) × (T_Mo → Option (T_Mo))) (z : T_Mo) : Option (T_Mo) :=
  (rc.2.1 z).bind fun v_1 => d_Mo_every_L4 rc  1000 v_1
def B_Mo_factor (rc : (T_Mo → Option (T_Mo)) × (T_Mo → Option (T_Mo)) × (T_Mo → Option (T_Mo))) (z : T_Mo) : Option (T_Mo) :=
  if (q_Mo_isWrong z) = 0 then ((d_Mo_here z).bind fun v_2 => if v_2 = 33 then (if (q_Mo_open z) = 5 then (if (q_Mo_isWrong (u_Mo_open (u_Mo_isWrong z 1) ((q_Mo_open (u_Mo_isWrong z 1)) + 1))) = 0 then (if v_2 = 33 then ((rc.2.1 (u_Mo_spot (u_Mo_open (u_Mo_isWrong z 1) ((q_Mo_open (u_Mo_isWrong z 1)) + 1)) ((q_Mo_spot (u_Mo_open (u_Mo_isWrong z 1) ((q_Mo_open (u_Mo_isWrong z 1)) + 1))) + 1))).bind fun v_31 => (d_Mo_emits (-1) v_31).bind fun v_33 => some ((u_Mo_open v_33 ((q_Mo_open v_33) - 1)))) else ((rc.2.2 (u_Mo_spot (u_Mo_open (u_Mo_isWrong z 1) ((q_Mo_open (u_Mo_isWrong z 1)) + 1)) ((q_Mo_spot (u_Mo_open (u_Mo_isWrong z 1) ((q_Mo_open (u_Mo_isWrong z 1)) + 1))) + 1))).bind fun v_27 => (d_Mo_must 41 v_27).bind fun v_29 => some ((u_Mo_open v_29 ((q_Mo_open v_29) - 1))))) else (if v_2 = 33 then ((rc.2.1 (u_Mo_spot (u_Mo_open (u_Mo_isWrong z 1) ((q_Mo_open (u_Mo_isWrong z 1)) + 1)) ((q_Mo_spot (u_Mo_open (u_Mo_isWrong z 1) ((q_Mo_open (u_Mo_isWrong z 1)) + 1))) + 0))).bind fun v_40 => (d_Mo_emits (-1) v_40).bind fun v_42 => some ((u_Mo_open v_42 ((q_Mo_open v_42) - 1)))) else ((rc.2.2 (u_Mo_spot (u_Mo_open (u_Mo_isWrong z 1) ((q_Mo_open (u_Mo_isWrong z 1)) + 1)) ((q_Mo_spot (u_Mo_open (u_Mo_isWrong z 1) ((q_Mo_open (u_Mo_isWrong z 1)) + 1))) + 0))).bind fun v_36 => (d_Mo_must 41 v_36).bind fun v_38 => some ((u_Mo_open v_38 ((q_Mo_open v_38) - 1)))))) else (if (q_Mo_isWrong (u_Mo_open (u_Mo_isWrong z 0) ((q_Mo_open (u_Mo_isWrong z 0)) + 1))) = 0 then (if v_2 = 33 then ((rc.2.1 (u_Mo_spot (u_Mo_open (u_Mo_isWrong z 0) ((q_Mo_open (u_Mo_isWrong z 0)) + 1)) ((q_Mo_spot (u_Mo_open (u_Mo_isWrong z 0) ((q_Mo_open (u_Mo_isWrong z 0)) + 1))) + 1))).bind fun v_12 => (d_Mo_emits (-1) v_12).bind fun v_14 => some ((u_Mo_open v_14 ((q_Mo_open v_14) - 1)))) else ((rc.2.2 (u_Mo_spot (u_Mo_open (u_Mo_isWrong z 0) ((q_Mo_open (u_Mo_isWrong z 0)) + 1)) ((q_Mo_spot (u_Mo_open (u_Mo_isWrong z 0) ((q_Mo_open (u_Mo_isWrong z 0)) + 1))) + 1))).bind fun v_8 => (d_Mo_must 41 v_8).bind fun v_10 => some ((u_Mo_open v_10 ((q_Mo_open v_10) - 1))))) else (if v_2 = 33 then ((rc.2.1 (u_Mo_spot (u_Mo_open (u_Mo_isWrong z 0) ((q_Mo_open (u_Mo_isWrong z 0)) + 1)) ((q_Mo_spot (u_Mo_open (u_Mo_isWrong z 0) ((q_Mo_open (u_Mo_isWrong z 0)) + 1))) + 0))).bind fun v_21 => (d_Mo_emits (-1) v_21).bind fun v_23 => some ((u_Mo_open v_23 ((q_Mo_open v_23) - 1)))) else ((rc.2.2 (u_Mo_spot (u_Mo_open (u_Mo_isWrong z 0) ((q_Mo_open (u_Mo_isWrong z 0)) + 1)) ((q_Mo_spot (u_Mo_open (u_Mo_isWrong z 0) ((q_Mo_open (u_Mo_isWrong z 0)) + 1))) + 0))).bind fun v_17 => (d_Mo_must 41 v_17).bind fun v_19 => some ((u_Mo_open v_19 ((q_Mo_open v_19) - 1))))))) else (if v_2 = 40 then (if (q_Mo_open z) = 5 then (if (q_Mo_isWrong (u_Mo_open (u_Mo_isWrong z 1) ((q_Mo_open (u_Mo_isWrong z 1)) + 1))) = 0 then (if v_2 = 33 then ((rc.2.1 (u_Mo_spot (u_Mo_open (u_Mo_isWrong z 1) ((q_Mo_open (u_Mo_isWrong z 1)) + 1)) ((q_Mo_spot (u_Mo_open (u_Mo_isWrong z 1) ((q_Mo_open (u_Mo_isWrong z 1)) + 1))) + 1))).bind fun v_126 => (d_Mo_emits (-1) v_126).bind fun v_128 => some ((u_Mo_open v_128 ((q_Mo_open v_128) - 1)))) else ((rc.2.2 (u_Mo_spot (u_Mo_open (u_Mo_isWrong z 1) ((q_Mo_open (u_Mo_isWrong z 1)) + 1)) ((q_Mo_spot (u_Mo_open (u_Mo_isWrong z 1) ((q_Mo_open (u_Mo_isWrong z 1)) + 1))) + 1))).bind fun v_122 => (d_Mo_must 41 v_122).bind fun v_124 => some ((u_Mo_open v_124 ((q_Mo_open v_124) - 1))))) else (if v_2 = 33 then ((rc.2.1 (u_Mo_spot (u_Mo_open (u_Mo_isWrong z 1) ((q_Mo_open (u_Mo_isWrong z 1)) + 1)) ((q_Mo_spot (u_Mo_open (u_Mo_isWrong z 1) ((q_Mo_open (u_Mo_isWrong z 1)) + 1))) + 0))).bind fun v_135 => (d_Mo_emits (-1) v_135).bind fun v_137 => some ((u_Mo_open v_137 ((q_Mo_open v_137) - 1)))) else ((rc.2.2 (u_Mo_spot (u_Mo_open (u_Mo_isWrong z 1) ((q_Mo_open (u_Mo_isWrong z 1)) + 1)) ((q_Mo_spot (u_Mo_open (u_Mo_isWrong z 1) ((q_Mo_open (u_Mo_isWrong z 1)) + 1))) + 0))).bind fun v_131 => (d_Mo_must 41 v_131).bind fun v_133 => some ((u_Mo_open v_133 ((q_Mo_open v_133) - 1)))))) else (if (q_Mo_isWrong (u_Mo_open (u_Mo_isWrong z 0) ((q_Mo_open (u_Mo_isWrong z 0)) + 1))) = 0 then (if v_2 = 33 then ((rc.2.1 (u_Mo_spot (u_Mo_open (u_Mo_isWrong z 0) ((q_Mo_open (u_Mo_isWrong z 0)) + 1)) ((q_Mo_spot (u_Mo_open (u_Mo_isWrong z 0) ((q_Mo_open (u_Mo_isWrong z 0)) + 1))) + 1))).bind fun v_107 => (d_Mo_emits (-1) v_107).bind fun v_109 => some ((u_Mo_open v_109 ((q_Mo_open v_109) - 1)))) else ((rc.2.2 (u_Mo_spot (u_Mo_open (u_Mo_isWrong z 0) ((q_Mo_open (u_Mo_isWrong z 0)) + 1)) ((q_Mo_spot (u_Mo_open (u_Mo_isWrong z 0) ((q_Mo_open (u_Mo_isWrong z 0)) + 1))) + 1))).bind fun v_103 => (d_Mo_must 41 v_103).bind fun v_105 => some ((u_Mo_open v_105 ((q_Mo_open v_105) - 1))))) else (if v_2 = 33 then ((rc.2.1 (u_Mo_spot (u_Mo_open (u_Mo_isWrong z 0) ((q_Mo_open (u_Mo_isWrong z 0)) + 1)) ((q_Mo_spot (u_Mo_open (u_Mo_isWrong z 0) ((q_Mo_open (u_Mo_isWrong z 0)) + 1))) + 0))).bind fun v_116 => (d_Mo_emits (-1) v_116).bind fun v_118 => some ((u_Mo_open v_118 ((q_Mo_open v_118) - 1)))) else ((rc.2.2 (u_Mo_spot (u_Mo_open (u_Mo_isWrong z 0) ((q_Mo_open (u_Mo_isWrong z 0)) + 1)) ((q_Mo_spot (u_Mo_open (u_Mo_isWrong z 0) ((q_Mo_open (u_Mo_isWrong z 0)) + 1))) + 0))).bind fun v_112 => (d_Mo_must 41 v_112).bind fun v_114 => some ((u_Mo_open v_114 ((q_Mo_open v_114) - 1))))))) else ((d_Mo_among 4 z).bind fun v_45 => if v_45.1 = (-1) then (if (q_Mo_isWrong (u_Mo_isWrong v_45.2 1)) = 0 then ((d_Mo_among 5 (u_Mo_isWrong v_45.2 1)).bind fun v_75 => if (q_Mo_isWrong v_75.2) = 0 then (if v_75.1 = (-1) then ((d_Mo_figures (u_Mo_isWrong v_75.2 1)).bind fun v_87 => (d_Mo_emits ((v_45.1 + (8 * v_75.1)) + (32 * v_87.1)) v_87.2).bind fun v_89 => some (v_89)) else ((d_Mo_figures (u_Mo_isWrong v_75.2 0)).bind fun v_83 => (d_Mo_emits ((v_45.1 + (8 * v_75.1)) + (32 * v_83.1)) v_83.2).bind fun v_85 => some (v_85))) else ((d_Mo_figures (u_Mo_isWrong v_75.2 1)).bind fun v_78 => (d_Mo_emits ((v_45.1 + (8 * v_75.1)) + (32 * v_78.1)) v_78.2).bind fun v_80 => some (v_80))) else (if (q_Mo_isWrong (u_Mo_isWrong v_45.2 1)) = 0 then ((d_Mo_figures (u_Mo_isWrong (u_Mo_isWrong v_45.2 1) 0)).bind fun v_96 => (d_Mo_emits ((v_45.1 + (8 * 0)) + (32 * v_96.1)) v_96.2).bind fun v_98 => some (v_98)) else ((d_Mo_figures (u_Mo_isWrong (u_Mo_isWrong v_45.2 1) 1)).bind fun v_92 => (d_Mo_emits ((v_45.1 + (8 * 0)) + (32 * v_92.1)) v_92.2).bind fun v_94 => some (v_94)))) else (if (q_Mo_isWrong (u_Mo_isWrong v_45.2 0)) = 0 then ((d_Mo_among 5 (u_Mo_isWrong v_45.2 0)).bind fun v_49 => if (q_Mo_isWrong v_49.2) = 0 then (if v_49.1 = (-1) then ((d_Mo_figures (u_Mo_isWrong v_49.2 1)).bind fun v_61 => (d_Mo_emits ((v_45.1 + (8 * v_49.1)) + (32 * v_61.1)) v_61.2).bind fun v_63 => some (v_63)) else ((d_Mo_figures (u_Mo_isWrong v_49.2 0)).bind fun v_57 => (d_Mo_emits ((v_45.1 + (8 * v_49.1)) + (32 * v_57.1)) v_57.2).bind fun v_59 => some (v_59))) else ((d_Mo_figures (u_Mo_isWrong v_49.2 1)).bind fun v_52 => (d_Mo_emits ((v_45.1 + (8 * v_49.1)) + (32 * v_52.1)) v_52.2).bind fun v_54 => some (v_54))) else (if (q_Mo_isWrong (u_Mo_isWrong v_45.2 0)) = 0 then ((d_Mo_figures (u_Mo_isWrong (u_Mo_isWrong v_45.2 0) 0)).bind fun v_70 => (d_Mo_emits ((v_45.1 + (8 * 0)) + (32 * v_70.1)) v_70.2).bind fun v_72 => some (v_72)) else ((d_Mo_figures (u_Mo_isWrong (u_Mo_isWrong v_45.2 0) 1)).bind fun v_66 => (d_Mo_emits ((v_45.1 + (8 * 0)) + (32 * v_66.1)) v_66.2).bind fun v_68 => some (v_68))))))) else (some (z))
def B_Mo_some_L4 (rc : (T_Mo → Option (T_Mo)) × (T_Mo → Option (T_Mo)) × (T_Mo → Option (T_Mo))) (self4 : T_Mo → Option (T_Mo)) (z_4 : T_Mo) : Option (T_Mo) :=
  if (q_Mo_isWrong z_4) = 0 then ((d_Mo_here z_4).bind fun v_4 => if v_4 = 124 then ((rc.1 (u_Mo_spot z_4 ((q_Mo_spot z_4) + 1))).bind fun v_7 => (d_Mo_emits (-3) v_7).bind fun v_9 => self4 v_9) else (some (z_4))) else (some (z_4))
def d_Mo_some_L4 (rc : (T_Mo → Option (T_Mo)) × (T_Mo → Option (T_Mo)) × (T_Mo → Option (T_Mo))) (n : Nat) : T_Mo → Option (T_Mo) := recN (fun _ => none) (fun self => B_Mo_some_L4 rc self) n
def B_Mo_some (rc : (T_Mo → Option (T_Mo)) × (T_Mo → Option (T_Mo)) × (T_Mo → Option (T_Mo))) (z : T_Mo) : Option (T_Mo) :=
  (rc.1 z).bind fun v_1 => d_Mo_some_L4 rc  1000 v_1
def d_G_Mo_every (n : Nat) : (T_Mo → Option (T_Mo)) × (T_Mo → Option (T_Mo)) × (T_Mo → Option (T_Mo)) := recN ((fun _ => none), (fun _ => none), (fun _ => none)) (fun rc => (B_Mo_every rc, B_Mo_factor rc, B_Mo_some rc)) n
def d_Mo_every (n : Nat) (z : T_Mo) : Option (T_Mo) := (d_G_Mo_every n).1 z
def d_Mo_factor (n : Nat) (z : T_Mo) : Option (T_Mo) := (d_G_Mo_every n).2.1 z
def d_Mo_some (n : Nat) (z : T_Mo) : Option (T_Mo) := (d_G_Mo_every n).2.2 z
theorem d_Mo_every_0 : decode b_Mo_every 0 = .ok (.aload_n 0, 1) := by decide +kernel
theorem d_Mo_every_1 : decode b_Mo_every 1 = .ok (.invokevirtual 87, 3) := by decide +kernel
theorem d_Mo_every_4 : decode b_Mo_every 4 = .ok (.aload_n 0, 1) := by decide +kernel
theorem d_Mo_every_5 : decode b_Mo_every 5 = .ok (.getfield 60, 3) := by decide +kernel
theorem d_Mo_every_8 : decode b_Mo_every 8 = .ok (.ifCond .ne 35, 3) := by decide +kernel
theorem d_Mo_every_11 : decode b_Mo_every 11 = .ok (.aload_n 0, 1) := by decide +kernel
theorem d_Mo_every_12 : decode b_Mo_every 12 = .ok (.invokevirtual 64, 3) := by decide +kernel
theorem d_Mo_every_15 : decode b_Mo_every 15 = .ok (.bipush 38, 2) := by decide +kernel
theorem d_Mo_every_17 : decode b_Mo_every 17 = .ok (.if_icmp .ne 26, 3) := by decide +kernel
theorem d_Mo_every_20 : decode b_Mo_every 20 = .ok (.aload_n 0, 1) := by decide +kernel
theorem d_Mo_every_21 : decode b_Mo_every 21 = .ok (.dup, 1) := by decide +kernel
theorem d_Mo_every_22 : decode b_Mo_every 22 = .ok (.getfield 54, 3) := by decide +kernel
theorem d_Mo_every_25 : decode b_Mo_every 25 = .ok (.iconst 1, 1) := by decide +kernel
theorem d_Mo_every_26 : decode b_Mo_every 26 = .ok (.iadd, 1) := by decide +kernel
theorem d_Mo_every_27 : decode b_Mo_every 27 = .ok (.putfield 54, 3) := by decide +kernel
theorem d_Mo_every_30 : decode b_Mo_every 30 = .ok (.aload_n 0, 1) := by decide +kernel
theorem d_Mo_every_31 : decode b_Mo_every 31 = .ok (.invokevirtual 87, 3) := by decide +kernel
theorem d_Mo_every_34 : decode b_Mo_every 34 = .ok (.aload_n 0, 1) := by decide +kernel
theorem d_Mo_every_35 : decode b_Mo_every 35 = .ok (.bipush (-2), 2) := by decide +kernel
theorem d_Mo_every_37 : decode b_Mo_every 37 = .ok (.invokevirtual 90, 3) := by decide +kernel
theorem d_Mo_every_40 : decode b_Mo_every 40 = .ok (.goto (-36), 3) := by decide +kernel
theorem d_Mo_every_43 : decode b_Mo_every 43 = .ok (.return_, 1) := by decide +kernel
theorem o_Mo_every : OkV y_Mo_every "OwnsLiftModel" b_Mo_every 1 none 0 := ⟨⟨rfl, by decide +kernel, by decide +kernel, by decide +kernel⟩, g_1120, g_34, g_81, g_1121⟩

theorem d_Mo_factor_0 : decode b_Mo_factor 0 = .ok (.aload_n 0, 1) := by decide +kernel
theorem d_Mo_factor_1 : decode b_Mo_factor 1 = .ok (.getfield 60, 3) := by decide +kernel
theorem d_Mo_factor_4 : decode b_Mo_factor 4 = .ok (.ifCond .eq 4, 3) := by decide +kernel
theorem d_Mo_factor_7 : decode b_Mo_factor 7 = .ok (.return_, 1) := by decide +kernel
theorem d_Mo_factor_8 : decode b_Mo_factor 8 = .ok (.aload_n 0, 1) := by decide +kernel
theorem d_Mo_factor_9 : decode b_Mo_factor 9 = .ok (.invokevirtual 64, 3) := by decide +kernel
theorem d_Mo_factor_12 : decode b_Mo_factor 12 = .ok (.istore_n 1, 1) := by decide +kernel
theorem d_Mo_factor_13 : decode b_Mo_factor 13 = .ok (.iload_n 1, 1) := by decide +kernel
theorem d_Mo_factor_14 : decode b_Mo_factor 14 = .ok (.bipush 33, 2) := by decide +kernel
theorem d_Mo_factor_16 : decode b_Mo_factor 16 = .ok (.if_icmp .eq 9, 3) := by decide +kernel
theorem d_Mo_factor_19 : decode b_Mo_factor 19 = .ok (.iload_n 1, 1) := by decide +kernel
theorem d_Mo_factor_20 : decode b_Mo_factor 20 = .ok (.bipush 40, 2) := by decide +kernel
theorem d_Mo_factor_22 : decode b_Mo_factor 22 = .ok (.if_icmp .ne 90, 3) := by decide +kernel
theorem d_Mo_factor_25 : decode b_Mo_factor 25 = .ok (.aload_n 0, 1) := by decide +kernel
theorem d_Mo_factor_26 : decode b_Mo_factor 26 = .ok (.aload_n 0, 1) := by decide +kernel
theorem d_Mo_factor_27 : decode b_Mo_factor 27 = .ok (.getfield 84, 3) := by decide +kernel
theorem d_Mo_factor_30 : decode b_Mo_factor 30 = .ok (.iconst 5, 1) := by decide +kernel
theorem d_Mo_factor_31 : decode b_Mo_factor 31 = .ok (.if_icmp .ne 7, 3) := by decide +kernel
theorem d_Mo_factor_34 : decode b_Mo_factor 34 = .ok (.iconst 1, 1) := by decide +kernel
theorem d_Mo_factor_35 : decode b_Mo_factor 35 = .ok (.goto 4, 3) := by decide +kernel
theorem d_Mo_factor_38 : decode b_Mo_factor 38 = .ok (.iconst 0, 1) := by decide +kernel
theorem d_Mo_factor_39 : decode b_Mo_factor 39 = .ok (.putfield 60, 3) := by decide +kernel
theorem d_Mo_factor_42 : decode b_Mo_factor 42 = .ok (.aload_n 0, 1) := by decide +kernel
theorem d_Mo_factor_43 : decode b_Mo_factor 43 = .ok (.dup, 1) := by decide +kernel
theorem d_Mo_factor_44 : decode b_Mo_factor 44 = .ok (.getfield 84, 3) := by decide +kernel
theorem d_Mo_factor_47 : decode b_Mo_factor 47 = .ok (.iconst 1, 1) := by decide +kernel
theorem d_Mo_factor_48 : decode b_Mo_factor 48 = .ok (.iadd, 1) := by decide +kernel
theorem d_Mo_factor_49 : decode b_Mo_factor 49 = .ok (.putfield 84, 3) := by decide +kernel
theorem d_Mo_factor_52 : decode b_Mo_factor 52 = .ok (.aload_n 0, 1) := by decide +kernel
theorem d_Mo_factor_53 : decode b_Mo_factor 53 = .ok (.dup, 1) := by decide +kernel
theorem d_Mo_factor_54 : decode b_Mo_factor 54 = .ok (.getfield 54, 3) := by decide +kernel
theorem d_Mo_factor_57 : decode b_Mo_factor 57 = .ok (.aload_n 0, 1) := by decide +kernel
theorem d_Mo_factor_58 : decode b_Mo_factor 58 = .ok (.getfield 60, 3) := by decide +kernel
theorem d_Mo_factor_61 : decode b_Mo_factor 61 = .ok (.ifCond .eq 7, 3) := by decide +kernel
theorem d_Mo_factor_64 : decode b_Mo_factor 64 = .ok (.iconst 0, 1) := by decide +kernel
theorem d_Mo_factor_65 : decode b_Mo_factor 65 = .ok (.goto 4, 3) := by decide +kernel
theorem d_Mo_factor_68 : decode b_Mo_factor 68 = .ok (.iconst 1, 1) := by decide +kernel
theorem d_Mo_factor_69 : decode b_Mo_factor 69 = .ok (.iadd, 1) := by decide +kernel
theorem d_Mo_factor_70 : decode b_Mo_factor 70 = .ok (.putfield 54, 3) := by decide +kernel
theorem d_Mo_factor_73 : decode b_Mo_factor 73 = .ok (.iload_n 1, 1) := by decide +kernel
theorem d_Mo_factor_74 : decode b_Mo_factor 74 = .ok (.bipush 33, 2) := by decide +kernel
theorem d_Mo_factor_76 : decode b_Mo_factor 76 = .ok (.if_icmp .ne 15, 3) := by decide +kernel
theorem d_Mo_factor_79 : decode b_Mo_factor 79 = .ok (.aload_n 0, 1) := by decide +kernel
theorem d_Mo_factor_80 : decode b_Mo_factor 80 = .ok (.invokevirtual 87, 3) := by decide +kernel
theorem d_Mo_factor_83 : decode b_Mo_factor 83 = .ok (.aload_n 0, 1) := by decide +kernel
theorem d_Mo_factor_84 : decode b_Mo_factor 84 = .ok (.iconst (-1), 1) := by decide +kernel
theorem d_Mo_factor_85 : decode b_Mo_factor 85 = .ok (.invokevirtual 90, 3) := by decide +kernel
theorem d_Mo_factor_88 : decode b_Mo_factor 88 = .ok (.goto 13, 3) := by decide +kernel
theorem d_Mo_factor_91 : decode b_Mo_factor 91 = .ok (.aload_n 0, 1) := by decide +kernel
theorem d_Mo_factor_92 : decode b_Mo_factor 92 = .ok (.invokevirtual 93, 3) := by decide +kernel
theorem d_Mo_factor_95 : decode b_Mo_factor 95 = .ok (.aload_n 0, 1) := by decide +kernel
theorem d_Mo_factor_96 : decode b_Mo_factor 96 = .ok (.bipush 41, 2) := by decide +kernel
theorem d_Mo_factor_98 : decode b_Mo_factor 98 = .ok (.invokevirtual 77, 3) := by decide +kernel
theorem d_Mo_factor_101 : decode b_Mo_factor 101 = .ok (.aload_n 0, 1) := by decide +kernel
theorem d_Mo_factor_102 : decode b_Mo_factor 102 = .ok (.dup, 1) := by decide +kernel
theorem d_Mo_factor_103 : decode b_Mo_factor 103 = .ok (.getfield 84, 3) := by decide +kernel
theorem d_Mo_factor_106 : decode b_Mo_factor 106 = .ok (.iconst 1, 1) := by decide +kernel
theorem d_Mo_factor_107 : decode b_Mo_factor 107 = .ok (.isub, 1) := by decide +kernel
theorem d_Mo_factor_108 : decode b_Mo_factor 108 = .ok (.putfield 84, 3) := by decide +kernel
theorem d_Mo_factor_111 : decode b_Mo_factor 111 = .ok (.return_, 1) := by decide +kernel
theorem d_Mo_factor_112 : decode b_Mo_factor 112 = .ok (.aload_n 0, 1) := by decide +kernel
theorem d_Mo_factor_113 : decode b_Mo_factor 113 = .ok (.ldc 96, 2) := by decide +kernel
theorem d_Mo_factor_115 : decode b_Mo_factor 115 = .ok (.invokevirtual 98, 3) := by decide +kernel
theorem d_Mo_factor_118 : decode b_Mo_factor 118 = .ok (.istore_n 2, 1) := by decide +kernel
theorem d_Mo_factor_119 : decode b_Mo_factor 119 = .ok (.aload_n 0, 1) := by decide +kernel
theorem d_Mo_factor_120 : decode b_Mo_factor 120 = .ok (.iload_n 2, 1) := by decide +kernel
theorem d_Mo_factor_121 : decode b_Mo_factor 121 = .ok (.iconst (-1), 1) := by decide +kernel
theorem d_Mo_factor_122 : decode b_Mo_factor 122 = .ok (.if_icmp .ne 7, 3) := by decide +kernel
theorem d_Mo_factor_125 : decode b_Mo_factor 125 = .ok (.iconst 1, 1) := by decide +kernel
theorem d_Mo_factor_126 : decode b_Mo_factor 126 = .ok (.goto 4, 3) := by decide +kernel
theorem d_Mo_factor_129 : decode b_Mo_factor 129 = .ok (.iconst 0, 1) := by decide +kernel
theorem d_Mo_factor_130 : decode b_Mo_factor 130 = .ok (.putfield 60, 3) := by decide +kernel
theorem d_Mo_factor_133 : decode b_Mo_factor 133 = .ok (.aload_n 0, 1) := by decide +kernel
theorem d_Mo_factor_134 : decode b_Mo_factor 134 = .ok (.getfield 60, 3) := by decide +kernel
theorem d_Mo_factor_137 : decode b_Mo_factor 137 = .ok (.ifCond .eq 7, 3) := by decide +kernel
theorem d_Mo_factor_140 : decode b_Mo_factor 140 = .ok (.iconst 0, 1) := by decide +kernel
theorem d_Mo_factor_141 : decode b_Mo_factor 141 = .ok (.goto 9, 3) := by decide +kernel
theorem d_Mo_factor_144 : decode b_Mo_factor 144 = .ok (.aload_n 0, 1) := by decide +kernel
theorem d_Mo_factor_145 : decode b_Mo_factor 145 = .ok (.ldc 102, 2) := by decide +kernel
theorem d_Mo_factor_147 : decode b_Mo_factor 147 = .ok (.invokevirtual 98, 3) := by decide +kernel
theorem d_Mo_factor_150 : decode b_Mo_factor 150 = .ok (.istore_n 3, 1) := by decide +kernel
theorem d_Mo_factor_151 : decode b_Mo_factor 151 = .ok (.aload_n 0, 1) := by decide +kernel
theorem d_Mo_factor_152 : decode b_Mo_factor 152 = .ok (.aload_n 0, 1) := by decide +kernel
theorem d_Mo_factor_153 : decode b_Mo_factor 153 = .ok (.getfield 60, 3) := by decide +kernel
theorem d_Mo_factor_156 : decode b_Mo_factor 156 = .ok (.ifCond .ne 8, 3) := by decide +kernel
theorem d_Mo_factor_159 : decode b_Mo_factor 159 = .ok (.iload_n 3, 1) := by decide +kernel
theorem d_Mo_factor_160 : decode b_Mo_factor 160 = .ok (.iconst (-1), 1) := by decide +kernel
theorem d_Mo_factor_161 : decode b_Mo_factor 161 = .ok (.if_icmp .ne 7, 3) := by decide +kernel
theorem d_Mo_factor_164 : decode b_Mo_factor 164 = .ok (.iconst 1, 1) := by decide +kernel
theorem d_Mo_factor_165 : decode b_Mo_factor 165 = .ok (.goto 4, 3) := by decide +kernel
theorem d_Mo_factor_168 : decode b_Mo_factor 168 = .ok (.iconst 0, 1) := by decide +kernel
theorem d_Mo_factor_169 : decode b_Mo_factor 169 = .ok (.putfield 60, 3) := by decide +kernel
theorem d_Mo_factor_172 : decode b_Mo_factor 172 = .ok (.aload_n 0, 1) := by decide +kernel
theorem d_Mo_factor_173 : decode b_Mo_factor 173 = .ok (.invokevirtual 104, 3) := by decide +kernel
theorem d_Mo_factor_176 : decode b_Mo_factor 176 = .ok (.istore 4, 2) := by decide +kernel
theorem d_Mo_factor_178 : decode b_Mo_factor 178 = .ok (.aload_n 0, 1) := by decide +kernel
theorem d_Mo_factor_179 : decode b_Mo_factor 179 = .ok (.iload_n 2, 1) := by decide +kernel
theorem d_Mo_factor_180 : decode b_Mo_factor 180 = .ok (.bipush 8, 2) := by decide +kernel
theorem d_Mo_factor_182 : decode b_Mo_factor 182 = .ok (.iload_n 3, 1) := by decide +kernel
theorem d_Mo_factor_183 : decode b_Mo_factor 183 = .ok (.imul, 1) := by decide +kernel
theorem d_Mo_factor_184 : decode b_Mo_factor 184 = .ok (.iadd, 1) := by decide +kernel
theorem d_Mo_factor_185 : decode b_Mo_factor 185 = .ok (.bipush 32, 2) := by decide +kernel
theorem d_Mo_factor_187 : decode b_Mo_factor 187 = .ok (.iload 4, 2) := by decide +kernel
theorem d_Mo_factor_189 : decode b_Mo_factor 189 = .ok (.imul, 1) := by decide +kernel
theorem d_Mo_factor_190 : decode b_Mo_factor 190 = .ok (.iadd, 1) := by decide +kernel
theorem d_Mo_factor_191 : decode b_Mo_factor 191 = .ok (.invokevirtual 90, 3) := by decide +kernel
theorem d_Mo_factor_194 : decode b_Mo_factor 194 = .ok (.return_, 1) := by decide +kernel
theorem o_Mo_factor : OkV y_Mo_factor "OwnsLiftModel" b_Mo_factor 5 none 0 := ⟨⟨rfl, by decide +kernel, by decide +kernel, by decide +kernel⟩, g_1124, g_35, g_81, g_1125⟩

theorem d_Mo_some_0 : decode b_Mo_some 0 = .ok (.aload_n 0, 1) := by decide +kernel
theorem d_Mo_some_1 : decode b_Mo_some 1 = .ok (.invokevirtual 107, 3) := by decide +kernel
theorem d_Mo_some_4 : decode b_Mo_some 4 = .ok (.aload_n 0, 1) := by decide +kernel
theorem d_Mo_some_5 : decode b_Mo_some 5 = .ok (.getfield 60, 3) := by decide +kernel
theorem d_Mo_some_8 : decode b_Mo_some 8 = .ok (.ifCond .ne 35, 3) := by decide +kernel
theorem d_Mo_some_11 : decode b_Mo_some 11 = .ok (.aload_n 0, 1) := by decide +kernel
theorem d_Mo_some_12 : decode b_Mo_some 12 = .ok (.invokevirtual 64, 3) := by decide +kernel
theorem d_Mo_some_15 : decode b_Mo_some 15 = .ok (.bipush 124, 2) := by decide +kernel
theorem d_Mo_some_17 : decode b_Mo_some 17 = .ok (.if_icmp .ne 26, 3) := by decide +kernel
theorem d_Mo_some_20 : decode b_Mo_some 20 = .ok (.aload_n 0, 1) := by decide +kernel
theorem d_Mo_some_21 : decode b_Mo_some 21 = .ok (.dup, 1) := by decide +kernel
theorem d_Mo_some_22 : decode b_Mo_some 22 = .ok (.getfield 54, 3) := by decide +kernel
theorem d_Mo_some_25 : decode b_Mo_some 25 = .ok (.iconst 1, 1) := by decide +kernel
theorem d_Mo_some_26 : decode b_Mo_some 26 = .ok (.iadd, 1) := by decide +kernel
theorem d_Mo_some_27 : decode b_Mo_some 27 = .ok (.putfield 54, 3) := by decide +kernel
theorem d_Mo_some_30 : decode b_Mo_some 30 = .ok (.aload_n 0, 1) := by decide +kernel
theorem d_Mo_some_31 : decode b_Mo_some 31 = .ok (.invokevirtual 107, 3) := by decide +kernel
theorem d_Mo_some_34 : decode b_Mo_some 34 = .ok (.aload_n 0, 1) := by decide +kernel
theorem d_Mo_some_35 : decode b_Mo_some 35 = .ok (.bipush (-3), 2) := by decide +kernel
theorem d_Mo_some_37 : decode b_Mo_some 37 = .ok (.invokevirtual 90, 3) := by decide +kernel
theorem d_Mo_some_40 : decode b_Mo_some 40 = .ok (.goto (-36), 3) := by decide +kernel
theorem d_Mo_some_43 : decode b_Mo_some 43 = .ok (.return_, 1) := by decide +kernel
theorem o_Mo_some : OkV y_Mo_some "OwnsLiftModel" b_Mo_some 1 none 0 := ⟨⟨rfl, by decide +kernel, by decide +kernel, by decide +kernel⟩, g_1116, g_33, g_81, g_1117⟩

set_option maxHeartbeats 8000000 in
set_option maxRecDepth 100000 in
theorem cg_Mo_every : ∀ nr : Nat, (∀ (l : Launch) (D : va_G) (g : Nat → ClassId) (a : Nat → Nat) (z : T_Mo) (v : T_Mo) (h : d_Mo_every nr z = some v), MV l y_Mo_every b_Mo_every 1 ({ frames := 6 + 2 * nr, cells := 0, slots := 0, locals := 108 + 60 * nr } : Room) D g [.ref (a 0)] (ws_Mo g a z) (ws_Mo g a v)) ∧ (∀ (l : Launch) (D : va_G) (g : Nat → ClassId) (a : Nat → Nat) (z : T_Mo) (v : T_Mo) (h : d_Mo_factor nr z = some v), MV l y_Mo_factor b_Mo_factor 5 ({ frames := 6 + 2 * nr, cells := 0, slots := 0, locals := 108 + 60 * nr } : Room) D g [.ref (a 0)] (ws_Mo g a z) (ws_Mo g a v)) ∧ (∀ (l : Launch) (D : va_G) (g : Nat → ClassId) (a : Nat → Nat) (z : T_Mo) (v : T_Mo) (h : d_Mo_some nr z = some v), MV l y_Mo_some b_Mo_some 1 ({ frames := 6 + 2 * nr, cells := 0, slots := 0, locals := 108 + 60 * nr } : Room) D g [.ref (a 0)] (ws_Mo g a z) (ws_Mo g a v)) := by
  intro nr
  induction nr with
  | zero =>
    exact ⟨(by intro l D g a z v h; have h : none = some v := h; cases h), (by intro l D g a z v h; have h : none = some v := h; cases h), (by intro l D g a z v h; have h : none = some v := h; cases h)⟩
  | succ nr ih =>
    refine ⟨?_, ?_, ?_⟩
    · intro l D g a z v h
      have hd : B_Mo_every (d_G_Mo_every nr) z = some v := h
      have ihc := ih
      generalize hrc : (d_G_Mo_every nr) = rc at hd
      have ih : (∀ (l : Launch) (D : va_G) (g : Nat → ClassId) (a : Nat → Nat) (z : T_Mo) (v : T_Mo) (h : rc.1 z = some v), MV l y_Mo_every b_Mo_every 1 ({ frames := 6 + 2 * nr, cells := 0, slots := 0, locals := 108 + 60 * nr } : Room) D g [.ref (a 0)] (ws_Mo g a z) (ws_Mo g a v)) ∧ (∀ (l : Launch) (D : va_G) (g : Nat → ClassId) (a : Nat → Nat) (z : T_Mo) (v : T_Mo) (h : rc.2.1 z = some v), MV l y_Mo_factor b_Mo_factor 5 ({ frames := 6 + 2 * nr, cells := 0, slots := 0, locals := 108 + 60 * nr } : Room) D g [.ref (a 0)] (ws_Mo g a z) (ws_Mo g a v)) ∧ (∀ (l : Launch) (D : va_G) (g : Nat → ClassId) (a : Nat → Nat) (z : T_Mo) (v : T_Mo) (h : rc.2.2 z = some v), MV l y_Mo_some b_Mo_some 1 ({ frames := 6 + 2 * nr, cells := 0, slots := 0, locals := 108 + 60 * nr } : Room) D g [.ref (a 0)] (ws_Mo g a z) (ws_Mo g a v)) := ⟨fun l D g a z v h => ih.1 l D g a z v (by unfold d_Mo_every; rw [hrc]; exact h), fun l D g a z v h => ih.2.1 l D g a z v (by unfold d_Mo_factor; rw [hrc]; exact h), fun l D g a z v h => ih.2.2 l D g a z v (by unfold d_Mo_some; rw [hrc]; exact h)⟩
      clear ihc hrc
      unfold B_Mo_every at hd
      refine enterV rfl (Nat.le_of_ble_eq_true rfl) (fun p e s m below meth c A ls hx hb hml hr hown hg hlk hK hA hP hD hS hCs hl => ?_)
      have hown : s.vm.findClass "OwnsLiftModel" = some m.cls := hown
      have hl : lv_has ls 1 [(0, .ref (a 0))] := hl
      show GV p l e s m ({ frames := 6 + 2 * (nr + 1), cells := 0, slots := 0, locals := 108 + 60 * (nr + 1) } : Room) ([.ref (a 0)] : List Value).toArray below meth c A D g (ws_Mo g a v) s.heap [] (F0 m 0 ls [])
      refine lv_aload_n hx hb d_Mo_every_0 rfl (lv_at hl 0 rfl) ?_
      obtain ⟨v_1, e_2, hd⟩ := bind_s hd
      refine callVV (ws' := ws_Mo g a v_1) (rest := []) (As := []) hx hb hml hown hg hK hP hD hS hA hCs hl.1 (ih.2.1 l D g a z _ e_2) o_Mo_factor g_1122 (ci := 1) (q0 := 0) rfl rfl (List.range' 0 12) (segC1 rfl rfl) (by decide) rfl (segP1 rfl rfl) rfl rfl (Nat.le_of_ble_eq_true rfl) ⟨rfl, rfl, by show _ ≤ _; (try dsimp only); omega, by show _ ≤ _; (try dsimp only); omega⟩ d_Mo_every_1 (fun H locs hP hD hS => ?_)
      have lp4 : ∀ (n : Nat) (z_4 : T_Mo) (H : Heap) (locs : List Loc) (ls : Array Slot), va_P D classes (ws_Mo g a z_4) H → va_D A (ws_Mo g a z_4) → va_S A s.heap H locs → lv_has ls 1 [(0, .ref (a 0))] → d_Mo_every_L4 rc n z_4 = some v → GV p l e s m ({ frames := 6 + 2 * (nr + 1), cells := 0, slots := 0, locals := 108 + 60 * (nr + 1) } : Room) ([.ref (a 0)] : List Value).toArray below meth c A D g (ws_Mo g a v) H locs (F0 m 4 ls []) := by
        intro n
        induction n with
        | zero =>
          intro  z_4 H locs ls hP hD hS hl hd
          have hd : none = some v := hd
          cases hd
        | succ n ih4 =>
          intro  z_4 H locs ls hP hD hS hl hd
          have hd : B_Mo_every_L4 rc (d_Mo_every_L4 rc n) z_4 = some v := hd
          generalize d_Mo_every_L4 rc n = self4 at ih4 hd
          unfold B_Mo_every_L4 at hd
          refine lv_aload_n hx hb d_Mo_every_4 rfl (lv_at hl 0 rfl) ?_
          refine va_get (D := D) (ci := 1) (v := .int (q_Mo_isWrong z_4)) (C := R_Mo) (T := F_Mo) (N := 26) hx hb hg i_Mo hown hK hP 0 rfl rfl 8 (by decide) (hg _ g_1000) (fun _ h9 => h9) rfl d_Mo_every_5 ?_
          refine lv_if_ne (tgt := 43) hx hb d_Mo_every_8 (by decide) (fun h_3 => ?_) (fun h_3 => ?_)
          · have hd := ite_f hd h_3
            obtain rfl := Option.some.inj hd
            exact retV hx hb hr hlk hK hP hD hS d_Mo_every_43
          · have hd := ite_t hd h_3
            refine lv_aload_n hx hb d_Mo_every_11 rfl (lv_at hl 0 rfl) ?_
            obtain ⟨v_4, e_5, hd⟩ := bind_s hd
            refine callVI (ws' := ws_Mo g a z_4) (rest := []) (As := []) hx hb hml hown hg hK hP hD hS hA hCs hl.1 (c_Mo_here l D g a z_4 _ e_5) o_Mo_here g_1087 (ci := 1) (q0 := 0) rfl rfl (List.range' 0 12) (segC1 rfl rfl) (by decide) rfl (segP1 rfl rfl) rfl rfl (Nat.le_of_ble_eq_true rfl) ⟨rfl, rfl, by show _ ≤ _; (try dsimp only); omega, by show _ ≤ _; (try dsimp only); omega⟩ d_Mo_every_12 (fun H locs hP hD hS => ?_)
            refine lv_bipush (v := 38) hx hb d_Mo_every_15 (by decide) ?_
            refine lv_icmp_ne (tgt := 43) hx hb d_Mo_every_17 (by decide) (fun h_6 => ?_) (fun h_6 => ?_)
            · have hd := ite_f hd h_6
              obtain rfl := Option.some.inj hd
              exact retV hx hb hr hlk hK hP hD hS d_Mo_every_43
            · have hd := ite_t hd h_6
              refine lv_aload_n hx hb d_Mo_every_20 rfl (lv_at hl 0 rfl) ?_
              refine lv_dup hx hb d_Mo_every_21 rfl ?_
              refine va_get (D := D) (ci := 1) (v := .int (q_Mo_spot z_4)) (C := R_Mo) (T := F_Mo) (N := 26) hx hb hg i_Mo hown hK hP 0 rfl rfl 6 (by decide) (hg _ g_998) (fun _ h9 => h9) rfl d_Mo_every_22 ?_
              refine lv_iconst (v := 1) hx hb d_Mo_every_25 (by decide) ?_
              refine lv_iadd hx hb d_Mo_every_26 ?_
              refine va_put (D := D) (ci := 1) (v := .int ((q_Mo_spot z_4) + 1)) (ty := .int) (C := R_Mo) (T := F_Mo) (N := 26) hx hb hg i_Mo t_Mo t_Mo_ok n_Mo hown hK hP hD hS 0 rfl rfl 6 (by decide) (hg _ g_998) (fun _ h9 => h9) rfl (by decide +kernel) rfl rfl (Nat.le_of_ble_eq_true rfl) d_Mo_every_27 (fun H locs hP hD hS => ?_)
              have hP : va_P D classes (ws_Mo g a (u_Mo_spot z_4 ((q_Mo_spot z_4) + 1))) H := hP
              have hD : va_D A (ws_Mo g a (u_Mo_spot z_4 ((q_Mo_spot z_4) + 1))) := hD
              refine lv_aload_n hx hb d_Mo_every_30 rfl (lv_at hl 0 rfl) ?_
              obtain ⟨v_7, e_8, hd⟩ := bind_s hd
              refine callVV (ws' := ws_Mo g a v_7) (rest := []) (As := []) hx hb hml hown hg hK hP hD hS hA hCs hl.1 (ih.2.1 l D g a (u_Mo_spot z_4 ((q_Mo_spot z_4) + 1)) _ e_8) o_Mo_factor g_1122 (ci := 1) (q0 := 0) rfl rfl (List.range' 0 12) (segC1 rfl rfl) (by decide) rfl (segP1 rfl rfl) rfl rfl (Nat.le_of_ble_eq_true rfl) ⟨rfl, rfl, by show _ ≤ _; (try dsimp only); omega, by show _ ≤ _; (try dsimp only); omega⟩ d_Mo_every_31 (fun H locs hP hD hS => ?_)
              refine lv_aload_n hx hb d_Mo_every_34 rfl (lv_at hl 0 rfl) ?_
              refine lv_bipush (v := (-2)) hx hb d_Mo_every_35 (by decide) ?_
              obtain ⟨v_9, e_10, hd⟩ := bind_s hd
              refine callVV (ws' := ws_Mo g a v_9) (rest := []) (As := [.int (-2)]) hx hb hml hown hg hK hP hD hS hA hCs hl.1 (c_Mo_emits l D g a (-2) v_7 _ e_10) o_Mo_emits g_1126 (ci := 1) (q0 := 0) rfl rfl (List.range' 0 12) (segC1 rfl rfl) (by decide) rfl (segP1 rfl rfl) rfl rfl (Nat.le_of_ble_eq_true rfl) ⟨rfl, rfl, by show _ ≤ _; (try dsimp only); omega, by show _ ≤ _; (try dsimp only); omega⟩ d_Mo_every_37 (fun H locs hP hD hS => ?_)
              refine lv_goto (tgt := 4) hx hb d_Mo_every_40 (by decide) ?_
              exact ih4 v_9 _ _ _ hP hD hS (lv_sub hl [0] rfl) hd
      exact lp4 1000 v_1 _ _ _ hP hD hS (lv_sub hl [0] rfl) hd
    · intro l D g a z v h
      have hd : B_Mo_factor (d_G_Mo_every nr) z = some v := h
      have ihc := ih
      generalize hrc : (d_G_Mo_every nr) = rc at hd
      have ih : (∀ (l : Launch) (D : va_G) (g : Nat → ClassId) (a : Nat → Nat) (z : T_Mo) (v : T_Mo) (h : rc.1 z = some v), MV l y_Mo_every b_Mo_every 1 ({ frames := 6 + 2 * nr, cells := 0, slots := 0, locals := 108 + 60 * nr } : Room) D g [.ref (a 0)] (ws_Mo g a z) (ws_Mo g a v)) ∧ (∀ (l : Launch) (D : va_G) (g : Nat → ClassId) (a : Nat → Nat) (z : T_Mo) (v : T_Mo) (h : rc.2.1 z = some v), MV l y_Mo_factor b_Mo_factor 5 ({ frames := 6 + 2 * nr, cells := 0, slots := 0, locals := 108 + 60 * nr } : Room) D g [.ref (a 0)] (ws_Mo g a z) (ws_Mo g a v)) ∧ (∀ (l : Launch) (D : va_G) (g : Nat → ClassId) (a : Nat → Nat) (z : T_Mo) (v : T_Mo) (h : rc.2.2 z = some v), MV l y_Mo_some b_Mo_some 1 ({ frames := 6 + 2 * nr, cells := 0, slots := 0, locals := 108 + 60 * nr } : Room) D g [.ref (a 0)] (ws_Mo g a z) (ws_Mo g a v)) := ⟨fun l D g a z v h => ih.1 l D g a z v (by unfold d_Mo_every; rw [hrc]; exact h), fun l D g a z v h => ih.2.1 l D g a z v (by unfold d_Mo_factor; rw [hrc]; exact h), fun l D g a z v h => ih.2.2 l D g a z v (by unfold d_Mo_some; rw [hrc]; exact h)⟩
      clear ihc hrc
      unfold B_Mo_factor at hd
      refine enterV rfl (Nat.le_of_ble_eq_true rfl) (fun p e s m below meth c A ls hx hb hml hr hown hg hlk hK hA hP hD hS hCs hl => ?_)
      have hown : s.vm.findClass "OwnsLiftModel" = some m.cls := hown
      have hl : lv_has ls 5 [(0, .ref (a 0))] := hl
      show GV p l e s m ({ frames := 6 + 2 * (nr + 1), cells := 0, slots := 0, locals := 108 + 60 * (nr + 1) } : Room) ([.ref (a 0)] : List Value).toArray below meth c A D g (ws_Mo g a v) s.heap [] (F0 m 0 ls [])
      refine lv_aload_n hx hb d_Mo_factor_0 rfl (lv_at hl 0 rfl) ?_
      refine va_get (D := D) (ci := 1) (v := .int (q_Mo_isWrong z)) (C := R_Mo) (T := F_Mo) (N := 26) hx hb hg i_Mo hown hK hP 0 rfl rfl 8 (by decide) (hg _ g_1000) (fun _ h9 => h9) rfl d_Mo_factor_1 ?_
      refine lv_if_eq (tgt := 8) hx hb d_Mo_factor_4 (by decide) (fun h_1 => ?_) (fun h_1 => ?_)
      · have hd := ite_t hd h_1
        refine lv_aload_n hx hb d_Mo_factor_8 rfl (lv_at hl 0 rfl) ?_
        obtain ⟨v_2, e_3, hd⟩ := bind_s hd
        refine callVI (ws' := ws_Mo g a z) (rest := []) (As := []) hx hb hml hown hg hK hP hD hS hA hCs hl.1 (c_Mo_here l D g a z _ e_3) o_Mo_here g_1087 (ci := 1) (q0 := 0) rfl rfl (List.range' 0 12) (segC1 rfl rfl) (by decide) rfl (segP1 rfl rfl) rfl rfl (Nat.le_of_ble_eq_true rfl) ⟨rfl, rfl, by show _ ≤ _; (try dsimp only); omega, by show _ ≤ _; (try dsimp only); omega⟩ d_Mo_factor_9 (fun H locs hP hD hS => ?_)
        refine lv_istore_n (lv' := [(1, .int v_2), (0, .ref (a 0))]) hx hb d_Mo_factor_12 rfl hl (by decide) rfl (fun ls hl => ?_)
        refine lv_iload_n hx hb d_Mo_factor_13 rfl (lv_at hl 0 rfl) ?_
        refine lv_bipush (v := 33) hx hb d_Mo_factor_14 (by decide) ?_
        refine lv_icmp_eq (tgt := 25) hx hb d_Mo_factor_16 (by decide) (fun h_4 => ?_) (fun h_4 => ?_)
        · have hd := ite_t hd h_4
          refine lv_aload_n hx hb d_Mo_factor_25 rfl (lv_at hl 1 rfl) ?_
          refine lv_aload_n hx hb d_Mo_factor_26 rfl (lv_at hl 1 rfl) ?_
          refine va_get (D := D) (ci := 1) (v := .int (q_Mo_open z)) (C := R_Mo) (T := F_Mo) (N := 26) hx hb hg i_Mo hown hK hP 0 rfl rfl 9 (by decide) (hg _ g_1001) (fun _ h9 => h9) rfl d_Mo_factor_27 ?_
          refine lv_iconst (v := 5) hx hb d_Mo_factor_30 (by decide) ?_
          refine lv_icmp_ne (tgt := 38) hx hb d_Mo_factor_31 (by decide) (fun h_5 => ?_) (fun h_5 => ?_)
          · have hd := ite_f hd h_5
            refine lv_iconst (v := 0) hx hb d_Mo_factor_38 (by decide) ?_
            refine va_put (D := D) (ci := 1) (v := .int 0) (ty := .boolean) (C := R_Mo) (T := F_Mo) (N := 26) hx hb hg i_Mo t_Mo t_Mo_ok n_Mo hown hK hP hD hS 0 rfl rfl 8 (by decide) (hg _ g_1000) (fun _ h9 => h9) rfl (by decide +kernel) (by decide +kernel) rfl (Nat.le_of_ble_eq_true rfl) d_Mo_factor_39 (fun H locs hP hD hS => ?_)
            have hP : va_P D classes (ws_Mo g a (u_Mo_isWrong z 0)) H := hP
            have hD : va_D A (ws_Mo g a (u_Mo_isWrong z 0)) := hD
            refine lv_aload_n hx hb d_Mo_factor_42 rfl (lv_at hl 1 rfl) ?_
            refine lv_dup hx hb d_Mo_factor_43 rfl ?_
            refine va_get (D := D) (ci := 1) (v := .int (q_Mo_open (u_Mo_isWrong z 0))) (C := R_Mo) (T := F_Mo) (N := 26) hx hb hg i_Mo hown hK hP 0 rfl rfl 9 (by decide) (hg _ g_1001) (fun _ h9 => h9) rfl d_Mo_factor_44 ?_
            refine lv_iconst (v := 1) hx hb d_Mo_factor_47 (by decide) ?_
            refine lv_iadd hx hb d_Mo_factor_48 ?_
            refine va_put (D := D) (ci := 1) (v := .int ((q_Mo_open (u_Mo_isWrong z 0)) + 1)) (ty := .int) (C := R_Mo) (T := F_Mo) (N := 26) hx hb hg i_Mo t_Mo t_Mo_ok n_Mo hown hK hP hD hS 0 rfl rfl 9 (by decide) (hg _ g_1001) (fun _ h9 => h9) rfl (by decide +kernel) rfl rfl (Nat.le_of_ble_eq_true rfl) d_Mo_factor_49 (fun H locs hP hD hS => ?_)
            have hP : va_P D classes (ws_Mo g a (u_Mo_open (u_Mo_isWrong z 0) ((q_Mo_open (u_Mo_isWrong z 0)) + 1))) H := hP
            have hD : va_D A (ws_Mo g a (u_Mo_open (u_Mo_isWrong z 0) ((q_Mo_open (u_Mo_isWrong z 0)) + 1))) := hD
            refine lv_aload_n hx hb d_Mo_factor_52 rfl (lv_at hl 1 rfl) ?_
            refine lv_dup hx hb d_Mo_factor_53 rfl ?_
            refine va_get (D := D) (ci := 1) (v := .int (q_Mo_spot (u_Mo_open (u_Mo_isWrong z 0) ((q_Mo_open (u_Mo_isWrong z 0)) + 1)))) (C := R_Mo) (T := F_Mo) (N := 26) hx hb hg i_Mo hown hK hP 0 rfl rfl 6 (by decide) (hg _ g_998) (fun _ h9 => h9) rfl d_Mo_factor_54 ?_
            refine lv_aload_n hx hb d_Mo_factor_57 rfl (lv_at hl 1 rfl) ?_
            refine va_get (D := D) (ci := 1) (v := .int (q_Mo_isWrong (u_Mo_open (u_Mo_isWrong z 0) ((q_Mo_open (u_Mo_isWrong z 0)) + 1)))) (C := R_Mo) (T := F_Mo) (N := 26) hx hb hg i_Mo hown hK hP 0 rfl rfl 8 (by decide) (hg _ g_1000) (fun _ h9 => h9) rfl d_Mo_factor_58 ?_
            refine lv_if_eq (tgt := 68) hx hb d_Mo_factor_61 (by decide) (fun h_6 => ?_) (fun h_6 => ?_)
            · have hd := ite_t hd h_6
              refine lv_iconst (v := 1) hx hb d_Mo_factor_68 (by decide) ?_
              refine lv_iadd hx hb d_Mo_factor_69 ?_
              refine va_put (D := D) (ci := 1) (v := .int ((q_Mo_spot (u_Mo_open (u_Mo_isWrong z 0) ((q_Mo_open (u_Mo_isWrong z 0)) + 1))) + 1)) (ty := .int) (C := R_Mo) (T := F_Mo) (N := 26) hx hb hg i_Mo t_Mo t_Mo_ok n_Mo hown hK hP hD hS 0 rfl rfl 6 (by decide) (hg _ g_998) (fun _ h9 => h9) rfl (by decide +kernel) rfl rfl (Nat.le_of_ble_eq_true rfl) d_Mo_factor_70 (fun H locs hP hD hS => ?_)
              have hP : va_P D classes (ws_Mo g a (u_Mo_spot (u_Mo_open (u_Mo_isWrong z 0) ((q_Mo_open (u_Mo_isWrong z 0)) + 1)) ((q_Mo_spot (u_Mo_open (u_Mo_isWrong z 0) ((q_Mo_open (u_Mo_isWrong z 0)) + 1))) + 1))) H := hP
              have hD : va_D A (ws_Mo g a (u_Mo_spot (u_Mo_open (u_Mo_isWrong z 0) ((q_Mo_open (u_Mo_isWrong z 0)) + 1)) ((q_Mo_spot (u_Mo_open (u_Mo_isWrong z 0) ((q_Mo_open (u_Mo_isWrong z 0)) + 1))) + 1))) := hD
              refine lv_iload_n hx hb d_Mo_factor_73 rfl (lv_at hl 0 rfl) ?_
              refine lv_bipush (v := 33) hx hb d_Mo_factor_74 (by decide) ?_
              refine lv_icmp_ne (tgt := 91) hx hb d_Mo_factor_76 (by decide) (fun h_7 => ?_) (fun h_7 => ?_)
              · have hd := ite_f hd h_7
                refine lv_aload_n hx hb d_Mo_factor_91 rfl (lv_at hl 1 rfl) ?_
                obtain ⟨v_8, e_9, hd⟩ := bind_s hd
                refine callVV (ws' := ws_Mo g a v_8) (rest := []) (As := []) hx hb hml hown hg hK hP hD hS hA hCs hl.1 (ih.2.2 l D g a (u_Mo_spot (u_Mo_open (u_Mo_isWrong z 0) ((q_Mo_open (u_Mo_isWrong z 0)) + 1)) ((q_Mo_spot (u_Mo_open (u_Mo_isWrong z 0) ((q_Mo_open (u_Mo_isWrong z 0)) + 1))) + 1)) _ e_9) o_Mo_some g_1114 (ci := 1) (q0 := 0) rfl rfl (List.range' 0 12) (segC1 rfl rfl) (by decide) rfl (segP1 rfl rfl) rfl rfl (Nat.le_of_ble_eq_true rfl) ⟨rfl, rfl, by show _ ≤ _; (try dsimp only); omega, by show _ ≤ _; (try dsimp only); omega⟩ d_Mo_factor_92 (fun H locs hP hD hS => ?_)
                refine lv_aload_n hx hb d_Mo_factor_95 rfl (lv_at hl 1 rfl) ?_
                refine lv_bipush (v := 41) hx hb d_Mo_factor_96 (by decide) ?_
                obtain ⟨v_10, e_11, hd⟩ := bind_s hd
                refine callVV (ws' := ws_Mo g a v_10) (rest := []) (As := [.int 41]) hx hb hml hown hg hK hP hD hS hA hCs hl.1 (c_Mo_must l D g a 41 v_8 _ e_11) o_Mo_must g_1095 (ci := 1) (q0 := 0) rfl rfl (List.range' 0 12) (segC1 rfl rfl) (by decide) rfl (segP1 rfl rfl) rfl rfl (Nat.le_of_ble_eq_true rfl) ⟨rfl, rfl, by show _ ≤ _; (try dsimp only); omega, by show _ ≤ _; (try dsimp only); omega⟩ d_Mo_factor_98 (fun H locs hP hD hS => ?_)
                refine lv_aload_n hx hb d_Mo_factor_101 rfl (lv_at hl 1 rfl) ?_
                refine lv_dup hx hb d_Mo_factor_102 rfl ?_
                refine va_get (D := D) (ci := 1) (v := .int (q_Mo_open v_10)) (C := R_Mo) (T := F_Mo) (N := 26) hx hb hg i_Mo hown hK hP 0 rfl rfl 9 (by decide) (hg _ g_1001) (fun _ h9 => h9) rfl d_Mo_factor_103 ?_
                refine lv_iconst (v := 1) hx hb d_Mo_factor_106 (by decide) ?_
                refine lv_isub hx hb d_Mo_factor_107 ?_
                refine va_put (D := D) (ci := 1) (v := .int ((q_Mo_open v_10) - 1)) (ty := .int) (C := R_Mo) (T := F_Mo) (N := 26) hx hb hg i_Mo t_Mo t_Mo_ok n_Mo hown hK hP hD hS 0 rfl rfl 9 (by decide) (hg _ g_1001) (fun _ h9 => h9) rfl (by decide +kernel) rfl rfl (Nat.le_of_ble_eq_true rfl) d_Mo_factor_108 (fun H locs hP hD hS => ?_)
                have hP : va_P D classes (ws_Mo g a (u_Mo_open v_10 ((q_Mo_open v_10) - 1))) H := hP
                have hD : va_D A (ws_Mo g a (u_Mo_open v_10 ((q_Mo_open v_10) - 1))) := hD
                obtain rfl := Option.some.inj hd
                exact retV hx hb hr hlk hK hP hD hS d_Mo_factor_111
              · have hd := ite_t hd h_7
                refine lv_aload_n hx hb d_Mo_factor_79 rfl (lv_at hl 1 rfl) ?_
                obtain ⟨v_12, e_13, hd⟩ := bind_s hd
                refine callVV (ws' := ws_Mo g a v_12) (rest := []) (As := []) hx hb hml hown hg hK hP hD hS hA hCs hl.1 (ih.2.1 l D g a (u_Mo_spot (u_Mo_open (u_Mo_isWrong z 0) ((q_Mo_open (u_Mo_isWrong z 0)) + 1)) ((q_Mo_spot (u_Mo_open (u_Mo_isWrong z 0) ((q_Mo_open (u_Mo_isWrong z 0)) + 1))) + 1)) _ e_13) o_Mo_factor g_1122 (ci := 1) (q0 := 0) rfl rfl (List.range' 0 12) (segC1 rfl rfl) (by decide) rfl (segP1 rfl rfl) rfl rfl (Nat.le_of_ble_eq_true rfl) ⟨rfl, rfl, by show _ ≤ _; (try dsimp only); omega, by show _ ≤ _; (try dsimp only); omega⟩ d_Mo_factor_80 (fun H locs hP hD hS => ?_)
                refine lv_aload_n hx hb d_Mo_factor_83 rfl (lv_at hl 1 rfl) ?_
                refine lv_iconst (v := (-1)) hx hb d_Mo_factor_84 (by decide) ?_
                obtain ⟨v_14, e_15, hd⟩ := bind_s hd
                refine callVV (ws' := ws_Mo g a v_14) (rest := []) (As := [.int (-1)]) hx hb hml hown hg hK hP hD hS hA hCs hl.1 (c_Mo_emits l D g a (-1) v_12 _ e_15) o_Mo_emits g_1126 (ci := 1) (q0 := 0) rfl rfl (List.range' 0 12) (segC1 rfl rfl) (by decide) rfl (segP1 rfl rfl) rfl rfl (Nat.le_of_ble_eq_true rfl) ⟨rfl, rfl, by show _ ≤ _; (try dsimp only); omega, by show _ ≤ _; (try dsimp only); omega⟩ d_Mo_factor_85 (fun H locs hP hD hS => ?_)
                refine lv_goto (tgt := 101) hx hb d_Mo_factor_88 (by decide) ?_
                refine lv_aload_n hx hb d_Mo_factor_101 rfl (lv_at hl 1 rfl) ?_
                refine lv_dup hx hb d_Mo_factor_102 rfl ?_
                refine va_get (D := D) (ci := 1) (v := .int (q_Mo_open v_14)) (C := R_Mo) (T := F_Mo) (N := 26) hx hb hg i_Mo hown hK hP 0 rfl rfl 9 (by decide) (hg _ g_1001) (fun _ h9 => h9) rfl d_Mo_factor_103 ?_
                refine lv_iconst (v := 1) hx hb d_Mo_factor_106 (by decide) ?_
                refine lv_isub hx hb d_Mo_factor_107 ?_
                refine va_put (D := D) (ci := 1) (v := .int ((q_Mo_open v_14) - 1)) (ty := .int) (C := R_Mo) (T := F_Mo) (N := 26) hx hb hg i_Mo t_Mo t_Mo_ok n_Mo hown hK hP hD hS 0 rfl rfl 9 (by decide) (hg _ g_1001) (fun _ h9 => h9) rfl (by decide +kernel) rfl rfl (Nat.le_of_ble_eq_true rfl) d_Mo_factor_108 (fun H locs hP hD hS => ?_)
                have hP : va_P D classes (ws_Mo g a (u_Mo_open v_14 ((q_Mo_open v_14) - 1))) H := hP
                have hD : va_D A (ws_Mo g a (u_Mo_open v_14 ((q_Mo_open v_14) - 1))) := hD
                obtain rfl := Option.some.inj hd
                exact retV hx hb hr hlk hK hP hD hS d_Mo_factor_111
            · have hd := ite_f hd h_6
              refine lv_iconst (v := 0) hx hb d_Mo_factor_64 (by decide) ?_
              refine lv_goto (tgt := 69) hx hb d_Mo_factor_65 (by decide) ?_
              refine lv_iadd hx hb d_Mo_factor_69 ?_
              refine va_put (D := D) (ci := 1) (v := .int ((q_Mo_spot (u_Mo_open (u_Mo_isWrong z 0) ((q_Mo_open (u_Mo_isWrong z 0)) + 1))) + 0)) (ty := .int) (C := R_Mo) (T := F_Mo) (N := 26) hx hb hg i_Mo t_Mo t_Mo_ok n_Mo hown hK hP hD hS 0 rfl rfl 6 (by decide) (hg _ g_998) (fun _ h9 => h9) rfl (by decide +kernel) rfl rfl (Nat.le_of_ble_eq_true rfl) d_Mo_factor_70 (fun H locs hP hD hS => ?_)
              have hP : va_P D classes (ws_Mo g a (u_Mo_spot (u_Mo_open (u_Mo_isWrong z 0) ((q_Mo_open (u_Mo_isWrong z 0)) + 1)) ((q_Mo_spot (u_Mo_open (u_Mo_isWrong z 0) ((q_Mo_open (u_Mo_isWrong z 0)) + 1))) + 0))) H := hP
              have hD : va_D A (ws_Mo g a (u_Mo_spot (u_Mo_open (u_Mo_isWrong z 0) ((q_Mo_open (u_Mo_isWrong z 0)) + 1)) ((q_Mo_spot (u_Mo_open (u_Mo_isWrong z 0) ((q_Mo_open (u_Mo_isWrong z 0)) + 1))) + 0))) := hD
              refine lv_iload_n hx hb d_Mo_factor_73 rfl (lv_at hl 0 rfl) ?_
              refine lv_bipush (v := 33) hx hb d_Mo_factor_74 (by decide) ?_
              refine lv_icmp_ne (tgt := 91) hx hb d_Mo_factor_76 (by decide) (fun h_16 => ?_) (fun h_16 => ?_)
              · have hd := ite_f hd h_16
                refine lv_aload_n hx hb d_Mo_factor_91 rfl (lv_at hl 1 rfl) ?_
                obtain ⟨v_17, e_18, hd⟩ := bind_s hd
                refine callVV (ws' := ws_Mo g a v_17) (rest := []) (As := []) hx hb hml hown hg hK hP hD hS hA hCs hl.1 (ih.2.2 l D g a (u_Mo_spot (u_Mo_open (u_Mo_isWrong z 0) ((q_Mo_open (u_Mo_isWrong z 0)) + 1)) ((q_Mo_spot (u_Mo_open (u_Mo_isWrong z 0) ((q_Mo_open (u_Mo_isWrong z 0)) + 1))) + 0)) _ e_18) o_Mo_some g_1114 (ci := 1) (q0 := 0) rfl rfl (List.range' 0 12) (segC1 rfl rfl) (by decide) rfl (segP1 rfl rfl) rfl rfl (Nat.le_of_ble_eq_true rfl) ⟨rfl, rfl, by show _ ≤ _; (try dsimp only); omega, by show _ ≤ _; (try dsimp only); omega⟩ d_Mo_factor_92 (fun H locs hP hD hS => ?_)
                refine lv_aload_n hx hb d_Mo_factor_95 rfl (lv_at hl 1 rfl) ?_
                refine lv_bipush (v := 41) hx hb d_Mo_factor_96 (by decide) ?_
                obtain ⟨v_19, e_20, hd⟩ := bind_s hd
                refine callVV (ws' := ws_Mo g a v_19) (rest := []) (As := [.int 41]) hx hb hml hown hg hK hP hD hS hA hCs hl.1 (c_Mo_must l D g a 41 v_17 _ e_20) o_Mo_must g_1095 (ci := 1) (q0 := 0) rfl rfl (List.range' 0 12) (segC1 rfl rfl) (by decide) rfl (segP1 rfl rfl) rfl rfl (Nat.le_of_ble_eq_true rfl) ⟨rfl, rfl, by show _ ≤ _; (try dsimp only); omega, by show _ ≤ _; (try dsimp only); omega⟩ d_Mo_factor_98 (fun H locs hP hD hS => ?_)
                refine lv_aload_n hx hb d_Mo_factor_101 rfl (lv_at hl 1 rfl) ?_
                refine lv_dup hx hb d_Mo_factor_102 rfl ?_
                refine va_get (D := D) (ci := 1) (v := .int (q_Mo_open v_19)) (C := R_Mo) (T := F_Mo) (N := 26) hx hb hg i_Mo hown hK hP 0 rfl rfl 9 (by decide) (hg _ g_1001) (fun _ h9 => h9) rfl d_Mo_factor_103 ?_
                refine lv_iconst (v := 1) hx hb d_Mo_factor_106 (by decide) ?_
                refine lv_isub hx hb d_Mo_factor_107 ?_
                refine va_put (D := D) (ci := 1) (v := .int ((q_Mo_open v_19) - 1)) (ty := .int) (C := R_Mo) (T := F_Mo) (N := 26) hx hb hg i_Mo t_Mo t_Mo_ok n_Mo hown hK hP hD hS 0 rfl rfl 9 (by decide) (hg _ g_1001) (fun _ h9 => h9) rfl (by decide +kernel) rfl rfl (Nat.le_of_ble_eq_true rfl) d_Mo_factor_108 (fun H locs hP hD hS => ?_)
                have hP : va_P D classes (ws_Mo g a (u_Mo_open v_19 ((q_Mo_open v_19) - 1))) H := hP
                have hD : va_D A (ws_Mo g a (u_Mo_open v_19 ((q_Mo_open v_19) - 1))) := hD
                obtain rfl := Option.some.inj hd
                exact retV hx hb hr hlk hK hP hD hS d_Mo_factor_111
              · have hd := ite_t hd h_16
                refine lv_aload_n hx hb d_Mo_factor_79 rfl (lv_at hl 1 rfl) ?_
                obtain ⟨v_21, e_22, hd⟩ := bind_s hd
                refine callVV (ws' := ws_Mo g a v_21) (rest := []) (As := []) hx hb hml hown hg hK hP hD hS hA hCs hl.1 (ih.2.1 l D g a (u_Mo_spot (u_Mo_open (u_Mo_isWrong z 0) ((q_Mo_open (u_Mo_isWrong z 0)) + 1)) ((q_Mo_spot (u_Mo_open (u_Mo_isWrong z 0) ((q_Mo_open (u_Mo_isWrong z 0)) + 1))) + 0)) _ e_22) o_Mo_factor g_1122 (ci := 1) (q0 := 0) rfl rfl (List.range' 0 12) (segC1 rfl rfl) (by decide) rfl (segP1 rfl rfl) rfl rfl (Nat.le_of_ble_eq_true rfl) ⟨rfl, rfl, by show _ ≤ _; (try dsimp only); omega, by show _ ≤ _; (try dsimp only); omega⟩ d_Mo_factor_80 (fun H locs hP hD hS => ?_)
                refine lv_aload_n hx hb d_Mo_factor_83 rfl (lv_at hl 1 rfl) ?_
                refine lv_iconst (v := (-1)) hx hb d_Mo_factor_84 (by decide) ?_
                obtain ⟨v_23, e_24, hd⟩ := bind_s hd
                refine callVV (ws' := ws_Mo g a v_23) (rest := []) (As := [.int (-1)]) hx hb hml hown hg hK hP hD hS hA hCs hl.1 (c_Mo_emits l D g a (-1) v_21 _ e_24) o_Mo_emits g_1126 (ci := 1) (q0 := 0) rfl rfl (List.range' 0 12) (segC1 rfl rfl) (by decide) rfl (segP1 rfl rfl) rfl rfl (Nat.le_of_ble_eq_true rfl) ⟨rfl, rfl, by show _ ≤ _; (try dsimp only); omega, by show _ ≤ _; (try dsimp only); omega⟩ d_Mo_factor_85 (fun H locs hP hD hS => ?_)
                refine lv_goto (tgt := 101) hx hb d_Mo_factor_88 (by decide) ?_
                refine lv_aload_n hx hb d_Mo_factor_101 rfl (lv_at hl 1 rfl) ?_
                refine lv_dup hx hb d_Mo_factor_102 rfl ?_
                refine va_get (D := D) (ci := 1) (v := .int (q_Mo_open v_23)) (C := R_Mo) (T := F_Mo) (N := 26) hx hb hg i_Mo hown hK hP 0 rfl rfl 9 (by decide) (hg _ g_1001) (fun _ h9 => h9) rfl d_Mo_factor_103 ?_
                refine lv_iconst (v := 1) hx hb d_Mo_factor_106 (by decide) ?_
                refine lv_isub hx hb d_Mo_factor_107 ?_
                refine va_put (D := D) (ci := 1) (v := .int ((q_Mo_open v_23) - 1)) (ty := .int) (C := R_Mo) (T := F_Mo) (N := 26) hx hb hg i_Mo t_Mo t_Mo_ok n_Mo hown hK hP hD hS 0 rfl rfl 9 (by decide) (hg _ g_1001) (fun _ h9 => h9) rfl (by decide +kernel) rfl rfl (Nat.le_of_ble_eq_true rfl) d_Mo_factor_108 (fun H locs hP hD hS => ?_)
                have hP : va_P D classes (ws_Mo g a (u_Mo_open v_23 ((q_Mo_open v_23) - 1))) H := hP
                have hD : va_D A (ws_Mo g a (u_Mo_open v_23 ((q_Mo_open v_23) - 1))) := hD
                obtain rfl := Option.some.inj hd
                exact retV hx hb hr hlk hK hP hD hS d_Mo_factor_111
          · have hd := ite_t hd h_5
            refine lv_iconst (v := 1) hx hb d_Mo_factor_34 (by decide) ?_
            refine lv_goto (tgt := 39) hx hb d_Mo_factor_35 (by decide) ?_
            refine va_put (D := D) (ci := 1) (v := .int 1) (ty := .boolean) (C := R_Mo) (T := F_Mo) (N := 26) hx hb hg i_Mo t_Mo t_Mo_ok n_Mo hown hK hP hD hS 0 rfl rfl 8 (by decide) (hg _ g_1000) (fun _ h9 => h9) rfl (by decide +kernel) (by decide +kernel) rfl (Nat.le_of_ble_eq_true rfl) d_Mo_factor_39 (fun H locs hP hD hS => ?_)
            have hP : va_P D classes (ws_Mo g a (u_Mo_isWrong z 1)) H := hP
            have hD : va_D A (ws_Mo g a (u_Mo_isWrong z 1)) := hD
            refine lv_aload_n hx hb d_Mo_factor_42 rfl (lv_at hl 1 rfl) ?_
            refine lv_dup hx hb d_Mo_factor_43 rfl ?_
            refine va_get (D := D) (ci := 1) (v := .int (q_Mo_open (u_Mo_isWrong z 1))) (C := R_Mo) (T := F_Mo) (N := 26) hx hb hg i_Mo hown hK hP 0 rfl rfl 9 (by decide) (hg _ g_1001) (fun _ h9 => h9) rfl d_Mo_factor_44 ?_
            refine lv_iconst (v := 1) hx hb d_Mo_factor_47 (by decide) ?_
            refine lv_iadd hx hb d_Mo_factor_48 ?_
            refine va_put (D := D) (ci := 1) (v := .int ((q_Mo_open (u_Mo_isWrong z 1)) + 1)) (ty := .int) (C := R_Mo) (T := F_Mo) (N := 26) hx hb hg i_Mo t_Mo t_Mo_ok n_Mo hown hK hP hD hS 0 rfl rfl 9 (by decide) (hg _ g_1001) (fun _ h9 => h9) rfl (by decide +kernel) rfl rfl (Nat.le_of_ble_eq_true rfl) d_Mo_factor_49 (fun H locs hP hD hS => ?_)
            have hP : va_P D classes (ws_Mo g a (u_Mo_open (u_Mo_isWrong z 1) ((q_Mo_open (u_Mo_isWrong z 1)) + 1))) H := hP
            have hD : va_D A (ws_Mo g a (u_Mo_open (u_Mo_isWrong z 1) ((q_Mo_open (u_Mo_isWrong z 1)) + 1))) := hD
            refine lv_aload_n hx hb d_Mo_factor_52 rfl (lv_at hl 1 rfl) ?_
            refine lv_dup hx hb d_Mo_factor_53 rfl ?_
            refine va_get (D := D) (ci := 1) (v := .int (q_Mo_spot (u_Mo_open (u_Mo_isWrong z 1) ((q_Mo_open (u_Mo_isWrong z 1)) + 1)))) (C := R_Mo) (T := F_Mo) (N := 26) hx hb hg i_Mo hown hK hP 0 rfl rfl 6 (by decide) (hg _ g_998) (fun _ h9 => h9) rfl d_Mo_factor_54 ?_
            refine lv_aload_n hx hb d_Mo_factor_57 rfl (lv_at hl 1 rfl) ?_
            refine va_get (D := D) (ci := 1) (v := .int (q_Mo_isWrong (u_Mo_open (u_Mo_isWrong z 1) ((q_Mo_open (u_Mo_isWrong z 1)) + 1)))) (C := R_Mo) (T := F_Mo) (N := 26) hx hb hg i_Mo hown hK hP 0 rfl rfl 8 (by decide) (hg _ g_1000) (fun _ h9 => h9) rfl d_Mo_factor_58 ?_
            refine lv_if_eq (tgt := 68) hx hb d_Mo_factor_61 (by decide) (fun h_25 => ?_) (fun h_25 => ?_)
            · have hd := ite_t hd h_25
              refine lv_iconst (v := 1) hx hb d_Mo_factor_68 (by decide) ?_
              refine lv_iadd hx hb d_Mo_factor_69 ?_
              refine va_put (D := D) (ci := 1) (v := .int ((q_Mo_spot (u_Mo_open (u_Mo_isWrong z 1) ((q_Mo_open (u_Mo_isWrong z 1)) + 1))) + 1)) (ty := .int) (C := R_Mo) (T := F_Mo) (N := 26) hx hb hg i_Mo t_Mo t_Mo_ok n_Mo hown hK hP hD hS 0 rfl rfl 6 (by decide) (hg _ g_998) (fun _ h9 => h9) rfl (by decide +kernel) rfl rfl (Nat.le_of_ble_eq_true rfl) d_Mo_factor_70 (fun H locs hP hD hS => ?_)
              have hP : va_P D classes (ws_Mo g a (u_Mo_spot (u_Mo_open (u_Mo_isWrong z 1) ((q_Mo_open (u_Mo_isWrong z 1)) + 1)) ((q_Mo_spot (u_Mo_open (u_Mo_isWrong z 1) ((q_Mo_open (u_Mo_isWrong z 1)) + 1))) + 1))) H := hP
              have hD : va_D A (ws_Mo g a (u_Mo_spot (u_Mo_open (u_Mo_isWrong z 1) ((q_Mo_open (u_Mo_isWrong z 1)) + 1)) ((q_Mo_spot (u_Mo_open (u_Mo_isWrong z 1) ((q_Mo_open (u_Mo_isWrong z 1)) + 1))) + 1))) := hD
              refine lv_iload_n hx hb d_Mo_factor_73 rfl (lv_at hl 0 rfl) ?_
              refine lv_bipush (v := 33) hx hb d_Mo_factor_74 (by decide) ?_
              refine lv_icmp_ne (tgt := 91) hx hb d_Mo_factor_76 (by decide) (fun h_26 => ?_) (fun h_26 => ?_)
              · have hd := ite_f hd h_26
                refine lv_aload_n hx hb d_Mo_factor_91 rfl (lv_at hl 1 rfl) ?_
                obtain ⟨v_27, e_28, hd⟩ := bind_s hd
                refine callVV (ws' := ws_Mo g a v_27) (rest := []) (As := []) hx hb hml hown hg hK hP hD hS hA hCs hl.1 (ih.2.2 l D g a (u_Mo_spot (u_Mo_open (u_Mo_isWrong z 1) ((q_Mo_open (u_Mo_isWrong z 1)) + 1)) ((q_Mo_spot (u_Mo_open (u_Mo_isWrong z 1) ((q_Mo_open (u_Mo_isWrong z 1)) + 1))) + 1)) _ e_28) o_Mo_some g_1114 (ci := 1) (q0 := 0) rfl rfl (List.range' 0 12) (segC1 rfl rfl) (by decide) rfl (segP1 rfl rfl) rfl rfl (Nat.le_of_ble_eq_true rfl) ⟨rfl, rfl, by show _ ≤ _; (try dsimp only); omega, by show _ ≤ _; (try dsimp only); omega⟩ d_Mo_factor_92 (fun H locs hP hD hS => ?_)
                refine lv_aload_n hx hb d_Mo_factor_95 rfl (lv_at hl 1 rfl) ?_
                refine lv_bipush (v := 41) hx hb d_Mo_factor_96 (by decide) ?_
                obtain ⟨v_29, e_30, hd⟩ := bind_s hd
                refine callVV (ws' := ws_Mo g a v_29) (rest := []) (As := [.int 41]) hx hb hml hown hg hK hP hD hS hA hCs hl.1 (c_Mo_must l D g a 41 v_27 _ e_30) o_Mo_must g_1095 (ci := 1) (q0 := 0) rfl rfl (List.range' 0 12) (segC1 rfl rfl) (by decide) rfl (segP1 rfl rfl) rfl rfl (Nat.le_of_ble_eq_true rfl) ⟨rfl, rfl, by show _ ≤ _; (try dsimp only); omega, by show _ ≤ _; (try dsimp only); omega⟩ d_Mo_factor_98 (fun H locs hP hD hS => ?_)
                refine lv_aload_n hx hb d_Mo_factor_101 rfl (lv_at hl 1 rfl) ?_
                refine lv_dup hx hb d_Mo_factor_102 rfl ?_
                refine va_get (D := D) (ci := 1) (v := .int (q_Mo_open v_29)) (C := R_Mo) (T := F_Mo) (N := 26) hx hb hg i_Mo hown hK hP 0 rfl rfl 9 (by decide) (hg _ g_1001) (fun _ h9 => h9) rfl d_Mo_factor_103 ?_
                refine lv_iconst (v := 1) hx hb d_Mo_factor_106 (by decide) ?_
                refine lv_isub hx hb d_Mo_factor_107 ?_
                refine va_put (D := D) (ci := 1) (v := .int ((q_Mo_open v_29) - 1)) (ty := .int) (C := R_Mo) (T := F_Mo) (N := 26) hx hb hg i_Mo t_Mo t_Mo_ok n_Mo hown hK hP hD hS 0 rfl rfl 9 (by decide) (hg _ g_1001) (fun _ h9 => h9) rfl (by decide +kernel) rfl rfl (Nat.le_of_ble_eq_true rfl) d_Mo_factor_108 (fun H locs hP hD hS => ?_)
                have hP : va_P D classes (ws_Mo g a (u_Mo_open v_29 ((q_Mo_open v_29) - 1))) H := hP
                have hD : va_D A (ws_Mo g a (u_Mo_open v_29 ((q_Mo_open v_29) - 1))) := hD
                obtain rfl := Option.some.inj hd
                exact retV hx hb hr hlk hK hP hD hS d_Mo_factor_111
              · have hd := ite_t hd h_26
                refine lv_aload_n hx hb d_Mo_factor_79 rfl (lv_at hl 1 rfl) ?_
                obtain ⟨v_31, e_32, hd⟩ := bind_s hd
                refine callVV (ws' := ws_Mo g a v_31) (rest := []) (As := []) hx hb hml hown hg hK hP hD hS hA hCs hl.1 (ih.2.1 l D g a (u_Mo_spot (u_Mo_open (u_Mo_isWrong z 1) ((q_Mo_open (u_Mo_isWrong z 1)) + 1)) ((q_Mo_spot (u_Mo_open (u_Mo_isWrong z 1) ((q_Mo_open (u_Mo_isWrong z 1)) + 1))) + 1)) _ e_32) o_Mo_factor g_1122 (ci := 1) (q0 := 0) rfl rfl (List.range' 0 12) (segC1 rfl rfl) (by decide) rfl (segP1 rfl rfl) rfl rfl (Nat.le_of_ble_eq_true rfl) ⟨rfl, rfl, by show _ ≤ _; (try dsimp only); omega, by show _ ≤ _; (try dsimp only); omega⟩ d_Mo_factor_80 (fun H locs hP hD hS => ?_)
                refine lv_aload_n hx hb d_Mo_factor_83 rfl (lv_at hl 1 rfl) ?_
                refine lv_iconst (v := (-1)) hx hb d_Mo_factor_84 (by decide) ?_
                obtain ⟨v_33, e_34, hd⟩ := bind_s hd
                refine callVV (ws' := ws_Mo g a v_33) (rest := []) (As := [.int (-1)]) hx hb hml hown hg hK hP hD hS hA hCs hl.1 (c_Mo_emits l D g a (-1) v_31 _ e_34) o_Mo_emits g_1126 (ci := 1) (q0 := 0) rfl rfl (List.range' 0 12) (segC1 rfl rfl) (by decide) rfl (segP1 rfl rfl) rfl rfl (Nat.le_of_ble_eq_true rfl) ⟨rfl, rfl, by show _ ≤ _; (try dsimp only); omega, by show _ ≤ _; (try dsimp only); omega⟩ d_Mo_factor_85 (fun H locs hP hD hS => ?_)
                refine lv_goto (tgt := 101) hx hb d_Mo_factor_88 (by decide) ?_
                refine lv_aload_n hx hb d_Mo_factor_101 rfl (lv_at hl 1 rfl) ?_
                refine lv_dup hx hb d_Mo_factor_102 rfl ?_
                refine va_get (D := D) (ci := 1) (v := .int (q_Mo_open v_33)) (C := R_Mo) (T := F_Mo) (N := 26) hx hb hg i_Mo hown hK hP 0 rfl rfl 9 (by decide) (hg _ g_1001) (fun _ h9 => h9) rfl d_Mo_factor_103 ?_
                refine lv_iconst (v := 1) hx hb d_Mo_factor_106 (by decide) ?_
                refine lv_isub hx hb d_Mo_factor_107 ?_
                refine va_put (D := D) (ci := 1) (v := .int ((q_Mo_open v_33) - 1)) (ty := .int) (C := R_Mo) (T := F_Mo) (N := 26) hx hb hg i_Mo t_Mo t_Mo_ok n_Mo hown hK hP hD hS 0 rfl rfl 9 (by decide) (hg _ g_1001) (fun _ h9 => h9) rfl (by decide +kernel) rfl rfl (Nat.le_of_ble_eq_true rfl) d_Mo_factor_108 (fun H locs hP hD hS => ?_)
                have hP : va_P D classes (ws_Mo g a (u_Mo_open v_33 ((q_Mo_open v_33) - 1))) H := hP
                have hD : va_D A (ws_Mo g a (u_Mo_open v_33 ((q_Mo_open v_33) - 1))) := hD
                obtain rfl := Option.some.inj hd
                exact retV hx hb hr hlk hK hP hD hS d_Mo_factor_111
            · have hd := ite_f hd h_25
              refine lv_iconst (v := 0) hx hb d_Mo_factor_64 (by decide) ?_
              refine lv_goto (tgt := 69) hx hb d_Mo_factor_65 (by decide) ?_
              refine lv_iadd hx hb d_Mo_factor_69 ?_
              refine va_put (D := D) (ci := 1) (v := .int ((q_Mo_spot (u_Mo_open (u_Mo_isWrong z 1) ((q_Mo_open (u_Mo_isWrong z 1)) + 1))) + 0)) (ty := .int) (C := R_Mo) (T := F_Mo) (N := 26) hx hb hg i_Mo t_Mo t_Mo_ok n_Mo hown hK hP hD hS 0 rfl rfl 6 (by decide) (hg _ g_998) (fun _ h9 => h9) rfl (by decide +kernel) rfl rfl (Nat.le_of_ble_eq_true rfl) d_Mo_factor_70 (fun H locs hP hD hS => ?_)
              have hP : va_P D classes (ws_Mo g a (u_Mo_spot (u_Mo_open (u_Mo_isWrong z 1) ((q_Mo_open (u_Mo_isWrong z 1)) + 1)) ((q_Mo_spot (u_Mo_open (u_Mo_isWrong z 1) ((q_Mo_open (u_Mo_isWrong z 1)) + 1))) + 0))) H := hP
              have hD : va_D A (ws_Mo g a (u_Mo_spot (u_Mo_open (u_Mo_isWrong z 1) ((q_Mo_open (u_Mo_isWrong z 1)) + 1)) ((q_Mo_spot (u_Mo_open (u_Mo_isWrong z 1) ((q_Mo_open (u_Mo_isWrong z 1)) + 1))) + 0))) := hD
              refine lv_iload_n hx hb d_Mo_factor_73 rfl (lv_at hl 0 rfl) ?_
              refine lv_bipush (v := 33) hx hb d_Mo_factor_74 (by decide) ?_
              refine lv_icmp_ne (tgt := 91) hx hb d_Mo_factor_76 (by decide) (fun h_35 => ?_) (fun h_35 => ?_)
              · have hd := ite_f hd h_35
                refine lv_aload_n hx hb d_Mo_factor_91 rfl (lv_at hl 1 rfl) ?_
                obtain ⟨v_36, e_37, hd⟩ := bind_s hd
                refine callVV (ws' := ws_Mo g a v_36) (rest := []) (As := []) hx hb hml hown hg hK hP hD hS hA hCs hl.1 (ih.2.2 l D g a (u_Mo_spot (u_Mo_open (u_Mo_isWrong z 1) ((q_Mo_open (u_Mo_isWrong z 1)) + 1)) ((q_Mo_spot (u_Mo_open (u_Mo_isWrong z 1) ((q_Mo_open (u_Mo_isWrong z 1)) + 1))) + 0)) _ e_37) o_Mo_some g_1114 (ci := 1) (q0 := 0) rfl rfl (List.range' 0 12) (segC1 rfl rfl) (by decide) rfl (segP1 rfl rfl) rfl rfl (Nat.le_of_ble_eq_true rfl) ⟨rfl, rfl, by show _ ≤ _; (try dsimp only); omega, by show _ ≤ _; (try dsimp only); omega⟩ d_Mo_factor_92 (fun H locs hP hD hS => ?_)
                refine lv_aload_n hx hb d_Mo_factor_95 rfl (lv_at hl 1 rfl) ?_
                refine lv_bipush (v := 41) hx hb d_Mo_factor_96 (by decide) ?_
                obtain ⟨v_38, e_39, hd⟩ := bind_s hd
                refine callVV (ws' := ws_Mo g a v_38) (rest := []) (As := [.int 41]) hx hb hml hown hg hK hP hD hS hA hCs hl.1 (c_Mo_must l D g a 41 v_36 _ e_39) o_Mo_must g_1095 (ci := 1) (q0 := 0) rfl rfl (List.range' 0 12) (segC1 rfl rfl) (by decide) rfl (segP1 rfl rfl) rfl rfl (Nat.le_of_ble_eq_true rfl) ⟨rfl, rfl, by show _ ≤ _; (try dsimp only); omega, by show _ ≤ _; (try dsimp only); omega⟩ d_Mo_factor_98 (fun H locs hP hD hS => ?_)
                refine lv_aload_n hx hb d_Mo_factor_101 rfl (lv_at hl 1 rfl) ?_
                refine lv_dup hx hb d_Mo_factor_102 rfl ?_
                refine va_get (D := D) (ci := 1) (v := .int (q_Mo_open v_38)) (C := R_Mo) (T := F_Mo) (N := 26) hx hb hg i_Mo hown hK hP 0 rfl rfl 9 (by decide) (hg _ g_1001) (fun _ h9 => h9) rfl d_Mo_factor_103 ?_
                refine lv_iconst (v := 1) hx hb d_Mo_factor_106 (by decide) ?_
                refine lv_isub hx hb d_Mo_factor_107 ?_
                refine va_put (D := D) (ci := 1) (v := .int ((q_Mo_open v_38) - 1)) (ty := .int) (C := R_Mo) (T := F_Mo) (N := 26) hx hb hg i_Mo t_Mo t_Mo_ok n_Mo hown hK hP hD hS 0 rfl rfl 9 (by decide) (hg _ g_1001) (fun _ h9 => h9) rfl (by decide +kernel) rfl rfl (Nat.le_of_ble_eq_true rfl) d_Mo_factor_108 (fun H locs hP hD hS => ?_)
                have hP : va_P D classes (ws_Mo g a (u_Mo_open v_38 ((q_Mo_open v_38) - 1))) H := hP
                have hD : va_D A (ws_Mo g a (u_Mo_open v_38 ((q_Mo_open v_38) - 1))) := hD
                obtain rfl := Option.some.inj hd
                exact retV hx hb hr hlk hK hP hD hS d_Mo_factor_111
              · have hd := ite_t hd h_35
                refine lv_aload_n hx hb d_Mo_factor_79 rfl (lv_at hl 1 rfl) ?_
                obtain ⟨v_40, e_41, hd⟩ := bind_s hd
                refine callVV (ws' := ws_Mo g a v_40) (rest := []) (As := []) hx hb hml hown hg hK hP hD hS hA hCs hl.1 (ih.2.1 l D g a (u_Mo_spot (u_Mo_open (u_Mo_isWrong z 1) ((q_Mo_open (u_Mo_isWrong z 1)) + 1)) ((q_Mo_spot (u_Mo_open (u_Mo_isWrong z 1) ((q_Mo_open (u_Mo_isWrong z 1)) + 1))) + 0)) _ e_41) o_Mo_factor g_1122 (ci := 1) (q0 := 0) rfl rfl (List.range' 0 12) (segC1 rfl rfl) (by decide) rfl (segP1 rfl rfl) rfl rfl (Nat.le_of_ble_eq_true rfl) ⟨rfl, rfl, by show _ ≤ _; (try dsimp only); omega, by show _ ≤ _; (try dsimp only); omega⟩ d_Mo_factor_80 (fun H locs hP hD hS => ?_)
                refine lv_aload_n hx hb d_Mo_factor_83 rfl (lv_at hl 1 rfl) ?_
                refine lv_iconst (v := (-1)) hx hb d_Mo_factor_84 (by decide) ?_
                obtain ⟨v_42, e_43, hd⟩ := bind_s hd
                refine callVV (ws' := ws_Mo g a v_42) (rest := []) (As := [.int (-1)]) hx hb hml hown hg hK hP hD hS hA hCs hl.1 (c_Mo_emits l D g a (-1) v_40 _ e_43) o_Mo_emits g_1126 (ci := 1) (q0 := 0) rfl rfl (List.range' 0 12) (segC1 rfl rfl) (by decide) rfl (segP1 rfl rfl) rfl rfl (Nat.le_of_ble_eq_true rfl) ⟨rfl, rfl, by show _ ≤ _; (try dsimp only); omega, by show _ ≤ _; (try dsimp only); omega⟩ d_Mo_factor_85 (fun H locs hP hD hS => ?_)
                refine lv_goto (tgt := 101) hx hb d_Mo_factor_88 (by decide) ?_
                refine lv_aload_n hx hb d_Mo_factor_101 rfl (lv_at hl 1 rfl) ?_
                refine lv_dup hx hb d_Mo_factor_102 rfl ?_
                refine va_get (D := D) (ci := 1) (v := .int (q_Mo_open v_42)) (C := R_Mo) (T := F_Mo) (N := 26) hx hb hg i_Mo hown hK hP 0 rfl rfl 9 (by decide) (hg _ g_1001) (fun _ h9 => h9) rfl d_Mo_factor_103 ?_
                refine lv_iconst (v := 1) hx hb d_Mo_factor_106 (by decide) ?_
                refine lv_isub hx hb d_Mo_factor_107 ?_
                refine va_put (D := D) (ci := 1) (v := .int ((q_Mo_open v_42) - 1)) (ty := .int) (C := R_Mo) (T := F_Mo) (N := 26) hx hb hg i_Mo t_Mo t_Mo_ok n_Mo hown hK hP hD hS 0 rfl rfl 9 (by decide) (hg _ g_1001) (fun _ h9 => h9) rfl (by decide +kernel) rfl rfl (Nat.le_of_ble_eq_true rfl) d_Mo_factor_108 (fun H locs hP hD hS => ?_)
                have hP : va_P D classes (ws_Mo g a (u_Mo_open v_42 ((q_Mo_open v_42) - 1))) H := hP
                have hD : va_D A (ws_Mo g a (u_Mo_open v_42 ((q_Mo_open v_42) - 1))) := hD
                obtain rfl := Option.some.inj hd
                exact retV hx hb hr hlk hK hP hD hS d_Mo_factor_111
        · have hd := ite_f hd h_4
          refine lv_iload_n hx hb d_Mo_factor_19 rfl (lv_at hl 0 rfl) ?_
          refine lv_bipush (v := 40) hx hb d_Mo_factor_20 (by decide) ?_
          refine lv_icmp_ne (tgt := 112) hx hb d_Mo_factor_22 (by decide) (fun h_44 => ?_) (fun h_44 => ?_)
          · have hd := ite_f hd h_44
            refine lv_aload_n hx hb d_Mo_factor_112 rfl (lv_at hl 1 rfl) ?_
            refine va_ldcS (tx := "pkatwy") (q := g (10 + 4)) hx hb hown (hCs.2.2.2.2 ("OwnsLiftModel", 96, "pkatwy", 4) (by decide)) d_Mo_factor_113 ?_
            obtain ⟨v_45, e_46, hd⟩ := bind_s hd
            refine callVI (ws' := ws_Mo g a v_45.2) (rest := []) (As := [.ref (g (10 + 4))]) hx hb hml hown hg hK hP hD hS hA hCs hl.1 (c_Mo_among l D g a 4 z _ e_46) o_Mo_among g_1131 (ci := 1) (q0 := 0) rfl rfl (List.range' 0 12) (segC1 rfl rfl) (by decide) rfl (segP1 rfl rfl) rfl rfl (Nat.le_of_ble_eq_true rfl) ⟨rfl, rfl, by show _ ≤ _; (try dsimp only); omega, by show _ ≤ _; (try dsimp only); omega⟩ d_Mo_factor_115 (fun H locs hP hD hS => ?_)
            refine lv_istore_n (lv' := [(2, .int v_45.1), (1, .int v_2), (0, .ref (a 0))]) hx hb d_Mo_factor_118 rfl hl (by decide) rfl (fun ls hl => ?_)
            refine lv_aload_n hx hb d_Mo_factor_119 rfl (lv_at hl 2 rfl) ?_
            refine lv_iload_n hx hb d_Mo_factor_120 rfl (lv_at hl 0 rfl) ?_
            refine lv_iconst (v := (-1)) hx hb d_Mo_factor_121 (by decide) ?_
            refine lv_icmp_ne (tgt := 129) hx hb d_Mo_factor_122 (by decide) (fun h_47 => ?_) (fun h_47 => ?_)
            · have hd := ite_f hd h_47
              refine lv_iconst (v := 0) hx hb d_Mo_factor_129 (by decide) ?_
              refine va_put (D := D) (ci := 1) (v := .int 0) (ty := .boolean) (C := R_Mo) (T := F_Mo) (N := 26) hx hb hg i_Mo t_Mo t_Mo_ok n_Mo hown hK hP hD hS 0 rfl rfl 8 (by decide) (hg _ g_1000) (fun _ h9 => h9) rfl (by decide +kernel) (by decide +kernel) rfl (Nat.le_of_ble_eq_true rfl) d_Mo_factor_130 (fun H locs hP hD hS => ?_)
              have hP : va_P D classes (ws_Mo g a (u_Mo_isWrong v_45.2 0)) H := hP
              have hD : va_D A (ws_Mo g a (u_Mo_isWrong v_45.2 0)) := hD
              refine lv_aload_n hx hb d_Mo_factor_133 rfl (lv_at hl 2 rfl) ?_
              refine va_get (D := D) (ci := 1) (v := .int (q_Mo_isWrong (u_Mo_isWrong v_45.2 0))) (C := R_Mo) (T := F_Mo) (N := 26) hx hb hg i_Mo hown hK hP 0 rfl rfl 8 (by decide) (hg _ g_1000) (fun _ h9 => h9) rfl d_Mo_factor_134 ?_
              refine lv_if_eq (tgt := 144) hx hb d_Mo_factor_137 (by decide) (fun h_48 => ?_) (fun h_48 => ?_)
              · have hd := ite_t hd h_48
                refine lv_aload_n hx hb d_Mo_factor_144 rfl (lv_at hl 2 rfl) ?_
                refine va_ldcS (tx := "<=>") (q := g (10 + 5)) hx hb hown (hCs.2.2.2.2 ("OwnsLiftModel", 102, "<=>", 5) (by decide)) d_Mo_factor_145 ?_
                obtain ⟨v_49, e_50, hd⟩ := bind_s hd
                refine callVI (ws' := ws_Mo g a v_49.2) (rest := []) (As := [.ref (g (10 + 5))]) hx hb hml hown hg hK hP hD hS hA hCs hl.1 (c_Mo_among l D g a 5 (u_Mo_isWrong v_45.2 0) _ e_50) o_Mo_among g_1131 (ci := 1) (q0 := 0) rfl rfl (List.range' 0 12) (segC1 rfl rfl) (by decide) rfl (segP1 rfl rfl) rfl rfl (Nat.le_of_ble_eq_true rfl) ⟨rfl, rfl, by show _ ≤ _; (try dsimp only); omega, by show _ ≤ _; (try dsimp only); omega⟩ d_Mo_factor_147 (fun H locs hP hD hS => ?_)
                refine lv_istore_n (lv' := [(3, .int v_49.1), (2, .int v_45.1), (1, .int v_2), (0, .ref (a 0))]) hx hb d_Mo_factor_150 rfl hl (by decide) rfl (fun ls hl => ?_)
                refine lv_aload_n hx hb d_Mo_factor_151 rfl (lv_at hl 3 rfl) ?_
                refine lv_aload_n hx hb d_Mo_factor_152 rfl (lv_at hl 3 rfl) ?_
                refine va_get (D := D) (ci := 1) (v := .int (q_Mo_isWrong v_49.2)) (C := R_Mo) (T := F_Mo) (N := 26) hx hb hg i_Mo hown hK hP 0 rfl rfl 8 (by decide) (hg _ g_1000) (fun _ h9 => h9) rfl d_Mo_factor_153 ?_
                refine lv_if_ne (tgt := 164) hx hb d_Mo_factor_156 (by decide) (fun h_51 => ?_) (fun h_51 => ?_)
                · have hd := ite_f hd h_51
                  refine lv_iconst (v := 1) hx hb d_Mo_factor_164 (by decide) ?_
                  refine lv_goto (tgt := 169) hx hb d_Mo_factor_165 (by decide) ?_
                  refine va_put (D := D) (ci := 1) (v := .int 1) (ty := .boolean) (C := R_Mo) (T := F_Mo) (N := 26) hx hb hg i_Mo t_Mo t_Mo_ok n_Mo hown hK hP hD hS 0 rfl rfl 8 (by decide) (hg _ g_1000) (fun _ h9 => h9) rfl (by decide +kernel) (by decide +kernel) rfl (Nat.le_of_ble_eq_true rfl) d_Mo_factor_169 (fun H locs hP hD hS => ?_)
                  have hP : va_P D classes (ws_Mo g a (u_Mo_isWrong v_49.2 1)) H := hP
                  have hD : va_D A (ws_Mo g a (u_Mo_isWrong v_49.2 1)) := hD
                  refine lv_aload_n hx hb d_Mo_factor_172 rfl (lv_at hl 3 rfl) ?_
                  obtain ⟨v_52, e_53, hd⟩ := bind_s hd
                  refine callVI (ws' := ws_Mo g a v_52.2) (rest := []) (As := []) hx hb hml hown hg hK hP hD hS hA hCs hl.1 (c_Mo_figures l D g a (u_Mo_isWrong v_49.2 1) _ e_53) o_Mo_figures g_1110 (ci := 1) (q0 := 0) rfl rfl (List.range' 0 12) (segC1 rfl rfl) (by decide) rfl (segP1 rfl rfl) rfl rfl (Nat.le_of_ble_eq_true rfl) ⟨rfl, rfl, by show _ ≤ _; (try dsimp only); omega, by show _ ≤ _; (try dsimp only); omega⟩ d_Mo_factor_173 (fun H locs hP hD hS => ?_)
                  refine lv_istore (lv' := [(4, .int v_52.1), (3, .int v_49.1), (2, .int v_45.1), (1, .int v_2), (0, .ref (a 0))]) hx hb d_Mo_factor_176 hl (by decide) rfl (fun ls hl => ?_)
                  refine lv_aload_n hx hb d_Mo_factor_178 rfl (lv_at hl 4 rfl) ?_
                  refine lv_iload_n hx hb d_Mo_factor_179 rfl (lv_at hl 2 rfl) ?_
                  refine lv_bipush (v := 8) hx hb d_Mo_factor_180 (by decide) ?_
                  refine lv_iload_n hx hb d_Mo_factor_182 rfl (lv_at hl 1 rfl) ?_
                  refine lv_imul hx hb d_Mo_factor_183 ?_
                  refine lv_iadd hx hb d_Mo_factor_184 ?_
                  refine lv_bipush (v := 32) hx hb d_Mo_factor_185 (by decide) ?_
                  refine lv_iload hx hb d_Mo_factor_187 (lv_at hl 0 rfl) ?_
                  refine lv_imul hx hb d_Mo_factor_189 ?_
                  refine lv_iadd hx hb d_Mo_factor_190 ?_
                  obtain ⟨v_54, e_55, hd⟩ := bind_s hd
                  refine callVV (ws' := ws_Mo g a v_54) (rest := []) (As := [.int ((v_45.1 + (8 * v_49.1)) + (32 * v_52.1))]) hx hb hml hown hg hK hP hD hS hA hCs hl.1 (c_Mo_emits l D g a ((v_45.1 + (8 * v_49.1)) + (32 * v_52.1)) v_52.2 _ e_55) o_Mo_emits g_1126 (ci := 1) (q0 := 0) rfl rfl (List.range' 0 12) (segC1 rfl rfl) (by decide) rfl (segP1 rfl rfl) rfl rfl (Nat.le_of_ble_eq_true rfl) ⟨rfl, rfl, by show _ ≤ _; (try dsimp only); omega, by show _ ≤ _; (try dsimp only); omega⟩ d_Mo_factor_191 (fun H locs hP hD hS => ?_)
                  obtain rfl := Option.some.inj hd
                  exact retV hx hb hr hlk hK hP hD hS d_Mo_factor_194
                · have hd := ite_t hd h_51
                  refine lv_iload_n hx hb d_Mo_factor_159 rfl (lv_at hl 0 rfl) ?_
                  refine lv_iconst (v := (-1)) hx hb d_Mo_factor_160 (by decide) ?_
                  refine lv_icmp_ne (tgt := 168) hx hb d_Mo_factor_161 (by decide) (fun h_56 => ?_) (fun h_56 => ?_)
                  · have hd := ite_f hd h_56
                    refine lv_iconst (v := 0) hx hb d_Mo_factor_168 (by decide) ?_
                    refine va_put (D := D) (ci := 1) (v := .int 0) (ty := .boolean) (C := R_Mo) (T := F_Mo) (N := 26) hx hb hg i_Mo t_Mo t_Mo_ok n_Mo hown hK hP hD hS 0 rfl rfl 8 (by decide) (hg _ g_1000) (fun _ h9 => h9) rfl (by decide +kernel) (by decide +kernel) rfl (Nat.le_of_ble_eq_true rfl) d_Mo_factor_169 (fun H locs hP hD hS => ?_)
                    have hP : va_P D classes (ws_Mo g a (u_Mo_isWrong v_49.2 0)) H := hP
                    have hD : va_D A (ws_Mo g a (u_Mo_isWrong v_49.2 0)) := hD
                    refine lv_aload_n hx hb d_Mo_factor_172 rfl (lv_at hl 3 rfl) ?_
                    obtain ⟨v_57, e_58, hd⟩ := bind_s hd
                    refine callVI (ws' := ws_Mo g a v_57.2) (rest := []) (As := []) hx hb hml hown hg hK hP hD hS hA hCs hl.1 (c_Mo_figures l D g a (u_Mo_isWrong v_49.2 0) _ e_58) o_Mo_figures g_1110 (ci := 1) (q0 := 0) rfl rfl (List.range' 0 12) (segC1 rfl rfl) (by decide) rfl (segP1 rfl rfl) rfl rfl (Nat.le_of_ble_eq_true rfl) ⟨rfl, rfl, by show _ ≤ _; (try dsimp only); omega, by show _ ≤ _; (try dsimp only); omega⟩ d_Mo_factor_173 (fun H locs hP hD hS => ?_)
                    refine lv_istore (lv' := [(4, .int v_57.1), (3, .int v_49.1), (2, .int v_45.1), (1, .int v_2), (0, .ref (a 0))]) hx hb d_Mo_factor_176 hl (by decide) rfl (fun ls hl => ?_)
                    refine lv_aload_n hx hb d_Mo_factor_178 rfl (lv_at hl 4 rfl) ?_
                    refine lv_iload_n hx hb d_Mo_factor_179 rfl (lv_at hl 2 rfl) ?_
                    refine lv_bipush (v := 8) hx hb d_Mo_factor_180 (by decide) ?_
                    refine lv_iload_n hx hb d_Mo_factor_182 rfl (lv_at hl 1 rfl) ?_
                    refine lv_imul hx hb d_Mo_factor_183 ?_
                    refine lv_iadd hx hb d_Mo_factor_184 ?_
                    refine lv_bipush (v := 32) hx hb d_Mo_factor_185 (by decide) ?_
                    refine lv_iload hx hb d_Mo_factor_187 (lv_at hl 0 rfl) ?_
                    refine lv_imul hx hb d_Mo_factor_189 ?_
                    refine lv_iadd hx hb d_Mo_factor_190 ?_
                    obtain ⟨v_59, e_60, hd⟩ := bind_s hd
                    refine callVV (ws' := ws_Mo g a v_59) (rest := []) (As := [.int ((v_45.1 + (8 * v_49.1)) + (32 * v_57.1))]) hx hb hml hown hg hK hP hD hS hA hCs hl.1 (c_Mo_emits l D g a ((v_45.1 + (8 * v_49.1)) + (32 * v_57.1)) v_57.2 _ e_60) o_Mo_emits g_1126 (ci := 1) (q0 := 0) rfl rfl (List.range' 0 12) (segC1 rfl rfl) (by decide) rfl (segP1 rfl rfl) rfl rfl (Nat.le_of_ble_eq_true rfl) ⟨rfl, rfl, by show _ ≤ _; (try dsimp only); omega, by show _ ≤ _; (try dsimp only); omega⟩ d_Mo_factor_191 (fun H locs hP hD hS => ?_)
                    obtain rfl := Option.some.inj hd
                    exact retV hx hb hr hlk hK hP hD hS d_Mo_factor_194
                  · have hd := ite_t hd h_56
                    refine lv_iconst (v := 1) hx hb d_Mo_factor_164 (by decide) ?_
                    refine lv_goto (tgt := 169) hx hb d_Mo_factor_165 (by decide) ?_
                    refine va_put (D := D) (ci := 1) (v := .int 1) (ty := .boolean) (C := R_Mo) (T := F_Mo) (N := 26) hx hb hg i_Mo t_Mo t_Mo_ok n_Mo hown hK hP hD hS 0 rfl rfl 8 (by decide) (hg _ g_1000) (fun _ h9 => h9) rfl (by decide +kernel) (by decide +kernel) rfl (Nat.le_of_ble_eq_true rfl) d_Mo_factor_169 (fun H locs hP hD hS => ?_)
                    have hP : va_P D classes (ws_Mo g a (u_Mo_isWrong v_49.2 1)) H := hP
                    have hD : va_D A (ws_Mo g a (u_Mo_isWrong v_49.2 1)) := hD
                    refine lv_aload_n hx hb d_Mo_factor_172 rfl (lv_at hl 3 rfl) ?_
                    obtain ⟨v_61, e_62, hd⟩ := bind_s hd
                    refine callVI (ws' := ws_Mo g a v_61.2) (rest := []) (As := []) hx hb hml hown hg hK hP hD hS hA hCs hl.1 (c_Mo_figures l D g a (u_Mo_isWrong v_49.2 1) _ e_62) o_Mo_figures g_1110 (ci := 1) (q0 := 0) rfl rfl (List.range' 0 12) (segC1 rfl rfl) (by decide) rfl (segP1 rfl rfl) rfl rfl (Nat.le_of_ble_eq_true rfl) ⟨rfl, rfl, by show _ ≤ _; (try dsimp only); omega, by show _ ≤ _; (try dsimp only); omega⟩ d_Mo_factor_173 (fun H locs hP hD hS => ?_)
                    refine lv_istore (lv' := [(4, .int v_61.1), (3, .int v_49.1), (2, .int v_45.1), (1, .int v_2), (0, .ref (a 0))]) hx hb d_Mo_factor_176 hl (by decide) rfl (fun ls hl => ?_)
                    refine lv_aload_n hx hb d_Mo_factor_178 rfl (lv_at hl 4 rfl) ?_
                    refine lv_iload_n hx hb d_Mo_factor_179 rfl (lv_at hl 2 rfl) ?_
                    refine lv_bipush (v := 8) hx hb d_Mo_factor_180 (by decide) ?_
                    refine lv_iload_n hx hb d_Mo_factor_182 rfl (lv_at hl 1 rfl) ?_
                    refine lv_imul hx hb d_Mo_factor_183 ?_
                    refine lv_iadd hx hb d_Mo_factor_184 ?_
                    refine lv_bipush (v := 32) hx hb d_Mo_factor_185 (by decide) ?_
                    refine lv_iload hx hb d_Mo_factor_187 (lv_at hl 0 rfl) ?_
                    refine lv_imul hx hb d_Mo_factor_189 ?_
                    refine lv_iadd hx hb d_Mo_factor_190 ?_
                    obtain ⟨v_63, e_64, hd⟩ := bind_s hd
                    refine callVV (ws' := ws_Mo g a v_63) (rest := []) (As := [.int ((v_45.1 + (8 * v_49.1)) + (32 * v_61.1))]) hx hb hml hown hg hK hP hD hS hA hCs hl.1 (c_Mo_emits l D g a ((v_45.1 + (8 * v_49.1)) + (32 * v_61.1)) v_61.2 _ e_64) o_Mo_emits g_1126 (ci := 1) (q0 := 0) rfl rfl (List.range' 0 12) (segC1 rfl rfl) (by decide) rfl (segP1 rfl rfl) rfl rfl (Nat.le_of_ble_eq_true rfl) ⟨rfl, rfl, by show _ ≤ _; (try dsimp only); omega, by show _ ≤ _; (try dsimp only); omega⟩ d_Mo_factor_191 (fun H locs hP hD hS => ?_)
                    obtain rfl := Option.some.inj hd
                    exact retV hx hb hr hlk hK hP hD hS d_Mo_factor_194
              · have hd := ite_f hd h_48
                refine lv_iconst (v := 0) hx hb d_Mo_factor_140 (by decide) ?_
                refine lv_goto (tgt := 150) hx hb d_Mo_factor_141 (by decide) ?_
                refine lv_istore_n (lv' := [(3, .int 0), (2, .int v_45.1), (1, .int v_2), (0, .ref (a 0))]) hx hb d_Mo_factor_150 rfl hl (by decide) rfl (fun ls hl => ?_)
                refine lv_aload_n hx hb d_Mo_factor_151 rfl (lv_at hl 3 rfl) ?_
                refine lv_aload_n hx hb d_Mo_factor_152 rfl (lv_at hl 3 rfl) ?_
                refine va_get (D := D) (ci := 1) (v := .int (q_Mo_isWrong (u_Mo_isWrong v_45.2 0))) (C := R_Mo) (T := F_Mo) (N := 26) hx hb hg i_Mo hown hK hP 0 rfl rfl 8 (by decide) (hg _ g_1000) (fun _ h9 => h9) rfl d_Mo_factor_153 ?_
                refine lv_if_ne (tgt := 164) hx hb d_Mo_factor_156 (by decide) (fun h_65 => ?_) (fun h_65 => ?_)
                · have hd := ite_f hd h_65
                  refine lv_iconst (v := 1) hx hb d_Mo_factor_164 (by decide) ?_
                  refine lv_goto (tgt := 169) hx hb d_Mo_factor_165 (by decide) ?_
                  refine va_put (D := D) (ci := 1) (v := .int 1) (ty := .boolean) (C := R_Mo) (T := F_Mo) (N := 26) hx hb hg i_Mo t_Mo t_Mo_ok n_Mo hown hK hP hD hS 0 rfl rfl 8 (by decide) (hg _ g_1000) (fun _ h9 => h9) rfl (by decide +kernel) (by decide +kernel) rfl (Nat.le_of_ble_eq_true rfl) d_Mo_factor_169 (fun H locs hP hD hS => ?_)
                  have hP : va_P D classes (ws_Mo g a (u_Mo_isWrong (u_Mo_isWrong v_45.2 0) 1)) H := hP
                  have hD : va_D A (ws_Mo g a (u_Mo_isWrong (u_Mo_isWrong v_45.2 0) 1)) := hD
                  refine lv_aload_n hx hb d_Mo_factor_172 rfl (lv_at hl 3 rfl) ?_
                  obtain ⟨v_66, e_67, hd⟩ := bind_s hd
                  refine callVI (ws' := ws_Mo g a v_66.2) (rest := []) (As := []) hx hb hml hown hg hK hP hD hS hA hCs hl.1 (c_Mo_figures l D g a (u_Mo_isWrong (u_Mo_isWrong v_45.2 0) 1) _ e_67) o_Mo_figures g_1110 (ci := 1) (q0 := 0) rfl rfl (List.range' 0 12) (segC1 rfl rfl) (by decide) rfl (segP1 rfl rfl) rfl rfl (Nat.le_of_ble_eq_true rfl) ⟨rfl, rfl, by show _ ≤ _; (try dsimp only); omega, by show _ ≤ _; (try dsimp only); omega⟩ d_Mo_factor_173 (fun H locs hP hD hS => ?_)
                  refine lv_istore (lv' := [(4, .int v_66.1), (3, .int 0), (2, .int v_45.1), (1, .int v_2), (0, .ref (a 0))]) hx hb d_Mo_factor_176 hl (by decide) rfl (fun ls hl => ?_)
                  refine lv_aload_n hx hb d_Mo_factor_178 rfl (lv_at hl 4 rfl) ?_
                  refine lv_iload_n hx hb d_Mo_factor_179 rfl (lv_at hl 2 rfl) ?_
                  refine lv_bipush (v := 8) hx hb d_Mo_factor_180 (by decide) ?_
                  refine lv_iload_n hx hb d_Mo_factor_182 rfl (lv_at hl 1 rfl) ?_
                  refine lv_imul hx hb d_Mo_factor_183 ?_
                  refine lv_iadd hx hb d_Mo_factor_184 ?_
                  refine lv_bipush (v := 32) hx hb d_Mo_factor_185 (by decide) ?_
                  refine lv_iload hx hb d_Mo_factor_187 (lv_at hl 0 rfl) ?_
                  refine lv_imul hx hb d_Mo_factor_189 ?_
                  refine lv_iadd hx hb d_Mo_factor_190 ?_
                  obtain ⟨v_68, e_69, hd⟩ := bind_s hd
                  refine callVV (ws' := ws_Mo g a v_68) (rest := []) (As := [.int ((v_45.1 + (8 * 0)) + (32 * v_66.1))]) hx hb hml hown hg hK hP hD hS hA hCs hl.1 (c_Mo_emits l D g a ((v_45.1 + (8 * 0)) + (32 * v_66.1)) v_66.2 _ e_69) o_Mo_emits g_1126 (ci := 1) (q0 := 0) rfl rfl (List.range' 0 12) (segC1 rfl rfl) (by decide) rfl (segP1 rfl rfl) rfl rfl (Nat.le_of_ble_eq_true rfl) ⟨rfl, rfl, by show _ ≤ _; (try dsimp only); omega, by show _ ≤ _; (try dsimp only); omega⟩ d_Mo_factor_191 (fun H locs hP hD hS => ?_)
                  obtain rfl := Option.some.inj hd
                  exact retV hx hb hr hlk hK hP hD hS d_Mo_factor_194
                · have hd := ite_t hd h_65
                  refine lv_iload_n hx hb d_Mo_factor_159 rfl (lv_at hl 0 rfl) ?_
                  refine lv_iconst (v := (-1)) hx hb d_Mo_factor_160 (by decide) ?_
                  refine lv_icmp_ne (tgt := 168) hx hb d_Mo_factor_161 (by decide) (fun _ => ?_) (fun h9 => absurd h9 (by decide))
                  refine lv_iconst (v := 0) hx hb d_Mo_factor_168 (by decide) ?_
                  refine va_put (D := D) (ci := 1) (v := .int 0) (ty := .boolean) (C := R_Mo) (T := F_Mo) (N := 26) hx hb hg i_Mo t_Mo t_Mo_ok n_Mo hown hK hP hD hS 0 rfl rfl 8 (by decide) (hg _ g_1000) (fun _ h9 => h9) rfl (by decide +kernel) (by decide +kernel) rfl (Nat.le_of_ble_eq_true rfl) d_Mo_factor_169 (fun H locs hP hD hS => ?_)
                  have hP : va_P D classes (ws_Mo g a (u_Mo_isWrong (u_Mo_isWrong v_45.2 0) 0)) H := hP
                  have hD : va_D A (ws_Mo g a (u_Mo_isWrong (u_Mo_isWrong v_45.2 0) 0)) := hD
                  refine lv_aload_n hx hb d_Mo_factor_172 rfl (lv_at hl 3 rfl) ?_
                  obtain ⟨v_70, e_71, hd⟩ := bind_s hd
                  refine callVI (ws' := ws_Mo g a v_70.2) (rest := []) (As := []) hx hb hml hown hg hK hP hD hS hA hCs hl.1 (c_Mo_figures l D g a (u_Mo_isWrong (u_Mo_isWrong v_45.2 0) 0) _ e_71) o_Mo_figures g_1110 (ci := 1) (q0 := 0) rfl rfl (List.range' 0 12) (segC1 rfl rfl) (by decide) rfl (segP1 rfl rfl) rfl rfl (Nat.le_of_ble_eq_true rfl) ⟨rfl, rfl, by show _ ≤ _; (try dsimp only); omega, by show _ ≤ _; (try dsimp only); omega⟩ d_Mo_factor_173 (fun H locs hP hD hS => ?_)
                  refine lv_istore (lv' := [(4, .int v_70.1), (3, .int 0), (2, .int v_45.1), (1, .int v_2), (0, .ref (a 0))]) hx hb d_Mo_factor_176 hl (by decide) rfl (fun ls hl => ?_)
                  refine lv_aload_n hx hb d_Mo_factor_178 rfl (lv_at hl 4 rfl) ?_
                  refine lv_iload_n hx hb d_Mo_factor_179 rfl (lv_at hl 2 rfl) ?_
                  refine lv_bipush (v := 8) hx hb d_Mo_factor_180 (by decide) ?_
                  refine lv_iload_n hx hb d_Mo_factor_182 rfl (lv_at hl 1 rfl) ?_
                  refine lv_imul hx hb d_Mo_factor_183 ?_
                  refine lv_iadd hx hb d_Mo_factor_184 ?_
                  refine lv_bipush (v := 32) hx hb d_Mo_factor_185 (by decide) ?_
                  refine lv_iload hx hb d_Mo_factor_187 (lv_at hl 0 rfl) ?_
                  refine lv_imul hx hb d_Mo_factor_189 ?_
                  refine lv_iadd hx hb d_Mo_factor_190 ?_
                  obtain ⟨v_72, e_73, hd⟩ := bind_s hd
                  refine callVV (ws' := ws_Mo g a v_72) (rest := []) (As := [.int ((v_45.1 + (8 * 0)) + (32 * v_70.1))]) hx hb hml hown hg hK hP hD hS hA hCs hl.1 (c_Mo_emits l D g a ((v_45.1 + (8 * 0)) + (32 * v_70.1)) v_70.2 _ e_73) o_Mo_emits g_1126 (ci := 1) (q0 := 0) rfl rfl (List.range' 0 12) (segC1 rfl rfl) (by decide) rfl (segP1 rfl rfl) rfl rfl (Nat.le_of_ble_eq_true rfl) ⟨rfl, rfl, by show _ ≤ _; (try dsimp only); omega, by show _ ≤ _; (try dsimp only); omega⟩ d_Mo_factor_191 (fun H locs hP hD hS => ?_)
                  obtain rfl := Option.some.inj hd
                  exact retV hx hb hr hlk hK hP hD hS d_Mo_factor_194
            · have hd := ite_t hd h_47
              refine lv_iconst (v := 1) hx hb d_Mo_factor_125 (by decide) ?_
              refine lv_goto (tgt := 130) hx hb d_Mo_factor_126 (by decide) ?_
              refine va_put (D := D) (ci := 1) (v := .int 1) (ty := .boolean) (C := R_Mo) (T := F_Mo) (N := 26) hx hb hg i_Mo t_Mo t_Mo_ok n_Mo hown hK hP hD hS 0 rfl rfl 8 (by decide) (hg _ g_1000) (fun _ h9 => h9) rfl (by decide +kernel) (by decide +kernel) rfl (Nat.le_of_ble_eq_true rfl) d_Mo_factor_130 (fun H locs hP hD hS => ?_)
              have hP : va_P D classes (ws_Mo g a (u_Mo_isWrong v_45.2 1)) H := hP
              have hD : va_D A (ws_Mo g a (u_Mo_isWrong v_45.2 1)) := hD
              refine lv_aload_n hx hb d_Mo_factor_133 rfl (lv_at hl 2 rfl) ?_
              refine va_get (D := D) (ci := 1) (v := .int (q_Mo_isWrong (u_Mo_isWrong v_45.2 1))) (C := R_Mo) (T := F_Mo) (N := 26) hx hb hg i_Mo hown hK hP 0 rfl rfl 8 (by decide) (hg _ g_1000) (fun _ h9 => h9) rfl d_Mo_factor_134 ?_
              refine lv_if_eq (tgt := 144) hx hb d_Mo_factor_137 (by decide) (fun h_74 => ?_) (fun h_74 => ?_)
              · have hd := ite_t hd h_74
                refine lv_aload_n hx hb d_Mo_factor_144 rfl (lv_at hl 2 rfl) ?_
                refine va_ldcS (tx := "<=>") (q := g (10 + 5)) hx hb hown (hCs.2.2.2.2 ("OwnsLiftModel", 102, "<=>", 5) (by decide)) d_Mo_factor_145 ?_
                obtain ⟨v_75, e_76, hd⟩ := bind_s hd
                refine callVI (ws' := ws_Mo g a v_75.2) (rest := []) (As := [.ref (g (10 + 5))]) hx hb hml hown hg hK hP hD hS hA hCs hl.1 (c_Mo_among l D g a 5 (u_Mo_isWrong v_45.2 1) _ e_76) o_Mo_among g_1131 (ci := 1) (q0 := 0) rfl rfl (List.range' 0 12) (segC1 rfl rfl) (by decide) rfl (segP1 rfl rfl) rfl rfl (Nat.le_of_ble_eq_true rfl) ⟨rfl, rfl, by show _ ≤ _; (try dsimp only); omega, by show _ ≤ _; (try dsimp only); omega⟩ d_Mo_factor_147 (fun H locs hP hD hS => ?_)
                refine lv_istore_n (lv' := [(3, .int v_75.1), (2, .int v_45.1), (1, .int v_2), (0, .ref (a 0))]) hx hb d_Mo_factor_150 rfl hl (by decide) rfl (fun ls hl => ?_)
                refine lv_aload_n hx hb d_Mo_factor_151 rfl (lv_at hl 3 rfl) ?_
                refine lv_aload_n hx hb d_Mo_factor_152 rfl (lv_at hl 3 rfl) ?_
                refine va_get (D := D) (ci := 1) (v := .int (q_Mo_isWrong v_75.2)) (C := R_Mo) (T := F_Mo) (N := 26) hx hb hg i_Mo hown hK hP 0 rfl rfl 8 (by decide) (hg _ g_1000) (fun _ h9 => h9) rfl d_Mo_factor_153 ?_
                refine lv_if_ne (tgt := 164) hx hb d_Mo_factor_156 (by decide) (fun h_77 => ?_) (fun h_77 => ?_)
                · have hd := ite_f hd h_77
                  refine lv_iconst (v := 1) hx hb d_Mo_factor_164 (by decide) ?_
                  refine lv_goto (tgt := 169) hx hb d_Mo_factor_165 (by decide) ?_
                  refine va_put (D := D) (ci := 1) (v := .int 1) (ty := .boolean) (C := R_Mo) (T := F_Mo) (N := 26) hx hb hg i_Mo t_Mo t_Mo_ok n_Mo hown hK hP hD hS 0 rfl rfl 8 (by decide) (hg _ g_1000) (fun _ h9 => h9) rfl (by decide +kernel) (by decide +kernel) rfl (Nat.le_of_ble_eq_true rfl) d_Mo_factor_169 (fun H locs hP hD hS => ?_)
                  have hP : va_P D classes (ws_Mo g a (u_Mo_isWrong v_75.2 1)) H := hP
                  have hD : va_D A (ws_Mo g a (u_Mo_isWrong v_75.2 1)) := hD
                  refine lv_aload_n hx hb d_Mo_factor_172 rfl (lv_at hl 3 rfl) ?_
                  obtain ⟨v_78, e_79, hd⟩ := bind_s hd
                  refine callVI (ws' := ws_Mo g a v_78.2) (rest := []) (As := []) hx hb hml hown hg hK hP hD hS hA hCs hl.1 (c_Mo_figures l D g a (u_Mo_isWrong v_75.2 1) _ e_79) o_Mo_figures g_1110 (ci := 1) (q0 := 0) rfl rfl (List.range' 0 12) (segC1 rfl rfl) (by decide) rfl (segP1 rfl rfl) rfl rfl (Nat.le_of_ble_eq_true rfl) ⟨rfl, rfl, by show _ ≤ _; (try dsimp only); omega, by show _ ≤ _; (try dsimp only); omega⟩ d_Mo_factor_173 (fun H locs hP hD hS => ?_)
                  refine lv_istore (lv' := [(4, .int v_78.1), (3, .int v_75.1), (2, .int v_45.1), (1, .int v_2), (0, .ref (a 0))]) hx hb d_Mo_factor_176 hl (by decide) rfl (fun ls hl => ?_)
                  refine lv_aload_n hx hb d_Mo_factor_178 rfl (lv_at hl 4 rfl) ?_
                  refine lv_iload_n hx hb d_Mo_factor_179 rfl (lv_at hl 2 rfl) ?_
                  refine lv_bipush (v := 8) hx hb d_Mo_factor_180 (by decide) ?_
                  refine lv_iload_n hx hb d_Mo_factor_182 rfl (lv_at hl 1 rfl) ?_
                  refine lv_imul hx hb d_Mo_factor_183 ?_
                  refine lv_iadd hx hb d_Mo_factor_184 ?_
                  refine lv_bipush (v := 32) hx hb d_Mo_factor_185 (by decide) ?_
                  refine lv_iload hx hb d_Mo_factor_187 (lv_at hl 0 rfl) ?_
                  refine lv_imul hx hb d_Mo_factor_189 ?_
                  refine lv_iadd hx hb d_Mo_factor_190 ?_
                  obtain ⟨v_80, e_81, hd⟩ := bind_s hd
                  refine callVV (ws' := ws_Mo g a v_80) (rest := []) (As := [.int ((v_45.1 + (8 * v_75.1)) + (32 * v_78.1))]) hx hb hml hown hg hK hP hD hS hA hCs hl.1 (c_Mo_emits l D g a ((v_45.1 + (8 * v_75.1)) + (32 * v_78.1)) v_78.2 _ e_81) o_Mo_emits g_1126 (ci := 1) (q0 := 0) rfl rfl (List.range' 0 12) (segC1 rfl rfl) (by decide) rfl (segP1 rfl rfl) rfl rfl (Nat.le_of_ble_eq_true rfl) ⟨rfl, rfl, by show _ ≤ _; (try dsimp only); omega, by show _ ≤ _; (try dsimp only); omega⟩ d_Mo_factor_191 (fun H locs hP hD hS => ?_)
                  obtain rfl := Option.some.inj hd
                  exact retV hx hb hr hlk hK hP hD hS d_Mo_factor_194
                · have hd := ite_t hd h_77
                  refine lv_iload_n hx hb d_Mo_factor_159 rfl (lv_at hl 0 rfl) ?_
                  refine lv_iconst (v := (-1)) hx hb d_Mo_factor_160 (by decide) ?_
                  refine lv_icmp_ne (tgt := 168) hx hb d_Mo_factor_161 (by decide) (fun h_82 => ?_) (fun h_82 => ?_)
                  · have hd := ite_f hd h_82
                    refine lv_iconst (v := 0) hx hb d_Mo_factor_168 (by decide) ?_
                    refine va_put (D := D) (ci := 1) (v := .int 0) (ty := .boolean) (C := R_Mo) (T := F_Mo) (N := 26) hx hb hg i_Mo t_Mo t_Mo_ok n_Mo hown hK hP hD hS 0 rfl rfl 8 (by decide) (hg _ g_1000) (fun _ h9 => h9) rfl (by decide +kernel) (by decide +kernel) rfl (Nat.le_of_ble_eq_true rfl) d_Mo_factor_169 (fun H locs hP hD hS => ?_)
                    have hP : va_P D classes (ws_Mo g a (u_Mo_isWrong v_75.2 0)) H := hP
                    have hD : va_D A (ws_Mo g a (u_Mo_isWrong v_75.2 0)) := hD
                    refine lv_aload_n hx hb d_Mo_factor_172 rfl (lv_at hl 3 rfl) ?_
                    obtain ⟨v_83, e_84, hd⟩ := bind_s hd
                    refine callVI (ws' := ws_Mo g a v_83.2) (rest := []) (As := []) hx hb hml hown hg hK hP hD hS hA hCs hl.1 (c_Mo_figures l D g a (u_Mo_isWrong v_75.2 0) _ e_84) o_Mo_figures g_1110 (ci := 1) (q0 := 0) rfl rfl (List.range' 0 12) (segC1 rfl rfl) (by decide) rfl (segP1 rfl rfl) rfl rfl (Nat.le_of_ble_eq_true rfl) ⟨rfl, rfl, by show _ ≤ _; (try dsimp only); omega, by show _ ≤ _; (try dsimp only); omega⟩ d_Mo_factor_173 (fun H locs hP hD hS => ?_)
                    refine lv_istore (lv' := [(4, .int v_83.1), (3, .int v_75.1), (2, .int v_45.1), (1, .int v_2), (0, .ref (a 0))]) hx hb d_Mo_factor_176 hl (by decide) rfl (fun ls hl => ?_)
                    refine lv_aload_n hx hb d_Mo_factor_178 rfl (lv_at hl 4 rfl) ?_
                    refine lv_iload_n hx hb d_Mo_factor_179 rfl (lv_at hl 2 rfl) ?_
                    refine lv_bipush (v := 8) hx hb d_Mo_factor_180 (by decide) ?_
                    refine lv_iload_n hx hb d_Mo_factor_182 rfl (lv_at hl 1 rfl) ?_
                    refine lv_imul hx hb d_Mo_factor_183 ?_
                    refine lv_iadd hx hb d_Mo_factor_184 ?_
                    refine lv_bipush (v := 32) hx hb d_Mo_factor_185 (by decide) ?_
                    refine lv_iload hx hb d_Mo_factor_187 (lv_at hl 0 rfl) ?_
                    refine lv_imul hx hb d_Mo_factor_189 ?_
                    refine lv_iadd hx hb d_Mo_factor_190 ?_
                    obtain ⟨v_85, e_86, hd⟩ := bind_s hd
                    refine callVV (ws' := ws_Mo g a v_85) (rest := []) (As := [.int ((v_45.1 + (8 * v_75.1)) + (32 * v_83.1))]) hx hb hml hown hg hK hP hD hS hA hCs hl.1 (c_Mo_emits l D g a ((v_45.1 + (8 * v_75.1)) + (32 * v_83.1)) v_83.2 _ e_86) o_Mo_emits g_1126 (ci := 1) (q0 := 0) rfl rfl (List.range' 0 12) (segC1 rfl rfl) (by decide) rfl (segP1 rfl rfl) rfl rfl (Nat.le_of_ble_eq_true rfl) ⟨rfl, rfl, by show _ ≤ _; (try dsimp only); omega, by show _ ≤ _; (try dsimp only); omega⟩ d_Mo_factor_191 (fun H locs hP hD hS => ?_)
                    obtain rfl := Option.some.inj hd
                    exact retV hx hb hr hlk hK hP hD hS d_Mo_factor_194
                  · have hd := ite_t hd h_82
                    refine lv_iconst (v := 1) hx hb d_Mo_factor_164 (by decide) ?_
                    refine lv_goto (tgt := 169) hx hb d_Mo_factor_165 (by decide) ?_
                    refine va_put (D := D) (ci := 1) (v := .int 1) (ty := .boolean) (C := R_Mo) (T := F_Mo) (N := 26) hx hb hg i_Mo t_Mo t_Mo_ok n_Mo hown hK hP hD hS 0 rfl rfl 8 (by decide) (hg _ g_1000) (fun _ h9 => h9) rfl (by decide +kernel) (by decide +kernel) rfl (Nat.le_of_ble_eq_true rfl) d_Mo_factor_169 (fun H locs hP hD hS => ?_)
                    have hP : va_P D classes (ws_Mo g a (u_Mo_isWrong v_75.2 1)) H := hP
                    have hD : va_D A (ws_Mo g a (u_Mo_isWrong v_75.2 1)) := hD
                    refine lv_aload_n hx hb d_Mo_factor_172 rfl (lv_at hl 3 rfl) ?_
                    obtain ⟨v_87, e_88, hd⟩ := bind_s hd
                    refine callVI (ws' := ws_Mo g a v_87.2) (rest := []) (As := []) hx hb hml hown hg hK hP hD hS hA hCs hl.1 (c_Mo_figures l D g a (u_Mo_isWrong v_75.2 1) _ e_88) o_Mo_figures g_1110 (ci := 1) (q0 := 0) rfl rfl (List.range' 0 12) (segC1 rfl rfl) (by decide) rfl (segP1 rfl rfl) rfl rfl (Nat.le_of_ble_eq_true rfl) ⟨rfl, rfl, by show _ ≤ _; (try dsimp only); omega, by show _ ≤ _; (try dsimp only); omega⟩ d_Mo_factor_173 (fun H locs hP hD hS => ?_)
                    refine lv_istore (lv' := [(4, .int v_87.1), (3, .int v_75.1), (2, .int v_45.1), (1, .int v_2), (0, .ref (a 0))]) hx hb d_Mo_factor_176 hl (by decide) rfl (fun ls hl => ?_)
                    refine lv_aload_n hx hb d_Mo_factor_178 rfl (lv_at hl 4 rfl) ?_
                    refine lv_iload_n hx hb d_Mo_factor_179 rfl (lv_at hl 2 rfl) ?_
                    refine lv_bipush (v := 8) hx hb d_Mo_factor_180 (by decide) ?_
                    refine lv_iload_n hx hb d_Mo_factor_182 rfl (lv_at hl 1 rfl) ?_
                    refine lv_imul hx hb d_Mo_factor_183 ?_
                    refine lv_iadd hx hb d_Mo_factor_184 ?_
                    refine lv_bipush (v := 32) hx hb d_Mo_factor_185 (by decide) ?_
                    refine lv_iload hx hb d_Mo_factor_187 (lv_at hl 0 rfl) ?_
                    refine lv_imul hx hb d_Mo_factor_189 ?_
                    refine lv_iadd hx hb d_Mo_factor_190 ?_
                    obtain ⟨v_89, e_90, hd⟩ := bind_s hd
                    refine callVV (ws' := ws_Mo g a v_89) (rest := []) (As := [.int ((v_45.1 + (8 * v_75.1)) + (32 * v_87.1))]) hx hb hml hown hg hK hP hD hS hA hCs hl.1 (c_Mo_emits l D g a ((v_45.1 + (8 * v_75.1)) + (32 * v_87.1)) v_87.2 _ e_90) o_Mo_emits g_1126 (ci := 1) (q0 := 0) rfl rfl (List.range' 0 12) (segC1 rfl rfl) (by decide) rfl (segP1 rfl rfl) rfl rfl (Nat.le_of_ble_eq_true rfl) ⟨rfl, rfl, by show _ ≤ _; (try dsimp only); omega, by show _ ≤ _; (try dsimp only); omega⟩ d_Mo_factor_191 (fun H locs hP hD hS => ?_)
                    obtain rfl := Option.some.inj hd
                    exact retV hx hb hr hlk hK hP hD hS d_Mo_factor_194
              · have hd := ite_f hd h_74
                refine lv_iconst (v := 0) hx hb d_Mo_factor_140 (by decide) ?_
                refine lv_goto (tgt := 150) hx hb d_Mo_factor_141 (by decide) ?_
                refine lv_istore_n (lv' := [(3, .int 0), (2, .int v_45.1), (1, .int v_2), (0, .ref (a 0))]) hx hb d_Mo_factor_150 rfl hl (by decide) rfl (fun ls hl => ?_)
                refine lv_aload_n hx hb d_Mo_factor_151 rfl (lv_at hl 3 rfl) ?_
                refine lv_aload_n hx hb d_Mo_factor_152 rfl (lv_at hl 3 rfl) ?_
                refine va_get (D := D) (ci := 1) (v := .int (q_Mo_isWrong (u_Mo_isWrong v_45.2 1))) (C := R_Mo) (T := F_Mo) (N := 26) hx hb hg i_Mo hown hK hP 0 rfl rfl 8 (by decide) (hg _ g_1000) (fun _ h9 => h9) rfl d_Mo_factor_153 ?_
                refine lv_if_ne (tgt := 164) hx hb d_Mo_factor_156 (by decide) (fun h_91 => ?_) (fun h_91 => ?_)
                · have hd := ite_f hd h_91
                  refine lv_iconst (v := 1) hx hb d_Mo_factor_164 (by decide) ?_
                  refine lv_goto (tgt := 169) hx hb d_Mo_factor_165 (by decide) ?_
                  refine va_put (D := D) (ci := 1) (v := .int 1) (ty := .boolean) (C := R_Mo) (T := F_Mo) (N := 26) hx hb hg i_Mo t_Mo t_Mo_ok n_Mo hown hK hP hD hS 0 rfl rfl 8 (by decide) (hg _ g_1000) (fun _ h9 => h9) rfl (by decide +kernel) (by decide +kernel) rfl (Nat.le_of_ble_eq_true rfl) d_Mo_factor_169 (fun H locs hP hD hS => ?_)
                  have hP : va_P D classes (ws_Mo g a (u_Mo_isWrong (u_Mo_isWrong v_45.2 1) 1)) H := hP
                  have hD : va_D A (ws_Mo g a (u_Mo_isWrong (u_Mo_isWrong v_45.2 1) 1)) := hD
                  refine lv_aload_n hx hb d_Mo_factor_172 rfl (lv_at hl 3 rfl) ?_
                  obtain ⟨v_92, e_93, hd⟩ := bind_s hd
                  refine callVI (ws' := ws_Mo g a v_92.2) (rest := []) (As := []) hx hb hml hown hg hK hP hD hS hA hCs hl.1 (c_Mo_figures l D g a (u_Mo_isWrong (u_Mo_isWrong v_45.2 1) 1) _ e_93) o_Mo_figures g_1110 (ci := 1) (q0 := 0) rfl rfl (List.range' 0 12) (segC1 rfl rfl) (by decide) rfl (segP1 rfl rfl) rfl rfl (Nat.le_of_ble_eq_true rfl) ⟨rfl, rfl, by show _ ≤ _; (try dsimp only); omega, by show _ ≤ _; (try dsimp only); omega⟩ d_Mo_factor_173 (fun H locs hP hD hS => ?_)
                  refine lv_istore (lv' := [(4, .int v_92.1), (3, .int 0), (2, .int v_45.1), (1, .int v_2), (0, .ref (a 0))]) hx hb d_Mo_factor_176 hl (by decide) rfl (fun ls hl => ?_)
                  refine lv_aload_n hx hb d_Mo_factor_178 rfl (lv_at hl 4 rfl) ?_
                  refine lv_iload_n hx hb d_Mo_factor_179 rfl (lv_at hl 2 rfl) ?_
                  refine lv_bipush (v := 8) hx hb d_Mo_factor_180 (by decide) ?_
                  refine lv_iload_n hx hb d_Mo_factor_182 rfl (lv_at hl 1 rfl) ?_
                  refine lv_imul hx hb d_Mo_factor_183 ?_
                  refine lv_iadd hx hb d_Mo_factor_184 ?_
                  refine lv_bipush (v := 32) hx hb d_Mo_factor_185 (by decide) ?_
                  refine lv_iload hx hb d_Mo_factor_187 (lv_at hl 0 rfl) ?_
                  refine lv_imul hx hb d_Mo_factor_189 ?_
                  refine lv_iadd hx hb d_Mo_factor_190 ?_
                  obtain ⟨v_94, e_95, hd⟩ := bind_s hd
                  refine callVV (ws' := ws_Mo g a v_94) (rest := []) (As := [.int ((v_45.1 + (8 * 0)) + (32 * v_92.1))]) hx hb hml hown hg hK hP hD hS hA hCs hl.1 (c_Mo_emits l D g a ((v_45.1 + (8 * 0)) + (32 * v_92.1)) v_92.2 _ e_95) o_Mo_emits g_1126 (ci := 1) (q0 := 0) rfl rfl (List.range' 0 12) (segC1 rfl rfl) (by decide) rfl (segP1 rfl rfl) rfl rfl (Nat.le_of_ble_eq_true rfl) ⟨rfl, rfl, by show _ ≤ _; (try dsimp only); omega, by show _ ≤ _; (try dsimp only); omega⟩ d_Mo_factor_191 (fun H locs hP hD hS => ?_)
                  obtain rfl := Option.some.inj hd
                  exact retV hx hb hr hlk hK hP hD hS d_Mo_factor_194
                · have hd := ite_t hd h_91
                  refine lv_iload_n hx hb d_Mo_factor_159 rfl (lv_at hl 0 rfl) ?_
                  refine lv_iconst (v := (-1)) hx hb d_Mo_factor_160 (by decide) ?_
                  refine lv_icmp_ne (tgt := 168) hx hb d_Mo_factor_161 (by decide) (fun _ => ?_) (fun h9 => absurd h9 (by decide))
                  refine lv_iconst (v := 0) hx hb d_Mo_factor_168 (by decide) ?_
                  refine va_put (D := D) (ci := 1) (v := .int 0) (ty := .boolean) (C := R_Mo) (T := F_Mo) (N := 26) hx hb hg i_Mo t_Mo t_Mo_ok n_Mo hown hK hP hD hS 0 rfl rfl 8 (by decide) (hg _ g_1000) (fun _ h9 => h9) rfl (by decide +kernel) (by decide +kernel) rfl (Nat.le_of_ble_eq_true rfl) d_Mo_factor_169 (fun H locs hP hD hS => ?_)
                  have hP : va_P D classes (ws_Mo g a (u_Mo_isWrong (u_Mo_isWrong v_45.2 1) 0)) H := hP
                  have hD : va_D A (ws_Mo g a (u_Mo_isWrong (u_Mo_isWrong v_45.2 1) 0)) := hD
                  refine lv_aload_n hx hb d_Mo_factor_172 rfl (lv_at hl 3 rfl) ?_
                  obtain ⟨v_96, e_97, hd⟩ := bind_s hd
                  refine callVI (ws' := ws_Mo g a v_96.2) (rest := []) (As := []) hx hb hml hown hg hK hP hD hS hA hCs hl.1 (c_Mo_figures l D g a (u_Mo_isWrong (u_Mo_isWrong v_45.2 1) 0) _ e_97) o_Mo_figures g_1110 (ci := 1) (q0 := 0) rfl rfl (List.range' 0 12) (segC1 rfl rfl) (by decide) rfl (segP1 rfl rfl) rfl rfl (Nat.le_of_ble_eq_true rfl) ⟨rfl, rfl, by show _ ≤ _; (try dsimp only); omega, by show _ ≤ _; (try dsimp only); omega⟩ d_Mo_factor_173 (fun H locs hP hD hS => ?_)
                  refine lv_istore (lv' := [(4, .int v_96.1), (3, .int 0), (2, .int v_45.1), (1, .int v_2), (0, .ref (a 0))]) hx hb d_Mo_factor_176 hl (by decide) rfl (fun ls hl => ?_)
                  refine lv_aload_n hx hb d_Mo_factor_178 rfl (lv_at hl 4 rfl) ?_
                  refine lv_iload_n hx hb d_Mo_factor_179 rfl (lv_at hl 2 rfl) ?_
                  refine lv_bipush (v := 8) hx hb d_Mo_factor_180 (by decide) ?_
                  refine lv_iload_n hx hb d_Mo_factor_182 rfl (lv_at hl 1 rfl) ?_
                  refine lv_imul hx hb d_Mo_factor_183 ?_
                  refine lv_iadd hx hb d_Mo_factor_184 ?_
                  refine lv_bipush (v := 32) hx hb d_Mo_factor_185 (by decide) ?_
                  refine lv_iload hx hb d_Mo_factor_187 (lv_at hl 0 rfl) ?_
                  refine lv_imul hx hb d_Mo_factor_189 ?_
                  refine lv_iadd hx hb d_Mo_factor_190 ?_
                  obtain ⟨v_98, e_99, hd⟩ := bind_s hd
                  refine callVV (ws' := ws_Mo g a v_98) (rest := []) (As := [.int ((v_45.1 + (8 * 0)) + (32 * v_96.1))]) hx hb hml hown hg hK hP hD hS hA hCs hl.1 (c_Mo_emits l D g a ((v_45.1 + (8 * 0)) + (32 * v_96.1)) v_96.2 _ e_99) o_Mo_emits g_1126 (ci := 1) (q0 := 0) rfl rfl (List.range' 0 12) (segC1 rfl rfl) (by decide) rfl (segP1 rfl rfl) rfl rfl (Nat.le_of_ble_eq_true rfl) ⟨rfl, rfl, by show _ ≤ _; (try dsimp only); omega, by show _ ≤ _; (try dsimp only); omega⟩ d_Mo_factor_191 (fun H locs hP hD hS => ?_)
                  obtain rfl := Option.some.inj hd
                  exact retV hx hb hr hlk hK hP hD hS d_Mo_factor_194
          · have hd := ite_t hd h_44
            refine lv_aload_n hx hb d_Mo_factor_25 rfl (lv_at hl 1 rfl) ?_
            refine lv_aload_n hx hb d_Mo_factor_26 rfl (lv_at hl 1 rfl) ?_
            refine va_get (D := D) (ci := 1) (v := .int (q_Mo_open z)) (C := R_Mo) (T := F_Mo) (N := 26) hx hb hg i_Mo hown hK hP 0 rfl rfl 9 (by decide) (hg _ g_1001) (fun _ h9 => h9) rfl d_Mo_factor_27 ?_
            refine lv_iconst (v := 5) hx hb d_Mo_factor_30 (by decide) ?_
            refine lv_icmp_ne (tgt := 38) hx hb d_Mo_factor_31 (by decide) (fun h_100 => ?_) (fun h_100 => ?_)
            · have hd := ite_f hd h_100
              refine lv_iconst (v := 0) hx hb d_Mo_factor_38 (by decide) ?_
              refine va_put (D := D) (ci := 1) (v := .int 0) (ty := .boolean) (C := R_Mo) (T := F_Mo) (N := 26) hx hb hg i_Mo t_Mo t_Mo_ok n_Mo hown hK hP hD hS 0 rfl rfl 8 (by decide) (hg _ g_1000) (fun _ h9 => h9) rfl (by decide +kernel) (by decide +kernel) rfl (Nat.le_of_ble_eq_true rfl) d_Mo_factor_39 (fun H locs hP hD hS => ?_)
              have hP : va_P D classes (ws_Mo g a (u_Mo_isWrong z 0)) H := hP
              have hD : va_D A (ws_Mo g a (u_Mo_isWrong z 0)) := hD
              refine lv_aload_n hx hb d_Mo_factor_42 rfl (lv_at hl 1 rfl) ?_
              refine lv_dup hx hb d_Mo_factor_43 rfl ?_
              refine va_get (D := D) (ci := 1) (v := .int (q_Mo_open (u_Mo_isWrong z 0))) (C := R_Mo) (T := F_Mo) (N := 26) hx hb hg i_Mo hown hK hP 0 rfl rfl 9 (by decide) (hg _ g_1001) (fun _ h9 => h9) rfl d_Mo_factor_44 ?_
              refine lv_iconst (v := 1) hx hb d_Mo_factor_47 (by decide) ?_
              refine lv_iadd hx hb d_Mo_factor_48 ?_
              refine va_put (D := D) (ci := 1) (v := .int ((q_Mo_open (u_Mo_isWrong z 0)) + 1)) (ty := .int) (C := R_Mo) (T := F_Mo) (N := 26) hx hb hg i_Mo t_Mo t_Mo_ok n_Mo hown hK hP hD hS 0 rfl rfl 9 (by decide) (hg _ g_1001) (fun _ h9 => h9) rfl (by decide +kernel) rfl rfl (Nat.le_of_ble_eq_true rfl) d_Mo_factor_49 (fun H locs hP hD hS => ?_)
              have hP : va_P D classes (ws_Mo g a (u_Mo_open (u_Mo_isWrong z 0) ((q_Mo_open (u_Mo_isWrong z 0)) + 1))) H := hP
              have hD : va_D A (ws_Mo g a (u_Mo_open (u_Mo_isWrong z 0) ((q_Mo_open (u_Mo_isWrong z 0)) + 1))) := hD
              refine lv_aload_n hx hb d_Mo_factor_52 rfl (lv_at hl 1 rfl) ?_
              refine lv_dup hx hb d_Mo_factor_53 rfl ?_
              refine va_get (D := D) (ci := 1) (v := .int (q_Mo_spot (u_Mo_open (u_Mo_isWrong z 0) ((q_Mo_open (u_Mo_isWrong z 0)) + 1)))) (C := R_Mo) (T := F_Mo) (N := 26) hx hb hg i_Mo hown hK hP 0 rfl rfl 6 (by decide) (hg _ g_998) (fun _ h9 => h9) rfl d_Mo_factor_54 ?_
              refine lv_aload_n hx hb d_Mo_factor_57 rfl (lv_at hl 1 rfl) ?_
              refine va_get (D := D) (ci := 1) (v := .int (q_Mo_isWrong (u_Mo_open (u_Mo_isWrong z 0) ((q_Mo_open (u_Mo_isWrong z 0)) + 1)))) (C := R_Mo) (T := F_Mo) (N := 26) hx hb hg i_Mo hown hK hP 0 rfl rfl 8 (by decide) (hg _ g_1000) (fun _ h9 => h9) rfl d_Mo_factor_58 ?_
              refine lv_if_eq (tgt := 68) hx hb d_Mo_factor_61 (by decide) (fun h_101 => ?_) (fun h_101 => ?_)
              · have hd := ite_t hd h_101
                refine lv_iconst (v := 1) hx hb d_Mo_factor_68 (by decide) ?_
                refine lv_iadd hx hb d_Mo_factor_69 ?_
                refine va_put (D := D) (ci := 1) (v := .int ((q_Mo_spot (u_Mo_open (u_Mo_isWrong z 0) ((q_Mo_open (u_Mo_isWrong z 0)) + 1))) + 1)) (ty := .int) (C := R_Mo) (T := F_Mo) (N := 26) hx hb hg i_Mo t_Mo t_Mo_ok n_Mo hown hK hP hD hS 0 rfl rfl 6 (by decide) (hg _ g_998) (fun _ h9 => h9) rfl (by decide +kernel) rfl rfl (Nat.le_of_ble_eq_true rfl) d_Mo_factor_70 (fun H locs hP hD hS => ?_)
                have hP : va_P D classes (ws_Mo g a (u_Mo_spot (u_Mo_open (u_Mo_isWrong z 0) ((q_Mo_open (u_Mo_isWrong z 0)) + 1)) ((q_Mo_spot (u_Mo_open (u_Mo_isWrong z 0) ((q_Mo_open (u_Mo_isWrong z 0)) + 1))) + 1))) H := hP
                have hD : va_D A (ws_Mo g a (u_Mo_spot (u_Mo_open (u_Mo_isWrong z 0) ((q_Mo_open (u_Mo_isWrong z 0)) + 1)) ((q_Mo_spot (u_Mo_open (u_Mo_isWrong z 0) ((q_Mo_open (u_Mo_isWrong z 0)) + 1))) + 1))) := hD
                refine lv_iload_n hx hb d_Mo_factor_73 rfl (lv_at hl 0 rfl) ?_
                refine lv_bipush (v := 33) hx hb d_Mo_factor_74 (by decide) ?_
                refine lv_icmp_ne (tgt := 91) hx hb d_Mo_factor_76 (by decide) (fun h_102 => ?_) (fun h_102 => ?_)
                · have hd := ite_f hd h_102
                  refine lv_aload_n hx hb d_Mo_factor_91 rfl (lv_at hl 1 rfl) ?_
                  obtain ⟨v_103, e_104, hd⟩ := bind_s hd
                  refine callVV (ws' := ws_Mo g a v_103) (rest := []) (As := []) hx hb hml hown hg hK hP hD hS hA hCs hl.1 (ih.2.2 l D g a (u_Mo_spot (u_Mo_open (u_Mo_isWrong z 0) ((q_Mo_open (u_Mo_isWrong z 0)) + 1)) ((q_Mo_spot (u_Mo_open (u_Mo_isWrong z 0) ((q_Mo_open (u_Mo_isWrong z 0)) + 1))) + 1)) _ e_104) o_Mo_some g_1114 (ci := 1) (q0 := 0) rfl rfl (List.range' 0 12) (segC1 rfl rfl) (by decide) rfl (segP1 rfl rfl) rfl rfl (Nat.le_of_ble_eq_true rfl) ⟨rfl, rfl, by show _ ≤ _; (try dsimp only); omega, by show _ ≤ _; (try dsimp only); omega⟩ d_Mo_factor_92 (fun H locs hP hD hS => ?_)
                  refine lv_aload_n hx hb d_Mo_factor_95 rfl (lv_at hl 1 rfl) ?_
                  refine lv_bipush (v := 41) hx hb d_Mo_factor_96 (by decide) ?_
                  obtain ⟨v_105, e_106, hd⟩ := bind_s hd
                  refine callVV (ws' := ws_Mo g a v_105) (rest := []) (As := [.int 41]) hx hb hml hown hg hK hP hD hS hA hCs hl.1 (c_Mo_must l D g a 41 v_103 _ e_106) o_Mo_must g_1095 (ci := 1) (q0 := 0) rfl rfl (List.range' 0 12) (segC1 rfl rfl) (by decide) rfl (segP1 rfl rfl) rfl rfl (Nat.le_of_ble_eq_true rfl) ⟨rfl, rfl, by show _ ≤ _; (try dsimp only); omega, by show _ ≤ _; (try dsimp only); omega⟩ d_Mo_factor_98 (fun H locs hP hD hS => ?_)
                  refine lv_aload_n hx hb d_Mo_factor_101 rfl (lv_at hl 1 rfl) ?_
                  refine lv_dup hx hb d_Mo_factor_102 rfl ?_
                  refine va_get (D := D) (ci := 1) (v := .int (q_Mo_open v_105)) (C := R_Mo) (T := F_Mo) (N := 26) hx hb hg i_Mo hown hK hP 0 rfl rfl 9 (by decide) (hg _ g_1001) (fun _ h9 => h9) rfl d_Mo_factor_103 ?_
                  refine lv_iconst (v := 1) hx hb d_Mo_factor_106 (by decide) ?_
                  refine lv_isub hx hb d_Mo_factor_107 ?_
                  refine va_put (D := D) (ci := 1) (v := .int ((q_Mo_open v_105) - 1)) (ty := .int) (C := R_Mo) (T := F_Mo) (N := 26) hx hb hg i_Mo t_Mo t_Mo_ok n_Mo hown hK hP hD hS 0 rfl rfl 9 (by decide) (hg _ g_1001) (fun _ h9 => h9) rfl (by decide +kernel) rfl rfl (Nat.le_of_ble_eq_true rfl) d_Mo_factor_108 (fun H locs hP hD hS => ?_)
                  have hP : va_P D classes (ws_Mo g a (u_Mo_open v_105 ((q_Mo_open v_105) - 1))) H := hP
                  have hD : va_D A (ws_Mo g a (u_Mo_open v_105 ((q_Mo_open v_105) - 1))) := hD
                  obtain rfl := Option.some.inj hd
                  exact retV hx hb hr hlk hK hP hD hS d_Mo_factor_111
                · have hd := ite_t hd h_102
                  refine lv_aload_n hx hb d_Mo_factor_79 rfl (lv_at hl 1 rfl) ?_
                  obtain ⟨v_107, e_108, hd⟩ := bind_s hd
                  refine callVV (ws' := ws_Mo g a v_107) (rest := []) (As := []) hx hb hml hown hg hK hP hD hS hA hCs hl.1 (ih.2.1 l D g a (u_Mo_spot (u_Mo_open (u_Mo_isWrong z 0) ((q_Mo_open (u_Mo_isWrong z 0)) + 1)) ((q_Mo_spot (u_Mo_open (u_Mo_isWrong z 0) ((q_Mo_open (u_Mo_isWrong z 0)) + 1))) + 1)) _ e_108) o_Mo_factor g_1122 (ci := 1) (q0 := 0) rfl rfl (List.range' 0 12) (segC1 rfl rfl) (by decide) rfl (segP1 rfl rfl) rfl rfl (Nat.le_of_ble_eq_true rfl) ⟨rfl, rfl, by show _ ≤ _; (try dsimp only); omega, by show _ ≤ _; (try dsimp only); omega⟩ d_Mo_factor_80 (fun H locs hP hD hS => ?_)
                  refine lv_aload_n hx hb d_Mo_factor_83 rfl (lv_at hl 1 rfl) ?_
                  refine lv_iconst (v := (-1)) hx hb d_Mo_factor_84 (by decide) ?_
                  obtain ⟨v_109, e_110, hd⟩ := bind_s hd
                  refine callVV (ws' := ws_Mo g a v_109) (rest := []) (As := [.int (-1)]) hx hb hml hown hg hK hP hD hS hA hCs hl.1 (c_Mo_emits l D g a (-1) v_107 _ e_110) o_Mo_emits g_1126 (ci := 1) (q0 := 0) rfl rfl (List.range' 0 12) (segC1 rfl rfl) (by decide) rfl (segP1 rfl rfl) rfl rfl (Nat.le_of_ble_eq_true rfl) ⟨rfl, rfl, by show _ ≤ _; (try dsimp only); omega, by show _ ≤ _; (try dsimp only); omega⟩ d_Mo_factor_85 (fun H locs hP hD hS => ?_)
                  refine lv_goto (tgt := 101) hx hb d_Mo_factor_88 (by decide) ?_
                  refine lv_aload_n hx hb d_Mo_factor_101 rfl (lv_at hl 1 rfl) ?_
                  refine lv_dup hx hb d_Mo_factor_102 rfl ?_
                  refine va_get (D := D) (ci := 1) (v := .int (q_Mo_open v_109)) (C := R_Mo) (T := F_Mo) (N := 26) hx hb hg i_Mo hown hK hP 0 rfl rfl 9 (by decide) (hg _ g_1001) (fun _ h9 => h9) rfl d_Mo_factor_103 ?_
                  refine lv_iconst (v := 1) hx hb d_Mo_factor_106 (by decide) ?_
                  refine lv_isub hx hb d_Mo_factor_107 ?_
                  refine va_put (D := D) (ci := 1) (v := .int ((q_Mo_open v_109) - 1)) (ty := .int) (C := R_Mo) (T := F_Mo) (N := 26) hx hb hg i_Mo t_Mo t_Mo_ok n_Mo hown hK hP hD hS 0 rfl rfl 9 (by decide) (hg _ g_1001) (fun _ h9 => h9) rfl (by decide +kernel) rfl rfl (Nat.le_of_ble_eq_true rfl) d_Mo_factor_108 (fun H locs hP hD hS => ?_)
                  have hP : va_P D classes (ws_Mo g a (u_Mo_open v_109 ((q_Mo_open v_109) - 1))) H := hP
                  have hD : va_D A (ws_Mo g a (u_Mo_open v_109 ((q_Mo_open v_109) - 1))) := hD
                  obtain rfl := Option.some.inj hd
                  exact retV hx hb hr hlk hK hP hD hS d_Mo_factor_111
              · have hd := ite_f hd h_101
                refine lv_iconst (v := 0) hx hb d_Mo_factor_64 (by decide) ?_
                refine lv_goto (tgt := 69) hx hb d_Mo_factor_65 (by decide) ?_
                refine lv_iadd hx hb d_Mo_factor_69 ?_
                refine va_put (D := D) (ci := 1) (v := .int ((q_Mo_spot (u_Mo_open (u_Mo_isWrong z 0) ((q_Mo_open (u_Mo_isWrong z 0)) + 1))) + 0)) (ty := .int) (C := R_Mo) (T := F_Mo) (N := 26) hx hb hg i_Mo t_Mo t_Mo_ok n_Mo hown hK hP hD hS 0 rfl rfl 6 (by decide) (hg _ g_998) (fun _ h9 => h9) rfl (by decide +kernel) rfl rfl (Nat.le_of_ble_eq_true rfl) d_Mo_factor_70 (fun H locs hP hD hS => ?_)
                have hP : va_P D classes (ws_Mo g a (u_Mo_spot (u_Mo_open (u_Mo_isWrong z 0) ((q_Mo_open (u_Mo_isWrong z 0)) + 1)) ((q_Mo_spot (u_Mo_open (u_Mo_isWrong z 0) ((q_Mo_open (u_Mo_isWrong z 0)) + 1))) + 0))) H := hP
                have hD : va_D A (ws_Mo g a (u_Mo_spot (u_Mo_open (u_Mo_isWrong z 0) ((q_Mo_open (u_Mo_isWrong z 0)) + 1)) ((q_Mo_spot (u_Mo_open (u_Mo_isWrong z 0) ((q_Mo_open (u_Mo_isWrong z 0)) + 1))) + 0))) := hD
                refine lv_iload_n hx hb d_Mo_factor_73 rfl (lv_at hl 0 rfl) ?_
                refine lv_bipush (v := 33) hx hb d_Mo_factor_74 (by decide) ?_
                refine lv_icmp_ne (tgt := 91) hx hb d_Mo_factor_76 (by decide) (fun h_111 => ?_) (fun h_111 => ?_)
                · have hd := ite_f hd h_111
                  refine lv_aload_n hx hb d_Mo_factor_91 rfl (lv_at hl 1 rfl) ?_
                  obtain ⟨v_112, e_113, hd⟩ := bind_s hd
                  refine callVV (ws' := ws_Mo g a v_112) (rest := []) (As := []) hx hb hml hown hg hK hP hD hS hA hCs hl.1 (ih.2.2 l D g a (u_Mo_spot (u_Mo_open (u_Mo_isWrong z 0) ((q_Mo_open (u_Mo_isWrong z 0)) + 1)) ((q_Mo_spot (u_Mo_open (u_Mo_isWrong z 0) ((q_Mo_open (u_Mo_isWrong z 0)) + 1))) + 0)) _ e_113) o_Mo_some g_1114 (ci := 1) (q0 := 0) rfl rfl (List.range' 0 12) (segC1 rfl rfl) (by decide) rfl (segP1 rfl rfl) rfl rfl (Nat.le_of_ble_eq_true rfl) ⟨rfl, rfl, by show _ ≤ _; (try dsimp only); omega, by show _ ≤ _; (try dsimp only); omega⟩ d_Mo_factor_92 (fun H locs hP hD hS => ?_)
                  refine lv_aload_n hx hb d_Mo_factor_95 rfl (lv_at hl 1 rfl) ?_
                  refine lv_bipush (v := 41) hx hb d_Mo_factor_96 (by decide) ?_
                  obtain ⟨v_114, e_115, hd⟩ := bind_s hd
                  refine callVV (ws' := ws_Mo g a v_114) (rest := []) (As := [.int 41]) hx hb hml hown hg hK hP hD hS hA hCs hl.1 (c_Mo_must l D g a 41 v_112 _ e_115) o_Mo_must g_1095 (ci := 1) (q0 := 0) rfl rfl (List.range' 0 12) (segC1 rfl rfl) (by decide) rfl (segP1 rfl rfl) rfl rfl (Nat.le_of_ble_eq_true rfl) ⟨rfl, rfl, by show _ ≤ _; (try dsimp only); omega, by show _ ≤ _; (try dsimp only); omega⟩ d_Mo_factor_98 (fun H locs hP hD hS => ?_)
                  refine lv_aload_n hx hb d_Mo_factor_101 rfl (lv_at hl 1 rfl) ?_
                  refine lv_dup hx hb d_Mo_factor_102 rfl ?_
                  refine va_get (D := D) (ci := 1) (v := .int (q_Mo_open v_114)) (C := R_Mo) (T := F_Mo) (N := 26) hx hb hg i_Mo hown hK hP 0 rfl rfl 9 (by decide) (hg _ g_1001) (fun _ h9 => h9) rfl d_Mo_factor_103 ?_
                  refine lv_iconst (v := 1) hx hb d_Mo_factor_106 (by decide) ?_
                  refine lv_isub hx hb d_Mo_factor_107 ?_
                  refine va_put (D := D) (ci := 1) (v := .int ((q_Mo_open v_114) - 1)) (ty := .int) (C := R_Mo) (T := F_Mo) (N := 26) hx hb hg i_Mo t_Mo t_Mo_ok n_Mo hown hK hP hD hS 0 rfl rfl 9 (by decide) (hg _ g_1001) (fun _ h9 => h9) rfl (by decide +kernel) rfl rfl (Nat.le_of_ble_eq_true rfl) d_Mo_factor_108 (fun H locs hP hD hS => ?_)
                  have hP : va_P D classes (ws_Mo g a (u_Mo_open v_114 ((q_Mo_open v_114) - 1))) H := hP
                  have hD : va_D A (ws_Mo g a (u_Mo_open v_114 ((q_Mo_open v_114) - 1))) := hD
                  obtain rfl := Option.some.inj hd
                  exact retV hx hb hr hlk hK hP hD hS d_Mo_factor_111
                · have hd := ite_t hd h_111
                  refine lv_aload_n hx hb d_Mo_factor_79 rfl (lv_at hl 1 rfl) ?_
                  obtain ⟨v_116, e_117, hd⟩ := bind_s hd
                  refine callVV (ws' := ws_Mo g a v_116) (rest := []) (As := []) hx hb hml hown hg hK hP hD hS hA hCs hl.1 (ih.2.1 l D g a (u_Mo_spot (u_Mo_open (u_Mo_isWrong z 0) ((q_Mo_open (u_Mo_isWrong z 0)) + 1)) ((q_Mo_spot (u_Mo_open (u_Mo_isWrong z 0) ((q_Mo_open (u_Mo_isWrong z 0)) + 1))) + 0)) _ e_117) o_Mo_factor g_1122 (ci := 1) (q0 := 0) rfl rfl (List.range' 0 12) (segC1 rfl rfl) (by decide) rfl (segP1 rfl rfl) rfl rfl (Nat.le_of_ble_eq_true rfl) ⟨rfl, rfl, by show _ ≤ _; (try dsimp only); omega, by show _ ≤ _; (try dsimp only); omega⟩ d_Mo_factor_80 (fun H locs hP hD hS => ?_)
                  refine lv_aload_n hx hb d_Mo_factor_83 rfl (lv_at hl 1 rfl) ?_
                  refine lv_iconst (v := (-1)) hx hb d_Mo_factor_84 (by decide) ?_
                  obtain ⟨v_118, e_119, hd⟩ := bind_s hd
                  refine callVV (ws' := ws_Mo g a v_118) (rest := []) (As := [.int (-1)]) hx hb hml hown hg hK hP hD hS hA hCs hl.1 (c_Mo_emits l D g a (-1) v_116 _ e_119) o_Mo_emits g_1126 (ci := 1) (q0 := 0) rfl rfl (List.range' 0 12) (segC1 rfl rfl) (by decide) rfl (segP1 rfl rfl) rfl rfl (Nat.le_of_ble_eq_true rfl) ⟨rfl, rfl, by show _ ≤ _; (try dsimp only); omega, by show _ ≤ _; (try dsimp only); omega⟩ d_Mo_factor_85 (fun H locs hP hD hS => ?_)
                  refine lv_goto (tgt := 101) hx hb d_Mo_factor_88 (by decide) ?_
                  refine lv_aload_n hx hb d_Mo_factor_101 rfl (lv_at hl 1 rfl) ?_
                  refine lv_dup hx hb d_Mo_factor_102 rfl ?_
                  refine va_get (D := D) (ci := 1) (v := .int (q_Mo_open v_118)) (C := R_Mo) (T := F_Mo) (N := 26) hx hb hg i_Mo hown hK hP 0 rfl rfl 9 (by decide) (hg _ g_1001) (fun _ h9 => h9) rfl d_Mo_factor_103 ?_
                  refine lv_iconst (v := 1) hx hb d_Mo_factor_106 (by decide) ?_
                  refine lv_isub hx hb d_Mo_factor_107 ?_
                  refine va_put (D := D) (ci := 1) (v := .int ((q_Mo_open v_118) - 1)) (ty := .int) (C := R_Mo) (T := F_Mo) (N := 26) hx hb hg i_Mo t_Mo t_Mo_ok n_Mo hown hK hP hD hS 0 rfl rfl 9 (by decide) (hg _ g_1001) (fun _ h9 => h9) rfl (by decide +kernel) rfl rfl (Nat.le_of_ble_eq_true rfl) d_Mo_factor_108 (fun H locs hP hD hS => ?_)
                  have hP : va_P D classes (ws_Mo g a (u_Mo_open v_118 ((q_Mo_open v_118) - 1))) H := hP
                  have hD : va_D A (ws_Mo g a (u_Mo_open v_118 ((q_Mo_open v_118) - 1))) := hD
                  obtain rfl := Option.some.inj hd
                  exact retV hx hb hr hlk hK hP hD hS d_Mo_factor_111
            · have hd := ite_t hd h_100
              refine lv_iconst (v := 1) hx hb d_Mo_factor_34 (by decide) ?_
              refine lv_goto (tgt := 39) hx hb d_Mo_factor_35 (by decide) ?_
              refine va_put (D := D) (ci := 1) (v := .int 1) (ty := .boolean) (C := R_Mo) (T := F_Mo) (N := 26) hx hb hg i_Mo t_Mo t_Mo_ok n_Mo hown hK hP hD hS 0 rfl rfl 8 (by decide) (hg _ g_1000) (fun _ h9 => h9) rfl (by decide +kernel) (by decide +kernel) rfl (Nat.le_of_ble_eq_true rfl) d_Mo_factor_39 (fun H locs hP hD hS => ?_)
              have hP : va_P D classes (ws_Mo g a (u_Mo_isWrong z 1)) H := hP
              have hD : va_D A (ws_Mo g a (u_Mo_isWrong z 1)) := hD
              refine lv_aload_n hx hb d_Mo_factor_42 rfl (lv_at hl 1 rfl) ?_
              refine lv_dup hx hb d_Mo_factor_43 rfl ?_
              refine va_get (D := D) (ci := 1) (v := .int (q_Mo_open (u_Mo_isWrong z 1))) (C := R_Mo) (T := F_Mo) (N := 26) hx hb hg i_Mo hown hK hP 0 rfl rfl 9 (by decide) (hg _ g_1001) (fun _ h9 => h9) rfl d_Mo_factor_44 ?_
              refine lv_iconst (v := 1) hx hb d_Mo_factor_47 (by decide) ?_
              refine lv_iadd hx hb d_Mo_factor_48 ?_
              refine va_put (D := D) (ci := 1) (v := .int ((q_Mo_open (u_Mo_isWrong z 1)) + 1)) (ty := .int) (C := R_Mo) (T := F_Mo) (N := 26) hx hb hg i_Mo t_Mo t_Mo_ok n_Mo hown hK hP hD hS 0 rfl rfl 9 (by decide) (hg _ g_1001) (fun _ h9 => h9) rfl (by decide +kernel) rfl rfl (Nat.le_of_ble_eq_true rfl) d_Mo_factor_49 (fun H locs hP hD hS => ?_)
              have hP : va_P D classes (ws_Mo g a (u_Mo_open (u_Mo_isWrong z 1) ((q_Mo_open (u_Mo_isWrong z 1)) + 1))) H := hP
              have hD : va_D A (ws_Mo g a (u_Mo_open (u_Mo_isWrong z 1) ((q_Mo_open (u_Mo_isWrong z 1)) + 1))) := hD
              refine lv_aload_n hx hb d_Mo_factor_52 rfl (lv_at hl 1 rfl) ?_
              refine lv_dup hx hb d_Mo_factor_53 rfl ?_
              refine va_get (D := D) (ci := 1) (v := .int (q_Mo_spot (u_Mo_open (u_Mo_isWrong z 1) ((q_Mo_open (u_Mo_isWrong z 1)) + 1)))) (C := R_Mo) (T := F_Mo) (N := 26) hx hb hg i_Mo hown hK hP 0 rfl rfl 6 (by decide) (hg _ g_998) (fun _ h9 => h9) rfl d_Mo_factor_54 ?_
              refine lv_aload_n hx hb d_Mo_factor_57 rfl (lv_at hl 1 rfl) ?_
              refine va_get (D := D) (ci := 1) (v := .int (q_Mo_isWrong (u_Mo_open (u_Mo_isWrong z 1) ((q_Mo_open (u_Mo_isWrong z 1)) + 1)))) (C := R_Mo) (T := F_Mo) (N := 26) hx hb hg i_Mo hown hK hP 0 rfl rfl 8 (by decide) (hg _ g_1000) (fun _ h9 => h9) rfl d_Mo_factor_58 ?_
              refine lv_if_eq (tgt := 68) hx hb d_Mo_factor_61 (by decide) (fun h_120 => ?_) (fun h_120 => ?_)
              · have hd := ite_t hd h_120
                refine lv_iconst (v := 1) hx hb d_Mo_factor_68 (by decide) ?_
                refine lv_iadd hx hb d_Mo_factor_69 ?_
                refine va_put (D := D) (ci := 1) (v := .int ((q_Mo_spot (u_Mo_open (u_Mo_isWrong z 1) ((q_Mo_open (u_Mo_isWrong z 1)) + 1))) + 1)) (ty := .int) (C := R_Mo) (T := F_Mo) (N := 26) hx hb hg i_Mo t_Mo t_Mo_ok n_Mo hown hK hP hD hS 0 rfl rfl 6 (by decide) (hg _ g_998) (fun _ h9 => h9) rfl (by decide +kernel) rfl rfl (Nat.le_of_ble_eq_true rfl) d_Mo_factor_70 (fun H locs hP hD hS => ?_)
                have hP : va_P D classes (ws_Mo g a (u_Mo_spot (u_Mo_open (u_Mo_isWrong z 1) ((q_Mo_open (u_Mo_isWrong z 1)) + 1)) ((q_Mo_spot (u_Mo_open (u_Mo_isWrong z 1) ((q_Mo_open (u_Mo_isWrong z 1)) + 1))) + 1))) H := hP
                have hD : va_D A (ws_Mo g a (u_Mo_spot (u_Mo_open (u_Mo_isWrong z 1) ((q_Mo_open (u_Mo_isWrong z 1)) + 1)) ((q_Mo_spot (u_Mo_open (u_Mo_isWrong z 1) ((q_Mo_open (u_Mo_isWrong z 1)) + 1))) + 1))) := hD
                refine lv_iload_n hx hb d_Mo_factor_73 rfl (lv_at hl 0 rfl) ?_
                refine lv_bipush (v := 33) hx hb d_Mo_factor_74 (by decide) ?_
                refine lv_icmp_ne (tgt := 91) hx hb d_Mo_factor_76 (by decide) (fun h_121 => ?_) (fun h_121 => ?_)
                · have hd := ite_f hd h_121
                  refine lv_aload_n hx hb d_Mo_factor_91 rfl (lv_at hl 1 rfl) ?_
                  obtain ⟨v_122, e_123, hd⟩ := bind_s hd
                  refine callVV (ws' := ws_Mo g a v_122) (rest := []) (As := []) hx hb hml hown hg hK hP hD hS hA hCs hl.1 (ih.2.2 l D g a (u_Mo_spot (u_Mo_open (u_Mo_isWrong z 1) ((q_Mo_open (u_Mo_isWrong z 1)) + 1)) ((q_Mo_spot (u_Mo_open (u_Mo_isWrong z 1) ((q_Mo_open (u_Mo_isWrong z 1)) + 1))) + 1)) _ e_123) o_Mo_some g_1114 (ci := 1) (q0 := 0) rfl rfl (List.range' 0 12) (segC1 rfl rfl) (by decide) rfl (segP1 rfl rfl) rfl rfl (Nat.le_of_ble_eq_true rfl) ⟨rfl, rfl, by show _ ≤ _; (try dsimp only); omega, by show _ ≤ _; (try dsimp only); omega⟩ d_Mo_factor_92 (fun H locs hP hD hS => ?_)
                  refine lv_aload_n hx hb d_Mo_factor_95 rfl (lv_at hl 1 rfl) ?_
                  refine lv_bipush (v := 41) hx hb d_Mo_factor_96 (by decide) ?_
                  obtain ⟨v_124, e_125, hd⟩ := bind_s hd
                  refine callVV (ws' := ws_Mo g a v_124) (rest := []) (As := [.int 41]) hx hb hml hown hg hK hP hD hS hA hCs hl.1 (c_Mo_must l D g a 41 v_122 _ e_125) o_Mo_must g_1095 (ci := 1) (q0 := 0) rfl rfl (List.range' 0 12) (segC1 rfl rfl) (by decide) rfl (segP1 rfl rfl) rfl rfl (Nat.le_of_ble_eq_true rfl) ⟨rfl, rfl, by show _ ≤ _; (try dsimp only); omega, by show _ ≤ _; (try dsimp only); omega⟩ d_Mo_factor_98 (fun H locs hP hD hS => ?_)
                  refine lv_aload_n hx hb d_Mo_factor_101 rfl (lv_at hl 1 rfl) ?_
                  refine lv_dup hx hb d_Mo_factor_102 rfl ?_
                  refine va_get (D := D) (ci := 1) (v := .int (q_Mo_open v_124)) (C := R_Mo) (T := F_Mo) (N := 26) hx hb hg i_Mo hown hK hP 0 rfl rfl 9 (by decide) (hg _ g_1001) (fun _ h9 => h9) rfl d_Mo_factor_103 ?_
                  refine lv_iconst (v := 1) hx hb d_Mo_factor_106 (by decide) ?_
                  refine lv_isub hx hb d_Mo_factor_107 ?_
                  refine va_put (D := D) (ci := 1) (v := .int ((q_Mo_open v_124) - 1)) (ty := .int) (C := R_Mo) (T := F_Mo) (N := 26) hx hb hg i_Mo t_Mo t_Mo_ok n_Mo hown hK hP hD hS 0 rfl rfl 9 (by decide) (hg _ g_1001) (fun _ h9 => h9) rfl (by decide +kernel) rfl rfl (Nat.le_of_ble_eq_true rfl) d_Mo_factor_108 (fun H locs hP hD hS => ?_)
                  have hP : va_P D classes (ws_Mo g a (u_Mo_open v_124 ((q_Mo_open v_124) - 1))) H := hP
                  have hD : va_D A (ws_Mo g a (u_Mo_open v_124 ((q_Mo_open v_124) - 1))) := hD
                  obtain rfl := Option.some.inj hd
                  exact retV hx hb hr hlk hK hP hD hS d_Mo_factor_111
                · have hd := ite_t hd h_121
                  refine lv_aload_n hx hb d_Mo_factor_79 rfl (lv_at hl 1 rfl) ?_
                  obtain ⟨v_126, e_127, hd⟩ := bind_s hd
                  refine callVV (ws' := ws_Mo g a v_126) (rest := []) (As := []) hx hb hml hown hg hK hP hD hS hA hCs hl.1 (ih.2.1 l D g a (u_Mo_spot (u_Mo_open (u_Mo_isWrong z 1) ((q_Mo_open (u_Mo_isWrong z 1)) + 1)) ((q_Mo_spot (u_Mo_open (u_Mo_isWrong z 1) ((q_Mo_open (u_Mo_isWrong z 1)) + 1))) + 1)) _ e_127) o_Mo_factor g_1122 (ci := 1) (q0 := 0) rfl rfl (List.range' 0 12) (segC1 rfl rfl) (by decide) rfl (segP1 rfl rfl) rfl rfl (Nat.le_of_ble_eq_true rfl) ⟨rfl, rfl, by show _ ≤ _; (try dsimp only); omega, by show _ ≤ _; (try dsimp only); omega⟩ d_Mo_factor_80 (fun H locs hP hD hS => ?_)
                  refine lv_aload_n hx hb d_Mo_factor_83 rfl (lv_at hl 1 rfl) ?_
                  refine lv_iconst (v := (-1)) hx hb d_Mo_factor_84 (by decide) ?_
                  obtain ⟨v_128, e_129, hd⟩ := bind_s hd
                  refine callVV (ws' := ws_Mo g a v_128) (rest := []) (As := [.int (-1)]) hx hb hml hown hg hK hP hD hS hA hCs hl.1 (c_Mo_emits l D g a (-1) v_126 _ e_129) o_Mo_emits g_1126 (ci := 1) (q0 := 0) rfl rfl (List.range' 0 12) (segC1 rfl rfl) (by decide) rfl (segP1 rfl rfl) rfl rfl (Nat.le_of_ble_eq_true rfl) ⟨rfl, rfl, by show _ ≤ _; (try dsimp only); omega, by show _ ≤ _; (try dsimp only); omega⟩ d_Mo_factor_85 (fun H locs hP hD hS => ?_)
                  refine lv_goto (tgt := 101) hx hb d_Mo_factor_88 (by decide) ?_
                  refine lv_aload_n hx hb d_Mo_factor_101 rfl (lv_at hl 1 rfl) ?_
                  refine lv_dup hx hb d_Mo_factor_102 rfl ?_
                  refine va_get (D := D) (ci := 1) (v := .int (q_Mo_open v_128)) (C := R_Mo) (T := F_Mo) (N := 26) hx hb hg i_Mo hown hK hP 0 rfl rfl 9 (by decide) (hg _ g_1001) (fun _ h9 => h9) rfl d_Mo_factor_103 ?_
                  refine lv_iconst (v := 1) hx hb d_Mo_factor_106 (by decide) ?_
                  refine lv_isub hx hb d_Mo_factor_107 ?_
                  refine va_put (D := D) (ci := 1) (v := .int ((q_Mo_open v_128) - 1)) (ty := .int) (C := R_Mo) (T := F_Mo) (N := 26) hx hb hg i_Mo t_Mo t_Mo_ok n_Mo hown hK hP hD hS 0 rfl rfl 9 (by decide) (hg _ g_1001) (fun _ h9 => h9) rfl (by decide +kernel) rfl rfl (Nat.le_of_ble_eq_true rfl) d_Mo_factor_108 (fun H locs hP hD hS => ?_)
                  have hP : va_P D classes (ws_Mo g a (u_Mo_open v_128 ((q_Mo_open v_128) - 1))) H := hP
                  have hD : va_D A (ws_Mo g a (u_Mo_open v_128 ((q_Mo_open v_128) - 1))) := hD
                  obtain rfl := Option.some.inj hd
                  exact retV hx hb hr hlk hK hP hD hS d_Mo_factor_111
              · have hd := ite_f hd h_120
                refine lv_iconst (v := 0) hx hb d_Mo_factor_64 (by decide) ?_
                refine lv_goto (tgt := 69) hx hb d_Mo_factor_65 (by decide) ?_
                refine lv_iadd hx hb d_Mo_factor_69 ?_
                refine va_put (D := D) (ci := 1) (v := .int ((q_Mo_spot (u_Mo_open (u_Mo_isWrong z 1) ((q_Mo_open (u_Mo_isWrong z 1)) + 1))) + 0)) (ty := .int) (C := R_Mo) (T := F_Mo) (N := 26) hx hb hg i_Mo t_Mo t_Mo_ok n_Mo hown hK hP hD hS 0 rfl rfl 6 (by decide) (hg _ g_998) (fun _ h9 => h9) rfl (by decide +kernel) rfl rfl (Nat.le_of_ble_eq_true rfl) d_Mo_factor_70 (fun H locs hP hD hS => ?_)
                have hP : va_P D classes (ws_Mo g a (u_Mo_spot (u_Mo_open (u_Mo_isWrong z 1) ((q_Mo_open (u_Mo_isWrong z 1)) + 1)) ((q_Mo_spot (u_Mo_open (u_Mo_isWrong z 1) ((q_Mo_open (u_Mo_isWrong z 1)) + 1))) + 0))) H := hP
                have hD : va_D A (ws_Mo g a (u_Mo_spot (u_Mo_open (u_Mo_isWrong z 1) ((q_Mo_open (u_Mo_isWrong z 1)) + 1)) ((q_Mo_spot (u_Mo_open (u_Mo_isWrong z 1) ((q_Mo_open (u_Mo_isWrong z 1)) + 1))) + 0))) := hD
                refine lv_iload_n hx hb d_Mo_factor_73 rfl (lv_at hl 0 rfl) ?_
                refine lv_bipush (v := 33) hx hb d_Mo_factor_74 (by decide) ?_
                refine lv_icmp_ne (tgt := 91) hx hb d_Mo_factor_76 (by decide) (fun h_130 => ?_) (fun h_130 => ?_)
                · have hd := ite_f hd h_130
                  refine lv_aload_n hx hb d_Mo_factor_91 rfl (lv_at hl 1 rfl) ?_
                  obtain ⟨v_131, e_132, hd⟩ := bind_s hd
                  refine callVV (ws' := ws_Mo g a v_131) (rest := []) (As := []) hx hb hml hown hg hK hP hD hS hA hCs hl.1 (ih.2.2 l D g a (u_Mo_spot (u_Mo_open (u_Mo_isWrong z 1) ((q_Mo_open (u_Mo_isWrong z 1)) + 1)) ((q_Mo_spot (u_Mo_open (u_Mo_isWrong z 1) ((q_Mo_open (u_Mo_isWrong z 1)) + 1))) + 0)) _ e_132) o_Mo_some g_1114 (ci := 1) (q0 := 0) rfl rfl (List.range' 0 12) (segC1 rfl rfl) (by decide) rfl (segP1 rfl rfl) rfl rfl (Nat.le_of_ble_eq_true rfl) ⟨rfl, rfl, by show _ ≤ _; (try dsimp only); omega, by show _ ≤ _; (try dsimp only); omega⟩ d_Mo_factor_92 (fun H locs hP hD hS => ?_)
                  refine lv_aload_n hx hb d_Mo_factor_95 rfl (lv_at hl 1 rfl) ?_
                  refine lv_bipush (v := 41) hx hb d_Mo_factor_96 (by decide) ?_
                  obtain ⟨v_133, e_134, hd⟩ := bind_s hd
                  refine callVV (ws' := ws_Mo g a v_133) (rest := []) (As := [.int 41]) hx hb hml hown hg hK hP hD hS hA hCs hl.1 (c_Mo_must l D g a 41 v_131 _ e_134) o_Mo_must g_1095 (ci := 1) (q0 := 0) rfl rfl (List.range' 0 12) (segC1 rfl rfl) (by decide) rfl (segP1 rfl rfl) rfl rfl (Nat.le_of_ble_eq_true rfl) ⟨rfl, rfl, by show _ ≤ _; (try dsimp only); omega, by show _ ≤ _; (try dsimp only); omega⟩ d_Mo_factor_98 (fun H locs hP hD hS => ?_)
                  refine lv_aload_n hx hb d_Mo_factor_101 rfl (lv_at hl 1 rfl) ?_
                  refine lv_dup hx hb d_Mo_factor_102 rfl ?_
                  refine va_get (D := D) (ci := 1) (v := .int (q_Mo_open v_133)) (C := R_Mo) (T := F_Mo) (N := 26) hx hb hg i_Mo hown hK hP 0 rfl rfl 9 (by decide) (hg _ g_1001) (fun _ h9 => h9) rfl d_Mo_factor_103 ?_
                  refine lv_iconst (v := 1) hx hb d_Mo_factor_106 (by decide) ?_
                  refine lv_isub hx hb d_Mo_factor_107 ?_
                  refine va_put (D := D) (ci := 1) (v := .int ((q_Mo_open v_133) - 1)) (ty := .int) (C := R_Mo) (T := F_Mo) (N := 26) hx hb hg i_Mo t_Mo t_Mo_ok n_Mo hown hK hP hD hS 0 rfl rfl 9 (by decide) (hg _ g_1001) (fun _ h9 => h9) rfl (by decide +kernel) rfl rfl (Nat.le_of_ble_eq_true rfl) d_Mo_factor_108 (fun H locs hP hD hS => ?_)
                  have hP : va_P D classes (ws_Mo g a (u_Mo_open v_133 ((q_Mo_open v_133) - 1))) H := hP
                  have hD : va_D A (ws_Mo g a (u_Mo_open v_133 ((q_Mo_open v_133) - 1))) := hD
                  obtain rfl := Option.some.inj hd
                  exact retV hx hb hr hlk hK hP hD hS d_Mo_factor_111
                · have hd := ite_t hd h_130
                  refine lv_aload_n hx hb d_Mo_factor_79 rfl (lv_at hl 1 rfl) ?_
                  obtain ⟨v_135, e_136, hd⟩ := bind_s hd
                  refine callVV (ws' := ws_Mo g a v_135) (rest := []) (As := []) hx hb hml hown hg hK hP hD hS hA hCs hl.1 (ih.2.1 l D g a (u_Mo_spot (u_Mo_open (u_Mo_isWrong z 1) ((q_Mo_open (u_Mo_isWrong z 1)) + 1)) ((q_Mo_spot (u_Mo_open (u_Mo_isWrong z 1) ((q_Mo_open (u_Mo_isWrong z 1)) + 1))) + 0)) _ e_136) o_Mo_factor g_1122 (ci := 1) (q0 := 0) rfl rfl (List.range' 0 12) (segC1 rfl rfl) (by decide) rfl (segP1 rfl rfl) rfl rfl (Nat.le_of_ble_eq_true rfl) ⟨rfl, rfl, by show _ ≤ _; (try dsimp only); omega, by show _ ≤ _; (try dsimp only); omega⟩ d_Mo_factor_80 (fun H locs hP hD hS => ?_)
                  refine lv_aload_n hx hb d_Mo_factor_83 rfl (lv_at hl 1 rfl) ?_
                  refine lv_iconst (v := (-1)) hx hb d_Mo_factor_84 (by decide) ?_
                  obtain ⟨v_137, e_138, hd⟩ := bind_s hd
                  refine callVV (ws' := ws_Mo g a v_137) (rest := []) (As := [.int (-1)]) hx hb hml hown hg hK hP hD hS hA hCs hl.1 (c_Mo_emits l D g a (-1) v_135 _ e_138) o_Mo_emits g_1126 (ci := 1) (q0 := 0) rfl rfl (List.range' 0 12) (segC1 rfl rfl) (by decide) rfl (segP1 rfl rfl) rfl rfl (Nat.le_of_ble_eq_true rfl) ⟨rfl, rfl, by show _ ≤ _; (try dsimp only); omega, by show _ ≤ _; (try dsimp only); omega⟩ d_Mo_factor_85 (fun H locs hP hD hS => ?_)
                  refine lv_goto (tgt := 101) hx hb d_Mo_factor_88 (by decide) ?_
                  refine lv_aload_n hx hb d_Mo_factor_101 rfl (lv_at hl 1 rfl) ?_
                  refine lv_dup hx hb d_Mo_factor_102 rfl ?_
                  refine va_get (D := D) (ci := 1) (v := .int (q_Mo_open v_137)) (C := R_Mo) (T := F_Mo) (N := 26) hx hb hg i_Mo hown hK hP 0 rfl rfl 9 (by decide) (hg _ g_1001) (fun _ h9 => h9) rfl d_Mo_factor_103 ?_
                  refine lv_iconst (v := 1) hx hb d_Mo_factor_106 (by decide) ?_
                  refine lv_isub hx hb d_Mo_factor_107 ?_
                  refine va_put (D := D) (ci := 1) (v := .int ((q_Mo_open v_137) - 1)) (ty := .int) (C := R_Mo) (T := F_Mo) (N := 26) hx hb hg i_Mo t_Mo t_Mo_ok n_Mo hown hK hP hD hS 0 rfl rfl 9 (by decide) (hg _ g_1001) (fun _ h9 => h9) rfl (by decide +kernel) rfl rfl (Nat.le_of_ble_eq_true rfl) d_Mo_factor_108 (fun H locs hP hD hS => ?_)
                  have hP : va_P D classes (ws_Mo g a (u_Mo_open v_137 ((q_Mo_open v_137) - 1))) H := hP
                  have hD : va_D A (ws_Mo g a (u_Mo_open v_137 ((q_Mo_open v_137) - 1))) := hD
                  obtain rfl := Option.some.inj hd
                  exact retV hx hb hr hlk hK hP hD hS d_Mo_factor_111
      · have hd := ite_f hd h_1
        obtain rfl := Option.some.inj hd
        exact retV hx hb hr hlk hK hP hD hS d_Mo_factor_7
    · intro l D g a z v h
      have hd : B_Mo_some (d_G_Mo_every nr) z = some v := h
      have ihc := ih
      generalize hrc : (d_G_Mo_every nr) = rc at hd
      have ih : (∀ (l : Launch) (D : va_G) (g : Nat → ClassId) (a : Nat → Nat) (z : T_Mo) (v : T_Mo) (h : rc.1 z = some v), MV l y_Mo_every b_Mo_every 1 ({ frames := 6 + 2 * nr, cells := 0, slots := 0, locals := 108 + 60 * nr } : Room) D g [.ref (a 0)] (ws_Mo g a z) (ws_Mo g a v)) ∧ (∀ (l : Launch) (D : va_G) (g : Nat → ClassId) (a : Nat → Nat) (z : T_Mo) (v : T_Mo) (h : rc.2.1 z = some v), MV l y_Mo_factor b_Mo_factor 5 ({ frames := 6 + 2 * nr, cells := 0, slots := 0, locals := 108 + 60 * nr } : Room) D g [.ref (a 0)] (ws_Mo g a z) (ws_Mo g a v)) ∧ (∀ (l : Launch) (D : va_G) (g : Nat → ClassId) (a : Nat → Nat) (z : T_Mo) (v : T_Mo) (h : rc.2.2 z = some v), MV l y_Mo_some b_Mo_some 1 ({ frames := 6 + 2 * nr, cells := 0, slots := 0, locals := 108 + 60 * nr } : Room) D g [.ref (a 0)] (ws_Mo g a z) (ws_Mo g a v)) := ⟨fun l D g a z v h => ih.1 l D g a z v (by unfold d_Mo_every; rw [hrc]; exact h), fun l D g a z v h => ih.2.1 l D g a z v (by unfold d_Mo_factor; rw [hrc]; exact h), fun l D g a z v h => ih.2.2 l D g a z v (by unfold d_Mo_some; rw [hrc]; exact h)⟩
      clear ihc hrc
      unfold B_Mo_some at hd
      refine enterV rfl (Nat.le_of_ble_eq_true rfl) (fun p e s m below meth c A ls hx hb hml hr hown hg hlk hK hA hP hD hS hCs hl => ?_)
      have hown : s.vm.findClass "OwnsLiftModel" = some m.cls := hown
      have hl : lv_has ls 1 [(0, .ref (a 0))] := hl
      show GV p l e s m ({ frames := 6 + 2 * (nr + 1), cells := 0, slots := 0, locals := 108 + 60 * (nr + 1) } : Room) ([.ref (a 0)] : List Value).toArray below meth c A D g (ws_Mo g a v) s.heap [] (F0 m 0 ls [])
      refine lv_aload_n hx hb d_Mo_some_0 rfl (lv_at hl 0 rfl) ?_
      obtain ⟨v_1, e_2, hd⟩ := bind_s hd
      refine callVV (ws' := ws_Mo g a v_1) (rest := []) (As := []) hx hb hml hown hg hK hP hD hS hA hCs hl.1 (ih.1 l D g a z _ e_2) o_Mo_every g_1118 (ci := 1) (q0 := 0) rfl rfl (List.range' 0 12) (segC1 rfl rfl) (by decide) rfl (segP1 rfl rfl) rfl rfl (Nat.le_of_ble_eq_true rfl) ⟨rfl, rfl, by show _ ≤ _; (try dsimp only); omega, by show _ ≤ _; (try dsimp only); omega⟩ d_Mo_some_1 (fun H locs hP hD hS => ?_)
      have lp4 : ∀ (n : Nat) (z_4 : T_Mo) (H : Heap) (locs : List Loc) (ls : Array Slot), va_P D classes (ws_Mo g a z_4) H → va_D A (ws_Mo g a z_4) → va_S A s.heap H locs → lv_has ls 1 [(0, .ref (a 0))] → d_Mo_some_L4 rc n z_4 = some v → GV p l e s m ({ frames := 6 + 2 * (nr + 1), cells := 0, slots := 0, locals := 108 + 60 * (nr + 1) } : Room) ([.ref (a 0)] : List Value).toArray below meth c A D g (ws_Mo g a v) H locs (F0 m 4 ls []) := by
        intro n
        induction n with
        | zero =>
          intro  z_4 H locs ls hP hD hS hl hd
          have hd : none = some v := hd
          cases hd
        | succ n ih4 =>
          intro  z_4 H locs ls hP hD hS hl hd
          have hd : B_Mo_some_L4 rc (d_Mo_some_L4 rc n) z_4 = some v := hd
          generalize d_Mo_some_L4 rc n = self4 at ih4 hd
          unfold B_Mo_some_L4 at hd
          refine lv_aload_n hx hb d_Mo_some_4 rfl (lv_at hl 0 rfl) ?_
          refine va_get (D := D) (ci := 1) (v := .int (q_Mo_isWrong z_4)) (C := R_Mo) (T := F_Mo) (N := 26) hx hb hg i_Mo hown hK hP 0 rfl rfl 8 (by decide) (hg _ g_1000) (fun _ h9 => h9) rfl d_Mo_some_5 ?_
          refine lv_if_ne (tgt := 43) hx hb d_Mo_some_8 (by decide) (fun h_3 => ?_) (fun h_3 => ?_)
          · have hd := ite_f hd h_3
            obtain rfl := Option.some.inj hd
            exact retV hx hb hr hlk hK hP hD hS d_Mo_some_43
          · have hd := ite_t hd h_3
            refine lv_aload_n hx hb d_Mo_some_11 rfl (lv_at hl 0 rfl) ?_
            obtain ⟨v_4, e_5, hd⟩ := bind_s hd
            refine callVI (ws' := ws_Mo g a z_4) (rest := []) (As := []) hx hb hml hown hg hK hP hD hS hA hCs hl.1 (c_Mo_here l D g a z_4 _ e_5) o_Mo_here g_1087 (ci := 1) (q0 := 0) rfl rfl (List.range' 0 12) (segC1 rfl rfl) (by decide) rfl (segP1 rfl rfl) rfl rfl (Nat.le_of_ble_eq_true rfl) ⟨rfl, rfl, by show _ ≤ _; (try dsimp only); omega, by show _ ≤ _; (try dsimp only); omega⟩ d_Mo_some_12 (fun H locs hP hD hS => ?_)
            refine lv_bipush (v := 124) hx hb d_Mo_some_15 (by decide) ?_
            refine lv_icmp_ne (tgt := 43) hx hb d_Mo_some_17 (by decide) (fun h_6 => ?_) (fun h_6 => ?_)
            · have hd := ite_f hd h_6
              obtain rfl := Option.some.inj hd
              exact retV hx hb hr hlk hK hP hD hS d_Mo_some_43
            · have hd := ite_t hd h_6
              refine lv_aload_n hx hb d_Mo_some_20 rfl (lv_at hl 0 rfl) ?_
              refine lv_dup hx hb d_Mo_some_21 rfl ?_
              refine va_get (D := D) (ci := 1) (v := .int (q_Mo_spot z_4)) (C := R_Mo) (T := F_Mo) (N := 26) hx hb hg i_Mo hown hK hP 0 rfl rfl 6 (by decide) (hg _ g_998) (fun _ h9 => h9) rfl d_Mo_some_22 ?_
              refine lv_iconst (v := 1) hx hb d_Mo_some_25 (by decide) ?_
              refine lv_iadd hx hb d_Mo_some_26 ?_
              refine va_put (D := D) (ci := 1) (v := .int ((q_Mo_spot z_4) + 1)) (ty := .int) (C := R_Mo) (T := F_Mo) (N := 26) hx hb hg i_Mo t_Mo t_Mo_ok n_Mo hown hK hP hD hS 0 rfl rfl 6 (by decide) (hg _ g_998) (fun _ h9 => h9) rfl (by decide +kernel) rfl rfl (Nat.le_of_ble_eq_true rfl) d_Mo_some_27 (fun H locs hP hD hS => ?_)
              have hP : va_P D classes (ws_Mo g a (u_Mo_spot z_4 ((q_Mo_spot z_4) + 1))) H := hP
              have hD : va_D A (ws_Mo g a (u_Mo_spot z_4 ((q_Mo_spot z_4) + 1))) := hD
              refine lv_aload_n hx hb d_Mo_some_30 rfl (lv_at hl 0 rfl) ?_
              obtain ⟨v_7, e_8, hd⟩ := bind_s hd
              refine callVV (ws' := ws_Mo g a v_7) (rest := []) (As := []) hx hb hml hown hg hK hP hD hS hA hCs hl.1 (ih.1 l D g a (u_Mo_spot z_4 ((q_Mo_spot z_4) + 1)) _ e_8) o_Mo_every g_1118 (ci := 1) (q0 := 0) rfl rfl (List.range' 0 12) (segC1 rfl rfl) (by decide) rfl (segP1 rfl rfl) rfl rfl (Nat.le_of_ble_eq_true rfl) ⟨rfl, rfl, by show _ ≤ _; (try dsimp only); omega, by show _ ≤ _; (try dsimp only); omega⟩ d_Mo_some_31 (fun H locs hP hD hS => ?_)
              refine lv_aload_n hx hb d_Mo_some_34 rfl (lv_at hl 0 rfl) ?_
              refine lv_bipush (v := (-3)) hx hb d_Mo_some_35 (by decide) ?_
              obtain ⟨v_9, e_10, hd⟩ := bind_s hd
              refine callVV (ws' := ws_Mo g a v_9) (rest := []) (As := [.int (-3)]) hx hb hml hown hg hK hP hD hS hA hCs hl.1 (c_Mo_emits l D g a (-3) v_7 _ e_10) o_Mo_emits g_1126 (ci := 1) (q0 := 0) rfl rfl (List.range' 0 12) (segC1 rfl rfl) (by decide) rfl (segP1 rfl rfl) rfl rfl (Nat.le_of_ble_eq_true rfl) ⟨rfl, rfl, by show _ ≤ _; (try dsimp only); omega, by show _ ≤ _; (try dsimp only); omega⟩ d_Mo_some_37 (fun H locs hP hD hS => ?_)
              refine lv_goto (tgt := 4) hx hb d_Mo_some_40 (by decide) ?_
              exact ih4 v_9 _ _ _ hP hD hS (lv_sub hl [0] rfl) hd
      exact lp4 1000 v_1 _ _ _ hP hD hS (lv_sub hl [0] rfl) hd
theorem c_Mo_every (n : Nat) (l : Launch) (D : va_G) (g : Nat → ClassId) (a : Nat → Nat) (z : T_Mo) (v : T_Mo) (h : d_Mo_every n z = some v) :
    MV l y_Mo_every b_Mo_every 1 ({ frames := 6 + 2 * n, cells := 0, slots := 0, locals := 108 + 60 * n } : Room) D g [.ref (a 0)] (ws_Mo g a z) (ws_Mo g a v) := (cg_Mo_every n).1 l D g a z v h
theorem c_Mo_factor (n : Nat) (l : Launch) (D : va_G) (g : Nat → ClassId) (a : Nat → Nat) (z : T_Mo) (v : T_Mo) (h : d_Mo_factor n z = some v) :
    MV l y_Mo_factor b_Mo_factor 5 ({ frames := 6 + 2 * n, cells := 0, slots := 0, locals := 108 + 60 * n } : Room) D g [.ref (a 0)] (ws_Mo g a z) (ws_Mo g a v) := (cg_Mo_every n).2.1 l D g a z v h
theorem c_Mo_some (n : Nat) (l : Launch) (D : va_G) (g : Nat → ClassId) (a : Nat → Nat) (z : T_Mo) (v : T_Mo) (h : d_Mo_some n z = some v) :
    MV l y_Mo_some b_Mo_some 1 ({ frames := 6 + 2 * n, cells := 0, slots := 0, locals := 108 + 60 * n } : Room) D g [.ref (a 0)] (ws_Mo g a z) (ws_Mo g a v) := (cg_Mo_every n).2.2 l D g a z v h

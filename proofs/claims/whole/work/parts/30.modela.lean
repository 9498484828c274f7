-- OwnsLiftModel.in(III)Z
def d_Mo_in (x0 : Int32) (x1 : Int32) (x2 : Int32) : Option (Int32) :=
  if x0 < x1 then (some (0)) else (if x2 < x0 then (some (0)) else (some (1)))
theorem nz_Mo_in {x0 : Int32} {x1 : Int32} {x2 : Int32} {v : Int32} (h : d_Mo_in x0 x1 x2 = some v) : narrow .boolean (.int v) = .int v := by
  unfold d_Mo_in at h
  (repeat' split at h) <;> first | (cases h; done) | (obtain rfl := Option.some.inj h; rfl)
theorem d_Mo_in_0 : decode b_Mo_in 0 = .ok (.iload_n 0, 1) := by decide +kernel
theorem d_Mo_in_1 : decode b_Mo_in 1 = .ok (.iload_n 1, 1) := by decide +kernel
theorem d_Mo_in_2 : decode b_Mo_in 2 = .ok (.if_icmp .lt 12, 3) := by decide +kernel
theorem d_Mo_in_5 : decode b_Mo_in 5 = .ok (.iload_n 0, 1) := by decide +kernel
theorem d_Mo_in_6 : decode b_Mo_in 6 = .ok (.iload_n 2, 1) := by decide +kernel
theorem d_Mo_in_7 : decode b_Mo_in 7 = .ok (.if_icmp .gt 7, 3) := by decide +kernel
theorem d_Mo_in_10 : decode b_Mo_in 10 = .ok (.iconst 1, 1) := by decide +kernel
theorem d_Mo_in_11 : decode b_Mo_in 11 = .ok (.goto 4, 3) := by decide +kernel
theorem d_Mo_in_14 : decode b_Mo_in 14 = .ok (.iconst 0, 1) := by decide +kernel
theorem d_Mo_in_15 : decode b_Mo_in 15 = .ok (.ireturn, 1) := by decide +kernel
theorem o_Mo_in : OkS y_Mo_in b_Mo_in 3 (some .boolean) 3 := ⟨⟨by decide +kernel, by decide +kernel, by decide +kernel⟩, g_1077, g_81, g_1078⟩
set_option maxHeartbeats 4000000 in
set_option maxRecDepth 100000 in
theorem c_Mo_in (l : Launch) (D : va_G) (g : Nat → ClassId) (x0 : Int32) (x1 : Int32) (x2 : Int32) (v : Int32) (h : d_Mo_in x0 x1 x2 = some v) :
    MI l y_Mo_in b_Mo_in 3 .boolean ({ frames := 0, cells := 0, slots := 0, locals := 0 } : Room) D g [.int x0, .int x1, .int x2] (([] : va_W)) (v) (([] : va_W)) := by
  have hd := h
  unfold d_Mo_in at hd
  refine enterI rfl (Nat.le_of_ble_eq_true rfl) (fun p e s m below meth c A ls hx hb hml hr hown hg hlk hK hA hP hD hS hCs hl => ?_)
  have hown : s.vm.findClass "OwnsLiftModel" = some m.cls := hown
  have hl : lv_has ls 3 [(0, .int x0), (1, .int x1), (2, .int x2)] := hl
  show GI p l e s m ({ frames := 0, cells := 0, slots := 0, locals := 0 } : Room) ([.int x0, .int x1, .int x2] : List Value).toArray below meth c A D g (([] : va_W)) (v) s.heap [] (F0 m 0 ls [])
  refine lv_iload_n hx hb d_Mo_in_0 rfl (lv_at hl 0 rfl) ?_
  refine lv_iload_n hx hb d_Mo_in_1 rfl (lv_at hl 1 rfl) ?_
  refine lv_icmp_lt (tgt := 14) hx hb d_Mo_in_2 (by decide) (fun h_1 => ?_) (fun h_1 => ?_)
  · have hd := ite_t hd h_1
    refine lv_iconst (v := 0) hx hb d_Mo_in_14 (by decide) ?_
    obtain rfl := Option.some.inj hd
    exact retZ hx hb hr hlk hK hP hD hS d_Mo_in_15 rfl (by decide +kernel)
  · have hd := ite_f hd h_1
    refine lv_iload_n hx hb d_Mo_in_5 rfl (lv_at hl 0 rfl) ?_
    refine lv_iload_n hx hb d_Mo_in_6 rfl (lv_at hl 2 rfl) ?_
    refine lv_icmp_gt (tgt := 14) hx hb d_Mo_in_7 (by decide) (fun h_2 => ?_) (fun h_2 => ?_)
    · have hd := ite_t hd h_2
      refine lv_iconst (v := 0) hx hb d_Mo_in_14 (by decide) ?_
      obtain rfl := Option.some.inj hd
      exact retZ hx hb hr hlk hK hP hD hS d_Mo_in_15 rfl (by decide +kernel)
    · have hd := ite_f hd h_2
      refine lv_iconst (v := 1) hx hb d_Mo_in_10 (by decide) ?_
      refine lv_goto (tgt := 15) hx hb d_Mo_in_11 (by decide) ?_
      obtain rfl := Option.some.inj hd
      exact retZ hx hb hr hlk hK hP hD hS d_Mo_in_15 rfl (by decide +kernel)
-- OwnsLiftModel.isPerson(I)Z
def d_Mo_isPerson (x1 : Int32) (z : T_Mo) : Option (Int32) :=
  (d_Mo_in x1 0 (((q_Mo_s z) 0) - 1)).bind fun v_1 => some (v_1)
theorem d_Mo_isPerson_0 : decode b_Mo_isPerson 0 = .ok (.iload_n 1, 1) := by decide +kernel
theorem d_Mo_isPerson_1 : decode b_Mo_isPerson 1 = .ok (.iconst 0, 1) := by decide +kernel
theorem d_Mo_isPerson_2 : decode b_Mo_isPerson 2 = .ok (.aload_n 0, 1) := by decide +kernel
theorem d_Mo_isPerson_3 : decode b_Mo_isPerson 3 = .ok (.getfield 9, 3) := by decide +kernel
theorem d_Mo_isPerson_6 : decode b_Mo_isPerson 6 = .ok (.iconst 0, 1) := by decide +kernel
theorem d_Mo_isPerson_7 : decode b_Mo_isPerson 7 = .ok (.iaload, 1) := by decide +kernel
theorem d_Mo_isPerson_8 : decode b_Mo_isPerson 8 = .ok (.iconst 1, 1) := by decide +kernel
theorem d_Mo_isPerson_9 : decode b_Mo_isPerson 9 = .ok (.isub, 1) := by decide +kernel
theorem d_Mo_isPerson_10 : decode b_Mo_isPerson 10 = .ok (.invokestatic 50, 3) := by decide +kernel
theorem d_Mo_isPerson_13 : decode b_Mo_isPerson 13 = .ok (.ireturn, 1) := by decide +kernel
theorem o_Mo_isPerson : OkV y_Mo_isPerson "OwnsLiftModel" b_Mo_isPerson 2 (some .boolean) 1 := ⟨⟨rfl, by decide +kernel, by decide +kernel, by decide +kernel⟩, g_1149, g_38, g_81, g_1150⟩
set_option maxHeartbeats 4000000 in
set_option maxRecDepth 100000 in
theorem c_Mo_isPerson (l : Launch) (D : va_G) (g : Nat → ClassId) (a : Nat → Nat) (x1 : Int32) (z : T_Mo) (v : Int32) (h : d_Mo_isPerson x1 z = some v) :
    MI l y_Mo_isPerson b_Mo_isPerson 2 .boolean ({ frames := 1, cells := 0, slots := 0, locals := 22 } : Room) D g [.ref (a 0), .int x1] (ws_Mo g a z) (v) (ws_Mo g a z) := by
  have hd := h
  unfold d_Mo_isPerson at hd
  refine enterI rfl (Nat.le_of_ble_eq_true rfl) (fun p e s m below meth c A ls hx hb hml hr hown hg hlk hK hA hP hD hS hCs hl => ?_)
  have hown : s.vm.findClass "OwnsLiftModel" = some m.cls := hown
  have hl : lv_has ls 2 [(0, .ref (a 0)), (1, .int x1)] := hl
  show GI p l e s m ({ frames := 1, cells := 0, slots := 0, locals := 22 } : Room) ([.ref (a 0), .int x1] : List Value).toArray below meth c A D g (ws_Mo g a z) (v) s.heap [] (F0 m 0 ls [])
  refine lv_iload_n hx hb d_Mo_isPerson_0 rfl (lv_at hl 1 rfl) ?_
  refine lv_iconst (v := 0) hx hb d_Mo_isPerson_1 (by decide) ?_
  refine lv_aload_n hx hb d_Mo_isPerson_2 rfl (lv_at hl 0 rfl) ?_
  refine va_get (D := D) (ci := 1) (v := .ref (a 1)) (C := R_Mo) (T := F_Mo) (N := 26) hx hb hg i_Mo hown hK hP 0 rfl rfl 1 (by decide) (hg _ g_993) (fun _ h9 => h9) rfl d_Mo_isPerson_3 ?_
  refine lv_iconst (v := 0) hx hb d_Mo_isPerson_6 (by decide) ?_
  refine ialdK hx hb hK hP 1 0 rfl rfl (inb_t (by decide +kernel)) (k := 0) (by decide +kernel) d_Mo_isPerson_7 ?_
  refine lv_iconst (v := 1) hx hb d_Mo_isPerson_8 (by decide) ?_
  refine lv_isub hx hb d_Mo_isPerson_9 ?_
  obtain ⟨v_1, e_2, hd⟩ := bind_s hd
  refine callSI (ws' := ws_Mo g a z) (rest := []) (As := [.int x1, .int 0, .int (((q_Mo_s z) 0) - 1)]) hx hb hml hown hg hK hP hD hS hA hCs hl.1 (c_Mo_in l D g  x1 0 (((q_Mo_s z) 0) - 1) _ e_2) o_Mo_in g_1076 [] segC0 rfl rfl segP0 rfl rfl (Nat.le_of_ble_eq_true rfl) ⟨rfl, rfl, Nat.le_of_ble_eq_true rfl, Nat.le_of_ble_eq_true rfl⟩ d_Mo_isPerson_10 (fun H locs hP hD hS => ?_)
  obtain rfl := Option.some.inj hd
  exact retZ hx hb hr hlk hK hP hD hS d_Mo_isPerson_13 rfl (nz_Mo_in e_2)
-- OwnsLiftModel.isThing(I)Z
def d_Mo_isThing (x1 : Int32) (z : T_Mo) : Option (Int32) :=
  (d_Mo_in x1 0 (((q_Mo_s z) 1) - 1)).bind fun v_1 => some (v_1)
theorem d_Mo_isThing_0 : decode b_Mo_isThing 0 = .ok (.iload_n 1, 1) := by decide +kernel
theorem d_Mo_isThing_1 : decode b_Mo_isThing 1 = .ok (.iconst 0, 1) := by decide +kernel
theorem d_Mo_isThing_2 : decode b_Mo_isThing 2 = .ok (.aload_n 0, 1) := by decide +kernel
theorem d_Mo_isThing_3 : decode b_Mo_isThing 3 = .ok (.getfield 9, 3) := by decide +kernel
theorem d_Mo_isThing_6 : decode b_Mo_isThing 6 = .ok (.iconst 1, 1) := by decide +kernel
theorem d_Mo_isThing_7 : decode b_Mo_isThing 7 = .ok (.iaload, 1) := by decide +kernel
theorem d_Mo_isThing_8 : decode b_Mo_isThing 8 = .ok (.iconst 1, 1) := by decide +kernel
theorem d_Mo_isThing_9 : decode b_Mo_isThing 9 = .ok (.isub, 1) := by decide +kernel
theorem d_Mo_isThing_10 : decode b_Mo_isThing 10 = .ok (.invokestatic 50, 3) := by decide +kernel
theorem d_Mo_isThing_13 : decode b_Mo_isThing 13 = .ok (.ireturn, 1) := by decide +kernel
theorem o_Mo_isThing : OkV y_Mo_isThing "OwnsLiftModel" b_Mo_isThing 2 (some .boolean) 1 := ⟨⟨rfl, by decide +kernel, by decide +kernel, by decide +kernel⟩, g_1185, g_45, g_81, g_1186⟩
set_option maxHeartbeats 4000000 in
set_option maxRecDepth 100000 in
theorem c_Mo_isThing (l : Launch) (D : va_G) (g : Nat → ClassId) (a : Nat → Nat) (x1 : Int32) (z : T_Mo) (v : Int32) (h : d_Mo_isThing x1 z = some v) :
    MI l y_Mo_isThing b_Mo_isThing 2 .boolean ({ frames := 1, cells := 0, slots := 0, locals := 22 } : Room) D g [.ref (a 0), .int x1] (ws_Mo g a z) (v) (ws_Mo g a z) := by
  have hd := h
  unfold d_Mo_isThing at hd
  refine enterI rfl (Nat.le_of_ble_eq_true rfl) (fun p e s m below meth c A ls hx hb hml hr hown hg hlk hK hA hP hD hS hCs hl => ?_)
  have hown : s.vm.findClass "OwnsLiftModel" = some m.cls := hown
  have hl : lv_has ls 2 [(0, .ref (a 0)), (1, .int x1)] := hl
  show GI p l e s m ({ frames := 1, cells := 0, slots := 0, locals := 22 } : Room) ([.ref (a 0), .int x1] : List Value).toArray below meth c A D g (ws_Mo g a z) (v) s.heap [] (F0 m 0 ls [])
  refine lv_iload_n hx hb d_Mo_isThing_0 rfl (lv_at hl 1 rfl) ?_
  refine lv_iconst (v := 0) hx hb d_Mo_isThing_1 (by decide) ?_
  refine lv_aload_n hx hb d_Mo_isThing_2 rfl (lv_at hl 0 rfl) ?_
  refine va_get (D := D) (ci := 1) (v := .ref (a 1)) (C := R_Mo) (T := F_Mo) (N := 26) hx hb hg i_Mo hown hK hP 0 rfl rfl 1 (by decide) (hg _ g_993) (fun _ h9 => h9) rfl d_Mo_isThing_3 ?_
  refine lv_iconst (v := 1) hx hb d_Mo_isThing_6 (by decide) ?_
  refine ialdK hx hb hK hP 1 0 rfl rfl (inb_t (by decide +kernel)) (k := 1) (by decide +kernel) d_Mo_isThing_7 ?_
  refine lv_iconst (v := 1) hx hb d_Mo_isThing_8 (by decide) ?_
  refine lv_isub hx hb d_Mo_isThing_9 ?_
  obtain ⟨v_1, e_2, hd⟩ := bind_s hd
  refine callSI (ws' := ws_Mo g a z) (rest := []) (As := [.int x1, .int 0, .int (((q_Mo_s z) 1) - 1)]) hx hb hml hown hg hK hP hD hS hA hCs hl.1 (c_Mo_in l D g  x1 0 (((q_Mo_s z) 1) - 1) _ e_2) o_Mo_in g_1076 [] segC0 rfl rfl segP0 rfl rfl (Nat.le_of_ble_eq_true rfl) ⟨rfl, rfl, Nat.le_of_ble_eq_true rfl, Nat.le_of_ble_eq_true rfl⟩ d_Mo_isThing_10 (fun H locs hP hD hS => ?_)
  obtain rfl := Option.some.inj hd
  exact retZ hx hb hr hlk hK hP hD hS d_Mo_isThing_13 rfl (nz_Mo_in e_2)
-- OwnsLiftModel.feed(I)I
def d_Mo_feed (x1 : Int32) (z : T_Mo) : Option (Int32 × T_Mo) :=
  (d_Mo_in x1 0 127).bind fun v_1 => if v_1 = 0 then (some ((-2), z)) else (if ((q_Mo_s z) 4) = 100 then (some ((-4), z)) else (if inb (96 + ((q_Mo_s z) 4)) 901 = true then (some ((q_Mo_s (u_Mo_s (u_Mo_s z (upd (q_Mo_s z) (96 + ((q_Mo_s z) 4)).toNatClampNeg x1)) (upd (q_Mo_s (u_Mo_s z (upd (q_Mo_s z) (96 + ((q_Mo_s z) 4)).toNatClampNeg x1))) 4 (((q_Mo_s (u_Mo_s z (upd (q_Mo_s z) (96 + ((q_Mo_s z) 4)).toNatClampNeg x1))) 4) + 1)))) 4, (u_Mo_s (u_Mo_s z (upd (q_Mo_s z) (96 + ((q_Mo_s z) 4)).toNatClampNeg x1)) (upd (q_Mo_s (u_Mo_s z (upd (q_Mo_s z) (96 + ((q_Mo_s z) 4)).toNatClampNeg x1))) 4 (((q_Mo_s (u_Mo_s z (upd (q_Mo_s z) (96 + ((q_Mo_s z) 4)).toNatClampNeg x1))) 4) + 1))))) else none))
theorem d_Mo_feed_0 : decode b_Mo_feed 0 = .ok (.iload_n 1, 1) := by decide +kernel
theorem d_Mo_feed_1 : decode b_Mo_feed 1 = .ok (.iconst 0, 1) := by decide +kernel
theorem d_Mo_feed_2 : decode b_Mo_feed 2 = .ok (.bipush 127, 2) := by decide +kernel
theorem d_Mo_feed_4 : decode b_Mo_feed 4 = .ok (.invokestatic 50, 3) := by decide +kernel
theorem d_Mo_feed_7 : decode b_Mo_feed 7 = .ok (.ifCond .ne 6, 3) := by decide +kernel
theorem d_Mo_feed_10 : decode b_Mo_feed 10 = .ok (.bipush (-2), 2) := by decide +kernel
theorem d_Mo_feed_12 : decode b_Mo_feed 12 = .ok (.ireturn, 1) := by decide +kernel
theorem d_Mo_feed_13 : decode b_Mo_feed 13 = .ok (.aload_n 0, 1) := by decide +kernel
theorem d_Mo_feed_14 : decode b_Mo_feed 14 = .ok (.getfield 9, 3) := by decide +kernel
theorem d_Mo_feed_17 : decode b_Mo_feed 17 = .ok (.iconst 4, 1) := by decide +kernel
theorem d_Mo_feed_18 : decode b_Mo_feed 18 = .ok (.iaload, 1) := by decide +kernel
theorem d_Mo_feed_19 : decode b_Mo_feed 19 = .ok (.bipush 100, 2) := by decide +kernel
theorem d_Mo_feed_21 : decode b_Mo_feed 21 = .ok (.if_icmp .ne 6, 3) := by decide +kernel
theorem d_Mo_feed_24 : decode b_Mo_feed 24 = .ok (.bipush (-4), 2) := by decide +kernel
theorem d_Mo_feed_26 : decode b_Mo_feed 26 = .ok (.ireturn, 1) := by decide +kernel
theorem d_Mo_feed_27 : decode b_Mo_feed 27 = .ok (.aload_n 0, 1) := by decide +kernel
theorem d_Mo_feed_28 : decode b_Mo_feed 28 = .ok (.getfield 9, 3) := by decide +kernel
theorem d_Mo_feed_31 : decode b_Mo_feed 31 = .ok (.bipush 96, 2) := by decide +kernel
theorem d_Mo_feed_33 : decode b_Mo_feed 33 = .ok (.aload_n 0, 1) := by decide +kernel
theorem d_Mo_feed_34 : decode b_Mo_feed 34 = .ok (.getfield 9, 3) := by decide +kernel
theorem d_Mo_feed_37 : decode b_Mo_feed 37 = .ok (.iconst 4, 1) := by decide +kernel
theorem d_Mo_feed_38 : decode b_Mo_feed 38 = .ok (.iaload, 1) := by decide +kernel
theorem d_Mo_feed_39 : decode b_Mo_feed 39 = .ok (.iadd, 1) := by decide +kernel
theorem d_Mo_feed_40 : decode b_Mo_feed 40 = .ok (.iload_n 1, 1) := by decide +kernel
theorem d_Mo_feed_41 : decode b_Mo_feed 41 = .ok (.iastore, 1) := by decide +kernel
theorem d_Mo_feed_42 : decode b_Mo_feed 42 = .ok (.aload_n 0, 1) := by decide +kernel
theorem d_Mo_feed_43 : decode b_Mo_feed 43 = .ok (.getfield 9, 3) := by decide +kernel
theorem d_Mo_feed_46 : decode b_Mo_feed 46 = .ok (.iconst 4, 1) := by decide +kernel
theorem d_Mo_feed_47 : decode b_Mo_feed 47 = .ok (.dup2, 1) := by decide +kernel
theorem d_Mo_feed_48 : decode b_Mo_feed 48 = .ok (.iaload, 1) := by decide +kernel
theorem d_Mo_feed_49 : decode b_Mo_feed 49 = .ok (.iconst 1, 1) := by decide +kernel
theorem d_Mo_feed_50 : decode b_Mo_feed 50 = .ok (.iadd, 1) := by decide +kernel
theorem d_Mo_feed_51 : decode b_Mo_feed 51 = .ok (.iastore, 1) := by decide +kernel
theorem d_Mo_feed_52 : decode b_Mo_feed 52 = .ok (.aload_n 0, 1) := by decide +kernel
theorem d_Mo_feed_53 : decode b_Mo_feed 53 = .ok (.getfield 9, 3) := by decide +kernel
theorem d_Mo_feed_56 : decode b_Mo_feed 56 = .ok (.iconst 4, 1) := by decide +kernel
theorem d_Mo_feed_57 : decode b_Mo_feed 57 = .ok (.iaload, 1) := by decide +kernel
theorem d_Mo_feed_58 : decode b_Mo_feed 58 = .ok (.ireturn, 1) := by decide +kernel
theorem o_Mo_feed : OkV y_Mo_feed "OwnsLiftModel" b_Mo_feed 2 (some .int) 1 := ⟨⟨rfl, by decide +kernel, by decide +kernel, by decide +kernel⟩, g_1073, g_1074, g_81, g_1075⟩
set_option maxHeartbeats 4000000 in
set_option maxRecDepth 100000 in
theorem c_Mo_feed (l : Launch) (D : va_G) (g : Nat → ClassId) (a : Nat → Nat) (x1 : Int32) (z : T_Mo) (v : Int32 × T_Mo) (h : d_Mo_feed x1 z = some v) :
    MI l y_Mo_feed b_Mo_feed 2 .int ({ frames := 1, cells := 0, slots := 0, locals := 22 } : Room) D g [.ref (a 0), .int x1] (ws_Mo g a z) (v.1) (ws_Mo g a v.2) := by
  have hd := h
  unfold d_Mo_feed at hd
  refine enterI rfl (Nat.le_of_ble_eq_true rfl) (fun p e s m below meth c A ls hx hb hml hr hown hg hlk hK hA hP hD hS hCs hl => ?_)
  have hown : s.vm.findClass "OwnsLiftModel" = some m.cls := hown
  have hl : lv_has ls 2 [(0, .ref (a 0)), (1, .int x1)] := hl
  show GI p l e s m ({ frames := 1, cells := 0, slots := 0, locals := 22 } : Room) ([.ref (a 0), .int x1] : List Value).toArray below meth c A D g (ws_Mo g a v.2) (v.1) s.heap [] (F0 m 0 ls [])
  refine lv_iload_n hx hb d_Mo_feed_0 rfl (lv_at hl 1 rfl) ?_
  refine lv_iconst (v := 0) hx hb d_Mo_feed_1 (by decide) ?_
  refine lv_bipush (v := 127) hx hb d_Mo_feed_2 (by decide) ?_
  obtain ⟨v_1, e_2, hd⟩ := bind_s hd
  refine callSI (ws' := ws_Mo g a z) (rest := []) (As := [.int x1, .int 0, .int 127]) hx hb hml hown hg hK hP hD hS hA hCs hl.1 (c_Mo_in l D g  x1 0 127 _ e_2) o_Mo_in g_1076 [] segC0 rfl rfl segP0 rfl rfl (Nat.le_of_ble_eq_true rfl) ⟨rfl, rfl, Nat.le_of_ble_eq_true rfl, Nat.le_of_ble_eq_true rfl⟩ d_Mo_feed_4 (fun H locs hP hD hS => ?_)
  refine lv_if_ne (tgt := 13) hx hb d_Mo_feed_7 (by decide) (fun h_3 => ?_) (fun h_3 => ?_)
  · have hd := ite_f hd h_3
    refine lv_aload_n hx hb d_Mo_feed_13 rfl (lv_at hl 0 rfl) ?_
    refine va_get (D := D) (ci := 1) (v := .ref (a 1)) (C := R_Mo) (T := F_Mo) (N := 26) hx hb hg i_Mo hown hK hP 0 rfl rfl 1 (by decide) (hg _ g_993) (fun _ h9 => h9) rfl d_Mo_feed_14 ?_
    refine lv_iconst (v := 4) hx hb d_Mo_feed_17 (by decide) ?_
    refine ialdK hx hb hK hP 1 0 rfl rfl (inb_t (by decide +kernel)) (k := 4) (by decide +kernel) d_Mo_feed_18 ?_
    refine lv_bipush (v := 100) hx hb d_Mo_feed_19 (by decide) ?_
    refine lv_icmp_ne (tgt := 27) hx hb d_Mo_feed_21 (by decide) (fun h_4 => ?_) (fun h_4 => ?_)
    · have hd := ite_f hd h_4
      refine lv_aload_n hx hb d_Mo_feed_27 rfl (lv_at hl 0 rfl) ?_
      refine va_get (D := D) (ci := 1) (v := .ref (a 1)) (C := R_Mo) (T := F_Mo) (N := 26) hx hb hg i_Mo hown hK hP 0 rfl rfl 1 (by decide) (hg _ g_993) (fun _ h9 => h9) rfl d_Mo_feed_28 ?_
      refine lv_bipush (v := 96) hx hb d_Mo_feed_31 (by decide) ?_
      refine lv_aload_n hx hb d_Mo_feed_33 rfl (lv_at hl 0 rfl) ?_
      refine va_get (D := D) (ci := 1) (v := .ref (a 1)) (C := R_Mo) (T := F_Mo) (N := 26) hx hb hg i_Mo hown hK hP 0 rfl rfl 1 (by decide) (hg _ g_993) (fun _ h9 => h9) rfl d_Mo_feed_34 ?_
      refine lv_iconst (v := 4) hx hb d_Mo_feed_37 (by decide) ?_
      refine ialdK hx hb hK hP 1 0 rfl rfl (inb_t (by decide +kernel)) (k := 4) (by decide +kernel) d_Mo_feed_38 ?_
      refine lv_iadd hx hb d_Mo_feed_39 ?_
      refine lv_iload_n hx hb d_Mo_feed_40 rfl (lv_at hl 1 rfl) ?_
      obtain ⟨h_5, hd⟩ := ite_s hd
      refine iastK hx hb hK hP hD hS 1 0 rfl rfl (inb_t h_5) rfl d_Mo_feed_41 (fun H locs hP hD hS => ?_)
      have hP : va_P D classes (ws_Mo g a (u_Mo_s z (upd (q_Mo_s z) (96 + ((q_Mo_s z) 4)).toNatClampNeg x1))) H := hP
      have hD : va_D A (ws_Mo g a (u_Mo_s z (upd (q_Mo_s z) (96 + ((q_Mo_s z) 4)).toNatClampNeg x1))) := hD
      refine lv_aload_n hx hb d_Mo_feed_42 rfl (lv_at hl 0 rfl) ?_
      refine va_get (D := D) (ci := 1) (v := .ref (a 1)) (C := R_Mo) (T := F_Mo) (N := 26) hx hb hg i_Mo hown hK hP 0 rfl rfl 1 (by decide) (hg _ g_993) (fun _ h9 => h9) rfl d_Mo_feed_43 ?_
      refine lv_iconst (v := 4) hx hb d_Mo_feed_46 (by decide) ?_
      refine lv_dup2_11 hx hb d_Mo_feed_47 rfl rfl ?_
      refine ialdK hx hb hK hP 1 0 rfl rfl (inb_t (by decide +kernel)) (k := 4) (by decide +kernel) d_Mo_feed_48 ?_
      refine lv_iconst (v := 1) hx hb d_Mo_feed_49 (by decide) ?_
      refine lv_iadd hx hb d_Mo_feed_50 ?_
      refine iastK hx hb hK hP hD hS 1 0 rfl rfl (inb_t (by decide +kernel)) (k := 4) (by decide +kernel) d_Mo_feed_51 (fun H locs hP hD hS => ?_)
      have hP : va_P D classes (ws_Mo g a (u_Mo_s (u_Mo_s z (upd (q_Mo_s z) (96 + ((q_Mo_s z) 4)).toNatClampNeg x1)) (upd (q_Mo_s (u_Mo_s z (upd (q_Mo_s z) (96 + ((q_Mo_s z) 4)).toNatClampNeg x1))) 4 (((q_Mo_s (u_Mo_s z (upd (q_Mo_s z) (96 + ((q_Mo_s z) 4)).toNatClampNeg x1))) 4) + 1)))) H := hP
      have hD : va_D A (ws_Mo g a (u_Mo_s (u_Mo_s z (upd (q_Mo_s z) (96 + ((q_Mo_s z) 4)).toNatClampNeg x1)) (upd (q_Mo_s (u_Mo_s z (upd (q_Mo_s z) (96 + ((q_Mo_s z) 4)).toNatClampNeg x1))) 4 (((q_Mo_s (u_Mo_s z (upd (q_Mo_s z) (96 + ((q_Mo_s z) 4)).toNatClampNeg x1))) 4) + 1)))) := hD
      refine lv_aload_n hx hb d_Mo_feed_52 rfl (lv_at hl 0 rfl) ?_
      refine va_get (D := D) (ci := 1) (v := .ref (a 1)) (C := R_Mo) (T := F_Mo) (N := 26) hx hb hg i_Mo hown hK hP 0 rfl rfl 1 (by decide) (hg _ g_993) (fun _ h9 => h9) rfl d_Mo_feed_53 ?_
      refine lv_iconst (v := 4) hx hb d_Mo_feed_56 (by decide) ?_
      refine ialdK hx hb hK hP 1 0 rfl rfl (inb_t (by decide +kernel)) (k := 4) (by decide +kernel) d_Mo_feed_57 ?_
      obtain rfl := Option.some.inj hd
      exact retI hx hb hr hlk hK hP hD hS d_Mo_feed_58 rfl
    · have hd := ite_t hd h_4
      refine lv_bipush (v := (-4)) hx hb d_Mo_feed_24 (by decide) ?_
      obtain rfl := Option.some.inj hd
      exact retI hx hb hr hlk hK hP hD hS d_Mo_feed_26 rfl
  · have hd := ite_t hd h_3
    refine lv_bipush (v := (-2)) hx hb d_Mo_feed_10 (by decide) ?_
    obtain rfl := Option.some.inj hd
    exact retI hx hb hr hlk hK hP hD hS d_Mo_feed_12 rfl
-- OwnsLiftModel.here()I
def d_Mo_here (z : T_Mo) : Option (Int32) :=
  if (q_Mo_end z) ≤ (q_Mo_spot z) then (some ((-1))) else (if inb (96 + (q_Mo_spot z)) 901 = true then (some ((q_Mo_s z) (96 + (q_Mo_spot z)).toNatClampNeg)) else none)
theorem d_Mo_here_0 : decode b_Mo_here 0 = .ok (.aload_n 0, 1) := by decide +kernel
theorem d_Mo_here_1 : decode b_Mo_here 1 = .ok (.getfield 54, 3) := by decide +kernel
theorem d_Mo_here_4 : decode b_Mo_here 4 = .ok (.aload_n 0, 1) := by decide +kernel
theorem d_Mo_here_5 : decode b_Mo_here 5 = .ok (.getfield 57, 3) := by decide +kernel
theorem d_Mo_here_8 : decode b_Mo_here 8 = .ok (.if_icmp .ge 18, 3) := by decide +kernel
theorem d_Mo_here_11 : decode b_Mo_here 11 = .ok (.aload_n 0, 1) := by decide +kernel
theorem d_Mo_here_12 : decode b_Mo_here 12 = .ok (.getfield 9, 3) := by decide +kernel
theorem d_Mo_here_15 : decode b_Mo_here 15 = .ok (.bipush 96, 2) := by decide +kernel
theorem d_Mo_here_17 : decode b_Mo_here 17 = .ok (.aload_n 0, 1) := by decide +kernel
theorem d_Mo_here_18 : decode b_Mo_here 18 = .ok (.getfield 54, 3) := by decide +kernel
theorem d_Mo_here_21 : decode b_Mo_here 21 = .ok (.iadd, 1) := by decide +kernel
theorem d_Mo_here_22 : decode b_Mo_here 22 = .ok (.iaload, 1) := by decide +kernel
theorem d_Mo_here_23 : decode b_Mo_here 23 = .ok (.goto 4, 3) := by decide +kernel
theorem d_Mo_here_26 : decode b_Mo_here 26 = .ok (.iconst (-1), 1) := by decide +kernel
theorem d_Mo_here_27 : decode b_Mo_here 27 = .ok (.ireturn, 1) := by decide +kernel
theorem o_Mo_here : OkV y_Mo_here "OwnsLiftModel" b_Mo_here 1 (some .int) 0 := ⟨⟨rfl, by decide +kernel, by decide +kernel, by decide +kernel⟩, g_1089, g_27, g_81, g_1090⟩
set_option maxHeartbeats 4000000 in
set_option maxRecDepth 100000 in
theorem c_Mo_here (l : Launch) (D : va_G) (g : Nat → ClassId) (a : Nat → Nat) (z : T_Mo) (v : Int32) (h : d_Mo_here z = some v) :
    MI l y_Mo_here b_Mo_here 1 .int ({ frames := 0, cells := 0, slots := 0, locals := 0 } : Room) D g [.ref (a 0)] (ws_Mo g a z) (v) (ws_Mo g a z) := by
  have hd := h
  unfold d_Mo_here at hd
  refine enterI rfl (Nat.le_of_ble_eq_true rfl) (fun p e s m below meth c A ls hx hb hml hr hown hg hlk hK hA hP hD hS hCs hl => ?_)
  have hown : s.vm.findClass "OwnsLiftModel" = some m.cls := hown
  have hl : lv_has ls 1 [(0, .ref (a 0))] := hl
  show GI p l e s m ({ frames := 0, cells := 0, slots := 0, locals := 0 } : Room) ([.ref (a 0)] : List Value).toArray below meth c A D g (ws_Mo g a z) (v) s.heap [] (F0 m 0 ls [])
  refine lv_aload_n hx hb d_Mo_here_0 rfl (lv_at hl 0 rfl) ?_
  refine va_get (D := D) (ci := 1) (v := .int (q_Mo_spot z)) (C := R_Mo) (T := F_Mo) (N := 26) hx hb hg i_Mo hown hK hP 0 rfl rfl 6 (by decide) (hg _ g_998) (fun _ h9 => h9) rfl d_Mo_here_1 ?_
  refine lv_aload_n hx hb d_Mo_here_4 rfl (lv_at hl 0 rfl) ?_
  refine va_get (D := D) (ci := 1) (v := .int (q_Mo_end z)) (C := R_Mo) (T := F_Mo) (N := 26) hx hb hg i_Mo hown hK hP 0 rfl rfl 7 (by decide) (hg _ g_999) (fun _ h9 => h9) rfl d_Mo_here_5 ?_
  refine lv_icmp_ge (tgt := 26) hx hb d_Mo_here_8 (by decide) (fun h_1 => ?_) (fun h_1 => ?_)
  · have hd := ite_t hd h_1
    refine lv_iconst (v := (-1)) hx hb d_Mo_here_26 (by decide) ?_
    obtain rfl := Option.some.inj hd
    exact retI hx hb hr hlk hK hP hD hS d_Mo_here_27 rfl
  · have hd := ite_f hd h_1
    refine lv_aload_n hx hb d_Mo_here_11 rfl (lv_at hl 0 rfl) ?_
    refine va_get (D := D) (ci := 1) (v := .ref (a 1)) (C := R_Mo) (T := F_Mo) (N := 26) hx hb hg i_Mo hown hK hP 0 rfl rfl 1 (by decide) (hg _ g_993) (fun _ h9 => h9) rfl d_Mo_here_12 ?_
    refine lv_bipush (v := 96) hx hb d_Mo_here_15 (by decide) ?_
    refine lv_aload_n hx hb d_Mo_here_17 rfl (lv_at hl 0 rfl) ?_
    refine va_get (D := D) (ci := 1) (v := .int (q_Mo_spot z)) (C := R_Mo) (T := F_Mo) (N := 26) hx hb hg i_Mo hown hK hP 0 rfl rfl 6 (by decide) (hg _ g_998) (fun _ h9 => h9) rfl d_Mo_here_18 ?_
    refine lv_iadd hx hb d_Mo_here_21 ?_
    obtain ⟨h_2, hd⟩ := ite_s hd
    refine ialdK hx hb hK hP 1 0 rfl rfl (inb_t h_2) rfl d_Mo_here_22 ?_
    refine lv_goto (tgt := 27) hx hb d_Mo_here_23 (by decide) ?_
    obtain rfl := Option.some.inj hd
    exact retI hx hb hr hlk hK hP hD hS d_Mo_here_27 rfl
-- OwnsLiftModel.must(I)V
def d_Mo_must (x1 : Int32) (z : T_Mo) : Option (T_Mo) :=
  if (q_Mo_isWrong z) = 0 then ((d_Mo_here z).bind fun v_3 => if v_3 = x1 then (if (q_Mo_isWrong (u_Mo_isWrong z 0)) = 0 then (some ((u_Mo_spot (u_Mo_isWrong z 0) ((q_Mo_spot (u_Mo_isWrong z 0)) + 1)))) else (some ((u_Mo_spot (u_Mo_isWrong z 0) ((q_Mo_spot (u_Mo_isWrong z 0)) + 0))))) else (if (q_Mo_isWrong (u_Mo_isWrong z 1)) = 0 then (some ((u_Mo_spot (u_Mo_isWrong z 1) ((q_Mo_spot (u_Mo_isWrong z 1)) + 1)))) else (some ((u_Mo_spot (u_Mo_isWrong z 1) ((q_Mo_spot (u_Mo_isWrong z 1)) + 0)))))) else (if (q_Mo_isWrong (u_Mo_isWrong z 1)) = 0 then (some ((u_Mo_spot (u_Mo_isWrong z 1) ((q_Mo_spot (u_Mo_isWrong z 1)) + 1)))) else (some ((u_Mo_spot (u_Mo_isWrong z 1) ((q_Mo_spot (u_Mo_isWrong z 1)) + 0)))))
theorem d_Mo_must_0 : decode b_Mo_must 0 = .ok (.aload_n 0, 1) := by decide +kernel
theorem d_Mo_must_1 : decode b_Mo_must 1 = .ok (.aload_n 0, 1) := by decide +kernel
theorem d_Mo_must_2 : decode b_Mo_must 2 = .ok (.getfield 60, 3) := by decide +kernel
theorem d_Mo_must_5 : decode b_Mo_must 5 = .ok (.ifCond .ne 11, 3) := by decide +kernel
theorem d_Mo_must_8 : decode b_Mo_must 8 = .ok (.aload_n 0, 1) := by decide +kernel
theorem d_Mo_must_9 : decode b_Mo_must 9 = .ok (.invokevirtual 64, 3) := by decide +kernel
theorem d_Mo_must_12 : decode b_Mo_must 12 = .ok (.iload_n 1, 1) := by decide +kernel
theorem d_Mo_must_13 : decode b_Mo_must 13 = .ok (.if_icmp .eq 7, 3) := by decide +kernel
theorem d_Mo_must_16 : decode b_Mo_must 16 = .ok (.iconst 1, 1) := by decide +kernel
theorem d_Mo_must_17 : decode b_Mo_must 17 = .ok (.goto 4, 3) := by decide +kernel
theorem d_Mo_must_20 : decode b_Mo_must 20 = .ok (.iconst 0, 1) := by decide +kernel
theorem d_Mo_must_21 : decode b_Mo_must 21 = .ok (.putfield 60, 3) := by decide +kernel
theorem d_Mo_must_24 : decode b_Mo_must 24 = .ok (.aload_n 0, 1) := by decide +kernel
theorem d_Mo_must_25 : decode b_Mo_must 25 = .ok (.dup, 1) := by decide +kernel
theorem d_Mo_must_26 : decode b_Mo_must 26 = .ok (.getfield 54, 3) := by decide +kernel
theorem d_Mo_must_29 : decode b_Mo_must 29 = .ok (.aload_n 0, 1) := by decide +kernel
theorem d_Mo_must_30 : decode b_Mo_must 30 = .ok (.getfield 60, 3) := by decide +kernel
theorem d_Mo_must_33 : decode b_Mo_must 33 = .ok (.ifCond .eq 7, 3) := by decide +kernel
theorem d_Mo_must_36 : decode b_Mo_must 36 = .ok (.iconst 0, 1) := by decide +kernel
theorem d_Mo_must_37 : decode b_Mo_must 37 = .ok (.goto 4, 3) := by decide +kernel
theorem d_Mo_must_40 : decode b_Mo_must 40 = .ok (.iconst 1, 1) := by decide +kernel
theorem d_Mo_must_41 : decode b_Mo_must 41 = .ok (.iadd, 1) := by decide +kernel
theorem d_Mo_must_42 : decode b_Mo_must 42 = .ok (.putfield 54, 3) := by decide +kernel
theorem d_Mo_must_45 : decode b_Mo_must 45 = .ok (.return_, 1) := by decide +kernel
theorem o_Mo_must : OkV y_Mo_must "OwnsLiftModel" b_Mo_must 2 none 1 := ⟨⟨rfl, by decide +kernel, by decide +kernel, by decide +kernel⟩, g_1097, g_29, g_81, g_1098⟩
set_option maxHeartbeats 4000000 in
set_option maxRecDepth 100000 in
theorem c_Mo_must (l : Launch) (D : va_G) (g : Nat → ClassId) (a : Nat → Nat) (x1 : Int32) (z : T_Mo) (v : T_Mo) (h : d_Mo_must x1 z = some v) :
    MV l y_Mo_must b_Mo_must 2 ({ frames := 1, cells := 0, slots := 0, locals := 20 } : Room) D g [.ref (a 0), .int x1] (ws_Mo g a z) (ws_Mo g a v) := by
  have hd := h
  unfold d_Mo_must at hd
  refine enterV rfl (Nat.le_of_ble_eq_true rfl) (fun p e s m below meth c A ls hx hb hml hr hown hg hlk hK hA hP hD hS hCs hl => ?_)
  have hown : s.vm.findClass "OwnsLiftModel" = some m.cls := hown
  have hl : lv_has ls 2 [(0, .ref (a 0)), (1, .int x1)] := hl
  show GV p l e s m ({ frames := 1, cells := 0, slots := 0, locals := 20 } : Room) ([.ref (a 0), .int x1] : List Value).toArray below meth c A D g (ws_Mo g a v) s.heap [] (F0 m 0 ls [])
  refine lv_aload_n hx hb d_Mo_must_0 rfl (lv_at hl 0 rfl) ?_
  refine lv_aload_n hx hb d_Mo_must_1 rfl (lv_at hl 0 rfl) ?_
  refine va_get (D := D) (ci := 1) (v := .int (q_Mo_isWrong z)) (C := R_Mo) (T := F_Mo) (N := 26) hx hb hg i_Mo hown hK hP 0 rfl rfl 8 (by decide) (hg _ g_1000) (fun _ h9 => h9) rfl d_Mo_must_2 ?_
  refine lv_if_ne (tgt := 16) hx hb d_Mo_must_5 (by decide) (fun h_1 => ?_) (fun h_1 => ?_)
  · have hd := ite_f hd h_1
    refine lv_iconst (v := 1) hx hb d_Mo_must_16 (by decide) ?_
    refine lv_goto (tgt := 21) hx hb d_Mo_must_17 (by decide) ?_
    refine va_put (D := D) (ci := 1) (v := .int 1) (ty := .boolean) (C := R_Mo) (T := F_Mo) (N := 26) hx hb hg i_Mo t_Mo t_Mo_ok n_Mo hown hK hP hD hS 0 rfl rfl 8 (by decide) (hg _ g_1000) (fun _ h9 => h9) rfl (by decide +kernel) (by decide +kernel) rfl (Nat.le_of_ble_eq_true rfl) d_Mo_must_21 (fun H locs hP hD hS => ?_)
    have hP : va_P D classes (ws_Mo g a (u_Mo_isWrong z 1)) H := hP
    have hD : va_D A (ws_Mo g a (u_Mo_isWrong z 1)) := hD
    refine lv_aload_n hx hb d_Mo_must_24 rfl (lv_at hl 0 rfl) ?_
    refine lv_dup hx hb d_Mo_must_25 rfl ?_
    refine va_get (D := D) (ci := 1) (v := .int (q_Mo_spot (u_Mo_isWrong z 1))) (C := R_Mo) (T := F_Mo) (N := 26) hx hb hg i_Mo hown hK hP 0 rfl rfl 6 (by decide) (hg _ g_998) (fun _ h9 => h9) rfl d_Mo_must_26 ?_
    refine lv_aload_n hx hb d_Mo_must_29 rfl (lv_at hl 0 rfl) ?_
    refine va_get (D := D) (ci := 1) (v := .int (q_Mo_isWrong (u_Mo_isWrong z 1))) (C := R_Mo) (T := F_Mo) (N := 26) hx hb hg i_Mo hown hK hP 0 rfl rfl 8 (by decide) (hg _ g_1000) (fun _ h9 => h9) rfl d_Mo_must_30 ?_
    refine lv_if_eq (tgt := 40) hx hb d_Mo_must_33 (by decide) (fun h_2 => ?_) (fun h_2 => ?_)
    · have hd := ite_t hd h_2
      refine lv_iconst (v := 1) hx hb d_Mo_must_40 (by decide) ?_
      refine lv_iadd hx hb d_Mo_must_41 ?_
      refine va_put (D := D) (ci := 1) (v := .int ((q_Mo_spot (u_Mo_isWrong z 1)) + 1)) (ty := .int) (C := R_Mo) (T := F_Mo) (N := 26) hx hb hg i_Mo t_Mo t_Mo_ok n_Mo hown hK hP hD hS 0 rfl rfl 6 (by decide) (hg _ g_998) (fun _ h9 => h9) rfl (by decide +kernel) rfl rfl (Nat.le_of_ble_eq_true rfl) d_Mo_must_42 (fun H locs hP hD hS => ?_)
      have hP : va_P D classes (ws_Mo g a (u_Mo_spot (u_Mo_isWrong z 1) ((q_Mo_spot (u_Mo_isWrong z 1)) + 1))) H := hP
      have hD : va_D A (ws_Mo g a (u_Mo_spot (u_Mo_isWrong z 1) ((q_Mo_spot (u_Mo_isWrong z 1)) + 1))) := hD
      obtain rfl := Option.some.inj hd
      exact retV hx hb hr hlk hK hP hD hS d_Mo_must_45
    · have hd := ite_f hd h_2
      refine lv_iconst (v := 0) hx hb d_Mo_must_36 (by decide) ?_
      refine lv_goto (tgt := 41) hx hb d_Mo_must_37 (by decide) ?_
      refine lv_iadd hx hb d_Mo_must_41 ?_
      refine va_put (D := D) (ci := 1) (v := .int ((q_Mo_spot (u_Mo_isWrong z 1)) + 0)) (ty := .int) (C := R_Mo) (T := F_Mo) (N := 26) hx hb hg i_Mo t_Mo t_Mo_ok n_Mo hown hK hP hD hS 0 rfl rfl 6 (by decide) (hg _ g_998) (fun _ h9 => h9) rfl (by decide +kernel) rfl rfl (Nat.le_of_ble_eq_true rfl) d_Mo_must_42 (fun H locs hP hD hS => ?_)
      have hP : va_P D classes (ws_Mo g a (u_Mo_spot (u_Mo_isWrong z 1) ((q_Mo_spot (u_Mo_isWrong z 1)) + 0))) H := hP
      have hD : va_D A (ws_Mo g a (u_Mo_spot (u_Mo_isWrong z 1) ((q_Mo_spot (u_Mo_isWrong z 1)) + 0))) := hD
      obtain rfl := Option.some.inj hd
      exact retV hx hb hr hlk hK hP hD hS d_Mo_must_45
  · have hd := ite_t hd h_1
    refine lv_aload_n hx hb d_Mo_must_8 rfl (lv_at hl 0 rfl) ?_
    obtain ⟨v_3, e_4, hd⟩ := bind_s hd
    refine callVI (ws' := ws_Mo g a z) (rest := [.ref (a 0)]) (As := []) hx hb hml hown hg hK hP hD hS hA hCs hl.1 (c_Mo_here l D g a z _ e_4) o_Mo_here g_1087 (ci := 1) (q0 := 0) rfl rfl (List.range' 0 12) (segC1 rfl rfl) (by decide) rfl (segP1 rfl rfl) rfl rfl (Nat.le_of_ble_eq_true rfl) ⟨rfl, rfl, Nat.le_of_ble_eq_true rfl, Nat.le_of_ble_eq_true rfl⟩ d_Mo_must_9 (fun H locs hP hD hS => ?_)
    refine lv_iload_n hx hb d_Mo_must_12 rfl (lv_at hl 1 rfl) ?_
    refine lv_icmp_eq (tgt := 20) hx hb d_Mo_must_13 (by decide) (fun h_5 => ?_) (fun h_5 => ?_)
    · have hd := ite_t hd h_5
      refine lv_iconst (v := 0) hx hb d_Mo_must_20 (by decide) ?_
      refine va_put (D := D) (ci := 1) (v := .int 0) (ty := .boolean) (C := R_Mo) (T := F_Mo) (N := 26) hx hb hg i_Mo t_Mo t_Mo_ok n_Mo hown hK hP hD hS 0 rfl rfl 8 (by decide) (hg _ g_1000) (fun _ h9 => h9) rfl (by decide +kernel) (by decide +kernel) rfl (Nat.le_of_ble_eq_true rfl) d_Mo_must_21 (fun H locs hP hD hS => ?_)
      have hP : va_P D classes (ws_Mo g a (u_Mo_isWrong z 0)) H := hP
      have hD : va_D A (ws_Mo g a (u_Mo_isWrong z 0)) := hD
      refine lv_aload_n hx hb d_Mo_must_24 rfl (lv_at hl 0 rfl) ?_
      refine lv_dup hx hb d_Mo_must_25 rfl ?_
      refine va_get (D := D) (ci := 1) (v := .int (q_Mo_spot (u_Mo_isWrong z 0))) (C := R_Mo) (T := F_Mo) (N := 26) hx hb hg i_Mo hown hK hP 0 rfl rfl 6 (by decide) (hg _ g_998) (fun _ h9 => h9) rfl d_Mo_must_26 ?_
      refine lv_aload_n hx hb d_Mo_must_29 rfl (lv_at hl 0 rfl) ?_
      refine va_get (D := D) (ci := 1) (v := .int (q_Mo_isWrong (u_Mo_isWrong z 0))) (C := R_Mo) (T := F_Mo) (N := 26) hx hb hg i_Mo hown hK hP 0 rfl rfl 8 (by decide) (hg _ g_1000) (fun _ h9 => h9) rfl d_Mo_must_30 ?_
      refine lv_if_eq (tgt := 40) hx hb d_Mo_must_33 (by decide) (fun h_6 => ?_) (fun h_6 => ?_)
      · have hd := ite_t hd h_6
        refine lv_iconst (v := 1) hx hb d_Mo_must_40 (by decide) ?_
        refine lv_iadd hx hb d_Mo_must_41 ?_
        refine va_put (D := D) (ci := 1) (v := .int ((q_Mo_spot (u_Mo_isWrong z 0)) + 1)) (ty := .int) (C := R_Mo) (T := F_Mo) (N := 26) hx hb hg i_Mo t_Mo t_Mo_ok n_Mo hown hK hP hD hS 0 rfl rfl 6 (by decide) (hg _ g_998) (fun _ h9 => h9) rfl (by decide +kernel) rfl rfl (Nat.le_of_ble_eq_true rfl) d_Mo_must_42 (fun H locs hP hD hS => ?_)
        have hP : va_P D classes (ws_Mo g a (u_Mo_spot (u_Mo_isWrong z 0) ((q_Mo_spot (u_Mo_isWrong z 0)) + 1))) H := hP
        have hD : va_D A (ws_Mo g a (u_Mo_spot (u_Mo_isWrong z 0) ((q_Mo_spot (u_Mo_isWrong z 0)) + 1))) := hD
        obtain rfl := Option.some.inj hd
        exact retV hx hb hr hlk hK hP hD hS d_Mo_must_45
      · have hd := ite_f hd h_6
        refine lv_iconst (v := 0) hx hb d_Mo_must_36 (by decide) ?_
        refine lv_goto (tgt := 41) hx hb d_Mo_must_37 (by decide) ?_
        refine lv_iadd hx hb d_Mo_must_41 ?_
        refine va_put (D := D) (ci := 1) (v := .int ((q_Mo_spot (u_Mo_isWrong z 0)) + 0)) (ty := .int) (C := R_Mo) (T := F_Mo) (N := 26) hx hb hg i_Mo t_Mo t_Mo_ok n_Mo hown hK hP hD hS 0 rfl rfl 6 (by decide) (hg _ g_998) (fun _ h9 => h9) rfl (by decide +kernel) rfl rfl (Nat.le_of_ble_eq_true rfl) d_Mo_must_42 (fun H locs hP hD hS => ?_)
        have hP : va_P D classes (ws_Mo g a (u_Mo_spot (u_Mo_isWrong z 0) ((q_Mo_spot (u_Mo_isWrong z 0)) + 0))) H := hP
        have hD : va_D A (ws_Mo g a (u_Mo_spot (u_Mo_isWrong z 0) ((q_Mo_spot (u_Mo_isWrong z 0)) + 0))) := hD
        obtain rfl := Option.some.inj hd
        exact retV hx hb hr hlk hK hP hD hS d_Mo_must_45
    · have hd := ite_f hd h_5
      refine lv_iconst (v := 1) hx hb d_Mo_must_16 (by decide) ?_
      refine lv_goto (tgt := 21) hx hb d_Mo_must_17 (by decide) ?_
      refine va_put (D := D) (ci := 1) (v := .int 1) (ty := .boolean) (C := R_Mo) (T := F_Mo) (N := 26) hx hb hg i_Mo t_Mo t_Mo_ok n_Mo hown hK hP hD hS 0 rfl rfl 8 (by decide) (hg _ g_1000) (fun _ h9 => h9) rfl (by decide +kernel) (by decide +kernel) rfl (Nat.le_of_ble_eq_true rfl) d_Mo_must_21 (fun H locs hP hD hS => ?_)
      have hP : va_P D classes (ws_Mo g a (u_Mo_isWrong z 1)) H := hP
      have hD : va_D A (ws_Mo g a (u_Mo_isWrong z 1)) := hD
      refine lv_aload_n hx hb d_Mo_must_24 rfl (lv_at hl 0 rfl) ?_
      refine lv_dup hx hb d_Mo_must_25 rfl ?_
      refine va_get (D := D) (ci := 1) (v := .int (q_Mo_spot (u_Mo_isWrong z 1))) (C := R_Mo) (T := F_Mo) (N := 26) hx hb hg i_Mo hown hK hP 0 rfl rfl 6 (by decide) (hg _ g_998) (fun _ h9 => h9) rfl d_Mo_must_26 ?_
      refine lv_aload_n hx hb d_Mo_must_29 rfl (lv_at hl 0 rfl) ?_
      refine va_get (D := D) (ci := 1) (v := .int (q_Mo_isWrong (u_Mo_isWrong z 1))) (C := R_Mo) (T := F_Mo) (N := 26) hx hb hg i_Mo hown hK hP 0 rfl rfl 8 (by decide) (hg _ g_1000) (fun _ h9 => h9) rfl d_Mo_must_30 ?_
      refine lv_if_eq (tgt := 40) hx hb d_Mo_must_33 (by decide) (fun h_7 => ?_) (fun h_7 => ?_)
      · have hd := ite_t hd h_7
        refine lv_iconst (v := 1) hx hb d_Mo_must_40 (by decide) ?_
        refine lv_iadd hx hb d_Mo_must_41 ?_
        refine va_put (D := D) (ci := 1) (v := .int ((q_Mo_spot (u_Mo_isWrong z 1)) + 1)) (ty := .int) (C := R_Mo) (T := F_Mo) (N := 26) hx hb hg i_Mo t_Mo t_Mo_ok n_Mo hown hK hP hD hS 0 rfl rfl 6 (by decide) (hg _ g_998) (fun _ h9 => h9) rfl (by decide +kernel) rfl rfl (Nat.le_of_ble_eq_true rfl) d_Mo_must_42 (fun H locs hP hD hS => ?_)
        have hP : va_P D classes (ws_Mo g a (u_Mo_spot (u_Mo_isWrong z 1) ((q_Mo_spot (u_Mo_isWrong z 1)) + 1))) H := hP
        have hD : va_D A (ws_Mo g a (u_Mo_spot (u_Mo_isWrong z 1) ((q_Mo_spot (u_Mo_isWrong z 1)) + 1))) := hD
        obtain rfl := Option.some.inj hd
        exact retV hx hb hr hlk hK hP hD hS d_Mo_must_45
      · have hd := ite_f hd h_7
        refine lv_iconst (v := 0) hx hb d_Mo_must_36 (by decide) ?_
        refine lv_goto (tgt := 41) hx hb d_Mo_must_37 (by decide) ?_
        refine lv_iadd hx hb d_Mo_must_41 ?_
        refine va_put (D := D) (ci := 1) (v := .int ((q_Mo_spot (u_Mo_isWrong z 1)) + 0)) (ty := .int) (C := R_Mo) (T := F_Mo) (N := 26) hx hb hg i_Mo t_Mo t_Mo_ok n_Mo hown hK hP hD hS 0 rfl rfl 6 (by decide) (hg _ g_998) (fun _ h9 => h9) rfl (by decide +kernel) rfl rfl (Nat.le_of_ble_eq_true rfl) d_Mo_must_42 (fun H locs hP hD hS => ?_)
        have hP : va_P D classes (ws_Mo g a (u_Mo_spot (u_Mo_isWrong z 1) ((q_Mo_spot (u_Mo_isWrong z 1)) + 0))) H := hP
        have hD : va_D A (ws_Mo g a (u_Mo_spot (u_Mo_isWrong z 1) ((q_Mo_spot (u_Mo_isWrong z 1)) + 0))) := hD
        obtain rfl := Option.some.inj hd
        exact retV hx hb hr hlk hK hP hD hS d_Mo_must_45
-- OwnsLiftModel.figures()I
def B_Mo_figures_L34 (self34 : Int32 → Int32 → T_Mo → Option (Int32 × T_Mo)) (x1_34 : Int32) (x2_34 : Int32) (z_34 : T_Mo) : Option (Int32 × T_Mo) :=
  if 2 ≤ x2_34 then (some (x1_34, z_34)) else (if (q_Mo_isWrong z_34) = 0 then ((d_Mo_here z_34).bind fun v_4 => (d_Mo_in v_4 48 57).bind fun v_6 => if v_6 = 0 then (some (x1_34, z_34)) else (if x2_34 = 0 then ((d_Mo_here z_34).bind fun v_10 => self34 (((10 * x1_34) + v_10) - 48) (x2_34 + 1) (u_Mo_spot z_34 ((q_Mo_spot z_34) + 1))) else (if x1_34 ≤ 0 then (some (x1_34, z_34)) else ((d_Mo_here z_34).bind fun v_13 => self34 (((10 * x1_34) + v_13) - 48) (x2_34 + 1) (u_Mo_spot z_34 ((q_Mo_spot z_34) + 1)))))) else (some (x1_34, z_34)))
def d_Mo_figures_L34 (n : Nat) : Int32 → Int32 → T_Mo → Option (Int32 × T_Mo) := recN (fun _ _ _ => none) (fun self => B_Mo_figures_L34 self) n
def d_Mo_figures (z : T_Mo) : Option (Int32 × T_Mo) :=
  if (q_Mo_isWrong z) = 0 then ((d_Mo_here z).bind fun v_15 => (d_Mo_in v_15 48 57).bind fun v_17 => if v_17 = 0 then (d_Mo_figures_L34  1000 0 0 (u_Mo_isWrong z 1)) else (d_Mo_figures_L34  1000 0 0 (u_Mo_isWrong z 0))) else (d_Mo_figures_L34  1000 0 0 (u_Mo_isWrong z 1))
theorem d_Mo_figures_0 : decode b_Mo_figures 0 = .ok (.aload_n 0, 1) := by decide +kernel
theorem d_Mo_figures_1 : decode b_Mo_figures 1 = .ok (.aload_n 0, 1) := by decide +kernel
theorem d_Mo_figures_2 : decode b_Mo_figures 2 = .ok (.getfield 60, 3) := by decide +kernel
theorem d_Mo_figures_5 : decode b_Mo_figures 5 = .ok (.ifCond .ne 17, 3) := by decide +kernel
theorem d_Mo_figures_8 : decode b_Mo_figures 8 = .ok (.aload_n 0, 1) := by decide +kernel
theorem d_Mo_figures_9 : decode b_Mo_figures 9 = .ok (.invokevirtual 64, 3) := by decide +kernel
theorem d_Mo_figures_12 : decode b_Mo_figures 12 = .ok (.bipush 48, 2) := by decide +kernel
theorem d_Mo_figures_14 : decode b_Mo_figures 14 = .ok (.bipush 57, 2) := by decide +kernel
theorem d_Mo_figures_16 : decode b_Mo_figures 16 = .ok (.invokestatic 50, 3) := by decide +kernel
theorem d_Mo_figures_19 : decode b_Mo_figures 19 = .ok (.ifCond .ne 7, 3) := by decide +kernel
theorem d_Mo_figures_22 : decode b_Mo_figures 22 = .ok (.iconst 1, 1) := by decide +kernel
theorem d_Mo_figures_23 : decode b_Mo_figures 23 = .ok (.goto 4, 3) := by decide +kernel
theorem d_Mo_figures_26 : decode b_Mo_figures 26 = .ok (.iconst 0, 1) := by decide +kernel
theorem d_Mo_figures_27 : decode b_Mo_figures 27 = .ok (.putfield 60, 3) := by decide +kernel
theorem d_Mo_figures_30 : decode b_Mo_figures 30 = .ok (.iconst 0, 1) := by decide +kernel
theorem d_Mo_figures_31 : decode b_Mo_figures 31 = .ok (.istore_n 1, 1) := by decide +kernel
theorem d_Mo_figures_32 : decode b_Mo_figures 32 = .ok (.iconst 0, 1) := by decide +kernel
theorem d_Mo_figures_33 : decode b_Mo_figures 33 = .ok (.istore_n 2, 1) := by decide +kernel
theorem d_Mo_figures_34 : decode b_Mo_figures 34 = .ok (.iload_n 2, 1) := by decide +kernel
theorem d_Mo_figures_35 : decode b_Mo_figures 35 = .ok (.iconst 2, 1) := by decide +kernel
theorem d_Mo_figures_36 : decode b_Mo_figures 36 = .ok (.if_icmp .ge 61, 3) := by decide +kernel
theorem d_Mo_figures_39 : decode b_Mo_figures 39 = .ok (.aload_n 0, 1) := by decide +kernel
theorem d_Mo_figures_40 : decode b_Mo_figures 40 = .ok (.getfield 60, 3) := by decide +kernel
theorem d_Mo_figures_43 : decode b_Mo_figures 43 = .ok (.ifCond .ne 54, 3) := by decide +kernel
theorem d_Mo_figures_46 : decode b_Mo_figures 46 = .ok (.aload_n 0, 1) := by decide +kernel
theorem d_Mo_figures_47 : decode b_Mo_figures 47 = .ok (.invokevirtual 64, 3) := by decide +kernel
theorem d_Mo_figures_50 : decode b_Mo_figures 50 = .ok (.bipush 48, 2) := by decide +kernel
theorem d_Mo_figures_52 : decode b_Mo_figures 52 = .ok (.bipush 57, 2) := by decide +kernel
theorem d_Mo_figures_54 : decode b_Mo_figures 54 = .ok (.invokestatic 50, 3) := by decide +kernel
theorem d_Mo_figures_57 : decode b_Mo_figures 57 = .ok (.ifCond .eq 40, 3) := by decide +kernel
theorem d_Mo_figures_60 : decode b_Mo_figures 60 = .ok (.iload_n 2, 1) := by decide +kernel
theorem d_Mo_figures_61 : decode b_Mo_figures 61 = .ok (.ifCond .eq 7, 3) := by decide +kernel
theorem d_Mo_figures_64 : decode b_Mo_figures 64 = .ok (.iload_n 1, 1) := by decide +kernel
theorem d_Mo_figures_65 : decode b_Mo_figures 65 = .ok (.ifCond .le 32, 3) := by decide +kernel
theorem d_Mo_figures_68 : decode b_Mo_figures 68 = .ok (.bipush 10, 2) := by decide +kernel
theorem d_Mo_figures_70 : decode b_Mo_figures 70 = .ok (.iload_n 1, 1) := by decide +kernel
theorem d_Mo_figures_71 : decode b_Mo_figures 71 = .ok (.imul, 1) := by decide +kernel
theorem d_Mo_figures_72 : decode b_Mo_figures 72 = .ok (.aload_n 0, 1) := by decide +kernel
theorem d_Mo_figures_73 : decode b_Mo_figures 73 = .ok (.invokevirtual 64, 3) := by decide +kernel
theorem d_Mo_figures_76 : decode b_Mo_figures 76 = .ok (.iadd, 1) := by decide +kernel
theorem d_Mo_figures_77 : decode b_Mo_figures 77 = .ok (.bipush 48, 2) := by decide +kernel
theorem d_Mo_figures_79 : decode b_Mo_figures 79 = .ok (.isub, 1) := by decide +kernel
theorem d_Mo_figures_80 : decode b_Mo_figures 80 = .ok (.istore_n 1, 1) := by decide +kernel
theorem d_Mo_figures_81 : decode b_Mo_figures 81 = .ok (.aload_n 0, 1) := by decide +kernel
theorem d_Mo_figures_82 : decode b_Mo_figures 82 = .ok (.dup, 1) := by decide +kernel
theorem d_Mo_figures_83 : decode b_Mo_figures 83 = .ok (.getfield 54, 3) := by decide +kernel
theorem d_Mo_figures_86 : decode b_Mo_figures 86 = .ok (.iconst 1, 1) := by decide +kernel
theorem d_Mo_figures_87 : decode b_Mo_figures 87 = .ok (.iadd, 1) := by decide +kernel
theorem d_Mo_figures_88 : decode b_Mo_figures 88 = .ok (.putfield 54, 3) := by decide +kernel
theorem d_Mo_figures_91 : decode b_Mo_figures 91 = .ok (.iinc 2 1, 3) := by decide +kernel
theorem d_Mo_figures_94 : decode b_Mo_figures 94 = .ok (.goto (-60), 3) := by decide +kernel
theorem d_Mo_figures_97 : decode b_Mo_figures 97 = .ok (.iload_n 1, 1) := by decide +kernel
theorem d_Mo_figures_98 : decode b_Mo_figures 98 = .ok (.ireturn, 1) := by decide +kernel
theorem o_Mo_figures : OkV y_Mo_figures "OwnsLiftModel" b_Mo_figures 3 (some .int) 0 := ⟨⟨rfl, by decide +kernel, by decide +kernel, by decide +kernel⟩, g_1112, g_32, g_81, g_1113⟩
set_option maxHeartbeats 4000000 in
set_option maxRecDepth 100000 in
theorem c_Mo_figures (l : Launch) (D : va_G) (g : Nat → ClassId) (a : Nat → Nat) (z : T_Mo) (v : Int32 × T_Mo) (h : d_Mo_figures z = some v) :
    MI l y_Mo_figures b_Mo_figures 3 .int ({ frames := 1, cells := 0, slots := 0, locals := 22 } : Room) D g [.ref (a 0)] (ws_Mo g a z) (v.1) (ws_Mo g a v.2) := by
  have hd := h
  unfold d_Mo_figures at hd
  refine enterI rfl (Nat.le_of_ble_eq_true rfl) (fun p e s m below meth c A ls hx hb hml hr hown hg hlk hK hA hP hD hS hCs hl => ?_)
  have hown : s.vm.findClass "OwnsLiftModel" = some m.cls := hown
  have hl : lv_has ls 3 [(0, .ref (a 0))] := hl
  show GI p l e s m ({ frames := 1, cells := 0, slots := 0, locals := 22 } : Room) ([.ref (a 0)] : List Value).toArray below meth c A D g (ws_Mo g a v.2) (v.1) s.heap [] (F0 m 0 ls [])
  refine lv_aload_n hx hb d_Mo_figures_0 rfl (lv_at hl 0 rfl) ?_
  refine lv_aload_n hx hb d_Mo_figures_1 rfl (lv_at hl 0 rfl) ?_
  refine va_get (D := D) (ci := 1) (v := .int (q_Mo_isWrong z)) (C := R_Mo) (T := F_Mo) (N := 26) hx hb hg i_Mo hown hK hP 0 rfl rfl 8 (by decide) (hg _ g_1000) (fun _ h9 => h9) rfl d_Mo_figures_2 ?_
  refine lv_if_ne (tgt := 22) hx hb d_Mo_figures_5 (by decide) (fun h_1 => ?_) (fun h_1 => ?_)
  · have hd := ite_f hd h_1
    refine lv_iconst (v := 1) hx hb d_Mo_figures_22 (by decide) ?_
    refine lv_goto (tgt := 27) hx hb d_Mo_figures_23 (by decide) ?_
    refine va_put (D := D) (ci := 1) (v := .int 1) (ty := .boolean) (C := R_Mo) (T := F_Mo) (N := 26) hx hb hg i_Mo t_Mo t_Mo_ok n_Mo hown hK hP hD hS 0 rfl rfl 8 (by decide) (hg _ g_1000) (fun _ h9 => h9) rfl (by decide +kernel) (by decide +kernel) rfl (Nat.le_of_ble_eq_true rfl) d_Mo_figures_27 (fun H locs hP hD hS => ?_)
    have hP : va_P D classes (ws_Mo g a (u_Mo_isWrong z 1)) H := hP
    have hD : va_D A (ws_Mo g a (u_Mo_isWrong z 1)) := hD
    refine lv_iconst (v := 0) hx hb d_Mo_figures_30 (by decide) ?_
    refine lv_istore_n (lv' := [(1, .int 0), (0, .ref (a 0))]) hx hb d_Mo_figures_31 rfl hl (by decide) rfl (fun ls hl => ?_)
    refine lv_iconst (v := 0) hx hb d_Mo_figures_32 (by decide) ?_
    refine lv_istore_n (lv' := [(2, .int 0), (1, .int 0), (0, .ref (a 0))]) hx hb d_Mo_figures_33 rfl hl (by decide) rfl (fun ls hl => ?_)
    have lp34 : ∀ (n : Nat) (x1_34 : Int32) (x2_34 : Int32) (z_34 : T_Mo) (H : Heap) (locs : List Loc) (ls : Array Slot), va_P D classes (ws_Mo g a z_34) H → va_D A (ws_Mo g a z_34) → va_S A s.heap H locs → lv_has ls 3 [(0, .ref (a 0)), (1, .int x1_34), (2, .int x2_34)] → d_Mo_figures_L34 n x1_34 x2_34 z_34 = some v → GI p l e s m ({ frames := 1, cells := 0, slots := 0, locals := 22 } : Room) ([.ref (a 0)] : List Value).toArray below meth c A D g (ws_Mo g a v.2) (v.1) H locs (F0 m 34 ls []) := by
      intro n
      induction n with
      | zero =>
        intro  x1_34 x2_34 z_34 H locs ls hP hD hS hl hd
        have hd : none = some v := hd
        cases hd
      | succ n ih34 =>
        intro  x1_34 x2_34 z_34 H locs ls hP hD hS hl hd
        have hd : B_Mo_figures_L34 (d_Mo_figures_L34 n) x1_34 x2_34 z_34 = some v := hd
        generalize d_Mo_figures_L34 n = self34 at ih34 hd
        unfold B_Mo_figures_L34 at hd
        refine lv_iload_n hx hb d_Mo_figures_34 rfl (lv_at hl 2 rfl) ?_
        refine lv_iconst (v := 2) hx hb d_Mo_figures_35 (by decide) ?_
        refine lv_icmp_ge (tgt := 97) hx hb d_Mo_figures_36 (by decide) (fun h_2 => ?_) (fun h_2 => ?_)
        · have hd := ite_t hd h_2
          refine lv_iload_n hx hb d_Mo_figures_97 rfl (lv_at hl 1 rfl) ?_
          obtain rfl := Option.some.inj hd
          exact retI hx hb hr hlk hK hP hD hS d_Mo_figures_98 rfl
        · have hd := ite_f hd h_2
          refine lv_aload_n hx hb d_Mo_figures_39 rfl (lv_at hl 0 rfl) ?_
          refine va_get (D := D) (ci := 1) (v := .int (q_Mo_isWrong z_34)) (C := R_Mo) (T := F_Mo) (N := 26) hx hb hg i_Mo hown hK hP 0 rfl rfl 8 (by decide) (hg _ g_1000) (fun _ h9 => h9) rfl d_Mo_figures_40 ?_
          refine lv_if_ne (tgt := 97) hx hb d_Mo_figures_43 (by decide) (fun h_3 => ?_) (fun h_3 => ?_)
          · have hd := ite_f hd h_3
            refine lv_iload_n hx hb d_Mo_figures_97 rfl (lv_at hl 1 rfl) ?_
            obtain rfl := Option.some.inj hd
            exact retI hx hb hr hlk hK hP hD hS d_Mo_figures_98 rfl
          · have hd := ite_t hd h_3
            refine lv_aload_n hx hb d_Mo_figures_46 rfl (lv_at hl 0 rfl) ?_
            obtain ⟨v_4, e_5, hd⟩ := bind_s hd
            refine callVI (ws' := ws_Mo g a z_34) (rest := []) (As := []) hx hb hml hown hg hK hP hD hS hA hCs hl.1 (c_Mo_here l D g a z_34 _ e_5) o_Mo_here g_1087 (ci := 1) (q0 := 0) rfl rfl (List.range' 0 12) (segC1 rfl rfl) (by decide) rfl (segP1 rfl rfl) rfl rfl (Nat.le_of_ble_eq_true rfl) ⟨rfl, rfl, Nat.le_of_ble_eq_true rfl, Nat.le_of_ble_eq_true rfl⟩ d_Mo_figures_47 (fun H locs hP hD hS => ?_)
            refine lv_bipush (v := 48) hx hb d_Mo_figures_50 (by decide) ?_
            refine lv_bipush (v := 57) hx hb d_Mo_figures_52 (by decide) ?_
            obtain ⟨v_6, e_7, hd⟩ := bind_s hd
            refine callSI (ws' := ws_Mo g a z_34) (rest := []) (As := [.int v_4, .int 48, .int 57]) hx hb hml hown hg hK hP hD hS hA hCs hl.1 (c_Mo_in l D g  v_4 48 57 _ e_7) o_Mo_in g_1076 [] segC0 rfl rfl segP0 rfl rfl (Nat.le_of_ble_eq_true rfl) ⟨rfl, rfl, Nat.le_of_ble_eq_true rfl, Nat.le_of_ble_eq_true rfl⟩ d_Mo_figures_54 (fun H locs hP hD hS => ?_)
            refine lv_if_eq (tgt := 97) hx hb d_Mo_figures_57 (by decide) (fun h_8 => ?_) (fun h_8 => ?_)
            · have hd := ite_t hd h_8
              refine lv_iload_n hx hb d_Mo_figures_97 rfl (lv_at hl 1 rfl) ?_
              obtain rfl := Option.some.inj hd
              exact retI hx hb hr hlk hK hP hD hS d_Mo_figures_98 rfl
            · have hd := ite_f hd h_8
              refine lv_iload_n hx hb d_Mo_figures_60 rfl (lv_at hl 2 rfl) ?_
              refine lv_if_eq (tgt := 68) hx hb d_Mo_figures_61 (by decide) (fun h_9 => ?_) (fun h_9 => ?_)
              · have hd := ite_t hd h_9
                refine lv_bipush (v := 10) hx hb d_Mo_figures_68 (by decide) ?_
                refine lv_iload_n hx hb d_Mo_figures_70 rfl (lv_at hl 1 rfl) ?_
                refine lv_imul hx hb d_Mo_figures_71 ?_
                refine lv_aload_n hx hb d_Mo_figures_72 rfl (lv_at hl 0 rfl) ?_
                obtain ⟨v_10, e_11, hd⟩ := bind_s hd
                refine callVI (ws' := ws_Mo g a z_34) (rest := [.int (10 * x1_34)]) (As := []) hx hb hml hown hg hK hP hD hS hA hCs hl.1 (c_Mo_here l D g a z_34 _ e_11) o_Mo_here g_1087 (ci := 1) (q0 := 0) rfl rfl (List.range' 0 12) (segC1 rfl rfl) (by decide) rfl (segP1 rfl rfl) rfl rfl (Nat.le_of_ble_eq_true rfl) ⟨rfl, rfl, Nat.le_of_ble_eq_true rfl, Nat.le_of_ble_eq_true rfl⟩ d_Mo_figures_73 (fun H locs hP hD hS => ?_)
                refine lv_iadd hx hb d_Mo_figures_76 ?_
                refine lv_bipush (v := 48) hx hb d_Mo_figures_77 (by decide) ?_
                refine lv_isub hx hb d_Mo_figures_79 ?_
                refine lv_istore_n (lv' := [(1, .int (((10 * x1_34) + v_10) - 48)), (0, .ref (a 0)), (2, .int x2_34)]) hx hb d_Mo_figures_80 rfl hl (by decide) rfl (fun ls hl => ?_)
                refine lv_aload_n hx hb d_Mo_figures_81 rfl (lv_at hl 1 rfl) ?_
                refine lv_dup hx hb d_Mo_figures_82 rfl ?_
                refine va_get (D := D) (ci := 1) (v := .int (q_Mo_spot z_34)) (C := R_Mo) (T := F_Mo) (N := 26) hx hb hg i_Mo hown hK hP 0 rfl rfl 6 (by decide) (hg _ g_998) (fun _ h9 => h9) rfl d_Mo_figures_83 ?_
                refine lv_iconst (v := 1) hx hb d_Mo_figures_86 (by decide) ?_
                refine lv_iadd hx hb d_Mo_figures_87 ?_
                refine va_put (D := D) (ci := 1) (v := .int ((q_Mo_spot z_34) + 1)) (ty := .int) (C := R_Mo) (T := F_Mo) (N := 26) hx hb hg i_Mo t_Mo t_Mo_ok n_Mo hown hK hP hD hS 0 rfl rfl 6 (by decide) (hg _ g_998) (fun _ h9 => h9) rfl (by decide +kernel) rfl rfl (Nat.le_of_ble_eq_true rfl) d_Mo_figures_88 (fun H locs hP hD hS => ?_)
                have hP : va_P D classes (ws_Mo g a (u_Mo_spot z_34 ((q_Mo_spot z_34) + 1))) H := hP
                have hD : va_D A (ws_Mo g a (u_Mo_spot z_34 ((q_Mo_spot z_34) + 1))) := hD
                refine lv_iinc (v := x2_34 + 1) (lv' := [(2, .int (x2_34 + 1)), (1, .int (((10 * x1_34) + v_10) - 48)), (0, .ref (a 0))]) hx hb d_Mo_figures_91 hl (k := 2) rfl (by rfl) (by decide) rfl (fun ls hl => ?_)
                refine lv_goto (tgt := 34) hx hb d_Mo_figures_94 (by decide) ?_
                exact ih34 (((10 * x1_34) + v_10) - 48) (x2_34 + 1) (u_Mo_spot z_34 ((q_Mo_spot z_34) + 1)) _ _ _ hP hD hS (lv_sub hl [2, 1, 0] rfl) hd
              · have hd := ite_f hd h_9
                refine lv_iload_n hx hb d_Mo_figures_64 rfl (lv_at hl 1 rfl) ?_
                refine lv_if_le (tgt := 97) hx hb d_Mo_figures_65 (by decide) (fun h_12 => ?_) (fun h_12 => ?_)
                · have hd := ite_t hd h_12
                  refine lv_iload_n hx hb d_Mo_figures_97 rfl (lv_at hl 1 rfl) ?_
                  obtain rfl := Option.some.inj hd
                  exact retI hx hb hr hlk hK hP hD hS d_Mo_figures_98 rfl
                · have hd := ite_f hd h_12
                  refine lv_bipush (v := 10) hx hb d_Mo_figures_68 (by decide) ?_
                  refine lv_iload_n hx hb d_Mo_figures_70 rfl (lv_at hl 1 rfl) ?_
                  refine lv_imul hx hb d_Mo_figures_71 ?_
                  refine lv_aload_n hx hb d_Mo_figures_72 rfl (lv_at hl 0 rfl) ?_
                  obtain ⟨v_13, e_14, hd⟩ := bind_s hd
                  refine callVI (ws' := ws_Mo g a z_34) (rest := [.int (10 * x1_34)]) (As := []) hx hb hml hown hg hK hP hD hS hA hCs hl.1 (c_Mo_here l D g a z_34 _ e_14) o_Mo_here g_1087 (ci := 1) (q0 := 0) rfl rfl (List.range' 0 12) (segC1 rfl rfl) (by decide) rfl (segP1 rfl rfl) rfl rfl (Nat.le_of_ble_eq_true rfl) ⟨rfl, rfl, Nat.le_of_ble_eq_true rfl, Nat.le_of_ble_eq_true rfl⟩ d_Mo_figures_73 (fun H locs hP hD hS => ?_)
                  refine lv_iadd hx hb d_Mo_figures_76 ?_
                  refine lv_bipush (v := 48) hx hb d_Mo_figures_77 (by decide) ?_
                  refine lv_isub hx hb d_Mo_figures_79 ?_
                  refine lv_istore_n (lv' := [(1, .int (((10 * x1_34) + v_13) - 48)), (0, .ref (a 0)), (2, .int x2_34)]) hx hb d_Mo_figures_80 rfl hl (by decide) rfl (fun ls hl => ?_)
                  refine lv_aload_n hx hb d_Mo_figures_81 rfl (lv_at hl 1 rfl) ?_
                  refine lv_dup hx hb d_Mo_figures_82 rfl ?_
                  refine va_get (D := D) (ci := 1) (v := .int (q_Mo_spot z_34)) (C := R_Mo) (T := F_Mo) (N := 26) hx hb hg i_Mo hown hK hP 0 rfl rfl 6 (by decide) (hg _ g_998) (fun _ h9 => h9) rfl d_Mo_figures_83 ?_
                  refine lv_iconst (v := 1) hx hb d_Mo_figures_86 (by decide) ?_
                  refine lv_iadd hx hb d_Mo_figures_87 ?_
                  refine va_put (D := D) (ci := 1) (v := .int ((q_Mo_spot z_34) + 1)) (ty := .int) (C := R_Mo) (T := F_Mo) (N := 26) hx hb hg i_Mo t_Mo t_Mo_ok n_Mo hown hK hP hD hS 0 rfl rfl 6 (by decide) (hg _ g_998) (fun _ h9 => h9) rfl (by decide +kernel) rfl rfl (Nat.le_of_ble_eq_true rfl) d_Mo_figures_88 (fun H locs hP hD hS => ?_)
                  have hP : va_P D classes (ws_Mo g a (u_Mo_spot z_34 ((q_Mo_spot z_34) + 1))) H := hP
                  have hD : va_D A (ws_Mo g a (u_Mo_spot z_34 ((q_Mo_spot z_34) + 1))) := hD
                  refine lv_iinc (v := x2_34 + 1) (lv' := [(2, .int (x2_34 + 1)), (1, .int (((10 * x1_34) + v_13) - 48)), (0, .ref (a 0))]) hx hb d_Mo_figures_91 hl (k := 2) rfl (by rfl) (by decide) rfl (fun ls hl => ?_)
                  refine lv_goto (tgt := 34) hx hb d_Mo_figures_94 (by decide) ?_
                  exact ih34 (((10 * x1_34) + v_13) - 48) (x2_34 + 1) (u_Mo_spot z_34 ((q_Mo_spot z_34) + 1)) _ _ _ hP hD hS (lv_sub hl [2, 1, 0] rfl) hd
    exact lp34 1000 0 0 (u_Mo_isWrong z 1) _ _ _ hP hD hS (lv_sub hl [2, 1, 0] rfl) hd
  · have hd := ite_t hd h_1
    refine lv_aload_n hx hb d_Mo_figures_8 rfl (lv_at hl 0 rfl) ?_
    obtain ⟨v_15, e_16, hd⟩ := bind_s hd
    refine callVI (ws' := ws_Mo g a z) (rest := [.ref (a 0)]) (As := []) hx hb hml hown hg hK hP hD hS hA hCs hl.1 (c_Mo_here l D g a z _ e_16) o_Mo_here g_1087 (ci := 1) (q0 := 0) rfl rfl (List.range' 0 12) (segC1 rfl rfl) (by decide) rfl (segP1 rfl rfl) rfl rfl (Nat.le_of_ble_eq_true rfl) ⟨rfl, rfl, Nat.le_of_ble_eq_true rfl, Nat.le_of_ble_eq_true rfl⟩ d_Mo_figures_9 (fun H locs hP hD hS => ?_)
    refine lv_bipush (v := 48) hx hb d_Mo_figures_12 (by decide) ?_
    refine lv_bipush (v := 57) hx hb d_Mo_figures_14 (by decide) ?_
    obtain ⟨v_17, e_18, hd⟩ := bind_s hd
    refine callSI (ws' := ws_Mo g a z) (rest := [.ref (a 0)]) (As := [.int v_15, .int 48, .int 57]) hx hb hml hown hg hK hP hD hS hA hCs hl.1 (c_Mo_in l D g  v_15 48 57 _ e_18) o_Mo_in g_1076 [] segC0 rfl rfl segP0 rfl rfl (Nat.le_of_ble_eq_true rfl) ⟨rfl, rfl, Nat.le_of_ble_eq_true rfl, Nat.le_of_ble_eq_true rfl⟩ d_Mo_figures_16 (fun H locs hP hD hS => ?_)
    refine lv_if_ne (tgt := 26) hx hb d_Mo_figures_19 (by decide) (fun h_19 => ?_) (fun h_19 => ?_)
    · have hd := ite_f hd h_19
      refine lv_iconst (v := 0) hx hb d_Mo_figures_26 (by decide) ?_
      refine va_put (D := D) (ci := 1) (v := .int 0) (ty := .boolean) (C := R_Mo) (T := F_Mo) (N := 26) hx hb hg i_Mo t_Mo t_Mo_ok n_Mo hown hK hP hD hS 0 rfl rfl 8 (by decide) (hg _ g_1000) (fun _ h9 => h9) rfl (by decide +kernel) (by decide +kernel) rfl (Nat.le_of_ble_eq_true rfl) d_Mo_figures_27 (fun H locs hP hD hS => ?_)
      have hP : va_P D classes (ws_Mo g a (u_Mo_isWrong z 0)) H := hP
      have hD : va_D A (ws_Mo g a (u_Mo_isWrong z 0)) := hD
      refine lv_iconst (v := 0) hx hb d_Mo_figures_30 (by decide) ?_
      refine lv_istore_n (lv' := [(1, .int 0), (0, .ref (a 0))]) hx hb d_Mo_figures_31 rfl hl (by decide) rfl (fun ls hl => ?_)
      refine lv_iconst (v := 0) hx hb d_Mo_figures_32 (by decide) ?_
      refine lv_istore_n (lv' := [(2, .int 0), (1, .int 0), (0, .ref (a 0))]) hx hb d_Mo_figures_33 rfl hl (by decide) rfl (fun ls hl => ?_)
      have lp34 : ∀ (n : Nat) (x1_34 : Int32) (x2_34 : Int32) (z_34 : T_Mo) (H : Heap) (locs : List Loc) (ls : Array Slot), va_P D classes (ws_Mo g a z_34) H → va_D A (ws_Mo g a z_34) → va_S A s.heap H locs → lv_has ls 3 [(0, .ref (a 0)), (1, .int x1_34), (2, .int x2_34)] → d_Mo_figures_L34 n x1_34 x2_34 z_34 = some v → GI p l e s m ({ frames := 1, cells := 0, slots := 0, locals := 22 } : Room) ([.ref (a 0)] : List Value).toArray below meth c A D g (ws_Mo g a v.2) (v.1) H locs (F0 m 34 ls []) := by
        intro n
        induction n with
        | zero =>
          intro  x1_34 x2_34 z_34 H locs ls hP hD hS hl hd
          have hd : none = some v := hd
          cases hd
        | succ n ih34 =>
          intro  x1_34 x2_34 z_34 H locs ls hP hD hS hl hd
          have hd : B_Mo_figures_L34 (d_Mo_figures_L34 n) x1_34 x2_34 z_34 = some v := hd
          generalize d_Mo_figures_L34 n = self34 at ih34 hd
          unfold B_Mo_figures_L34 at hd
          refine lv_iload_n hx hb d_Mo_figures_34 rfl (lv_at hl 2 rfl) ?_
          refine lv_iconst (v := 2) hx hb d_Mo_figures_35 (by decide) ?_
          refine lv_icmp_ge (tgt := 97) hx hb d_Mo_figures_36 (by decide) (fun h_20 => ?_) (fun h_20 => ?_)
          · have hd := ite_t hd h_20
            refine lv_iload_n hx hb d_Mo_figures_97 rfl (lv_at hl 1 rfl) ?_
            obtain rfl := Option.some.inj hd
            exact retI hx hb hr hlk hK hP hD hS d_Mo_figures_98 rfl
          · have hd := ite_f hd h_20
            refine lv_aload_n hx hb d_Mo_figures_39 rfl (lv_at hl 0 rfl) ?_
            refine va_get (D := D) (ci := 1) (v := .int (q_Mo_isWrong z_34)) (C := R_Mo) (T := F_Mo) (N := 26) hx hb hg i_Mo hown hK hP 0 rfl rfl 8 (by decide) (hg _ g_1000) (fun _ h9 => h9) rfl d_Mo_figures_40 ?_
            refine lv_if_ne (tgt := 97) hx hb d_Mo_figures_43 (by decide) (fun h_21 => ?_) (fun h_21 => ?_)
            · have hd := ite_f hd h_21
              refine lv_iload_n hx hb d_Mo_figures_97 rfl (lv_at hl 1 rfl) ?_
              obtain rfl := Option.some.inj hd
              exact retI hx hb hr hlk hK hP hD hS d_Mo_figures_98 rfl
            · have hd := ite_t hd h_21
              refine lv_aload_n hx hb d_Mo_figures_46 rfl (lv_at hl 0 rfl) ?_
              obtain ⟨v_22, e_23, hd⟩ := bind_s hd
              refine callVI (ws' := ws_Mo g a z_34) (rest := []) (As := []) hx hb hml hown hg hK hP hD hS hA hCs hl.1 (c_Mo_here l D g a z_34 _ e_23) o_Mo_here g_1087 (ci := 1) (q0 := 0) rfl rfl (List.range' 0 12) (segC1 rfl rfl) (by decide) rfl (segP1 rfl rfl) rfl rfl (Nat.le_of_ble_eq_true rfl) ⟨rfl, rfl, Nat.le_of_ble_eq_true rfl, Nat.le_of_ble_eq_true rfl⟩ d_Mo_figures_47 (fun H locs hP hD hS => ?_)
              refine lv_bipush (v := 48) hx hb d_Mo_figures_50 (by decide) ?_
              refine lv_bipush (v := 57) hx hb d_Mo_figures_52 (by decide) ?_
              obtain ⟨v_24, e_25, hd⟩ := bind_s hd
              refine callSI (ws' := ws_Mo g a z_34) (rest := []) (As := [.int v_22, .int 48, .int 57]) hx hb hml hown hg hK hP hD hS hA hCs hl.1 (c_Mo_in l D g  v_22 48 57 _ e_25) o_Mo_in g_1076 [] segC0 rfl rfl segP0 rfl rfl (Nat.le_of_ble_eq_true rfl) ⟨rfl, rfl, Nat.le_of_ble_eq_true rfl, Nat.le_of_ble_eq_true rfl⟩ d_Mo_figures_54 (fun H locs hP hD hS => ?_)
              refine lv_if_eq (tgt := 97) hx hb d_Mo_figures_57 (by decide) (fun h_26 => ?_) (fun h_26 => ?_)
              · have hd := ite_t hd h_26
                refine lv_iload_n hx hb d_Mo_figures_97 rfl (lv_at hl 1 rfl) ?_
                obtain rfl := Option.some.inj hd
                exact retI hx hb hr hlk hK hP hD hS d_Mo_figures_98 rfl
              · have hd := ite_f hd h_26
                refine lv_iload_n hx hb d_Mo_figures_60 rfl (lv_at hl 2 rfl) ?_
                refine lv_if_eq (tgt := 68) hx hb d_Mo_figures_61 (by decide) (fun h_27 => ?_) (fun h_27 => ?_)
                · have hd := ite_t hd h_27
                  refine lv_bipush (v := 10) hx hb d_Mo_figures_68 (by decide) ?_
                  refine lv_iload_n hx hb d_Mo_figures_70 rfl (lv_at hl 1 rfl) ?_
                  refine lv_imul hx hb d_Mo_figures_71 ?_
                  refine lv_aload_n hx hb d_Mo_figures_72 rfl (lv_at hl 0 rfl) ?_
                  obtain ⟨v_28, e_29, hd⟩ := bind_s hd
                  refine callVI (ws' := ws_Mo g a z_34) (rest := [.int (10 * x1_34)]) (As := []) hx hb hml hown hg hK hP hD hS hA hCs hl.1 (c_Mo_here l D g a z_34 _ e_29) o_Mo_here g_1087 (ci := 1) (q0 := 0) rfl rfl (List.range' 0 12) (segC1 rfl rfl) (by decide) rfl (segP1 rfl rfl) rfl rfl (Nat.le_of_ble_eq_true rfl) ⟨rfl, rfl, Nat.le_of_ble_eq_true rfl, Nat.le_of_ble_eq_true rfl⟩ d_Mo_figures_73 (fun H locs hP hD hS => ?_)
                  refine lv_iadd hx hb d_Mo_figures_76 ?_
                  refine lv_bipush (v := 48) hx hb d_Mo_figures_77 (by decide) ?_
                  refine lv_isub hx hb d_Mo_figures_79 ?_
                  refine lv_istore_n (lv' := [(1, .int (((10 * x1_34) + v_28) - 48)), (0, .ref (a 0)), (2, .int x2_34)]) hx hb d_Mo_figures_80 rfl hl (by decide) rfl (fun ls hl => ?_)
                  refine lv_aload_n hx hb d_Mo_figures_81 rfl (lv_at hl 1 rfl) ?_
                  refine lv_dup hx hb d_Mo_figures_82 rfl ?_
                  refine va_get (D := D) (ci := 1) (v := .int (q_Mo_spot z_34)) (C := R_Mo) (T := F_Mo) (N := 26) hx hb hg i_Mo hown hK hP 0 rfl rfl 6 (by decide) (hg _ g_998) (fun _ h9 => h9) rfl d_Mo_figures_83 ?_
                  refine lv_iconst (v := 1) hx hb d_Mo_figures_86 (by decide) ?_
                  refine lv_iadd hx hb d_Mo_figures_87 ?_
                  refine va_put (D := D) (ci := 1) (v := .int ((q_Mo_spot z_34) + 1)) (ty := .int) (C := R_Mo) (T := F_Mo) (N := 26) hx hb hg i_Mo t_Mo t_Mo_ok n_Mo hown hK hP hD hS 0 rfl rfl 6 (by decide) (hg _ g_998) (fun _ h9 => h9) rfl (by decide +kernel) rfl rfl (Nat.le_of_ble_eq_true rfl) d_Mo_figures_88 (fun H locs hP hD hS => ?_)
                  have hP : va_P D classes (ws_Mo g a (u_Mo_spot z_34 ((q_Mo_spot z_34) + 1))) H := hP
                  have hD : va_D A (ws_Mo g a (u_Mo_spot z_34 ((q_Mo_spot z_34) + 1))) := hD
                  refine lv_iinc (v := x2_34 + 1) (lv' := [(2, .int (x2_34 + 1)), (1, .int (((10 * x1_34) + v_28) - 48)), (0, .ref (a 0))]) hx hb d_Mo_figures_91 hl (k := 2) rfl (by rfl) (by decide) rfl (fun ls hl => ?_)
                  refine lv_goto (tgt := 34) hx hb d_Mo_figures_94 (by decide) ?_
                  exact ih34 (((10 * x1_34) + v_28) - 48) (x2_34 + 1) (u_Mo_spot z_34 ((q_Mo_spot z_34) + 1)) _ _ _ hP hD hS (lv_sub hl [2, 1, 0] rfl) hd
                · have hd := ite_f hd h_27
                  refine lv_iload_n hx hb d_Mo_figures_64 rfl (lv_at hl 1 rfl) ?_
                  refine lv_if_le (tgt := 97) hx hb d_Mo_figures_65 (by decide) (fun h_30 => ?_) (fun h_30 => ?_)
                  · have hd := ite_t hd h_30
                    refine lv_iload_n hx hb d_Mo_figures_97 rfl (lv_at hl 1 rfl) ?_
                    obtain rfl := Option.some.inj hd
                    exact retI hx hb hr hlk hK hP hD hS d_Mo_figures_98 rfl
                  · have hd := ite_f hd h_30
                    refine lv_bipush (v := 10) hx hb d_Mo_figures_68 (by decide) ?_
                    refine lv_iload_n hx hb d_Mo_figures_70 rfl (lv_at hl 1 rfl) ?_
                    refine lv_imul hx hb d_Mo_figures_71 ?_
                    refine lv_aload_n hx hb d_Mo_figures_72 rfl (lv_at hl 0 rfl) ?_
                    obtain ⟨v_31, e_32, hd⟩ := bind_s hd
                    refine callVI (ws' := ws_Mo g a z_34) (rest := [.int (10 * x1_34)]) (As := []) hx hb hml hown hg hK hP hD hS hA hCs hl.1 (c_Mo_here l D g a z_34 _ e_32) o_Mo_here g_1087 (ci := 1) (q0 := 0) rfl rfl (List.range' 0 12) (segC1 rfl rfl) (by decide) rfl (segP1 rfl rfl) rfl rfl (Nat.le_of_ble_eq_true rfl) ⟨rfl, rfl, Nat.le_of_ble_eq_true rfl, Nat.le_of_ble_eq_true rfl⟩ d_Mo_figures_73 (fun H locs hP hD hS => ?_)
                    refine lv_iadd hx hb d_Mo_figures_76 ?_
                    refine lv_bipush (v := 48) hx hb d_Mo_figures_77 (by decide) ?_
                    refine lv_isub hx hb d_Mo_figures_79 ?_
                    refine lv_istore_n (lv' := [(1, .int (((10 * x1_34) + v_31) - 48)), (0, .ref (a 0)), (2, .int x2_34)]) hx hb d_Mo_figures_80 rfl hl (by decide) rfl (fun ls hl => ?_)
                    refine lv_aload_n hx hb d_Mo_figures_81 rfl (lv_at hl 1 rfl) ?_
                    refine lv_dup hx hb d_Mo_figures_82 rfl ?_
                    refine va_get (D := D) (ci := 1) (v := .int (q_Mo_spot z_34)) (C := R_Mo) (T := F_Mo) (N := 26) hx hb hg i_Mo hown hK hP 0 rfl rfl 6 (by decide) (hg _ g_998) (fun _ h9 => h9) rfl d_Mo_figures_83 ?_
                    refine lv_iconst (v := 1) hx hb d_Mo_figures_86 (by decide) ?_
                    refine lv_iadd hx hb d_Mo_figures_87 ?_
                    refine va_put (D := D) (ci := 1) (v := .int ((q_Mo_spot z_34) + 1)) (ty := .int) (C := R_Mo) (T := F_Mo) (N := 26) hx hb hg i_Mo t_Mo t_Mo_ok n_Mo hown hK hP hD hS 0 rfl rfl 6 (by decide) (hg _ g_998) (fun _ h9 => h9) rfl (by decide +kernel) rfl rfl (Nat.le_of_ble_eq_true rfl) d_Mo_figures_88 (fun H locs hP hD hS => ?_)
                    have hP : va_P D classes (ws_Mo g a (u_Mo_spot z_34 ((q_Mo_spot z_34) + 1))) H := hP
                    have hD : va_D A (ws_Mo g a (u_Mo_spot z_34 ((q_Mo_spot z_34) + 1))) := hD
                    refine lv_iinc (v := x2_34 + 1) (lv' := [(2, .int (x2_34 + 1)), (1, .int (((10 * x1_34) + v_31) - 48)), (0, .ref (a 0))]) hx hb d_Mo_figures_91 hl (k := 2) rfl (by rfl) (by decide) rfl (fun ls hl => ?_)
                    refine lv_goto (tgt := 34) hx hb d_Mo_figures_94 (by decide) ?_
                    exact ih34 (((10 * x1_34) + v_31) - 48) (x2_34 + 1) (u_Mo_spot z_34 ((q_Mo_spot z_34) + 1)) _ _ _ hP hD hS (lv_sub hl [2, 1, 0] rfl) hd
      exact lp34 1000 0 0 (u_Mo_isWrong z 0) _ _ _ hP hD hS (lv_sub hl [2, 1, 0] rfl) hd
    · have hd := ite_t hd h_19
      refine lv_iconst (v := 1) hx hb d_Mo_figures_22 (by decide) ?_
      refine lv_goto (tgt := 27) hx hb d_Mo_figures_23 (by decide) ?_
      refine va_put (D := D) (ci := 1) (v := .int 1) (ty := .boolean) (C := R_Mo) (T := F_Mo) (N := 26) hx hb hg i_Mo t_Mo t_Mo_ok n_Mo hown hK hP hD hS 0 rfl rfl 8 (by decide) (hg _ g_1000) (fun _ h9 => h9) rfl (by decide +kernel) (by decide +kernel) rfl (Nat.le_of_ble_eq_true rfl) d_Mo_figures_27 (fun H locs hP hD hS => ?_)
      have hP : va_P D classes (ws_Mo g a (u_Mo_isWrong z 1)) H := hP
      have hD : va_D A (ws_Mo g a (u_Mo_isWrong z 1)) := hD
      refine lv_iconst (v := 0) hx hb d_Mo_figures_30 (by decide) ?_
      refine lv_istore_n (lv' := [(1, .int 0), (0, .ref (a 0))]) hx hb d_Mo_figures_31 rfl hl (by decide) rfl (fun ls hl => ?_)
      refine lv_iconst (v := 0) hx hb d_Mo_figures_32 (by decide) ?_
      refine lv_istore_n (lv' := [(2, .int 0), (1, .int 0), (0, .ref (a 0))]) hx hb d_Mo_figures_33 rfl hl (by decide) rfl (fun ls hl => ?_)
      have lp34 : ∀ (n : Nat) (x1_34 : Int32) (x2_34 : Int32) (z_34 : T_Mo) (H : Heap) (locs : List Loc) (ls : Array Slot), va_P D classes (ws_Mo g a z_34) H → va_D A (ws_Mo g a z_34) → va_S A s.heap H locs → lv_has ls 3 [(0, .ref (a 0)), (1, .int x1_34), (2, .int x2_34)] → d_Mo_figures_L34 n x1_34 x2_34 z_34 = some v → GI p l e s m ({ frames := 1, cells := 0, slots := 0, locals := 22 } : Room) ([.ref (a 0)] : List Value).toArray below meth c A D g (ws_Mo g a v.2) (v.1) H locs (F0 m 34 ls []) := by
        intro n
        induction n with
        | zero =>
          intro  x1_34 x2_34 z_34 H locs ls hP hD hS hl hd
          have hd : none = some v := hd
          cases hd
        | succ n ih34 =>
          intro  x1_34 x2_34 z_34 H locs ls hP hD hS hl hd
          have hd : B_Mo_figures_L34 (d_Mo_figures_L34 n) x1_34 x2_34 z_34 = some v := hd
          generalize d_Mo_figures_L34 n = self34 at ih34 hd
          unfold B_Mo_figures_L34 at hd
          refine lv_iload_n hx hb d_Mo_figures_34 rfl (lv_at hl 2 rfl) ?_
          refine lv_iconst (v := 2) hx hb d_Mo_figures_35 (by decide) ?_
          refine lv_icmp_ge (tgt := 97) hx hb d_Mo_figures_36 (by decide) (fun h_33 => ?_) (fun h_33 => ?_)
          · have hd := ite_t hd h_33
            refine lv_iload_n hx hb d_Mo_figures_97 rfl (lv_at hl 1 rfl) ?_
            obtain rfl := Option.some.inj hd
            exact retI hx hb hr hlk hK hP hD hS d_Mo_figures_98 rfl
          · have hd := ite_f hd h_33
            refine lv_aload_n hx hb d_Mo_figures_39 rfl (lv_at hl 0 rfl) ?_
            refine va_get (D := D) (ci := 1) (v := .int (q_Mo_isWrong z_34)) (C := R_Mo) (T := F_Mo) (N := 26) hx hb hg i_Mo hown hK hP 0 rfl rfl 8 (by decide) (hg _ g_1000) (fun _ h9 => h9) rfl d_Mo_figures_40 ?_
            refine lv_if_ne (tgt := 97) hx hb d_Mo_figures_43 (by decide) (fun h_34 => ?_) (fun h_34 => ?_)
            · have hd := ite_f hd h_34
              refine lv_iload_n hx hb d_Mo_figures_97 rfl (lv_at hl 1 rfl) ?_
              obtain rfl := Option.some.inj hd
              exact retI hx hb hr hlk hK hP hD hS d_Mo_figures_98 rfl
            · have hd := ite_t hd h_34
              refine lv_aload_n hx hb d_Mo_figures_46 rfl (lv_at hl 0 rfl) ?_
              obtain ⟨v_35, e_36, hd⟩ := bind_s hd
              refine callVI (ws' := ws_Mo g a z_34) (rest := []) (As := []) hx hb hml hown hg hK hP hD hS hA hCs hl.1 (c_Mo_here l D g a z_34 _ e_36) o_Mo_here g_1087 (ci := 1) (q0 := 0) rfl rfl (List.range' 0 12) (segC1 rfl rfl) (by decide) rfl (segP1 rfl rfl) rfl rfl (Nat.le_of_ble_eq_true rfl) ⟨rfl, rfl, Nat.le_of_ble_eq_true rfl, Nat.le_of_ble_eq_true rfl⟩ d_Mo_figures_47 (fun H locs hP hD hS => ?_)
              refine lv_bipush (v := 48) hx hb d_Mo_figures_50 (by decide) ?_
              refine lv_bipush (v := 57) hx hb d_Mo_figures_52 (by decide) ?_
              obtain ⟨v_37, e_38, hd⟩ := bind_s hd
              refine callSI (ws' := ws_Mo g a z_34) (rest := []) (As := [.int v_35, .int 48, .int 57]) hx hb hml hown hg hK hP hD hS hA hCs hl.1 (c_Mo_in l D g  v_35 48 57 _ e_38) o_Mo_in g_1076 [] segC0 rfl rfl segP0 rfl rfl (Nat.le_of_ble_eq_true rfl) ⟨rfl, rfl, Nat.le_of_ble_eq_true rfl, Nat.le_of_ble_eq_true rfl⟩ d_Mo_figures_54 (fun H locs hP hD hS => ?_)
              refine lv_if_eq (tgt := 97) hx hb d_Mo_figures_57 (by decide) (fun h_39 => ?_) (fun h_39 => ?_)
              · have hd := ite_t hd h_39
                refine lv_iload_n hx hb d_Mo_figures_97 rfl (lv_at hl 1 rfl) ?_
                obtain rfl := Option.some.inj hd
                exact retI hx hb hr hlk hK hP hD hS d_Mo_figures_98 rfl
              · have hd := ite_f hd h_39
                refine lv_iload_n hx hb d_Mo_figures_60 rfl (lv_at hl 2 rfl) ?_
                refine lv_if_eq (tgt := 68) hx hb d_Mo_figures_61 (by decide) (fun h_40 => ?_) (fun h_40 => ?_)
                · have hd := ite_t hd h_40
                  refine lv_bipush (v := 10) hx hb d_Mo_figures_68 (by decide) ?_
                  refine lv_iload_n hx hb d_Mo_figures_70 rfl (lv_at hl 1 rfl) ?_
                  refine lv_imul hx hb d_Mo_figures_71 ?_
                  refine lv_aload_n hx hb d_Mo_figures_72 rfl (lv_at hl 0 rfl) ?_
                  obtain ⟨v_41, e_42, hd⟩ := bind_s hd
                  refine callVI (ws' := ws_Mo g a z_34) (rest := [.int (10 * x1_34)]) (As := []) hx hb hml hown hg hK hP hD hS hA hCs hl.1 (c_Mo_here l D g a z_34 _ e_42) o_Mo_here g_1087 (ci := 1) (q0 := 0) rfl rfl (List.range' 0 12) (segC1 rfl rfl) (by decide) rfl (segP1 rfl rfl) rfl rfl (Nat.le_of_ble_eq_true rfl) ⟨rfl, rfl, Nat.le_of_ble_eq_true rfl, Nat.le_of_ble_eq_true rfl⟩ d_Mo_figures_73 (fun H locs hP hD hS => ?_)
                  refine lv_iadd hx hb d_Mo_figures_76 ?_
                  refine lv_bipush (v := 48) hx hb d_Mo_figures_77 (by decide) ?_
                  refine lv_isub hx hb d_Mo_figures_79 ?_
                  refine lv_istore_n (lv' := [(1, .int (((10 * x1_34) + v_41) - 48)), (0, .ref (a 0)), (2, .int x2_34)]) hx hb d_Mo_figures_80 rfl hl (by decide) rfl (fun ls hl => ?_)
                  refine lv_aload_n hx hb d_Mo_figures_81 rfl (lv_at hl 1 rfl) ?_
                  refine lv_dup hx hb d_Mo_figures_82 rfl ?_
                  refine va_get (D := D) (ci := 1) (v := .int (q_Mo_spot z_34)) (C := R_Mo) (T := F_Mo) (N := 26) hx hb hg i_Mo hown hK hP 0 rfl rfl 6 (by decide) (hg _ g_998) (fun _ h9 => h9) rfl d_Mo_figures_83 ?_
                  refine lv_iconst (v := 1) hx hb d_Mo_figures_86 (by decide) ?_
                  refine lv_iadd hx hb d_Mo_figures_87 ?_
                  refine va_put (D := D) (ci := 1) (v := .int ((q_Mo_spot z_34) + 1)) (ty := .int) (C := R_Mo) (T := F_Mo) (N := 26) hx hb hg i_Mo t_Mo t_Mo_ok n_Mo hown hK hP hD hS 0 rfl rfl 6 (by decide) (hg _ g_998) (fun _ h9 => h9) rfl (by decide +kernel) rfl rfl (Nat.le_of_ble_eq_true rfl) d_Mo_figures_88 (fun H locs hP hD hS => ?_)
                  have hP : va_P D classes (ws_Mo g a (u_Mo_spot z_34 ((q_Mo_spot z_34) + 1))) H := hP
                  have hD : va_D A (ws_Mo g a (u_Mo_spot z_34 ((q_Mo_spot z_34) + 1))) := hD
                  refine lv_iinc (v := x2_34 + 1) (lv' := [(2, .int (x2_34 + 1)), (1, .int (((10 * x1_34) + v_41) - 48)), (0, .ref (a 0))]) hx hb d_Mo_figures_91 hl (k := 2) rfl (by rfl) (by decide) rfl (fun ls hl => ?_)
                  refine lv_goto (tgt := 34) hx hb d_Mo_figures_94 (by decide) ?_
                  exact ih34 (((10 * x1_34) + v_41) - 48) (x2_34 + 1) (u_Mo_spot z_34 ((q_Mo_spot z_34) + 1)) _ _ _ hP hD hS (lv_sub hl [2, 1, 0] rfl) hd
                · have hd := ite_f hd h_40
                  refine lv_iload_n hx hb d_Mo_figures_64 rfl (lv_at hl 1 rfl) ?_
                  refine lv_if_le (tgt := 97) hx hb d_Mo_figures_65 (by decide) (fun h_43 => ?_) (fun h_43 => ?_)
                  · have hd := ite_t hd h_43
                    refine lv_iload_n hx hb d_Mo_figures_97 rfl (lv_at hl 1 rfl) ?_
                    obtain rfl := Option.some.inj hd
                    exact retI hx hb hr hlk hK hP hD hS d_Mo_figures_98 rfl
                  · have hd := ite_f hd h_43
                    refine lv_bipush (v := 10) hx hb d_Mo_figures_68 (by decide) ?_
                    refine lv_iload_n hx hb d_Mo_figures_70 rfl (lv_at hl 1 rfl) ?_
                    refine lv_imul hx hb d_Mo_figures_71 ?_
                    refine lv_aload_n hx hb d_Mo_figures_72 rfl (lv_at hl 0 rfl) ?_
                    obtain ⟨v_44, e_45, hd⟩ := bind_s hd
                    refine callVI (ws' := ws_Mo g a z_34) (rest := [.int (10 * x1_34)]) (As := []) hx hb hml hown hg hK hP hD hS hA hCs hl.1 (c_Mo_here l D g a z_34 _ e_45) o_Mo_here g_1087 (ci := 1) (q0 := 0) rfl rfl (List.range' 0 12) (segC1 rfl rfl) (by decide) rfl (segP1 rfl rfl) rfl rfl (Nat.le_of_ble_eq_true rfl) ⟨rfl, rfl, Nat.le_of_ble_eq_true rfl, Nat.le_of_ble_eq_true rfl⟩ d_Mo_figures_73 (fun H locs hP hD hS => ?_)
                    refine lv_iadd hx hb d_Mo_figures_76 ?_
                    refine lv_bipush (v := 48) hx hb d_Mo_figures_77 (by decide) ?_
                    refine lv_isub hx hb d_Mo_figures_79 ?_
                    refine lv_istore_n (lv' := [(1, .int (((10 * x1_34) + v_44) - 48)), (0, .ref (a 0)), (2, .int x2_34)]) hx hb d_Mo_figures_80 rfl hl (by decide) rfl (fun ls hl => ?_)
                    refine lv_aload_n hx hb d_Mo_figures_81 rfl (lv_at hl 1 rfl) ?_
                    refine lv_dup hx hb d_Mo_figures_82 rfl ?_
                    refine va_get (D := D) (ci := 1) (v := .int (q_Mo_spot z_34)) (C := R_Mo) (T := F_Mo) (N := 26) hx hb hg i_Mo hown hK hP 0 rfl rfl 6 (by decide) (hg _ g_998) (fun _ h9 => h9) rfl d_Mo_figures_83 ?_
                    refine lv_iconst (v := 1) hx hb d_Mo_figures_86 (by decide) ?_
                    refine lv_iadd hx hb d_Mo_figures_87 ?_
                    refine va_put (D := D) (ci := 1) (v := .int ((q_Mo_spot z_34) + 1)) (ty := .int) (C := R_Mo) (T := F_Mo) (N := 26) hx hb hg i_Mo t_Mo t_Mo_ok n_Mo hown hK hP hD hS 0 rfl rfl 6 (by decide) (hg _ g_998) (fun _ h9 => h9) rfl (by decide +kernel) rfl rfl (Nat.le_of_ble_eq_true rfl) d_Mo_figures_88 (fun H locs hP hD hS => ?_)
                    have hP : va_P D classes (ws_Mo g a (u_Mo_spot z_34 ((q_Mo_spot z_34) + 1))) H := hP
                    have hD : va_D A (ws_Mo g a (u_Mo_spot z_34 ((q_Mo_spot z_34) + 1))) := hD
                    refine lv_iinc (v := x2_34 + 1) (lv' := [(2, .int (x2_34 + 1)), (1, .int (((10 * x1_34) + v_44) - 48)), (0, .ref (a 0))]) hx hb d_Mo_figures_91 hl (k := 2) rfl (by rfl) (by decide) rfl (fun ls hl => ?_)
                    refine lv_goto (tgt := 34) hx hb d_Mo_figures_94 (by decide) ?_
                    exact ih34 (((10 * x1_34) + v_44) - 48) (x2_34 + 1) (u_Mo_spot z_34 ((q_Mo_spot z_34) + 1)) _ _ _ hP hD hS (lv_sub hl [2, 1, 0] rfl) hd
      exact lp34 1000 0 0 (u_Mo_isWrong z 1) _ _ _ hP hD hS (lv_sub hl [2, 1, 0] rfl) hd
-- OwnsLiftModel.emits(I)V
def d_Mo_emits (x1 : Int32) (z : T_Mo) : Option (T_Mo) :=
  if (q_Mo_isWrong z) = 0 then (if inb (196 + (q_Mo_act z)) 901 = true then (if inb ((201 + (140 * (q_Mo_act z))) + ((q_Mo_s z) (196 + (q_Mo_act z)).toNatClampNeg)) 901 = true then (if inb (196 + (q_Mo_act (u_Mo_s z (upd (q_Mo_s z) ((201 + (140 * (q_Mo_act z))) + ((q_Mo_s z) (196 + (q_Mo_act z)).toNatClampNeg)).toNatClampNeg x1)))) 901 = true then (if inb (196 + (q_Mo_act (u_Mo_s z (upd (q_Mo_s z) ((201 + (140 * (q_Mo_act z))) + ((q_Mo_s z) (196 + (q_Mo_act z)).toNatClampNeg)).toNatClampNeg x1)))) 901 = true then (some ((u_Mo_s (u_Mo_s z (upd (q_Mo_s z) ((201 + (140 * (q_Mo_act z))) + ((q_Mo_s z) (196 + (q_Mo_act z)).toNatClampNeg)).toNatClampNeg x1)) (upd (q_Mo_s (u_Mo_s z (upd (q_Mo_s z) ((201 + (140 * (q_Mo_act z))) + ((q_Mo_s z) (196 + (q_Mo_act z)).toNatClampNeg)).toNatClampNeg x1))) (196 + (q_Mo_act (u_Mo_s z (upd (q_Mo_s z) ((201 + (140 * (q_Mo_act z))) + ((q_Mo_s z) (196 + (q_Mo_act z)).toNatClampNeg)).toNatClampNeg x1)))).toNatClampNeg (((q_Mo_s (u_Mo_s z (upd (q_Mo_s z) ((201 + (140 * (q_Mo_act z))) + ((q_Mo_s z) (196 + (q_Mo_act z)).toNatClampNeg)).toNatClampNeg x1))) (196 + (q_Mo_act (u_Mo_s z (upd (q_Mo_s z) ((201 + (140 * (q_Mo_act z))) + ((q_Mo_s z) (196 + (q_Mo_act z)).toNatClampNeg)).toNatClampNeg x1)))).toNatClampNeg) + 1))))) else none) else none) else none) else none) else (some (z))
theorem d_Mo_emits_0 : decode b_Mo_emits 0 = .ok (.aload_n 0, 1) := by decide +kernel
theorem d_Mo_emits_1 : decode b_Mo_emits 1 = .ok (.getfield 60, 3) := by decide +kernel
theorem d_Mo_emits_4 : decode b_Mo_emits 4 = .ok (.ifCond .ne 52, 3) := by decide +kernel
theorem d_Mo_emits_7 : decode b_Mo_emits 7 = .ok (.aload_n 0, 1) := by decide +kernel
theorem d_Mo_emits_8 : decode b_Mo_emits 8 = .ok (.getfield 9, 3) := by decide +kernel
theorem d_Mo_emits_11 : decode b_Mo_emits 11 = .ok (.sipush 201, 3) := by decide +kernel
theorem d_Mo_emits_14 : decode b_Mo_emits 14 = .ok (.sipush 140, 3) := by decide +kernel
theorem d_Mo_emits_17 : decode b_Mo_emits 17 = .ok (.aload_n 0, 1) := by decide +kernel
theorem d_Mo_emits_18 : decode b_Mo_emits 18 = .ok (.getfield 81, 3) := by decide +kernel
theorem d_Mo_emits_21 : decode b_Mo_emits 21 = .ok (.imul, 1) := by decide +kernel
theorem d_Mo_emits_22 : decode b_Mo_emits 22 = .ok (.iadd, 1) := by decide +kernel
theorem d_Mo_emits_23 : decode b_Mo_emits 23 = .ok (.aload_n 0, 1) := by decide +kernel
theorem d_Mo_emits_24 : decode b_Mo_emits 24 = .ok (.getfield 9, 3) := by decide +kernel
theorem d_Mo_emits_27 : decode b_Mo_emits 27 = .ok (.sipush 196, 3) := by decide +kernel
theorem d_Mo_emits_30 : decode b_Mo_emits 30 = .ok (.aload_n 0, 1) := by decide +kernel
theorem d_Mo_emits_31 : decode b_Mo_emits 31 = .ok (.getfield 81, 3) := by decide +kernel
theorem d_Mo_emits_34 : decode b_Mo_emits 34 = .ok (.iadd, 1) := by decide +kernel
theorem d_Mo_emits_35 : decode b_Mo_emits 35 = .ok (.iaload, 1) := by decide +kernel
theorem d_Mo_emits_36 : decode b_Mo_emits 36 = .ok (.iadd, 1) := by decide +kernel
theorem d_Mo_emits_37 : decode b_Mo_emits 37 = .ok (.iload_n 1, 1) := by decide +kernel
theorem d_Mo_emits_38 : decode b_Mo_emits 38 = .ok (.iastore, 1) := by decide +kernel
theorem d_Mo_emits_39 : decode b_Mo_emits 39 = .ok (.aload_n 0, 1) := by decide +kernel
theorem d_Mo_emits_40 : decode b_Mo_emits 40 = .ok (.getfield 9, 3) := by decide +kernel
theorem d_Mo_emits_43 : decode b_Mo_emits 43 = .ok (.sipush 196, 3) := by decide +kernel
theorem d_Mo_emits_46 : decode b_Mo_emits 46 = .ok (.aload_n 0, 1) := by decide +kernel
theorem d_Mo_emits_47 : decode b_Mo_emits 47 = .ok (.getfield 81, 3) := by decide +kernel
theorem d_Mo_emits_50 : decode b_Mo_emits 50 = .ok (.iadd, 1) := by decide +kernel
theorem d_Mo_emits_51 : decode b_Mo_emits 51 = .ok (.dup2, 1) := by decide +kernel
theorem d_Mo_emits_52 : decode b_Mo_emits 52 = .ok (.iaload, 1) := by decide +kernel
theorem d_Mo_emits_53 : decode b_Mo_emits 53 = .ok (.iconst 1, 1) := by decide +kernel
theorem d_Mo_emits_54 : decode b_Mo_emits 54 = .ok (.iadd, 1) := by decide +kernel
theorem d_Mo_emits_55 : decode b_Mo_emits 55 = .ok (.iastore, 1) := by decide +kernel
theorem d_Mo_emits_56 : decode b_Mo_emits 56 = .ok (.return_, 1) := by decide +kernel
theorem o_Mo_emits : OkV y_Mo_emits "OwnsLiftModel" b_Mo_emits 2 none 1 := ⟨⟨rfl, by decide +kernel, by decide +kernel, by decide +kernel⟩, g_1128, g_36, g_81, g_1129⟩
set_option maxHeartbeats 4000000 in
set_option maxRecDepth 100000 in
theorem c_Mo_emits (l : Launch) (D : va_G) (g : Nat → ClassId) (a : Nat → Nat) (x1 : Int32) (z : T_Mo) (v : T_Mo) (h : d_Mo_emits x1 z = some v) :
    MV l y_Mo_emits b_Mo_emits 2 ({ frames := 0, cells := 0, slots := 0, locals := 0 } : Room) D g [.ref (a 0), .int x1] (ws_Mo g a z) (ws_Mo g a v) := by
  have hd := h
  unfold d_Mo_emits at hd
  refine enterV rfl (Nat.le_of_ble_eq_true rfl) (fun p e s m below meth c A ls hx hb hml hr hown hg hlk hK hA hP hD hS hCs hl => ?_)
  have hown : s.vm.findClass "OwnsLiftModel" = some m.cls := hown
  have hl : lv_has ls 2 [(0, .ref (a 0)), (1, .int x1)] := hl
  show GV p l e s m ({ frames := 0, cells := 0, slots := 0, locals := 0 } : Room) ([.ref (a 0), .int x1] : List Value).toArray below meth c A D g (ws_Mo g a v) s.heap [] (F0 m 0 ls [])
  refine lv_aload_n hx hb d_Mo_emits_0 rfl (lv_at hl 0 rfl) ?_
  refine va_get (D := D) (ci := 1) (v := .int (q_Mo_isWrong z)) (C := R_Mo) (T := F_Mo) (N := 26) hx hb hg i_Mo hown hK hP 0 rfl rfl 8 (by decide) (hg _ g_1000) (fun _ h9 => h9) rfl d_Mo_emits_1 ?_
  refine lv_if_ne (tgt := 56) hx hb d_Mo_emits_4 (by decide) (fun h_1 => ?_) (fun h_1 => ?_)
  · have hd := ite_f hd h_1
    obtain rfl := Option.some.inj hd
    exact retV hx hb hr hlk hK hP hD hS d_Mo_emits_56
  · have hd := ite_t hd h_1
    refine lv_aload_n hx hb d_Mo_emits_7 rfl (lv_at hl 0 rfl) ?_
    refine va_get (D := D) (ci := 1) (v := .ref (a 1)) (C := R_Mo) (T := F_Mo) (N := 26) hx hb hg i_Mo hown hK hP 0 rfl rfl 1 (by decide) (hg _ g_993) (fun _ h9 => h9) rfl d_Mo_emits_8 ?_
    refine lv_sipush (v := 201) hx hb d_Mo_emits_11 (by decide) ?_
    refine lv_sipush (v := 140) hx hb d_Mo_emits_14 (by decide) ?_
    refine lv_aload_n hx hb d_Mo_emits_17 rfl (lv_at hl 0 rfl) ?_
    refine va_get (D := D) (ci := 1) (v := .int (q_Mo_act z)) (C := R_Mo) (T := F_Mo) (N := 26) hx hb hg i_Mo hown hK hP 0 rfl rfl 5 (by decide) (hg _ g_997) (fun _ h9 => h9) rfl d_Mo_emits_18 ?_
    refine lv_imul hx hb d_Mo_emits_21 ?_
    refine lv_iadd hx hb d_Mo_emits_22 ?_
    refine lv_aload_n hx hb d_Mo_emits_23 rfl (lv_at hl 0 rfl) ?_
    refine va_get (D := D) (ci := 1) (v := .ref (a 1)) (C := R_Mo) (T := F_Mo) (N := 26) hx hb hg i_Mo hown hK hP 0 rfl rfl 1 (by decide) (hg _ g_993) (fun _ h9 => h9) rfl d_Mo_emits_24 ?_
    refine lv_sipush (v := 196) hx hb d_Mo_emits_27 (by decide) ?_
    refine lv_aload_n hx hb d_Mo_emits_30 rfl (lv_at hl 0 rfl) ?_
    refine va_get (D := D) (ci := 1) (v := .int (q_Mo_act z)) (C := R_Mo) (T := F_Mo) (N := 26) hx hb hg i_Mo hown hK hP 0 rfl rfl 5 (by decide) (hg _ g_997) (fun _ h9 => h9) rfl d_Mo_emits_31 ?_
    refine lv_iadd hx hb d_Mo_emits_34 ?_
    obtain ⟨h_5, hd⟩ := ite_s hd
    refine ialdK hx hb hK hP 1 0 rfl rfl (inb_t h_5) rfl d_Mo_emits_35 ?_
    refine lv_iadd hx hb d_Mo_emits_36 ?_
    refine lv_iload_n hx hb d_Mo_emits_37 rfl (lv_at hl 1 rfl) ?_
    obtain ⟨h_4, hd⟩ := ite_s hd
    refine iastK hx hb hK hP hD hS 1 0 rfl rfl (inb_t h_4) rfl d_Mo_emits_38 (fun H locs hP hD hS => ?_)
    have hP : va_P D classes (ws_Mo g a (u_Mo_s z (upd (q_Mo_s z) ((201 + (140 * (q_Mo_act z))) + ((q_Mo_s z) (196 + (q_Mo_act z)).toNatClampNeg)).toNatClampNeg x1))) H := hP
    have hD : va_D A (ws_Mo g a (u_Mo_s z (upd (q_Mo_s z) ((201 + (140 * (q_Mo_act z))) + ((q_Mo_s z) (196 + (q_Mo_act z)).toNatClampNeg)).toNatClampNeg x1))) := hD
    refine lv_aload_n hx hb d_Mo_emits_39 rfl (lv_at hl 0 rfl) ?_
    refine va_get (D := D) (ci := 1) (v := .ref (a 1)) (C := R_Mo) (T := F_Mo) (N := 26) hx hb hg i_Mo hown hK hP 0 rfl rfl 1 (by decide) (hg _ g_993) (fun _ h9 => h9) rfl d_Mo_emits_40 ?_
    refine lv_sipush (v := 196) hx hb d_Mo_emits_43 (by decide) ?_
    refine lv_aload_n hx hb d_Mo_emits_46 rfl (lv_at hl 0 rfl) ?_
    refine va_get (D := D) (ci := 1) (v := .int (q_Mo_act (u_Mo_s z (upd (q_Mo_s z) ((201 + (140 * (q_Mo_act z))) + ((q_Mo_s z) (196 + (q_Mo_act z)).toNatClampNeg)).toNatClampNeg x1)))) (C := R_Mo) (T := F_Mo) (N := 26) hx hb hg i_Mo hown hK hP 0 rfl rfl 5 (by decide) (hg _ g_997) (fun _ h9 => h9) rfl d_Mo_emits_47 ?_
    refine lv_iadd hx hb d_Mo_emits_50 ?_
    refine lv_dup2_11 hx hb d_Mo_emits_51 rfl rfl ?_
    obtain ⟨h_3, hd⟩ := ite_s hd
    refine ialdK hx hb hK hP 1 0 rfl rfl (inb_t h_3) rfl d_Mo_emits_52 ?_
    refine lv_iconst (v := 1) hx hb d_Mo_emits_53 (by decide) ?_
    refine lv_iadd hx hb d_Mo_emits_54 ?_
    obtain ⟨h_2, hd⟩ := ite_s hd
    refine iastK hx hb hK hP hD hS 1 0 rfl rfl (inb_t h_2) rfl d_Mo_emits_55 (fun H locs hP hD hS => ?_)
    have hP : va_P D classes (ws_Mo g a (u_Mo_s (u_Mo_s z (upd (q_Mo_s z) ((201 + (140 * (q_Mo_act z))) + ((q_Mo_s z) (196 + (q_Mo_act z)).toNatClampNeg)).toNatClampNeg x1)) (upd (q_Mo_s (u_Mo_s z (upd (q_Mo_s z) ((201 + (140 * (q_Mo_act z))) + ((q_Mo_s z) (196 + (q_Mo_act z)).toNatClampNeg)).toNatClampNeg x1))) (196 + (q_Mo_act (u_Mo_s z (upd (q_Mo_s z) ((201 + (140 * (q_Mo_act z))) + ((q_Mo_s z) (196 + (q_Mo_act z)).toNatClampNeg)).toNatClampNeg x1)))).toNatClampNeg (((q_Mo_s (u_Mo_s z (upd (q_Mo_s z) ((201 + (140 * (q_Mo_act z))) + ((q_Mo_s z) (196 + (q_Mo_act z)).toNatClampNeg)).toNatClampNeg x1))) (196 + (q_Mo_act (u_Mo_s z (upd (q_Mo_s z) ((201 + (140 * (q_Mo_act z))) + ((q_Mo_s z) (196 + (q_Mo_act z)).toNatClampNeg)).toNatClampNeg x1)))).toNatClampNeg) + 1)))) H := hP
    have hD : va_D A (ws_Mo g a (u_Mo_s (u_Mo_s z (upd (q_Mo_s z) ((201 + (140 * (q_Mo_act z))) + ((q_Mo_s z) (196 + (q_Mo_act z)).toNatClampNeg)).toNatClampNeg x1)) (upd (q_Mo_s (u_Mo_s z (upd (q_Mo_s z) ((201 + (140 * (q_Mo_act z))) + ((q_Mo_s z) (196 + (q_Mo_act z)).toNatClampNeg)).toNatClampNeg x1))) (196 + (q_Mo_act (u_Mo_s z (upd (q_Mo_s z) ((201 + (140 * (q_Mo_act z))) + ((q_Mo_s z) (196 + (q_Mo_act z)).toNatClampNeg)).toNatClampNeg x1)))).toNatClampNeg (((q_Mo_s (u_Mo_s z (upd (q_Mo_s z) ((201 + (140 * (q_Mo_act z))) + ((q_Mo_s z) (196 + (q_Mo_act z)).toNatClampNeg)).toNatClampNeg x1))) (196 + (q_Mo_act (u_Mo_s z (upd (q_Mo_s z) ((201 + (140 * (q_Mo_act z))) + ((q_Mo_s z) (196 + (q_Mo_act z)).toNatClampNeg)).toNatClampNeg x1)))).toNatClampNeg) + 1)))) := hD
    obtain rfl := Option.some.inj hd
    exact retV hx hb hr hlk hK hP hD hS d_Mo_emits_56
-- OwnsLiftModel.sumOf(I)I
def B_Mo_sumOf_L55 (x1_f55 : Int32) (x3_f55 : Int32) (x4_f55 : Int32) (self55 : Int32 → Int32 → Int32 → T_Mo → Option (Int32 × T_Mo)) (x2_55 : Int32) (x5_55 : Int32) (x6_55 : Int32) (z_55 : T_Mo) : Option (Int32 × T_Mo) :=
  if (x4_f55 + x3_f55) ≤ x6_55 then (some (x2_55, z_55)) else (if inb x6_55 901 = true then (if ((q_Mo_s z_55) x6_55.toNatClampNeg) < 0 then (if ((q_Mo_s z_55) x6_55.toNatClampNeg) = (-1) then (if inb (x5_55 - 1) 64 = true then (if ((q_Mo_truths z_55) (x5_55 - 1).toNatClampNeg) = 0 then (if inb (x5_55 - 1) 64 = true then (self55 x2_55 x5_55 (x6_55 + 1) (u_Mo_truths z_55 (upd (q_Mo_truths z_55) (x5_55 - 1).toNatClampNeg (vp_nar .boolean 1)))) else none) else (if inb (x5_55 - 1) 64 = true then (self55 x2_55 x5_55 (x6_55 + 1) (u_Mo_truths z_55 (upd (q_Mo_truths z_55) (x5_55 - 1).toNatClampNeg (vp_nar .boolean 0)))) else none)) else none) else (if ((q_Mo_s z_55) x6_55.toNatClampNeg) ≤ (-10) then (if ((q_Mo_truths z_55) 0) = 0 then (self55 (x2_55 + 0) 0 (x6_55 + 1) z_55) else (if x1_f55 < ((q_Mo_s z_55) x6_55.toNatClampNeg) then (self55 (x2_55 + 0) 0 (x6_55 + 1) z_55) else (if ((q_Mo_s z_55) x6_55.toNatClampNeg) ≤ (x1_f55 - 150) then (self55 (x2_55 + 0) 0 (x6_55 + 1) z_55) else (self55 (x2_55 + (x1_f55 - ((q_Mo_s z_55) x6_55.toNatClampNeg))) 0 (x6_55 + 1) z_55)))) else (if ((q_Mo_s z_55) x6_55.toNatClampNeg) = (-2) then (if inb ((x5_55 + (-1)) - 1) 64 = true then (if ((q_Mo_truths z_55) ((x5_55 + (-1)) - 1).toNatClampNeg) = 0 then (if inb ((x5_55 + (-1)) - 1) 64 = true then (self55 x2_55 (x5_55 + (-1)) (x6_55 + 1) (u_Mo_truths z_55 (upd (q_Mo_truths z_55) ((x5_55 + (-1)) - 1).toNatClampNeg (vp_nar .boolean 0)))) else none) else (if inb (x5_55 + (-1)) 64 = true then (if ((q_Mo_truths z_55) (x5_55 + (-1)).toNatClampNeg) = 0 then (if inb ((x5_55 + (-1)) - 1) 64 = true then (self55 x2_55 (x5_55 + (-1)) (x6_55 + 1) (u_Mo_truths z_55 (upd (q_Mo_truths z_55) ((x5_55 + (-1)) - 1).toNatClampNeg (vp_nar .boolean 0)))) else none) else (if inb ((x5_55 + (-1)) - 1) 64 = true then (self55 x2_55 (x5_55 + (-1)) (x6_55 + 1) (u_Mo_truths z_55 (upd (q_Mo_truths z_55) ((x5_55 + (-1)) - 1).toNatClampNeg (vp_nar .boolean 1)))) else none)) else none)) else none) else (if inb ((x5_55 + (-1)) - 1) 64 = true then (if ((q_Mo_truths z_55) ((x5_55 + (-1)) - 1).toNatClampNeg) = 0 then (if inb (x5_55 + (-1)) 64 = true then (if ((q_Mo_truths z_55) (x5_55 + (-1)).toNatClampNeg) = 0 then (if inb ((x5_55 + (-1)) - 1) 64 = true then (self55 x2_55 (x5_55 + (-1)) (x6_55 + 1) (u_Mo_truths z_55 (upd (q_Mo_truths z_55) ((x5_55 + (-1)) - 1).toNatClampNeg (vp_nar .boolean 0)))) else none) else (if inb ((x5_55 + (-1)) - 1) 64 = true then (self55 x2_55 (x5_55 + (-1)) (x6_55 + 1) (u_Mo_truths z_55 (upd (q_Mo_truths z_55) ((x5_55 + (-1)) - 1).toNatClampNeg (vp_nar .boolean 1)))) else none)) else none) else (if inb ((x5_55 + (-1)) - 1) 64 = true then (self55 x2_55 (x5_55 + (-1)) (x6_55 + 1) (u_Mo_truths z_55 (upd (q_Mo_truths z_55) ((x5_55 + (-1)) - 1).toNatClampNeg (vp_nar .boolean 1)))) else none)) else none)))) else (if inb (((q_Mo_s z_55) x6_55.toNatClampNeg) - ((q_Mo_s z_55) x6_55.toNatClampNeg) / 8 * 8) 6 = true then (if ((((q_Mo_s z_55) x6_55.toNatClampNeg) / 8) - (((q_Mo_s z_55) x6_55.toNatClampNeg) / 8) / 4 * 4) = 0 then (if (((q_Mo_s z_55) x6_55.toNatClampNeg) / 32) ≤ ((q_Mo_by z_55) (((q_Mo_s z_55) x6_55.toNatClampNeg) - ((q_Mo_s z_55) x6_55.toNatClampNeg) / 8 * 8).toNatClampNeg) then (if inb x5_55 64 = true then (self55 x2_55 (x5_55 + 1) (x6_55 + 1) (u_Mo_truths z_55 (upd (q_Mo_truths z_55) x5_55.toNatClampNeg (vp_nar .boolean 0)))) else none) else (if inb x5_55 64 = true then (self55 x2_55 (x5_55 + 1) (x6_55 + 1) (u_Mo_truths z_55 (upd (q_Mo_truths z_55) x5_55.toNatClampNeg (vp_nar .boolean 1)))) else none)) else (if ((((q_Mo_s z_55) x6_55.toNatClampNeg) / 8) - (((q_Mo_s z_55) x6_55.toNatClampNeg) / 8) / 4 * 4) = 1 then (if ((q_Mo_by z_55) (((q_Mo_s z_55) x6_55.toNatClampNeg) - ((q_Mo_s z_55) x6_55.toNatClampNeg) / 8 * 8).toNatClampNeg) = (((q_Mo_s z_55) x6_55.toNatClampNeg) / 32) then (if inb x5_55 64 = true then (self55 x2_55 (x5_55 + 1) (x6_55 + 1) (u_Mo_truths z_55 (upd (q_Mo_truths z_55) x5_55.toNatClampNeg (vp_nar .boolean 1)))) else none) else (if inb x5_55 64 = true then (self55 x2_55 (x5_55 + 1) (x6_55 + 1) (u_Mo_truths z_55 (upd (q_Mo_truths z_55) x5_55.toNatClampNeg (vp_nar .boolean 0)))) else none)) else (if ((q_Mo_by z_55) (((q_Mo_s z_55) x6_55.toNatClampNeg) - ((q_Mo_s z_55) x6_55.toNatClampNeg) / 8 * 8).toNatClampNeg) ≤ (((q_Mo_s z_55) x6_55.toNatClampNeg) / 32) then (if inb x5_55 64 = true then (self55 x2_55 (x5_55 + 1) (x6_55 + 1) (u_Mo_truths z_55 (upd (q_Mo_truths z_55) x5_55.toNatClampNeg (vp_nar .boolean 0)))) else none) else (if inb x5_55 64 = true then (self55 x2_55 (x5_55 + 1) (x6_55 + 1) (u_Mo_truths z_55 (upd (q_Mo_truths z_55) x5_55.toNatClampNeg (vp_nar .boolean 1)))) else none)))) else none)) else none)
def d_Mo_sumOf_L55 (x1_f55 : Int32) (x3_f55 : Int32) (x4_f55 : Int32) (n : Nat) : Int32 → Int32 → Int32 → T_Mo → Option (Int32 × T_Mo) := recN (fun _ _ _ _ => none) (fun self => B_Mo_sumOf_L55 x1_f55 x3_f55 x4_f55 self) n
def d_Mo_sumOf (x1 : Int32) (z : T_Mo) : Option (Int32 × T_Mo) :=
  if ((q_Mo_s z) 5) = (-1) then (d_Mo_sumOf_L55 x1 0 (201 + (140 * ((q_Mo_s z) 5)))  1000 0 0 (201 + (140 * ((q_Mo_s z) 5))) z) else (if inb (196 + ((q_Mo_s z) 5)) 901 = true then (d_Mo_sumOf_L55 x1 ((q_Mo_s z) (196 + ((q_Mo_s z) 5)).toNatClampNeg) (201 + (140 * ((q_Mo_s z) 5)))  1000 0 0 (201 + (140 * ((q_Mo_s z) 5))) z) else none)
theorem d_Mo_sumOf_0 : decode b_Mo_sumOf 0 = .ok (.iconst 0, 1) := by decide +kernel
theorem d_Mo_sumOf_1 : decode b_Mo_sumOf 1 = .ok (.istore_n 2, 1) := by decide +kernel
theorem d_Mo_sumOf_2 : decode b_Mo_sumOf 2 = .ok (.aload_n 0, 1) := by decide +kernel
theorem d_Mo_sumOf_3 : decode b_Mo_sumOf 3 = .ok (.getfield 9, 3) := by decide +kernel
theorem d_Mo_sumOf_6 : decode b_Mo_sumOf 6 = .ok (.iconst 5, 1) := by decide +kernel
theorem d_Mo_sumOf_7 : decode b_Mo_sumOf 7 = .ok (.iaload, 1) := by decide +kernel
theorem d_Mo_sumOf_8 : decode b_Mo_sumOf 8 = .ok (.iconst (-1), 1) := by decide +kernel
theorem d_Mo_sumOf_9 : decode b_Mo_sumOf 9 = .ok (.if_icmp .ne 7, 3) := by decide +kernel
theorem d_Mo_sumOf_12 : decode b_Mo_sumOf 12 = .ok (.iconst 0, 1) := by decide +kernel
theorem d_Mo_sumOf_13 : decode b_Mo_sumOf 13 = .ok (.goto 18, 3) := by decide +kernel
theorem d_Mo_sumOf_16 : decode b_Mo_sumOf 16 = .ok (.aload_n 0, 1) := by decide +kernel
theorem d_Mo_sumOf_17 : decode b_Mo_sumOf 17 = .ok (.getfield 9, 3) := by decide +kernel
theorem d_Mo_sumOf_20 : decode b_Mo_sumOf 20 = .ok (.sipush 196, 3) := by decide +kernel
theorem d_Mo_sumOf_23 : decode b_Mo_sumOf 23 = .ok (.aload_n 0, 1) := by decide +kernel
theorem d_Mo_sumOf_24 : decode b_Mo_sumOf 24 = .ok (.getfield 9, 3) := by decide +kernel
theorem d_Mo_sumOf_27 : decode b_Mo_sumOf 27 = .ok (.iconst 5, 1) := by decide +kernel
theorem d_Mo_sumOf_28 : decode b_Mo_sumOf 28 = .ok (.iaload, 1) := by decide +kernel
theorem d_Mo_sumOf_29 : decode b_Mo_sumOf 29 = .ok (.iadd, 1) := by decide +kernel
theorem d_Mo_sumOf_30 : decode b_Mo_sumOf 30 = .ok (.iaload, 1) := by decide +kernel
theorem d_Mo_sumOf_31 : decode b_Mo_sumOf 31 = .ok (.istore_n 3, 1) := by decide +kernel
theorem d_Mo_sumOf_32 : decode b_Mo_sumOf 32 = .ok (.sipush 201, 3) := by decide +kernel
theorem d_Mo_sumOf_35 : decode b_Mo_sumOf 35 = .ok (.sipush 140, 3) := by decide +kernel
theorem d_Mo_sumOf_38 : decode b_Mo_sumOf 38 = .ok (.aload_n 0, 1) := by decide +kernel
theorem d_Mo_sumOf_39 : decode b_Mo_sumOf 39 = .ok (.getfield 9, 3) := by decide +kernel
theorem d_Mo_sumOf_42 : decode b_Mo_sumOf 42 = .ok (.iconst 5, 1) := by decide +kernel
theorem d_Mo_sumOf_43 : decode b_Mo_sumOf 43 = .ok (.iaload, 1) := by decide +kernel
theorem d_Mo_sumOf_44 : decode b_Mo_sumOf 44 = .ok (.imul, 1) := by decide +kernel
theorem d_Mo_sumOf_45 : decode b_Mo_sumOf 45 = .ok (.iadd, 1) := by decide +kernel
theorem d_Mo_sumOf_46 : decode b_Mo_sumOf 46 = .ok (.istore 4, 2) := by decide +kernel
theorem d_Mo_sumOf_48 : decode b_Mo_sumOf 48 = .ok (.iconst 0, 1) := by decide +kernel
theorem d_Mo_sumOf_49 : decode b_Mo_sumOf 49 = .ok (.istore 5, 2) := by decide +kernel
theorem d_Mo_sumOf_51 : decode b_Mo_sumOf 51 = .ok (.iload 4, 2) := by decide +kernel
theorem d_Mo_sumOf_53 : decode b_Mo_sumOf 53 = .ok (.istore 6, 2) := by decide +kernel
theorem d_Mo_sumOf_55 : decode b_Mo_sumOf 55 = .ok (.iload 6, 2) := by decide +kernel
theorem d_Mo_sumOf_57 : decode b_Mo_sumOf 57 = .ok (.iload 4, 2) := by decide +kernel
theorem d_Mo_sumOf_59 : decode b_Mo_sumOf 59 = .ok (.iload_n 3, 1) := by decide +kernel
theorem d_Mo_sumOf_60 : decode b_Mo_sumOf 60 = .ok (.iadd, 1) := by decide +kernel
theorem d_Mo_sumOf_61 : decode b_Mo_sumOf 61 = .ok (.if_icmp .ge 277, 3) := by decide +kernel
theorem d_Mo_sumOf_64 : decode b_Mo_sumOf 64 = .ok (.aload_n 0, 1) := by decide +kernel
theorem d_Mo_sumOf_65 : decode b_Mo_sumOf 65 = .ok (.getfield 9, 3) := by decide +kernel
theorem d_Mo_sumOf_68 : decode b_Mo_sumOf 68 = .ok (.iload 6, 2) := by decide +kernel
theorem d_Mo_sumOf_70 : decode b_Mo_sumOf 70 = .ok (.iaload, 1) := by decide +kernel
theorem d_Mo_sumOf_71 : decode b_Mo_sumOf 71 = .ok (.istore 7, 2) := by decide +kernel
theorem d_Mo_sumOf_73 : decode b_Mo_sumOf 73 = .ok (.iload 7, 2) := by decide +kernel
theorem d_Mo_sumOf_75 : decode b_Mo_sumOf 75 = .ok (.ifCond .lt 97, 3) := by decide +kernel
theorem d_Mo_sumOf_78 : decode b_Mo_sumOf 78 = .ok (.aload_n 0, 1) := by decide +kernel
theorem d_Mo_sumOf_79 : decode b_Mo_sumOf 79 = .ok (.getfield 21, 3) := by decide +kernel
theorem d_Mo_sumOf_82 : decode b_Mo_sumOf 82 = .ok (.iload 7, 2) := by decide +kernel
theorem d_Mo_sumOf_84 : decode b_Mo_sumOf 84 = .ok (.bipush 8, 2) := by decide +kernel
theorem d_Mo_sumOf_86 : decode b_Mo_sumOf 86 = .ok (.irem, 1) := by decide +kernel
theorem d_Mo_sumOf_87 : decode b_Mo_sumOf 87 = .ok (.iaload, 1) := by decide +kernel
theorem d_Mo_sumOf_88 : decode b_Mo_sumOf 88 = .ok (.istore 8, 2) := by decide +kernel
theorem d_Mo_sumOf_90 : decode b_Mo_sumOf 90 = .ok (.iload 7, 2) := by decide +kernel
theorem d_Mo_sumOf_92 : decode b_Mo_sumOf 92 = .ok (.bipush 8, 2) := by decide +kernel
theorem d_Mo_sumOf_94 : decode b_Mo_sumOf 94 = .ok (.idiv, 1) := by decide +kernel
theorem d_Mo_sumOf_95 : decode b_Mo_sumOf 95 = .ok (.iconst 4, 1) := by decide +kernel
theorem d_Mo_sumOf_96 : decode b_Mo_sumOf 96 = .ok (.irem, 1) := by decide +kernel
theorem d_Mo_sumOf_97 : decode b_Mo_sumOf 97 = .ok (.istore 9, 2) := by decide +kernel
theorem d_Mo_sumOf_99 : decode b_Mo_sumOf 99 = .ok (.iload 7, 2) := by decide +kernel
theorem d_Mo_sumOf_101 : decode b_Mo_sumOf 101 = .ok (.bipush 32, 2) := by decide +kernel
theorem d_Mo_sumOf_103 : decode b_Mo_sumOf 103 = .ok (.idiv, 1) := by decide +kernel
theorem d_Mo_sumOf_104 : decode b_Mo_sumOf 104 = .ok (.istore 10, 2) := by decide +kernel
theorem d_Mo_sumOf_106 : decode b_Mo_sumOf 106 = .ok (.aload_n 0, 1) := by decide +kernel
theorem d_Mo_sumOf_107 : decode b_Mo_sumOf 107 = .ok (.getfield 24, 3) := by decide +kernel
theorem d_Mo_sumOf_110 : decode b_Mo_sumOf 110 = .ok (.iload 5, 2) := by decide +kernel
theorem d_Mo_sumOf_112 : decode b_Mo_sumOf 112 = .ok (.iload 9, 2) := by decide +kernel
theorem d_Mo_sumOf_114 : decode b_Mo_sumOf 114 = .ok (.ifCond .ne 18, 3) := by decide +kernel
theorem d_Mo_sumOf_117 : decode b_Mo_sumOf 117 = .ok (.iload 8, 2) := by decide +kernel
theorem d_Mo_sumOf_119 : decode b_Mo_sumOf 119 = .ok (.iload 10, 2) := by decide +kernel
theorem d_Mo_sumOf_121 : decode b_Mo_sumOf 121 = .ok (.if_icmp .ge 7, 3) := by decide +kernel
theorem d_Mo_sumOf_124 : decode b_Mo_sumOf 124 = .ok (.iconst 1, 1) := by decide +kernel
theorem d_Mo_sumOf_125 : decode b_Mo_sumOf 125 = .ok (.goto 40, 3) := by decide +kernel
theorem d_Mo_sumOf_128 : decode b_Mo_sumOf 128 = .ok (.iconst 0, 1) := by decide +kernel
theorem d_Mo_sumOf_129 : decode b_Mo_sumOf 129 = .ok (.goto 36, 3) := by decide +kernel
theorem d_Mo_sumOf_132 : decode b_Mo_sumOf 132 = .ok (.iload 9, 2) := by decide +kernel
theorem d_Mo_sumOf_134 : decode b_Mo_sumOf 134 = .ok (.iconst 1, 1) := by decide +kernel
theorem d_Mo_sumOf_135 : decode b_Mo_sumOf 135 = .ok (.if_icmp .ne 18, 3) := by decide +kernel
theorem d_Mo_sumOf_138 : decode b_Mo_sumOf 138 = .ok (.iload 8, 2) := by decide +kernel
theorem d_Mo_sumOf_140 : decode b_Mo_sumOf 140 = .ok (.iload 10, 2) := by decide +kernel
theorem d_Mo_sumOf_142 : decode b_Mo_sumOf 142 = .ok (.if_icmp .ne 7, 3) := by decide +kernel
theorem d_Mo_sumOf_145 : decode b_Mo_sumOf 145 = .ok (.iconst 1, 1) := by decide +kernel
theorem d_Mo_sumOf_146 : decode b_Mo_sumOf 146 = .ok (.goto 19, 3) := by decide +kernel
theorem d_Mo_sumOf_149 : decode b_Mo_sumOf 149 = .ok (.iconst 0, 1) := by decide +kernel
theorem d_Mo_sumOf_150 : decode b_Mo_sumOf 150 = .ok (.goto 15, 3) := by decide +kernel
theorem d_Mo_sumOf_153 : decode b_Mo_sumOf 153 = .ok (.iload 8, 2) := by decide +kernel
theorem d_Mo_sumOf_155 : decode b_Mo_sumOf 155 = .ok (.iload 10, 2) := by decide +kernel
theorem d_Mo_sumOf_157 : decode b_Mo_sumOf 157 = .ok (.if_icmp .le 7, 3) := by decide +kernel
theorem d_Mo_sumOf_160 : decode b_Mo_sumOf 160 = .ok (.iconst 1, 1) := by decide +kernel
theorem d_Mo_sumOf_161 : decode b_Mo_sumOf 161 = .ok (.goto 4, 3) := by decide +kernel
theorem d_Mo_sumOf_164 : decode b_Mo_sumOf 164 = .ok (.iconst 0, 1) := by decide +kernel
theorem d_Mo_sumOf_165 : decode b_Mo_sumOf 165 = .ok (.bastore, 1) := by decide +kernel
theorem d_Mo_sumOf_166 : decode b_Mo_sumOf 166 = .ok (.iinc 5 1, 3) := by decide +kernel
theorem d_Mo_sumOf_169 : decode b_Mo_sumOf 169 = .ok (.goto 163, 3) := by decide +kernel
theorem d_Mo_sumOf_172 : decode b_Mo_sumOf 172 = .ok (.iload 7, 2) := by decide +kernel
theorem d_Mo_sumOf_174 : decode b_Mo_sumOf 174 = .ok (.iconst (-1), 1) := by decide +kernel
theorem d_Mo_sumOf_175 : decode b_Mo_sumOf 175 = .ok (.if_icmp .ne 32, 3) := by decide +kernel
theorem d_Mo_sumOf_178 : decode b_Mo_sumOf 178 = .ok (.aload_n 0, 1) := by decide +kernel
theorem d_Mo_sumOf_179 : decode b_Mo_sumOf 179 = .ok (.getfield 24, 3) := by decide +kernel
theorem d_Mo_sumOf_182 : decode b_Mo_sumOf 182 = .ok (.iload 5, 2) := by decide +kernel
theorem d_Mo_sumOf_184 : decode b_Mo_sumOf 184 = .ok (.iconst 1, 1) := by decide +kernel
theorem d_Mo_sumOf_185 : decode b_Mo_sumOf 185 = .ok (.isub, 1) := by decide +kernel
theorem d_Mo_sumOf_186 : decode b_Mo_sumOf 186 = .ok (.aload_n 0, 1) := by decide +kernel
theorem d_Mo_sumOf_187 : decode b_Mo_sumOf 187 = .ok (.getfield 24, 3) := by decide +kernel
theorem d_Mo_sumOf_190 : decode b_Mo_sumOf 190 = .ok (.iload 5, 2) := by decide +kernel
theorem d_Mo_sumOf_192 : decode b_Mo_sumOf 192 = .ok (.iconst 1, 1) := by decide +kernel
theorem d_Mo_sumOf_193 : decode b_Mo_sumOf 193 = .ok (.isub, 1) := by decide +kernel
theorem d_Mo_sumOf_194 : decode b_Mo_sumOf 194 = .ok (.baload, 1) := by decide +kernel
theorem d_Mo_sumOf_195 : decode b_Mo_sumOf 195 = .ok (.ifCond .ne 7, 3) := by decide +kernel
theorem d_Mo_sumOf_198 : decode b_Mo_sumOf 198 = .ok (.iconst 1, 1) := by decide +kernel
theorem d_Mo_sumOf_199 : decode b_Mo_sumOf 199 = .ok (.goto 4, 3) := by decide +kernel
theorem d_Mo_sumOf_202 : decode b_Mo_sumOf 202 = .ok (.iconst 0, 1) := by decide +kernel
theorem d_Mo_sumOf_203 : decode b_Mo_sumOf 203 = .ok (.bastore, 1) := by decide +kernel
theorem d_Mo_sumOf_204 : decode b_Mo_sumOf 204 = .ok (.goto 128, 3) := by decide +kernel
theorem d_Mo_sumOf_207 : decode b_Mo_sumOf 207 = .ok (.iload 7, 2) := by decide +kernel
theorem d_Mo_sumOf_209 : decode b_Mo_sumOf 209 = .ok (.bipush (-10), 2) := by decide +kernel
theorem d_Mo_sumOf_211 : decode b_Mo_sumOf 211 = .ok (.if_icmp .le 82, 3) := by decide +kernel
theorem d_Mo_sumOf_214 : decode b_Mo_sumOf 214 = .ok (.iinc 5 (-1), 3) := by decide +kernel
theorem d_Mo_sumOf_217 : decode b_Mo_sumOf 217 = .ok (.aload_n 0, 1) := by decide +kernel
theorem d_Mo_sumOf_218 : decode b_Mo_sumOf 218 = .ok (.getfield 24, 3) := by decide +kernel
theorem d_Mo_sumOf_221 : decode b_Mo_sumOf 221 = .ok (.iload 5, 2) := by decide +kernel
theorem d_Mo_sumOf_223 : decode b_Mo_sumOf 223 = .ok (.iconst 1, 1) := by decide +kernel
theorem d_Mo_sumOf_224 : decode b_Mo_sumOf 224 = .ok (.isub, 1) := by decide +kernel
theorem d_Mo_sumOf_225 : decode b_Mo_sumOf 225 = .ok (.iload 7, 2) := by decide +kernel
theorem d_Mo_sumOf_227 : decode b_Mo_sumOf 227 = .ok (.bipush (-2), 2) := by decide +kernel
theorem d_Mo_sumOf_229 : decode b_Mo_sumOf 229 = .ok (.if_icmp .ne 33, 3) := by decide +kernel
theorem d_Mo_sumOf_232 : decode b_Mo_sumOf 232 = .ok (.aload_n 0, 1) := by decide +kernel
theorem d_Mo_sumOf_233 : decode b_Mo_sumOf 233 = .ok (.getfield 24, 3) := by decide +kernel
theorem d_Mo_sumOf_236 : decode b_Mo_sumOf 236 = .ok (.iload 5, 2) := by decide +kernel
theorem d_Mo_sumOf_238 : decode b_Mo_sumOf 238 = .ok (.iconst 1, 1) := by decide +kernel
theorem d_Mo_sumOf_239 : decode b_Mo_sumOf 239 = .ok (.isub, 1) := by decide +kernel
theorem d_Mo_sumOf_240 : decode b_Mo_sumOf 240 = .ok (.baload, 1) := by decide +kernel
theorem d_Mo_sumOf_241 : decode b_Mo_sumOf 241 = .ok (.ifCond .eq 17, 3) := by decide +kernel
theorem d_Mo_sumOf_244 : decode b_Mo_sumOf 244 = .ok (.aload_n 0, 1) := by decide +kernel
theorem d_Mo_sumOf_245 : decode b_Mo_sumOf 245 = .ok (.getfield 24, 3) := by decide +kernel
theorem d_Mo_sumOf_248 : decode b_Mo_sumOf 248 = .ok (.iload 5, 2) := by decide +kernel
theorem d_Mo_sumOf_250 : decode b_Mo_sumOf 250 = .ok (.baload, 1) := by decide +kernel
theorem d_Mo_sumOf_251 : decode b_Mo_sumOf 251 = .ok (.ifCond .eq 7, 3) := by decide +kernel
theorem d_Mo_sumOf_254 : decode b_Mo_sumOf 254 = .ok (.iconst 1, 1) := by decide +kernel
theorem d_Mo_sumOf_255 : decode b_Mo_sumOf 255 = .ok (.goto 34, 3) := by decide +kernel
theorem d_Mo_sumOf_258 : decode b_Mo_sumOf 258 = .ok (.iconst 0, 1) := by decide +kernel
theorem d_Mo_sumOf_259 : decode b_Mo_sumOf 259 = .ok (.goto 30, 3) := by decide +kernel
theorem d_Mo_sumOf_262 : decode b_Mo_sumOf 262 = .ok (.aload_n 0, 1) := by decide +kernel
theorem d_Mo_sumOf_263 : decode b_Mo_sumOf 263 = .ok (.getfield 24, 3) := by decide +kernel
theorem d_Mo_sumOf_266 : decode b_Mo_sumOf 266 = .ok (.iload 5, 2) := by decide +kernel
theorem d_Mo_sumOf_268 : decode b_Mo_sumOf 268 = .ok (.iconst 1, 1) := by decide +kernel
theorem d_Mo_sumOf_269 : decode b_Mo_sumOf 269 = .ok (.isub, 1) := by decide +kernel
theorem d_Mo_sumOf_270 : decode b_Mo_sumOf 270 = .ok (.baload, 1) := by decide +kernel
theorem d_Mo_sumOf_271 : decode b_Mo_sumOf 271 = .ok (.ifCond .ne 13, 3) := by decide +kernel
theorem d_Mo_sumOf_274 : decode b_Mo_sumOf 274 = .ok (.aload_n 0, 1) := by decide +kernel
theorem d_Mo_sumOf_275 : decode b_Mo_sumOf 275 = .ok (.getfield 24, 3) := by decide +kernel
theorem d_Mo_sumOf_278 : decode b_Mo_sumOf 278 = .ok (.iload 5, 2) := by decide +kernel
theorem d_Mo_sumOf_280 : decode b_Mo_sumOf 280 = .ok (.baload, 1) := by decide +kernel
theorem d_Mo_sumOf_281 : decode b_Mo_sumOf 281 = .ok (.ifCond .eq 7, 3) := by decide +kernel
theorem d_Mo_sumOf_284 : decode b_Mo_sumOf 284 = .ok (.iconst 1, 1) := by decide +kernel
theorem d_Mo_sumOf_285 : decode b_Mo_sumOf 285 = .ok (.goto 4, 3) := by decide +kernel
theorem d_Mo_sumOf_288 : decode b_Mo_sumOf 288 = .ok (.iconst 0, 1) := by decide +kernel
theorem d_Mo_sumOf_289 : decode b_Mo_sumOf 289 = .ok (.bastore, 1) := by decide +kernel
theorem d_Mo_sumOf_290 : decode b_Mo_sumOf 290 = .ok (.goto 42, 3) := by decide +kernel
theorem d_Mo_sumOf_293 : decode b_Mo_sumOf 293 = .ok (.iconst 0, 1) := by decide +kernel
theorem d_Mo_sumOf_294 : decode b_Mo_sumOf 294 = .ok (.istore 5, 2) := by decide +kernel
theorem d_Mo_sumOf_296 : decode b_Mo_sumOf 296 = .ok (.iload_n 2, 1) := by decide +kernel
theorem d_Mo_sumOf_297 : decode b_Mo_sumOf 297 = .ok (.aload_n 0, 1) := by decide +kernel
theorem d_Mo_sumOf_298 : decode b_Mo_sumOf 298 = .ok (.getfield 24, 3) := by decide +kernel
theorem d_Mo_sumOf_301 : decode b_Mo_sumOf 301 = .ok (.iconst 0, 1) := by decide +kernel
theorem d_Mo_sumOf_302 : decode b_Mo_sumOf 302 = .ok (.baload, 1) := by decide +kernel
theorem d_Mo_sumOf_303 : decode b_Mo_sumOf 303 = .ok (.ifCond .eq 26, 3) := by decide +kernel
theorem d_Mo_sumOf_306 : decode b_Mo_sumOf 306 = .ok (.iload 7, 2) := by decide +kernel
theorem d_Mo_sumOf_308 : decode b_Mo_sumOf 308 = .ok (.iload_n 1, 1) := by decide +kernel
theorem d_Mo_sumOf_309 : decode b_Mo_sumOf 309 = .ok (.if_icmp .gt 20, 3) := by decide +kernel
theorem d_Mo_sumOf_312 : decode b_Mo_sumOf 312 = .ok (.iload 7, 2) := by decide +kernel
theorem d_Mo_sumOf_314 : decode b_Mo_sumOf 314 = .ok (.iload_n 1, 1) := by decide +kernel
theorem d_Mo_sumOf_315 : decode b_Mo_sumOf 315 = .ok (.sipush 150, 3) := by decide +kernel
theorem d_Mo_sumOf_318 : decode b_Mo_sumOf 318 = .ok (.isub, 1) := by decide +kernel
theorem d_Mo_sumOf_319 : decode b_Mo_sumOf 319 = .ok (.if_icmp .le 10, 3) := by decide +kernel
theorem d_Mo_sumOf_322 : decode b_Mo_sumOf 322 = .ok (.iload_n 1, 1) := by decide +kernel
theorem d_Mo_sumOf_323 : decode b_Mo_sumOf 323 = .ok (.iload 7, 2) := by decide +kernel
theorem d_Mo_sumOf_325 : decode b_Mo_sumOf 325 = .ok (.isub, 1) := by decide +kernel
theorem d_Mo_sumOf_326 : decode b_Mo_sumOf 326 = .ok (.goto 4, 3) := by decide +kernel
theorem d_Mo_sumOf_329 : decode b_Mo_sumOf 329 = .ok (.iconst 0, 1) := by decide +kernel
theorem d_Mo_sumOf_330 : decode b_Mo_sumOf 330 = .ok (.iadd, 1) := by decide +kernel
theorem d_Mo_sumOf_331 : decode b_Mo_sumOf 331 = .ok (.istore_n 2, 1) := by decide +kernel
theorem d_Mo_sumOf_332 : decode b_Mo_sumOf 332 = .ok (.iinc 6 1, 3) := by decide +kernel
theorem d_Mo_sumOf_335 : decode b_Mo_sumOf 335 = .ok (.goto (-280), 3) := by decide +kernel
theorem d_Mo_sumOf_338 : decode b_Mo_sumOf 338 = .ok (.iload_n 2, 1) := by decide +kernel
theorem d_Mo_sumOf_339 : decode b_Mo_sumOf 339 = .ok (.ireturn, 1) := by decide +kernel
theorem o_Mo_sumOf : OkV y_Mo_sumOf "OwnsLiftModel" b_Mo_sumOf 11 (some .int) 1 := ⟨⟨rfl, by decide +kernel, by decide +kernel, by decide +kernel⟩, g_1161, g_41, g_81, g_1162⟩
set_option maxHeartbeats 4000000 in
set_option maxRecDepth 100000 in
theorem c_Mo_sumOf (l : Launch) (D : va_G) (g : Nat → ClassId) (a : Nat → Nat) (x1 : Int32) (z : T_Mo) (v : Int32 × T_Mo) (h : d_Mo_sumOf x1 z = some v) :
    MI l y_Mo_sumOf b_Mo_sumOf 11 .int ({ frames := 0, cells := 0, slots := 0, locals := 0 } : Room) D g [.ref (a 0), .int x1] (ws_Mo g a z) (v.1) (ws_Mo g a v.2) := by
  have hd := h
  unfold d_Mo_sumOf at hd
  refine enterI rfl (Nat.le_of_ble_eq_true rfl) (fun p e s m below meth c A ls hx hb hml hr hown hg hlk hK hA hP hD hS hCs hl => ?_)
  have hown : s.vm.findClass "OwnsLiftModel" = some m.cls := hown
  have hl : lv_has ls 11 [(0, .ref (a 0)), (1, .int x1)] := hl
  show GI p l e s m ({ frames := 0, cells := 0, slots := 0, locals := 0 } : Room) ([.ref (a 0), .int x1] : List Value).toArray below meth c A D g (ws_Mo g a v.2) (v.1) s.heap [] (F0 m 0 ls [])
  refine lv_iconst (v := 0) hx hb d_Mo_sumOf_0 (by decide) ?_
  refine lv_istore_n (lv' := [(2, .int 0), (0, .ref (a 0)), (1, .int x1)]) hx hb d_Mo_sumOf_1 rfl hl (by decide) rfl (fun ls hl => ?_)
  refine lv_aload_n hx hb d_Mo_sumOf_2 rfl (lv_at hl 1 rfl) ?_
  refine va_get (D := D) (ci := 1) (v := .ref (a 1)) (C := R_Mo) (T := F_Mo) (N := 26) hx hb hg i_Mo hown hK hP 0 rfl rfl 1 (by decide) (hg _ g_993) (fun _ h9 => h9) rfl d_Mo_sumOf_3 ?_
  refine lv_iconst (v := 5) hx hb d_Mo_sumOf_6 (by decide) ?_
  refine ialdK hx hb hK hP 1 0 rfl rfl (inb_t (by decide +kernel)) (k := 5) (by decide +kernel) d_Mo_sumOf_7 ?_
  refine lv_iconst (v := (-1)) hx hb d_Mo_sumOf_8 (by decide) ?_
  refine lv_icmp_ne (tgt := 16) hx hb d_Mo_sumOf_9 (by decide) (fun h_1 => ?_) (fun h_1 => ?_)
  · have hd := ite_f hd h_1
    refine lv_aload_n hx hb d_Mo_sumOf_16 rfl (lv_at hl 1 rfl) ?_
    refine va_get (D := D) (ci := 1) (v := .ref (a 1)) (C := R_Mo) (T := F_Mo) (N := 26) hx hb hg i_Mo hown hK hP 0 rfl rfl 1 (by decide) (hg _ g_993) (fun _ h9 => h9) rfl d_Mo_sumOf_17 ?_
    refine lv_sipush (v := 196) hx hb d_Mo_sumOf_20 (by decide) ?_
    refine lv_aload_n hx hb d_Mo_sumOf_23 rfl (lv_at hl 1 rfl) ?_
    refine va_get (D := D) (ci := 1) (v := .ref (a 1)) (C := R_Mo) (T := F_Mo) (N := 26) hx hb hg i_Mo hown hK hP 0 rfl rfl 1 (by decide) (hg _ g_993) (fun _ h9 => h9) rfl d_Mo_sumOf_24 ?_
    refine lv_iconst (v := 5) hx hb d_Mo_sumOf_27 (by decide) ?_
    refine ialdK hx hb hK hP 1 0 rfl rfl (inb_t (by decide +kernel)) (k := 5) (by decide +kernel) d_Mo_sumOf_28 ?_
    refine lv_iadd hx hb d_Mo_sumOf_29 ?_
    obtain ⟨h_41, hd⟩ := ite_s hd
    refine ialdK hx hb hK hP 1 0 rfl rfl (inb_t h_41) rfl d_Mo_sumOf_30 ?_
    refine lv_istore_n (lv' := [(3, .int ((q_Mo_s z) (196 + ((q_Mo_s z) 5)).toNatClampNeg)), (2, .int 0), (0, .ref (a 0)), (1, .int x1)]) hx hb d_Mo_sumOf_31 rfl hl (by decide) rfl (fun ls hl => ?_)
    refine lv_sipush (v := 201) hx hb d_Mo_sumOf_32 (by decide) ?_
    refine lv_sipush (v := 140) hx hb d_Mo_sumOf_35 (by decide) ?_
    refine lv_aload_n hx hb d_Mo_sumOf_38 rfl (lv_at hl 2 rfl) ?_
    refine va_get (D := D) (ci := 1) (v := .ref (a 1)) (C := R_Mo) (T := F_Mo) (N := 26) hx hb hg i_Mo hown hK hP 0 rfl rfl 1 (by decide) (hg _ g_993) (fun _ h9 => h9) rfl d_Mo_sumOf_39 ?_
    refine lv_iconst (v := 5) hx hb d_Mo_sumOf_42 (by decide) ?_
    refine ialdK hx hb hK hP 1 0 rfl rfl (inb_t (by decide +kernel)) (k := 5) (by decide +kernel) d_Mo_sumOf_43 ?_
    refine lv_imul hx hb d_Mo_sumOf_44 ?_
    refine lv_iadd hx hb d_Mo_sumOf_45 ?_
    refine lv_istore (lv' := [(4, .int (201 + (140 * ((q_Mo_s z) 5)))), (3, .int ((q_Mo_s z) (196 + ((q_Mo_s z) 5)).toNatClampNeg)), (2, .int 0), (0, .ref (a 0)), (1, .int x1)]) hx hb d_Mo_sumOf_46 hl (by decide) rfl (fun ls hl => ?_)
    refine lv_iconst (v := 0) hx hb d_Mo_sumOf_48 (by decide) ?_
    refine lv_istore (lv' := [(5, .int 0), (4, .int (201 + (140 * ((q_Mo_s z) 5)))), (3, .int ((q_Mo_s z) (196 + ((q_Mo_s z) 5)).toNatClampNeg)), (2, .int 0), (0, .ref (a 0)), (1, .int x1)]) hx hb d_Mo_sumOf_49 hl (by decide) rfl (fun ls hl => ?_)
    refine lv_iload hx hb d_Mo_sumOf_51 (lv_at hl 1 rfl) ?_
    refine lv_istore (lv' := [(6, .int (201 + (140 * ((q_Mo_s z) 5)))), (5, .int 0), (4, .int (201 + (140 * ((q_Mo_s z) 5)))), (3, .int ((q_Mo_s z) (196 + ((q_Mo_s z) 5)).toNatClampNeg)), (2, .int 0), (0, .ref (a 0)), (1, .int x1)]) hx hb d_Mo_sumOf_53 hl (by decide) rfl (fun ls hl => ?_)
    have lp55 : ∀ (x1_f55 : Int32) (x3_f55 : Int32) (x4_f55 : Int32) (n : Nat) (x2_55 : Int32) (x5_55 : Int32) (x6_55 : Int32) (z_55 : T_Mo) (H : Heap) (locs : List Loc) (ls : Array Slot), va_P D classes (ws_Mo g a z_55) H → va_D A (ws_Mo g a z_55) → va_S A s.heap H locs → lv_has ls 11 [(0, .ref (a 0)), (1, .int x1_f55), (2, .int x2_55), (3, .int x3_f55), (4, .int x4_f55), (5, .int x5_55), (6, .int x6_55)] → d_Mo_sumOf_L55 x1_f55 x3_f55 x4_f55 n x2_55 x5_55 x6_55 z_55 = some v → GI p l e s m ({ frames := 0, cells := 0, slots := 0, locals := 0 } : Room) ([.ref (a 0), .int x1] : List Value).toArray below meth c A D g (ws_Mo g a v.2) (v.1) H locs (F0 m 55 ls []) := by
      intro x1_f55 x3_f55 x4_f55 n
      induction n with
      | zero =>
        intro  x2_55 x5_55 x6_55 z_55 H locs ls hP hD hS hl hd
        have hd : none = some v := hd
        cases hd
      | succ n ih55 =>
        intro  x2_55 x5_55 x6_55 z_55 H locs ls hP hD hS hl hd
        have hd : B_Mo_sumOf_L55 x1_f55 x3_f55 x4_f55 (d_Mo_sumOf_L55 x1_f55 x3_f55 x4_f55 n) x2_55 x5_55 x6_55 z_55 = some v := hd
        generalize d_Mo_sumOf_L55 x1_f55 x3_f55 x4_f55 n = self55 at ih55 hd
        unfold B_Mo_sumOf_L55 at hd
        refine lv_iload hx hb d_Mo_sumOf_55 (lv_at hl 6 rfl) ?_
        refine lv_iload hx hb d_Mo_sumOf_57 (lv_at hl 4 rfl) ?_
        refine lv_iload_n hx hb d_Mo_sumOf_59 rfl (lv_at hl 3 rfl) ?_
        refine lv_iadd hx hb d_Mo_sumOf_60 ?_
        refine lv_icmp_ge (tgt := 338) hx hb d_Mo_sumOf_61 (by decide) (fun h_2 => ?_) (fun h_2 => ?_)
        · have hd := ite_t hd h_2
          refine lv_iload_n hx hb d_Mo_sumOf_338 rfl (lv_at hl 2 rfl) ?_
          obtain rfl := Option.some.inj hd
          exact retI hx hb hr hlk hK hP hD hS d_Mo_sumOf_339 rfl
        · have hd := ite_f hd h_2
          refine lv_aload_n hx hb d_Mo_sumOf_64 rfl (lv_at hl 0 rfl) ?_
          refine va_get (D := D) (ci := 1) (v := .ref (a 1)) (C := R_Mo) (T := F_Mo) (N := 26) hx hb hg i_Mo hown hK hP 0 rfl rfl 1 (by decide) (hg _ g_993) (fun _ h9 => h9) rfl d_Mo_sumOf_65 ?_
          refine lv_iload hx hb d_Mo_sumOf_68 (lv_at hl 6 rfl) ?_
          obtain ⟨h_40, hd⟩ := ite_s hd
          refine ialdK hx hb hK hP 1 0 rfl rfl (inb_t h_40) rfl d_Mo_sumOf_70 ?_
          refine lv_istore (lv' := [(7, .int ((q_Mo_s z_55) x6_55.toNatClampNeg)), (0, .ref (a 0)), (1, .int x1_f55), (2, .int x2_55), (3, .int x3_f55), (4, .int x4_f55), (5, .int x5_55), (6, .int x6_55)]) hx hb d_Mo_sumOf_71 hl (by decide) rfl (fun ls hl => ?_)
          refine lv_iload hx hb d_Mo_sumOf_73 (lv_at hl 0 rfl) ?_
          refine lv_if_lt (tgt := 172) hx hb d_Mo_sumOf_75 (by decide) (fun h_3 => ?_) (fun h_3 => ?_)
          · have hd := ite_t hd h_3
            refine lv_iload hx hb d_Mo_sumOf_172 (lv_at hl 0 rfl) ?_
            refine lv_iconst (v := (-1)) hx hb d_Mo_sumOf_174 (by decide) ?_
            refine lv_icmp_ne (tgt := 207) hx hb d_Mo_sumOf_175 (by decide) (fun h_4 => ?_) (fun h_4 => ?_)
            · have hd := ite_f hd h_4
              refine lv_iload hx hb d_Mo_sumOf_207 (lv_at hl 0 rfl) ?_
              refine lv_bipush (v := (-10)) hx hb d_Mo_sumOf_209 (by decide) ?_
              refine lv_icmp_le (tgt := 293) hx hb d_Mo_sumOf_211 (by decide) (fun h_5 => ?_) (fun h_5 => ?_)
              · have hd := ite_t hd h_5
                refine lv_iconst (v := 0) hx hb d_Mo_sumOf_293 (by decide) ?_
                refine lv_istore (lv' := [(5, .int 0), (7, .int ((q_Mo_s z_55) x6_55.toNatClampNeg)), (0, .ref (a 0)), (1, .int x1_f55), (2, .int x2_55), (3, .int x3_f55), (4, .int x4_f55), (6, .int x6_55)]) hx hb d_Mo_sumOf_294 hl (by decide) rfl (fun ls hl => ?_)
                refine lv_iload_n hx hb d_Mo_sumOf_296 rfl (lv_at hl 4 rfl) ?_
                refine lv_aload_n hx hb d_Mo_sumOf_297 rfl (lv_at hl 2 rfl) ?_
                refine va_get (D := D) (ci := 1) (v := .ref (a 5)) (C := R_Mo) (T := F_Mo) (N := 26) hx hb hg i_Mo hown hK hP 0 rfl rfl 11 (by decide) (hg _ g_1003) (fun _ h9 => h9) rfl d_Mo_sumOf_298 ?_
                refine lv_iconst (v := 0) hx hb d_Mo_sumOf_301 (by decide) ?_
                refine zaldK hx hb hK hP 5 1 rfl rfl (inb_t (by decide +kernel)) (k := 0) (by decide +kernel) d_Mo_sumOf_302 ?_
                refine lv_if_eq (tgt := 329) hx hb d_Mo_sumOf_303 (by decide) (fun h_6 => ?_) (fun h_6 => ?_)
                · have hd := ite_t hd h_6
                  refine lv_iconst (v := 0) hx hb d_Mo_sumOf_329 (by decide) ?_
                  refine lv_iadd hx hb d_Mo_sumOf_330 ?_
                  refine lv_istore_n (lv' := [(2, .int (x2_55 + 0)), (5, .int 0), (7, .int ((q_Mo_s z_55) x6_55.toNatClampNeg)), (0, .ref (a 0)), (1, .int x1_f55), (3, .int x3_f55), (4, .int x4_f55), (6, .int x6_55)]) hx hb d_Mo_sumOf_331 rfl hl (by decide) rfl (fun ls hl => ?_)
                  refine lv_iinc (v := x6_55 + 1) (lv' := [(6, .int (x6_55 + 1)), (2, .int (x2_55 + 0)), (5, .int 0), (7, .int ((q_Mo_s z_55) x6_55.toNatClampNeg)), (0, .ref (a 0)), (1, .int x1_f55), (3, .int x3_f55), (4, .int x4_f55)]) hx hb d_Mo_sumOf_332 hl (k := 7) rfl (by rfl) (by decide) rfl (fun ls hl => ?_)
                  refine lv_goto (tgt := 55) hx hb d_Mo_sumOf_335 (by decide) ?_
                  exact ih55 (x2_55 + 0) 0 (x6_55 + 1) z_55 _ _ _ hP hD hS (lv_sub hl [4, 5, 1, 6, 7, 2, 0] rfl) hd
                · have hd := ite_f hd h_6
                  refine lv_iload hx hb d_Mo_sumOf_306 (lv_at hl 1 rfl) ?_
                  refine lv_iload_n hx hb d_Mo_sumOf_308 rfl (lv_at hl 3 rfl) ?_
                  refine lv_icmp_gt (tgt := 329) hx hb d_Mo_sumOf_309 (by decide) (fun h_7 => ?_) (fun h_7 => ?_)
                  · have hd := ite_t hd h_7
                    refine lv_iconst (v := 0) hx hb d_Mo_sumOf_329 (by decide) ?_
                    refine lv_iadd hx hb d_Mo_sumOf_330 ?_
                    refine lv_istore_n (lv' := [(2, .int (x2_55 + 0)), (5, .int 0), (7, .int ((q_Mo_s z_55) x6_55.toNatClampNeg)), (0, .ref (a 0)), (1, .int x1_f55), (3, .int x3_f55), (4, .int x4_f55), (6, .int x6_55)]) hx hb d_Mo_sumOf_331 rfl hl (by decide) rfl (fun ls hl => ?_)
                    refine lv_iinc (v := x6_55 + 1) (lv' := [(6, .int (x6_55 + 1)), (2, .int (x2_55 + 0)), (5, .int 0), (7, .int ((q_Mo_s z_55) x6_55.toNatClampNeg)), (0, .ref (a 0)), (1, .int x1_f55), (3, .int x3_f55), (4, .int x4_f55)]) hx hb d_Mo_sumOf_332 hl (k := 7) rfl (by rfl) (by decide) rfl (fun ls hl => ?_)
                    refine lv_goto (tgt := 55) hx hb d_Mo_sumOf_335 (by decide) ?_
                    exact ih55 (x2_55 + 0) 0 (x6_55 + 1) z_55 _ _ _ hP hD hS (lv_sub hl [4, 5, 1, 6, 7, 2, 0] rfl) hd
                  · have hd := ite_f hd h_7
                    refine lv_iload hx hb d_Mo_sumOf_312 (lv_at hl 1 rfl) ?_
                    refine lv_iload_n hx hb d_Mo_sumOf_314 rfl (lv_at hl 3 rfl) ?_
                    refine lv_sipush (v := 150) hx hb d_Mo_sumOf_315 (by decide) ?_
                    refine lv_isub hx hb d_Mo_sumOf_318 ?_
                    refine lv_icmp_le (tgt := 329) hx hb d_Mo_sumOf_319 (by decide) (fun h_8 => ?_) (fun h_8 => ?_)
                    · have hd := ite_t hd h_8
                      refine lv_iconst (v := 0) hx hb d_Mo_sumOf_329 (by decide) ?_
                      refine lv_iadd hx hb d_Mo_sumOf_330 ?_
                      refine lv_istore_n (lv' := [(2, .int (x2_55 + 0)), (5, .int 0), (7, .int ((q_Mo_s z_55) x6_55.toNatClampNeg)), (0, .ref (a 0)), (1, .int x1_f55), (3, .int x3_f55), (4, .int x4_f55), (6, .int x6_55)]) hx hb d_Mo_sumOf_331 rfl hl (by decide) rfl (fun ls hl => ?_)
                      refine lv_iinc (v := x6_55 + 1) (lv' := [(6, .int (x6_55 + 1)), (2, .int (x2_55 + 0)), (5, .int 0), (7, .int ((q_Mo_s z_55) x6_55.toNatClampNeg)), (0, .ref (a 0)), (1, .int x1_f55), (3, .int x3_f55), (4, .int x4_f55)]) hx hb d_Mo_sumOf_332 hl (k := 7) rfl (by rfl) (by decide) rfl (fun ls hl => ?_)
                      refine lv_goto (tgt := 55) hx hb d_Mo_sumOf_335 (by decide) ?_
                      exact ih55 (x2_55 + 0) 0 (x6_55 + 1) z_55 _ _ _ hP hD hS (lv_sub hl [4, 5, 1, 6, 7, 2, 0] rfl) hd
                    · have hd := ite_f hd h_8
                      refine lv_iload_n hx hb d_Mo_sumOf_322 rfl (lv_at hl 3 rfl) ?_
                      refine lv_iload hx hb d_Mo_sumOf_323 (lv_at hl 1 rfl) ?_
                      refine lv_isub hx hb d_Mo_sumOf_325 ?_
                      refine lv_goto (tgt := 330) hx hb d_Mo_sumOf_326 (by decide) ?_
                      refine lv_iadd hx hb d_Mo_sumOf_330 ?_
                      refine lv_istore_n (lv' := [(2, .int (x2_55 + (x1_f55 - ((q_Mo_s z_55) x6_55.toNatClampNeg)))), (5, .int 0), (7, .int ((q_Mo_s z_55) x6_55.toNatClampNeg)), (0, .ref (a 0)), (1, .int x1_f55), (3, .int x3_f55), (4, .int x4_f55), (6, .int x6_55)]) hx hb d_Mo_sumOf_331 rfl hl (by decide) rfl (fun ls hl => ?_)
                      refine lv_iinc (v := x6_55 + 1) (lv' := [(6, .int (x6_55 + 1)), (2, .int (x2_55 + (x1_f55 - ((q_Mo_s z_55) x6_55.toNatClampNeg)))), (5, .int 0), (7, .int ((q_Mo_s z_55) x6_55.toNatClampNeg)), (0, .ref (a 0)), (1, .int x1_f55), (3, .int x3_f55), (4, .int x4_f55)]) hx hb d_Mo_sumOf_332 hl (k := 7) rfl (by rfl) (by decide) rfl (fun ls hl => ?_)
                      refine lv_goto (tgt := 55) hx hb d_Mo_sumOf_335 (by decide) ?_
                      exact ih55 (x2_55 + (x1_f55 - ((q_Mo_s z_55) x6_55.toNatClampNeg))) 0 (x6_55 + 1) z_55 _ _ _ hP hD hS (lv_sub hl [4, 5, 1, 6, 7, 2, 0] rfl) hd
              · have hd := ite_f hd h_5
                refine lv_iinc (v := x5_55 + (-1)) (lv' := [(5, .int (x5_55 + (-1))), (7, .int ((q_Mo_s z_55) x6_55.toNatClampNeg)), (0, .ref (a 0)), (1, .int x1_f55), (2, .int x2_55), (3, .int x3_f55), (4, .int x4_f55), (6, .int x6_55)]) hx hb d_Mo_sumOf_214 hl (k := 6) rfl (by rfl) (by decide) rfl (fun ls hl => ?_)
                refine lv_aload_n hx hb d_Mo_sumOf_217 rfl (lv_at hl 2 rfl) ?_
                refine va_get (D := D) (ci := 1) (v := .ref (a 5)) (C := R_Mo) (T := F_Mo) (N := 26) hx hb hg i_Mo hown hK hP 0 rfl rfl 11 (by decide) (hg _ g_1003) (fun _ h9 => h9) rfl d_Mo_sumOf_218 ?_
                refine lv_iload hx hb d_Mo_sumOf_221 (lv_at hl 0 rfl) ?_
                refine lv_iconst (v := 1) hx hb d_Mo_sumOf_223 (by decide) ?_
                refine lv_isub hx hb d_Mo_sumOf_224 ?_
                refine lv_iload hx hb d_Mo_sumOf_225 (lv_at hl 1 rfl) ?_
                refine lv_bipush (v := (-2)) hx hb d_Mo_sumOf_227 (by decide) ?_
                refine lv_icmp_ne (tgt := 262) hx hb d_Mo_sumOf_229 (by decide) (fun h_9 => ?_) (fun h_9 => ?_)
                · have hd := ite_f hd h_9
                  refine lv_aload_n hx hb d_Mo_sumOf_262 rfl (lv_at hl 2 rfl) ?_
                  refine va_get (D := D) (ci := 1) (v := .ref (a 5)) (C := R_Mo) (T := F_Mo) (N := 26) hx hb hg i_Mo hown hK hP 0 rfl rfl 11 (by decide) (hg _ g_1003) (fun _ h9 => h9) rfl d_Mo_sumOf_263 ?_
                  refine lv_iload hx hb d_Mo_sumOf_266 (lv_at hl 0 rfl) ?_
                  refine lv_iconst (v := 1) hx hb d_Mo_sumOf_268 (by decide) ?_
                  refine lv_isub hx hb d_Mo_sumOf_269 ?_
                  obtain ⟨h_16, hd⟩ := ite_s hd
                  refine zaldK hx hb hK hP 5 1 rfl rfl (inb_t h_16) rfl d_Mo_sumOf_270 ?_
                  refine lv_if_ne (tgt := 284) hx hb d_Mo_sumOf_271 (by decide) (fun h_10 => ?_) (fun h_10 => ?_)
                  · have hd := ite_f hd h_10
                    refine lv_iconst (v := 1) hx hb d_Mo_sumOf_284 (by decide) ?_
                    refine lv_goto (tgt := 289) hx hb d_Mo_sumOf_285 (by decide) ?_
                    obtain ⟨h_11, hd⟩ := ite_s hd
                    refine zastK hx hb hK hP hD hS 5 1 rfl rfl (inb_t h_11) rfl d_Mo_sumOf_289 (fun H locs hP hD hS => ?_)
                    have hP : va_P D classes (ws_Mo g a (u_Mo_truths z_55 (upd (q_Mo_truths z_55) ((x5_55 + (-1)) - 1).toNatClampNeg (vp_nar .boolean 1)))) H := hP
                    have hD : va_D A (ws_Mo g a (u_Mo_truths z_55 (upd (q_Mo_truths z_55) ((x5_55 + (-1)) - 1).toNatClampNeg (vp_nar .boolean 1)))) := hD
                    refine lv_goto (tgt := 332) hx hb d_Mo_sumOf_290 (by decide) ?_
                    refine lv_iinc (v := x6_55 + 1) (lv' := [(6, .int (x6_55 + 1)), (5, .int (x5_55 + (-1))), (7, .int ((q_Mo_s z_55) x6_55.toNatClampNeg)), (0, .ref (a 0)), (1, .int x1_f55), (2, .int x2_55), (3, .int x3_f55), (4, .int x4_f55)]) hx hb d_Mo_sumOf_332 hl (k := 7) rfl (by rfl) (by decide) rfl (fun ls hl => ?_)
                    refine lv_goto (tgt := 55) hx hb d_Mo_sumOf_335 (by decide) ?_
                    exact ih55 x2_55 (x5_55 + (-1)) (x6_55 + 1) (u_Mo_truths z_55 (upd (q_Mo_truths z_55) ((x5_55 + (-1)) - 1).toNatClampNeg (vp_nar .boolean 1))) _ _ _ hP hD hS (lv_sub hl [3, 4, 5, 6, 7, 1, 0] rfl) hd
                  · have hd := ite_t hd h_10
                    refine lv_aload_n hx hb d_Mo_sumOf_274 rfl (lv_at hl 2 rfl) ?_
                    refine va_get (D := D) (ci := 1) (v := .ref (a 5)) (C := R_Mo) (T := F_Mo) (N := 26) hx hb hg i_Mo hown hK hP 0 rfl rfl 11 (by decide) (hg _ g_1003) (fun _ h9 => h9) rfl d_Mo_sumOf_275 ?_
                    refine lv_iload hx hb d_Mo_sumOf_278 (lv_at hl 0 rfl) ?_
                    obtain ⟨h_15, hd⟩ := ite_s hd
                    refine zaldK hx hb hK hP 5 1 rfl rfl (inb_t h_15) rfl d_Mo_sumOf_280 ?_
                    refine lv_if_eq (tgt := 288) hx hb d_Mo_sumOf_281 (by decide) (fun h_12 => ?_) (fun h_12 => ?_)
                    · have hd := ite_t hd h_12
                      refine lv_iconst (v := 0) hx hb d_Mo_sumOf_288 (by decide) ?_
                      obtain ⟨h_13, hd⟩ := ite_s hd
                      refine zastK hx hb hK hP hD hS 5 1 rfl rfl (inb_t h_13) rfl d_Mo_sumOf_289 (fun H locs hP hD hS => ?_)
                      have hP : va_P D classes (ws_Mo g a (u_Mo_truths z_55 (upd (q_Mo_truths z_55) ((x5_55 + (-1)) - 1).toNatClampNeg (vp_nar .boolean 0)))) H := hP
                      have hD : va_D A (ws_Mo g a (u_Mo_truths z_55 (upd (q_Mo_truths z_55) ((x5_55 + (-1)) - 1).toNatClampNeg (vp_nar .boolean 0)))) := hD
                      refine lv_goto (tgt := 332) hx hb d_Mo_sumOf_290 (by decide) ?_
                      refine lv_iinc (v := x6_55 + 1) (lv' := [(6, .int (x6_55 + 1)), (5, .int (x5_55 + (-1))), (7, .int ((q_Mo_s z_55) x6_55.toNatClampNeg)), (0, .ref (a 0)), (1, .int x1_f55), (2, .int x2_55), (3, .int x3_f55), (4, .int x4_f55)]) hx hb d_Mo_sumOf_332 hl (k := 7) rfl (by rfl) (by decide) rfl (fun ls hl => ?_)
                      refine lv_goto (tgt := 55) hx hb d_Mo_sumOf_335 (by decide) ?_
                      exact ih55 x2_55 (x5_55 + (-1)) (x6_55 + 1) (u_Mo_truths z_55 (upd (q_Mo_truths z_55) ((x5_55 + (-1)) - 1).toNatClampNeg (vp_nar .boolean 0))) _ _ _ hP hD hS (lv_sub hl [3, 4, 5, 6, 7, 1, 0] rfl) hd
                    · have hd := ite_f hd h_12
                      refine lv_iconst (v := 1) hx hb d_Mo_sumOf_284 (by decide) ?_
                      refine lv_goto (tgt := 289) hx hb d_Mo_sumOf_285 (by decide) ?_
                      obtain ⟨h_14, hd⟩ := ite_s hd
                      refine zastK hx hb hK hP hD hS 5 1 rfl rfl (inb_t h_14) rfl d_Mo_sumOf_289 (fun H locs hP hD hS => ?_)
                      have hP : va_P D classes (ws_Mo g a (u_Mo_truths z_55 (upd (q_Mo_truths z_55) ((x5_55 + (-1)) - 1).toNatClampNeg (vp_nar .boolean 1)))) H := hP
                      have hD : va_D A (ws_Mo g a (u_Mo_truths z_55 (upd (q_Mo_truths z_55) ((x5_55 + (-1)) - 1).toNatClampNeg (vp_nar .boolean 1)))) := hD
                      refine lv_goto (tgt := 332) hx hb d_Mo_sumOf_290 (by decide) ?_
                      refine lv_iinc (v := x6_55 + 1) (lv' := [(6, .int (x6_55 + 1)), (5, .int (x5_55 + (-1))), (7, .int ((q_Mo_s z_55) x6_55.toNatClampNeg)), (0, .ref (a 0)), (1, .int x1_f55), (2, .int x2_55), (3, .int x3_f55), (4, .int x4_f55)]) hx hb d_Mo_sumOf_332 hl (k := 7) rfl (by rfl) (by decide) rfl (fun ls hl => ?_)
                      refine lv_goto (tgt := 55) hx hb d_Mo_sumOf_335 (by decide) ?_
                      exact ih55 x2_55 (x5_55 + (-1)) (x6_55 + 1) (u_Mo_truths z_55 (upd (q_Mo_truths z_55) ((x5_55 + (-1)) - 1).toNatClampNeg (vp_nar .boolean 1))) _ _ _ hP hD hS (lv_sub hl [3, 4, 5, 6, 7, 1, 0] rfl) hd
                · have hd := ite_t hd h_9
                  refine lv_aload_n hx hb d_Mo_sumOf_232 rfl (lv_at hl 2 rfl) ?_
                  refine va_get (D := D) (ci := 1) (v := .ref (a 5)) (C := R_Mo) (T := F_Mo) (N := 26) hx hb hg i_Mo hown hK hP 0 rfl rfl 11 (by decide) (hg _ g_1003) (fun _ h9 => h9) rfl d_Mo_sumOf_233 ?_
                  refine lv_iload hx hb d_Mo_sumOf_236 (lv_at hl 0 rfl) ?_
                  refine lv_iconst (v := 1) hx hb d_Mo_sumOf_238 (by decide) ?_
                  refine lv_isub hx hb d_Mo_sumOf_239 ?_
                  obtain ⟨h_23, hd⟩ := ite_s hd
                  refine zaldK hx hb hK hP 5 1 rfl rfl (inb_t h_23) rfl d_Mo_sumOf_240 ?_
                  refine lv_if_eq (tgt := 258) hx hb d_Mo_sumOf_241 (by decide) (fun h_17 => ?_) (fun h_17 => ?_)
                  · have hd := ite_t hd h_17
                    refine lv_iconst (v := 0) hx hb d_Mo_sumOf_258 (by decide) ?_
                    refine lv_goto (tgt := 289) hx hb d_Mo_sumOf_259 (by decide) ?_
                    obtain ⟨h_18, hd⟩ := ite_s hd
                    refine zastK hx hb hK hP hD hS 5 1 rfl rfl (inb_t h_18) rfl d_Mo_sumOf_289 (fun H locs hP hD hS => ?_)
                    have hP : va_P D classes (ws_Mo g a (u_Mo_truths z_55 (upd (q_Mo_truths z_55) ((x5_55 + (-1)) - 1).toNatClampNeg (vp_nar .boolean 0)))) H := hP
                    have hD : va_D A (ws_Mo g a (u_Mo_truths z_55 (upd (q_Mo_truths z_55) ((x5_55 + (-1)) - 1).toNatClampNeg (vp_nar .boolean 0)))) := hD
                    refine lv_goto (tgt := 332) hx hb d_Mo_sumOf_290 (by decide) ?_
                    refine lv_iinc (v := x6_55 + 1) (lv' := [(6, .int (x6_55 + 1)), (5, .int (x5_55 + (-1))), (7, .int ((q_Mo_s z_55) x6_55.toNatClampNeg)), (0, .ref (a 0)), (1, .int x1_f55), (2, .int x2_55), (3, .int x3_f55), (4, .int x4_f55)]) hx hb d_Mo_sumOf_332 hl (k := 7) rfl (by rfl) (by decide) rfl (fun ls hl => ?_)
                    refine lv_goto (tgt := 55) hx hb d_Mo_sumOf_335 (by decide) ?_
                    exact ih55 x2_55 (x5_55 + (-1)) (x6_55 + 1) (u_Mo_truths z_55 (upd (q_Mo_truths z_55) ((x5_55 + (-1)) - 1).toNatClampNeg (vp_nar .boolean 0))) _ _ _ hP hD hS (lv_sub hl [3, 4, 5, 6, 7, 1, 0] rfl) hd
                  · have hd := ite_f hd h_17
                    refine lv_aload_n hx hb d_Mo_sumOf_244 rfl (lv_at hl 2 rfl) ?_
                    refine va_get (D := D) (ci := 1) (v := .ref (a 5)) (C := R_Mo) (T := F_Mo) (N := 26) hx hb hg i_Mo hown hK hP 0 rfl rfl 11 (by decide) (hg _ g_1003) (fun _ h9 => h9) rfl d_Mo_sumOf_245 ?_
                    refine lv_iload hx hb d_Mo_sumOf_248 (lv_at hl 0 rfl) ?_
                    obtain ⟨h_22, hd⟩ := ite_s hd
                    refine zaldK hx hb hK hP 5 1 rfl rfl (inb_t h_22) rfl d_Mo_sumOf_250 ?_
                    refine lv_if_eq (tgt := 258) hx hb d_Mo_sumOf_251 (by decide) (fun h_19 => ?_) (fun h_19 => ?_)
                    · have hd := ite_t hd h_19
                      refine lv_iconst (v := 0) hx hb d_Mo_sumOf_258 (by decide) ?_
                      refine lv_goto (tgt := 289) hx hb d_Mo_sumOf_259 (by decide) ?_
                      obtain ⟨h_20, hd⟩ := ite_s hd
                      refine zastK hx hb hK hP hD hS 5 1 rfl rfl (inb_t h_20) rfl d_Mo_sumOf_289 (fun H locs hP hD hS => ?_)
                      have hP : va_P D classes (ws_Mo g a (u_Mo_truths z_55 (upd (q_Mo_truths z_55) ((x5_55 + (-1)) - 1).toNatClampNeg (vp_nar .boolean 0)))) H := hP
                      have hD : va_D A (ws_Mo g a (u_Mo_truths z_55 (upd (q_Mo_truths z_55) ((x5_55 + (-1)) - 1).toNatClampNeg (vp_nar .boolean 0)))) := hD
                      refine lv_goto (tgt := 332) hx hb d_Mo_sumOf_290 (by decide) ?_
                      refine lv_iinc (v := x6_55 + 1) (lv' := [(6, .int (x6_55 + 1)), (5, .int (x5_55 + (-1))), (7, .int ((q_Mo_s z_55) x6_55.toNatClampNeg)), (0, .ref (a 0)), (1, .int x1_f55), (2, .int x2_55), (3, .int x3_f55), (4, .int x4_f55)]) hx hb d_Mo_sumOf_332 hl (k := 7) rfl (by rfl) (by decide) rfl (fun ls hl => ?_)
                      refine lv_goto (tgt := 55) hx hb d_Mo_sumOf_335 (by decide) ?_
                      exact ih55 x2_55 (x5_55 + (-1)) (x6_55 + 1) (u_Mo_truths z_55 (upd (q_Mo_truths z_55) ((x5_55 + (-1)) - 1).toNatClampNeg (vp_nar .boolean 0))) _ _ _ hP hD hS (lv_sub hl [3, 4, 5, 6, 7, 1, 0] rfl) hd
                    · have hd := ite_f hd h_19
                      refine lv_iconst (v := 1) hx hb d_Mo_sumOf_254 (by decide) ?_
                      refine lv_goto (tgt := 289) hx hb d_Mo_sumOf_255 (by decide) ?_
                      obtain ⟨h_21, hd⟩ := ite_s hd
                      refine zastK hx hb hK hP hD hS 5 1 rfl rfl (inb_t h_21) rfl d_Mo_sumOf_289 (fun H locs hP hD hS => ?_)
                      have hP : va_P D classes (ws_Mo g a (u_Mo_truths z_55 (upd (q_Mo_truths z_55) ((x5_55 + (-1)) - 1).toNatClampNeg (vp_nar .boolean 1)))) H := hP
                      have hD : va_D A (ws_Mo g a (u_Mo_truths z_55 (upd (q_Mo_truths z_55) ((x5_55 + (-1)) - 1).toNatClampNeg (vp_nar .boolean 1)))) := hD
                      refine lv_goto (tgt := 332) hx hb d_Mo_sumOf_290 (by decide) ?_
                      refine lv_iinc (v := x6_55 + 1) (lv' := [(6, .int (x6_55 + 1)), (5, .int (x5_55 + (-1))), (7, .int ((q_Mo_s z_55) x6_55.toNatClampNeg)), (0, .ref (a 0)), (1, .int x1_f55), (2, .int x2_55), (3, .int x3_f55), (4, .int x4_f55)]) hx hb d_Mo_sumOf_332 hl (k := 7) rfl (by rfl) (by decide) rfl (fun ls hl => ?_)
                      refine lv_goto (tgt := 55) hx hb d_Mo_sumOf_335 (by decide) ?_
                      exact ih55 x2_55 (x5_55 + (-1)) (x6_55 + 1) (u_Mo_truths z_55 (upd (q_Mo_truths z_55) ((x5_55 + (-1)) - 1).toNatClampNeg (vp_nar .boolean 1))) _ _ _ hP hD hS (lv_sub hl [3, 4, 5, 6, 7, 1, 0] rfl) hd
            · have hd := ite_t hd h_4
              refine lv_aload_n hx hb d_Mo_sumOf_178 rfl (lv_at hl 1 rfl) ?_
              refine va_get (D := D) (ci := 1) (v := .ref (a 5)) (C := R_Mo) (T := F_Mo) (N := 26) hx hb hg i_Mo hown hK hP 0 rfl rfl 11 (by decide) (hg _ g_1003) (fun _ h9 => h9) rfl d_Mo_sumOf_179 ?_
              refine lv_iload hx hb d_Mo_sumOf_182 (lv_at hl 6 rfl) ?_
              refine lv_iconst (v := 1) hx hb d_Mo_sumOf_184 (by decide) ?_
              refine lv_isub hx hb d_Mo_sumOf_185 ?_
              refine lv_aload_n hx hb d_Mo_sumOf_186 rfl (lv_at hl 1 rfl) ?_
              refine va_get (D := D) (ci := 1) (v := .ref (a 5)) (C := R_Mo) (T := F_Mo) (N := 26) hx hb hg i_Mo hown hK hP 0 rfl rfl 11 (by decide) (hg _ g_1003) (fun _ h9 => h9) rfl d_Mo_sumOf_187 ?_
              refine lv_iload hx hb d_Mo_sumOf_190 (lv_at hl 6 rfl) ?_
              refine lv_iconst (v := 1) hx hb d_Mo_sumOf_192 (by decide) ?_
              refine lv_isub hx hb d_Mo_sumOf_193 ?_
              obtain ⟨h_27, hd⟩ := ite_s hd
              refine zaldK hx hb hK hP 5 1 rfl rfl (inb_t h_27) rfl d_Mo_sumOf_194 ?_
              refine lv_if_ne (tgt := 202) hx hb d_Mo_sumOf_195 (by decide) (fun h_24 => ?_) (fun h_24 => ?_)
              · have hd := ite_f hd h_24
                refine lv_iconst (v := 0) hx hb d_Mo_sumOf_202 (by decide) ?_
                obtain ⟨h_25, hd⟩ := ite_s hd
                refine zastK hx hb hK hP hD hS 5 1 rfl rfl (inb_t h_25) rfl d_Mo_sumOf_203 (fun H locs hP hD hS => ?_)
                have hP : va_P D classes (ws_Mo g a (u_Mo_truths z_55 (upd (q_Mo_truths z_55) (x5_55 - 1).toNatClampNeg (vp_nar .boolean 0)))) H := hP
                have hD : va_D A (ws_Mo g a (u_Mo_truths z_55 (upd (q_Mo_truths z_55) (x5_55 - 1).toNatClampNeg (vp_nar .boolean 0)))) := hD
                refine lv_goto (tgt := 332) hx hb d_Mo_sumOf_204 (by decide) ?_
                refine lv_iinc (v := x6_55 + 1) (lv' := [(6, .int (x6_55 + 1)), (7, .int ((q_Mo_s z_55) x6_55.toNatClampNeg)), (0, .ref (a 0)), (1, .int x1_f55), (2, .int x2_55), (3, .int x3_f55), (4, .int x4_f55), (5, .int x5_55)]) hx hb d_Mo_sumOf_332 hl (k := 7) rfl (by rfl) (by decide) rfl (fun ls hl => ?_)
                refine lv_goto (tgt := 55) hx hb d_Mo_sumOf_335 (by decide) ?_
                exact ih55 x2_55 x5_55 (x6_55 + 1) (u_Mo_truths z_55 (upd (q_Mo_truths z_55) (x5_55 - 1).toNatClampNeg (vp_nar .boolean 0))) _ _ _ hP hD hS (lv_sub hl [2, 3, 4, 5, 6, 7, 0] rfl) hd
              · have hd := ite_t hd h_24
                refine lv_iconst (v := 1) hx hb d_Mo_sumOf_198 (by decide) ?_
                refine lv_goto (tgt := 203) hx hb d_Mo_sumOf_199 (by decide) ?_
                obtain ⟨h_26, hd⟩ := ite_s hd
                refine zastK hx hb hK hP hD hS 5 1 rfl rfl (inb_t h_26) rfl d_Mo_sumOf_203 (fun H locs hP hD hS => ?_)
                have hP : va_P D classes (ws_Mo g a (u_Mo_truths z_55 (upd (q_Mo_truths z_55) (x5_55 - 1).toNatClampNeg (vp_nar .boolean 1)))) H := hP
                have hD : va_D A (ws_Mo g a (u_Mo_truths z_55 (upd (q_Mo_truths z_55) (x5_55 - 1).toNatClampNeg (vp_nar .boolean 1)))) := hD
                refine lv_goto (tgt := 332) hx hb d_Mo_sumOf_204 (by decide) ?_
                refine lv_iinc (v := x6_55 + 1) (lv' := [(6, .int (x6_55 + 1)), (7, .int ((q_Mo_s z_55) x6_55.toNatClampNeg)), (0, .ref (a 0)), (1, .int x1_f55), (2, .int x2_55), (3, .int x3_f55), (4, .int x4_f55), (5, .int x5_55)]) hx hb d_Mo_sumOf_332 hl (k := 7) rfl (by rfl) (by decide) rfl (fun ls hl => ?_)
                refine lv_goto (tgt := 55) hx hb d_Mo_sumOf_335 (by decide) ?_
                exact ih55 x2_55 x5_55 (x6_55 + 1) (u_Mo_truths z_55 (upd (q_Mo_truths z_55) (x5_55 - 1).toNatClampNeg (vp_nar .boolean 1))) _ _ _ hP hD hS (lv_sub hl [2, 3, 4, 5, 6, 7, 0] rfl) hd
          · have hd := ite_f hd h_3
            refine lv_aload_n hx hb d_Mo_sumOf_78 rfl (lv_at hl 1 rfl) ?_
            refine va_get (D := D) (ci := 1) (v := .ref (a 4)) (C := R_Mo) (T := F_Mo) (N := 26) hx hb hg i_Mo hown hK hP 0 rfl rfl 10 (by decide) (hg _ g_1002) (fun _ h9 => h9) rfl d_Mo_sumOf_79 ?_
            refine lv_iload hx hb d_Mo_sumOf_82 (lv_at hl 0 rfl) ?_
            refine lv_bipush (v := 8) hx hb d_Mo_sumOf_84 (by decide) ?_
            refine lv_irem hx hb d_Mo_sumOf_86 (by decide) ?_
            obtain ⟨h_39, hd⟩ := ite_s hd
            refine ialdK hx hb hK hP 4 0 rfl rfl (inb_t h_39) rfl d_Mo_sumOf_87 ?_
            refine lv_istore (lv' := [(8, .int ((q_Mo_by z_55) (((q_Mo_s z_55) x6_55.toNatClampNeg) - ((q_Mo_s z_55) x6_55.toNatClampNeg) / 8 * 8).toNatClampNeg)), (7, .int ((q_Mo_s z_55) x6_55.toNatClampNeg)), (0, .ref (a 0)), (1, .int x1_f55), (2, .int x2_55), (3, .int x3_f55), (4, .int x4_f55), (5, .int x5_55), (6, .int x6_55)]) hx hb d_Mo_sumOf_88 hl (by decide) rfl (fun ls hl => ?_)
            refine lv_iload hx hb d_Mo_sumOf_90 (lv_at hl 1 rfl) ?_
            refine lv_bipush (v := 8) hx hb d_Mo_sumOf_92 (by decide) ?_
            refine lv_idiv hx hb d_Mo_sumOf_94 (by decide) ?_
            refine lv_iconst (v := 4) hx hb d_Mo_sumOf_95 (by decide) ?_
            refine lv_irem hx hb d_Mo_sumOf_96 (by decide) ?_
            refine lv_istore (lv' := [(9, .int ((((q_Mo_s z_55) x6_55.toNatClampNeg) / 8) - (((q_Mo_s z_55) x6_55.toNatClampNeg) / 8) / 4 * 4)), (8, .int ((q_Mo_by z_55) (((q_Mo_s z_55) x6_55.toNatClampNeg) - ((q_Mo_s z_55) x6_55.toNatClampNeg) / 8 * 8).toNatClampNeg)), (7, .int ((q_Mo_s z_55) x6_55.toNatClampNeg)), (0, .ref (a 0)), (1, .int x1_f55), (2, .int x2_55), (3, .int x3_f55), (4, .int x4_f55), (5, .int x5_55), (6, .int x6_55)]) hx hb d_Mo_sumOf_97 hl (by decide) rfl (fun ls hl => ?_)
            refine lv_iload hx hb d_Mo_sumOf_99 (lv_at hl 2 rfl) ?_
            refine lv_bipush (v := 32) hx hb d_Mo_sumOf_101 (by decide) ?_
            refine lv_idiv hx hb d_Mo_sumOf_103 (by decide) ?_
            refine lv_istore (lv' := [(10, .int (((q_Mo_s z_55) x6_55.toNatClampNeg) / 32)), (9, .int ((((q_Mo_s z_55) x6_55.toNatClampNeg) / 8) - (((q_Mo_s z_55) x6_55.toNatClampNeg) / 8) / 4 * 4)), (8, .int ((q_Mo_by z_55) (((q_Mo_s z_55) x6_55.toNatClampNeg) - ((q_Mo_s z_55) x6_55.toNatClampNeg) / 8 * 8).toNatClampNeg)), (7, .int ((q_Mo_s z_55) x6_55.toNatClampNeg)), (0, .ref (a 0)), (1, .int x1_f55), (2, .int x2_55), (3, .int x3_f55), (4, .int x4_f55), (5, .int x5_55), (6, .int x6_55)]) hx hb d_Mo_sumOf_104 hl (by decide) rfl (fun ls hl => ?_)
            refine lv_aload_n hx hb d_Mo_sumOf_106 rfl (lv_at hl 4 rfl) ?_
            refine va_get (D := D) (ci := 1) (v := .ref (a 5)) (C := R_Mo) (T := F_Mo) (N := 26) hx hb hg i_Mo hown hK hP 0 rfl rfl 11 (by decide) (hg _ g_1003) (fun _ h9 => h9) rfl d_Mo_sumOf_107 ?_
            refine lv_iload hx hb d_Mo_sumOf_110 (lv_at hl 9 rfl) ?_
            refine lv_iload hx hb d_Mo_sumOf_112 (lv_at hl 1 rfl) ?_
            refine lv_if_ne (tgt := 132) hx hb d_Mo_sumOf_114 (by decide) (fun h_28 => ?_) (fun h_28 => ?_)
            · have hd := ite_f hd h_28
              refine lv_iload hx hb d_Mo_sumOf_132 (lv_at hl 1 rfl) ?_
              refine lv_iconst (v := 1) hx hb d_Mo_sumOf_134 (by decide) ?_
              refine lv_icmp_ne (tgt := 153) hx hb d_Mo_sumOf_135 (by decide) (fun h_29 => ?_) (fun h_29 => ?_)
              · have hd := ite_f hd h_29
                refine lv_iload hx hb d_Mo_sumOf_153 (lv_at hl 2 rfl) ?_
                refine lv_iload hx hb d_Mo_sumOf_155 (lv_at hl 0 rfl) ?_
                refine lv_icmp_le (tgt := 164) hx hb d_Mo_sumOf_157 (by decide) (fun h_30 => ?_) (fun h_30 => ?_)
                · have hd := ite_t hd h_30
                  refine lv_iconst (v := 0) hx hb d_Mo_sumOf_164 (by decide) ?_
                  obtain ⟨h_31, hd⟩ := ite_s hd
                  refine zastK hx hb hK hP hD hS 5 1 rfl rfl (inb_t h_31) rfl d_Mo_sumOf_165 (fun H locs hP hD hS => ?_)
                  have hP : va_P D classes (ws_Mo g a (u_Mo_truths z_55 (upd (q_Mo_truths z_55) x5_55.toNatClampNeg (vp_nar .boolean 0)))) H := hP
                  have hD : va_D A (ws_Mo g a (u_Mo_truths z_55 (upd (q_Mo_truths z_55) x5_55.toNatClampNeg (vp_nar .boolean 0)))) := hD
                  refine lv_iinc (v := x5_55 + 1) (lv' := [(5, .int (x5_55 + 1)), (10, .int (((q_Mo_s z_55) x6_55.toNatClampNeg) / 32)), (9, .int ((((q_Mo_s z_55) x6_55.toNatClampNeg) / 8) - (((q_Mo_s z_55) x6_55.toNatClampNeg) / 8) / 4 * 4)), (8, .int ((q_Mo_by z_55) (((q_Mo_s z_55) x6_55.toNatClampNeg) - ((q_Mo_s z_55) x6_55.toNatClampNeg) / 8 * 8).toNatClampNeg)), (7, .int ((q_Mo_s z_55) x6_55.toNatClampNeg)), (0, .ref (a 0)), (1, .int x1_f55), (2, .int x2_55), (3, .int x3_f55), (4, .int x4_f55), (6, .int x6_55)]) hx hb d_Mo_sumOf_166 hl (k := 9) rfl (by rfl) (by decide) rfl (fun ls hl => ?_)
                  refine lv_goto (tgt := 332) hx hb d_Mo_sumOf_169 (by decide) ?_
                  refine lv_iinc (v := x6_55 + 1) (lv' := [(6, .int (x6_55 + 1)), (5, .int (x5_55 + 1)), (10, .int (((q_Mo_s z_55) x6_55.toNatClampNeg) / 32)), (9, .int ((((q_Mo_s z_55) x6_55.toNatClampNeg) / 8) - (((q_Mo_s z_55) x6_55.toNatClampNeg) / 8) / 4 * 4)), (8, .int ((q_Mo_by z_55) (((q_Mo_s z_55) x6_55.toNatClampNeg) - ((q_Mo_s z_55) x6_55.toNatClampNeg) / 8 * 8).toNatClampNeg)), (7, .int ((q_Mo_s z_55) x6_55.toNatClampNeg)), (0, .ref (a 0)), (1, .int x1_f55), (2, .int x2_55), (3, .int x3_f55), (4, .int x4_f55)]) hx hb d_Mo_sumOf_332 hl (k := 10) rfl (by rfl) (by decide) rfl (fun ls hl => ?_)
                  refine lv_goto (tgt := 55) hx hb d_Mo_sumOf_335 (by decide) ?_
                  exact ih55 x2_55 (x5_55 + 1) (x6_55 + 1) (u_Mo_truths z_55 (upd (q_Mo_truths z_55) x5_55.toNatClampNeg (vp_nar .boolean 0))) _ _ _ hP hD hS (lv_sub hl [6, 7, 8, 9, 10, 1, 0] rfl) hd
                · have hd := ite_f hd h_30
                  refine lv_iconst (v := 1) hx hb d_Mo_sumOf_160 (by decide) ?_
                  refine lv_goto (tgt := 165) hx hb d_Mo_sumOf_161 (by decide) ?_
                  obtain ⟨h_32, hd⟩ := ite_s hd
                  refine zastK hx hb hK hP hD hS 5 1 rfl rfl (inb_t h_32) rfl d_Mo_sumOf_165 (fun H locs hP hD hS => ?_)
                  have hP : va_P D classes (ws_Mo g a (u_Mo_truths z_55 (upd (q_Mo_truths z_55) x5_55.toNatClampNeg (vp_nar .boolean 1)))) H := hP
                  have hD : va_D A (ws_Mo g a (u_Mo_truths z_55 (upd (q_Mo_truths z_55) x5_55.toNatClampNeg (vp_nar .boolean 1)))) := hD
                  refine lv_iinc (v := x5_55 + 1) (lv' := [(5, .int (x5_55 + 1)), (10, .int (((q_Mo_s z_55) x6_55.toNatClampNeg) / 32)), (9, .int ((((q_Mo_s z_55) x6_55.toNatClampNeg) / 8) - (((q_Mo_s z_55) x6_55.toNatClampNeg) / 8) / 4 * 4)), (8, .int ((q_Mo_by z_55) (((q_Mo_s z_55) x6_55.toNatClampNeg) - ((q_Mo_s z_55) x6_55.toNatClampNeg) / 8 * 8).toNatClampNeg)), (7, .int ((q_Mo_s z_55) x6_55.toNatClampNeg)), (0, .ref (a 0)), (1, .int x1_f55), (2, .int x2_55), (3, .int x3_f55), (4, .int x4_f55), (6, .int x6_55)]) hx hb d_Mo_sumOf_166 hl (k := 9) rfl (by rfl) (by decide) rfl (fun ls hl => ?_)
                  refine lv_goto (tgt := 332) hx hb d_Mo_sumOf_169 (by decide) ?_
                  refine lv_iinc (v := x6_55 + 1) (lv' := [(6, .int (x6_55 + 1)), (5, .int (x5_55 + 1)), (10, .int (((q_Mo_s z_55) x6_55.toNatClampNeg) / 32)), (9, .int ((((q_Mo_s z_55) x6_55.toNatClampNeg) / 8) - (((q_Mo_s z_55) x6_55.toNatClampNeg) / 8) / 4 * 4)), (8, .int ((q_Mo_by z_55) (((q_Mo_s z_55) x6_55.toNatClampNeg) - ((q_Mo_s z_55) x6_55.toNatClampNeg) / 8 * 8).toNatClampNeg)), (7, .int ((q_Mo_s z_55) x6_55.toNatClampNeg)), (0, .ref (a 0)), (1, .int x1_f55), (2, .int x2_55), (3, .int x3_f55), (4, .int x4_f55)]) hx hb d_Mo_sumOf_332 hl (k := 10) rfl (by rfl) (by decide) rfl (fun ls hl => ?_)
                  refine lv_goto (tgt := 55) hx hb d_Mo_sumOf_335 (by decide) ?_
                  exact ih55 x2_55 (x5_55 + 1) (x6_55 + 1) (u_Mo_truths z_55 (upd (q_Mo_truths z_55) x5_55.toNatClampNeg (vp_nar .boolean 1))) _ _ _ hP hD hS (lv_sub hl [6, 7, 8, 9, 10, 1, 0] rfl) hd
              · have hd := ite_t hd h_29
                refine lv_iload hx hb d_Mo_sumOf_138 (lv_at hl 2 rfl) ?_
                refine lv_iload hx hb d_Mo_sumOf_140 (lv_at hl 0 rfl) ?_
                refine lv_icmp_ne (tgt := 149) hx hb d_Mo_sumOf_142 (by decide) (fun h_33 => ?_) (fun h_33 => ?_)
                · have hd := ite_f hd h_33
                  refine lv_iconst (v := 0) hx hb d_Mo_sumOf_149 (by decide) ?_
                  refine lv_goto (tgt := 165) hx hb d_Mo_sumOf_150 (by decide) ?_
                  obtain ⟨h_34, hd⟩ := ite_s hd
                  refine zastK hx hb hK hP hD hS 5 1 rfl rfl (inb_t h_34) rfl d_Mo_sumOf_165 (fun H locs hP hD hS => ?_)
                  have hP : va_P D classes (ws_Mo g a (u_Mo_truths z_55 (upd (q_Mo_truths z_55) x5_55.toNatClampNeg (vp_nar .boolean 0)))) H := hP
                  have hD : va_D A (ws_Mo g a (u_Mo_truths z_55 (upd (q_Mo_truths z_55) x5_55.toNatClampNeg (vp_nar .boolean 0)))) := hD
                  refine lv_iinc (v := x5_55 + 1) (lv' := [(5, .int (x5_55 + 1)), (10, .int (((q_Mo_s z_55) x6_55.toNatClampNeg) / 32)), (9, .int ((((q_Mo_s z_55) x6_55.toNatClampNeg) / 8) - (((q_Mo_s z_55) x6_55.toNatClampNeg) / 8) / 4 * 4)), (8, .int ((q_Mo_by z_55) (((q_Mo_s z_55) x6_55.toNatClampNeg) - ((q_Mo_s z_55) x6_55.toNatClampNeg) / 8 * 8).toNatClampNeg)), (7, .int ((q_Mo_s z_55) x6_55.toNatClampNeg)), (0, .ref (a 0)), (1, .int x1_f55), (2, .int x2_55), (3, .int x3_f55), (4, .int x4_f55), (6, .int x6_55)]) hx hb d_Mo_sumOf_166 hl (k := 9) rfl (by rfl) (by decide) rfl (fun ls hl => ?_)
                  refine lv_goto (tgt := 332) hx hb d_Mo_sumOf_169 (by decide) ?_
                  refine lv_iinc (v := x6_55 + 1) (lv' := [(6, .int (x6_55 + 1)), (5, .int (x5_55 + 1)), (10, .int (((q_Mo_s z_55) x6_55.toNatClampNeg) / 32)), (9, .int ((((q_Mo_s z_55) x6_55.toNatClampNeg) / 8) - (((q_Mo_s z_55) x6_55.toNatClampNeg) / 8) / 4 * 4)), (8, .int ((q_Mo_by z_55) (((q_Mo_s z_55) x6_55.toNatClampNeg) - ((q_Mo_s z_55) x6_55.toNatClampNeg) / 8 * 8).toNatClampNeg)), (7, .int ((q_Mo_s z_55) x6_55.toNatClampNeg)), (0, .ref (a 0)), (1, .int x1_f55), (2, .int x2_55), (3, .int x3_f55), (4, .int x4_f55)]) hx hb d_Mo_sumOf_332 hl (k := 10) rfl (by rfl) (by decide) rfl (fun ls hl => ?_)
                  refine lv_goto (tgt := 55) hx hb d_Mo_sumOf_335 (by decide) ?_
                  exact ih55 x2_55 (x5_55 + 1) (x6_55 + 1) (u_Mo_truths z_55 (upd (q_Mo_truths z_55) x5_55.toNatClampNeg (vp_nar .boolean 0))) _ _ _ hP hD hS (lv_sub hl [6, 7, 8, 9, 10, 1, 0] rfl) hd
                · have hd := ite_t hd h_33
                  refine lv_iconst (v := 1) hx hb d_Mo_sumOf_145 (by decide) ?_
                  refine lv_goto (tgt := 165) hx hb d_Mo_sumOf_146 (by decide) ?_
                  obtain ⟨h_35, hd⟩ := ite_s hd
                  refine zastK hx hb hK hP hD hS 5 1 rfl rfl (inb_t h_35) rfl d_Mo_sumOf_165 (fun H locs hP hD hS => ?_)
                  have hP : va_P D classes (ws_Mo g a (u_Mo_truths z_55 (upd (q_Mo_truths z_55) x5_55.toNatClampNeg (vp_nar .boolean 1)))) H := hP
                  have hD : va_D A (ws_Mo g a (u_Mo_truths z_55 (upd (q_Mo_truths z_55) x5_55.toNatClampNeg (vp_nar .boolean 1)))) := hD
                  refine lv_iinc (v := x5_55 + 1) (lv' := [(5, .int (x5_55 + 1)), (10, .int (((q_Mo_s z_55) x6_55.toNatClampNeg) / 32)), (9, .int ((((q_Mo_s z_55) x6_55.toNatClampNeg) / 8) - (((q_Mo_s z_55) x6_55.toNatClampNeg) / 8) / 4 * 4)), (8, .int ((q_Mo_by z_55) (((q_Mo_s z_55) x6_55.toNatClampNeg) - ((q_Mo_s z_55) x6_55.toNatClampNeg) / 8 * 8).toNatClampNeg)), (7, .int ((q_Mo_s z_55) x6_55.toNatClampNeg)), (0, .ref (a 0)), (1, .int x1_f55), (2, .int x2_55), (3, .int x3_f55), (4, .int x4_f55), (6, .int x6_55)]) hx hb d_Mo_sumOf_166 hl (k := 9) rfl (by rfl) (by decide) rfl (fun ls hl => ?_)
                  refine lv_goto (tgt := 332) hx hb d_Mo_sumOf_169 (by decide) ?_
                  refine lv_iinc (v := x6_55 + 1) (lv' := [(6, .int (x6_55 + 1)), (5, .int (x5_55 + 1)), (10, .int (((q_Mo_s z_55) x6_55.toNatClampNeg) / 32)), (9, .int ((((q_Mo_s z_55) x6_55.toNatClampNeg) / 8) - (((q_Mo_s z_55) x6_55.toNatClampNeg) / 8) / 4 * 4)), (8, .int ((q_Mo_by z_55) (((q_Mo_s z_55) x6_55.toNatClampNeg) - ((q_Mo_s z_55) x6_55.toNatClampNeg) / 8 * 8).toNatClampNeg)), (7, .int ((q_Mo_s z_55) x6_55.toNatClampNeg)), (0, .ref (a 0)), (1, .int x1_f55), (2, .int x2_55), (3, .int x3_f55), (4, .int x4_f55)]) hx hb d_Mo_sumOf_332 hl (k := 10) rfl (by rfl) (by decide) rfl (fun ls hl => ?_)
                  refine lv_goto (tgt := 55) hx hb d_Mo_sumOf_335 (by decide) ?_
                  exact ih55 x2_55 (x5_55 + 1) (x6_55 + 1) (u_Mo_truths z_55 (upd (q_Mo_truths z_55) x5_55.toNatClampNeg (vp_nar .boolean 1))) _ _ _ hP hD hS (lv_sub hl [6, 7, 8, 9, 10, 1, 0] rfl) hd
            · have hd := ite_t hd h_28
              refine lv_iload hx hb d_Mo_sumOf_117 (lv_at hl 2 rfl) ?_
              refine lv_iload hx hb d_Mo_sumOf_119 (lv_at hl 0 rfl) ?_
              refine lv_icmp_ge (tgt := 128) hx hb d_Mo_sumOf_121 (by decide) (fun h_36 => ?_) (fun h_36 => ?_)
              · have hd := ite_t hd h_36
                refine lv_iconst (v := 0) hx hb d_Mo_sumOf_128 (by decide) ?_
                refine lv_goto (tgt := 165) hx hb d_Mo_sumOf_129 (by decide) ?_
                obtain ⟨h_37, hd⟩ := ite_s hd
                refine zastK hx hb hK hP hD hS 5 1 rfl rfl (inb_t h_37) rfl d_Mo_sumOf_165 (fun H locs hP hD hS => ?_)
                have hP : va_P D classes (ws_Mo g a (u_Mo_truths z_55 (upd (q_Mo_truths z_55) x5_55.toNatClampNeg (vp_nar .boolean 0)))) H := hP
                have hD : va_D A (ws_Mo g a (u_Mo_truths z_55 (upd (q_Mo_truths z_55) x5_55.toNatClampNeg (vp_nar .boolean 0)))) := hD
                refine lv_iinc (v := x5_55 + 1) (lv' := [(5, .int (x5_55 + 1)), (10, .int (((q_Mo_s z_55) x6_55.toNatClampNeg) / 32)), (9, .int ((((q_Mo_s z_55) x6_55.toNatClampNeg) / 8) - (((q_Mo_s z_55) x6_55.toNatClampNeg) / 8) / 4 * 4)), (8, .int ((q_Mo_by z_55) (((q_Mo_s z_55) x6_55.toNatClampNeg) - ((q_Mo_s z_55) x6_55.toNatClampNeg) / 8 * 8).toNatClampNeg)), (7, .int ((q_Mo_s z_55) x6_55.toNatClampNeg)), (0, .ref (a 0)), (1, .int x1_f55), (2, .int x2_55), (3, .int x3_f55), (4, .int x4_f55), (6, .int x6_55)]) hx hb d_Mo_sumOf_166 hl (k := 9) rfl (by rfl) (by decide) rfl (fun ls hl => ?_)
                refine lv_goto (tgt := 332) hx hb d_Mo_sumOf_169 (by decide) ?_
                refine lv_iinc (v := x6_55 + 1) (lv' := [(6, .int (x6_55 + 1)), (5, .int (x5_55 + 1)), (10, .int (((q_Mo_s z_55) x6_55.toNatClampNeg) / 32)), (9, .int ((((q_Mo_s z_55) x6_55.toNatClampNeg) / 8) - (((q_Mo_s z_55) x6_55.toNatClampNeg) / 8) / 4 * 4)), (8, .int ((q_Mo_by z_55) (((q_Mo_s z_55) x6_55.toNatClampNeg) - ((q_Mo_s z_55) x6_55.toNatClampNeg) / 8 * 8).toNatClampNeg)), (7, .int ((q_Mo_s z_55) x6_55.toNatClampNeg)), (0, .ref (a 0)), (1, .int x1_f55), (2, .int x2_55), (3, .int x3_f55), (4, .int x4_f55)]) hx hb d_Mo_sumOf_332 hl (k := 10) rfl (by rfl) (by decide) rfl (fun ls hl => ?_)
                refine lv_goto (tgt := 55) hx hb d_Mo_sumOf_335 (by decide) ?_
                exact ih55 x2_55 (x5_55 + 1) (x6_55 + 1) (u_Mo_truths z_55 (upd (q_Mo_truths z_55) x5_55.toNatClampNeg (vp_nar .boolean 0))) _ _ _ hP hD hS (lv_sub hl [6, 7, 8, 9, 10, 1, 0] rfl) hd
              · have hd := ite_f hd h_36
                refine lv_iconst (v := 1) hx hb d_Mo_sumOf_124 (by decide) ?_
                refine lv_goto (tgt := 165) hx hb d_Mo_sumOf_125 (by decide) ?_
                obtain ⟨h_38, hd⟩ := ite_s hd
                refine zastK hx hb hK hP hD hS 5 1 rfl rfl (inb_t h_38) rfl d_Mo_sumOf_165 (fun H locs hP hD hS => ?_)
                have hP : va_P D classes (ws_Mo g a (u_Mo_truths z_55 (upd (q_Mo_truths z_55) x5_55.toNatClampNeg (vp_nar .boolean 1)))) H := hP
                have hD : va_D A (ws_Mo g a (u_Mo_truths z_55 (upd (q_Mo_truths z_55) x5_55.toNatClampNeg (vp_nar .boolean 1)))) := hD
                refine lv_iinc (v := x5_55 + 1) (lv' := [(5, .int (x5_55 + 1)), (10, .int (((q_Mo_s z_55) x6_55.toNatClampNeg) / 32)), (9, .int ((((q_Mo_s z_55) x6_55.toNatClampNeg) / 8) - (((q_Mo_s z_55) x6_55.toNatClampNeg) / 8) / 4 * 4)), (8, .int ((q_Mo_by z_55) (((q_Mo_s z_55) x6_55.toNatClampNeg) - ((q_Mo_s z_55) x6_55.toNatClampNeg) / 8 * 8).toNatClampNeg)), (7, .int ((q_Mo_s z_55) x6_55.toNatClampNeg)), (0, .ref (a 0)), (1, .int x1_f55), (2, .int x2_55), (3, .int x3_f55), (4, .int x4_f55), (6, .int x6_55)]) hx hb d_Mo_sumOf_166 hl (k := 9) rfl (by rfl) (by decide) rfl (fun ls hl => ?_)
                refine lv_goto (tgt := 332) hx hb d_Mo_sumOf_169 (by decide) ?_
                refine lv_iinc (v := x6_55 + 1) (lv' := [(6, .int (x6_55 + 1)), (5, .int (x5_55 + 1)), (10, .int (((q_Mo_s z_55) x6_55.toNatClampNeg) / 32)), (9, .int ((((q_Mo_s z_55) x6_55.toNatClampNeg) / 8) - (((q_Mo_s z_55) x6_55.toNatClampNeg) / 8) / 4 * 4)), (8, .int ((q_Mo_by z_55) (((q_Mo_s z_55) x6_55.toNatClampNeg) - ((q_Mo_s z_55) x6_55.toNatClampNeg) / 8 * 8).toNatClampNeg)), (7, .int ((q_Mo_s z_55) x6_55.toNatClampNeg)), (0, .ref (a 0)), (1, .int x1_f55), (2, .int x2_55), (3, .int x3_f55), (4, .int x4_f55)]) hx hb d_Mo_sumOf_332 hl (k := 10) rfl (by rfl) (by decide) rfl (fun ls hl => ?_)
                refine lv_goto (tgt := 55) hx hb d_Mo_sumOf_335 (by decide) ?_
                exact ih55 x2_55 (x5_55 + 1) (x6_55 + 1) (u_Mo_truths z_55 (upd (q_Mo_truths z_55) x5_55.toNatClampNeg (vp_nar .boolean 1))) _ _ _ hP hD hS (lv_sub hl [6, 7, 8, 9, 10, 1, 0] rfl) hd
    exact lp55 x1 ((q_Mo_s z) (196 + ((q_Mo_s z) 5)).toNatClampNeg) (201 + (140 * ((q_Mo_s z) 5))) 1000 0 0 (201 + (140 * ((q_Mo_s z) 5))) z _ _ _ hP hD hS (lv_sub hl [5, 6, 4, 3, 2, 1, 0] rfl) hd
  · have hd := ite_t hd h_1
    refine lv_iconst (v := 0) hx hb d_Mo_sumOf_12 (by decide) ?_
    refine lv_goto (tgt := 31) hx hb d_Mo_sumOf_13 (by decide) ?_
    refine lv_istore_n (lv' := [(3, .int 0), (2, .int 0), (0, .ref (a 0)), (1, .int x1)]) hx hb d_Mo_sumOf_31 rfl hl (by decide) rfl (fun ls hl => ?_)
    refine lv_sipush (v := 201) hx hb d_Mo_sumOf_32 (by decide) ?_
    refine lv_sipush (v := 140) hx hb d_Mo_sumOf_35 (by decide) ?_
    refine lv_aload_n hx hb d_Mo_sumOf_38 rfl (lv_at hl 2 rfl) ?_
    refine va_get (D := D) (ci := 1) (v := .ref (a 1)) (C := R_Mo) (T := F_Mo) (N := 26) hx hb hg i_Mo hown hK hP 0 rfl rfl 1 (by decide) (hg _ g_993) (fun _ h9 => h9) rfl d_Mo_sumOf_39 ?_
    refine lv_iconst (v := 5) hx hb d_Mo_sumOf_42 (by decide) ?_
    refine ialdK hx hb hK hP 1 0 rfl rfl (inb_t (by decide +kernel)) (k := 5) (by decide +kernel) d_Mo_sumOf_43 ?_
    refine lv_imul hx hb d_Mo_sumOf_44 ?_
    refine lv_iadd hx hb d_Mo_sumOf_45 ?_
    refine lv_istore (lv' := [(4, .int (201 + (140 * ((q_Mo_s z) 5)))), (3, .int 0), (2, .int 0), (0, .ref (a 0)), (1, .int x1)]) hx hb d_Mo_sumOf_46 hl (by decide) rfl (fun ls hl => ?_)
    refine lv_iconst (v := 0) hx hb d_Mo_sumOf_48 (by decide) ?_
    refine lv_istore (lv' := [(5, .int 0), (4, .int (201 + (140 * ((q_Mo_s z) 5)))), (3, .int 0), (2, .int 0), (0, .ref (a 0)), (1, .int x1)]) hx hb d_Mo_sumOf_49 hl (by decide) rfl (fun ls hl => ?_)
    refine lv_iload hx hb d_Mo_sumOf_51 (lv_at hl 1 rfl) ?_
    refine lv_istore (lv' := [(6, .int (201 + (140 * ((q_Mo_s z) 5)))), (5, .int 0), (4, .int (201 + (140 * ((q_Mo_s z) 5)))), (3, .int 0), (2, .int 0), (0, .ref (a 0)), (1, .int x1)]) hx hb d_Mo_sumOf_53 hl (by decide) rfl (fun ls hl => ?_)
    have lp55 : ∀ (x1_f55 : Int32) (x3_f55 : Int32) (x4_f55 : Int32) (n : Nat) (x2_55 : Int32) (x5_55 : Int32) (x6_55 : Int32) (z_55 : T_Mo) (H : Heap) (locs : List Loc) (ls : Array Slot), va_P D classes (ws_Mo g a z_55) H → va_D A (ws_Mo g a z_55) → va_S A s.heap H locs → lv_has ls 11 [(0, .ref (a 0)), (1, .int x1_f55), (2, .int x2_55), (3, .int x3_f55), (4, .int x4_f55), (5, .int x5_55), (6, .int x6_55)] → d_Mo_sumOf_L55 x1_f55 x3_f55 x4_f55 n x2_55 x5_55 x6_55 z_55 = some v → GI p l e s m ({ frames := 0, cells := 0, slots := 0, locals := 0 } : Room) ([.ref (a 0), .int x1] : List Value).toArray below meth c A D g (ws_Mo g a v.2) (v.1) H locs (F0 m 55 ls []) := by
      intro x1_f55 x3_f55 x4_f55 n
      induction n with
      | zero =>
        intro  x2_55 x5_55 x6_55 z_55 H locs ls hP hD hS hl hd
        have hd : none = some v := hd
        cases hd
      | succ n ih55 =>
        intro  x2_55 x5_55 x6_55 z_55 H locs ls hP hD hS hl hd
        have hd : B_Mo_sumOf_L55 x1_f55 x3_f55 x4_f55 (d_Mo_sumOf_L55 x1_f55 x3_f55 x4_f55 n) x2_55 x5_55 x6_55 z_55 = some v := hd
        generalize d_Mo_sumOf_L55 x1_f55 x3_f55 x4_f55 n = self55 at ih55 hd
        unfold B_Mo_sumOf_L55 at hd
        refine lv_iload hx hb d_Mo_sumOf_55 (lv_at hl 6 rfl) ?_
        refine lv_iload hx hb d_Mo_sumOf_57 (lv_at hl 4 rfl) ?_
        refine lv_iload_n hx hb d_Mo_sumOf_59 rfl (lv_at hl 3 rfl) ?_
        refine lv_iadd hx hb d_Mo_sumOf_60 ?_
        refine lv_icmp_ge (tgt := 338) hx hb d_Mo_sumOf_61 (by decide) (fun h_42 => ?_) (fun h_42 => ?_)
        · have hd := ite_t hd h_42
          refine lv_iload_n hx hb d_Mo_sumOf_338 rfl (lv_at hl 2 rfl) ?_
          obtain rfl := Option.some.inj hd
          exact retI hx hb hr hlk hK hP hD hS d_Mo_sumOf_339 rfl
        · have hd := ite_f hd h_42
          refine lv_aload_n hx hb d_Mo_sumOf_64 rfl (lv_at hl 0 rfl) ?_
          refine va_get (D := D) (ci := 1) (v := .ref (a 1)) (C := R_Mo) (T := F_Mo) (N := 26) hx hb hg i_Mo hown hK hP 0 rfl rfl 1 (by decide) (hg _ g_993) (fun _ h9 => h9) rfl d_Mo_sumOf_65 ?_
          refine lv_iload hx hb d_Mo_sumOf_68 (lv_at hl 6 rfl) ?_
          obtain ⟨h_80, hd⟩ := ite_s hd
          refine ialdK hx hb hK hP 1 0 rfl rfl (inb_t h_80) rfl d_Mo_sumOf_70 ?_
          refine lv_istore (lv' := [(7, .int ((q_Mo_s z_55) x6_55.toNatClampNeg)), (0, .ref (a 0)), (1, .int x1_f55), (2, .int x2_55), (3, .int x3_f55), (4, .int x4_f55), (5, .int x5_55), (6, .int x6_55)]) hx hb d_Mo_sumOf_71 hl (by decide) rfl (fun ls hl => ?_)
          refine lv_iload hx hb d_Mo_sumOf_73 (lv_at hl 0 rfl) ?_
          refine lv_if_lt (tgt := 172) hx hb d_Mo_sumOf_75 (by decide) (fun h_43 => ?_) (fun h_43 => ?_)
          · have hd := ite_t hd h_43
            refine lv_iload hx hb d_Mo_sumOf_172 (lv_at hl 0 rfl) ?_
            refine lv_iconst (v := (-1)) hx hb d_Mo_sumOf_174 (by decide) ?_
            refine lv_icmp_ne (tgt := 207) hx hb d_Mo_sumOf_175 (by decide) (fun h_44 => ?_) (fun h_44 => ?_)
            · have hd := ite_f hd h_44
              refine lv_iload hx hb d_Mo_sumOf_207 (lv_at hl 0 rfl) ?_
              refine lv_bipush (v := (-10)) hx hb d_Mo_sumOf_209 (by decide) ?_
              refine lv_icmp_le (tgt := 293) hx hb d_Mo_sumOf_211 (by decide) (fun h_45 => ?_) (fun h_45 => ?_)
              · have hd := ite_t hd h_45
                refine lv_iconst (v := 0) hx hb d_Mo_sumOf_293 (by decide) ?_
                refine lv_istore (lv' := [(5, .int 0), (7, .int ((q_Mo_s z_55) x6_55.toNatClampNeg)), (0, .ref (a 0)), (1, .int x1_f55), (2, .int x2_55), (3, .int x3_f55), (4, .int x4_f55), (6, .int x6_55)]) hx hb d_Mo_sumOf_294 hl (by decide) rfl (fun ls hl => ?_)
                refine lv_iload_n hx hb d_Mo_sumOf_296 rfl (lv_at hl 4 rfl) ?_
                refine lv_aload_n hx hb d_Mo_sumOf_297 rfl (lv_at hl 2 rfl) ?_
                refine va_get (D := D) (ci := 1) (v := .ref (a 5)) (C := R_Mo) (T := F_Mo) (N := 26) hx hb hg i_Mo hown hK hP 0 rfl rfl 11 (by decide) (hg _ g_1003) (fun _ h9 => h9) rfl d_Mo_sumOf_298 ?_
                refine lv_iconst (v := 0) hx hb d_Mo_sumOf_301 (by decide) ?_
                refine zaldK hx hb hK hP 5 1 rfl rfl (inb_t (by decide +kernel)) (k := 0) (by decide +kernel) d_Mo_sumOf_302 ?_
                refine lv_if_eq (tgt := 329) hx hb d_Mo_sumOf_303 (by decide) (fun h_46 => ?_) (fun h_46 => ?_)
                · have hd := ite_t hd h_46
                  refine lv_iconst (v := 0) hx hb d_Mo_sumOf_329 (by decide) ?_
                  refine lv_iadd hx hb d_Mo_sumOf_330 ?_
                  refine lv_istore_n (lv' := [(2, .int (x2_55 + 0)), (5, .int 0), (7, .int ((q_Mo_s z_55) x6_55.toNatClampNeg)), (0, .ref (a 0)), (1, .int x1_f55), (3, .int x3_f55), (4, .int x4_f55), (6, .int x6_55)]) hx hb d_Mo_sumOf_331 rfl hl (by decide) rfl (fun ls hl => ?_)
                  refine lv_iinc (v := x6_55 + 1) (lv' := [(6, .int (x6_55 + 1)), (2, .int (x2_55 + 0)), (5, .int 0), (7, .int ((q_Mo_s z_55) x6_55.toNatClampNeg)), (0, .ref (a 0)), (1, .int x1_f55), (3, .int x3_f55), (4, .int x4_f55)]) hx hb d_Mo_sumOf_332 hl (k := 7) rfl (by rfl) (by decide) rfl (fun ls hl => ?_)
                  refine lv_goto (tgt := 55) hx hb d_Mo_sumOf_335 (by decide) ?_
                  exact ih55 (x2_55 + 0) 0 (x6_55 + 1) z_55 _ _ _ hP hD hS (lv_sub hl [4, 5, 1, 6, 7, 2, 0] rfl) hd
                · have hd := ite_f hd h_46
                  refine lv_iload hx hb d_Mo_sumOf_306 (lv_at hl 1 rfl) ?_
                  refine lv_iload_n hx hb d_Mo_sumOf_308 rfl (lv_at hl 3 rfl) ?_
                  refine lv_icmp_gt (tgt := 329) hx hb d_Mo_sumOf_309 (by decide) (fun h_47 => ?_) (fun h_47 => ?_)
                  · have hd := ite_t hd h_47
                    refine lv_iconst (v := 0) hx hb d_Mo_sumOf_329 (by decide) ?_
                    refine lv_iadd hx hb d_Mo_sumOf_330 ?_
                    refine lv_istore_n (lv' := [(2, .int (x2_55 + 0)), (5, .int 0), (7, .int ((q_Mo_s z_55) x6_55.toNatClampNeg)), (0, .ref (a 0)), (1, .int x1_f55), (3, .int x3_f55), (4, .int x4_f55), (6, .int x6_55)]) hx hb d_Mo_sumOf_331 rfl hl (by decide) rfl (fun ls hl => ?_)
                    refine lv_iinc (v := x6_55 + 1) (lv' := [(6, .int (x6_55 + 1)), (2, .int (x2_55 + 0)), (5, .int 0), (7, .int ((q_Mo_s z_55) x6_55.toNatClampNeg)), (0, .ref (a 0)), (1, .int x1_f55), (3, .int x3_f55), (4, .int x4_f55)]) hx hb d_Mo_sumOf_332 hl (k := 7) rfl (by rfl) (by decide) rfl (fun ls hl => ?_)
                    refine lv_goto (tgt := 55) hx hb d_Mo_sumOf_335 (by decide) ?_
                    exact ih55 (x2_55 + 0) 0 (x6_55 + 1) z_55 _ _ _ hP hD hS (lv_sub hl [4, 5, 1, 6, 7, 2, 0] rfl) hd
                  · have hd := ite_f hd h_47
                    refine lv_iload hx hb d_Mo_sumOf_312 (lv_at hl 1 rfl) ?_
                    refine lv_iload_n hx hb d_Mo_sumOf_314 rfl (lv_at hl 3 rfl) ?_
                    refine lv_sipush (v := 150) hx hb d_Mo_sumOf_315 (by decide) ?_
                    refine lv_isub hx hb d_Mo_sumOf_318 ?_
                    refine lv_icmp_le (tgt := 329) hx hb d_Mo_sumOf_319 (by decide) (fun h_48 => ?_) (fun h_48 => ?_)
                    · have hd := ite_t hd h_48
                      refine lv_iconst (v := 0) hx hb d_Mo_sumOf_329 (by decide) ?_
                      refine lv_iadd hx hb d_Mo_sumOf_330 ?_
                      refine lv_istore_n (lv' := [(2, .int (x2_55 + 0)), (5, .int 0), (7, .int ((q_Mo_s z_55) x6_55.toNatClampNeg)), (0, .ref (a 0)), (1, .int x1_f55), (3, .int x3_f55), (4, .int x4_f55), (6, .int x6_55)]) hx hb d_Mo_sumOf_331 rfl hl (by decide) rfl (fun ls hl => ?_)
                      refine lv_iinc (v := x6_55 + 1) (lv' := [(6, .int (x6_55 + 1)), (2, .int (x2_55 + 0)), (5, .int 0), (7, .int ((q_Mo_s z_55) x6_55.toNatClampNeg)), (0, .ref (a 0)), (1, .int x1_f55), (3, .int x3_f55), (4, .int x4_f55)]) hx hb d_Mo_sumOf_332 hl (k := 7) rfl (by rfl) (by decide) rfl (fun ls hl => ?_)
                      refine lv_goto (tgt := 55) hx hb d_Mo_sumOf_335 (by decide) ?_
                      exact ih55 (x2_55 + 0) 0 (x6_55 + 1) z_55 _ _ _ hP hD hS (lv_sub hl [4, 5, 1, 6, 7, 2, 0] rfl) hd
                    · have hd := ite_f hd h_48
                      refine lv_iload_n hx hb d_Mo_sumOf_322 rfl (lv_at hl 3 rfl) ?_
                      refine lv_iload hx hb d_Mo_sumOf_323 (lv_at hl 1 rfl) ?_
                      refine lv_isub hx hb d_Mo_sumOf_325 ?_
                      refine lv_goto (tgt := 330) hx hb d_Mo_sumOf_326 (by decide) ?_
                      refine lv_iadd hx hb d_Mo_sumOf_330 ?_
                      refine lv_istore_n (lv' := [(2, .int (x2_55 + (x1_f55 - ((q_Mo_s z_55) x6_55.toNatClampNeg)))), (5, .int 0), (7, .int ((q_Mo_s z_55) x6_55.toNatClampNeg)), (0, .ref (a 0)), (1, .int x1_f55), (3, .int x3_f55), (4, .int x4_f55), (6, .int x6_55)]) hx hb d_Mo_sumOf_331 rfl hl (by decide) rfl (fun ls hl => ?_)
                      refine lv_iinc (v := x6_55 + 1) (lv' := [(6, .int (x6_55 + 1)), (2, .int (x2_55 + (x1_f55 - ((q_Mo_s z_55) x6_55.toNatClampNeg)))), (5, .int 0), (7, .int ((q_Mo_s z_55) x6_55.toNatClampNeg)), (0, .ref (a 0)), (1, .int x1_f55), (3, .int x3_f55), (4, .int x4_f55)]) hx hb d_Mo_sumOf_332 hl (k := 7) rfl (by rfl) (by decide) rfl (fun ls hl => ?_)
                      refine lv_goto (tgt := 55) hx hb d_Mo_sumOf_335 (by decide) ?_
                      exact ih55 (x2_55 + (x1_f55 - ((q_Mo_s z_55) x6_55.toNatClampNeg))) 0 (x6_55 + 1) z_55 _ _ _ hP hD hS (lv_sub hl [4, 5, 1, 6, 7, 2, 0] rfl) hd
              · have hd := ite_f hd h_45
                refine lv_iinc (v := x5_55 + (-1)) (lv' := [(5, .int (x5_55 + (-1))), (7, .int ((q_Mo_s z_55) x6_55.toNatClampNeg)), (0, .ref (a 0)), (1, .int x1_f55), (2, .int x2_55), (3, .int x3_f55), (4, .int x4_f55), (6, .int x6_55)]) hx hb d_Mo_sumOf_214 hl (k := 6) rfl (by rfl) (by decide) rfl (fun ls hl => ?_)
                refine lv_aload_n hx hb d_Mo_sumOf_217 rfl (lv_at hl 2 rfl) ?_
                refine va_get (D := D) (ci := 1) (v := .ref (a 5)) (C := R_Mo) (T := F_Mo) (N := 26) hx hb hg i_Mo hown hK hP 0 rfl rfl 11 (by decide) (hg _ g_1003) (fun _ h9 => h9) rfl d_Mo_sumOf_218 ?_
                refine lv_iload hx hb d_Mo_sumOf_221 (lv_at hl 0 rfl) ?_
                refine lv_iconst (v := 1) hx hb d_Mo_sumOf_223 (by decide) ?_
                refine lv_isub hx hb d_Mo_sumOf_224 ?_
                refine lv_iload hx hb d_Mo_sumOf_225 (lv_at hl 1 rfl) ?_
                refine lv_bipush (v := (-2)) hx hb d_Mo_sumOf_227 (by decide) ?_
                refine lv_icmp_ne (tgt := 262) hx hb d_Mo_sumOf_229 (by decide) (fun h_49 => ?_) (fun h_49 => ?_)
                · have hd := ite_f hd h_49
                  refine lv_aload_n hx hb d_Mo_sumOf_262 rfl (lv_at hl 2 rfl) ?_
                  refine va_get (D := D) (ci := 1) (v := .ref (a 5)) (C := R_Mo) (T := F_Mo) (N := 26) hx hb hg i_Mo hown hK hP 0 rfl rfl 11 (by decide) (hg _ g_1003) (fun _ h9 => h9) rfl d_Mo_sumOf_263 ?_
                  refine lv_iload hx hb d_Mo_sumOf_266 (lv_at hl 0 rfl) ?_
                  refine lv_iconst (v := 1) hx hb d_Mo_sumOf_268 (by decide) ?_
                  refine lv_isub hx hb d_Mo_sumOf_269 ?_
                  obtain ⟨h_56, hd⟩ := ite_s hd
                  refine zaldK hx hb hK hP 5 1 rfl rfl (inb_t h_56) rfl d_Mo_sumOf_270 ?_
                  refine lv_if_ne (tgt := 284) hx hb d_Mo_sumOf_271 (by decide) (fun h_50 => ?_) (fun h_50 => ?_)
                  · have hd := ite_f hd h_50
                    refine lv_iconst (v := 1) hx hb d_Mo_sumOf_284 (by decide) ?_
                    refine lv_goto (tgt := 289) hx hb d_Mo_sumOf_285 (by decide) ?_
                    obtain ⟨h_51, hd⟩ := ite_s hd
                    refine zastK hx hb hK hP hD hS 5 1 rfl rfl (inb_t h_51) rfl d_Mo_sumOf_289 (fun H locs hP hD hS => ?_)
                    have hP : va_P D classes (ws_Mo g a (u_Mo_truths z_55 (upd (q_Mo_truths z_55) ((x5_55 + (-1)) - 1).toNatClampNeg (vp_nar .boolean 1)))) H := hP
                    have hD : va_D A (ws_Mo g a (u_Mo_truths z_55 (upd (q_Mo_truths z_55) ((x5_55 + (-1)) - 1).toNatClampNeg (vp_nar .boolean 1)))) := hD
                    refine lv_goto (tgt := 332) hx hb d_Mo_sumOf_290 (by decide) ?_
                    refine lv_iinc (v := x6_55 + 1) (lv' := [(6, .int (x6_55 + 1)), (5, .int (x5_55 + (-1))), (7, .int ((q_Mo_s z_55) x6_55.toNatClampNeg)), (0, .ref (a 0)), (1, .int x1_f55), (2, .int x2_55), (3, .int x3_f55), (4, .int x4_f55)]) hx hb d_Mo_sumOf_332 hl (k := 7) rfl (by rfl) (by decide) rfl (fun ls hl => ?_)
                    refine lv_goto (tgt := 55) hx hb d_Mo_sumOf_335 (by decide) ?_
                    exact ih55 x2_55 (x5_55 + (-1)) (x6_55 + 1) (u_Mo_truths z_55 (upd (q_Mo_truths z_55) ((x5_55 + (-1)) - 1).toNatClampNeg (vp_nar .boolean 1))) _ _ _ hP hD hS (lv_sub hl [3, 4, 5, 6, 7, 1, 0] rfl) hd
                  · have hd := ite_t hd h_50
                    refine lv_aload_n hx hb d_Mo_sumOf_274 rfl (lv_at hl 2 rfl) ?_
                    refine va_get (D := D) (ci := 1) (v := .ref (a 5)) (C := R_Mo) (T := F_Mo) (N := 26) hx hb hg i_Mo hown hK hP 0 rfl rfl 11 (by decide) (hg _ g_1003) (fun _ h9 => h9) rfl d_Mo_sumOf_275 ?_
                    refine lv_iload hx hb d_Mo_sumOf_278 (lv_at hl 0 rfl) ?_
                    obtain ⟨h_55, hd⟩ := ite_s hd
                    refine zaldK hx hb hK hP 5 1 rfl rfl (inb_t h_55) rfl d_Mo_sumOf_280 ?_
                    refine lv_if_eq (tgt := 288) hx hb d_Mo_sumOf_281 (by decide) (fun h_52 => ?_) (fun h_52 => ?_)
                    · have hd := ite_t hd h_52
                      refine lv_iconst (v := 0) hx hb d_Mo_sumOf_288 (by decide) ?_
                      obtain ⟨h_53, hd⟩ := ite_s hd
                      refine zastK hx hb hK hP hD hS 5 1 rfl rfl (inb_t h_53) rfl d_Mo_sumOf_289 (fun H locs hP hD hS => ?_)
                      have hP : va_P D classes (ws_Mo g a (u_Mo_truths z_55 (upd (q_Mo_truths z_55) ((x5_55 + (-1)) - 1).toNatClampNeg (vp_nar .boolean 0)))) H := hP
                      have hD : va_D A (ws_Mo g a (u_Mo_truths z_55 (upd (q_Mo_truths z_55) ((x5_55 + (-1)) - 1).toNatClampNeg (vp_nar .boolean 0)))) := hD
                      refine lv_goto (tgt := 332) hx hb d_Mo_sumOf_290 (by decide) ?_
                      refine lv_iinc (v := x6_55 + 1) (lv' := [(6, .int (x6_55 + 1)), (5, .int (x5_55 + (-1))), (7, .int ((q_Mo_s z_55) x6_55.toNatClampNeg)), (0, .ref (a 0)), (1, .int x1_f55), (2, .int x2_55), (3, .int x3_f55), (4, .int x4_f55)]) hx hb d_Mo_sumOf_332 hl (k := 7) rfl (by rfl) (by decide) rfl (fun ls hl => ?_)
                      refine lv_goto (tgt := 55) hx hb d_Mo_sumOf_335 (by decide) ?_
                      exact ih55 x2_55 (x5_55 + (-1)) (x6_55 + 1) (u_Mo_truths z_55 (upd (q_Mo_truths z_55) ((x5_55 + (-1)) - 1).toNatClampNeg (vp_nar .boolean 0))) _ _ _ hP hD hS (lv_sub hl [3, 4, 5, 6, 7, 1, 0] rfl) hd
                    · have hd := ite_f hd h_52
                      refine lv_iconst (v := 1) hx hb d_Mo_sumOf_284 (by decide) ?_
                      refine lv_goto (tgt := 289) hx hb d_Mo_sumOf_285 (by decide) ?_
                      obtain ⟨h_54, hd⟩ := ite_s hd
                      refine zastK hx hb hK hP hD hS 5 1 rfl rfl (inb_t h_54) rfl d_Mo_sumOf_289 (fun H locs hP hD hS => ?_)
                      have hP : va_P D classes (ws_Mo g a (u_Mo_truths z_55 (upd (q_Mo_truths z_55) ((x5_55 + (-1)) - 1).toNatClampNeg (vp_nar .boolean 1)))) H := hP
                      have hD : va_D A (ws_Mo g a (u_Mo_truths z_55 (upd (q_Mo_truths z_55) ((x5_55 + (-1)) - 1).toNatClampNeg (vp_nar .boolean 1)))) := hD
                      refine lv_goto (tgt := 332) hx hb d_Mo_sumOf_290 (by decide) ?_
                      refine lv_iinc (v := x6_55 + 1) (lv' := [(6, .int (x6_55 + 1)), (5, .int (x5_55 + (-1))), (7, .int ((q_Mo_s z_55) x6_55.toNatClampNeg)), (0, .ref (a 0)), (1, .int x1_f55), (2, .int x2_55), (3, .int x3_f55), (4, .int x4_f55)]) hx hb d_Mo_sumOf_332 hl (k := 7) rfl (by rfl) (by decide) rfl (fun ls hl => ?_)
                      refine lv_goto (tgt := 55) hx hb d_Mo_sumOf_335 (by decide) ?_
                      exact ih55 x2_55 (x5_55 + (-1)) (x6_55 + 1) (u_Mo_truths z_55 (upd (q_Mo_truths z_55) ((x5_55 + (-1)) - 1).toNatClampNeg (vp_nar .boolean 1))) _ _ _ hP hD hS (lv_sub hl [3, 4, 5, 6, 7, 1, 0] rfl) hd
                · have hd := ite_t hd h_49
                  refine lv_aload_n hx hb d_Mo_sumOf_232 rfl (lv_at hl 2 rfl) ?_
                  refine va_get (D := D) (ci := 1) (v := .ref (a 5)) (C := R_Mo) (T := F_Mo) (N := 26) hx hb hg i_Mo hown hK hP 0 rfl rfl 11 (by decide) (hg _ g_1003) (fun _ h9 => h9) rfl d_Mo_sumOf_233 ?_
                  refine lv_iload hx hb d_Mo_sumOf_236 (lv_at hl 0 rfl) ?_
                  refine lv_iconst (v := 1) hx hb d_Mo_sumOf_238 (by decide) ?_
                  refine lv_isub hx hb d_Mo_sumOf_239 ?_
                  obtain ⟨h_63, hd⟩ := ite_s hd
                  refine zaldK hx hb hK hP 5 1 rfl rfl (inb_t h_63) rfl d_Mo_sumOf_240 ?_
                  refine lv_if_eq (tgt := 258) hx hb d_Mo_sumOf_241 (by decide) (fun h_57 => ?_) (fun h_57 => ?_)
                  · have hd := ite_t hd h_57
                    refine lv_iconst (v := 0) hx hb d_Mo_sumOf_258 (by decide) ?_
                    refine lv_goto (tgt := 289) hx hb d_Mo_sumOf_259 (by decide) ?_
                    obtain ⟨h_58, hd⟩ := ite_s hd
                    refine zastK hx hb hK hP hD hS 5 1 rfl rfl (inb_t h_58) rfl d_Mo_sumOf_289 (fun H locs hP hD hS => ?_)
                    have hP : va_P D classes (ws_Mo g a (u_Mo_truths z_55 (upd (q_Mo_truths z_55) ((x5_55 + (-1)) - 1).toNatClampNeg (vp_nar .boolean 0)))) H := hP
                    have hD : va_D A (ws_Mo g a (u_Mo_truths z_55 (upd (q_Mo_truths z_55) ((x5_55 + (-1)) - 1).toNatClampNeg (vp_nar .boolean 0)))) := hD
                    refine lv_goto (tgt := 332) hx hb d_Mo_sumOf_290 (by decide) ?_
                    refine lv_iinc (v := x6_55 + 1) (lv' := [(6, .int (x6_55 + 1)), (5, .int (x5_55 + (-1))), (7, .int ((q_Mo_s z_55) x6_55.toNatClampNeg)), (0, .ref (a 0)), (1, .int x1_f55), (2, .int x2_55), (3, .int x3_f55), (4, .int x4_f55)]) hx hb d_Mo_sumOf_332 hl (k := 7) rfl (by rfl) (by decide) rfl (fun ls hl => ?_)
                    refine lv_goto (tgt := 55) hx hb d_Mo_sumOf_335 (by decide) ?_
                    exact ih55 x2_55 (x5_55 + (-1)) (x6_55 + 1) (u_Mo_truths z_55 (upd (q_Mo_truths z_55) ((x5_55 + (-1)) - 1).toNatClampNeg (vp_nar .boolean 0))) _ _ _ hP hD hS (lv_sub hl [3, 4, 5, 6, 7, 1, 0] rfl) hd
                  · have hd := ite_f hd h_57
                    refine lv_aload_n hx hb d_Mo_sumOf_244 rfl (lv_at hl 2 rfl) ?_
                    refine va_get (D := D) (ci := 1) (v := .ref (a 5)) (C := R_Mo) (T := F_Mo) (N := 26) hx hb hg i_Mo hown hK hP 0 rfl rfl 11 (by decide) (hg _ g_1003) (fun _ h9 => h9) rfl d_Mo_sumOf_245 ?_
                    refine lv_iload hx hb d_Mo_sumOf_248 (lv_at hl 0 rfl) ?_
                    obtain ⟨h_62, hd⟩ := ite_s hd
                    refine zaldK hx hb hK hP 5 1 rfl rfl (inb_t h_62) rfl d_Mo_sumOf_250 ?_
                    refine lv_if_eq (tgt := 258) hx hb d_Mo_sumOf_251 (by decide) (fun h_59 => ?_) (fun h_59 => ?_)
                    · have hd := ite_t hd h_59
                      refine lv_iconst (v := 0) hx hb d_Mo_sumOf_258 (by decide) ?_
                      refine lv_goto (tgt := 289) hx hb d_Mo_sumOf_259 (by decide) ?_
                      obtain ⟨h_60, hd⟩ := ite_s hd
                      refine zastK hx hb hK hP hD hS 5 1 rfl rfl (inb_t h_60) rfl d_Mo_sumOf_289 (fun H locs hP hD hS => ?_)
                      have hP : va_P D classes (ws_Mo g a (u_Mo_truths z_55 (upd (q_Mo_truths z_55) ((x5_55 + (-1)) - 1).toNatClampNeg (vp_nar .boolean 0)))) H := hP
                      have hD : va_D A (ws_Mo g a (u_Mo_truths z_55 (upd (q_Mo_truths z_55) ((x5_55 + (-1)) - 1).toNatClampNeg (vp_nar .boolean 0)))) := hD
                      refine lv_goto (tgt := 332) hx hb d_Mo_sumOf_290 (by decide) ?_
                      refine lv_iinc (v := x6_55 + 1) (lv' := [(6, .int (x6_55 + 1)), (5, .int (x5_55 + (-1))), (7, .int ((q_Mo_s z_55) x6_55.toNatClampNeg)), (0, .ref (a 0)), (1, .int x1_f55), (2, .int x2_55), (3, .int x3_f55), (4, .int x4_f55)]) hx hb d_Mo_sumOf_332 hl (k := 7) rfl (by rfl) (by decide) rfl (fun ls hl => ?_)
                      refine lv_goto (tgt := 55) hx hb d_Mo_sumOf_335 (by decide) ?_
                      exact ih55 x2_55 (x5_55 + (-1)) (x6_55 + 1) (u_Mo_truths z_55 (upd (q_Mo_truths z_55) ((x5_55 + (-1)) - 1).toNatClampNeg (vp_nar .boolean 0))) _ _ _ hP hD hS (lv_sub hl [3, 4, 5, 6, 7, 1, 0] rfl) hd
                    · have hd := ite_f hd h_59
                      refine lv_iconst (v := 1) hx hb d_Mo_sumOf_254 (by decide) ?_
                      refine lv_goto (tgt := 289) hx hb d_Mo_sumOf_255 (by decide) ?_
                      obtain ⟨h_61, hd⟩ := ite_s hd
                      refine zastK hx hb hK hP hD hS 5 1 rfl rfl (inb_t h_61) rfl d_Mo_sumOf_289 (fun H locs hP hD hS => ?_)
                      have hP : va_P D classes (ws_Mo g a (u_Mo_truths z_55 (upd (q_Mo_truths z_55) ((x5_55 + (-1)) - 1).toNatClampNeg (vp_nar .boolean 1)))) H := hP
                      have hD : va_D A (ws_Mo g a (u_Mo_truths z_55 (upd (q_Mo_truths z_55) ((x5_55 + (-1)) - 1).toNatClampNeg (vp_nar .boolean 1)))) := hD
                      refine lv_goto (tgt := 332) hx hb d_Mo_sumOf_290 (by decide) ?_
                      refine lv_iinc (v := x6_55 + 1) (lv' := [(6, .int (x6_55 + 1)), (5, .int (x5_55 + (-1))), (7, .int ((q_Mo_s z_55) x6_55.toNatClampNeg)), (0, .ref (a 0)), (1, .int x1_f55), (2, .int x2_55), (3, .int x3_f55), (4, .int x4_f55)]) hx hb d_Mo_sumOf_332 hl (k := 7) rfl (by rfl) (by decide) rfl (fun ls hl => ?_)
                      refine lv_goto (tgt := 55) hx hb d_Mo_sumOf_335 (by decide) ?_
                      exact ih55 x2_55 (x5_55 + (-1)) (x6_55 + 1) (u_Mo_truths z_55 (upd (q_Mo_truths z_55) ((x5_55 + (-1)) - 1).toNatClampNeg (vp_nar .boolean 1))) _ _ _ hP hD hS (lv_sub hl [3, 4, 5, 6, 7, 1, 0] rfl) hd
            · have hd := ite_t hd h_44
              refine lv_aload_n hx hb d_Mo_sumOf_178 rfl (lv_at hl 1 rfl) ?_
              refine va_get (D := D) (ci := 1) (v := .ref (a 5)) (C := R_Mo) (T := F_Mo) (N := 26) hx hb hg i_Mo hown hK hP 0 rfl rfl 11 (by decide) (hg _ g_1003) (fun _ h9 => h9) rfl d_Mo_sumOf_179 ?_
              refine lv_iload hx hb d_Mo_sumOf_182 (lv_at hl 6 rfl) ?_
              refine lv_iconst (v := 1) hx hb d_Mo_sumOf_184 (by decide) ?_
              refine lv_isub hx hb d_Mo_sumOf_185 ?_
              refine lv_aload_n hx hb d_Mo_sumOf_186 rfl (lv_at hl 1 rfl) ?_
              refine va_get (D := D) (ci := 1) (v := .ref (a 5)) (C := R_Mo) (T := F_Mo) (N := 26) hx hb hg i_Mo hown hK hP 0 rfl rfl 11 (by decide) (hg _ g_1003) (fun _ h9 => h9) rfl d_Mo_sumOf_187 ?_
              refine lv_iload hx hb d_Mo_sumOf_190 (lv_at hl 6 rfl) ?_
              refine lv_iconst (v := 1) hx hb d_Mo_sumOf_192 (by decide) ?_
              refine lv_isub hx hb d_Mo_sumOf_193 ?_
              obtain ⟨h_67, hd⟩ := ite_s hd
              refine zaldK hx hb hK hP 5 1 rfl rfl (inb_t h_67) rfl d_Mo_sumOf_194 ?_
              refine lv_if_ne (tgt := 202) hx hb d_Mo_sumOf_195 (by decide) (fun h_64 => ?_) (fun h_64 => ?_)
              · have hd := ite_f hd h_64
                refine lv_iconst (v := 0) hx hb d_Mo_sumOf_202 (by decide) ?_
                obtain ⟨h_65, hd⟩ := ite_s hd
                refine zastK hx hb hK hP hD hS 5 1 rfl rfl (inb_t h_65) rfl d_Mo_sumOf_203 (fun H locs hP hD hS => ?_)
                have hP : va_P D classes (ws_Mo g a (u_Mo_truths z_55 (upd (q_Mo_truths z_55) (x5_55 - 1).toNatClampNeg (vp_nar .boolean 0)))) H := hP
                have hD : va_D A (ws_Mo g a (u_Mo_truths z_55 (upd (q_Mo_truths z_55) (x5_55 - 1).toNatClampNeg (vp_nar .boolean 0)))) := hD
                refine lv_goto (tgt := 332) hx hb d_Mo_sumOf_204 (by decide) ?_
                refine lv_iinc (v := x6_55 + 1) (lv' := [(6, .int (x6_55 + 1)), (7, .int ((q_Mo_s z_55) x6_55.toNatClampNeg)), (0, .ref (a 0)), (1, .int x1_f55), (2, .int x2_55), (3, .int x3_f55), (4, .int x4_f55), (5, .int x5_55)]) hx hb d_Mo_sumOf_332 hl (k := 7) rfl (by rfl) (by decide) rfl (fun ls hl => ?_)
                refine lv_goto (tgt := 55) hx hb d_Mo_sumOf_335 (by decide) ?_
                exact ih55 x2_55 x5_55 (x6_55 + 1) (u_Mo_truths z_55 (upd (q_Mo_truths z_55) (x5_55 - 1).toNatClampNeg (vp_nar .boolean 0))) _ _ _ hP hD hS (lv_sub hl [2, 3, 4, 5, 6, 7, 0] rfl) hd
              · have hd := ite_t hd h_64
                refine lv_iconst (v := 1) hx hb d_Mo_sumOf_198 (by decide) ?_
                refine lv_goto (tgt := 203) hx hb d_Mo_sumOf_199 (by decide) ?_
                obtain ⟨h_66, hd⟩ := ite_s hd
                refine zastK hx hb hK hP hD hS 5 1 rfl rfl (inb_t h_66) rfl d_Mo_sumOf_203 (fun H locs hP hD hS => ?_)
                have hP : va_P D classes (ws_Mo g a (u_Mo_truths z_55 (upd (q_Mo_truths z_55) (x5_55 - 1).toNatClampNeg (vp_nar .boolean 1)))) H := hP
                have hD : va_D A (ws_Mo g a (u_Mo_truths z_55 (upd (q_Mo_truths z_55) (x5_55 - 1).toNatClampNeg (vp_nar .boolean 1)))) := hD
                refine lv_goto (tgt := 332) hx hb d_Mo_sumOf_204 (by decide) ?_
                refine lv_iinc (v := x6_55 + 1) (lv' := [(6, .int (x6_55 + 1)), (7, .int ((q_Mo_s z_55) x6_55.toNatClampNeg)), (0, .ref (a 0)), (1, .int x1_f55), (2, .int x2_55), (3, .int x3_f55), (4, .int x4_f55), (5, .int x5_55)]) hx hb d_Mo_sumOf_332 hl (k := 7) rfl (by rfl) (by decide) rfl (fun ls hl => ?_)
                refine lv_goto (tgt := 55) hx hb d_Mo_sumOf_335 (by decide) ?_
                exact ih55 x2_55 x5_55 (x6_55 + 1) (u_Mo_truths z_55 (upd (q_Mo_truths z_55) (x5_55 - 1).toNatClampNeg (vp_nar .boolean 1))) _ _ _ hP hD hS (lv_sub hl [2, 3, 4, 5, 6, 7, 0] rfl) hd
          · have hd := ite_f hd h_43
            refine lv_aload_n hx hb d_Mo_sumOf_78 rfl (lv_at hl 1 rfl) ?_
            refine va_get (D := D) (ci := 1) (v := .ref (a 4)) (C := R_Mo) (T := F_Mo) (N := 26) hx hb hg i_Mo hown hK hP 0 rfl rfl 10 (by decide) (hg _ g_1002) (fun _ h9 => h9) rfl d_Mo_sumOf_79 ?_
            refine lv_iload hx hb d_Mo_sumOf_82 (lv_at hl 0 rfl) ?_
            refine lv_bipush (v := 8) hx hb d_Mo_sumOf_84 (by decide) ?_
            refine lv_irem hx hb d_Mo_sumOf_86 (by decide) ?_
            obtain ⟨h_79, hd⟩ := ite_s hd
            refine ialdK hx hb hK hP 4 0 rfl rfl (inb_t h_79) rfl d_Mo_sumOf_87 ?_
            refine lv_istore (lv' := [(8, .int ((q_Mo_by z_55) (((q_Mo_s z_55) x6_55.toNatClampNeg) - ((q_Mo_s z_55) x6_55.toNatClampNeg) / 8 * 8).toNatClampNeg)), (7, .int ((q_Mo_s z_55) x6_55.toNatClampNeg)), (0, .ref (a 0)), (1, .int x1_f55), (2, .int x2_55), (3, .int x3_f55), (4, .int x4_f55), (5, .int x5_55), (6, .int x6_55)]) hx hb d_Mo_sumOf_88 hl (by decide) rfl (fun ls hl => ?_)
            refine lv_iload hx hb d_Mo_sumOf_90 (lv_at hl 1 rfl) ?_
            refine lv_bipush (v := 8) hx hb d_Mo_sumOf_92 (by decide) ?_
            refine lv_idiv hx hb d_Mo_sumOf_94 (by decide) ?_
            refine lv_iconst (v := 4) hx hb d_Mo_sumOf_95 (by decide) ?_
            refine lv_irem hx hb d_Mo_sumOf_96 (by decide) ?_
            refine lv_istore (lv' := [(9, .int ((((q_Mo_s z_55) x6_55.toNatClampNeg) / 8) - (((q_Mo_s z_55) x6_55.toNatClampNeg) / 8) / 4 * 4)), (8, .int ((q_Mo_by z_55) (((q_Mo_s z_55) x6_55.toNatClampNeg) - ((q_Mo_s z_55) x6_55.toNatClampNeg) / 8 * 8).toNatClampNeg)), (7, .int ((q_Mo_s z_55) x6_55.toNatClampNeg)), (0, .ref (a 0)), (1, .int x1_f55), (2, .int x2_55), (3, .int x3_f55), (4, .int x4_f55), (5, .int x5_55), (6, .int x6_55)]) hx hb d_Mo_sumOf_97 hl (by decide) rfl (fun ls hl => ?_)
            refine lv_iload hx hb d_Mo_sumOf_99 (lv_at hl 2 rfl) ?_
            refine lv_bipush (v := 32) hx hb d_Mo_sumOf_101 (by decide) ?_
            refine lv_idiv hx hb d_Mo_sumOf_103 (by decide) ?_
            refine lv_istore (lv' := [(10, .int (((q_Mo_s z_55) x6_55.toNatClampNeg) / 32)), (9, .int ((((q_Mo_s z_55) x6_55.toNatClampNeg) / 8) - (((q_Mo_s z_55) x6_55.toNatClampNeg) / 8) / 4 * 4)), (8, .int ((q_Mo_by z_55) (((q_Mo_s z_55) x6_55.toNatClampNeg) - ((q_Mo_s z_55) x6_55.toNatClampNeg) / 8 * 8).toNatClampNeg)), (7, .int ((q_Mo_s z_55) x6_55.toNatClampNeg)), (0, .ref (a 0)), (1, .int x1_f55), (2, .int x2_55), (3, .int x3_f55), (4, .int x4_f55), (5, .int x5_55), (6, .int x6_55)]) hx hb d_Mo_sumOf_104 hl (by decide) rfl (fun ls hl => ?_)
            refine lv_aload_n hx hb d_Mo_sumOf_106 rfl (lv_at hl 4 rfl) ?_
            refine va_get (D := D) (ci := 1) (v := .ref (a 5)) (C := R_Mo) (T := F_Mo) (N := 26) hx hb hg i_Mo hown hK hP 0 rfl rfl 11 (by decide) (hg _ g_1003) (fun _ h9 => h9) rfl d_Mo_sumOf_107 ?_
            refine lv_iload hx hb d_Mo_sumOf_110 (lv_at hl 9 rfl) ?_
            refine lv_iload hx hb d_Mo_sumOf_112 (lv_at hl 1 rfl) ?_
            refine lv_if_ne (tgt := 132) hx hb d_Mo_sumOf_114 (by decide) (fun h_68 => ?_) (fun h_68 => ?_)
            · have hd := ite_f hd h_68
              refine lv_iload hx hb d_Mo_sumOf_132 (lv_at hl 1 rfl) ?_
              refine lv_iconst (v := 1) hx hb d_Mo_sumOf_134 (by decide) ?_
              refine lv_icmp_ne (tgt := 153) hx hb d_Mo_sumOf_135 (by decide) (fun h_69 => ?_) (fun h_69 => ?_)
              · have hd := ite_f hd h_69
                refine lv_iload hx hb d_Mo_sumOf_153 (lv_at hl 2 rfl) ?_
                refine lv_iload hx hb d_Mo_sumOf_155 (lv_at hl 0 rfl) ?_
                refine lv_icmp_le (tgt := 164) hx hb d_Mo_sumOf_157 (by decide) (fun h_70 => ?_) (fun h_70 => ?_)
                · have hd := ite_t hd h_70
                  refine lv_iconst (v := 0) hx hb d_Mo_sumOf_164 (by decide) ?_
                  obtain ⟨h_71, hd⟩ := ite_s hd
                  refine zastK hx hb hK hP hD hS 5 1 rfl rfl (inb_t h_71) rfl d_Mo_sumOf_165 (fun H locs hP hD hS => ?_)
                  have hP : va_P D classes (ws_Mo g a (u_Mo_truths z_55 (upd (q_Mo_truths z_55) x5_55.toNatClampNeg (vp_nar .boolean 0)))) H := hP
                  have hD : va_D A (ws_Mo g a (u_Mo_truths z_55 (upd (q_Mo_truths z_55) x5_55.toNatClampNeg (vp_nar .boolean 0)))) := hD
                  refine lv_iinc (v := x5_55 + 1) (lv' := [(5, .int (x5_55 + 1)), (10, .int (((q_Mo_s z_55) x6_55.toNatClampNeg) / 32)), (9, .int ((((q_Mo_s z_55) x6_55.toNatClampNeg) / 8) - (((q_Mo_s z_55) x6_55.toNatClampNeg) / 8) / 4 * 4)), (8, .int ((q_Mo_by z_55) (((q_Mo_s z_55) x6_55.toNatClampNeg) - ((q_Mo_s z_55) x6_55.toNatClampNeg) / 8 * 8).toNatClampNeg)), (7, .int ((q_Mo_s z_55) x6_55.toNatClampNeg)), (0, .ref (a 0)), (1, .int x1_f55), (2, .int x2_55), (3, .int x3_f55), (4, .int x4_f55), (6, .int x6_55)]) hx hb d_Mo_sumOf_166 hl (k := 9) rfl (by rfl) (by decide) rfl (fun ls hl => ?_)
                  refine lv_goto (tgt := 332) hx hb d_Mo_sumOf_169 (by decide) ?_
                  refine lv_iinc (v := x6_55 + 1) (lv' := [(6, .int (x6_55 + 1)), (5, .int (x5_55 + 1)), (10, .int (((q_Mo_s z_55) x6_55.toNatClampNeg) / 32)), (9, .int ((((q_Mo_s z_55) x6_55.toNatClampNeg) / 8) - (((q_Mo_s z_55) x6_55.toNatClampNeg) / 8) / 4 * 4)), (8, .int ((q_Mo_by z_55) (((q_Mo_s z_55) x6_55.toNatClampNeg) - ((q_Mo_s z_55) x6_55.toNatClampNeg) / 8 * 8).toNatClampNeg)), (7, .int ((q_Mo_s z_55) x6_55.toNatClampNeg)), (0, .ref (a 0)), (1, .int x1_f55), (2, .int x2_55), (3, .int x3_f55), (4, .int x4_f55)]) hx hb d_Mo_sumOf_332 hl (k := 10) rfl (by rfl) (by decide) rfl (fun ls hl => ?_)
                  refine lv_goto (tgt := 55) hx hb d_Mo_sumOf_335 (by decide) ?_
                  exact ih55 x2_55 (x5_55 + 1) (x6_55 + 1) (u_Mo_truths z_55 (upd (q_Mo_truths z_55) x5_55.toNatClampNeg (vp_nar .boolean 0))) _ _ _ hP hD hS (lv_sub hl [6, 7, 8, 9, 10, 1, 0] rfl) hd
                · have hd := ite_f hd h_70
                  refine lv_iconst (v := 1) hx hb d_Mo_sumOf_160 (by decide) ?_
                  refine lv_goto (tgt := 165) hx hb d_Mo_sumOf_161 (by decide) ?_
                  obtain ⟨h_72, hd⟩ := ite_s hd
                  refine zastK hx hb hK hP hD hS 5 1 rfl rfl (inb_t h_72) rfl d_Mo_sumOf_165 (fun H locs hP hD hS => ?_)
                  have hP : va_P D classes (ws_Mo g a (u_Mo_truths z_55 (upd (q_Mo_truths z_55) x5_55.toNatClampNeg (vp_nar .boolean 1)))) H := hP
                  have hD : va_D A (ws_Mo g a (u_Mo_truths z_55 (upd (q_Mo_truths z_55) x5_55.toNatClampNeg (vp_nar .boolean 1)))) := hD
                  refine lv_iinc (v := x5_55 + 1) (lv' := [(5, .int (x5_55 + 1)), (10, .int (((q_Mo_s z_55) x6_55.toNatClampNeg) / 32)), (9, .int ((((q_Mo_s z_55) x6_55.toNatClampNeg) / 8) - (((q_Mo_s z_55) x6_55.toNatClampNeg) / 8) / 4 * 4)), (8, .int ((q_Mo_by z_55) (((q_Mo_s z_55) x6_55.toNatClampNeg) - ((q_Mo_s z_55) x6_55.toNatClampNeg) / 8 * 8).toNatClampNeg)), (7, .int ((q_Mo_s z_55) x6_55.toNatClampNeg)), (0, .ref (a 0)), (1, .int x1_f55), (2, .int x2_55), (3, .int x3_f55), (4, .int x4_f55), (6, .int x6_55)]) hx hb d_Mo_sumOf_166 hl (k := 9) rfl (by rfl) (by decide) rfl (fun ls hl => ?_)
                  refine lv_goto (tgt := 332) hx hb d_Mo_sumOf_169 (by decide) ?_
                  refine lv_iinc (v := x6_55 + 1) (lv' := [(6, .int (x6_55 + 1)), (5, .int (x5_55 + 1)), (10, .int (((q_Mo_s z_55) x6_55.toNatClampNeg) / 32)), (9, .int ((((q_Mo_s z_55) x6_55.toNatClampNeg) / 8) - (((q_Mo_s z_55) x6_55.toNatClampNeg) / 8) / 4 * 4)), (8, .int ((q_Mo_by z_55) (((q_Mo_s z_55) x6_55.toNatClampNeg) - ((q_Mo_s z_55) x6_55.toNatClampNeg) / 8 * 8).toNatClampNeg)), (7, .int ((q_Mo_s z_55) x6_55.toNatClampNeg)), (0, .ref (a 0)), (1, .int x1_f55), (2, .int x2_55), (3, .int x3_f55), (4, .int x4_f55)]) hx hb d_Mo_sumOf_332 hl (k := 10) rfl (by rfl) (by decide) rfl (fun ls hl => ?_)
                  refine lv_goto (tgt := 55) hx hb d_Mo_sumOf_335 (by decide) ?_
                  exact ih55 x2_55 (x5_55 + 1) (x6_55 + 1) (u_Mo_truths z_55 (upd (q_Mo_truths z_55) x5_55.toNatClampNeg (vp_nar .boolean 1))) _ _ _ hP hD hS (lv_sub hl [6, 7, 8, 9, 10, 1, 0] rfl) hd
              · have hd := ite_t hd h_69
                refine lv_iload hx hb d_Mo_sumOf_138 (lv_at hl 2 rfl) ?_
                refine lv_iload hx hb d_Mo_sumOf_140 (lv_at hl 0 rfl) ?_
                refine lv_icmp_ne (tgt := 149) hx hb d_Mo_sumOf_142 (by decide) (fun h_73 => ?_) (fun h_73 => ?_)
                · have hd := ite_f hd h_73
                  refine lv_iconst (v := 0) hx hb d_Mo_sumOf_149 (by decide) ?_
                  refine lv_goto (tgt := 165) hx hb d_Mo_sumOf_150 (by decide) ?_
                  obtain ⟨h_74, hd⟩ := ite_s hd
                  refine zastK hx hb hK hP hD hS 5 1 rfl rfl (inb_t h_74) rfl d_Mo_sumOf_165 (fun H locs hP hD hS => ?_)
                  have hP : va_P D classes (ws_Mo g a (u_Mo_truths z_55 (upd (q_Mo_truths z_55) x5_55.toNatClampNeg (vp_nar .boolean 0)))) H := hP
                  have hD : va_D A (ws_Mo g a (u_Mo_truths z_55 (upd (q_Mo_truths z_55) x5_55.toNatClampNeg (vp_nar .boolean 0)))) := hD
                  refine lv_iinc (v := x5_55 + 1) (lv' := [(5, .int (x5_55 + 1)), (10, .int (((q_Mo_s z_55) x6_55.toNatClampNeg) / 32)), (9, .int ((((q_Mo_s z_55) x6_55.toNatClampNeg) / 8) - (((q_Mo_s z_55) x6_55.toNatClampNeg) / 8) / 4 * 4)), (8, .int ((q_Mo_by z_55) (((q_Mo_s z_55) x6_55.toNatClampNeg) - ((q_Mo_s z_55) x6_55.toNatClampNeg) / 8 * 8).toNatClampNeg)), (7, .int ((q_Mo_s z_55) x6_55.toNatClampNeg)), (0, .ref (a 0)), (1, .int x1_f55), (2, .int x2_55), (3, .int x3_f55), (4, .int x4_f55), (6, .int x6_55)]) hx hb d_Mo_sumOf_166 hl (k := 9) rfl (by rfl) (by decide) rfl (fun ls hl => ?_)
                  refine lv_goto (tgt := 332) hx hb d_Mo_sumOf_169 (by decide) ?_
                  refine lv_iinc (v := x6_55 + 1) (lv' := [(6, .int (x6_55 + 1)), (5, .int (x5_55 + 1)), (10, .int (((q_Mo_s z_55) x6_55.toNatClampNeg) / 32)), (9, .int ((((q_Mo_s z_55) x6_55.toNatClampNeg) / 8) - (((q_Mo_s z_55) x6_55.toNatClampNeg) / 8) / 4 * 4)), (8, .int ((q_Mo_by z_55) (((q_Mo_s z_55) x6_55.toNatClampNeg) - ((q_Mo_s z_55) x6_55.toNatClampNeg) / 8 * 8).toNatClampNeg)), (7, .int ((q_Mo_s z_55) x6_55.toNatClampNeg)), (0, .ref (a 0)), (1, .int x1_f55), (2, .int x2_55), (3, .int x3_f55), (4, .int x4_f55)]) hx hb d_Mo_sumOf_332 hl (k := 10) rfl (by rfl) (by decide) rfl (fun ls hl => ?_)
                  refine lv_goto (tgt := 55) hx hb d_Mo_sumOf_335 (by decide) ?_
                  exact ih55 x2_55 (x5_55 + 1) (x6_55 + 1) (u_Mo_truths z_55 (upd (q_Mo_truths z_55) x5_55.toNatClampNeg (vp_nar .boolean 0))) _ _ _ hP hD hS (lv_sub hl [6, 7, 8, 9, 10, 1, 0] rfl) hd
                · have hd := ite_t hd h_73
                  refine lv_iconst (v := 1) hx hb d_Mo_sumOf_145 (by decide) ?_
                  refine lv_goto (tgt := 165) hx hb d_Mo_sumOf_146 (by decide) ?_
                  obtain ⟨h_75, hd⟩ := ite_s hd
                  refine zastK hx hb hK hP hD hS 5 1 rfl rfl (inb_t h_75) rfl d_Mo_sumOf_165 (fun H locs hP hD hS => ?_)
                  have hP : va_P D classes (ws_Mo g a (u_Mo_truths z_55 (upd (q_Mo_truths z_55) x5_55.toNatClampNeg (vp_nar .boolean 1)))) H := hP
                  have hD : va_D A (ws_Mo g a (u_Mo_truths z_55 (upd (q_Mo_truths z_55) x5_55.toNatClampNeg (vp_nar .boolean 1)))) := hD
                  refine lv_iinc (v := x5_55 + 1) (lv' := [(5, .int (x5_55 + 1)), (10, .int (((q_Mo_s z_55) x6_55.toNatClampNeg) / 32)), (9, .int ((((q_Mo_s z_55) x6_55.toNatClampNeg) / 8) - (((q_Mo_s z_55) x6_55.toNatClampNeg) / 8) / 4 * 4)), (8, .int ((q_Mo_by z_55) (((q_Mo_s z_55) x6_55.toNatClampNeg) - ((q_Mo_s z_55) x6_55.toNatClampNeg) / 8 * 8).toNatClampNeg)), (7, .int ((q_Mo_s z_55) x6_55.toNatClampNeg)), (0, .ref (a 0)), (1, .int x1_f55), (2, .int x2_55), (3, .int x3_f55), (4, .int x4_f55), (6, .int x6_55)]) hx hb d_Mo_sumOf_166 hl (k := 9) rfl (by rfl) (by decide) rfl (fun ls hl => ?_)
                  refine lv_goto (tgt := 332) hx hb d_Mo_sumOf_169 (by decide) ?_
                  refine lv_iinc (v := x6_55 + 1) (lv' := [(6, .int (x6_55 + 1)), (5, .int (x5_55 + 1)), (10, .int (((q_Mo_s z_55) x6_55.toNatClampNeg) / 32)), (9, .int ((((q_Mo_s z_55) x6_55.toNatClampNeg) / 8) - (((q_Mo_s z_55) x6_55.toNatClampNeg) / 8) / 4 * 4)), (8, .int ((q_Mo_by z_55) (((q_Mo_s z_55) x6_55.toNatClampNeg) - ((q_Mo_s z_55) x6_55.toNatClampNeg) / 8 * 8).toNatClampNeg)), (7, .int ((q_Mo_s z_55) x6_55.toNatClampNeg)), (0, .ref (a 0)), (1, .int x1_f55), (2, .int x2_55), (3, .int x3_f55), (4, .int x4_f55)]) hx hb d_Mo_sumOf_332 hl (k := 10) rfl (by rfl) (by decide) rfl (fun ls hl => ?_)
                  refine lv_goto (tgt := 55) hx hb d_Mo_sumOf_335 (by decide) ?_
                  exact ih55 x2_55 (x5_55 + 1) (x6_55 + 1) (u_Mo_truths z_55 (upd (q_Mo_truths z_55) x5_55.toNatClampNeg (vp_nar .boolean 1))) _ _ _ hP hD hS (lv_sub hl [6, 7, 8, 9, 10, 1, 0] rfl) hd
            · have hd := ite_t hd h_68
              refine lv_iload hx hb d_Mo_sumOf_117 (lv_at hl 2 rfl) ?_
              refine lv_iload hx hb d_Mo_sumOf_119 (lv_at hl 0 rfl) ?_
              refine lv_icmp_ge (tgt := 128) hx hb d_Mo_sumOf_121 (by decide) (fun h_76 => ?_) (fun h_76 => ?_)
              · have hd := ite_t hd h_76
                refine lv_iconst (v := 0) hx hb d_Mo_sumOf_128 (by decide) ?_
                refine lv_goto (tgt := 165) hx hb d_Mo_sumOf_129 (by decide) ?_
                obtain ⟨h_77, hd⟩ := ite_s hd
                refine zastK hx hb hK hP hD hS 5 1 rfl rfl (inb_t h_77) rfl d_Mo_sumOf_165 (fun H locs hP hD hS => ?_)
                have hP : va_P D classes (ws_Mo g a (u_Mo_truths z_55 (upd (q_Mo_truths z_55) x5_55.toNatClampNeg (vp_nar .boolean 0)))) H := hP
                have hD : va_D A (ws_Mo g a (u_Mo_truths z_55 (upd (q_Mo_truths z_55) x5_55.toNatClampNeg (vp_nar .boolean 0)))) := hD
                refine lv_iinc (v := x5_55 + 1) (lv' := [(5, .int (x5_55 + 1)), (10, .int (((q_Mo_s z_55) x6_55.toNatClampNeg) / 32)), (9, .int ((((q_Mo_s z_55) x6_55.toNatClampNeg) / 8) - (((q_Mo_s z_55) x6_55.toNatClampNeg) / 8) / 4 * 4)), (8, .int ((q_Mo_by z_55) (((q_Mo_s z_55) x6_55.toNatClampNeg) - ((q_Mo_s z_55) x6_55.toNatClampNeg) / 8 * 8).toNatClampNeg)), (7, .int ((q_Mo_s z_55) x6_55.toNatClampNeg)), (0, .ref (a 0)), (1, .int x1_f55), (2, .int x2_55), (3, .int x3_f55), (4, .int x4_f55), (6, .int x6_55)]) hx hb d_Mo_sumOf_166 hl (k := 9) rfl (by rfl) (by decide) rfl (fun ls hl => ?_)
                refine lv_goto (tgt := 332) hx hb d_Mo_sumOf_169 (by decide) ?_
                refine lv_iinc (v := x6_55 + 1) (lv' := [(6, .int (x6_55 + 1)), (5, .int (x5_55 + 1)), (10, .int (((q_Mo_s z_55) x6_55.toNatClampNeg) / 32)), (9, .int ((((q_Mo_s z_55) x6_55.toNatClampNeg) / 8) - (((q_Mo_s z_55) x6_55.toNatClampNeg) / 8) / 4 * 4)), (8, .int ((q_Mo_by z_55) (((q_Mo_s z_55) x6_55.toNatClampNeg) - ((q_Mo_s z_55) x6_55.toNatClampNeg) / 8 * 8).toNatClampNeg)), (7, .int ((q_Mo_s z_55) x6_55.toNatClampNeg)), (0, .ref (a 0)), (1, .int x1_f55), (2, .int x2_55), (3, .int x3_f55), (4, .int x4_f55)]) hx hb d_Mo_sumOf_332 hl (k := 10) rfl (by rfl) (by decide) rfl (fun ls hl => ?_)
                refine lv_goto (tgt := 55) hx hb d_Mo_sumOf_335 (by decide) ?_
                exact ih55 x2_55 (x5_55 + 1) (x6_55 + 1) (u_Mo_truths z_55 (upd (q_Mo_truths z_55) x5_55.toNatClampNeg (vp_nar .boolean 0))) _ _ _ hP hD hS (lv_sub hl [6, 7, 8, 9, 10, 1, 0] rfl) hd
              · have hd := ite_f hd h_76
                refine lv_iconst (v := 1) hx hb d_Mo_sumOf_124 (by decide) ?_
                refine lv_goto (tgt := 165) hx hb d_Mo_sumOf_125 (by decide) ?_
                obtain ⟨h_78, hd⟩ := ite_s hd
                refine zastK hx hb hK hP hD hS 5 1 rfl rfl (inb_t h_78) rfl d_Mo_sumOf_165 (fun H locs hP hD hS => ?_)
                have hP : va_P D classes (ws_Mo g a (u_Mo_truths z_55 (upd (q_Mo_truths z_55) x5_55.toNatClampNeg (vp_nar .boolean 1)))) H := hP
                have hD : va_D A (ws_Mo g a (u_Mo_truths z_55 (upd (q_Mo_truths z_55) x5_55.toNatClampNeg (vp_nar .boolean 1)))) := hD
                refine lv_iinc (v := x5_55 + 1) (lv' := [(5, .int (x5_55 + 1)), (10, .int (((q_Mo_s z_55) x6_55.toNatClampNeg) / 32)), (9, .int ((((q_Mo_s z_55) x6_55.toNatClampNeg) / 8) - (((q_Mo_s z_55) x6_55.toNatClampNeg) / 8) / 4 * 4)), (8, .int ((q_Mo_by z_55) (((q_Mo_s z_55) x6_55.toNatClampNeg) - ((q_Mo_s z_55) x6_55.toNatClampNeg) / 8 * 8).toNatClampNeg)), (7, .int ((q_Mo_s z_55) x6_55.toNatClampNeg)), (0, .ref (a 0)), (1, .int x1_f55), (2, .int x2_55), (3, .int x3_f55), (4, .int x4_f55), (6, .int x6_55)]) hx hb d_Mo_sumOf_166 hl (k := 9) rfl (by rfl) (by decide) rfl (fun ls hl => ?_)
                refine lv_goto (tgt := 332) hx hb d_Mo_sumOf_169 (by decide) ?_
                refine lv_iinc (v := x6_55 + 1) (lv' := [(6, .int (x6_55 + 1)), (5, .int (x5_55 + 1)), (10, .int (((q_Mo_s z_55) x6_55.toNatClampNeg) / 32)), (9, .int ((((q_Mo_s z_55) x6_55.toNatClampNeg) / 8) - (((q_Mo_s z_55) x6_55.toNatClampNeg) / 8) / 4 * 4)), (8, .int ((q_Mo_by z_55) (((q_Mo_s z_55) x6_55.toNatClampNeg) - ((q_Mo_s z_55) x6_55.toNatClampNeg) / 8 * 8).toNatClampNeg)), (7, .int ((q_Mo_s z_55) x6_55.toNatClampNeg)), (0, .ref (a 0)), (1, .int x1_f55), (2, .int x2_55), (3, .int x3_f55), (4, .int x4_f55)]) hx hb d_Mo_sumOf_332 hl (k := 10) rfl (by rfl) (by decide) rfl (fun ls hl => ?_)
                refine lv_goto (tgt := 55) hx hb d_Mo_sumOf_335 (by decide) ?_
                exact ih55 x2_55 (x5_55 + 1) (x6_55 + 1) (u_Mo_truths z_55 (upd (q_Mo_truths z_55) x5_55.toNatClampNeg (vp_nar .boolean 1))) _ _ _ hP hD hS (lv_sub hl [6, 7, 8, 9, 10, 1, 0] rfl) hd
    exact lp55 x1 0 (201 + (140 * ((q_Mo_s z) 5))) 1000 0 0 (201 + (140 * ((q_Mo_s z) 5))) z _ _ _ hP hD hS (lv_sub hl [5, 6, 4, 3, 2, 1, 0] rfl) hd

-- OwnsLiftModel.best(I)I
def d_Mo_best (x1 : Int32) (z : T_Mo) : Option (Int32 × T_Mo) :=
  if x1 = (-1) then ((d_Mo_begins z).bind fun v_2 => (d_Mo_waysFrom 64 0 0 0 v_2).bind fun v_4 => if x1 = (-1) then (some ((q_Mo_bestLike v_4), v_4)) else (if inb x1 7 = true then ((d_Mo_orNobody ((q_Mo_bestWay v_4) x1.toNatClampNeg)).bind fun v_7 => some (v_7, v_4)) else none)) else ((d_Mo_isThing x1 z).bind fun v_10 => if v_10 = 0 then (some ((-1001), z)) else ((d_Mo_begins z).bind fun v_13 => (d_Mo_waysFrom 64 0 0 0 v_13).bind fun v_15 => if x1 = (-1) then (some ((q_Mo_bestLike v_15), v_15)) else (if inb x1 7 = true then ((d_Mo_orNobody ((q_Mo_bestWay v_15) x1.toNatClampNeg)).bind fun v_18 => some (v_18, v_15)) else none)))
theorem d_Mo_best_0 : decode b_Mo_best 0 = .ok (.iload_n 1, 1) := by decide +kernel
theorem d_Mo_best_1 : decode b_Mo_best 1 = .ok (.iconst (-1), 1) := by decide +kernel
theorem d_Mo_best_2 : decode b_Mo_best 2 = .ok (.if_icmp .eq 15, 3) := by decide +kernel
theorem d_Mo_best_5 : decode b_Mo_best 5 = .ok (.aload_n 0, 1) := by decide +kernel
theorem d_Mo_best_6 : decode b_Mo_best 6 = .ok (.iload_n 1, 1) := by decide +kernel
theorem d_Mo_best_7 : decode b_Mo_best 7 = .ok (.invokevirtual 160, 3) := by decide +kernel
theorem d_Mo_best_10 : decode b_Mo_best 10 = .ok (.ifCond .ne 7, 3) := by decide +kernel
theorem d_Mo_best_13 : decode b_Mo_best 13 = .ok (.sipush (-1001), 3) := by decide +kernel
theorem d_Mo_best_16 : decode b_Mo_best 16 = .ok (.ireturn, 1) := by decide +kernel
theorem d_Mo_best_17 : decode b_Mo_best 17 = .ok (.aload_n 0, 1) := by decide +kernel
theorem d_Mo_best_18 : decode b_Mo_best 18 = .ok (.invokevirtual 197, 3) := by decide +kernel
theorem d_Mo_best_21 : decode b_Mo_best 21 = .ok (.aload_n 0, 1) := by decide +kernel
theorem d_Mo_best_22 : decode b_Mo_best 22 = .ok (.iconst 0, 1) := by decide +kernel
theorem d_Mo_best_23 : decode b_Mo_best 23 = .ok (.iconst 0, 1) := by decide +kernel
theorem d_Mo_best_24 : decode b_Mo_best 24 = .ok (.iconst 0, 1) := by decide +kernel
theorem d_Mo_best_25 : decode b_Mo_best 25 = .ok (.invokevirtual 193, 3) := by decide +kernel
theorem d_Mo_best_28 : decode b_Mo_best 28 = .ok (.iload_n 1, 1) := by decide +kernel
theorem d_Mo_best_29 : decode b_Mo_best 29 = .ok (.iconst (-1), 1) := by decide +kernel
theorem d_Mo_best_30 : decode b_Mo_best 30 = .ok (.if_icmp .ne 10, 3) := by decide +kernel
theorem d_Mo_best_33 : decode b_Mo_best 33 = .ok (.aload_n 0, 1) := by decide +kernel
theorem d_Mo_best_34 : decode b_Mo_best 34 = .ok (.getfield 184, 3) := by decide +kernel
theorem d_Mo_best_37 : decode b_Mo_best 37 = .ok (.goto 12, 3) := by decide +kernel
theorem d_Mo_best_40 : decode b_Mo_best 40 = .ok (.aload_n 0, 1) := by decide +kernel
theorem d_Mo_best_41 : decode b_Mo_best 41 = .ok (.getfield 40, 3) := by decide +kernel
theorem d_Mo_best_44 : decode b_Mo_best 44 = .ok (.iload_n 1, 1) := by decide +kernel
theorem d_Mo_best_45 : decode b_Mo_best 45 = .ok (.iaload, 1) := by decide +kernel
theorem d_Mo_best_46 : decode b_Mo_best 46 = .ok (.invokestatic 163, 3) := by decide +kernel
theorem d_Mo_best_49 : decode b_Mo_best 49 = .ok (.ireturn, 1) := by decide +kernel
theorem o_Mo_best : OkV y_Mo_best "OwnsLiftModel" b_Mo_best 2 (some .int) 1 := ⟨⟨rfl, by decide +kernel, by decide +kernel, by decide +kernel⟩, g_1247, g_1248, g_81, g_1249⟩
set_option maxHeartbeats 4000000 in
set_option maxRecDepth 100000 in
theorem c_Mo_best (l : Launch) (D : va_G) (g : Nat → ClassId) (a : Nat → Nat) (x1 : Int32) (z : T_Mo) (v : Int32 × T_Mo) (h : d_Mo_best x1 z = some v) :
    MI l y_Mo_best b_Mo_best 2 .int ({ frames := 130, cells := 0, slots := 0, locals := 3865 } : Room) D g [.ref (a 0), .int x1] (ws_Mo g a z) (v.1) (ws_Mo g a v.2) := by
  have hd := h
  unfold d_Mo_best at hd
  refine enterI rfl (Nat.le_of_ble_eq_true rfl) (fun p e s m below meth c A ls hx hb hml hr hown hg hlk hK hA hP hD hS hCs hl => ?_)
  have hown : s.vm.findClass "OwnsLiftModel" = some m.cls := hown
  have hl : lv_has ls 2 [(0, .ref (a 0)), (1, .int x1)] := hl
  show GI p l e s m ({ frames := 130, cells := 0, slots := 0, locals := 3865 } : Room) ([.ref (a 0), .int x1] : List Value).toArray below meth c A D g (ws_Mo g a v.2) (v.1) s.heap [] (F0 m 0 ls [])
  refine lv_iload_n hx hb d_Mo_best_0 rfl (lv_at hl 1 rfl) ?_
  refine lv_iconst (v := (-1)) hx hb d_Mo_best_1 (by decide) ?_
  refine lv_icmp_eq (tgt := 17) hx hb d_Mo_best_2 (by decide) (fun h_1 => ?_) (fun h_1 => ?_)
  · have hd := ite_t hd h_1
    refine lv_aload_n hx hb d_Mo_best_17 rfl (lv_at hl 0 rfl) ?_
    obtain ⟨v_2, e_3, hd⟩ := bind_s hd
    refine callVV (ws' := ws_Mo g a v_2) (rest := []) (As := []) hx hb hml hown hg hK hP hD hS hA hCs hl.1 (c_Mo_begins l D g a z _ e_3) o_Mo_begins g_1250 (ci := 1) (q0 := 0) rfl rfl (List.range' 0 12) (segC1 rfl rfl) (by decide) rfl (segP1 rfl rfl) rfl rfl (Nat.le_of_ble_eq_true rfl) ⟨rfl, rfl, Nat.le_of_ble_eq_true rfl, Nat.le_of_ble_eq_true rfl⟩ d_Mo_best_18 (fun H locs hP hD hS => ?_)
    refine lv_aload_n hx hb d_Mo_best_21 rfl (lv_at hl 0 rfl) ?_
    refine lv_iconst (v := 0) hx hb d_Mo_best_22 (by decide) ?_
    refine lv_iconst (v := 0) hx hb d_Mo_best_23 (by decide) ?_
    refine lv_iconst (v := 0) hx hb d_Mo_best_24 (by decide) ?_
    obtain ⟨v_4, e_5, hd⟩ := bind_s hd
    refine callVV (ws' := ws_Mo g a v_4) (rest := []) (As := [.int 0, .int 0, .int 0]) hx hb hml hown hg hK hP hD hS hA hCs hl.1 (c_Mo_waysFrom 64 l D g a 0 0 0 v_2 _ e_5) o_Mo_waysFrom g_1254 (ci := 1) (q0 := 0) rfl rfl (List.range' 0 12) (segC1 rfl rfl) (by decide) rfl (segP1 rfl rfl) rfl rfl (Nat.le_of_ble_eq_true rfl) ⟨rfl, rfl, Nat.le_of_ble_eq_true rfl, Nat.le_of_ble_eq_true rfl⟩ d_Mo_best_25 (fun H locs hP hD hS => ?_)
    refine lv_iload_n hx hb d_Mo_best_28 rfl (lv_at hl 1 rfl) ?_
    refine lv_iconst (v := (-1)) hx hb d_Mo_best_29 (by decide) ?_
    refine lv_icmp_ne (tgt := 40) hx hb d_Mo_best_30 (by decide) (fun h_6 => ?_) (fun h_6 => ?_)
    · have hd := ite_f hd h_6
      refine lv_aload_n hx hb d_Mo_best_40 rfl (lv_at hl 0 rfl) ?_
      refine va_get (D := D) (ci := 1) (v := .ref (a 10)) (C := R_Mo) (T := F_Mo) (N := 26) hx hb hg i_Mo hown hK hP 0 rfl rfl 16 (by decide) (hg _ g_1008) (fun _ h9 => h9) rfl d_Mo_best_41 ?_
      refine lv_iload_n hx hb d_Mo_best_44 rfl (lv_at hl 1 rfl) ?_
      obtain ⟨h_9, hd⟩ := ite_s hd
      refine ialdK hx hb hK hP 10 0 rfl rfl (inb_t h_9) rfl d_Mo_best_45 ?_
      obtain ⟨v_7, e_8, hd⟩ := bind_s hd
      refine callSI (ws' := ws_Mo g a v_4) (rest := []) (As := [.int ((q_Mo_bestWay v_4) x1.toNatClampNeg)]) hx hb hml hown hg hK hP hD hS hA hCs hl.1 (c_Mo_orNobody l D g  ((q_Mo_bestWay v_4) x1.toNatClampNeg) _ e_8) o_Mo_orNobody g_1195 [] segC0 rfl rfl segP0 rfl rfl (Nat.le_of_ble_eq_true rfl) ⟨rfl, rfl, Nat.le_of_ble_eq_true rfl, Nat.le_of_ble_eq_true rfl⟩ d_Mo_best_46 (fun H locs hP hD hS => ?_)
      obtain rfl := Option.some.inj hd
      exact retI hx hb hr hlk hK hP hD hS d_Mo_best_49 rfl
    · have hd := ite_t hd h_6
      refine lv_aload_n hx hb d_Mo_best_33 rfl (lv_at hl 0 rfl) ?_
      refine va_get (D := D) (ci := 1) (v := .int (q_Mo_bestLike v_4)) (C := R_Mo) (T := F_Mo) (N := 26) hx hb hg i_Mo hown hK hP 0 rfl rfl 17 (by decide) (hg _ g_1009) (fun _ h9 => h9) rfl d_Mo_best_34 ?_
      refine lv_goto (tgt := 49) hx hb d_Mo_best_37 (by decide) ?_
      obtain rfl := Option.some.inj hd
      exact retI hx hb hr hlk hK hP hD hS d_Mo_best_49 rfl
  · have hd := ite_f hd h_1
    refine lv_aload_n hx hb d_Mo_best_5 rfl (lv_at hl 0 rfl) ?_
    refine lv_iload_n hx hb d_Mo_best_6 rfl (lv_at hl 1 rfl) ?_
    obtain ⟨v_10, e_11, hd⟩ := bind_s hd
    refine callVI (ws' := ws_Mo g a z) (rest := []) (As := [.int x1]) hx hb hml hown hg hK hP hD hS hA hCs hl.1 (c_Mo_isThing l D g a x1 z _ e_11) o_Mo_isThing g_1183 (ci := 1) (q0 := 0) rfl rfl (List.range' 0 12) (segC1 rfl rfl) (by decide) rfl (segP1 rfl rfl) rfl rfl (Nat.le_of_ble_eq_true rfl) ⟨rfl, rfl, Nat.le_of_ble_eq_true rfl, Nat.le_of_ble_eq_true rfl⟩ d_Mo_best_7 (fun H locs hP hD hS => ?_)
    refine lv_if_ne (tgt := 17) hx hb d_Mo_best_10 (by decide) (fun h_12 => ?_) (fun h_12 => ?_)
    · have hd := ite_f hd h_12
      refine lv_aload_n hx hb d_Mo_best_17 rfl (lv_at hl 0 rfl) ?_
      obtain ⟨v_13, e_14, hd⟩ := bind_s hd
      refine callVV (ws' := ws_Mo g a v_13) (rest := []) (As := []) hx hb hml hown hg hK hP hD hS hA hCs hl.1 (c_Mo_begins l D g a z _ e_14) o_Mo_begins g_1250 (ci := 1) (q0 := 0) rfl rfl (List.range' 0 12) (segC1 rfl rfl) (by decide) rfl (segP1 rfl rfl) rfl rfl (Nat.le_of_ble_eq_true rfl) ⟨rfl, rfl, Nat.le_of_ble_eq_true rfl, Nat.le_of_ble_eq_true rfl⟩ d_Mo_best_18 (fun H locs hP hD hS => ?_)
      refine lv_aload_n hx hb d_Mo_best_21 rfl (lv_at hl 0 rfl) ?_
      refine lv_iconst (v := 0) hx hb d_Mo_best_22 (by decide) ?_
      refine lv_iconst (v := 0) hx hb d_Mo_best_23 (by decide) ?_
      refine lv_iconst (v := 0) hx hb d_Mo_best_24 (by decide) ?_
      obtain ⟨v_15, e_16, hd⟩ := bind_s hd
      refine callVV (ws' := ws_Mo g a v_15) (rest := []) (As := [.int 0, .int 0, .int 0]) hx hb hml hown hg hK hP hD hS hA hCs hl.1 (c_Mo_waysFrom 64 l D g a 0 0 0 v_13 _ e_16) o_Mo_waysFrom g_1254 (ci := 1) (q0 := 0) rfl rfl (List.range' 0 12) (segC1 rfl rfl) (by decide) rfl (segP1 rfl rfl) rfl rfl (Nat.le_of_ble_eq_true rfl) ⟨rfl, rfl, Nat.le_of_ble_eq_true rfl, Nat.le_of_ble_eq_true rfl⟩ d_Mo_best_25 (fun H locs hP hD hS => ?_)
      refine lv_iload_n hx hb d_Mo_best_28 rfl (lv_at hl 1 rfl) ?_
      refine lv_iconst (v := (-1)) hx hb d_Mo_best_29 (by decide) ?_
      refine lv_icmp_ne (tgt := 40) hx hb d_Mo_best_30 (by decide) (fun h_17 => ?_) (fun h_17 => ?_)
      · have hd := ite_f hd h_17
        refine lv_aload_n hx hb d_Mo_best_40 rfl (lv_at hl 0 rfl) ?_
        refine va_get (D := D) (ci := 1) (v := .ref (a 10)) (C := R_Mo) (T := F_Mo) (N := 26) hx hb hg i_Mo hown hK hP 0 rfl rfl 16 (by decide) (hg _ g_1008) (fun _ h9 => h9) rfl d_Mo_best_41 ?_
        refine lv_iload_n hx hb d_Mo_best_44 rfl (lv_at hl 1 rfl) ?_
        obtain ⟨h_20, hd⟩ := ite_s hd
        refine ialdK hx hb hK hP 10 0 rfl rfl (inb_t h_20) rfl d_Mo_best_45 ?_
        obtain ⟨v_18, e_19, hd⟩ := bind_s hd
        refine callSI (ws' := ws_Mo g a v_15) (rest := []) (As := [.int ((q_Mo_bestWay v_15) x1.toNatClampNeg)]) hx hb hml hown hg hK hP hD hS hA hCs hl.1 (c_Mo_orNobody l D g  ((q_Mo_bestWay v_15) x1.toNatClampNeg) _ e_19) o_Mo_orNobody g_1195 [] segC0 rfl rfl segP0 rfl rfl (Nat.le_of_ble_eq_true rfl) ⟨rfl, rfl, Nat.le_of_ble_eq_true rfl, Nat.le_of_ble_eq_true rfl⟩ d_Mo_best_46 (fun H locs hP hD hS => ?_)
        obtain rfl := Option.some.inj hd
        exact retI hx hb hr hlk hK hP hD hS d_Mo_best_49 rfl
      · have hd := ite_t hd h_17
        refine lv_aload_n hx hb d_Mo_best_33 rfl (lv_at hl 0 rfl) ?_
        refine va_get (D := D) (ci := 1) (v := .int (q_Mo_bestLike v_15)) (C := R_Mo) (T := F_Mo) (N := 26) hx hb hg i_Mo hown hK hP 0 rfl rfl 17 (by decide) (hg _ g_1009) (fun _ h9 => h9) rfl d_Mo_best_34 ?_
        refine lv_goto (tgt := 49) hx hb d_Mo_best_37 (by decide) ?_
        obtain rfl := Option.some.inj hd
        exact retI hx hb hr hlk hK hP hD hS d_Mo_best_49 rfl
    · have hd := ite_t hd h_12
      refine lv_sipush (v := (-1001)) hx hb d_Mo_best_13 (by decide) ?_
      obtain rfl := Option.some.inj hd
      exact retI hx hb hr hlk hK hP hD hS d_Mo_best_16 rfl
-- OwnsLiftModel.most()I
def d_Mo_most (z : T_Mo) : Option (Int32 × T_Mo) :=
  (d_Mo_begins z).bind fun v_1 => (d_Mo_waysFrom 64 0 0 0 v_1).bind fun v_3 => some ((q_Mo_mostOwned v_3), v_3)
theorem d_Mo_most_0 : decode b_Mo_most 0 = .ok (.aload_n 0, 1) := by decide +kernel
theorem d_Mo_most_1 : decode b_Mo_most 1 = .ok (.invokevirtual 197, 3) := by decide +kernel
theorem d_Mo_most_4 : decode b_Mo_most 4 = .ok (.aload_n 0, 1) := by decide +kernel
theorem d_Mo_most_5 : decode b_Mo_most 5 = .ok (.iconst 0, 1) := by decide +kernel
theorem d_Mo_most_6 : decode b_Mo_most 6 = .ok (.iconst 0, 1) := by decide +kernel
theorem d_Mo_most_7 : decode b_Mo_most 7 = .ok (.iconst 0, 1) := by decide +kernel
theorem d_Mo_most_8 : decode b_Mo_most 8 = .ok (.invokevirtual 193, 3) := by decide +kernel
theorem d_Mo_most_11 : decode b_Mo_most 11 = .ok (.aload_n 0, 1) := by decide +kernel
theorem d_Mo_most_12 : decode b_Mo_most 12 = .ok (.getfield 187, 3) := by decide +kernel
theorem d_Mo_most_15 : decode b_Mo_most 15 = .ok (.ireturn, 1) := by decide +kernel
theorem o_Mo_most : OkV y_Mo_most "OwnsLiftModel" b_Mo_most 1 (some .int) 0 := ⟨⟨rfl, by decide +kernel, by decide +kernel, by decide +kernel⟩, g_1259, g_1260, g_81, g_1261⟩
set_option maxHeartbeats 4000000 in
set_option maxRecDepth 100000 in
theorem c_Mo_most (l : Launch) (D : va_G) (g : Nat → ClassId) (a : Nat → Nat) (z : T_Mo) (v : Int32 × T_Mo) (h : d_Mo_most z = some v) :
    MI l y_Mo_most b_Mo_most 1 .int ({ frames := 130, cells := 0, slots := 0, locals := 3865 } : Room) D g [.ref (a 0)] (ws_Mo g a z) (v.1) (ws_Mo g a v.2) := by
  have hd := h
  unfold d_Mo_most at hd
  refine enterI rfl (Nat.le_of_ble_eq_true rfl) (fun p e s m below meth c A ls hx hb hml hr hown hg hlk hK hA hP hD hS hCs hl => ?_)
  have hown : s.vm.findClass "OwnsLiftModel" = some m.cls := hown
  have hl : lv_has ls 1 [(0, .ref (a 0))] := hl
  show GI p l e s m ({ frames := 130, cells := 0, slots := 0, locals := 3865 } : Room) ([.ref (a 0)] : List Value).toArray below meth c A D g (ws_Mo g a v.2) (v.1) s.heap [] (F0 m 0 ls [])
  refine lv_aload_n hx hb d_Mo_most_0 rfl (lv_at hl 0 rfl) ?_
  obtain ⟨v_1, e_2, hd⟩ := bind_s hd
  refine callVV (ws' := ws_Mo g a v_1) (rest := []) (As := []) hx hb hml hown hg hK hP hD hS hA hCs hl.1 (c_Mo_begins l D g a z _ e_2) o_Mo_begins g_1250 (ci := 1) (q0 := 0) rfl rfl (List.range' 0 12) (segC1 rfl rfl) (by decide) rfl (segP1 rfl rfl) rfl rfl (Nat.le_of_ble_eq_true rfl) ⟨rfl, rfl, Nat.le_of_ble_eq_true rfl, Nat.le_of_ble_eq_true rfl⟩ d_Mo_most_1 (fun H locs hP hD hS => ?_)
  refine lv_aload_n hx hb d_Mo_most_4 rfl (lv_at hl 0 rfl) ?_
  refine lv_iconst (v := 0) hx hb d_Mo_most_5 (by decide) ?_
  refine lv_iconst (v := 0) hx hb d_Mo_most_6 (by decide) ?_
  refine lv_iconst (v := 0) hx hb d_Mo_most_7 (by decide) ?_
  obtain ⟨v_3, e_4, hd⟩ := bind_s hd
  refine callVV (ws' := ws_Mo g a v_3) (rest := []) (As := [.int 0, .int 0, .int 0]) hx hb hml hown hg hK hP hD hS hA hCs hl.1 (c_Mo_waysFrom 64 l D g a 0 0 0 v_1 _ e_4) o_Mo_waysFrom g_1254 (ci := 1) (q0 := 0) rfl rfl (List.range' 0 12) (segC1 rfl rfl) (by decide) rfl (segP1 rfl rfl) rfl rfl (Nat.le_of_ble_eq_true rfl) ⟨rfl, rfl, Nat.le_of_ble_eq_true rfl, Nat.le_of_ble_eq_true rfl⟩ d_Mo_most_8 (fun H locs hP hD hS => ?_)
  refine lv_aload_n hx hb d_Mo_most_11 rfl (lv_at hl 0 rfl) ?_
  refine va_get (D := D) (ci := 1) (v := .int (q_Mo_mostOwned v_3)) (C := R_Mo) (T := F_Mo) (N := 26) hx hb hg i_Mo hown hK hP 0 rfl rfl 18 (by decide) (hg _ g_1010) (fun _ h9 => h9) rfl d_Mo_most_12 ?_
  obtain rfl := Option.some.inj hd
  exact retI hx hb hr hlk hK hP hD hS d_Mo_most_15 rfl
-- OwnsLiftModel.train(I)I
def d_Mo_train (x1 : Int32) (z : T_Mo) : Option (Int32 × T_Mo) :=
  (d_Mo_isPerson x1 z).bind fun v_1 => if v_1 = 0 then (some ((-1), z)) else ((d_Mo_begins z).bind fun v_4 => (d_Mo_waysFrom 64 0 0 0 v_4).bind fun v_6 => if inb x1 4 = true then (if inb x1 4 = true then ((d_Mo_waysFrom 64 0 0 0 (u_Mo_lifts v_6 (upd (q_Mo_lifts v_6) x1.toNatClampNeg (((q_Mo_lifts v_6) x1.toNatClampNeg) + 1)))).bind fun v_8 => some ((q_Mo_bestLike v_8) - (q_Mo_bestLike v_6), v_8)) else none) else none)
theorem d_Mo_train_0 : decode b_Mo_train 0 = .ok (.aload_n 0, 1) := by decide +kernel
theorem d_Mo_train_1 : decode b_Mo_train 1 = .ok (.iload_n 1, 1) := by decide +kernel
theorem d_Mo_train_2 : decode b_Mo_train 2 = .ok (.invokevirtual 147, 3) := by decide +kernel
theorem d_Mo_train_5 : decode b_Mo_train 5 = .ok (.ifCond .ne 5, 3) := by decide +kernel
theorem d_Mo_train_8 : decode b_Mo_train 8 = .ok (.iconst (-1), 1) := by decide +kernel
theorem d_Mo_train_9 : decode b_Mo_train 9 = .ok (.ireturn, 1) := by decide +kernel
theorem d_Mo_train_10 : decode b_Mo_train 10 = .ok (.aload_n 0, 1) := by decide +kernel
theorem d_Mo_train_11 : decode b_Mo_train 11 = .ok (.invokevirtual 197, 3) := by decide +kernel
theorem d_Mo_train_14 : decode b_Mo_train 14 = .ok (.aload_n 0, 1) := by decide +kernel
theorem d_Mo_train_15 : decode b_Mo_train 15 = .ok (.iconst 0, 1) := by decide +kernel
theorem d_Mo_train_16 : decode b_Mo_train 16 = .ok (.iconst 0, 1) := by decide +kernel
theorem d_Mo_train_17 : decode b_Mo_train 17 = .ok (.iconst 0, 1) := by decide +kernel
theorem d_Mo_train_18 : decode b_Mo_train 18 = .ok (.invokevirtual 193, 3) := by decide +kernel
theorem d_Mo_train_21 : decode b_Mo_train 21 = .ok (.aload_n 0, 1) := by decide +kernel
theorem d_Mo_train_22 : decode b_Mo_train 22 = .ok (.getfield 184, 3) := by decide +kernel
theorem d_Mo_train_25 : decode b_Mo_train 25 = .ok (.istore_n 2, 1) := by decide +kernel
theorem d_Mo_train_26 : decode b_Mo_train 26 = .ok (.aload_n 0, 1) := by decide +kernel
theorem d_Mo_train_27 : decode b_Mo_train 27 = .ok (.getfield 31, 3) := by decide +kernel
theorem d_Mo_train_30 : decode b_Mo_train 30 = .ok (.iload_n 1, 1) := by decide +kernel
theorem d_Mo_train_31 : decode b_Mo_train 31 = .ok (.dup2, 1) := by decide +kernel
theorem d_Mo_train_32 : decode b_Mo_train 32 = .ok (.iaload, 1) := by decide +kernel
theorem d_Mo_train_33 : decode b_Mo_train 33 = .ok (.iconst 1, 1) := by decide +kernel
theorem d_Mo_train_34 : decode b_Mo_train 34 = .ok (.iadd, 1) := by decide +kernel
theorem d_Mo_train_35 : decode b_Mo_train 35 = .ok (.iastore, 1) := by decide +kernel
theorem d_Mo_train_36 : decode b_Mo_train 36 = .ok (.aload_n 0, 1) := by decide +kernel
theorem d_Mo_train_37 : decode b_Mo_train 37 = .ok (.iconst 0, 1) := by decide +kernel
theorem d_Mo_train_38 : decode b_Mo_train 38 = .ok (.iconst 0, 1) := by decide +kernel
theorem d_Mo_train_39 : decode b_Mo_train 39 = .ok (.iconst 0, 1) := by decide +kernel
theorem d_Mo_train_40 : decode b_Mo_train 40 = .ok (.invokevirtual 193, 3) := by decide +kernel
theorem d_Mo_train_43 : decode b_Mo_train 43 = .ok (.aload_n 0, 1) := by decide +kernel
theorem d_Mo_train_44 : decode b_Mo_train 44 = .ok (.getfield 184, 3) := by decide +kernel
theorem d_Mo_train_47 : decode b_Mo_train 47 = .ok (.iload_n 2, 1) := by decide +kernel
theorem d_Mo_train_48 : decode b_Mo_train 48 = .ok (.isub, 1) := by decide +kernel
theorem d_Mo_train_49 : decode b_Mo_train 49 = .ok (.ireturn, 1) := by decide +kernel
theorem o_Mo_train : OkV y_Mo_train "OwnsLiftModel" b_Mo_train 3 (some .int) 1 := ⟨⟨rfl, by decide +kernel, by decide +kernel, by decide +kernel⟩, g_1263, g_1264, g_81, g_1265⟩
set_option maxHeartbeats 4000000 in
set_option maxRecDepth 100000 in
theorem c_Mo_train (l : Launch) (D : va_G) (g : Nat → ClassId) (a : Nat → Nat) (x1 : Int32) (z : T_Mo) (v : Int32 × T_Mo) (h : d_Mo_train x1 z = some v) :
    MI l y_Mo_train b_Mo_train 3 .int ({ frames := 130, cells := 0, slots := 0, locals := 3865 } : Room) D g [.ref (a 0), .int x1] (ws_Mo g a z) (v.1) (ws_Mo g a v.2) := by
  have hd := h
  unfold d_Mo_train at hd
  refine enterI rfl (Nat.le_of_ble_eq_true rfl) (fun p e s m below meth c A ls hx hb hml hr hown hg hlk hK hA hP hD hS hCs hl => ?_)
  have hown : s.vm.findClass "OwnsLiftModel" = some m.cls := hown
  have hl : lv_has ls 3 [(0, .ref (a 0)), (1, .int x1)] := hl
  show GI p l e s m ({ frames := 130, cells := 0, slots := 0, locals := 3865 } : Room) ([.ref (a 0), .int x1] : List Value).toArray below meth c A D g (ws_Mo g a v.2) (v.1) s.heap [] (F0 m 0 ls [])
  refine lv_aload_n hx hb d_Mo_train_0 rfl (lv_at hl 0 rfl) ?_
  refine lv_iload_n hx hb d_Mo_train_1 rfl (lv_at hl 1 rfl) ?_
  obtain ⟨v_1, e_2, hd⟩ := bind_s hd
  refine callVI (ws' := ws_Mo g a z) (rest := []) (As := [.int x1]) hx hb hml hown hg hK hP hD hS hA hCs hl.1 (c_Mo_isPerson l D g a x1 z _ e_2) o_Mo_isPerson g_1147 (ci := 1) (q0 := 0) rfl rfl (List.range' 0 12) (segC1 rfl rfl) (by decide) rfl (segP1 rfl rfl) rfl rfl (Nat.le_of_ble_eq_true rfl) ⟨rfl, rfl, Nat.le_of_ble_eq_true rfl, Nat.le_of_ble_eq_true rfl⟩ d_Mo_train_2 (fun H locs hP hD hS => ?_)
  refine lv_if_ne (tgt := 10) hx hb d_Mo_train_5 (by decide) (fun h_3 => ?_) (fun h_3 => ?_)
  · have hd := ite_f hd h_3
    refine lv_aload_n hx hb d_Mo_train_10 rfl (lv_at hl 0 rfl) ?_
    obtain ⟨v_4, e_5, hd⟩ := bind_s hd
    refine callVV (ws' := ws_Mo g a v_4) (rest := []) (As := []) hx hb hml hown hg hK hP hD hS hA hCs hl.1 (c_Mo_begins l D g a z _ e_5) o_Mo_begins g_1250 (ci := 1) (q0 := 0) rfl rfl (List.range' 0 12) (segC1 rfl rfl) (by decide) rfl (segP1 rfl rfl) rfl rfl (Nat.le_of_ble_eq_true rfl) ⟨rfl, rfl, Nat.le_of_ble_eq_true rfl, Nat.le_of_ble_eq_true rfl⟩ d_Mo_train_11 (fun H locs hP hD hS => ?_)
    refine lv_aload_n hx hb d_Mo_train_14 rfl (lv_at hl 0 rfl) ?_
    refine lv_iconst (v := 0) hx hb d_Mo_train_15 (by decide) ?_
    refine lv_iconst (v := 0) hx hb d_Mo_train_16 (by decide) ?_
    refine lv_iconst (v := 0) hx hb d_Mo_train_17 (by decide) ?_
    obtain ⟨v_6, e_7, hd⟩ := bind_s hd
    refine callVV (ws' := ws_Mo g a v_6) (rest := []) (As := [.int 0, .int 0, .int 0]) hx hb hml hown hg hK hP hD hS hA hCs hl.1 (c_Mo_waysFrom 64 l D g a 0 0 0 v_4 _ e_7) o_Mo_waysFrom g_1254 (ci := 1) (q0 := 0) rfl rfl (List.range' 0 12) (segC1 rfl rfl) (by decide) rfl (segP1 rfl rfl) rfl rfl (Nat.le_of_ble_eq_true rfl) ⟨rfl, rfl, Nat.le_of_ble_eq_true rfl, Nat.le_of_ble_eq_true rfl⟩ d_Mo_train_18 (fun H locs hP hD hS => ?_)
    refine lv_aload_n hx hb d_Mo_train_21 rfl (lv_at hl 0 rfl) ?_
    refine va_get (D := D) (ci := 1) (v := .int (q_Mo_bestLike v_6)) (C := R_Mo) (T := F_Mo) (N := 26) hx hb hg i_Mo hown hK hP 0 rfl rfl 17 (by decide) (hg _ g_1009) (fun _ h9 => h9) rfl d_Mo_train_22 ?_
    refine lv_istore_n (lv' := [(2, .int (q_Mo_bestLike v_6)), (0, .ref (a 0)), (1, .int x1)]) hx hb d_Mo_train_25 rfl hl (by decide) rfl (fun ls hl => ?_)
    refine lv_aload_n hx hb d_Mo_train_26 rfl (lv_at hl 1 rfl) ?_
    refine va_get (D := D) (ci := 1) (v := .ref (a 7)) (C := R_Mo) (T := F_Mo) (N := 26) hx hb hg i_Mo hown hK hP 0 rfl rfl 13 (by decide) (hg _ g_1005) (fun _ h9 => h9) rfl d_Mo_train_27 ?_
    refine lv_iload_n hx hb d_Mo_train_30 rfl (lv_at hl 2 rfl) ?_
    refine lv_dup2_11 hx hb d_Mo_train_31 rfl rfl ?_
    obtain ⟨h_11, hd⟩ := ite_s hd
    refine ialdK hx hb hK hP 7 0 rfl rfl (inb_t h_11) rfl d_Mo_train_32 ?_
    refine lv_iconst (v := 1) hx hb d_Mo_train_33 (by decide) ?_
    refine lv_iadd hx hb d_Mo_train_34 ?_
    obtain ⟨h_10, hd⟩ := ite_s hd
    refine iastK hx hb hK hP hD hS 7 0 rfl rfl (inb_t h_10) rfl d_Mo_train_35 (fun H locs hP hD hS => ?_)
    have hP : va_P D classes (ws_Mo g a (u_Mo_lifts v_6 (upd (q_Mo_lifts v_6) x1.toNatClampNeg (((q_Mo_lifts v_6) x1.toNatClampNeg) + 1)))) H := hP
    have hD : va_D A (ws_Mo g a (u_Mo_lifts v_6 (upd (q_Mo_lifts v_6) x1.toNatClampNeg (((q_Mo_lifts v_6) x1.toNatClampNeg) + 1)))) := hD
    refine lv_aload_n hx hb d_Mo_train_36 rfl (lv_at hl 1 rfl) ?_
    refine lv_iconst (v := 0) hx hb d_Mo_train_37 (by decide) ?_
    refine lv_iconst (v := 0) hx hb d_Mo_train_38 (by decide) ?_
    refine lv_iconst (v := 0) hx hb d_Mo_train_39 (by decide) ?_
    obtain ⟨v_8, e_9, hd⟩ := bind_s hd
    refine callVV (ws' := ws_Mo g a v_8) (rest := []) (As := [.int 0, .int 0, .int 0]) hx hb hml hown hg hK hP hD hS hA hCs hl.1 (c_Mo_waysFrom 64 l D g a 0 0 0 (u_Mo_lifts v_6 (upd (q_Mo_lifts v_6) x1.toNatClampNeg (((q_Mo_lifts v_6) x1.toNatClampNeg) + 1))) _ e_9) o_Mo_waysFrom g_1254 (ci := 1) (q0 := 0) rfl rfl (List.range' 0 12) (segC1 rfl rfl) (by decide) rfl (segP1 rfl rfl) rfl rfl (Nat.le_of_ble_eq_true rfl) ⟨rfl, rfl, Nat.le_of_ble_eq_true rfl, Nat.le_of_ble_eq_true rfl⟩ d_Mo_train_40 (fun H locs hP hD hS => ?_)
    refine lv_aload_n hx hb d_Mo_train_43 rfl (lv_at hl 1 rfl) ?_
    refine va_get (D := D) (ci := 1) (v := .int (q_Mo_bestLike v_8)) (C := R_Mo) (T := F_Mo) (N := 26) hx hb hg i_Mo hown hK hP 0 rfl rfl 17 (by decide) (hg _ g_1009) (fun _ h9 => h9) rfl d_Mo_train_44 ?_
    refine lv_iload_n hx hb d_Mo_train_47 rfl (lv_at hl 0 rfl) ?_
    refine lv_isub hx hb d_Mo_train_48 ?_
    obtain rfl := Option.some.inj hd
    exact retI hx hb hr hlk hK hP hD hS d_Mo_train_49 rfl
  · have hd := ite_t hd h_3
    refine lv_iconst (v := (-1)) hx hb d_Mo_train_8 (by decide) ?_
    obtain rfl := Option.some.inj hd
    exact retI hx hb hr hlk hK hP hD hS d_Mo_train_9 rfl
-- recursion: Mo_movesFrom
def B_Mo_movesFrom_L64 (rc : Int32 → Int32 → T_Mo → Option (T_Mo)) (x1_f64 : Int32) (x2_f64 : Int32) (self64 : Int32 → T_Mo → Option (T_Mo)) (x3_64 : Int32) (z_64 : T_Mo) : Option (T_Mo) :=
  if ((q_Mo_s z_64) 0) ≤ x3_64 then (some (z_64)) else (if inb x3_64 5 = true then (if inb (58 + x1_f64) 901 = true then (if inb x3_64 4 = true then (if ((q_Mo_lifts z_64) x3_64.toNatClampNeg) < (((q_Mo_loads z_64) x3_64.toNatClampNeg) + ((q_Mo_s z_64) (58 + x1_f64).toNatClampNeg)) then (self64 (x3_64 + 1) z_64) else (if inb x3_64 5 = true then (if inb (58 + x1_f64) 901 = true then (if inb x3_64 5 = true then (if inb (65 + x1_f64) 901 = true then (if ((q_Mo_s (u_Mo_loads z_64 (upd (q_Mo_loads z_64) x3_64.toNatClampNeg (((q_Mo_loads z_64) x3_64.toNatClampNeg) + ((q_Mo_s z_64) (58 + x1_f64).toNatClampNeg))))) (65 + x1_f64).toNatClampNeg) = x3_64 then ((rc (x1_f64 + 1) (x2_f64 + 0) (u_Mo_loads z_64 (upd (q_Mo_loads z_64) x3_64.toNatClampNeg (((q_Mo_loads z_64) x3_64.toNatClampNeg) + ((q_Mo_s z_64) (58 + x1_f64).toNatClampNeg))))).bind fun v_11 => if inb x3_64 5 = true then (if inb (58 + x1_f64) 901 = true then (if inb x3_64 5 = true then (self64 (x3_64 + 1) (u_Mo_loads v_11 (upd (q_Mo_loads v_11) x3_64.toNatClampNeg (((q_Mo_loads v_11) x3_64.toNatClampNeg) - ((q_Mo_s v_11) (58 + x1_f64).toNatClampNeg))))) else none) else none) else none) else ((rc (x1_f64 + 1) (x2_f64 + 1) (u_Mo_loads z_64 (upd (q_Mo_loads z_64) x3_64.toNatClampNeg (((q_Mo_loads z_64) x3_64.toNatClampNeg) + ((q_Mo_s z_64) (58 + x1_f64).toNatClampNeg))))).bind fun v_6 => if inb x3_64 5 = true then (if inb (58 + x1_f64) 901 = true then (if inb x3_64 5 = true then (self64 (x3_64 + 1) (u_Mo_loads v_6 (upd (q_Mo_loads v_6) x3_64.toNatClampNeg (((q_Mo_loads v_6) x3_64.toNatClampNeg) - ((q_Mo_s v_6) (58 + x1_f64).toNatClampNeg))))) else none) else none) else none)) else none) else none) else none) else none)) else none) else none) else none)
def d_Mo_movesFrom_L64 (rc : Int32 → Int32 → T_Mo → Option (T_Mo)) (x1_f64 : Int32) (x2_f64 : Int32) (n : Nat) : Int32 → T_Mo → Option (T_Mo) := recN (fun _ _ => none) (fun self => B_Mo_movesFrom_L64 rc x1_f64 x2_f64 self) n
def B_Mo_movesFrom (rc : Int32 → Int32 → T_Mo → Option (T_Mo)) (x1 : Int32) (x2 : Int32) (z : T_Mo) : Option (T_Mo) :=
  if x1 = ((q_Mo_s z) 1) then (if (q_Mo_fewest z) = (-5) then (some ((u_Mo_fewest z x2))) else (if (q_Mo_fewest z) ≤ x2 then (some (z)) else (some ((u_Mo_fewest z x2))))) else (if inb (65 + x1) 901 = true then (if ((q_Mo_s z) (65 + x1).toNatClampNeg) = 4 then ((rc (x1 + 1) x2 z).bind fun v_23 => some (v_23)) else (d_Mo_movesFrom_L64 rc x1 x2  1000 0 z)) else none)
def d_Mo_movesFrom (n : Nat) : Int32 → Int32 → T_Mo → Option (T_Mo) := recN (fun _ _ _ => none) (fun rc => B_Mo_movesFrom rc) n
theorem d_Mo_movesFrom_0 : decode b_Mo_movesFrom 0 = .ok (.iload_n 1, 1) := by decide +kernel
theorem d_Mo_movesFrom_1 : decode b_Mo_movesFrom 1 = .ok (.aload_n 0, 1) := by decide +kernel
theorem d_Mo_movesFrom_2 : decode b_Mo_movesFrom 2 = .ok (.getfield 9, 3) := by decide +kernel
theorem d_Mo_movesFrom_5 : decode b_Mo_movesFrom 5 = .ok (.iconst 1, 1) := by decide +kernel
theorem d_Mo_movesFrom_6 : decode b_Mo_movesFrom 6 = .ok (.iaload, 1) := by decide +kernel
theorem d_Mo_movesFrom_7 : decode b_Mo_movesFrom 7 = .ok (.if_icmp .ne 33, 3) := by decide +kernel
theorem d_Mo_movesFrom_10 : decode b_Mo_movesFrom 10 = .ok (.aload_n 0, 1) := by decide +kernel
theorem d_Mo_movesFrom_11 : decode b_Mo_movesFrom 11 = .ok (.aload_n 0, 1) := by decide +kernel
theorem d_Mo_movesFrom_12 : decode b_Mo_movesFrom 12 = .ok (.getfield 190, 3) := by decide +kernel
theorem d_Mo_movesFrom_15 : decode b_Mo_movesFrom 15 = .ok (.bipush (-5), 2) := by decide +kernel
theorem d_Mo_movesFrom_17 : decode b_Mo_movesFrom 17 = .ok (.if_icmp .eq 11, 3) := by decide +kernel
theorem d_Mo_movesFrom_20 : decode b_Mo_movesFrom 20 = .ok (.iload_n 2, 1) := by decide +kernel
theorem d_Mo_movesFrom_21 : decode b_Mo_movesFrom 21 = .ok (.aload_n 0, 1) := by decide +kernel
theorem d_Mo_movesFrom_22 : decode b_Mo_movesFrom 22 = .ok (.getfield 190, 3) := by decide +kernel
theorem d_Mo_movesFrom_25 : decode b_Mo_movesFrom 25 = .ok (.if_icmp .ge 7, 3) := by decide +kernel
theorem d_Mo_movesFrom_28 : decode b_Mo_movesFrom 28 = .ok (.iload_n 2, 1) := by decide +kernel
theorem d_Mo_movesFrom_29 : decode b_Mo_movesFrom 29 = .ok (.goto 7, 3) := by decide +kernel
theorem d_Mo_movesFrom_32 : decode b_Mo_movesFrom 32 = .ok (.aload_n 0, 1) := by decide +kernel
theorem d_Mo_movesFrom_33 : decode b_Mo_movesFrom 33 = .ok (.getfield 190, 3) := by decide +kernel
theorem d_Mo_movesFrom_36 : decode b_Mo_movesFrom 36 = .ok (.putfield 190, 3) := by decide +kernel
theorem d_Mo_movesFrom_39 : decode b_Mo_movesFrom 39 = .ok (.return_, 1) := by decide +kernel
theorem d_Mo_movesFrom_40 : decode b_Mo_movesFrom 40 = .ok (.aload_n 0, 1) := by decide +kernel
theorem d_Mo_movesFrom_41 : decode b_Mo_movesFrom 41 = .ok (.getfield 9, 3) := by decide +kernel
theorem d_Mo_movesFrom_44 : decode b_Mo_movesFrom 44 = .ok (.bipush 65, 2) := by decide +kernel
theorem d_Mo_movesFrom_46 : decode b_Mo_movesFrom 46 = .ok (.iload_n 1, 1) := by decide +kernel
theorem d_Mo_movesFrom_47 : decode b_Mo_movesFrom 47 = .ok (.iadd, 1) := by decide +kernel
theorem d_Mo_movesFrom_48 : decode b_Mo_movesFrom 48 = .ok (.iaload, 1) := by decide +kernel
theorem d_Mo_movesFrom_49 : decode b_Mo_movesFrom 49 = .ok (.iconst 4, 1) := by decide +kernel
theorem d_Mo_movesFrom_50 : decode b_Mo_movesFrom 50 = .ok (.if_icmp .ne 12, 3) := by decide +kernel
theorem d_Mo_movesFrom_53 : decode b_Mo_movesFrom 53 = .ok (.aload_n 0, 1) := by decide +kernel
theorem d_Mo_movesFrom_54 : decode b_Mo_movesFrom 54 = .ok (.iload_n 1, 1) := by decide +kernel
theorem d_Mo_movesFrom_55 : decode b_Mo_movesFrom 55 = .ok (.iconst 1, 1) := by decide +kernel
theorem d_Mo_movesFrom_56 : decode b_Mo_movesFrom 56 = .ok (.iadd, 1) := by decide +kernel
theorem d_Mo_movesFrom_57 : decode b_Mo_movesFrom 57 = .ok (.iload_n 2, 1) := by decide +kernel
theorem d_Mo_movesFrom_58 : decode b_Mo_movesFrom 58 = .ok (.invokevirtual 200, 3) := by decide +kernel
theorem d_Mo_movesFrom_61 : decode b_Mo_movesFrom 61 = .ok (.return_, 1) := by decide +kernel
theorem d_Mo_movesFrom_62 : decode b_Mo_movesFrom 62 = .ok (.iconst 0, 1) := by decide +kernel
theorem d_Mo_movesFrom_63 : decode b_Mo_movesFrom 63 = .ok (.istore_n 3, 1) := by decide +kernel
theorem d_Mo_movesFrom_64 : decode b_Mo_movesFrom 64 = .ok (.iload_n 3, 1) := by decide +kernel
theorem d_Mo_movesFrom_65 : decode b_Mo_movesFrom 65 = .ok (.aload_n 0, 1) := by decide +kernel
theorem d_Mo_movesFrom_66 : decode b_Mo_movesFrom 66 = .ok (.getfield 9, 3) := by decide +kernel
theorem d_Mo_movesFrom_69 : decode b_Mo_movesFrom 69 = .ok (.iconst 0, 1) := by decide +kernel
theorem d_Mo_movesFrom_70 : decode b_Mo_movesFrom 70 = .ok (.iaload, 1) := by decide +kernel
theorem d_Mo_movesFrom_71 : decode b_Mo_movesFrom 71 = .ok (.if_icmp .ge 97, 3) := by decide +kernel
theorem d_Mo_movesFrom_74 : decode b_Mo_movesFrom 74 = .ok (.aload_n 0, 1) := by decide +kernel
theorem d_Mo_movesFrom_75 : decode b_Mo_movesFrom 75 = .ok (.getfield 34, 3) := by decide +kernel
theorem d_Mo_movesFrom_78 : decode b_Mo_movesFrom 78 = .ok (.iload_n 3, 1) := by decide +kernel
theorem d_Mo_movesFrom_79 : decode b_Mo_movesFrom 79 = .ok (.iaload, 1) := by decide +kernel
theorem d_Mo_movesFrom_80 : decode b_Mo_movesFrom 80 = .ok (.aload_n 0, 1) := by decide +kernel
theorem d_Mo_movesFrom_81 : decode b_Mo_movesFrom 81 = .ok (.getfield 9, 3) := by decide +kernel
theorem d_Mo_movesFrom_84 : decode b_Mo_movesFrom 84 = .ok (.bipush 58, 2) := by decide +kernel
theorem d_Mo_movesFrom_86 : decode b_Mo_movesFrom 86 = .ok (.iload_n 1, 1) := by decide +kernel
theorem d_Mo_movesFrom_87 : decode b_Mo_movesFrom 87 = .ok (.iadd, 1) := by decide +kernel
theorem d_Mo_movesFrom_88 : decode b_Mo_movesFrom 88 = .ok (.iaload, 1) := by decide +kernel
theorem d_Mo_movesFrom_89 : decode b_Mo_movesFrom 89 = .ok (.iadd, 1) := by decide +kernel
theorem d_Mo_movesFrom_90 : decode b_Mo_movesFrom 90 = .ok (.aload_n 0, 1) := by decide +kernel
theorem d_Mo_movesFrom_91 : decode b_Mo_movesFrom 91 = .ok (.getfield 31, 3) := by decide +kernel
theorem d_Mo_movesFrom_94 : decode b_Mo_movesFrom 94 = .ok (.iload_n 3, 1) := by decide +kernel
theorem d_Mo_movesFrom_95 : decode b_Mo_movesFrom 95 = .ok (.iaload, 1) := by decide +kernel
theorem d_Mo_movesFrom_96 : decode b_Mo_movesFrom 96 = .ok (.if_icmp .gt 66, 3) := by decide +kernel
theorem d_Mo_movesFrom_99 : decode b_Mo_movesFrom 99 = .ok (.aload_n 0, 1) := by decide +kernel
theorem d_Mo_movesFrom_100 : decode b_Mo_movesFrom 100 = .ok (.getfield 34, 3) := by decide +kernel
theorem d_Mo_movesFrom_103 : decode b_Mo_movesFrom 103 = .ok (.iload_n 3, 1) := by decide +kernel
theorem d_Mo_movesFrom_104 : decode b_Mo_movesFrom 104 = .ok (.dup2, 1) := by decide +kernel
theorem d_Mo_movesFrom_105 : decode b_Mo_movesFrom 105 = .ok (.iaload, 1) := by decide +kernel
theorem d_Mo_movesFrom_106 : decode b_Mo_movesFrom 106 = .ok (.aload_n 0, 1) := by decide +kernel
theorem d_Mo_movesFrom_107 : decode b_Mo_movesFrom 107 = .ok (.getfield 9, 3) := by decide +kernel
theorem d_Mo_movesFrom_110 : decode b_Mo_movesFrom 110 = .ok (.bipush 58, 2) := by decide +kernel
theorem d_Mo_movesFrom_112 : decode b_Mo_movesFrom 112 = .ok (.iload_n 1, 1) := by decide +kernel
theorem d_Mo_movesFrom_113 : decode b_Mo_movesFrom 113 = .ok (.iadd, 1) := by decide +kernel
theorem d_Mo_movesFrom_114 : decode b_Mo_movesFrom 114 = .ok (.iaload, 1) := by decide +kernel
theorem d_Mo_movesFrom_115 : decode b_Mo_movesFrom 115 = .ok (.iadd, 1) := by decide +kernel
theorem d_Mo_movesFrom_116 : decode b_Mo_movesFrom 116 = .ok (.iastore, 1) := by decide +kernel
theorem d_Mo_movesFrom_117 : decode b_Mo_movesFrom 117 = .ok (.aload_n 0, 1) := by decide +kernel
theorem d_Mo_movesFrom_118 : decode b_Mo_movesFrom 118 = .ok (.iload_n 1, 1) := by decide +kernel
theorem d_Mo_movesFrom_119 : decode b_Mo_movesFrom 119 = .ok (.iconst 1, 1) := by decide +kernel
theorem d_Mo_movesFrom_120 : decode b_Mo_movesFrom 120 = .ok (.iadd, 1) := by decide +kernel
theorem d_Mo_movesFrom_121 : decode b_Mo_movesFrom 121 = .ok (.iload_n 2, 1) := by decide +kernel
theorem d_Mo_movesFrom_122 : decode b_Mo_movesFrom 122 = .ok (.aload_n 0, 1) := by decide +kernel
theorem d_Mo_movesFrom_123 : decode b_Mo_movesFrom 123 = .ok (.getfield 9, 3) := by decide +kernel
theorem d_Mo_movesFrom_126 : decode b_Mo_movesFrom 126 = .ok (.bipush 65, 2) := by decide +kernel
theorem d_Mo_movesFrom_128 : decode b_Mo_movesFrom 128 = .ok (.iload_n 1, 1) := by decide +kernel
theorem d_Mo_movesFrom_129 : decode b_Mo_movesFrom 129 = .ok (.iadd, 1) := by decide +kernel
theorem d_Mo_movesFrom_130 : decode b_Mo_movesFrom 130 = .ok (.iaload, 1) := by decide +kernel
theorem d_Mo_movesFrom_131 : decode b_Mo_movesFrom 131 = .ok (.iload_n 3, 1) := by decide +kernel
theorem d_Mo_movesFrom_132 : decode b_Mo_movesFrom 132 = .ok (.if_icmp .ne 7, 3) := by decide +kernel
theorem d_Mo_movesFrom_135 : decode b_Mo_movesFrom 135 = .ok (.iconst 0, 1) := by decide +kernel
theorem d_Mo_movesFrom_136 : decode b_Mo_movesFrom 136 = .ok (.goto 4, 3) := by decide +kernel
theorem d_Mo_movesFrom_139 : decode b_Mo_movesFrom 139 = .ok (.iconst 1, 1) := by decide +kernel
theorem d_Mo_movesFrom_140 : decode b_Mo_movesFrom 140 = .ok (.iadd, 1) := by decide +kernel
theorem d_Mo_movesFrom_141 : decode b_Mo_movesFrom 141 = .ok (.invokevirtual 200, 3) := by decide +kernel
theorem d_Mo_movesFrom_144 : decode b_Mo_movesFrom 144 = .ok (.aload_n 0, 1) := by decide +kernel
theorem d_Mo_movesFrom_145 : decode b_Mo_movesFrom 145 = .ok (.getfield 34, 3) := by decide +kernel
theorem d_Mo_movesFrom_148 : decode b_Mo_movesFrom 148 = .ok (.iload_n 3, 1) := by decide +kernel
theorem d_Mo_movesFrom_149 : decode b_Mo_movesFrom 149 = .ok (.dup2, 1) := by decide +kernel
theorem d_Mo_movesFrom_150 : decode b_Mo_movesFrom 150 = .ok (.iaload, 1) := by decide +kernel
theorem d_Mo_movesFrom_151 : decode b_Mo_movesFrom 151 = .ok (.aload_n 0, 1) := by decide +kernel
theorem d_Mo_movesFrom_152 : decode b_Mo_movesFrom 152 = .ok (.getfield 9, 3) := by decide +kernel
theorem d_Mo_movesFrom_155 : decode b_Mo_movesFrom 155 = .ok (.bipush 58, 2) := by decide +kernel
theorem d_Mo_movesFrom_157 : decode b_Mo_movesFrom 157 = .ok (.iload_n 1, 1) := by decide +kernel
theorem d_Mo_movesFrom_158 : decode b_Mo_movesFrom 158 = .ok (.iadd, 1) := by decide +kernel
theorem d_Mo_movesFrom_159 : decode b_Mo_movesFrom 159 = .ok (.iaload, 1) := by decide +kernel
theorem d_Mo_movesFrom_160 : decode b_Mo_movesFrom 160 = .ok (.isub, 1) := by decide +kernel
theorem d_Mo_movesFrom_161 : decode b_Mo_movesFrom 161 = .ok (.iastore, 1) := by decide +kernel
theorem d_Mo_movesFrom_162 : decode b_Mo_movesFrom 162 = .ok (.iinc 3 1, 3) := by decide +kernel
theorem d_Mo_movesFrom_165 : decode b_Mo_movesFrom 165 = .ok (.goto (-101), 3) := by decide +kernel
theorem d_Mo_movesFrom_168 : decode b_Mo_movesFrom 168 = .ok (.return_, 1) := by decide +kernel
theorem o_Mo_movesFrom : OkV y_Mo_movesFrom "OwnsLiftModel" b_Mo_movesFrom 4 none 2 := ⟨⟨rfl, by decide +kernel, by decide +kernel, by decide +kernel⟩, g_1272, g_55, g_81, g_1273⟩

set_option maxHeartbeats 8000000 in
set_option maxRecDepth 100000 in
theorem cg_Mo_movesFrom : ∀ nr : Nat, (∀ (l : Launch) (D : va_G) (g : Nat → ClassId) (a : Nat → Nat) (x1 : Int32) (x2 : Int32) (z : T_Mo) (v : T_Mo) (h : d_Mo_movesFrom nr x1 x2 z = some v), MV l y_Mo_movesFrom b_Mo_movesFrom 4 ({ frames := 1 + 2 * nr, cells := 0, slots := 0, locals := 1 + 60 * nr } : Room) D g [.ref (a 0), .int x1, .int x2] (ws_Mo g a z) (ws_Mo g a v)) := by
  intro nr
  induction nr with
  | zero =>
    exact (by intro l D g a x1 x2 z v h; have h : none = some v := h; cases h)
  | succ nr ih =>
    refine ?_
    · intro l D g a x1 x2 z v h
      have hd : B_Mo_movesFrom (d_Mo_movesFrom nr) x1 x2 z = some v := h
      have ihc := ih
      generalize hrc : (d_Mo_movesFrom nr) = rc at hd
      have ih : ∀ (l : Launch) (D : va_G) (g : Nat → ClassId) (a : Nat → Nat) (x1 : Int32) (x2 : Int32) (z : T_Mo) (v : T_Mo) (h : rc x1 x2 z = some v), MV l y_Mo_movesFrom b_Mo_movesFrom 4 ({ frames := 1 + 2 * nr, cells := 0, slots := 0, locals := 1 + 60 * nr } : Room) D g [.ref (a 0), .int x1, .int x2] (ws_Mo g a z) (ws_Mo g a v) := fun l D g a x1 x2 z v h => ih l D g a x1 x2 z v (by rw [hrc]; exact h)
      clear ihc hrc
      unfold B_Mo_movesFrom at hd
      refine enterV rfl (Nat.le_of_ble_eq_true rfl) (fun p e s m below meth c A ls hx hb hml hr hown hg hlk hK hA hP hD hS hCs hl => ?_)
      have hown : s.vm.findClass "OwnsLiftModel" = some m.cls := hown
      have hl : lv_has ls 4 [(0, .ref (a 0)), (1, .int x1), (2, .int x2)] := hl
      show GV p l e s m ({ frames := 1 + 2 * (nr + 1), cells := 0, slots := 0, locals := 1 + 60 * (nr + 1) } : Room) ([.ref (a 0), .int x1, .int x2] : List Value).toArray below meth c A D g (ws_Mo g a v) s.heap [] (F0 m 0 ls [])
      refine lv_iload_n hx hb d_Mo_movesFrom_0 rfl (lv_at hl 1 rfl) ?_
      refine lv_aload_n hx hb d_Mo_movesFrom_1 rfl (lv_at hl 0 rfl) ?_
      refine va_get (D := D) (ci := 1) (v := .ref (a 1)) (C := R_Mo) (T := F_Mo) (N := 26) hx hb hg i_Mo hown hK hP 0 rfl rfl 1 (by decide) (hg _ g_993) (fun _ h9 => h9) rfl d_Mo_movesFrom_2 ?_
      refine lv_iconst (v := 1) hx hb d_Mo_movesFrom_5 (by decide) ?_
      refine ialdK hx hb hK hP 1 0 rfl rfl (inb_t (by decide +kernel)) (k := 1) (by decide +kernel) d_Mo_movesFrom_6 ?_
      refine lv_icmp_ne (tgt := 40) hx hb d_Mo_movesFrom_7 (by decide) (fun h_1 => ?_) (fun h_1 => ?_)
      · have hd := ite_f hd h_1
        refine lv_aload_n hx hb d_Mo_movesFrom_40 rfl (lv_at hl 0 rfl) ?_
        refine va_get (D := D) (ci := 1) (v := .ref (a 1)) (C := R_Mo) (T := F_Mo) (N := 26) hx hb hg i_Mo hown hK hP 0 rfl rfl 1 (by decide) (hg _ g_993) (fun _ h9 => h9) rfl d_Mo_movesFrom_41 ?_
        refine lv_bipush (v := 65) hx hb d_Mo_movesFrom_44 (by decide) ?_
        refine lv_iload_n hx hb d_Mo_movesFrom_46 rfl (lv_at hl 1 rfl) ?_
        refine lv_iadd hx hb d_Mo_movesFrom_47 ?_
        obtain ⟨h_25, hd⟩ := ite_s hd
        refine ialdK hx hb hK hP 1 0 rfl rfl (inb_t h_25) rfl d_Mo_movesFrom_48 ?_
        refine lv_iconst (v := 4) hx hb d_Mo_movesFrom_49 (by decide) ?_
        refine lv_icmp_ne (tgt := 62) hx hb d_Mo_movesFrom_50 (by decide) (fun h_2 => ?_) (fun h_2 => ?_)
        · have hd := ite_f hd h_2
          refine lv_iconst (v := 0) hx hb d_Mo_movesFrom_62 (by decide) ?_
          refine lv_istore_n (lv' := [(3, .int 0), (0, .ref (a 0)), (1, .int x1), (2, .int x2)]) hx hb d_Mo_movesFrom_63 rfl hl (by decide) rfl (fun ls hl => ?_)
          have lp64 : ∀ (x1_f64 : Int32) (x2_f64 : Int32) (n : Nat) (x3_64 : Int32) (z_64 : T_Mo) (H : Heap) (locs : List Loc) (ls : Array Slot), va_P D classes (ws_Mo g a z_64) H → va_D A (ws_Mo g a z_64) → va_S A s.heap H locs → lv_has ls 4 [(0, .ref (a 0)), (1, .int x1_f64), (2, .int x2_f64), (3, .int x3_64)] → d_Mo_movesFrom_L64 rc x1_f64 x2_f64 n x3_64 z_64 = some v → GV p l e s m ({ frames := 1 + 2 * (nr + 1), cells := 0, slots := 0, locals := 1 + 60 * (nr + 1) } : Room) ([.ref (a 0), .int x1, .int x2] : List Value).toArray below meth c A D g (ws_Mo g a v) H locs (F0 m 64 ls []) := by
            intro x1_f64 x2_f64 n
            induction n with
            | zero =>
              intro  x3_64 z_64 H locs ls hP hD hS hl hd
              have hd : none = some v := hd
              cases hd
            | succ n ih64 =>
              intro  x3_64 z_64 H locs ls hP hD hS hl hd
              have hd : B_Mo_movesFrom_L64 rc x1_f64 x2_f64 (d_Mo_movesFrom_L64 rc x1_f64 x2_f64 n) x3_64 z_64 = some v := hd
              generalize d_Mo_movesFrom_L64 rc x1_f64 x2_f64 n = self64 at ih64 hd
              unfold B_Mo_movesFrom_L64 at hd
              refine lv_iload_n hx hb d_Mo_movesFrom_64 rfl (lv_at hl 3 rfl) ?_
              refine lv_aload_n hx hb d_Mo_movesFrom_65 rfl (lv_at hl 0 rfl) ?_
              refine va_get (D := D) (ci := 1) (v := .ref (a 1)) (C := R_Mo) (T := F_Mo) (N := 26) hx hb hg i_Mo hown hK hP 0 rfl rfl 1 (by decide) (hg _ g_993) (fun _ h9 => h9) rfl d_Mo_movesFrom_66 ?_
              refine lv_iconst (v := 0) hx hb d_Mo_movesFrom_69 (by decide) ?_
              refine ialdK hx hb hK hP 1 0 rfl rfl (inb_t (by decide +kernel)) (k := 0) (by decide +kernel) d_Mo_movesFrom_70 ?_
              refine lv_icmp_ge (tgt := 168) hx hb d_Mo_movesFrom_71 (by decide) (fun h_3 => ?_) (fun h_3 => ?_)
              · have hd := ite_t hd h_3
                obtain rfl := Option.some.inj hd
                exact retV hx hb hr hlk hK hP hD hS d_Mo_movesFrom_168
              · have hd := ite_f hd h_3
                refine lv_aload_n hx hb d_Mo_movesFrom_74 rfl (lv_at hl 0 rfl) ?_
                refine va_get (D := D) (ci := 1) (v := .ref (a 8)) (C := R_Mo) (T := F_Mo) (N := 26) hx hb hg i_Mo hown hK hP 0 rfl rfl 14 (by decide) (hg _ g_1006) (fun _ h9 => h9) rfl d_Mo_movesFrom_75 ?_
                refine lv_iload_n hx hb d_Mo_movesFrom_78 rfl (lv_at hl 3 rfl) ?_
                obtain ⟨h_22, hd⟩ := ite_s hd
                refine ialdK hx hb hK hP 8 0 rfl rfl (inb_t h_22) rfl d_Mo_movesFrom_79 ?_
                refine lv_aload_n hx hb d_Mo_movesFrom_80 rfl (lv_at hl 0 rfl) ?_
                refine va_get (D := D) (ci := 1) (v := .ref (a 1)) (C := R_Mo) (T := F_Mo) (N := 26) hx hb hg i_Mo hown hK hP 0 rfl rfl 1 (by decide) (hg _ g_993) (fun _ h9 => h9) rfl d_Mo_movesFrom_81 ?_
                refine lv_bipush (v := 58) hx hb d_Mo_movesFrom_84 (by decide) ?_
                refine lv_iload_n hx hb d_Mo_movesFrom_86 rfl (lv_at hl 1 rfl) ?_
                refine lv_iadd hx hb d_Mo_movesFrom_87 ?_
                obtain ⟨h_21, hd⟩ := ite_s hd
                refine ialdK hx hb hK hP 1 0 rfl rfl (inb_t h_21) rfl d_Mo_movesFrom_88 ?_
                refine lv_iadd hx hb d_Mo_movesFrom_89 ?_
                refine lv_aload_n hx hb d_Mo_movesFrom_90 rfl (lv_at hl 0 rfl) ?_
                refine va_get (D := D) (ci := 1) (v := .ref (a 7)) (C := R_Mo) (T := F_Mo) (N := 26) hx hb hg i_Mo hown hK hP 0 rfl rfl 13 (by decide) (hg _ g_1005) (fun _ h9 => h9) rfl d_Mo_movesFrom_91 ?_
                refine lv_iload_n hx hb d_Mo_movesFrom_94 rfl (lv_at hl 3 rfl) ?_
                obtain ⟨h_20, hd⟩ := ite_s hd
                refine ialdK hx hb hK hP 7 0 rfl rfl (inb_t h_20) rfl d_Mo_movesFrom_95 ?_
                refine lv_icmp_gt (tgt := 162) hx hb d_Mo_movesFrom_96 (by decide) (fun h_4 => ?_) (fun h_4 => ?_)
                · have hd := ite_t hd h_4
                  refine lv_iinc (v := x3_64 + 1) (lv' := [(3, .int (x3_64 + 1)), (0, .ref (a 0)), (1, .int x1_f64), (2, .int x2_f64)]) hx hb d_Mo_movesFrom_162 hl (k := 3) rfl (by rfl) (by decide) rfl (fun ls hl => ?_)
                  refine lv_goto (tgt := 64) hx hb d_Mo_movesFrom_165 (by decide) ?_
                  exact ih64 (x3_64 + 1) z_64 _ _ _ hP hD hS (lv_sub hl [1, 2, 3, 0] rfl) hd
                · have hd := ite_f hd h_4
                  refine lv_aload_n hx hb d_Mo_movesFrom_99 rfl (lv_at hl 0 rfl) ?_
                  refine va_get (D := D) (ci := 1) (v := .ref (a 8)) (C := R_Mo) (T := F_Mo) (N := 26) hx hb hg i_Mo hown hK hP 0 rfl rfl 14 (by decide) (hg _ g_1006) (fun _ h9 => h9) rfl d_Mo_movesFrom_100 ?_
                  refine lv_iload_n hx hb d_Mo_movesFrom_103 rfl (lv_at hl 3 rfl) ?_
                  refine lv_dup2_11 hx hb d_Mo_movesFrom_104 rfl rfl ?_
                  obtain ⟨h_19, hd⟩ := ite_s hd
                  refine ialdK hx hb hK hP 8 0 rfl rfl (inb_t h_19) rfl d_Mo_movesFrom_105 ?_
                  refine lv_aload_n hx hb d_Mo_movesFrom_106 rfl (lv_at hl 0 rfl) ?_
                  refine va_get (D := D) (ci := 1) (v := .ref (a 1)) (C := R_Mo) (T := F_Mo) (N := 26) hx hb hg i_Mo hown hK hP 0 rfl rfl 1 (by decide) (hg _ g_993) (fun _ h9 => h9) rfl d_Mo_movesFrom_107 ?_
                  refine lv_bipush (v := 58) hx hb d_Mo_movesFrom_110 (by decide) ?_
                  refine lv_iload_n hx hb d_Mo_movesFrom_112 rfl (lv_at hl 1 rfl) ?_
                  refine lv_iadd hx hb d_Mo_movesFrom_113 ?_
                  obtain ⟨h_18, hd⟩ := ite_s hd
                  refine ialdK hx hb hK hP 1 0 rfl rfl (inb_t h_18) rfl d_Mo_movesFrom_114 ?_
                  refine lv_iadd hx hb d_Mo_movesFrom_115 ?_
                  obtain ⟨h_17, hd⟩ := ite_s hd
                  refine iastK hx hb hK hP hD hS 8 0 rfl rfl (inb_t h_17) rfl d_Mo_movesFrom_116 (fun H locs hP hD hS => ?_)
                  have hP : va_P D classes (ws_Mo g a (u_Mo_loads z_64 (upd (q_Mo_loads z_64) x3_64.toNatClampNeg (((q_Mo_loads z_64) x3_64.toNatClampNeg) + ((q_Mo_s z_64) (58 + x1_f64).toNatClampNeg))))) H := hP
                  have hD : va_D A (ws_Mo g a (u_Mo_loads z_64 (upd (q_Mo_loads z_64) x3_64.toNatClampNeg (((q_Mo_loads z_64) x3_64.toNatClampNeg) + ((q_Mo_s z_64) (58 + x1_f64).toNatClampNeg))))) := hD
                  refine lv_aload_n hx hb d_Mo_movesFrom_117 rfl (lv_at hl 0 rfl) ?_
                  refine lv_iload_n hx hb d_Mo_movesFrom_118 rfl (lv_at hl 1 rfl) ?_
                  refine lv_iconst (v := 1) hx hb d_Mo_movesFrom_119 (by decide) ?_
                  refine lv_iadd hx hb d_Mo_movesFrom_120 ?_
                  refine lv_iload_n hx hb d_Mo_movesFrom_121 rfl (lv_at hl 2 rfl) ?_
                  refine lv_aload_n hx hb d_Mo_movesFrom_122 rfl (lv_at hl 0 rfl) ?_
                  refine va_get (D := D) (ci := 1) (v := .ref (a 1)) (C := R_Mo) (T := F_Mo) (N := 26) hx hb hg i_Mo hown hK hP 0 rfl rfl 1 (by decide) (hg _ g_993) (fun _ h9 => h9) rfl d_Mo_movesFrom_123 ?_
                  refine lv_bipush (v := 65) hx hb d_Mo_movesFrom_126 (by decide) ?_
                  refine lv_iload_n hx hb d_Mo_movesFrom_128 rfl (lv_at hl 1 rfl) ?_
                  refine lv_iadd hx hb d_Mo_movesFrom_129 ?_
                  obtain ⟨h_16, hd⟩ := ite_s hd
                  refine ialdK hx hb hK hP 1 0 rfl rfl (inb_t h_16) rfl d_Mo_movesFrom_130 ?_
                  refine lv_iload_n hx hb d_Mo_movesFrom_131 rfl (lv_at hl 3 rfl) ?_
                  refine lv_icmp_ne (tgt := 139) hx hb d_Mo_movesFrom_132 (by decide) (fun h_5 => ?_) (fun h_5 => ?_)
                  · have hd := ite_f hd h_5
                    refine lv_iconst (v := 1) hx hb d_Mo_movesFrom_139 (by decide) ?_
                    refine lv_iadd hx hb d_Mo_movesFrom_140 ?_
                    obtain ⟨v_6, e_7, hd⟩ := bind_s hd
                    refine callVV (ws' := ws_Mo g a v_6) (rest := []) (As := [.int (x1_f64 + 1), .int (x2_f64 + 1)]) hx hb hml hown hg hK hP hD hS hA hCs hl.1 (ih l D g a (x1_f64 + 1) (x2_f64 + 1) (u_Mo_loads z_64 (upd (q_Mo_loads z_64) x3_64.toNatClampNeg (((q_Mo_loads z_64) x3_64.toNatClampNeg) + ((q_Mo_s z_64) (58 + x1_f64).toNatClampNeg)))) _ e_7) o_Mo_movesFrom g_1270 (ci := 1) (q0 := 0) rfl rfl (List.range' 0 12) (segC1 rfl rfl) (by decide) rfl (segP1 rfl rfl) rfl rfl (Nat.le_of_ble_eq_true rfl) ⟨rfl, rfl, by show _ ≤ _; (try dsimp only); omega, by show _ ≤ _; (try dsimp only); omega⟩ d_Mo_movesFrom_141 (fun H locs hP hD hS => ?_)
                    refine lv_aload_n hx hb d_Mo_movesFrom_144 rfl (lv_at hl 0 rfl) ?_
                    refine va_get (D := D) (ci := 1) (v := .ref (a 8)) (C := R_Mo) (T := F_Mo) (N := 26) hx hb hg i_Mo hown hK hP 0 rfl rfl 14 (by decide) (hg _ g_1006) (fun _ h9 => h9) rfl d_Mo_movesFrom_145 ?_
                    refine lv_iload_n hx hb d_Mo_movesFrom_148 rfl (lv_at hl 3 rfl) ?_
                    refine lv_dup2_11 hx hb d_Mo_movesFrom_149 rfl rfl ?_
                    obtain ⟨h_10, hd⟩ := ite_s hd
                    refine ialdK hx hb hK hP 8 0 rfl rfl (inb_t h_10) rfl d_Mo_movesFrom_150 ?_
                    refine lv_aload_n hx hb d_Mo_movesFrom_151 rfl (lv_at hl 0 rfl) ?_
                    refine va_get (D := D) (ci := 1) (v := .ref (a 1)) (C := R_Mo) (T := F_Mo) (N := 26) hx hb hg i_Mo hown hK hP 0 rfl rfl 1 (by decide) (hg _ g_993) (fun _ h9 => h9) rfl d_Mo_movesFrom_152 ?_
                    refine lv_bipush (v := 58) hx hb d_Mo_movesFrom_155 (by decide) ?_
                    refine lv_iload_n hx hb d_Mo_movesFrom_157 rfl (lv_at hl 1 rfl) ?_
                    refine lv_iadd hx hb d_Mo_movesFrom_158 ?_
                    obtain ⟨h_9, hd⟩ := ite_s hd
                    refine ialdK hx hb hK hP 1 0 rfl rfl (inb_t h_9) rfl d_Mo_movesFrom_159 ?_
                    refine lv_isub hx hb d_Mo_movesFrom_160 ?_
                    obtain ⟨h_8, hd⟩ := ite_s hd
                    refine iastK hx hb hK hP hD hS 8 0 rfl rfl (inb_t h_8) rfl d_Mo_movesFrom_161 (fun H locs hP hD hS => ?_)
                    have hP : va_P D classes (ws_Mo g a (u_Mo_loads v_6 (upd (q_Mo_loads v_6) x3_64.toNatClampNeg (((q_Mo_loads v_6) x3_64.toNatClampNeg) - ((q_Mo_s v_6) (58 + x1_f64).toNatClampNeg))))) H := hP
                    have hD : va_D A (ws_Mo g a (u_Mo_loads v_6 (upd (q_Mo_loads v_6) x3_64.toNatClampNeg (((q_Mo_loads v_6) x3_64.toNatClampNeg) - ((q_Mo_s v_6) (58 + x1_f64).toNatClampNeg))))) := hD
                    refine lv_iinc (v := x3_64 + 1) (lv' := [(3, .int (x3_64 + 1)), (0, .ref (a 0)), (1, .int x1_f64), (2, .int x2_f64)]) hx hb d_Mo_movesFrom_162 hl (k := 3) rfl (by rfl) (by decide) rfl (fun ls hl => ?_)
                    refine lv_goto (tgt := 64) hx hb d_Mo_movesFrom_165 (by decide) ?_
                    exact ih64 (x3_64 + 1) (u_Mo_loads v_6 (upd (q_Mo_loads v_6) x3_64.toNatClampNeg (((q_Mo_loads v_6) x3_64.toNatClampNeg) - ((q_Mo_s v_6) (58 + x1_f64).toNatClampNeg)))) _ _ _ hP hD hS (lv_sub hl [1, 2, 3, 0] rfl) hd
                  · have hd := ite_t hd h_5
                    refine lv_iconst (v := 0) hx hb d_Mo_movesFrom_135 (by decide) ?_
                    refine lv_goto (tgt := 140) hx hb d_Mo_movesFrom_136 (by decide) ?_
                    refine lv_iadd hx hb d_Mo_movesFrom_140 ?_
                    obtain ⟨v_11, e_12, hd⟩ := bind_s hd
                    refine callVV (ws' := ws_Mo g a v_11) (rest := []) (As := [.int (x1_f64 + 1), .int (x2_f64 + 0)]) hx hb hml hown hg hK hP hD hS hA hCs hl.1 (ih l D g a (x1_f64 + 1) (x2_f64 + 0) (u_Mo_loads z_64 (upd (q_Mo_loads z_64) x3_64.toNatClampNeg (((q_Mo_loads z_64) x3_64.toNatClampNeg) + ((q_Mo_s z_64) (58 + x1_f64).toNatClampNeg)))) _ e_12) o_Mo_movesFrom g_1270 (ci := 1) (q0 := 0) rfl rfl (List.range' 0 12) (segC1 rfl rfl) (by decide) rfl (segP1 rfl rfl) rfl rfl (Nat.le_of_ble_eq_true rfl) ⟨rfl, rfl, by show _ ≤ _; (try dsimp only); omega, by show _ ≤ _; (try dsimp only); omega⟩ d_Mo_movesFrom_141 (fun H locs hP hD hS => ?_)
                    refine lv_aload_n hx hb d_Mo_movesFrom_144 rfl (lv_at hl 0 rfl) ?_
                    refine va_get (D := D) (ci := 1) (v := .ref (a 8)) (C := R_Mo) (T := F_Mo) (N := 26) hx hb hg i_Mo hown hK hP 0 rfl rfl 14 (by decide) (hg _ g_1006) (fun _ h9 => h9) rfl d_Mo_movesFrom_145 ?_
                    refine lv_iload_n hx hb d_Mo_movesFrom_148 rfl (lv_at hl 3 rfl) ?_
                    refine lv_dup2_11 hx hb d_Mo_movesFrom_149 rfl rfl ?_
                    obtain ⟨h_15, hd⟩ := ite_s hd
                    refine ialdK hx hb hK hP 8 0 rfl rfl (inb_t h_15) rfl d_Mo_movesFrom_150 ?_
                    refine lv_aload_n hx hb d_Mo_movesFrom_151 rfl (lv_at hl 0 rfl) ?_
                    refine va_get (D := D) (ci := 1) (v := .ref (a 1)) (C := R_Mo) (T := F_Mo) (N := 26) hx hb hg i_Mo hown hK hP 0 rfl rfl 1 (by decide) (hg _ g_993) (fun _ h9 => h9) rfl d_Mo_movesFrom_152 ?_
                    refine lv_bipush (v := 58) hx hb d_Mo_movesFrom_155 (by decide) ?_
                    refine lv_iload_n hx hb d_Mo_movesFrom_157 rfl (lv_at hl 1 rfl) ?_
                    refine lv_iadd hx hb d_Mo_movesFrom_158 ?_
                    obtain ⟨h_14, hd⟩ := ite_s hd
                    refine ialdK hx hb hK hP 1 0 rfl rfl (inb_t h_14) rfl d_Mo_movesFrom_159 ?_
                    refine lv_isub hx hb d_Mo_movesFrom_160 ?_
                    obtain ⟨h_13, hd⟩ := ite_s hd
                    refine iastK hx hb hK hP hD hS 8 0 rfl rfl (inb_t h_13) rfl d_Mo_movesFrom_161 (fun H locs hP hD hS => ?_)
                    have hP : va_P D classes (ws_Mo g a (u_Mo_loads v_11 (upd (q_Mo_loads v_11) x3_64.toNatClampNeg (((q_Mo_loads v_11) x3_64.toNatClampNeg) - ((q_Mo_s v_11) (58 + x1_f64).toNatClampNeg))))) H := hP
                    have hD : va_D A (ws_Mo g a (u_Mo_loads v_11 (upd (q_Mo_loads v_11) x3_64.toNatClampNeg (((q_Mo_loads v_11) x3_64.toNatClampNeg) - ((q_Mo_s v_11) (58 + x1_f64).toNatClampNeg))))) := hD
                    refine lv_iinc (v := x3_64 + 1) (lv' := [(3, .int (x3_64 + 1)), (0, .ref (a 0)), (1, .int x1_f64), (2, .int x2_f64)]) hx hb d_Mo_movesFrom_162 hl (k := 3) rfl (by rfl) (by decide) rfl (fun ls hl => ?_)
                    refine lv_goto (tgt := 64) hx hb d_Mo_movesFrom_165 (by decide) ?_
                    exact ih64 (x3_64 + 1) (u_Mo_loads v_11 (upd (q_Mo_loads v_11) x3_64.toNatClampNeg (((q_Mo_loads v_11) x3_64.toNatClampNeg) - ((q_Mo_s v_11) (58 + x1_f64).toNatClampNeg)))) _ _ _ hP hD hS (lv_sub hl [1, 2, 3, 0] rfl) hd
          exact lp64 x1 x2 1000 0 z _ _ _ hP hD hS (lv_sub hl [1, 2, 3, 0] rfl) hd
        · have hd := ite_t hd h_2
          refine lv_aload_n hx hb d_Mo_movesFrom_53 rfl (lv_at hl 0 rfl) ?_
          refine lv_iload_n hx hb d_Mo_movesFrom_54 rfl (lv_at hl 1 rfl) ?_
          refine lv_iconst (v := 1) hx hb d_Mo_movesFrom_55 (by decide) ?_
          refine lv_iadd hx hb d_Mo_movesFrom_56 ?_
          refine lv_iload_n hx hb d_Mo_movesFrom_57 rfl (lv_at hl 2 rfl) ?_
          obtain ⟨v_23, e_24, hd⟩ := bind_s hd
          refine callVV (ws' := ws_Mo g a v_23) (rest := []) (As := [.int (x1 + 1), .int x2]) hx hb hml hown hg hK hP hD hS hA hCs hl.1 (ih l D g a (x1 + 1) x2 z _ e_24) o_Mo_movesFrom g_1270 (ci := 1) (q0 := 0) rfl rfl (List.range' 0 12) (segC1 rfl rfl) (by decide) rfl (segP1 rfl rfl) rfl rfl (Nat.le_of_ble_eq_true rfl) ⟨rfl, rfl, by show _ ≤ _; (try dsimp only); omega, by show _ ≤ _; (try dsimp only); omega⟩ d_Mo_movesFrom_58 (fun H locs hP hD hS => ?_)
          obtain rfl := Option.some.inj hd
          exact retV hx hb hr hlk hK hP hD hS d_Mo_movesFrom_61
      · have hd := ite_t hd h_1
        refine lv_aload_n hx hb d_Mo_movesFrom_10 rfl (lv_at hl 0 rfl) ?_
        refine lv_aload_n hx hb d_Mo_movesFrom_11 rfl (lv_at hl 0 rfl) ?_
        refine va_get (D := D) (ci := 1) (v := .int (q_Mo_fewest z)) (C := R_Mo) (T := F_Mo) (N := 26) hx hb hg i_Mo hown hK hP 0 rfl rfl 19 (by decide) (hg _ g_1011) (fun _ h9 => h9) rfl d_Mo_movesFrom_12 ?_
        refine lv_bipush (v := (-5)) hx hb d_Mo_movesFrom_15 (by decide) ?_
        refine lv_icmp_eq (tgt := 28) hx hb d_Mo_movesFrom_17 (by decide) (fun h_26 => ?_) (fun h_26 => ?_)
        · have hd := ite_t hd h_26
          refine lv_iload_n hx hb d_Mo_movesFrom_28 rfl (lv_at hl 2 rfl) ?_
          refine lv_goto (tgt := 36) hx hb d_Mo_movesFrom_29 (by decide) ?_
          refine va_put (D := D) (ci := 1) (v := .int x2) (ty := .int) (C := R_Mo) (T := F_Mo) (N := 26) hx hb hg i_Mo t_Mo t_Mo_ok n_Mo hown hK hP hD hS 0 rfl rfl 19 (by decide) (hg _ g_1011) (fun _ h9 => h9) rfl (by decide +kernel) rfl rfl (Nat.le_of_ble_eq_true rfl) d_Mo_movesFrom_36 (fun H locs hP hD hS => ?_)
          have hP : va_P D classes (ws_Mo g a (u_Mo_fewest z x2)) H := hP
          have hD : va_D A (ws_Mo g a (u_Mo_fewest z x2)) := hD
          obtain rfl := Option.some.inj hd
          exact retV hx hb hr hlk hK hP hD hS d_Mo_movesFrom_39
        · have hd := ite_f hd h_26
          refine lv_iload_n hx hb d_Mo_movesFrom_20 rfl (lv_at hl 2 rfl) ?_
          refine lv_aload_n hx hb d_Mo_movesFrom_21 rfl (lv_at hl 0 rfl) ?_
          refine va_get (D := D) (ci := 1) (v := .int (q_Mo_fewest z)) (C := R_Mo) (T := F_Mo) (N := 26) hx hb hg i_Mo hown hK hP 0 rfl rfl 19 (by decide) (hg _ g_1011) (fun _ h9 => h9) rfl d_Mo_movesFrom_22 ?_
          refine lv_icmp_ge (tgt := 32) hx hb d_Mo_movesFrom_25 (by decide) (fun h_27 => ?_) (fun h_27 => ?_)
          · have hd := ite_t hd h_27
            refine lv_aload_n hx hb d_Mo_movesFrom_32 rfl (lv_at hl 0 rfl) ?_
            refine va_get (D := D) (ci := 1) (v := .int (q_Mo_fewest z)) (C := R_Mo) (T := F_Mo) (N := 26) hx hb hg i_Mo hown hK hP 0 rfl rfl 19 (by decide) (hg _ g_1011) (fun _ h9 => h9) rfl d_Mo_movesFrom_33 ?_
            refine va_put (D := D) (ci := 1) (v := .int (q_Mo_fewest z)) (ty := .int) (C := R_Mo) (T := F_Mo) (N := 26) hx hb hg i_Mo t_Mo t_Mo_ok n_Mo hown hK hP hD hS 0 rfl rfl 19 (by decide) (hg _ g_1011) (fun _ h9 => h9) rfl (by decide +kernel) rfl rfl (Nat.le_of_ble_eq_true rfl) d_Mo_movesFrom_36 (fun H locs hP hD hS => ?_)
            have hP : va_P D classes (ws_Mo g a z) H := hP
            have hD : va_D A (ws_Mo g a z) := hD
            obtain rfl := Option.some.inj hd
            exact retV hx hb hr hlk hK hP hD hS d_Mo_movesFrom_39
          · have hd := ite_f hd h_27
            refine lv_iload_n hx hb d_Mo_movesFrom_28 rfl (lv_at hl 2 rfl) ?_
            refine lv_goto (tgt := 36) hx hb d_Mo_movesFrom_29 (by decide) ?_
            refine va_put (D := D) (ci := 1) (v := .int x2) (ty := .int) (C := R_Mo) (T := F_Mo) (N := 26) hx hb hg i_Mo t_Mo t_Mo_ok n_Mo hown hK hP hD hS 0 rfl rfl 19 (by decide) (hg _ g_1011) (fun _ h9 => h9) rfl (by decide +kernel) rfl rfl (Nat.le_of_ble_eq_true rfl) d_Mo_movesFrom_36 (fun H locs hP hD hS => ?_)
            have hP : va_P D classes (ws_Mo g a (u_Mo_fewest z x2)) H := hP
            have hD : va_D A (ws_Mo g a (u_Mo_fewest z x2)) := hD
            obtain rfl := Option.some.inj hd
            exact retV hx hb hr hlk hK hP hD hS d_Mo_movesFrom_39
theorem c_Mo_movesFrom (n : Nat) (l : Launch) (D : va_G) (g : Nat → ClassId) (a : Nat → Nat) (x1 : Int32) (x2 : Int32) (z : T_Mo) (v : T_Mo) (h : d_Mo_movesFrom n x1 x2 z = some v) :
    MV l y_Mo_movesFrom b_Mo_movesFrom 4 ({ frames := 1 + 2 * n, cells := 0, slots := 0, locals := 1 + 60 * n } : Room) D g [.ref (a 0), .int x1, .int x2] (ws_Mo g a z) (ws_Mo g a v) := (cg_Mo_movesFrom n) l D g a x1 x2 z v h
-- OwnsLiftModel.moved()I
def d_Mo_moved (z : T_Mo) : Option (Int32 × T_Mo) :=
  (d_Mo_begins z).bind fun v_1 => (d_Mo_movesFrom 64 0 0 v_1).bind fun v_3 => some ((q_Mo_fewest v_3), v_3)
theorem d_Mo_moved_0 : decode b_Mo_moved 0 = .ok (.aload_n 0, 1) := by decide +kernel
theorem d_Mo_moved_1 : decode b_Mo_moved 1 = .ok (.invokevirtual 197, 3) := by decide +kernel
theorem d_Mo_moved_4 : decode b_Mo_moved 4 = .ok (.aload_n 0, 1) := by decide +kernel
theorem d_Mo_moved_5 : decode b_Mo_moved 5 = .ok (.iconst 0, 1) := by decide +kernel
theorem d_Mo_moved_6 : decode b_Mo_moved 6 = .ok (.iconst 0, 1) := by decide +kernel
theorem d_Mo_moved_7 : decode b_Mo_moved 7 = .ok (.invokevirtual 200, 3) := by decide +kernel
theorem d_Mo_moved_10 : decode b_Mo_moved 10 = .ok (.aload_n 0, 1) := by decide +kernel
theorem d_Mo_moved_11 : decode b_Mo_moved 11 = .ok (.getfield 190, 3) := by decide +kernel
theorem d_Mo_moved_14 : decode b_Mo_moved 14 = .ok (.ireturn, 1) := by decide +kernel
theorem o_Mo_moved : OkV y_Mo_moved "OwnsLiftModel" b_Mo_moved 1 (some .int) 0 := ⟨⟨rfl, by decide +kernel, by decide +kernel, by decide +kernel⟩, g_1267, g_1268, g_81, g_1269⟩
set_option maxHeartbeats 4000000 in
set_option maxRecDepth 100000 in
theorem c_Mo_moved (l : Launch) (D : va_G) (g : Nat → ClassId) (a : Nat → Nat) (z : T_Mo) (v : Int32 × T_Mo) (h : d_Mo_moved z = some v) :
    MI l y_Mo_moved b_Mo_moved 1 .int ({ frames := 130, cells := 0, slots := 0, locals := 3864 } : Room) D g [.ref (a 0)] (ws_Mo g a z) (v.1) (ws_Mo g a v.2) := by
  have hd := h
  unfold d_Mo_moved at hd
  refine enterI rfl (Nat.le_of_ble_eq_true rfl) (fun p e s m below meth c A ls hx hb hml hr hown hg hlk hK hA hP hD hS hCs hl => ?_)
  have hown : s.vm.findClass "OwnsLiftModel" = some m.cls := hown
  have hl : lv_has ls 1 [(0, .ref (a 0))] := hl
  show GI p l e s m ({ frames := 130, cells := 0, slots := 0, locals := 3864 } : Room) ([.ref (a 0)] : List Value).toArray below meth c A D g (ws_Mo g a v.2) (v.1) s.heap [] (F0 m 0 ls [])
  refine lv_aload_n hx hb d_Mo_moved_0 rfl (lv_at hl 0 rfl) ?_
  obtain ⟨v_1, e_2, hd⟩ := bind_s hd
  refine callVV (ws' := ws_Mo g a v_1) (rest := []) (As := []) hx hb hml hown hg hK hP hD hS hA hCs hl.1 (c_Mo_begins l D g a z _ e_2) o_Mo_begins g_1250 (ci := 1) (q0 := 0) rfl rfl (List.range' 0 12) (segC1 rfl rfl) (by decide) rfl (segP1 rfl rfl) rfl rfl (Nat.le_of_ble_eq_true rfl) ⟨rfl, rfl, Nat.le_of_ble_eq_true rfl, Nat.le_of_ble_eq_true rfl⟩ d_Mo_moved_1 (fun H locs hP hD hS => ?_)
  refine lv_aload_n hx hb d_Mo_moved_4 rfl (lv_at hl 0 rfl) ?_
  refine lv_iconst (v := 0) hx hb d_Mo_moved_5 (by decide) ?_
  refine lv_iconst (v := 0) hx hb d_Mo_moved_6 (by decide) ?_
  obtain ⟨v_3, e_4, hd⟩ := bind_s hd
  refine callVV (ws' := ws_Mo g a v_3) (rest := []) (As := [.int 0, .int 0]) hx hb hml hown hg hK hP hD hS hA hCs hl.1 (c_Mo_movesFrom 64 l D g a 0 0 v_1 _ e_4) o_Mo_movesFrom g_1270 (ci := 1) (q0 := 0) rfl rfl (List.range' 0 12) (segC1 rfl rfl) (by decide) rfl (segP1 rfl rfl) rfl rfl (Nat.le_of_ble_eq_true rfl) ⟨rfl, rfl, Nat.le_of_ble_eq_true rfl, Nat.le_of_ble_eq_true rfl⟩ d_Mo_moved_7 (fun H locs hP hD hS => ?_)
  refine lv_aload_n hx hb d_Mo_moved_10 rfl (lv_at hl 0 rfl) ?_
  refine va_get (D := D) (ci := 1) (v := .int (q_Mo_fewest v_3)) (C := R_Mo) (T := F_Mo) (N := 26) hx hb hg i_Mo hown hK hP 0 rfl rfl 19 (by decide) (hg _ g_1011) (fun _ h9 => h9) rfl d_Mo_moved_11 ?_
  obtain rfl := Option.some.inj hd
  exact retI hx hb hr hlk hK hP hD hS d_Mo_moved_14 rfl
-- OwnsLiftModel.weightsOf(I)I
def B_Mo_weightsOf_L4 (x1_f4 : Int32) (z : T_Mo) (self4 : Int32 → Int32 → Option (Int32)) (x2_4 : Int32) (x3_4 : Int32) : Option (Int32) :=
  if ((q_Mo_s z) 1) ≤ x3_4 then (some (x2_4)) else (if ((x1_f4 >>> (x3_4 &&& 31)) &&& 1) = 1 then (if inb (58 + x3_4) 901 = true then (self4 (x2_4 + ((q_Mo_s z) (58 + x3_4).toNatClampNeg)) (x3_4 + 1)) else none) else (self4 (x2_4 + 0) (x3_4 + 1)))
def d_Mo_weightsOf_L4 (x1_f4 : Int32) (z : T_Mo) (n : Nat) : Int32 → Int32 → Option (Int32) := recN (fun _ _ => none) (fun self => B_Mo_weightsOf_L4 x1_f4 z self) n
def d_Mo_weightsOf (x1 : Int32) (z : T_Mo) : Option (Int32) :=
  d_Mo_weightsOf_L4 x1 z  1000 0 0
theorem d_Mo_weightsOf_0 : decode b_Mo_weightsOf 0 = .ok (.iconst 0, 1) := by decide +kernel
theorem d_Mo_weightsOf_1 : decode b_Mo_weightsOf 1 = .ok (.istore_n 2, 1) := by decide +kernel
theorem d_Mo_weightsOf_2 : decode b_Mo_weightsOf 2 = .ok (.iconst 0, 1) := by decide +kernel
theorem d_Mo_weightsOf_3 : decode b_Mo_weightsOf 3 = .ok (.istore_n 3, 1) := by decide +kernel
theorem d_Mo_weightsOf_4 : decode b_Mo_weightsOf 4 = .ok (.iload_n 3, 1) := by decide +kernel
theorem d_Mo_weightsOf_5 : decode b_Mo_weightsOf 5 = .ok (.aload_n 0, 1) := by decide +kernel
theorem d_Mo_weightsOf_6 : decode b_Mo_weightsOf 6 = .ok (.getfield 9, 3) := by decide +kernel
theorem d_Mo_weightsOf_9 : decode b_Mo_weightsOf 9 = .ok (.iconst 1, 1) := by decide +kernel
theorem d_Mo_weightsOf_10 : decode b_Mo_weightsOf 10 = .ok (.iaload, 1) := by decide +kernel
theorem d_Mo_weightsOf_11 : decode b_Mo_weightsOf 11 = .ok (.if_icmp .ge 34, 3) := by decide +kernel
theorem d_Mo_weightsOf_14 : decode b_Mo_weightsOf 14 = .ok (.iload_n 2, 1) := by decide +kernel
theorem d_Mo_weightsOf_15 : decode b_Mo_weightsOf 15 = .ok (.iload_n 1, 1) := by decide +kernel
theorem d_Mo_weightsOf_16 : decode b_Mo_weightsOf 16 = .ok (.iload_n 3, 1) := by decide +kernel
theorem d_Mo_weightsOf_17 : decode b_Mo_weightsOf 17 = .ok (.ishr, 1) := by decide +kernel
theorem d_Mo_weightsOf_18 : decode b_Mo_weightsOf 18 = .ok (.iconst 1, 1) := by decide +kernel
theorem d_Mo_weightsOf_19 : decode b_Mo_weightsOf 19 = .ok (.iand, 1) := by decide +kernel
theorem d_Mo_weightsOf_20 : decode b_Mo_weightsOf 20 = .ok (.iconst 1, 1) := by decide +kernel
theorem d_Mo_weightsOf_21 : decode b_Mo_weightsOf 21 = .ok (.if_icmp .ne 15, 3) := by decide +kernel
theorem d_Mo_weightsOf_24 : decode b_Mo_weightsOf 24 = .ok (.aload_n 0, 1) := by decide +kernel
theorem d_Mo_weightsOf_25 : decode b_Mo_weightsOf 25 = .ok (.getfield 9, 3) := by decide +kernel
theorem d_Mo_weightsOf_28 : decode b_Mo_weightsOf 28 = .ok (.bipush 58, 2) := by decide +kernel
theorem d_Mo_weightsOf_30 : decode b_Mo_weightsOf 30 = .ok (.iload_n 3, 1) := by decide +kernel
theorem d_Mo_weightsOf_31 : decode b_Mo_weightsOf 31 = .ok (.iadd, 1) := by decide +kernel
theorem d_Mo_weightsOf_32 : decode b_Mo_weightsOf 32 = .ok (.iaload, 1) := by decide +kernel
theorem d_Mo_weightsOf_33 : decode b_Mo_weightsOf 33 = .ok (.goto 4, 3) := by decide +kernel
theorem d_Mo_weightsOf_36 : decode b_Mo_weightsOf 36 = .ok (.iconst 0, 1) := by decide +kernel
theorem d_Mo_weightsOf_37 : decode b_Mo_weightsOf 37 = .ok (.iadd, 1) := by decide +kernel
theorem d_Mo_weightsOf_38 : decode b_Mo_weightsOf 38 = .ok (.istore_n 2, 1) := by decide +kernel
theorem d_Mo_weightsOf_39 : decode b_Mo_weightsOf 39 = .ok (.iinc 3 1, 3) := by decide +kernel
theorem d_Mo_weightsOf_42 : decode b_Mo_weightsOf 42 = .ok (.goto (-38), 3) := by decide +kernel
theorem d_Mo_weightsOf_45 : decode b_Mo_weightsOf 45 = .ok (.iload_n 2, 1) := by decide +kernel
theorem d_Mo_weightsOf_46 : decode b_Mo_weightsOf 46 = .ok (.ireturn, 1) := by decide +kernel
theorem o_Mo_weightsOf : OkV y_Mo_weightsOf "OwnsLiftModel" b_Mo_weightsOf 4 (some .int) 1 := ⟨⟨rfl, by decide +kernel, by decide +kernel, by decide +kernel⟩, g_1280, g_56, g_81, g_1281⟩
set_option maxHeartbeats 4000000 in
set_option maxRecDepth 100000 in
theorem c_Mo_weightsOf (l : Launch) (D : va_G) (g : Nat → ClassId) (a : Nat → Nat) (x1 : Int32) (z : T_Mo) (v : Int32) (h : d_Mo_weightsOf x1 z = some v) :
    MI l y_Mo_weightsOf b_Mo_weightsOf 4 .int ({ frames := 0, cells := 0, slots := 0, locals := 0 } : Room) D g [.ref (a 0), .int x1] (ws_Mo g a z) (v) (ws_Mo g a z) := by
  have hd := h
  unfold d_Mo_weightsOf at hd
  refine enterI rfl (Nat.le_of_ble_eq_true rfl) (fun p e s m below meth c A ls hx hb hml hr hown hg hlk hK hA hP hD hS hCs hl => ?_)
  have hown : s.vm.findClass "OwnsLiftModel" = some m.cls := hown
  have hl : lv_has ls 4 [(0, .ref (a 0)), (1, .int x1)] := hl
  show GI p l e s m ({ frames := 0, cells := 0, slots := 0, locals := 0 } : Room) ([.ref (a 0), .int x1] : List Value).toArray below meth c A D g (ws_Mo g a z) (v) s.heap [] (F0 m 0 ls [])
  refine lv_iconst (v := 0) hx hb d_Mo_weightsOf_0 (by decide) ?_
  refine lv_istore_n (lv' := [(2, .int 0), (0, .ref (a 0)), (1, .int x1)]) hx hb d_Mo_weightsOf_1 rfl hl (by decide) rfl (fun ls hl => ?_)
  refine lv_iconst (v := 0) hx hb d_Mo_weightsOf_2 (by decide) ?_
  refine lv_istore_n (lv' := [(3, .int 0), (2, .int 0), (0, .ref (a 0)), (1, .int x1)]) hx hb d_Mo_weightsOf_3 rfl hl (by decide) rfl (fun ls hl => ?_)
  have lp4 : ∀ (x1_f4 : Int32) (n : Nat) (x2_4 : Int32) (x3_4 : Int32) (H : Heap) (locs : List Loc) (ls : Array Slot), va_P D classes (ws_Mo g a z) H → va_D A (ws_Mo g a z) → va_S A s.heap H locs → lv_has ls 4 [(0, .ref (a 0)), (1, .int x1_f4), (2, .int x2_4), (3, .int x3_4)] → d_Mo_weightsOf_L4 x1_f4 z n x2_4 x3_4 = some v → GI p l e s m ({ frames := 0, cells := 0, slots := 0, locals := 0 } : Room) ([.ref (a 0), .int x1] : List Value).toArray below meth c A D g (ws_Mo g a z) (v) H locs (F0 m 4 ls []) := by
    intro x1_f4 n
    induction n with
    | zero =>
      intro  x2_4 x3_4 H locs ls hP hD hS hl hd
      have hd : none = some v := hd
      cases hd
    | succ n ih4 =>
      intro  x2_4 x3_4 H locs ls hP hD hS hl hd
      have hd : B_Mo_weightsOf_L4 x1_f4 z (d_Mo_weightsOf_L4 x1_f4 z n) x2_4 x3_4 = some v := hd
      generalize d_Mo_weightsOf_L4 x1_f4 z n = self4 at ih4 hd
      unfold B_Mo_weightsOf_L4 at hd
      refine lv_iload_n hx hb d_Mo_weightsOf_4 rfl (lv_at hl 3 rfl) ?_
      refine lv_aload_n hx hb d_Mo_weightsOf_5 rfl (lv_at hl 0 rfl) ?_
      refine va_get (D := D) (ci := 1) (v := .ref (a 1)) (C := R_Mo) (T := F_Mo) (N := 26) hx hb hg i_Mo hown hK hP 0 rfl rfl 1 (by decide) (hg _ g_993) (fun _ h9 => h9) rfl d_Mo_weightsOf_6 ?_
      refine lv_iconst (v := 1) hx hb d_Mo_weightsOf_9 (by decide) ?_
      refine ialdK hx hb hK hP 1 0 rfl rfl (inb_t (by decide +kernel)) (k := 1) (by decide +kernel) d_Mo_weightsOf_10 ?_
      refine lv_icmp_ge (tgt := 45) hx hb d_Mo_weightsOf_11 (by decide) (fun h_1 => ?_) (fun h_1 => ?_)
      · have hd := ite_t hd h_1
        refine lv_iload_n hx hb d_Mo_weightsOf_45 rfl (lv_at hl 2 rfl) ?_
        obtain rfl := Option.some.inj hd
        exact retI hx hb hr hlk hK hP hD hS d_Mo_weightsOf_46 rfl
      · have hd := ite_f hd h_1
        refine lv_iload_n hx hb d_Mo_weightsOf_14 rfl (lv_at hl 2 rfl) ?_
        refine lv_iload_n hx hb d_Mo_weightsOf_15 rfl (lv_at hl 1 rfl) ?_
        refine lv_iload_n hx hb d_Mo_weightsOf_16 rfl (lv_at hl 3 rfl) ?_
        refine lv_ishr hx hb d_Mo_weightsOf_17 ?_
        refine lv_iconst (v := 1) hx hb d_Mo_weightsOf_18 (by decide) ?_
        refine lv_iand hx hb d_Mo_weightsOf_19 ?_
        refine lv_iconst (v := 1) hx hb d_Mo_weightsOf_20 (by decide) ?_
        refine lv_icmp_ne (tgt := 36) hx hb d_Mo_weightsOf_21 (by decide) (fun h_2 => ?_) (fun h_2 => ?_)
        · have hd := ite_f hd h_2
          refine lv_iconst (v := 0) hx hb d_Mo_weightsOf_36 (by decide) ?_
          refine lv_iadd hx hb d_Mo_weightsOf_37 ?_
          refine lv_istore_n (lv' := [(2, .int (x2_4 + 0)), (0, .ref (a 0)), (1, .int x1_f4), (3, .int x3_4)]) hx hb d_Mo_weightsOf_38 rfl hl (by decide) rfl (fun ls hl => ?_)
          refine lv_iinc (v := x3_4 + 1) (lv' := [(3, .int (x3_4 + 1)), (2, .int (x2_4 + 0)), (0, .ref (a 0)), (1, .int x1_f4)]) hx hb d_Mo_weightsOf_39 hl (k := 3) rfl (by rfl) (by decide) rfl (fun ls hl => ?_)
          refine lv_goto (tgt := 4) hx hb d_Mo_weightsOf_42 (by decide) ?_
          exact ih4 (x2_4 + 0) (x3_4 + 1) _ _ _ hP hD hS (lv_sub hl [2, 3, 1, 0] rfl) hd
        · have hd := ite_t hd h_2
          refine lv_aload_n hx hb d_Mo_weightsOf_24 rfl (lv_at hl 0 rfl) ?_
          refine va_get (D := D) (ci := 1) (v := .ref (a 1)) (C := R_Mo) (T := F_Mo) (N := 26) hx hb hg i_Mo hown hK hP 0 rfl rfl 1 (by decide) (hg _ g_993) (fun _ h9 => h9) rfl d_Mo_weightsOf_25 ?_
          refine lv_bipush (v := 58) hx hb d_Mo_weightsOf_28 (by decide) ?_
          refine lv_iload_n hx hb d_Mo_weightsOf_30 rfl (lv_at hl 3 rfl) ?_
          refine lv_iadd hx hb d_Mo_weightsOf_31 ?_
          obtain ⟨h_3, hd⟩ := ite_s hd
          refine ialdK hx hb hK hP 1 0 rfl rfl (inb_t h_3) rfl d_Mo_weightsOf_32 ?_
          refine lv_goto (tgt := 37) hx hb d_Mo_weightsOf_33 (by decide) ?_
          refine lv_iadd hx hb d_Mo_weightsOf_37 ?_
          refine lv_istore_n (lv' := [(2, .int (x2_4 + ((q_Mo_s z) (58 + x3_4).toNatClampNeg))), (0, .ref (a 0)), (1, .int x1_f4), (3, .int x3_4)]) hx hb d_Mo_weightsOf_38 rfl hl (by decide) rfl (fun ls hl => ?_)
          refine lv_iinc (v := x3_4 + 1) (lv' := [(3, .int (x3_4 + 1)), (2, .int (x2_4 + ((q_Mo_s z) (58 + x3_4).toNatClampNeg))), (0, .ref (a 0)), (1, .int x1_f4)]) hx hb d_Mo_weightsOf_39 hl (k := 3) rfl (by rfl) (by decide) rfl (fun ls hl => ?_)
          refine lv_goto (tgt := 4) hx hb d_Mo_weightsOf_42 (by decide) ?_
          exact ih4 (x2_4 + ((q_Mo_s z) (58 + x3_4).toNatClampNeg)) (x3_4 + 1) _ _ _ hP hD hS (lv_sub hl [2, 3, 1, 0] rfl) hd
  exact lp4 x1 1000 0 0 _ _ _ hP hD hS (lv_sub hl [2, 3, 1, 0] rfl) hd
-- OwnsLiftModel.likesOf(II)I
def B_Mo_likesOf_L5 (x1_f5 : Int32) (x2_f5 : Int32) (z : T_Mo) (self5 : Int32 → Int32 → Option (Int32)) (x3_5 : Int32) (x4_5 : Int32) : Option (Int32) :=
  if ((q_Mo_s z) 1) ≤ x4_5 then (some (x3_5)) else (if ((x2_f5 >>> (x4_5 &&& 31)) &&& 1) = 1 then (if inb ((7 * x1_f5) + x4_5) 28 = true then (self5 (x3_5 + ((q_Mo_likes z) ((7 * x1_f5) + x4_5).toNatClampNeg)) (x4_5 + 1)) else none) else (self5 (x3_5 + 0) (x4_5 + 1)))
def d_Mo_likesOf_L5 (x1_f5 : Int32) (x2_f5 : Int32) (z : T_Mo) (n : Nat) : Int32 → Int32 → Option (Int32) := recN (fun _ _ => none) (fun self => B_Mo_likesOf_L5 x1_f5 x2_f5 z self) n
def d_Mo_likesOf (x1 : Int32) (x2 : Int32) (z : T_Mo) : Option (Int32) :=
  d_Mo_likesOf_L5 x1 x2 z  1000 0 0
theorem d_Mo_likesOf_0 : decode b_Mo_likesOf 0 = .ok (.iconst 0, 1) := by decide +kernel
theorem d_Mo_likesOf_1 : decode b_Mo_likesOf 1 = .ok (.istore_n 3, 1) := by decide +kernel
theorem d_Mo_likesOf_2 : decode b_Mo_likesOf 2 = .ok (.iconst 0, 1) := by decide +kernel
theorem d_Mo_likesOf_3 : decode b_Mo_likesOf 3 = .ok (.istore 4, 2) := by decide +kernel
theorem d_Mo_likesOf_5 : decode b_Mo_likesOf 5 = .ok (.iload 4, 2) := by decide +kernel
theorem d_Mo_likesOf_7 : decode b_Mo_likesOf 7 = .ok (.aload_n 0, 1) := by decide +kernel
theorem d_Mo_likesOf_8 : decode b_Mo_likesOf 8 = .ok (.getfield 9, 3) := by decide +kernel
theorem d_Mo_likesOf_11 : decode b_Mo_likesOf 11 = .ok (.iconst 1, 1) := by decide +kernel
theorem d_Mo_likesOf_12 : decode b_Mo_likesOf 12 = .ok (.iaload, 1) := by decide +kernel
theorem d_Mo_likesOf_13 : decode b_Mo_likesOf 13 = .ok (.if_icmp .ge 38, 3) := by decide +kernel
theorem d_Mo_likesOf_16 : decode b_Mo_likesOf 16 = .ok (.iload_n 3, 1) := by decide +kernel
theorem d_Mo_likesOf_17 : decode b_Mo_likesOf 17 = .ok (.iload_n 2, 1) := by decide +kernel
theorem d_Mo_likesOf_18 : decode b_Mo_likesOf 18 = .ok (.iload 4, 2) := by decide +kernel
theorem d_Mo_likesOf_20 : decode b_Mo_likesOf 20 = .ok (.ishr, 1) := by decide +kernel
theorem d_Mo_likesOf_21 : decode b_Mo_likesOf 21 = .ok (.iconst 1, 1) := by decide +kernel
theorem d_Mo_likesOf_22 : decode b_Mo_likesOf 22 = .ok (.iand, 1) := by decide +kernel
theorem d_Mo_likesOf_23 : decode b_Mo_likesOf 23 = .ok (.iconst 1, 1) := by decide +kernel
theorem d_Mo_likesOf_24 : decode b_Mo_likesOf 24 = .ok (.if_icmp .ne 18, 3) := by decide +kernel
theorem d_Mo_likesOf_27 : decode b_Mo_likesOf 27 = .ok (.aload_n 0, 1) := by decide +kernel
theorem d_Mo_likesOf_28 : decode b_Mo_likesOf 28 = .ok (.getfield 28, 3) := by decide +kernel
theorem d_Mo_likesOf_31 : decode b_Mo_likesOf 31 = .ok (.bipush 7, 2) := by decide +kernel
theorem d_Mo_likesOf_33 : decode b_Mo_likesOf 33 = .ok (.iload_n 1, 1) := by decide +kernel
theorem d_Mo_likesOf_34 : decode b_Mo_likesOf 34 = .ok (.imul, 1) := by decide +kernel
theorem d_Mo_likesOf_35 : decode b_Mo_likesOf 35 = .ok (.iload 4, 2) := by decide +kernel
theorem d_Mo_likesOf_37 : decode b_Mo_likesOf 37 = .ok (.iadd, 1) := by decide +kernel
theorem d_Mo_likesOf_38 : decode b_Mo_likesOf 38 = .ok (.iaload, 1) := by decide +kernel
theorem d_Mo_likesOf_39 : decode b_Mo_likesOf 39 = .ok (.goto 4, 3) := by decide +kernel
theorem d_Mo_likesOf_42 : decode b_Mo_likesOf 42 = .ok (.iconst 0, 1) := by decide +kernel
theorem d_Mo_likesOf_43 : decode b_Mo_likesOf 43 = .ok (.iadd, 1) := by decide +kernel
theorem d_Mo_likesOf_44 : decode b_Mo_likesOf 44 = .ok (.istore_n 3, 1) := by decide +kernel
theorem d_Mo_likesOf_45 : decode b_Mo_likesOf 45 = .ok (.iinc 4 1, 3) := by decide +kernel
theorem d_Mo_likesOf_48 : decode b_Mo_likesOf 48 = .ok (.goto (-43), 3) := by decide +kernel
theorem d_Mo_likesOf_51 : decode b_Mo_likesOf 51 = .ok (.iload_n 3, 1) := by decide +kernel
theorem d_Mo_likesOf_52 : decode b_Mo_likesOf 52 = .ok (.ireturn, 1) := by decide +kernel
theorem o_Mo_likesOf : OkV y_Mo_likesOf "OwnsLiftModel" b_Mo_likesOf 5 (some .int) 2 := ⟨⟨rfl, by decide +kernel, by decide +kernel, by decide +kernel⟩, g_1284, g_57, g_81, g_1285⟩
set_option maxHeartbeats 4000000 in
set_option maxRecDepth 100000 in
theorem c_Mo_likesOf (l : Launch) (D : va_G) (g : Nat → ClassId) (a : Nat → Nat) (x1 : Int32) (x2 : Int32) (z : T_Mo) (v : Int32) (h : d_Mo_likesOf x1 x2 z = some v) :
    MI l y_Mo_likesOf b_Mo_likesOf 5 .int ({ frames := 0, cells := 0, slots := 0, locals := 0 } : Room) D g [.ref (a 0), .int x1, .int x2] (ws_Mo g a z) (v) (ws_Mo g a z) := by
  have hd := h
  unfold d_Mo_likesOf at hd
  refine enterI rfl (Nat.le_of_ble_eq_true rfl) (fun p e s m below meth c A ls hx hb hml hr hown hg hlk hK hA hP hD hS hCs hl => ?_)
  have hown : s.vm.findClass "OwnsLiftModel" = some m.cls := hown
  have hl : lv_has ls 5 [(0, .ref (a 0)), (1, .int x1), (2, .int x2)] := hl
  show GI p l e s m ({ frames := 0, cells := 0, slots := 0, locals := 0 } : Room) ([.ref (a 0), .int x1, .int x2] : List Value).toArray below meth c A D g (ws_Mo g a z) (v) s.heap [] (F0 m 0 ls [])
  refine lv_iconst (v := 0) hx hb d_Mo_likesOf_0 (by decide) ?_
  refine lv_istore_n (lv' := [(3, .int 0), (0, .ref (a 0)), (1, .int x1), (2, .int x2)]) hx hb d_Mo_likesOf_1 rfl hl (by decide) rfl (fun ls hl => ?_)
  refine lv_iconst (v := 0) hx hb d_Mo_likesOf_2 (by decide) ?_
  refine lv_istore (lv' := [(4, .int 0), (3, .int 0), (0, .ref (a 0)), (1, .int x1), (2, .int x2)]) hx hb d_Mo_likesOf_3 hl (by decide) rfl (fun ls hl => ?_)
  have lp5 : ∀ (x1_f5 : Int32) (x2_f5 : Int32) (n : Nat) (x3_5 : Int32) (x4_5 : Int32) (H : Heap) (locs : List Loc) (ls : Array Slot), va_P D classes (ws_Mo g a z) H → va_D A (ws_Mo g a z) → va_S A s.heap H locs → lv_has ls 5 [(0, .ref (a 0)), (1, .int x1_f5), (2, .int x2_f5), (3, .int x3_5), (4, .int x4_5)] → d_Mo_likesOf_L5 x1_f5 x2_f5 z n x3_5 x4_5 = some v → GI p l e s m ({ frames := 0, cells := 0, slots := 0, locals := 0 } : Room) ([.ref (a 0), .int x1, .int x2] : List Value).toArray below meth c A D g (ws_Mo g a z) (v) H locs (F0 m 5 ls []) := by
    intro x1_f5 x2_f5 n
    induction n with
    | zero =>
      intro  x3_5 x4_5 H locs ls hP hD hS hl hd
      have hd : none = some v := hd
      cases hd
    | succ n ih5 =>
      intro  x3_5 x4_5 H locs ls hP hD hS hl hd
      have hd : B_Mo_likesOf_L5 x1_f5 x2_f5 z (d_Mo_likesOf_L5 x1_f5 x2_f5 z n) x3_5 x4_5 = some v := hd
      generalize d_Mo_likesOf_L5 x1_f5 x2_f5 z n = self5 at ih5 hd
      unfold B_Mo_likesOf_L5 at hd
      refine lv_iload hx hb d_Mo_likesOf_5 (lv_at hl 4 rfl) ?_
      refine lv_aload_n hx hb d_Mo_likesOf_7 rfl (lv_at hl 0 rfl) ?_
      refine va_get (D := D) (ci := 1) (v := .ref (a 1)) (C := R_Mo) (T := F_Mo) (N := 26) hx hb hg i_Mo hown hK hP 0 rfl rfl 1 (by decide) (hg _ g_993) (fun _ h9 => h9) rfl d_Mo_likesOf_8 ?_
      refine lv_iconst (v := 1) hx hb d_Mo_likesOf_11 (by decide) ?_
      refine ialdK hx hb hK hP 1 0 rfl rfl (inb_t (by decide +kernel)) (k := 1) (by decide +kernel) d_Mo_likesOf_12 ?_
      refine lv_icmp_ge (tgt := 51) hx hb d_Mo_likesOf_13 (by decide) (fun h_1 => ?_) (fun h_1 => ?_)
      · have hd := ite_t hd h_1
        refine lv_iload_n hx hb d_Mo_likesOf_51 rfl (lv_at hl 3 rfl) ?_
        obtain rfl := Option.some.inj hd
        exact retI hx hb hr hlk hK hP hD hS d_Mo_likesOf_52 rfl
      · have hd := ite_f hd h_1
        refine lv_iload_n hx hb d_Mo_likesOf_16 rfl (lv_at hl 3 rfl) ?_
        refine lv_iload_n hx hb d_Mo_likesOf_17 rfl (lv_at hl 2 rfl) ?_
        refine lv_iload hx hb d_Mo_likesOf_18 (lv_at hl 4 rfl) ?_
        refine lv_ishr hx hb d_Mo_likesOf_20 ?_
        refine lv_iconst (v := 1) hx hb d_Mo_likesOf_21 (by decide) ?_
        refine lv_iand hx hb d_Mo_likesOf_22 ?_
        refine lv_iconst (v := 1) hx hb d_Mo_likesOf_23 (by decide) ?_
        refine lv_icmp_ne (tgt := 42) hx hb d_Mo_likesOf_24 (by decide) (fun h_2 => ?_) (fun h_2 => ?_)
        · have hd := ite_f hd h_2
          refine lv_iconst (v := 0) hx hb d_Mo_likesOf_42 (by decide) ?_
          refine lv_iadd hx hb d_Mo_likesOf_43 ?_
          refine lv_istore_n (lv' := [(3, .int (x3_5 + 0)), (0, .ref (a 0)), (1, .int x1_f5), (2, .int x2_f5), (4, .int x4_5)]) hx hb d_Mo_likesOf_44 rfl hl (by decide) rfl (fun ls hl => ?_)
          refine lv_iinc (v := x4_5 + 1) (lv' := [(4, .int (x4_5 + 1)), (3, .int (x3_5 + 0)), (0, .ref (a 0)), (1, .int x1_f5), (2, .int x2_f5)]) hx hb d_Mo_likesOf_45 hl (k := 4) rfl (by rfl) (by decide) rfl (fun ls hl => ?_)
          refine lv_goto (tgt := 5) hx hb d_Mo_likesOf_48 (by decide) ?_
          exact ih5 (x3_5 + 0) (x4_5 + 1) _ _ _ hP hD hS (lv_sub hl [2, 3, 4, 1, 0] rfl) hd
        · have hd := ite_t hd h_2
          refine lv_aload_n hx hb d_Mo_likesOf_27 rfl (lv_at hl 0 rfl) ?_
          refine va_get (D := D) (ci := 1) (v := .ref (a 6)) (C := R_Mo) (T := F_Mo) (N := 26) hx hb hg i_Mo hown hK hP 0 rfl rfl 12 (by decide) (hg _ g_1004) (fun _ h9 => h9) rfl d_Mo_likesOf_28 ?_
          refine lv_bipush (v := 7) hx hb d_Mo_likesOf_31 (by decide) ?_
          refine lv_iload_n hx hb d_Mo_likesOf_33 rfl (lv_at hl 1 rfl) ?_
          refine lv_imul hx hb d_Mo_likesOf_34 ?_
          refine lv_iload hx hb d_Mo_likesOf_35 (lv_at hl 4 rfl) ?_
          refine lv_iadd hx hb d_Mo_likesOf_37 ?_
          obtain ⟨h_3, hd⟩ := ite_s hd
          refine ialdK hx hb hK hP 6 0 rfl rfl (inb_t h_3) rfl d_Mo_likesOf_38 ?_
          refine lv_goto (tgt := 43) hx hb d_Mo_likesOf_39 (by decide) ?_
          refine lv_iadd hx hb d_Mo_likesOf_43 ?_
          refine lv_istore_n (lv' := [(3, .int (x3_5 + ((q_Mo_likes z) ((7 * x1_f5) + x4_5).toNatClampNeg))), (0, .ref (a 0)), (1, .int x1_f5), (2, .int x2_f5), (4, .int x4_5)]) hx hb d_Mo_likesOf_44 rfl hl (by decide) rfl (fun ls hl => ?_)
          refine lv_iinc (v := x4_5 + 1) (lv' := [(4, .int (x4_5 + 1)), (3, .int (x3_5 + ((q_Mo_likes z) ((7 * x1_f5) + x4_5).toNatClampNeg))), (0, .ref (a 0)), (1, .int x1_f5), (2, .int x2_f5)]) hx hb d_Mo_likesOf_45 hl (k := 4) rfl (by rfl) (by decide) rfl (fun ls hl => ?_)
          refine lv_goto (tgt := 5) hx hb d_Mo_likesOf_48 (by decide) ?_
          exact ih5 (x3_5 + ((q_Mo_likes z) ((7 * x1_f5) + x4_5).toNatClampNeg)) (x4_5 + 1) _ _ _ hP hD hS (lv_sub hl [2, 3, 4, 1, 0] rfl) hd
  exact lp5 x1 x2 1000 0 0 _ _ _ hP hD hS (lv_sub hl [2, 3, 4, 1, 0] rfl) hd
-- OwnsLiftModel.gives(II)I
def B_Mo_gives_L38 (x1_f38 : Int32) (x2_f38 : Int32) (x3_f38 : Int32) (z_f38 : T_Mo) (k38_142 : Int32 → Int32 → Option (Int32 × T_Mo)) (self38 : Int32 → Int32 → Int32 → Option (Int32 × T_Mo)) (x4_38 : Int32) (x5_38 : Int32) (x6_38 : Int32) : Option (Int32 × T_Mo) :=
  if ((1 : Int32) <<< (((q_Mo_s z_f38) 1) &&& 31)) ≤ x6_38 then (k38_142 x4_38 x5_38) else (if (x6_38 &&& (x3_f38 ^^^ (-1))) = 0 then ((d_Mo_weightsOf (x3_f38 &&& (x6_38 ^^^ (-1))) z_f38).bind fun v_13 => if inb x1_f38 4 = true then (if ((q_Mo_lifts z_f38) x1_f38.toNatClampNeg) < v_13 then (self38 x4_38 x5_38 (x6_38 + 1)) else ((d_Mo_likesOf x1_f38 x6_38 z_f38).bind fun v_16 => if x4_38 = (-1) then (self38 x6_38 v_16 (x6_38 + 1)) else (if x5_38 ≤ v_16 then (self38 x4_38 x5_38 (x6_38 + 1)) else (self38 x6_38 v_16 (x6_38 + 1))))) else none) else (self38 x4_38 x5_38 (x6_38 + 1)))
def d_Mo_gives_L38 (x1_f38 : Int32) (x2_f38 : Int32) (x3_f38 : Int32) (z_f38 : T_Mo) (k38_142 : Int32 → Int32 → Option (Int32 × T_Mo)) (n : Nat) : Int32 → Int32 → Int32 → Option (Int32 × T_Mo) := recN (fun _ _ _ => none) (fun self => B_Mo_gives_L38 x1_f38 x2_f38 x3_f38 z_f38 k38_142 self) n
def d_Mo_gives (x1 : Int32) (x2 : Int32) (z : T_Mo) : Option (Int32 × T_Mo) :=
  (d_Mo_isPerson x1 z).bind fun v_1 => if v_1 = 0 then (some ((-1), z)) else ((d_Mo_in x2 0 1).bind fun v_4 => if v_4 = 0 then (some ((-1), z)) else ((d_Mo_looksForAll z).bind fun v_7 => (d_Mo_thingsOf x1 v_7).bind fun v_9 => d_Mo_gives_L38 x1 x2 v_9 v_7 (fun x4_38 x5_38 => if x2 = 0 then (some (x4_38, v_7)) else (some (x5_38, v_7))) 1000 (-1) 0 0))
theorem d_Mo_gives_0 : decode b_Mo_gives 0 = .ok (.aload_n 0, 1) := by decide +kernel
theorem d_Mo_gives_1 : decode b_Mo_gives 1 = .ok (.iload_n 1, 1) := by decide +kernel
theorem d_Mo_gives_2 : decode b_Mo_gives 2 = .ok (.invokevirtual 147, 3) := by decide +kernel
theorem d_Mo_gives_5 : decode b_Mo_gives 5 = .ok (.ifCond .eq 12, 3) := by decide +kernel
theorem d_Mo_gives_8 : decode b_Mo_gives 8 = .ok (.iload_n 2, 1) := by decide +kernel
theorem d_Mo_gives_9 : decode b_Mo_gives 9 = .ok (.iconst 0, 1) := by decide +kernel
theorem d_Mo_gives_10 : decode b_Mo_gives 10 = .ok (.iconst 1, 1) := by decide +kernel
theorem d_Mo_gives_11 : decode b_Mo_gives 11 = .ok (.invokestatic 50, 3) := by decide +kernel
theorem d_Mo_gives_14 : decode b_Mo_gives 14 = .ok (.ifCond .ne 5, 3) := by decide +kernel
theorem d_Mo_gives_17 : decode b_Mo_gives 17 = .ok (.iconst (-1), 1) := by decide +kernel
theorem d_Mo_gives_18 : decode b_Mo_gives 18 = .ok (.ireturn, 1) := by decide +kernel
theorem d_Mo_gives_19 : decode b_Mo_gives 19 = .ok (.aload_n 0, 1) := by decide +kernel
theorem d_Mo_gives_20 : decode b_Mo_gives 20 = .ok (.invokevirtual 178, 3) := by decide +kernel
theorem d_Mo_gives_23 : decode b_Mo_gives 23 = .ok (.aload_n 0, 1) := by decide +kernel
theorem d_Mo_gives_24 : decode b_Mo_gives 24 = .ok (.iload_n 1, 1) := by decide +kernel
theorem d_Mo_gives_25 : decode b_Mo_gives 25 = .ok (.invokevirtual 157, 3) := by decide +kernel
theorem d_Mo_gives_28 : decode b_Mo_gives 28 = .ok (.istore_n 3, 1) := by decide +kernel
theorem d_Mo_gives_29 : decode b_Mo_gives 29 = .ok (.iconst (-1), 1) := by decide +kernel
theorem d_Mo_gives_30 : decode b_Mo_gives 30 = .ok (.istore 4, 2) := by decide +kernel
theorem d_Mo_gives_32 : decode b_Mo_gives 32 = .ok (.iconst 0, 1) := by decide +kernel
theorem d_Mo_gives_33 : decode b_Mo_gives 33 = .ok (.istore 5, 2) := by decide +kernel
theorem d_Mo_gives_35 : decode b_Mo_gives 35 = .ok (.iconst 0, 1) := by decide +kernel
theorem d_Mo_gives_36 : decode b_Mo_gives 36 = .ok (.istore 6, 2) := by decide +kernel
theorem d_Mo_gives_38 : decode b_Mo_gives 38 = .ok (.iload 6, 2) := by decide +kernel
theorem d_Mo_gives_40 : decode b_Mo_gives 40 = .ok (.iconst 1, 1) := by decide +kernel
theorem d_Mo_gives_41 : decode b_Mo_gives 41 = .ok (.aload_n 0, 1) := by decide +kernel
theorem d_Mo_gives_42 : decode b_Mo_gives 42 = .ok (.getfield 9, 3) := by decide +kernel
theorem d_Mo_gives_45 : decode b_Mo_gives 45 = .ok (.iconst 1, 1) := by decide +kernel
theorem d_Mo_gives_46 : decode b_Mo_gives 46 = .ok (.iaload, 1) := by decide +kernel
theorem d_Mo_gives_47 : decode b_Mo_gives 47 = .ok (.ishl, 1) := by decide +kernel
theorem d_Mo_gives_48 : decode b_Mo_gives 48 = .ok (.if_icmp .ge 94, 3) := by decide +kernel
theorem d_Mo_gives_51 : decode b_Mo_gives 51 = .ok (.iload 6, 2) := by decide +kernel
theorem d_Mo_gives_53 : decode b_Mo_gives 53 = .ok (.iload_n 3, 1) := by decide +kernel
theorem d_Mo_gives_54 : decode b_Mo_gives 54 = .ok (.iconst (-1), 1) := by decide +kernel
theorem d_Mo_gives_55 : decode b_Mo_gives 55 = .ok (.ixor, 1) := by decide +kernel
theorem d_Mo_gives_56 : decode b_Mo_gives 56 = .ok (.iand, 1) := by decide +kernel
theorem d_Mo_gives_57 : decode b_Mo_gives 57 = .ok (.ifCond .ne 79, 3) := by decide +kernel
theorem d_Mo_gives_60 : decode b_Mo_gives 60 = .ok (.aload_n 0, 1) := by decide +kernel
theorem d_Mo_gives_61 : decode b_Mo_gives 61 = .ok (.iload_n 3, 1) := by decide +kernel
theorem d_Mo_gives_62 : decode b_Mo_gives 62 = .ok (.iload 6, 2) := by decide +kernel
theorem d_Mo_gives_64 : decode b_Mo_gives 64 = .ok (.iconst (-1), 1) := by decide +kernel
theorem d_Mo_gives_65 : decode b_Mo_gives 65 = .ok (.ixor, 1) := by decide +kernel
theorem d_Mo_gives_66 : decode b_Mo_gives 66 = .ok (.iand, 1) := by decide +kernel
theorem d_Mo_gives_67 : decode b_Mo_gives 67 = .ok (.invokevirtual 204, 3) := by decide +kernel
theorem d_Mo_gives_70 : decode b_Mo_gives 70 = .ok (.aload_n 0, 1) := by decide +kernel
theorem d_Mo_gives_71 : decode b_Mo_gives 71 = .ok (.getfield 31, 3) := by decide +kernel
theorem d_Mo_gives_74 : decode b_Mo_gives 74 = .ok (.iload_n 1, 1) := by decide +kernel
theorem d_Mo_gives_75 : decode b_Mo_gives 75 = .ok (.iaload, 1) := by decide +kernel
theorem d_Mo_gives_76 : decode b_Mo_gives 76 = .ok (.if_icmp .gt 60, 3) := by decide +kernel
theorem d_Mo_gives_79 : decode b_Mo_gives 79 = .ok (.aload_n 0, 1) := by decide +kernel
theorem d_Mo_gives_80 : decode b_Mo_gives 80 = .ok (.iload_n 1, 1) := by decide +kernel
theorem d_Mo_gives_81 : decode b_Mo_gives 81 = .ok (.iload 6, 2) := by decide +kernel
theorem d_Mo_gives_83 : decode b_Mo_gives 83 = .ok (.invokevirtual 207, 3) := by decide +kernel
theorem d_Mo_gives_86 : decode b_Mo_gives 86 = .ok (.istore 7, 2) := by decide +kernel
theorem d_Mo_gives_88 : decode b_Mo_gives 88 = .ok (.iload 4, 2) := by decide +kernel
theorem d_Mo_gives_90 : decode b_Mo_gives 90 = .ok (.iconst (-1), 1) := by decide +kernel
theorem d_Mo_gives_91 : decode b_Mo_gives 91 = .ok (.if_icmp .eq 10, 3) := by decide +kernel
theorem d_Mo_gives_94 : decode b_Mo_gives 94 = .ok (.iload 7, 2) := by decide +kernel
theorem d_Mo_gives_96 : decode b_Mo_gives 96 = .ok (.iload 5, 2) := by decide +kernel
theorem d_Mo_gives_98 : decode b_Mo_gives 98 = .ok (.if_icmp .ge 7, 3) := by decide +kernel
theorem d_Mo_gives_101 : decode b_Mo_gives 101 = .ok (.iconst 1, 1) := by decide +kernel
theorem d_Mo_gives_102 : decode b_Mo_gives 102 = .ok (.goto 4, 3) := by decide +kernel
theorem d_Mo_gives_105 : decode b_Mo_gives 105 = .ok (.iconst 0, 1) := by decide +kernel
theorem d_Mo_gives_106 : decode b_Mo_gives 106 = .ok (.istore 8, 2) := by decide +kernel
theorem d_Mo_gives_108 : decode b_Mo_gives 108 = .ok (.iload 8, 2) := by decide +kernel
theorem d_Mo_gives_110 : decode b_Mo_gives 110 = .ok (.ifCond .eq 8, 3) := by decide +kernel
theorem d_Mo_gives_113 : decode b_Mo_gives 113 = .ok (.iload 6, 2) := by decide +kernel
theorem d_Mo_gives_115 : decode b_Mo_gives 115 = .ok (.goto 5, 3) := by decide +kernel
theorem d_Mo_gives_118 : decode b_Mo_gives 118 = .ok (.iload 4, 2) := by decide +kernel
theorem d_Mo_gives_120 : decode b_Mo_gives 120 = .ok (.istore 4, 2) := by decide +kernel
theorem d_Mo_gives_122 : decode b_Mo_gives 122 = .ok (.iload 8, 2) := by decide +kernel
theorem d_Mo_gives_124 : decode b_Mo_gives 124 = .ok (.ifCond .eq 8, 3) := by decide +kernel
theorem d_Mo_gives_127 : decode b_Mo_gives 127 = .ok (.iload 7, 2) := by decide +kernel
theorem d_Mo_gives_129 : decode b_Mo_gives 129 = .ok (.goto 5, 3) := by decide +kernel
theorem d_Mo_gives_132 : decode b_Mo_gives 132 = .ok (.iload 5, 2) := by decide +kernel
theorem d_Mo_gives_134 : decode b_Mo_gives 134 = .ok (.istore 5, 2) := by decide +kernel
theorem d_Mo_gives_136 : decode b_Mo_gives 136 = .ok (.iinc 6 1, 3) := by decide +kernel
theorem d_Mo_gives_139 : decode b_Mo_gives 139 = .ok (.goto (-101), 3) := by decide +kernel
theorem d_Mo_gives_142 : decode b_Mo_gives 142 = .ok (.iload_n 2, 1) := by decide +kernel
theorem d_Mo_gives_143 : decode b_Mo_gives 143 = .ok (.ifCond .ne 8, 3) := by decide +kernel
theorem d_Mo_gives_146 : decode b_Mo_gives 146 = .ok (.iload 4, 2) := by decide +kernel
theorem d_Mo_gives_148 : decode b_Mo_gives 148 = .ok (.goto 5, 3) := by decide +kernel
theorem d_Mo_gives_151 : decode b_Mo_gives 151 = .ok (.iload 5, 2) := by decide +kernel
theorem d_Mo_gives_153 : decode b_Mo_gives 153 = .ok (.ireturn, 1) := by decide +kernel
theorem o_Mo_gives : OkV y_Mo_gives "OwnsLiftModel" b_Mo_gives 9 (some .int) 2 := ⟨⟨rfl, by decide +kernel, by decide +kernel, by decide +kernel⟩, g_1275, g_1276, g_81, g_1277⟩
set_option maxHeartbeats 4000000 in
set_option maxRecDepth 100000 in
theorem c_Mo_gives (l : Launch) (D : va_G) (g : Nat → ClassId) (a : Nat → Nat) (x1 : Int32) (x2 : Int32) (z : T_Mo) (v : Int32 × T_Mo) (h : d_Mo_gives x1 x2 z = some v) :
    MI l y_Mo_gives b_Mo_gives 9 .int ({ frames := 4, cells := 0, slots := 0, locals := 97 } : Room) D g [.ref (a 0), .int x1, .int x2] (ws_Mo g a z) (v.1) (ws_Mo g a v.2) := by
  have hd := h
  unfold d_Mo_gives at hd
  refine enterI rfl (Nat.le_of_ble_eq_true rfl) (fun p e s m below meth c A ls hx hb hml hr hown hg hlk hK hA hP hD hS hCs hl => ?_)
  have hown : s.vm.findClass "OwnsLiftModel" = some m.cls := hown
  have hl : lv_has ls 9 [(0, .ref (a 0)), (1, .int x1), (2, .int x2)] := hl
  show GI p l e s m ({ frames := 4, cells := 0, slots := 0, locals := 97 } : Room) ([.ref (a 0), .int x1, .int x2] : List Value).toArray below meth c A D g (ws_Mo g a v.2) (v.1) s.heap [] (F0 m 0 ls [])
  refine lv_aload_n hx hb d_Mo_gives_0 rfl (lv_at hl 0 rfl) ?_
  refine lv_iload_n hx hb d_Mo_gives_1 rfl (lv_at hl 1 rfl) ?_
  obtain ⟨v_1, e_2, hd⟩ := bind_s hd
  refine callVI (ws' := ws_Mo g a z) (rest := []) (As := [.int x1]) hx hb hml hown hg hK hP hD hS hA hCs hl.1 (c_Mo_isPerson l D g a x1 z _ e_2) o_Mo_isPerson g_1147 (ci := 1) (q0 := 0) rfl rfl (List.range' 0 12) (segC1 rfl rfl) (by decide) rfl (segP1 rfl rfl) rfl rfl (Nat.le_of_ble_eq_true rfl) ⟨rfl, rfl, Nat.le_of_ble_eq_true rfl, Nat.le_of_ble_eq_true rfl⟩ d_Mo_gives_2 (fun H locs hP hD hS => ?_)
  refine lv_if_eq (tgt := 17) hx hb d_Mo_gives_5 (by decide) (fun h_3 => ?_) (fun h_3 => ?_)
  · have hd := ite_t hd h_3
    refine lv_iconst (v := (-1)) hx hb d_Mo_gives_17 (by decide) ?_
    obtain rfl := Option.some.inj hd
    exact retI hx hb hr hlk hK hP hD hS d_Mo_gives_18 rfl
  · have hd := ite_f hd h_3
    refine lv_iload_n hx hb d_Mo_gives_8 rfl (lv_at hl 2 rfl) ?_
    refine lv_iconst (v := 0) hx hb d_Mo_gives_9 (by decide) ?_
    refine lv_iconst (v := 1) hx hb d_Mo_gives_10 (by decide) ?_
    obtain ⟨v_4, e_5, hd⟩ := bind_s hd
    refine callSI (ws' := ws_Mo g a z) (rest := []) (As := [.int x2, .int 0, .int 1]) hx hb hml hown hg hK hP hD hS hA hCs hl.1 (c_Mo_in l D g  x2 0 1 _ e_5) o_Mo_in g_1076 [] segC0 rfl rfl segP0 rfl rfl (Nat.le_of_ble_eq_true rfl) ⟨rfl, rfl, Nat.le_of_ble_eq_true rfl, Nat.le_of_ble_eq_true rfl⟩ d_Mo_gives_11 (fun H locs hP hD hS => ?_)
    refine lv_if_ne (tgt := 19) hx hb d_Mo_gives_14 (by decide) (fun h_6 => ?_) (fun h_6 => ?_)
    · have hd := ite_f hd h_6
      refine lv_aload_n hx hb d_Mo_gives_19 rfl (lv_at hl 0 rfl) ?_
      obtain ⟨v_7, e_8, hd⟩ := bind_s hd
      refine callVV (ws' := ws_Mo g a v_7) (rest := []) (As := []) hx hb hml hown hg hK hP hD hS hA hCs hl.1 (c_Mo_looksForAll l D g a z _ e_8) o_Mo_looksForAll g_1218 (ci := 1) (q0 := 0) rfl rfl (List.range' 0 12) (segC1 rfl rfl) (by decide) rfl (segP1 rfl rfl) rfl rfl (Nat.le_of_ble_eq_true rfl) ⟨rfl, rfl, Nat.le_of_ble_eq_true rfl, Nat.le_of_ble_eq_true rfl⟩ d_Mo_gives_20 (fun H locs hP hD hS => ?_)
      refine lv_aload_n hx hb d_Mo_gives_23 rfl (lv_at hl 0 rfl) ?_
      refine lv_iload_n hx hb d_Mo_gives_24 rfl (lv_at hl 1 rfl) ?_
      obtain ⟨v_9, e_10, hd⟩ := bind_s hd
      refine callVI (ws' := ws_Mo g a v_7) (rest := []) (As := [.int x1]) hx hb hml hown hg hK hP hD hS hA hCs hl.1 (c_Mo_thingsOf l D g a x1 v_7 _ e_10) o_Mo_thingsOf g_1171 (ci := 1) (q0 := 0) rfl rfl (List.range' 0 12) (segC1 rfl rfl) (by decide) rfl (segP1 rfl rfl) rfl rfl (Nat.le_of_ble_eq_true rfl) ⟨rfl, rfl, Nat.le_of_ble_eq_true rfl, Nat.le_of_ble_eq_true rfl⟩ d_Mo_gives_25 (fun H locs hP hD hS => ?_)
      refine lv_istore_n (lv' := [(3, .int v_9), (0, .ref (a 0)), (1, .int x1), (2, .int x2)]) hx hb d_Mo_gives_28 rfl hl (by decide) rfl (fun ls hl => ?_)
      refine lv_iconst (v := (-1)) hx hb d_Mo_gives_29 (by decide) ?_
      refine lv_istore (lv' := [(4, .int (-1)), (3, .int v_9), (0, .ref (a 0)), (1, .int x1), (2, .int x2)]) hx hb d_Mo_gives_30 hl (by decide) rfl (fun ls hl => ?_)
      refine lv_iconst (v := 0) hx hb d_Mo_gives_32 (by decide) ?_
      refine lv_istore (lv' := [(5, .int 0), (4, .int (-1)), (3, .int v_9), (0, .ref (a 0)), (1, .int x1), (2, .int x2)]) hx hb d_Mo_gives_33 hl (by decide) rfl (fun ls hl => ?_)
      refine lv_iconst (v := 0) hx hb d_Mo_gives_35 (by decide) ?_
      refine lv_istore (lv' := [(6, .int 0), (5, .int 0), (4, .int (-1)), (3, .int v_9), (0, .ref (a 0)), (1, .int x1), (2, .int x2)]) hx hb d_Mo_gives_36 hl (by decide) rfl (fun ls hl => ?_)
      have ex38_142 : ∀ (x4_38 : Int32) (x5_38 : Int32) (H : Heap) (locs : List Loc) (ls : Array Slot), va_P D classes (ws_Mo g a v_7) H → va_D A (ws_Mo g a v_7) → va_S A s.heap H locs → lv_has ls 9 [(2, .int x2), (4, .int x4_38), (5, .int x5_38)] → (if x2 = 0 then (some (x4_38, v_7)) else (some (x5_38, v_7))) = some v → GI p l e s m ({ frames := 4, cells := 0, slots := 0, locals := 97 } : Room) ([.ref (a 0), .int x1, .int x2] : List Value).toArray below meth c A D g (ws_Mo g a v.2) (v.1) H locs (F0 m 142 ls []) := by
        intro x4_38 x5_38 H locs ls hP hD hS hl hd
        refine lv_iload_n hx hb d_Mo_gives_142 rfl (lv_at hl 0 rfl) ?_
        refine lv_if_ne (tgt := 151) hx hb d_Mo_gives_143 (by decide) (fun h_21 => ?_) (fun h_21 => ?_)
        · have hd := ite_f hd h_21
          refine lv_iload hx hb d_Mo_gives_151 (lv_at hl 2 rfl) ?_
          obtain rfl := Option.some.inj hd
          exact retI hx hb hr hlk hK hP hD hS d_Mo_gives_153 rfl
        · have hd := ite_t hd h_21
          refine lv_iload hx hb d_Mo_gives_146 (lv_at hl 1 rfl) ?_
          refine lv_goto (tgt := 153) hx hb d_Mo_gives_148 (by decide) ?_
          obtain rfl := Option.some.inj hd
          exact retI hx hb hr hlk hK hP hD hS d_Mo_gives_153 rfl
      have lp38 : ∀ (x1_f38 : Int32) (x2_f38 : Int32) (x3_f38 : Int32) (z_f38 : T_Mo) (k38_142 : Int32 → Int32 → Option (Int32 × T_Mo)) (hk38_142 : ∀ (x4_38 : Int32) (x5_38 : Int32) (H : Heap) (locs : List Loc) (ls : Array Slot), va_P D classes (ws_Mo g a z_f38) H → va_D A (ws_Mo g a z_f38) → va_S A s.heap H locs → lv_has ls 9 [(2, .int x2_f38), (4, .int x4_38), (5, .int x5_38)] → k38_142 x4_38 x5_38 = some v → GI p l e s m ({ frames := 4, cells := 0, slots := 0, locals := 97 } : Room) ([.ref (a 0), .int x1, .int x2] : List Value).toArray below meth c A D g (ws_Mo g a v.2) (v.1) H locs (F0 m 142 ls [])) (n : Nat) (x4_38 : Int32) (x5_38 : Int32) (x6_38 : Int32) (H : Heap) (locs : List Loc) (ls : Array Slot), va_P D classes (ws_Mo g a z_f38) H → va_D A (ws_Mo g a z_f38) → va_S A s.heap H locs → lv_has ls 9 [(0, .ref (a 0)), (1, .int x1_f38), (2, .int x2_f38), (3, .int x3_f38), (4, .int x4_38), (5, .int x5_38), (6, .int x6_38)] → d_Mo_gives_L38 x1_f38 x2_f38 x3_f38 z_f38 k38_142 n x4_38 x5_38 x6_38 = some v → GI p l e s m ({ frames := 4, cells := 0, slots := 0, locals := 97 } : Room) ([.ref (a 0), .int x1, .int x2] : List Value).toArray below meth c A D g (ws_Mo g a v.2) (v.1) H locs (F0 m 38 ls []) := by
        intro x1_f38 x2_f38 x3_f38 z_f38 k38_142 hk38_142 n
        induction n with
        | zero =>
          intro  x4_38 x5_38 x6_38 H locs ls hP hD hS hl hd
          have hd : none = some v := hd
          cases hd
        | succ n ih38 =>
          intro  x4_38 x5_38 x6_38 H locs ls hP hD hS hl hd
          have hd : B_Mo_gives_L38 x1_f38 x2_f38 x3_f38 z_f38 k38_142 (d_Mo_gives_L38 x1_f38 x2_f38 x3_f38 z_f38 k38_142 n) x4_38 x5_38 x6_38 = some v := hd
          generalize d_Mo_gives_L38 x1_f38 x2_f38 x3_f38 z_f38 k38_142 n = self38 at ih38 hd
          unfold B_Mo_gives_L38 at hd
          refine lv_iload hx hb d_Mo_gives_38 (lv_at hl 6 rfl) ?_
          refine lv_iconst (v := 1) hx hb d_Mo_gives_40 (by decide) ?_
          refine lv_aload_n hx hb d_Mo_gives_41 rfl (lv_at hl 0 rfl) ?_
          refine va_get (D := D) (ci := 1) (v := .ref (a 1)) (C := R_Mo) (T := F_Mo) (N := 26) hx hb hg i_Mo hown hK hP 0 rfl rfl 1 (by decide) (hg _ g_993) (fun _ h9 => h9) rfl d_Mo_gives_42 ?_
          refine lv_iconst (v := 1) hx hb d_Mo_gives_45 (by decide) ?_
          refine ialdK hx hb hK hP 1 0 rfl rfl (inb_t (by decide +kernel)) (k := 1) (by decide +kernel) d_Mo_gives_46 ?_
          refine lv_ishl hx hb d_Mo_gives_47 ?_
          refine lv_icmp_ge (tgt := 142) hx hb d_Mo_gives_48 (by decide) (fun h_11 => ?_) (fun h_11 => ?_)
          · have hd := ite_t hd h_11
            exact hk38_142 x4_38 x5_38 _ _ _ hP hD hS (lv_sub hl [2, 4, 5] rfl) hd
          · have hd := ite_f hd h_11
            refine lv_iload hx hb d_Mo_gives_51 (lv_at hl 6 rfl) ?_
            refine lv_iload_n hx hb d_Mo_gives_53 rfl (lv_at hl 3 rfl) ?_
            refine lv_iconst (v := (-1)) hx hb d_Mo_gives_54 (by decide) ?_
            refine lv_ixor hx hb d_Mo_gives_55 ?_
            refine lv_iand hx hb d_Mo_gives_56 ?_
            refine lv_if_ne (tgt := 136) hx hb d_Mo_gives_57 (by decide) (fun h_12 => ?_) (fun h_12 => ?_)
            · have hd := ite_f hd h_12
              refine lv_iinc (v := x6_38 + 1) (lv' := [(6, .int (x6_38 + 1)), (0, .ref (a 0)), (1, .int x1_f38), (2, .int x2_f38), (3, .int x3_f38), (4, .int x4_38), (5, .int x5_38)]) hx hb d_Mo_gives_136 hl (k := 6) rfl (by rfl) (by decide) rfl (fun ls hl => ?_)
              refine lv_goto (tgt := 38) hx hb d_Mo_gives_139 (by decide) ?_
              exact ih38 x4_38 x5_38 (x6_38 + 1) _ _ _ hP hD hS (lv_sub hl [1, 2, 3, 4, 5, 6, 0] rfl) hd
            · have hd := ite_t hd h_12
              refine lv_aload_n hx hb d_Mo_gives_60 rfl (lv_at hl 0 rfl) ?_
              refine lv_iload_n hx hb d_Mo_gives_61 rfl (lv_at hl 3 rfl) ?_
              refine lv_iload hx hb d_Mo_gives_62 (lv_at hl 6 rfl) ?_
              refine lv_iconst (v := (-1)) hx hb d_Mo_gives_64 (by decide) ?_
              refine lv_ixor hx hb d_Mo_gives_65 ?_
              refine lv_iand hx hb d_Mo_gives_66 ?_
              obtain ⟨v_13, e_14, hd⟩ := bind_s hd
              refine callVI (ws' := ws_Mo g a z_f38) (rest := []) (As := [.int (x3_f38 &&& (x6_38 ^^^ (-1)))]) hx hb hml hown hg hK hP hD hS hA hCs hl.1 (c_Mo_weightsOf l D g a (x3_f38 &&& (x6_38 ^^^ (-1))) z_f38 _ e_14) o_Mo_weightsOf g_1278 (ci := 1) (q0 := 0) rfl rfl (List.range' 0 12) (segC1 rfl rfl) (by decide) rfl (segP1 rfl rfl) rfl rfl (Nat.le_of_ble_eq_true rfl) ⟨rfl, rfl, Nat.le_of_ble_eq_true rfl, Nat.le_of_ble_eq_true rfl⟩ d_Mo_gives_67 (fun H locs hP hD hS => ?_)
              refine lv_aload_n hx hb d_Mo_gives_70 rfl (lv_at hl 0 rfl) ?_
              refine va_get (D := D) (ci := 1) (v := .ref (a 7)) (C := R_Mo) (T := F_Mo) (N := 26) hx hb hg i_Mo hown hK hP 0 rfl rfl 13 (by decide) (hg _ g_1005) (fun _ h9 => h9) rfl d_Mo_gives_71 ?_
              refine lv_iload_n hx hb d_Mo_gives_74 rfl (lv_at hl 1 rfl) ?_
              obtain ⟨h_20, hd⟩ := ite_s hd
              refine ialdK hx hb hK hP 7 0 rfl rfl (inb_t h_20) rfl d_Mo_gives_75 ?_
              refine lv_icmp_gt (tgt := 136) hx hb d_Mo_gives_76 (by decide) (fun h_15 => ?_) (fun h_15 => ?_)
              · have hd := ite_t hd h_15
                refine lv_iinc (v := x6_38 + 1) (lv' := [(6, .int (x6_38 + 1)), (0, .ref (a 0)), (1, .int x1_f38), (2, .int x2_f38), (3, .int x3_f38), (4, .int x4_38), (5, .int x5_38)]) hx hb d_Mo_gives_136 hl (k := 6) rfl (by rfl) (by decide) rfl (fun ls hl => ?_)
                refine lv_goto (tgt := 38) hx hb d_Mo_gives_139 (by decide) ?_
                exact ih38 x4_38 x5_38 (x6_38 + 1) _ _ _ hP hD hS (lv_sub hl [1, 2, 3, 4, 5, 6, 0] rfl) hd
              · have hd := ite_f hd h_15
                refine lv_aload_n hx hb d_Mo_gives_79 rfl (lv_at hl 0 rfl) ?_
                refine lv_iload_n hx hb d_Mo_gives_80 rfl (lv_at hl 1 rfl) ?_
                refine lv_iload hx hb d_Mo_gives_81 (lv_at hl 6 rfl) ?_
                obtain ⟨v_16, e_17, hd⟩ := bind_s hd
                refine callVI (ws' := ws_Mo g a z_f38) (rest := []) (As := [.int x1_f38, .int x6_38]) hx hb hml hown hg hK hP hD hS hA hCs hl.1 (c_Mo_likesOf l D g a x1_f38 x6_38 z_f38 _ e_17) o_Mo_likesOf g_1282 (ci := 1) (q0 := 0) rfl rfl (List.range' 0 12) (segC1 rfl rfl) (by decide) rfl (segP1 rfl rfl) rfl rfl (Nat.le_of_ble_eq_true rfl) ⟨rfl, rfl, Nat.le_of_ble_eq_true rfl, Nat.le_of_ble_eq_true rfl⟩ d_Mo_gives_83 (fun H locs hP hD hS => ?_)
                refine lv_istore (lv' := [(7, .int v_16), (0, .ref (a 0)), (1, .int x1_f38), (2, .int x2_f38), (3, .int x3_f38), (4, .int x4_38), (5, .int x5_38), (6, .int x6_38)]) hx hb d_Mo_gives_86 hl (by decide) rfl (fun ls hl => ?_)
                refine lv_iload hx hb d_Mo_gives_88 (lv_at hl 5 rfl) ?_
                refine lv_iconst (v := (-1)) hx hb d_Mo_gives_90 (by decide) ?_
                refine lv_icmp_eq (tgt := 101) hx hb d_Mo_gives_91 (by decide) (fun h_18 => ?_) (fun h_18 => ?_)
                · have hd := ite_t hd h_18
                  refine lv_iconst (v := 1) hx hb d_Mo_gives_101 (by decide) ?_
                  refine lv_goto (tgt := 106) hx hb d_Mo_gives_102 (by decide) ?_
                  refine lv_istore (lv' := [(8, .int 1), (7, .int v_16), (0, .ref (a 0)), (1, .int x1_f38), (2, .int x2_f38), (3, .int x3_f38), (4, .int x4_38), (5, .int x5_38), (6, .int x6_38)]) hx hb d_Mo_gives_106 hl (by decide) rfl (fun ls hl => ?_)
                  refine lv_iload hx hb d_Mo_gives_108 (lv_at hl 0 rfl) ?_
                  refine lv_if_eq (tgt := 118) hx hb d_Mo_gives_110 (by decide) (fun h9 => absurd h9 (by decide)) (fun _ => ?_)
                  refine lv_iload hx hb d_Mo_gives_113 (lv_at hl 8 rfl) ?_
                  refine lv_goto (tgt := 120) hx hb d_Mo_gives_115 (by decide) ?_
                  refine lv_istore (lv' := [(4, .int x6_38), (8, .int 1), (7, .int v_16), (0, .ref (a 0)), (1, .int x1_f38), (2, .int x2_f38), (3, .int x3_f38), (5, .int x5_38), (6, .int x6_38)]) hx hb d_Mo_gives_120 hl (by decide) rfl (fun ls hl => ?_)
                  refine lv_iload hx hb d_Mo_gives_122 (lv_at hl 1 rfl) ?_
                  refine lv_if_eq (tgt := 132) hx hb d_Mo_gives_124 (by decide) (fun h9 => absurd h9 (by decide)) (fun _ => ?_)
                  refine lv_iload hx hb d_Mo_gives_127 (lv_at hl 2 rfl) ?_
                  refine lv_goto (tgt := 134) hx hb d_Mo_gives_129 (by decide) ?_
                  refine lv_istore (lv' := [(5, .int v_16), (4, .int x6_38), (8, .int 1), (7, .int v_16), (0, .ref (a 0)), (1, .int x1_f38), (2, .int x2_f38), (3, .int x3_f38), (6, .int x6_38)]) hx hb d_Mo_gives_134 hl (by decide) rfl (fun ls hl => ?_)
                  refine lv_iinc (v := x6_38 + 1) (lv' := [(6, .int (x6_38 + 1)), (5, .int v_16), (4, .int x6_38), (8, .int 1), (7, .int v_16), (0, .ref (a 0)), (1, .int x1_f38), (2, .int x2_f38), (3, .int x3_f38)]) hx hb d_Mo_gives_136 hl (k := 8) rfl (by rfl) (by decide) rfl (fun ls hl => ?_)
                  refine lv_goto (tgt := 38) hx hb d_Mo_gives_139 (by decide) ?_
                  exact ih38 x6_38 v_16 (x6_38 + 1) _ _ _ hP hD hS (lv_sub hl [5, 6, 7, 8, 2, 1, 0] rfl) hd
                · have hd := ite_f hd h_18
                  refine lv_iload hx hb d_Mo_gives_94 (lv_at hl 0 rfl) ?_
                  refine lv_iload hx hb d_Mo_gives_96 (lv_at hl 6 rfl) ?_
                  refine lv_icmp_ge (tgt := 105) hx hb d_Mo_gives_98 (by decide) (fun h_19 => ?_) (fun h_19 => ?_)
                  · have hd := ite_t hd h_19
                    refine lv_iconst (v := 0) hx hb d_Mo_gives_105 (by decide) ?_
                    refine lv_istore (lv' := [(8, .int 0), (7, .int v_16), (0, .ref (a 0)), (1, .int x1_f38), (2, .int x2_f38), (3, .int x3_f38), (4, .int x4_38), (5, .int x5_38), (6, .int x6_38)]) hx hb d_Mo_gives_106 hl (by decide) rfl (fun ls hl => ?_)
                    refine lv_iload hx hb d_Mo_gives_108 (lv_at hl 0 rfl) ?_
                    refine lv_if_eq (tgt := 118) hx hb d_Mo_gives_110 (by decide) (fun _ => ?_) (fun h9 => absurd (by decide) h9)
                    refine lv_iload hx hb d_Mo_gives_118 (lv_at hl 6 rfl) ?_
                    refine lv_istore (lv' := [(4, .int x4_38), (8, .int 0), (7, .int v_16), (0, .ref (a 0)), (1, .int x1_f38), (2, .int x2_f38), (3, .int x3_f38), (5, .int x5_38), (6, .int x6_38)]) hx hb d_Mo_gives_120 hl (by decide) rfl (fun ls hl => ?_)
                    refine lv_iload hx hb d_Mo_gives_122 (lv_at hl 1 rfl) ?_
                    refine lv_if_eq (tgt := 132) hx hb d_Mo_gives_124 (by decide) (fun _ => ?_) (fun h9 => absurd (by decide) h9)
                    refine lv_iload hx hb d_Mo_gives_132 (lv_at hl 7 rfl) ?_
                    refine lv_istore (lv' := [(5, .int x5_38), (4, .int x4_38), (8, .int 0), (7, .int v_16), (0, .ref (a 0)), (1, .int x1_f38), (2, .int x2_f38), (3, .int x3_f38), (6, .int x6_38)]) hx hb d_Mo_gives_134 hl (by decide) rfl (fun ls hl => ?_)
                    refine lv_iinc (v := x6_38 + 1) (lv' := [(6, .int (x6_38 + 1)), (5, .int x5_38), (4, .int x4_38), (8, .int 0), (7, .int v_16), (0, .ref (a 0)), (1, .int x1_f38), (2, .int x2_f38), (3, .int x3_f38)]) hx hb d_Mo_gives_136 hl (k := 8) rfl (by rfl) (by decide) rfl (fun ls hl => ?_)
                    refine lv_goto (tgt := 38) hx hb d_Mo_gives_139 (by decide) ?_
                    exact ih38 x4_38 x5_38 (x6_38 + 1) _ _ _ hP hD hS (lv_sub hl [5, 6, 7, 8, 2, 1, 0] rfl) hd
                  · have hd := ite_f hd h_19
                    refine lv_iconst (v := 1) hx hb d_Mo_gives_101 (by decide) ?_
                    refine lv_goto (tgt := 106) hx hb d_Mo_gives_102 (by decide) ?_
                    refine lv_istore (lv' := [(8, .int 1), (7, .int v_16), (0, .ref (a 0)), (1, .int x1_f38), (2, .int x2_f38), (3, .int x3_f38), (4, .int x4_38), (5, .int x5_38), (6, .int x6_38)]) hx hb d_Mo_gives_106 hl (by decide) rfl (fun ls hl => ?_)
                    refine lv_iload hx hb d_Mo_gives_108 (lv_at hl 0 rfl) ?_
                    refine lv_if_eq (tgt := 118) hx hb d_Mo_gives_110 (by decide) (fun h9 => absurd h9 (by decide)) (fun _ => ?_)
                    refine lv_iload hx hb d_Mo_gives_113 (lv_at hl 8 rfl) ?_
                    refine lv_goto (tgt := 120) hx hb d_Mo_gives_115 (by decide) ?_
                    refine lv_istore (lv' := [(4, .int x6_38), (8, .int 1), (7, .int v_16), (0, .ref (a 0)), (1, .int x1_f38), (2, .int x2_f38), (3, .int x3_f38), (5, .int x5_38), (6, .int x6_38)]) hx hb d_Mo_gives_120 hl (by decide) rfl (fun ls hl => ?_)
                    refine lv_iload hx hb d_Mo_gives_122 (lv_at hl 1 rfl) ?_
                    refine lv_if_eq (tgt := 132) hx hb d_Mo_gives_124 (by decide) (fun h9 => absurd h9 (by decide)) (fun _ => ?_)
                    refine lv_iload hx hb d_Mo_gives_127 (lv_at hl 2 rfl) ?_
                    refine lv_goto (tgt := 134) hx hb d_Mo_gives_129 (by decide) ?_
                    refine lv_istore (lv' := [(5, .int v_16), (4, .int x6_38), (8, .int 1), (7, .int v_16), (0, .ref (a 0)), (1, .int x1_f38), (2, .int x2_f38), (3, .int x3_f38), (6, .int x6_38)]) hx hb d_Mo_gives_134 hl (by decide) rfl (fun ls hl => ?_)
                    refine lv_iinc (v := x6_38 + 1) (lv' := [(6, .int (x6_38 + 1)), (5, .int v_16), (4, .int x6_38), (8, .int 1), (7, .int v_16), (0, .ref (a 0)), (1, .int x1_f38), (2, .int x2_f38), (3, .int x3_f38)]) hx hb d_Mo_gives_136 hl (k := 8) rfl (by rfl) (by decide) rfl (fun ls hl => ?_)
                    refine lv_goto (tgt := 38) hx hb d_Mo_gives_139 (by decide) ?_
                    exact ih38 x6_38 v_16 (x6_38 + 1) _ _ _ hP hD hS (lv_sub hl [5, 6, 7, 8, 2, 1, 0] rfl) hd
      exact lp38 x1 x2 v_9 v_7 _ ex38_142 1000 (-1) 0 0 _ _ _ hP hD hS (lv_sub hl [4, 5, 6, 3, 2, 1, 0] rfl) hd
    · have hd := ite_t hd h_6
      refine lv_iconst (v := (-1)) hx hb d_Mo_gives_17 (by decide) ?_
      obtain rfl := Option.some.inj hd
      exact retI hx hb hr hlk hK hP hD hS d_Mo_gives_18 rfl
-- OwnsLiftModel.lowest(JJI)J
def B_Mo_lowest_L6 (x0_f6 : Int64) (x2_f6 : Int64) (x4_f6 : Int32) (k6_31 : Int64 → Option (Int64)) (self6 : Int64 → Int64 → Option (Int64)) (x5_6 : Int64) (x7_6 : Int64) : Option (Int64) :=
  if (lg_cmp x7_6 0) = 0 then (k6_31 x5_6) else (if x7_6 = 0 then none else (self6 x7_6 (x5_6 - x5_6 / x7_6 * x7_6)))
def d_Mo_lowest_L6 (x0_f6 : Int64) (x2_f6 : Int64) (x4_f6 : Int32) (k6_31 : Int64 → Option (Int64)) (n : Nat) : Int64 → Int64 → Option (Int64) := recN (fun _ _ => none) (fun self => B_Mo_lowest_L6 x0_f6 x2_f6 x4_f6 k6_31 self) n
def d_Mo_lowest (x0 : Int64) (x2 : Int64) (x4 : Int32) : Option (Int64) :=
  d_Mo_lowest_L6 x0 x2 x4 (fun x5_6 => if x4 = 0 then (if x5_6 = 0 then none else (some (x0 / x5_6))) else (if x5_6 = 0 then none else (some (x2 / x5_6)))) 1000 x0 x2
theorem d_Mo_lowest_0 : decode b_Mo_lowest 0 = .ok (.lload_n 0, 1) := by decide +kernel
theorem d_Mo_lowest_1 : decode b_Mo_lowest 1 = .ok (.lstore 5, 2) := by decide +kernel
theorem d_Mo_lowest_3 : decode b_Mo_lowest 3 = .ok (.lload_n 2, 1) := by decide +kernel
theorem d_Mo_lowest_4 : decode b_Mo_lowest 4 = .ok (.lstore 7, 2) := by decide +kernel
theorem d_Mo_lowest_6 : decode b_Mo_lowest 6 = .ok (.lload 7, 2) := by decide +kernel
theorem d_Mo_lowest_8 : decode b_Mo_lowest 8 = .ok (.lconst 0, 1) := by decide +kernel
theorem d_Mo_lowest_9 : decode b_Mo_lowest 9 = .ok (.lcmp, 1) := by decide +kernel
theorem d_Mo_lowest_10 : decode b_Mo_lowest 10 = .ok (.ifCond .eq 21, 3) := by decide +kernel
theorem d_Mo_lowest_13 : decode b_Mo_lowest 13 = .ok (.lload 5, 2) := by decide +kernel
theorem d_Mo_lowest_15 : decode b_Mo_lowest 15 = .ok (.lload 7, 2) := by decide +kernel
theorem d_Mo_lowest_17 : decode b_Mo_lowest 17 = .ok (.lrem, 1) := by decide +kernel
theorem d_Mo_lowest_18 : decode b_Mo_lowest 18 = .ok (.lstore 9, 2) := by decide +kernel
theorem d_Mo_lowest_20 : decode b_Mo_lowest 20 = .ok (.lload 7, 2) := by decide +kernel
theorem d_Mo_lowest_22 : decode b_Mo_lowest 22 = .ok (.lstore 5, 2) := by decide +kernel
theorem d_Mo_lowest_24 : decode b_Mo_lowest 24 = .ok (.lload 9, 2) := by decide +kernel
theorem d_Mo_lowest_26 : decode b_Mo_lowest 26 = .ok (.lstore 7, 2) := by decide +kernel
theorem d_Mo_lowest_28 : decode b_Mo_lowest 28 = .ok (.goto (-22), 3) := by decide +kernel
theorem d_Mo_lowest_31 : decode b_Mo_lowest 31 = .ok (.iload 4, 2) := by decide +kernel
theorem d_Mo_lowest_33 : decode b_Mo_lowest 33 = .ok (.ifCond .ne 7, 3) := by decide +kernel
theorem d_Mo_lowest_36 : decode b_Mo_lowest 36 = .ok (.lload_n 0, 1) := by decide +kernel
theorem d_Mo_lowest_37 : decode b_Mo_lowest 37 = .ok (.goto 4, 3) := by decide +kernel
theorem d_Mo_lowest_40 : decode b_Mo_lowest 40 = .ok (.lload_n 2, 1) := by decide +kernel
theorem d_Mo_lowest_41 : decode b_Mo_lowest 41 = .ok (.lload 5, 2) := by decide +kernel
theorem d_Mo_lowest_43 : decode b_Mo_lowest 43 = .ok (.ldiv, 1) := by decide +kernel
theorem d_Mo_lowest_44 : decode b_Mo_lowest 44 = .ok (.lreturn, 1) := by decide +kernel
theorem o_Mo_lowest : OkS y_Mo_lowest b_Mo_lowest 11 (some .long) 3 := ⟨⟨by decide +kernel, by decide +kernel, by decide +kernel⟩, g_1296, g_81, g_1297⟩
set_option maxHeartbeats 4000000 in
set_option maxRecDepth 100000 in
theorem c_Mo_lowest (l : Launch) (D : va_G) (g : Nat → ClassId) (x0 : Int64) (x2 : Int64) (x4 : Int32) (v : Int64) (h : d_Mo_lowest x0 x2 x4 = some v) :
    ML l y_Mo_lowest b_Mo_lowest 11 ({ frames := 0, cells := 0, slots := 0, locals := 0 } : Room) D g [.long x0, .long x2, .int x4] (([] : va_W)) (v) (([] : va_W)) := by
  have hd := h
  unfold d_Mo_lowest at hd
  refine enterL rfl (Nat.le_of_ble_eq_true rfl) (fun p e s m below meth c A ls hx hb hml hr hown hg hlk hK hA hP hD hS hCs hl => ?_)
  have hown : s.vm.findClass "OwnsLiftModel" = some m.cls := hown
  have hl : lv_has ls 11 [(0, .long x0), (2, .long x2), (4, .int x4)] := hl
  show GL p l e s m ({ frames := 0, cells := 0, slots := 0, locals := 0 } : Room) ([.long x0, .long x2, .int x4] : List Value).toArray below meth c A D g (([] : va_W)) (v) s.heap [] (F0 m 0 ls [])
  refine lv_lload_n hx hb d_Mo_lowest_0 rfl (lv_at hl 0 rfl) ?_
  refine lv_lstore (lv' := [(5, .long x0), (0, .long x0), (2, .long x2), (4, .int x4)]) hx hb d_Mo_lowest_1 hl (by decide) rfl (fun ls hl => ?_)
  refine lv_lload_n hx hb d_Mo_lowest_3 rfl (lv_at hl 2 rfl) ?_
  refine lv_lstore (lv' := [(7, .long x2), (5, .long x0), (0, .long x0), (2, .long x2), (4, .int x4)]) hx hb d_Mo_lowest_4 hl (by decide) rfl (fun ls hl => ?_)
  have ex6_31 : ∀ (x5_6 : Int64) (H : Heap) (locs : List Loc) (ls : Array Slot), va_P D classes (([] : va_W)) H → va_D A (([] : va_W)) → va_S A s.heap H locs → lv_has ls 11 [(0, .long x0), (2, .long x2), (4, .int x4), (5, .long x5_6)] → (if x4 = 0 then (if x5_6 = 0 then none else (some (x0 / x5_6))) else (if x5_6 = 0 then none else (some (x2 / x5_6)))) = some v → GL p l e s m ({ frames := 0, cells := 0, slots := 0, locals := 0 } : Room) ([.long x0, .long x2, .int x4] : List Value).toArray below meth c A D g (([] : va_W)) (v) H locs (F0 m 31 ls []) := by
    intro x5_6 H locs ls hP hD hS hl hd
    refine lv_iload hx hb d_Mo_lowest_31 (lv_at hl 2 rfl) ?_
    refine lv_if_ne (tgt := 40) hx hb d_Mo_lowest_33 (by decide) (fun h_3 => ?_) (fun h_3 => ?_)
    · have hd := ite_f hd h_3
      refine lv_lload_n hx hb d_Mo_lowest_40 rfl (lv_at hl 1 rfl) ?_
      refine lv_lload hx hb d_Mo_lowest_41 (lv_at hl 3 rfl) ?_
      obtain ⟨h_4, hd⟩ := ite_n hd
      refine lv_ldiv hx hb d_Mo_lowest_43 h_4 ?_
      obtain rfl := Option.some.inj hd
      exact retL hx hb hr hlk hK hP hD hS d_Mo_lowest_44 rfl
    · have hd := ite_t hd h_3
      refine lv_lload_n hx hb d_Mo_lowest_36 rfl (lv_at hl 0 rfl) ?_
      refine lv_goto (tgt := 41) hx hb d_Mo_lowest_37 (by decide) ?_
      refine lv_lload hx hb d_Mo_lowest_41 (lv_at hl 3 rfl) ?_
      obtain ⟨h_5, hd⟩ := ite_n hd
      refine lv_ldiv hx hb d_Mo_lowest_43 h_5 ?_
      obtain rfl := Option.some.inj hd
      exact retL hx hb hr hlk hK hP hD hS d_Mo_lowest_44 rfl
  have lp6 : ∀ (x0_f6 : Int64) (x2_f6 : Int64) (x4_f6 : Int32) (k6_31 : Int64 → Option (Int64)) (hk6_31 : ∀ (x5_6 : Int64) (H : Heap) (locs : List Loc) (ls : Array Slot), va_P D classes (([] : va_W)) H → va_D A (([] : va_W)) → va_S A s.heap H locs → lv_has ls 11 [(0, .long x0_f6), (2, .long x2_f6), (4, .int x4_f6), (5, .long x5_6)] → k6_31 x5_6 = some v → GL p l e s m ({ frames := 0, cells := 0, slots := 0, locals := 0 } : Room) ([.long x0, .long x2, .int x4] : List Value).toArray below meth c A D g (([] : va_W)) (v) H locs (F0 m 31 ls [])) (n : Nat) (x5_6 : Int64) (x7_6 : Int64) (H : Heap) (locs : List Loc) (ls : Array Slot), va_P D classes (([] : va_W)) H → va_D A (([] : va_W)) → va_S A s.heap H locs → lv_has ls 11 [(0, .long x0_f6), (2, .long x2_f6), (4, .int x4_f6), (5, .long x5_6), (7, .long x7_6)] → d_Mo_lowest_L6 x0_f6 x2_f6 x4_f6 k6_31 n x5_6 x7_6 = some v → GL p l e s m ({ frames := 0, cells := 0, slots := 0, locals := 0 } : Room) ([.long x0, .long x2, .int x4] : List Value).toArray below meth c A D g (([] : va_W)) (v) H locs (F0 m 6 ls []) := by
    intro x0_f6 x2_f6 x4_f6 k6_31 hk6_31 n
    induction n with
    | zero =>
      intro  x5_6 x7_6 H locs ls hP hD hS hl hd
      have hd : none = some v := hd
      cases hd
    | succ n ih6 =>
      intro  x5_6 x7_6 H locs ls hP hD hS hl hd
      have hd : B_Mo_lowest_L6 x0_f6 x2_f6 x4_f6 k6_31 (d_Mo_lowest_L6 x0_f6 x2_f6 x4_f6 k6_31 n) x5_6 x7_6 = some v := hd
      generalize d_Mo_lowest_L6 x0_f6 x2_f6 x4_f6 k6_31 n = self6 at ih6 hd
      unfold B_Mo_lowest_L6 at hd
      refine lv_lload hx hb d_Mo_lowest_6 (lv_at hl 4 rfl) ?_
      refine lv_lconst (v := 0) hx hb d_Mo_lowest_8 (by decide) ?_
      refine W.lcmp hx hb d_Mo_lowest_9 ?_
      refine lv_if_eq (tgt := 31) hx hb d_Mo_lowest_10 (by decide) (fun h_1 => ?_) (fun h_1 => ?_)
      · have hd := ite_t hd h_1
        exact hk6_31 x5_6 _ _ _ hP hD hS (lv_sub hl [0, 1, 2, 3] rfl) hd
      · have hd := ite_f hd h_1
        refine lv_lload hx hb d_Mo_lowest_13 (lv_at hl 3 rfl) ?_
        refine lv_lload hx hb d_Mo_lowest_15 (lv_at hl 4 rfl) ?_
        obtain ⟨h_2, hd⟩ := ite_n hd
        refine lv_lrem hx hb d_Mo_lowest_17 h_2 ?_
        refine lv_lstore (lv' := [(9, .long (x5_6 - x5_6 / x7_6 * x7_6)), (0, .long x0_f6), (2, .long x2_f6), (4, .int x4_f6), (5, .long x5_6), (7, .long x7_6)]) hx hb d_Mo_lowest_18 hl (by decide) rfl (fun ls hl => ?_)
        refine lv_lload hx hb d_Mo_lowest_20 (lv_at hl 5 rfl) ?_
        refine lv_lstore (lv' := [(5, .long x7_6), (9, .long (x5_6 - x5_6 / x7_6 * x7_6)), (0, .long x0_f6), (2, .long x2_f6), (4, .int x4_f6), (7, .long x7_6)]) hx hb d_Mo_lowest_22 hl (by decide) rfl (fun ls hl => ?_)
        refine lv_lload hx hb d_Mo_lowest_24 (lv_at hl 1 rfl) ?_
        refine lv_lstore (lv' := [(7, .long (x5_6 - x5_6 / x7_6 * x7_6)), (5, .long x7_6), (9, .long (x5_6 - x5_6 / x7_6 * x7_6)), (0, .long x0_f6), (2, .long x2_f6), (4, .int x4_f6)]) hx hb d_Mo_lowest_26 hl (by decide) rfl (fun ls hl => ?_)
        refine lv_goto (tgt := 6) hx hb d_Mo_lowest_28 (by decide) ?_
        exact ih6 x7_6 (x5_6 - x5_6 / x7_6 * x7_6) _ _ _ hP hD hS (lv_sub hl [3, 4, 5, 1, 0] rfl) hd
  exact lp6 x0 x2 x4 _ ex6_31 1000 x0 x2 _ _ _ hP hD hS (lv_sub hl [2, 3, 4, 1, 0] rfl) hd
-- OwnsLiftModel.dearestOf(II)I
def B_Mo_dearestOf_L5 (x1_f5 : Int32) (x2_f5 : Int32) (z : T_Mo) (self5 : Int32 → Int32 → Option (Int32)) (x3_5 : Int32) (x4_5 : Int32) : Option (Int32) :=
  if ((q_Mo_s z) 1) ≤ x4_5 then (some (x3_5)) else (if x3_5 = (-1) then (if ((x2_f5 >>> (x4_5 &&& 31)) &&& 1) = 1 then (if x3_5 = (-1) then (self5 x4_5 (x4_5 + 1)) else (self5 x3_5 (x4_5 + 1))) else (self5 x3_5 (x4_5 + 1))) else (if inb ((7 * x1_f5) + x4_5) 28 = true then (if inb (58 + x3_5) 901 = true then (if inb ((7 * x1_f5) + x3_5) 28 = true then (if inb (58 + x4_5) 901 = true then (if (((q_Mo_likes z) ((7 * x1_f5) + x4_5).toNatClampNeg) * ((q_Mo_s z) (58 + x3_5).toNatClampNeg)) ≤ (((q_Mo_likes z) ((7 * x1_f5) + x3_5).toNatClampNeg) * ((q_Mo_s z) (58 + x4_5).toNatClampNeg)) then (if ((x2_f5 >>> (x4_5 &&& 31)) &&& 1) = 1 then (if x3_5 = (-1) then (self5 x4_5 (x4_5 + 1)) else (self5 x3_5 (x4_5 + 1))) else (self5 x3_5 (x4_5 + 1))) else (if ((x2_f5 >>> (x4_5 &&& 31)) &&& 1) = 1 then (if x3_5 = (-1) then (self5 x4_5 (x4_5 + 1)) else (self5 x4_5 (x4_5 + 1))) else (self5 x3_5 (x4_5 + 1)))) else none) else none) else none) else none))
def d_Mo_dearestOf_L5 (x1_f5 : Int32) (x2_f5 : Int32) (z : T_Mo) (n : Nat) : Int32 → Int32 → Option (Int32) := recN (fun _ _ => none) (fun self => B_Mo_dearestOf_L5 x1_f5 x2_f5 z self) n
def d_Mo_dearestOf (x1 : Int32) (x2 : Int32) (z : T_Mo) : Option (Int32) :=
  d_Mo_dearestOf_L5 x1 x2 z  1000 (-1) 0
theorem d_Mo_dearestOf_0 : decode b_Mo_dearestOf 0 = .ok (.iconst (-1), 1) := by decide +kernel
theorem d_Mo_dearestOf_1 : decode b_Mo_dearestOf 1 = .ok (.istore_n 3, 1) := by decide +kernel
theorem d_Mo_dearestOf_2 : decode b_Mo_dearestOf 2 = .ok (.iconst 0, 1) := by decide +kernel
theorem d_Mo_dearestOf_3 : decode b_Mo_dearestOf 3 = .ok (.istore 4, 2) := by decide +kernel
theorem d_Mo_dearestOf_5 : decode b_Mo_dearestOf 5 = .ok (.iload 4, 2) := by decide +kernel
theorem d_Mo_dearestOf_7 : decode b_Mo_dearestOf 7 = .ok (.aload_n 0, 1) := by decide +kernel
theorem d_Mo_dearestOf_8 : decode b_Mo_dearestOf 8 = .ok (.getfield 9, 3) := by decide +kernel
theorem d_Mo_dearestOf_11 : decode b_Mo_dearestOf 11 = .ok (.iconst 1, 1) := by decide +kernel
theorem d_Mo_dearestOf_12 : decode b_Mo_dearestOf 12 = .ok (.iaload, 1) := by decide +kernel
theorem d_Mo_dearestOf_13 : decode b_Mo_dearestOf 13 = .ok (.if_icmp .ge 95, 3) := by decide +kernel
theorem d_Mo_dearestOf_16 : decode b_Mo_dearestOf 16 = .ok (.iload_n 3, 1) := by decide +kernel
theorem d_Mo_dearestOf_17 : decode b_Mo_dearestOf 17 = .ok (.iconst (-1), 1) := by decide +kernel
theorem d_Mo_dearestOf_18 : decode b_Mo_dearestOf 18 = .ok (.if_icmp .eq 54, 3) := by decide +kernel
theorem d_Mo_dearestOf_21 : decode b_Mo_dearestOf 21 = .ok (.aload_n 0, 1) := by decide +kernel
theorem d_Mo_dearestOf_22 : decode b_Mo_dearestOf 22 = .ok (.getfield 28, 3) := by decide +kernel
theorem d_Mo_dearestOf_25 : decode b_Mo_dearestOf 25 = .ok (.bipush 7, 2) := by decide +kernel
theorem d_Mo_dearestOf_27 : decode b_Mo_dearestOf 27 = .ok (.iload_n 1, 1) := by decide +kernel
theorem d_Mo_dearestOf_28 : decode b_Mo_dearestOf 28 = .ok (.imul, 1) := by decide +kernel
theorem d_Mo_dearestOf_29 : decode b_Mo_dearestOf 29 = .ok (.iload 4, 2) := by decide +kernel
theorem d_Mo_dearestOf_31 : decode b_Mo_dearestOf 31 = .ok (.iadd, 1) := by decide +kernel
theorem d_Mo_dearestOf_32 : decode b_Mo_dearestOf 32 = .ok (.iaload, 1) := by decide +kernel
theorem d_Mo_dearestOf_33 : decode b_Mo_dearestOf 33 = .ok (.aload_n 0, 1) := by decide +kernel
theorem d_Mo_dearestOf_34 : decode b_Mo_dearestOf 34 = .ok (.getfield 9, 3) := by decide +kernel
theorem d_Mo_dearestOf_37 : decode b_Mo_dearestOf 37 = .ok (.bipush 58, 2) := by decide +kernel
theorem d_Mo_dearestOf_39 : decode b_Mo_dearestOf 39 = .ok (.iload_n 3, 1) := by decide +kernel
theorem d_Mo_dearestOf_40 : decode b_Mo_dearestOf 40 = .ok (.iadd, 1) := by decide +kernel
theorem d_Mo_dearestOf_41 : decode b_Mo_dearestOf 41 = .ok (.iaload, 1) := by decide +kernel
theorem d_Mo_dearestOf_42 : decode b_Mo_dearestOf 42 = .ok (.imul, 1) := by decide +kernel
theorem d_Mo_dearestOf_43 : decode b_Mo_dearestOf 43 = .ok (.aload_n 0, 1) := by decide +kernel
theorem d_Mo_dearestOf_44 : decode b_Mo_dearestOf 44 = .ok (.getfield 28, 3) := by decide +kernel
theorem d_Mo_dearestOf_47 : decode b_Mo_dearestOf 47 = .ok (.bipush 7, 2) := by decide +kernel
theorem d_Mo_dearestOf_49 : decode b_Mo_dearestOf 49 = .ok (.iload_n 1, 1) := by decide +kernel
theorem d_Mo_dearestOf_50 : decode b_Mo_dearestOf 50 = .ok (.imul, 1) := by decide +kernel
theorem d_Mo_dearestOf_51 : decode b_Mo_dearestOf 51 = .ok (.iload_n 3, 1) := by decide +kernel
theorem d_Mo_dearestOf_52 : decode b_Mo_dearestOf 52 = .ok (.iadd, 1) := by decide +kernel
theorem d_Mo_dearestOf_53 : decode b_Mo_dearestOf 53 = .ok (.iaload, 1) := by decide +kernel
theorem d_Mo_dearestOf_54 : decode b_Mo_dearestOf 54 = .ok (.aload_n 0, 1) := by decide +kernel
theorem d_Mo_dearestOf_55 : decode b_Mo_dearestOf 55 = .ok (.getfield 9, 3) := by decide +kernel
theorem d_Mo_dearestOf_58 : decode b_Mo_dearestOf 58 = .ok (.bipush 58, 2) := by decide +kernel
theorem d_Mo_dearestOf_60 : decode b_Mo_dearestOf 60 = .ok (.iload 4, 2) := by decide +kernel
theorem d_Mo_dearestOf_62 : decode b_Mo_dearestOf 62 = .ok (.iadd, 1) := by decide +kernel
theorem d_Mo_dearestOf_63 : decode b_Mo_dearestOf 63 = .ok (.iaload, 1) := by decide +kernel
theorem d_Mo_dearestOf_64 : decode b_Mo_dearestOf 64 = .ok (.imul, 1) := by decide +kernel
theorem d_Mo_dearestOf_65 : decode b_Mo_dearestOf 65 = .ok (.if_icmp .le 7, 3) := by decide +kernel
theorem d_Mo_dearestOf_68 : decode b_Mo_dearestOf 68 = .ok (.iconst 1, 1) := by decide +kernel
theorem d_Mo_dearestOf_69 : decode b_Mo_dearestOf 69 = .ok (.goto 4, 3) := by decide +kernel
theorem d_Mo_dearestOf_72 : decode b_Mo_dearestOf 72 = .ok (.iconst 0, 1) := by decide +kernel
theorem d_Mo_dearestOf_73 : decode b_Mo_dearestOf 73 = .ok (.istore 5, 2) := by decide +kernel
theorem d_Mo_dearestOf_75 : decode b_Mo_dearestOf 75 = .ok (.iload_n 2, 1) := by decide +kernel
theorem d_Mo_dearestOf_76 : decode b_Mo_dearestOf 76 = .ok (.iload 4, 2) := by decide +kernel
theorem d_Mo_dearestOf_78 : decode b_Mo_dearestOf 78 = .ok (.ishr, 1) := by decide +kernel
theorem d_Mo_dearestOf_79 : decode b_Mo_dearestOf 79 = .ok (.iconst 1, 1) := by decide +kernel
theorem d_Mo_dearestOf_80 : decode b_Mo_dearestOf 80 = .ok (.iand, 1) := by decide +kernel
theorem d_Mo_dearestOf_81 : decode b_Mo_dearestOf 81 = .ok (.iconst 1, 1) := by decide +kernel
theorem d_Mo_dearestOf_82 : decode b_Mo_dearestOf 82 = .ok (.if_icmp .ne 18, 3) := by decide +kernel
theorem d_Mo_dearestOf_85 : decode b_Mo_dearestOf 85 = .ok (.iload_n 3, 1) := by decide +kernel
theorem d_Mo_dearestOf_86 : decode b_Mo_dearestOf 86 = .ok (.iconst (-1), 1) := by decide +kernel
theorem d_Mo_dearestOf_87 : decode b_Mo_dearestOf 87 = .ok (.if_icmp .eq 8, 3) := by decide +kernel
theorem d_Mo_dearestOf_90 : decode b_Mo_dearestOf 90 = .ok (.iload 5, 2) := by decide +kernel
theorem d_Mo_dearestOf_92 : decode b_Mo_dearestOf 92 = .ok (.ifCond .eq 8, 3) := by decide +kernel
theorem d_Mo_dearestOf_95 : decode b_Mo_dearestOf 95 = .ok (.iload 4, 2) := by decide +kernel
theorem d_Mo_dearestOf_97 : decode b_Mo_dearestOf 97 = .ok (.goto 4, 3) := by decide +kernel
theorem d_Mo_dearestOf_100 : decode b_Mo_dearestOf 100 = .ok (.iload_n 3, 1) := by decide +kernel
theorem d_Mo_dearestOf_101 : decode b_Mo_dearestOf 101 = .ok (.istore_n 3, 1) := by decide +kernel
theorem d_Mo_dearestOf_102 : decode b_Mo_dearestOf 102 = .ok (.iinc 4 1, 3) := by decide +kernel
theorem d_Mo_dearestOf_105 : decode b_Mo_dearestOf 105 = .ok (.goto (-100), 3) := by decide +kernel
theorem d_Mo_dearestOf_108 : decode b_Mo_dearestOf 108 = .ok (.iload_n 3, 1) := by decide +kernel
theorem d_Mo_dearestOf_109 : decode b_Mo_dearestOf 109 = .ok (.ireturn, 1) := by decide +kernel
theorem o_Mo_dearestOf : OkV y_Mo_dearestOf "OwnsLiftModel" b_Mo_dearestOf 6 (some .int) 2 := ⟨⟨rfl, by decide +kernel, by decide +kernel, by decide +kernel⟩, g_1293, g_58, g_81, g_1294⟩
set_option maxHeartbeats 4000000 in
set_option maxRecDepth 100000 in
theorem c_Mo_dearestOf (l : Launch) (D : va_G) (g : Nat → ClassId) (a : Nat → Nat) (x1 : Int32) (x2 : Int32) (z : T_Mo) (v : Int32) (h : d_Mo_dearestOf x1 x2 z = some v) :
    MI l y_Mo_dearestOf b_Mo_dearestOf 6 .int ({ frames := 0, cells := 0, slots := 0, locals := 0 } : Room) D g [.ref (a 0), .int x1, .int x2] (ws_Mo g a z) (v) (ws_Mo g a z) := by
  have hd := h
  unfold d_Mo_dearestOf at hd
  refine enterI rfl (Nat.le_of_ble_eq_true rfl) (fun p e s m below meth c A ls hx hb hml hr hown hg hlk hK hA hP hD hS hCs hl => ?_)
  have hown : s.vm.findClass "OwnsLiftModel" = some m.cls := hown
  have hl : lv_has ls 6 [(0, .ref (a 0)), (1, .int x1), (2, .int x2)] := hl
  show GI p l e s m ({ frames := 0, cells := 0, slots := 0, locals := 0 } : Room) ([.ref (a 0), .int x1, .int x2] : List Value).toArray below meth c A D g (ws_Mo g a z) (v) s.heap [] (F0 m 0 ls [])
  refine lv_iconst (v := (-1)) hx hb d_Mo_dearestOf_0 (by decide) ?_
  refine lv_istore_n (lv' := [(3, .int (-1)), (0, .ref (a 0)), (1, .int x1), (2, .int x2)]) hx hb d_Mo_dearestOf_1 rfl hl (by decide) rfl (fun ls hl => ?_)
  refine lv_iconst (v := 0) hx hb d_Mo_dearestOf_2 (by decide) ?_
  refine lv_istore (lv' := [(4, .int 0), (3, .int (-1)), (0, .ref (a 0)), (1, .int x1), (2, .int x2)]) hx hb d_Mo_dearestOf_3 hl (by decide) rfl (fun ls hl => ?_)
  have lp5 : ∀ (x1_f5 : Int32) (x2_f5 : Int32) (n : Nat) (x3_5 : Int32) (x4_5 : Int32) (H : Heap) (locs : List Loc) (ls : Array Slot), va_P D classes (ws_Mo g a z) H → va_D A (ws_Mo g a z) → va_S A s.heap H locs → lv_has ls 6 [(0, .ref (a 0)), (1, .int x1_f5), (2, .int x2_f5), (3, .int x3_5), (4, .int x4_5)] → d_Mo_dearestOf_L5 x1_f5 x2_f5 z n x3_5 x4_5 = some v → GI p l e s m ({ frames := 0, cells := 0, slots := 0, locals := 0 } : Room) ([.ref (a 0), .int x1, .int x2] : List Value).toArray below meth c A D g (ws_Mo g a z) (v) H locs (F0 m 5 ls []) := by
    intro x1_f5 x2_f5 n
    induction n with
    | zero =>
      intro  x3_5 x4_5 H locs ls hP hD hS hl hd
      have hd : none = some v := hd
      cases hd
    | succ n ih5 =>
      intro  x3_5 x4_5 H locs ls hP hD hS hl hd
      have hd : B_Mo_dearestOf_L5 x1_f5 x2_f5 z (d_Mo_dearestOf_L5 x1_f5 x2_f5 z n) x3_5 x4_5 = some v := hd
      generalize d_Mo_dearestOf_L5 x1_f5 x2_f5 z n = self5 at ih5 hd
      unfold B_Mo_dearestOf_L5 at hd
      refine lv_iload hx hb d_Mo_dearestOf_5 (lv_at hl 4 rfl) ?_
      refine lv_aload_n hx hb d_Mo_dearestOf_7 rfl (lv_at hl 0 rfl) ?_
      refine va_get (D := D) (ci := 1) (v := .ref (a 1)) (C := R_Mo) (T := F_Mo) (N := 26) hx hb hg i_Mo hown hK hP 0 rfl rfl 1 (by decide) (hg _ g_993) (fun _ h9 => h9) rfl d_Mo_dearestOf_8 ?_
      refine lv_iconst (v := 1) hx hb d_Mo_dearestOf_11 (by decide) ?_
      refine ialdK hx hb hK hP 1 0 rfl rfl (inb_t (by decide +kernel)) (k := 1) (by decide +kernel) d_Mo_dearestOf_12 ?_
      refine lv_icmp_ge (tgt := 108) hx hb d_Mo_dearestOf_13 (by decide) (fun h_1 => ?_) (fun h_1 => ?_)
      · have hd := ite_t hd h_1
        refine lv_iload_n hx hb d_Mo_dearestOf_108 rfl (lv_at hl 3 rfl) ?_
        obtain rfl := Option.some.inj hd
        exact retI hx hb hr hlk hK hP hD hS d_Mo_dearestOf_109 rfl
      · have hd := ite_f hd h_1
        refine lv_iload_n hx hb d_Mo_dearestOf_16 rfl (lv_at hl 3 rfl) ?_
        refine lv_iconst (v := (-1)) hx hb d_Mo_dearestOf_17 (by decide) ?_
        refine lv_icmp_eq (tgt := 72) hx hb d_Mo_dearestOf_18 (by decide) (fun h_2 => ?_) (fun h_2 => ?_)
        · have hd := ite_t hd h_2
          refine lv_iconst (v := 0) hx hb d_Mo_dearestOf_72 (by decide) ?_
          refine lv_istore (lv' := [(5, .int 0), (0, .ref (a 0)), (1, .int x1_f5), (2, .int x2_f5), (3, .int x3_5), (4, .int x4_5)]) hx hb d_Mo_dearestOf_73 hl (by decide) rfl (fun ls hl => ?_)
          refine lv_iload_n hx hb d_Mo_dearestOf_75 rfl (lv_at hl 3 rfl) ?_
          refine lv_iload hx hb d_Mo_dearestOf_76 (lv_at hl 5 rfl) ?_
          refine lv_ishr hx hb d_Mo_dearestOf_78 ?_
          refine lv_iconst (v := 1) hx hb d_Mo_dearestOf_79 (by decide) ?_
          refine lv_iand hx hb d_Mo_dearestOf_80 ?_
          refine lv_iconst (v := 1) hx hb d_Mo_dearestOf_81 (by decide) ?_
          refine lv_icmp_ne (tgt := 100) hx hb d_Mo_dearestOf_82 (by decide) (fun h_3 => ?_) (fun h_3 => ?_)
          · have hd := ite_f hd h_3
            refine lv_iload_n hx hb d_Mo_dearestOf_100 rfl (lv_at hl 4 rfl) ?_
            refine lv_istore_n (lv' := [(3, .int x3_5), (5, .int 0), (0, .ref (a 0)), (1, .int x1_f5), (2, .int x2_f5), (4, .int x4_5)]) hx hb d_Mo_dearestOf_101 rfl hl (by decide) rfl (fun ls hl => ?_)
            refine lv_iinc (v := x4_5 + 1) (lv' := [(4, .int (x4_5 + 1)), (3, .int x3_5), (5, .int 0), (0, .ref (a 0)), (1, .int x1_f5), (2, .int x2_f5)]) hx hb d_Mo_dearestOf_102 hl (k := 5) rfl (by rfl) (by decide) rfl (fun ls hl => ?_)
            refine lv_goto (tgt := 5) hx hb d_Mo_dearestOf_105 (by decide) ?_
            exact ih5 x3_5 (x4_5 + 1) _ _ _ hP hD hS (lv_sub hl [3, 4, 5, 1, 0] rfl) hd
          · have hd := ite_t hd h_3
            refine lv_iload_n hx hb d_Mo_dearestOf_85 rfl (lv_at hl 4 rfl) ?_
            refine lv_iconst (v := (-1)) hx hb d_Mo_dearestOf_86 (by decide) ?_
            refine lv_icmp_eq (tgt := 95) hx hb d_Mo_dearestOf_87 (by decide) (fun h_4 => ?_) (fun h_4 => ?_)
            · have hd := ite_t hd h_4
              refine lv_iload hx hb d_Mo_dearestOf_95 (lv_at hl 5 rfl) ?_
              refine lv_goto (tgt := 101) hx hb d_Mo_dearestOf_97 (by decide) ?_
              refine lv_istore_n (lv' := [(3, .int x4_5), (5, .int 0), (0, .ref (a 0)), (1, .int x1_f5), (2, .int x2_f5), (4, .int x4_5)]) hx hb d_Mo_dearestOf_101 rfl hl (by decide) rfl (fun ls hl => ?_)
              refine lv_iinc (v := x4_5 + 1) (lv' := [(4, .int (x4_5 + 1)), (3, .int x4_5), (5, .int 0), (0, .ref (a 0)), (1, .int x1_f5), (2, .int x2_f5)]) hx hb d_Mo_dearestOf_102 hl (k := 5) rfl (by rfl) (by decide) rfl (fun ls hl => ?_)
              refine lv_goto (tgt := 5) hx hb d_Mo_dearestOf_105 (by decide) ?_
              exact ih5 x4_5 (x4_5 + 1) _ _ _ hP hD hS (lv_sub hl [3, 4, 5, 1, 0] rfl) hd
            · have hd := ite_f hd h_4
              refine lv_iload hx hb d_Mo_dearestOf_90 (lv_at hl 0 rfl) ?_
              refine lv_if_eq (tgt := 100) hx hb d_Mo_dearestOf_92 (by decide) (fun _ => ?_) (fun h9 => absurd (by decide) h9)
              refine lv_iload_n hx hb d_Mo_dearestOf_100 rfl (lv_at hl 4 rfl) ?_
              refine lv_istore_n (lv' := [(3, .int x3_5), (5, .int 0), (0, .ref (a 0)), (1, .int x1_f5), (2, .int x2_f5), (4, .int x4_5)]) hx hb d_Mo_dearestOf_101 rfl hl (by decide) rfl (fun ls hl => ?_)
              refine lv_iinc (v := x4_5 + 1) (lv' := [(4, .int (x4_5 + 1)), (3, .int x3_5), (5, .int 0), (0, .ref (a 0)), (1, .int x1_f5), (2, .int x2_f5)]) hx hb d_Mo_dearestOf_102 hl (k := 5) rfl (by rfl) (by decide) rfl (fun ls hl => ?_)
              refine lv_goto (tgt := 5) hx hb d_Mo_dearestOf_105 (by decide) ?_
              exact ih5 x3_5 (x4_5 + 1) _ _ _ hP hD hS (lv_sub hl [3, 4, 5, 1, 0] rfl) hd
        · have hd := ite_f hd h_2
          refine lv_aload_n hx hb d_Mo_dearestOf_21 rfl (lv_at hl 0 rfl) ?_
          refine va_get (D := D) (ci := 1) (v := .ref (a 6)) (C := R_Mo) (T := F_Mo) (N := 26) hx hb hg i_Mo hown hK hP 0 rfl rfl 12 (by decide) (hg _ g_1004) (fun _ h9 => h9) rfl d_Mo_dearestOf_22 ?_
          refine lv_bipush (v := 7) hx hb d_Mo_dearestOf_25 (by decide) ?_
          refine lv_iload_n hx hb d_Mo_dearestOf_27 rfl (lv_at hl 1 rfl) ?_
          refine lv_imul hx hb d_Mo_dearestOf_28 ?_
          refine lv_iload hx hb d_Mo_dearestOf_29 (lv_at hl 4 rfl) ?_
          refine lv_iadd hx hb d_Mo_dearestOf_31 ?_
          obtain ⟨h_13, hd⟩ := ite_s hd
          refine ialdK hx hb hK hP 6 0 rfl rfl (inb_t h_13) rfl d_Mo_dearestOf_32 ?_
          refine lv_aload_n hx hb d_Mo_dearestOf_33 rfl (lv_at hl 0 rfl) ?_
          refine va_get (D := D) (ci := 1) (v := .ref (a 1)) (C := R_Mo) (T := F_Mo) (N := 26) hx hb hg i_Mo hown hK hP 0 rfl rfl 1 (by decide) (hg _ g_993) (fun _ h9 => h9) rfl d_Mo_dearestOf_34 ?_
          refine lv_bipush (v := 58) hx hb d_Mo_dearestOf_37 (by decide) ?_
          refine lv_iload_n hx hb d_Mo_dearestOf_39 rfl (lv_at hl 3 rfl) ?_
          refine lv_iadd hx hb d_Mo_dearestOf_40 ?_
          obtain ⟨h_12, hd⟩ := ite_s hd
          refine ialdK hx hb hK hP 1 0 rfl rfl (inb_t h_12) rfl d_Mo_dearestOf_41 ?_
          refine lv_imul hx hb d_Mo_dearestOf_42 ?_
          refine lv_aload_n hx hb d_Mo_dearestOf_43 rfl (lv_at hl 0 rfl) ?_
          refine va_get (D := D) (ci := 1) (v := .ref (a 6)) (C := R_Mo) (T := F_Mo) (N := 26) hx hb hg i_Mo hown hK hP 0 rfl rfl 12 (by decide) (hg _ g_1004) (fun _ h9 => h9) rfl d_Mo_dearestOf_44 ?_
          refine lv_bipush (v := 7) hx hb d_Mo_dearestOf_47 (by decide) ?_
          refine lv_iload_n hx hb d_Mo_dearestOf_49 rfl (lv_at hl 1 rfl) ?_
          refine lv_imul hx hb d_Mo_dearestOf_50 ?_
          refine lv_iload_n hx hb d_Mo_dearestOf_51 rfl (lv_at hl 3 rfl) ?_
          refine lv_iadd hx hb d_Mo_dearestOf_52 ?_
          obtain ⟨h_11, hd⟩ := ite_s hd
          refine ialdK hx hb hK hP 6 0 rfl rfl (inb_t h_11) rfl d_Mo_dearestOf_53 ?_
          refine lv_aload_n hx hb d_Mo_dearestOf_54 rfl (lv_at hl 0 rfl) ?_
          refine va_get (D := D) (ci := 1) (v := .ref (a 1)) (C := R_Mo) (T := F_Mo) (N := 26) hx hb hg i_Mo hown hK hP 0 rfl rfl 1 (by decide) (hg _ g_993) (fun _ h9 => h9) rfl d_Mo_dearestOf_55 ?_
          refine lv_bipush (v := 58) hx hb d_Mo_dearestOf_58 (by decide) ?_
          refine lv_iload hx hb d_Mo_dearestOf_60 (lv_at hl 4 rfl) ?_
          refine lv_iadd hx hb d_Mo_dearestOf_62 ?_
          obtain ⟨h_10, hd⟩ := ite_s hd
          refine ialdK hx hb hK hP 1 0 rfl rfl (inb_t h_10) rfl d_Mo_dearestOf_63 ?_
          refine lv_imul hx hb d_Mo_dearestOf_64 ?_
          refine lv_icmp_le (tgt := 72) hx hb d_Mo_dearestOf_65 (by decide) (fun h_5 => ?_) (fun h_5 => ?_)
          · have hd := ite_t hd h_5
            refine lv_iconst (v := 0) hx hb d_Mo_dearestOf_72 (by decide) ?_
            refine lv_istore (lv' := [(5, .int 0), (0, .ref (a 0)), (1, .int x1_f5), (2, .int x2_f5), (3, .int x3_5), (4, .int x4_5)]) hx hb d_Mo_dearestOf_73 hl (by decide) rfl (fun ls hl => ?_)
            refine lv_iload_n hx hb d_Mo_dearestOf_75 rfl (lv_at hl 3 rfl) ?_
            refine lv_iload hx hb d_Mo_dearestOf_76 (lv_at hl 5 rfl) ?_
            refine lv_ishr hx hb d_Mo_dearestOf_78 ?_
            refine lv_iconst (v := 1) hx hb d_Mo_dearestOf_79 (by decide) ?_
            refine lv_iand hx hb d_Mo_dearestOf_80 ?_
            refine lv_iconst (v := 1) hx hb d_Mo_dearestOf_81 (by decide) ?_
            refine lv_icmp_ne (tgt := 100) hx hb d_Mo_dearestOf_82 (by decide) (fun h_6 => ?_) (fun h_6 => ?_)
            · have hd := ite_f hd h_6
              refine lv_iload_n hx hb d_Mo_dearestOf_100 rfl (lv_at hl 4 rfl) ?_
              refine lv_istore_n (lv' := [(3, .int x3_5), (5, .int 0), (0, .ref (a 0)), (1, .int x1_f5), (2, .int x2_f5), (4, .int x4_5)]) hx hb d_Mo_dearestOf_101 rfl hl (by decide) rfl (fun ls hl => ?_)
              refine lv_iinc (v := x4_5 + 1) (lv' := [(4, .int (x4_5 + 1)), (3, .int x3_5), (5, .int 0), (0, .ref (a 0)), (1, .int x1_f5), (2, .int x2_f5)]) hx hb d_Mo_dearestOf_102 hl (k := 5) rfl (by rfl) (by decide) rfl (fun ls hl => ?_)
              refine lv_goto (tgt := 5) hx hb d_Mo_dearestOf_105 (by decide) ?_
              exact ih5 x3_5 (x4_5 + 1) _ _ _ hP hD hS (lv_sub hl [3, 4, 5, 1, 0] rfl) hd
            · have hd := ite_t hd h_6
              refine lv_iload_n hx hb d_Mo_dearestOf_85 rfl (lv_at hl 4 rfl) ?_
              refine lv_iconst (v := (-1)) hx hb d_Mo_dearestOf_86 (by decide) ?_
              refine lv_icmp_eq (tgt := 95) hx hb d_Mo_dearestOf_87 (by decide) (fun h_7 => ?_) (fun h_7 => ?_)
              · have hd := ite_t hd h_7
                refine lv_iload hx hb d_Mo_dearestOf_95 (lv_at hl 5 rfl) ?_
                refine lv_goto (tgt := 101) hx hb d_Mo_dearestOf_97 (by decide) ?_
                refine lv_istore_n (lv' := [(3, .int x4_5), (5, .int 0), (0, .ref (a 0)), (1, .int x1_f5), (2, .int x2_f5), (4, .int x4_5)]) hx hb d_Mo_dearestOf_101 rfl hl (by decide) rfl (fun ls hl => ?_)
                refine lv_iinc (v := x4_5 + 1) (lv' := [(4, .int (x4_5 + 1)), (3, .int x4_5), (5, .int 0), (0, .ref (a 0)), (1, .int x1_f5), (2, .int x2_f5)]) hx hb d_Mo_dearestOf_102 hl (k := 5) rfl (by rfl) (by decide) rfl (fun ls hl => ?_)
                refine lv_goto (tgt := 5) hx hb d_Mo_dearestOf_105 (by decide) ?_
                exact ih5 x4_5 (x4_5 + 1) _ _ _ hP hD hS (lv_sub hl [3, 4, 5, 1, 0] rfl) hd
              · have hd := ite_f hd h_7
                refine lv_iload hx hb d_Mo_dearestOf_90 (lv_at hl 0 rfl) ?_
                refine lv_if_eq (tgt := 100) hx hb d_Mo_dearestOf_92 (by decide) (fun _ => ?_) (fun h9 => absurd (by decide) h9)
                refine lv_iload_n hx hb d_Mo_dearestOf_100 rfl (lv_at hl 4 rfl) ?_
                refine lv_istore_n (lv' := [(3, .int x3_5), (5, .int 0), (0, .ref (a 0)), (1, .int x1_f5), (2, .int x2_f5), (4, .int x4_5)]) hx hb d_Mo_dearestOf_101 rfl hl (by decide) rfl (fun ls hl => ?_)
                refine lv_iinc (v := x4_5 + 1) (lv' := [(4, .int (x4_5 + 1)), (3, .int x3_5), (5, .int 0), (0, .ref (a 0)), (1, .int x1_f5), (2, .int x2_f5)]) hx hb d_Mo_dearestOf_102 hl (k := 5) rfl (by rfl) (by decide) rfl (fun ls hl => ?_)
                refine lv_goto (tgt := 5) hx hb d_Mo_dearestOf_105 (by decide) ?_
                exact ih5 x3_5 (x4_5 + 1) _ _ _ hP hD hS (lv_sub hl [3, 4, 5, 1, 0] rfl) hd
          · have hd := ite_f hd h_5
            refine lv_iconst (v := 1) hx hb d_Mo_dearestOf_68 (by decide) ?_
            refine lv_goto (tgt := 73) hx hb d_Mo_dearestOf_69 (by decide) ?_
            refine lv_istore (lv' := [(5, .int 1), (0, .ref (a 0)), (1, .int x1_f5), (2, .int x2_f5), (3, .int x3_5), (4, .int x4_5)]) hx hb d_Mo_dearestOf_73 hl (by decide) rfl (fun ls hl => ?_)
            refine lv_iload_n hx hb d_Mo_dearestOf_75 rfl (lv_at hl 3 rfl) ?_
            refine lv_iload hx hb d_Mo_dearestOf_76 (lv_at hl 5 rfl) ?_
            refine lv_ishr hx hb d_Mo_dearestOf_78 ?_
            refine lv_iconst (v := 1) hx hb d_Mo_dearestOf_79 (by decide) ?_
            refine lv_iand hx hb d_Mo_dearestOf_80 ?_
            refine lv_iconst (v := 1) hx hb d_Mo_dearestOf_81 (by decide) ?_
            refine lv_icmp_ne (tgt := 100) hx hb d_Mo_dearestOf_82 (by decide) (fun h_8 => ?_) (fun h_8 => ?_)
            · have hd := ite_f hd h_8
              refine lv_iload_n hx hb d_Mo_dearestOf_100 rfl (lv_at hl 4 rfl) ?_
              refine lv_istore_n (lv' := [(3, .int x3_5), (5, .int 1), (0, .ref (a 0)), (1, .int x1_f5), (2, .int x2_f5), (4, .int x4_5)]) hx hb d_Mo_dearestOf_101 rfl hl (by decide) rfl (fun ls hl => ?_)
              refine lv_iinc (v := x4_5 + 1) (lv' := [(4, .int (x4_5 + 1)), (3, .int x3_5), (5, .int 1), (0, .ref (a 0)), (1, .int x1_f5), (2, .int x2_f5)]) hx hb d_Mo_dearestOf_102 hl (k := 5) rfl (by rfl) (by decide) rfl (fun ls hl => ?_)
              refine lv_goto (tgt := 5) hx hb d_Mo_dearestOf_105 (by decide) ?_
              exact ih5 x3_5 (x4_5 + 1) _ _ _ hP hD hS (lv_sub hl [3, 4, 5, 1, 0] rfl) hd
            · have hd := ite_t hd h_8
              refine lv_iload_n hx hb d_Mo_dearestOf_85 rfl (lv_at hl 4 rfl) ?_
              refine lv_iconst (v := (-1)) hx hb d_Mo_dearestOf_86 (by decide) ?_
              refine lv_icmp_eq (tgt := 95) hx hb d_Mo_dearestOf_87 (by decide) (fun h_9 => ?_) (fun h_9 => ?_)
              · have hd := ite_t hd h_9
                refine lv_iload hx hb d_Mo_dearestOf_95 (lv_at hl 5 rfl) ?_
                refine lv_goto (tgt := 101) hx hb d_Mo_dearestOf_97 (by decide) ?_
                refine lv_istore_n (lv' := [(3, .int x4_5), (5, .int 1), (0, .ref (a 0)), (1, .int x1_f5), (2, .int x2_f5), (4, .int x4_5)]) hx hb d_Mo_dearestOf_101 rfl hl (by decide) rfl (fun ls hl => ?_)
                refine lv_iinc (v := x4_5 + 1) (lv' := [(4, .int (x4_5 + 1)), (3, .int x4_5), (5, .int 1), (0, .ref (a 0)), (1, .int x1_f5), (2, .int x2_f5)]) hx hb d_Mo_dearestOf_102 hl (k := 5) rfl (by rfl) (by decide) rfl (fun ls hl => ?_)
                refine lv_goto (tgt := 5) hx hb d_Mo_dearestOf_105 (by decide) ?_
                exact ih5 x4_5 (x4_5 + 1) _ _ _ hP hD hS (lv_sub hl [3, 4, 5, 1, 0] rfl) hd
              · have hd := ite_f hd h_9
                refine lv_iload hx hb d_Mo_dearestOf_90 (lv_at hl 0 rfl) ?_
                refine lv_if_eq (tgt := 100) hx hb d_Mo_dearestOf_92 (by decide) (fun h9 => absurd h9 (by decide)) (fun _ => ?_)
                refine lv_iload hx hb d_Mo_dearestOf_95 (lv_at hl 5 rfl) ?_
                refine lv_goto (tgt := 101) hx hb d_Mo_dearestOf_97 (by decide) ?_
                refine lv_istore_n (lv' := [(3, .int x4_5), (5, .int 1), (0, .ref (a 0)), (1, .int x1_f5), (2, .int x2_f5), (4, .int x4_5)]) hx hb d_Mo_dearestOf_101 rfl hl (by decide) rfl (fun ls hl => ?_)
                refine lv_iinc (v := x4_5 + 1) (lv' := [(4, .int (x4_5 + 1)), (3, .int x4_5), (5, .int 1), (0, .ref (a 0)), (1, .int x1_f5), (2, .int x2_f5)]) hx hb d_Mo_dearestOf_102 hl (k := 5) rfl (by rfl) (by decide) rfl (fun ls hl => ?_)
                refine lv_goto (tgt := 5) hx hb d_Mo_dearestOf_105 (by decide) ?_
                exact ih5 x4_5 (x4_5 + 1) _ _ _ hP hD hS (lv_sub hl [3, 4, 5, 1, 0] rfl) hd
  exact lp5 x1 x2 1000 (-1) 0 _ _ _ hP hD hS (lv_sub hl [2, 3, 4, 1, 0] rfl) hd
-- OwnsLiftModel.parts(II)J
def B_Mo_parts_L42 (x1_f42 : Int32) (x2_f42 : Int32) (z_f42 : T_Mo) (k42_142 : Int64 → Option (Int64 × T_Mo)) (self42 : Int32 → Int32 → Int64 → Option (Int64 × T_Mo)) (x3_42 : Int32) (x4_42 : Int32) (x5_42 : Int64) : Option (Int64 × T_Mo) :=
  if x3_42 = 0 then (k42_142 x5_42) else ((d_Mo_dearestOf x1_f42 x3_42 z_f42).bind fun v_12 => if inb (58 + v_12) 901 = true then (if ((q_Mo_s z_f42) (58 + v_12).toNatClampNeg) ≤ x4_42 then (if inb ((7 * x1_f42) + v_12) 28 = true then (self42 (x3_42 &&& (((1 : Int32) <<< (v_12 &&& 31)) ^^^ (-1))) (x4_42 - ((q_Mo_s z_f42) (58 + v_12).toNatClampNeg)) (x5_42 + (((q_Mo_likes z_f42) ((7 * x1_f42) + v_12).toNatClampNeg : Int32).toInt64))) else none) else (if inb ((7 * x1_f42) + v_12) 28 = true then ((d_Mo_lowest ((x5_42 * (((q_Mo_s z_f42) (58 + v_12).toNatClampNeg : Int32).toInt64)) + ((((q_Mo_likes z_f42) ((7 * x1_f42) + v_12).toNatClampNeg : Int32).toInt64) * ((x4_42 : Int32).toInt64))) (((q_Mo_s z_f42) (58 + v_12).toNatClampNeg : Int32).toInt64) x2_f42).bind fun v_16 => some (v_16, z_f42)) else none)) else none)
def d_Mo_parts_L42 (x1_f42 : Int32) (x2_f42 : Int32) (z_f42 : T_Mo) (k42_142 : Int64 → Option (Int64 × T_Mo)) (n : Nat) : Int32 → Int32 → Int64 → Option (Int64 × T_Mo) := recN (fun _ _ _ => none) (fun self => B_Mo_parts_L42 x1_f42 x2_f42 z_f42 k42_142 self) n
def d_Mo_parts (x1 : Int32) (x2 : Int32) (z : T_Mo) : Option (Int64 × T_Mo) :=
  (d_Mo_isPerson x1 z).bind fun v_1 => if v_1 = 0 then (some ((-9223372036854775808), z)) else ((d_Mo_in x2 0 1).bind fun v_4 => if v_4 = 0 then (some ((-9223372036854775808), z)) else ((d_Mo_looksForAll z).bind fun v_7 => (d_Mo_thingsOf x1 v_7).bind fun v_9 => if inb x1 4 = true then (d_Mo_parts_L42 x1 x2 v_7 (fun x5_42 => if x2 = 0 then (some (x5_42, v_7)) else (some (1, v_7))) 1000 v_9 ((q_Mo_lifts v_7) x1.toNatClampNeg) 0) else none))
theorem d_Mo_parts_0 : decode b_Mo_parts 0 = .ok (.aload_n 0, 1) := by decide +kernel
theorem d_Mo_parts_1 : decode b_Mo_parts 1 = .ok (.iload_n 1, 1) := by decide +kernel
theorem d_Mo_parts_2 : decode b_Mo_parts 2 = .ok (.invokevirtual 147, 3) := by decide +kernel
theorem d_Mo_parts_5 : decode b_Mo_parts 5 = .ok (.ifCond .eq 12, 3) := by decide +kernel
theorem d_Mo_parts_8 : decode b_Mo_parts 8 = .ok (.iload_n 2, 1) := by decide +kernel
theorem d_Mo_parts_9 : decode b_Mo_parts 9 = .ok (.iconst 0, 1) := by decide +kernel
theorem d_Mo_parts_10 : decode b_Mo_parts 10 = .ok (.iconst 1, 1) := by decide +kernel
theorem d_Mo_parts_11 : decode b_Mo_parts 11 = .ok (.invokestatic 50, 3) := by decide +kernel
theorem d_Mo_parts_14 : decode b_Mo_parts 14 = .ok (.ifCond .ne 7, 3) := by decide +kernel
theorem d_Mo_parts_17 : decode b_Mo_parts 17 = .ok (.ldc2_w 210, 3) := by decide +kernel
theorem d_Mo_parts_20 : decode b_Mo_parts 20 = .ok (.lreturn, 1) := by decide +kernel
theorem d_Mo_parts_21 : decode b_Mo_parts 21 = .ok (.aload_n 0, 1) := by decide +kernel
theorem d_Mo_parts_22 : decode b_Mo_parts 22 = .ok (.invokevirtual 178, 3) := by decide +kernel
theorem d_Mo_parts_25 : decode b_Mo_parts 25 = .ok (.aload_n 0, 1) := by decide +kernel
theorem d_Mo_parts_26 : decode b_Mo_parts 26 = .ok (.iload_n 1, 1) := by decide +kernel
theorem d_Mo_parts_27 : decode b_Mo_parts 27 = .ok (.invokevirtual 157, 3) := by decide +kernel
theorem d_Mo_parts_30 : decode b_Mo_parts 30 = .ok (.istore_n 3, 1) := by decide +kernel
theorem d_Mo_parts_31 : decode b_Mo_parts 31 = .ok (.aload_n 0, 1) := by decide +kernel
theorem d_Mo_parts_32 : decode b_Mo_parts 32 = .ok (.getfield 31, 3) := by decide +kernel
theorem d_Mo_parts_35 : decode b_Mo_parts 35 = .ok (.iload_n 1, 1) := by decide +kernel
theorem d_Mo_parts_36 : decode b_Mo_parts 36 = .ok (.iaload, 1) := by decide +kernel
theorem d_Mo_parts_37 : decode b_Mo_parts 37 = .ok (.istore 4, 2) := by decide +kernel
theorem d_Mo_parts_39 : decode b_Mo_parts 39 = .ok (.lconst 0, 1) := by decide +kernel
theorem d_Mo_parts_40 : decode b_Mo_parts 40 = .ok (.lstore 5, 2) := by decide +kernel
theorem d_Mo_parts_42 : decode b_Mo_parts 42 = .ok (.iload_n 3, 1) := by decide +kernel
theorem d_Mo_parts_43 : decode b_Mo_parts 43 = .ok (.ifCond .eq 99, 3) := by decide +kernel
theorem d_Mo_parts_46 : decode b_Mo_parts 46 = .ok (.aload_n 0, 1) := by decide +kernel
theorem d_Mo_parts_47 : decode b_Mo_parts 47 = .ok (.iload_n 1, 1) := by decide +kernel
theorem d_Mo_parts_48 : decode b_Mo_parts 48 = .ok (.iload_n 3, 1) := by decide +kernel
theorem d_Mo_parts_49 : decode b_Mo_parts 49 = .ok (.invokevirtual 212, 3) := by decide +kernel
theorem d_Mo_parts_52 : decode b_Mo_parts 52 = .ok (.istore 7, 2) := by decide +kernel
theorem d_Mo_parts_54 : decode b_Mo_parts 54 = .ok (.aload_n 0, 1) := by decide +kernel
theorem d_Mo_parts_55 : decode b_Mo_parts 55 = .ok (.getfield 9, 3) := by decide +kernel
theorem d_Mo_parts_58 : decode b_Mo_parts 58 = .ok (.bipush 58, 2) := by decide +kernel
theorem d_Mo_parts_60 : decode b_Mo_parts 60 = .ok (.iload 7, 2) := by decide +kernel
theorem d_Mo_parts_62 : decode b_Mo_parts 62 = .ok (.iadd, 1) := by decide +kernel
theorem d_Mo_parts_63 : decode b_Mo_parts 63 = .ok (.iaload, 1) := by decide +kernel
theorem d_Mo_parts_64 : decode b_Mo_parts 64 = .ok (.istore 8, 2) := by decide +kernel
theorem d_Mo_parts_66 : decode b_Mo_parts 66 = .ok (.iload 8, 2) := by decide +kernel
theorem d_Mo_parts_68 : decode b_Mo_parts 68 = .ok (.iload 4, 2) := by decide +kernel
theorem d_Mo_parts_70 : decode b_Mo_parts 70 = .ok (.if_icmp .le 35, 3) := by decide +kernel
theorem d_Mo_parts_73 : decode b_Mo_parts 73 = .ok (.lload 5, 2) := by decide +kernel
theorem d_Mo_parts_75 : decode b_Mo_parts 75 = .ok (.iload 8, 2) := by decide +kernel
theorem d_Mo_parts_77 : decode b_Mo_parts 77 = .ok (.i2l, 1) := by decide +kernel
theorem d_Mo_parts_78 : decode b_Mo_parts 78 = .ok (.lmul, 1) := by decide +kernel
theorem d_Mo_parts_79 : decode b_Mo_parts 79 = .ok (.aload_n 0, 1) := by decide +kernel
theorem d_Mo_parts_80 : decode b_Mo_parts 80 = .ok (.getfield 28, 3) := by decide +kernel
theorem d_Mo_parts_83 : decode b_Mo_parts 83 = .ok (.bipush 7, 2) := by decide +kernel
theorem d_Mo_parts_85 : decode b_Mo_parts 85 = .ok (.iload_n 1, 1) := by decide +kernel
theorem d_Mo_parts_86 : decode b_Mo_parts 86 = .ok (.imul, 1) := by decide +kernel
theorem d_Mo_parts_87 : decode b_Mo_parts 87 = .ok (.iload 7, 2) := by decide +kernel
theorem d_Mo_parts_89 : decode b_Mo_parts 89 = .ok (.iadd, 1) := by decide +kernel
theorem d_Mo_parts_90 : decode b_Mo_parts 90 = .ok (.iaload, 1) := by decide +kernel
theorem d_Mo_parts_91 : decode b_Mo_parts 91 = .ok (.i2l, 1) := by decide +kernel
theorem d_Mo_parts_92 : decode b_Mo_parts 92 = .ok (.iload 4, 2) := by decide +kernel
theorem d_Mo_parts_94 : decode b_Mo_parts 94 = .ok (.i2l, 1) := by decide +kernel
theorem d_Mo_parts_95 : decode b_Mo_parts 95 = .ok (.lmul, 1) := by decide +kernel
theorem d_Mo_parts_96 : decode b_Mo_parts 96 = .ok (.ladd, 1) := by decide +kernel
theorem d_Mo_parts_97 : decode b_Mo_parts 97 = .ok (.iload 8, 2) := by decide +kernel
theorem d_Mo_parts_99 : decode b_Mo_parts 99 = .ok (.i2l, 1) := by decide +kernel
theorem d_Mo_parts_100 : decode b_Mo_parts 100 = .ok (.iload_n 2, 1) := by decide +kernel
theorem d_Mo_parts_101 : decode b_Mo_parts 101 = .ok (.invokestatic 215, 3) := by decide +kernel
theorem d_Mo_parts_104 : decode b_Mo_parts 104 = .ok (.lreturn, 1) := by decide +kernel
theorem d_Mo_parts_105 : decode b_Mo_parts 105 = .ok (.iload 4, 2) := by decide +kernel
theorem d_Mo_parts_107 : decode b_Mo_parts 107 = .ok (.iload 8, 2) := by decide +kernel
theorem d_Mo_parts_109 : decode b_Mo_parts 109 = .ok (.isub, 1) := by decide +kernel
theorem d_Mo_parts_110 : decode b_Mo_parts 110 = .ok (.istore 4, 2) := by decide +kernel
theorem d_Mo_parts_112 : decode b_Mo_parts 112 = .ok (.lload 5, 2) := by decide +kernel
theorem d_Mo_parts_114 : decode b_Mo_parts 114 = .ok (.aload_n 0, 1) := by decide +kernel
theorem d_Mo_parts_115 : decode b_Mo_parts 115 = .ok (.getfield 28, 3) := by decide +kernel
theorem d_Mo_parts_118 : decode b_Mo_parts 118 = .ok (.bipush 7, 2) := by decide +kernel
theorem d_Mo_parts_120 : decode b_Mo_parts 120 = .ok (.iload_n 1, 1) := by decide +kernel
theorem d_Mo_parts_121 : decode b_Mo_parts 121 = .ok (.imul, 1) := by decide +kernel
theorem d_Mo_parts_122 : decode b_Mo_parts 122 = .ok (.iload 7, 2) := by decide +kernel
theorem d_Mo_parts_124 : decode b_Mo_parts 124 = .ok (.iadd, 1) := by decide +kernel
theorem d_Mo_parts_125 : decode b_Mo_parts 125 = .ok (.iaload, 1) := by decide +kernel
theorem d_Mo_parts_126 : decode b_Mo_parts 126 = .ok (.i2l, 1) := by decide +kernel
theorem d_Mo_parts_127 : decode b_Mo_parts 127 = .ok (.ladd, 1) := by decide +kernel
theorem d_Mo_parts_128 : decode b_Mo_parts 128 = .ok (.lstore 5, 2) := by decide +kernel
theorem d_Mo_parts_130 : decode b_Mo_parts 130 = .ok (.iload_n 3, 1) := by decide +kernel
theorem d_Mo_parts_131 : decode b_Mo_parts 131 = .ok (.iconst 1, 1) := by decide +kernel
theorem d_Mo_parts_132 : decode b_Mo_parts 132 = .ok (.iload 7, 2) := by decide +kernel
theorem d_Mo_parts_134 : decode b_Mo_parts 134 = .ok (.ishl, 1) := by decide +kernel
theorem d_Mo_parts_135 : decode b_Mo_parts 135 = .ok (.iconst (-1), 1) := by decide +kernel
theorem d_Mo_parts_136 : decode b_Mo_parts 136 = .ok (.ixor, 1) := by decide +kernel
theorem d_Mo_parts_137 : decode b_Mo_parts 137 = .ok (.iand, 1) := by decide +kernel
theorem d_Mo_parts_138 : decode b_Mo_parts 138 = .ok (.istore_n 3, 1) := by decide +kernel
theorem d_Mo_parts_139 : decode b_Mo_parts 139 = .ok (.goto (-97), 3) := by decide +kernel
theorem d_Mo_parts_142 : decode b_Mo_parts 142 = .ok (.iload_n 2, 1) := by decide +kernel
theorem d_Mo_parts_143 : decode b_Mo_parts 143 = .ok (.ifCond .ne 8, 3) := by decide +kernel
theorem d_Mo_parts_146 : decode b_Mo_parts 146 = .ok (.lload 5, 2) := by decide +kernel
theorem d_Mo_parts_148 : decode b_Mo_parts 148 = .ok (.goto 4, 3) := by decide +kernel
theorem d_Mo_parts_151 : decode b_Mo_parts 151 = .ok (.lconst 1, 1) := by decide +kernel
theorem d_Mo_parts_152 : decode b_Mo_parts 152 = .ok (.lreturn, 1) := by decide +kernel
theorem o_Mo_parts : OkV y_Mo_parts "OwnsLiftModel" b_Mo_parts 9 (some .long) 2 := ⟨⟨rfl, by decide +kernel, by decide +kernel, by decide +kernel⟩, g_1287, g_1288, g_81, g_1289⟩
set_option maxHeartbeats 4000000 in
set_option maxRecDepth 100000 in
theorem c_Mo_parts (l : Launch) (D : va_G) (g : Nat → ClassId) (a : Nat → Nat) (x1 : Int32) (x2 : Int32) (z : T_Mo) (v : Int64 × T_Mo) (h : d_Mo_parts x1 x2 z = some v) :
    ML l y_Mo_parts b_Mo_parts 9 ({ frames := 4, cells := 0, slots := 0, locals := 97 } : Room) D g [.ref (a 0), .int x1, .int x2] (ws_Mo g a z) (v.1) (ws_Mo g a v.2) := by
  have hd := h
  unfold d_Mo_parts at hd
  refine enterL rfl (Nat.le_of_ble_eq_true rfl) (fun p e s m below meth c A ls hx hb hml hr hown hg hlk hK hA hP hD hS hCs hl => ?_)
  have hown : s.vm.findClass "OwnsLiftModel" = some m.cls := hown
  have hl : lv_has ls 9 [(0, .ref (a 0)), (1, .int x1), (2, .int x2)] := hl
  show GL p l e s m ({ frames := 4, cells := 0, slots := 0, locals := 97 } : Room) ([.ref (a 0), .int x1, .int x2] : List Value).toArray below meth c A D g (ws_Mo g a v.2) (v.1) s.heap [] (F0 m 0 ls [])
  refine lv_aload_n hx hb d_Mo_parts_0 rfl (lv_at hl 0 rfl) ?_
  refine lv_iload_n hx hb d_Mo_parts_1 rfl (lv_at hl 1 rfl) ?_
  obtain ⟨v_1, e_2, hd⟩ := bind_s hd
  refine callVI (ws' := ws_Mo g a z) (rest := []) (As := [.int x1]) hx hb hml hown hg hK hP hD hS hA hCs hl.1 (c_Mo_isPerson l D g a x1 z _ e_2) o_Mo_isPerson g_1147 (ci := 1) (q0 := 0) rfl rfl (List.range' 0 12) (segC1 rfl rfl) (by decide) rfl (segP1 rfl rfl) rfl rfl (Nat.le_of_ble_eq_true rfl) ⟨rfl, rfl, Nat.le_of_ble_eq_true rfl, Nat.le_of_ble_eq_true rfl⟩ d_Mo_parts_2 (fun H locs hP hD hS => ?_)
  refine lv_if_eq (tgt := 17) hx hb d_Mo_parts_5 (by decide) (fun h_3 => ?_) (fun h_3 => ?_)
  · have hd := ite_t hd h_3
    refine lv_ldc2 (v := (-9223372036854775808)) hx hb hown (hg _ g_1290) d_Mo_parts_17 ?_
    obtain rfl := Option.some.inj hd
    exact retL hx hb hr hlk hK hP hD hS d_Mo_parts_20 rfl
  · have hd := ite_f hd h_3
    refine lv_iload_n hx hb d_Mo_parts_8 rfl (lv_at hl 2 rfl) ?_
    refine lv_iconst (v := 0) hx hb d_Mo_parts_9 (by decide) ?_
    refine lv_iconst (v := 1) hx hb d_Mo_parts_10 (by decide) ?_
    obtain ⟨v_4, e_5, hd⟩ := bind_s hd
    refine callSI (ws' := ws_Mo g a z) (rest := []) (As := [.int x2, .int 0, .int 1]) hx hb hml hown hg hK hP hD hS hA hCs hl.1 (c_Mo_in l D g  x2 0 1 _ e_5) o_Mo_in g_1076 [] segC0 rfl rfl segP0 rfl rfl (Nat.le_of_ble_eq_true rfl) ⟨rfl, rfl, Nat.le_of_ble_eq_true rfl, Nat.le_of_ble_eq_true rfl⟩ d_Mo_parts_11 (fun H locs hP hD hS => ?_)
    refine lv_if_ne (tgt := 21) hx hb d_Mo_parts_14 (by decide) (fun h_6 => ?_) (fun h_6 => ?_)
    · have hd := ite_f hd h_6
      refine lv_aload_n hx hb d_Mo_parts_21 rfl (lv_at hl 0 rfl) ?_
      obtain ⟨v_7, e_8, hd⟩ := bind_s hd
      refine callVV (ws' := ws_Mo g a v_7) (rest := []) (As := []) hx hb hml hown hg hK hP hD hS hA hCs hl.1 (c_Mo_looksForAll l D g a z _ e_8) o_Mo_looksForAll g_1218 (ci := 1) (q0 := 0) rfl rfl (List.range' 0 12) (segC1 rfl rfl) (by decide) rfl (segP1 rfl rfl) rfl rfl (Nat.le_of_ble_eq_true rfl) ⟨rfl, rfl, Nat.le_of_ble_eq_true rfl, Nat.le_of_ble_eq_true rfl⟩ d_Mo_parts_22 (fun H locs hP hD hS => ?_)
      refine lv_aload_n hx hb d_Mo_parts_25 rfl (lv_at hl 0 rfl) ?_
      refine lv_iload_n hx hb d_Mo_parts_26 rfl (lv_at hl 1 rfl) ?_
      obtain ⟨v_9, e_10, hd⟩ := bind_s hd
      refine callVI (ws' := ws_Mo g a v_7) (rest := []) (As := [.int x1]) hx hb hml hown hg hK hP hD hS hA hCs hl.1 (c_Mo_thingsOf l D g a x1 v_7 _ e_10) o_Mo_thingsOf g_1171 (ci := 1) (q0 := 0) rfl rfl (List.range' 0 12) (segC1 rfl rfl) (by decide) rfl (segP1 rfl rfl) rfl rfl (Nat.le_of_ble_eq_true rfl) ⟨rfl, rfl, Nat.le_of_ble_eq_true rfl, Nat.le_of_ble_eq_true rfl⟩ d_Mo_parts_27 (fun H locs hP hD hS => ?_)
      refine lv_istore_n (lv' := [(3, .int v_9), (0, .ref (a 0)), (1, .int x1), (2, .int x2)]) hx hb d_Mo_parts_30 rfl hl (by decide) rfl (fun ls hl => ?_)
      refine lv_aload_n hx hb d_Mo_parts_31 rfl (lv_at hl 1 rfl) ?_
      refine va_get (D := D) (ci := 1) (v := .ref (a 7)) (C := R_Mo) (T := F_Mo) (N := 26) hx hb hg i_Mo hown hK hP 0 rfl rfl 13 (by decide) (hg _ g_1005) (fun _ h9 => h9) rfl d_Mo_parts_32 ?_
      refine lv_iload_n hx hb d_Mo_parts_35 rfl (lv_at hl 2 rfl) ?_
      obtain ⟨h_21, hd⟩ := ite_s hd
      refine ialdK hx hb hK hP 7 0 rfl rfl (inb_t h_21) rfl d_Mo_parts_36 ?_
      refine lv_istore (lv' := [(4, .int ((q_Mo_lifts v_7) x1.toNatClampNeg)), (3, .int v_9), (0, .ref (a 0)), (1, .int x1), (2, .int x2)]) hx hb d_Mo_parts_37 hl (by decide) rfl (fun ls hl => ?_)
      refine lv_lconst (v := 0) hx hb d_Mo_parts_39 (by decide) ?_
      refine lv_lstore (lv' := [(5, .long 0), (4, .int ((q_Mo_lifts v_7) x1.toNatClampNeg)), (3, .int v_9), (0, .ref (a 0)), (1, .int x1), (2, .int x2)]) hx hb d_Mo_parts_40 hl (by decide) rfl (fun ls hl => ?_)
      have ex42_142 : ∀ (x5_42 : Int64) (H : Heap) (locs : List Loc) (ls : Array Slot), va_P D classes (ws_Mo g a v_7) H → va_D A (ws_Mo g a v_7) → va_S A s.heap H locs → lv_has ls 9 [(2, .int x2), (5, .long x5_42)] → (if x2 = 0 then (some (x5_42, v_7)) else (some (1, v_7))) = some v → GL p l e s m ({ frames := 4, cells := 0, slots := 0, locals := 97 } : Room) ([.ref (a 0), .int x1, .int x2] : List Value).toArray below meth c A D g (ws_Mo g a v.2) (v.1) H locs (F0 m 142 ls []) := by
        intro x5_42 H locs ls hP hD hS hl hd
        refine lv_iload_n hx hb d_Mo_parts_142 rfl (lv_at hl 0 rfl) ?_
        refine lv_if_ne (tgt := 151) hx hb d_Mo_parts_143 (by decide) (fun h_20 => ?_) (fun h_20 => ?_)
        · have hd := ite_f hd h_20
          refine lv_lconst (v := 1) hx hb d_Mo_parts_151 (by decide) ?_
          obtain rfl := Option.some.inj hd
          exact retL hx hb hr hlk hK hP hD hS d_Mo_parts_152 rfl
        · have hd := ite_t hd h_20
          refine lv_lload hx hb d_Mo_parts_146 (lv_at hl 1 rfl) ?_
          refine lv_goto (tgt := 152) hx hb d_Mo_parts_148 (by decide) ?_
          obtain rfl := Option.some.inj hd
          exact retL hx hb hr hlk hK hP hD hS d_Mo_parts_152 rfl
      have lp42 : ∀ (x1_f42 : Int32) (x2_f42 : Int32) (z_f42 : T_Mo) (k42_142 : Int64 → Option (Int64 × T_Mo)) (hk42_142 : ∀ (x5_42 : Int64) (H : Heap) (locs : List Loc) (ls : Array Slot), va_P D classes (ws_Mo g a z_f42) H → va_D A (ws_Mo g a z_f42) → va_S A s.heap H locs → lv_has ls 9 [(2, .int x2_f42), (5, .long x5_42)] → k42_142 x5_42 = some v → GL p l e s m ({ frames := 4, cells := 0, slots := 0, locals := 97 } : Room) ([.ref (a 0), .int x1, .int x2] : List Value).toArray below meth c A D g (ws_Mo g a v.2) (v.1) H locs (F0 m 142 ls [])) (n : Nat) (x3_42 : Int32) (x4_42 : Int32) (x5_42 : Int64) (H : Heap) (locs : List Loc) (ls : Array Slot), va_P D classes (ws_Mo g a z_f42) H → va_D A (ws_Mo g a z_f42) → va_S A s.heap H locs → lv_has ls 9 [(0, .ref (a 0)), (1, .int x1_f42), (2, .int x2_f42), (3, .int x3_42), (4, .int x4_42), (5, .long x5_42)] → d_Mo_parts_L42 x1_f42 x2_f42 z_f42 k42_142 n x3_42 x4_42 x5_42 = some v → GL p l e s m ({ frames := 4, cells := 0, slots := 0, locals := 97 } : Room) ([.ref (a 0), .int x1, .int x2] : List Value).toArray below meth c A D g (ws_Mo g a v.2) (v.1) H locs (F0 m 42 ls []) := by
        intro x1_f42 x2_f42 z_f42 k42_142 hk42_142 n
        induction n with
        | zero =>
          intro  x3_42 x4_42 x5_42 H locs ls hP hD hS hl hd
          have hd : none = some v := hd
          cases hd
        | succ n ih42 =>
          intro  x3_42 x4_42 x5_42 H locs ls hP hD hS hl hd
          have hd : B_Mo_parts_L42 x1_f42 x2_f42 z_f42 k42_142 (d_Mo_parts_L42 x1_f42 x2_f42 z_f42 k42_142 n) x3_42 x4_42 x5_42 = some v := hd
          generalize d_Mo_parts_L42 x1_f42 x2_f42 z_f42 k42_142 n = self42 at ih42 hd
          unfold B_Mo_parts_L42 at hd
          refine lv_iload_n hx hb d_Mo_parts_42 rfl (lv_at hl 3 rfl) ?_
          refine lv_if_eq (tgt := 142) hx hb d_Mo_parts_43 (by decide) (fun h_11 => ?_) (fun h_11 => ?_)
          · have hd := ite_t hd h_11
            exact hk42_142 x5_42 _ _ _ hP hD hS (lv_sub hl [2, 5] rfl) hd
          · have hd := ite_f hd h_11
            refine lv_aload_n hx hb d_Mo_parts_46 rfl (lv_at hl 0 rfl) ?_
            refine lv_iload_n hx hb d_Mo_parts_47 rfl (lv_at hl 1 rfl) ?_
            refine lv_iload_n hx hb d_Mo_parts_48 rfl (lv_at hl 3 rfl) ?_
            obtain ⟨v_12, e_13, hd⟩ := bind_s hd
            refine callVI (ws' := ws_Mo g a z_f42) (rest := []) (As := [.int x1_f42, .int x3_42]) hx hb hml hown hg hK hP hD hS hA hCs hl.1 (c_Mo_dearestOf l D g a x1_f42 x3_42 z_f42 _ e_13) o_Mo_dearestOf g_1291 (ci := 1) (q0 := 0) rfl rfl (List.range' 0 12) (segC1 rfl rfl) (by decide) rfl (segP1 rfl rfl) rfl rfl (Nat.le_of_ble_eq_true rfl) ⟨rfl, rfl, Nat.le_of_ble_eq_true rfl, Nat.le_of_ble_eq_true rfl⟩ d_Mo_parts_49 (fun H locs hP hD hS => ?_)
            refine lv_istore (lv' := [(7, .int v_12), (0, .ref (a 0)), (1, .int x1_f42), (2, .int x2_f42), (3, .int x3_42), (4, .int x4_42), (5, .long x5_42)]) hx hb d_Mo_parts_52 hl (by decide) rfl (fun ls hl => ?_)
            refine lv_aload_n hx hb d_Mo_parts_54 rfl (lv_at hl 1 rfl) ?_
            refine va_get (D := D) (ci := 1) (v := .ref (a 1)) (C := R_Mo) (T := F_Mo) (N := 26) hx hb hg i_Mo hown hK hP 0 rfl rfl 1 (by decide) (hg _ g_993) (fun _ h9 => h9) rfl d_Mo_parts_55 ?_
            refine lv_bipush (v := 58) hx hb d_Mo_parts_58 (by decide) ?_
            refine lv_iload hx hb d_Mo_parts_60 (lv_at hl 0 rfl) ?_
            refine lv_iadd hx hb d_Mo_parts_62 ?_
            obtain ⟨h_19, hd⟩ := ite_s hd
            refine ialdK hx hb hK hP 1 0 rfl rfl (inb_t h_19) rfl d_Mo_parts_63 ?_
            refine lv_istore (lv' := [(8, .int ((q_Mo_s z_f42) (58 + v_12).toNatClampNeg)), (7, .int v_12), (0, .ref (a 0)), (1, .int x1_f42), (2, .int x2_f42), (3, .int x3_42), (4, .int x4_42), (5, .long x5_42)]) hx hb d_Mo_parts_64 hl (by decide) rfl (fun ls hl => ?_)
            refine lv_iload hx hb d_Mo_parts_66 (lv_at hl 0 rfl) ?_
            refine lv_iload hx hb d_Mo_parts_68 (lv_at hl 6 rfl) ?_
            refine lv_icmp_le (tgt := 105) hx hb d_Mo_parts_70 (by decide) (fun h_14 => ?_) (fun h_14 => ?_)
            · have hd := ite_t hd h_14
              refine lv_iload hx hb d_Mo_parts_105 (lv_at hl 6 rfl) ?_
              refine lv_iload hx hb d_Mo_parts_107 (lv_at hl 0 rfl) ?_
              refine lv_isub hx hb d_Mo_parts_109 ?_
              refine lv_istore (lv' := [(4, .int (x4_42 - ((q_Mo_s z_f42) (58 + v_12).toNatClampNeg))), (8, .int ((q_Mo_s z_f42) (58 + v_12).toNatClampNeg)), (7, .int v_12), (0, .ref (a 0)), (1, .int x1_f42), (2, .int x2_f42), (3, .int x3_42), (5, .long x5_42)]) hx hb d_Mo_parts_110 hl (by decide) rfl (fun ls hl => ?_)
              refine lv_lload hx hb d_Mo_parts_112 (lv_at hl 7 rfl) ?_
              refine lv_aload_n hx hb d_Mo_parts_114 rfl (lv_at hl 3 rfl) ?_
              refine va_get (D := D) (ci := 1) (v := .ref (a 6)) (C := R_Mo) (T := F_Mo) (N := 26) hx hb hg i_Mo hown hK hP 0 rfl rfl 12 (by decide) (hg _ g_1004) (fun _ h9 => h9) rfl d_Mo_parts_115 ?_
              refine lv_bipush (v := 7) hx hb d_Mo_parts_118 (by decide) ?_
              refine lv_iload_n hx hb d_Mo_parts_120 rfl (lv_at hl 4 rfl) ?_
              refine lv_imul hx hb d_Mo_parts_121 ?_
              refine lv_iload hx hb d_Mo_parts_122 (lv_at hl 2 rfl) ?_
              refine lv_iadd hx hb d_Mo_parts_124 ?_
              obtain ⟨h_15, hd⟩ := ite_s hd
              refine ialdK hx hb hK hP 6 0 rfl rfl (inb_t h_15) rfl d_Mo_parts_125 ?_
              refine lv_i2l hx hb d_Mo_parts_126 rfl ?_
              refine lv_ladd hx hb d_Mo_parts_127 ?_
              refine lv_lstore (lv' := [(5, .long (x5_42 + (((q_Mo_likes z_f42) ((7 * x1_f42) + v_12).toNatClampNeg : Int32).toInt64))), (4, .int (x4_42 - ((q_Mo_s z_f42) (58 + v_12).toNatClampNeg))), (8, .int ((q_Mo_s z_f42) (58 + v_12).toNatClampNeg)), (7, .int v_12), (0, .ref (a 0)), (1, .int x1_f42), (2, .int x2_f42), (3, .int x3_42)]) hx hb d_Mo_parts_128 hl (by decide) rfl (fun ls hl => ?_)
              refine lv_iload_n hx hb d_Mo_parts_130 rfl (lv_at hl 7 rfl) ?_
              refine lv_iconst (v := 1) hx hb d_Mo_parts_131 (by decide) ?_
              refine lv_iload hx hb d_Mo_parts_132 (lv_at hl 3 rfl) ?_
              refine lv_ishl hx hb d_Mo_parts_134 ?_
              refine lv_iconst (v := (-1)) hx hb d_Mo_parts_135 (by decide) ?_
              refine lv_ixor hx hb d_Mo_parts_136 ?_
              refine lv_iand hx hb d_Mo_parts_137 ?_
              refine lv_istore_n (lv' := [(3, .int (x3_42 &&& (((1 : Int32) <<< (v_12 &&& 31)) ^^^ (-1)))), (5, .long (x5_42 + (((q_Mo_likes z_f42) ((7 * x1_f42) + v_12).toNatClampNeg : Int32).toInt64))), (4, .int (x4_42 - ((q_Mo_s z_f42) (58 + v_12).toNatClampNeg))), (8, .int ((q_Mo_s z_f42) (58 + v_12).toNatClampNeg)), (7, .int v_12), (0, .ref (a 0)), (1, .int x1_f42), (2, .int x2_f42)]) hx hb d_Mo_parts_138 rfl hl (by decide) rfl (fun ls hl => ?_)
              refine lv_goto (tgt := 42) hx hb d_Mo_parts_139 (by decide) ?_
              exact ih42 (x3_42 &&& (((1 : Int32) <<< (v_12 &&& 31)) ^^^ (-1))) (x4_42 - ((q_Mo_s z_f42) (58 + v_12).toNatClampNeg)) (x5_42 + (((q_Mo_likes z_f42) ((7 * x1_f42) + v_12).toNatClampNeg : Int32).toInt64)) _ _ _ hP hD hS (lv_sub hl [5, 6, 7, 0, 2, 1] rfl) hd
            · have hd := ite_f hd h_14
              refine lv_lload hx hb d_Mo_parts_73 (lv_at hl 7 rfl) ?_
              refine lv_iload hx hb d_Mo_parts_75 (lv_at hl 0 rfl) ?_
              refine lv_i2l hx hb d_Mo_parts_77 rfl ?_
              refine lv_lmul hx hb d_Mo_parts_78 ?_
              refine lv_aload_n hx hb d_Mo_parts_79 rfl (lv_at hl 2 rfl) ?_
              refine va_get (D := D) (ci := 1) (v := .ref (a 6)) (C := R_Mo) (T := F_Mo) (N := 26) hx hb hg i_Mo hown hK hP 0 rfl rfl 12 (by decide) (hg _ g_1004) (fun _ h9 => h9) rfl d_Mo_parts_80 ?_
              refine lv_bipush (v := 7) hx hb d_Mo_parts_83 (by decide) ?_
              refine lv_iload_n hx hb d_Mo_parts_85 rfl (lv_at hl 3 rfl) ?_
              refine lv_imul hx hb d_Mo_parts_86 ?_
              refine lv_iload hx hb d_Mo_parts_87 (lv_at hl 1 rfl) ?_
              refine lv_iadd hx hb d_Mo_parts_89 ?_
              obtain ⟨h_18, hd⟩ := ite_s hd
              refine ialdK hx hb hK hP 6 0 rfl rfl (inb_t h_18) rfl d_Mo_parts_90 ?_
              refine lv_i2l hx hb d_Mo_parts_91 rfl ?_
              refine lv_iload hx hb d_Mo_parts_92 (lv_at hl 6 rfl) ?_
              refine lv_i2l hx hb d_Mo_parts_94 rfl ?_
              refine lv_lmul hx hb d_Mo_parts_95 ?_
              refine lv_ladd hx hb d_Mo_parts_96 ?_
              refine lv_iload hx hb d_Mo_parts_97 (lv_at hl 0 rfl) ?_
              refine lv_i2l hx hb d_Mo_parts_99 rfl ?_
              refine lv_iload_n hx hb d_Mo_parts_100 rfl (lv_at hl 4 rfl) ?_
              obtain ⟨v_16, e_17, hd⟩ := bind_s hd
              refine callSL (ws' := ws_Mo g a z_f42) (rest := []) (As := [.long ((x5_42 * (((q_Mo_s z_f42) (58 + v_12).toNatClampNeg : Int32).toInt64)) + ((((q_Mo_likes z_f42) ((7 * x1_f42) + v_12).toNatClampNeg : Int32).toInt64) * ((x4_42 : Int32).toInt64))), .long (((q_Mo_s z_f42) (58 + v_12).toNatClampNeg : Int32).toInt64), .int x2_f42]) hx hb hml hown hg hK hP hD hS hA hCs hl.1 (c_Mo_lowest l D g  ((x5_42 * (((q_Mo_s z_f42) (58 + v_12).toNatClampNeg : Int32).toInt64)) + ((((q_Mo_likes z_f42) ((7 * x1_f42) + v_12).toNatClampNeg : Int32).toInt64) * ((x4_42 : Int32).toInt64))) (((q_Mo_s z_f42) (58 + v_12).toNatClampNeg : Int32).toInt64) x2_f42 _ e_17) o_Mo_lowest g_1295 [] segC0 rfl rfl segP0 rfl rfl (Nat.le_of_ble_eq_true rfl) ⟨rfl, rfl, Nat.le_of_ble_eq_true rfl, Nat.le_of_ble_eq_true rfl⟩ d_Mo_parts_101 (fun H locs hP hD hS => ?_)
              obtain rfl := Option.some.inj hd
              exact retL hx hb hr hlk hK hP hD hS d_Mo_parts_104 rfl
      exact lp42 x1 x2 v_7 _ ex42_142 1000 v_9 ((q_Mo_lifts v_7) x1.toNatClampNeg) 0 _ _ _ hP hD hS (lv_sub hl [3, 4, 5, 2, 1, 0] rfl) hd
    · have hd := ite_t hd h_6
      refine lv_ldc2 (v := (-9223372036854775808)) hx hb hown (hg _ g_1290) d_Mo_parts_17 ?_
      obtain rfl := Option.some.inj hd
      exact retL hx hb hr hlk hK hP hD hS d_Mo_parts_20 rfl

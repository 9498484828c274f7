-- OwnsLift$Swaps.gains(LOwnsLift$Standing;III)Z
def d_Sw_gains (x1 : Int32) (x2 : Int32) (x3 : Int32) (z : T_St) : Option (Int32) :=
  if inb x1 4 = true then (if inb x3 7 = true then (if inb x1 4 = true then (if inb x2 7 = true then (if ((q_St_like z) x1.toNatClampNeg x3.toNatClampNeg) ≤ ((q_St_like z) x1.toNatClampNeg x2.toNatClampNeg) then (some (0)) else ((d_St_load x1 z).bind fun v_6 => if inb x2 7 = true then (if inb x3 7 = true then (if inb x1 4 = true then (if ((q_St_lifts z) x1.toNatClampNeg) < ((v_6 - ((q_St_weight z) x2.toNatClampNeg)) + ((q_St_weight z) x3.toNatClampNeg)) then (some (0)) else (some (1))) else none) else none) else none)) else none) else none) else none) else none
theorem d_Sw_gains_0 : decode b_Sw_gains 0 = .ok (.aload_n 0, 1) := by decide +kernel
theorem d_Sw_gains_1 : decode b_Sw_gains 1 = .ok (.getfield 33, 3) := by decide +kernel
theorem d_Sw_gains_4 : decode b_Sw_gains 4 = .ok (.iload_n 1, 1) := by decide +kernel
theorem d_Sw_gains_5 : decode b_Sw_gains 5 = .ok (.aaload, 1) := by decide +kernel
theorem d_Sw_gains_6 : decode b_Sw_gains 6 = .ok (.iload_n 3, 1) := by decide +kernel
theorem d_Sw_gains_7 : decode b_Sw_gains 7 = .ok (.iaload, 1) := by decide +kernel
theorem d_Sw_gains_8 : decode b_Sw_gains 8 = .ok (.aload_n 0, 1) := by decide +kernel
theorem d_Sw_gains_9 : decode b_Sw_gains 9 = .ok (.getfield 33, 3) := by decide +kernel
theorem d_Sw_gains_12 : decode b_Sw_gains 12 = .ok (.iload_n 1, 1) := by decide +kernel
theorem d_Sw_gains_13 : decode b_Sw_gains 13 = .ok (.aaload, 1) := by decide +kernel
theorem d_Sw_gains_14 : decode b_Sw_gains 14 = .ok (.iload_n 2, 1) := by decide +kernel
theorem d_Sw_gains_15 : decode b_Sw_gains 15 = .ok (.iaload, 1) := by decide +kernel
theorem d_Sw_gains_16 : decode b_Sw_gains 16 = .ok (.if_icmp .le 35, 3) := by decide +kernel
theorem d_Sw_gains_19 : decode b_Sw_gains 19 = .ok (.aload_n 0, 1) := by decide +kernel
theorem d_Sw_gains_20 : decode b_Sw_gains 20 = .ok (.iload_n 1, 1) := by decide +kernel
theorem d_Sw_gains_21 : decode b_Sw_gains 21 = .ok (.invokevirtual 37, 3) := by decide +kernel
theorem d_Sw_gains_24 : decode b_Sw_gains 24 = .ok (.aload_n 0, 1) := by decide +kernel
theorem d_Sw_gains_25 : decode b_Sw_gains 25 = .ok (.getfield 41, 3) := by decide +kernel
theorem d_Sw_gains_28 : decode b_Sw_gains 28 = .ok (.iload_n 2, 1) := by decide +kernel
theorem d_Sw_gains_29 : decode b_Sw_gains 29 = .ok (.iaload, 1) := by decide +kernel
theorem d_Sw_gains_30 : decode b_Sw_gains 30 = .ok (.isub, 1) := by decide +kernel
theorem d_Sw_gains_31 : decode b_Sw_gains 31 = .ok (.aload_n 0, 1) := by decide +kernel
theorem d_Sw_gains_32 : decode b_Sw_gains 32 = .ok (.getfield 41, 3) := by decide +kernel
theorem d_Sw_gains_35 : decode b_Sw_gains 35 = .ok (.iload_n 3, 1) := by decide +kernel
theorem d_Sw_gains_36 : decode b_Sw_gains 36 = .ok (.iaload, 1) := by decide +kernel
theorem d_Sw_gains_37 : decode b_Sw_gains 37 = .ok (.iadd, 1) := by decide +kernel
theorem d_Sw_gains_38 : decode b_Sw_gains 38 = .ok (.aload_n 0, 1) := by decide +kernel
theorem d_Sw_gains_39 : decode b_Sw_gains 39 = .ok (.getfield 44, 3) := by decide +kernel
theorem d_Sw_gains_42 : decode b_Sw_gains 42 = .ok (.iload_n 1, 1) := by decide +kernel
theorem d_Sw_gains_43 : decode b_Sw_gains 43 = .ok (.iaload, 1) := by decide +kernel
theorem d_Sw_gains_44 : decode b_Sw_gains 44 = .ok (.if_icmp .gt 7, 3) := by decide +kernel
theorem d_Sw_gains_47 : decode b_Sw_gains 47 = .ok (.iconst 1, 1) := by decide +kernel
theorem d_Sw_gains_48 : decode b_Sw_gains 48 = .ok (.goto 4, 3) := by decide +kernel
theorem d_Sw_gains_51 : decode b_Sw_gains 51 = .ok (.iconst 0, 1) := by decide +kernel
theorem d_Sw_gains_52 : decode b_Sw_gains 52 = .ok (.ireturn, 1) := by decide +kernel
theorem o_Sw_gains : OkS y_Sw_gains b_Sw_gains 4 (some .boolean) 4 := ⟨⟨by decide +kernel, by decide +kernel, by decide +kernel⟩, g_868, g_90, g_869⟩
set_option maxHeartbeats 4000000 in
set_option maxRecDepth 100000 in
theorem c_Sw_gains (l : Launch) (D : va_G) (g : Nat → ClassId) (a : Nat → Nat) (x1 : Int32) (x2 : Int32) (x3 : Int32) (z : T_St) (v : Int32) (h : d_Sw_gains x1 x2 x3 z = some v) :
    MI l y_Sw_gains b_Sw_gains 4 .boolean ({ frames := 2, cells := 0, slots := 0, locals := 44 } : Room) D g [.ref (a 0), .int x1, .int x2, .int x3] (ws_St g a z) (v) (ws_St g a z) := by
  have hd := h
  unfold d_Sw_gains at hd
  refine enterI rfl (Nat.le_of_ble_eq_true rfl) (fun p e s m below meth c A ls hx hb hml hr hown hg hlk hK hA hP hD hS hCs hl => ?_)
  have hown : s.vm.findClass "OwnsLift$Swaps" = some m.cls := hown
  have hl : lv_has ls 4 [(0, .ref (a 0)), (1, .int x1), (2, .int x2), (3, .int x3)] := hl
  show GI p l e s m ({ frames := 2, cells := 0, slots := 0, locals := 44 } : Room) ([.ref (a 0), .int x1, .int x2, .int x3] : List Value).toArray below meth c A D g (ws_St g a z) (v) s.heap [] (F0 m 0 ls [])
  refine lv_aload_n hx hb d_Sw_gains_0 rfl (lv_at hl 0 rfl) ?_
  refine va_get (D := D) (ci := 9) (v := .ref (a 1)) (C := R_St) (T := F_St) (N := 7) hx hb hg i_St hown hK hP 0 rfl rfl 2 (by decide) (hg _ g_286) (fun _ h9 => h9) rfl d_Sw_gains_1 ?_
  refine lv_iload_n hx hb d_Sw_gains_4 rfl (lv_at hl 1 rfl) ?_
  obtain ⟨h_1, hd⟩ := ite_s hd
  refine aldA hx hb hK hP 1 rfl (inb_t h_1) d_Sw_gains_5 ?_
  refine lv_iload_n hx hb d_Sw_gains_6 rfl (lv_at hl 3 rfl) ?_
  obtain ⟨h_2, hd⟩ := ite_s hd
  refine ialdK hx hb hK hP (2 + x1.toNatClampNeg) 0 ((show ∀ k, k < 4 → (ws_St g a z)[2 + k]? = some (a (k + 2), .inl (g 0, 7, .inl ((q_St_like z) k))) from fun k hk => match k, hk with | 0, _ => rfl | 1, _ => rfl | 2, _ => rfl | 3, _ => rfl | k + 4, hk => absurd hk (by omega)) _ (vp_lt (inb_t h_1))) rfl (inb_t h_2) rfl d_Sw_gains_7 ?_
  refine lv_aload_n hx hb d_Sw_gains_8 rfl (lv_at hl 0 rfl) ?_
  refine va_get (D := D) (ci := 9) (v := .ref (a 1)) (C := R_St) (T := F_St) (N := 7) hx hb hg i_St hown hK hP 0 rfl rfl 2 (by decide) (hg _ g_286) (fun _ h9 => h9) rfl d_Sw_gains_9 ?_
  refine lv_iload_n hx hb d_Sw_gains_12 rfl (lv_at hl 1 rfl) ?_
  obtain ⟨h_3, hd⟩ := ite_s hd
  refine aldA hx hb hK hP 1 rfl (inb_t h_3) d_Sw_gains_13 ?_
  refine lv_iload_n hx hb d_Sw_gains_14 rfl (lv_at hl 2 rfl) ?_
  obtain ⟨h_4, hd⟩ := ite_s hd
  refine ialdK hx hb hK hP (2 + x1.toNatClampNeg) 0 ((show ∀ k, k < 4 → (ws_St g a z)[2 + k]? = some (a (k + 2), .inl (g 0, 7, .inl ((q_St_like z) k))) from fun k hk => match k, hk with | 0, _ => rfl | 1, _ => rfl | 2, _ => rfl | 3, _ => rfl | k + 4, hk => absurd hk (by omega)) _ (vp_lt (inb_t h_3))) rfl (inb_t h_4) rfl d_Sw_gains_15 ?_
  refine lv_icmp_le (tgt := 51) hx hb d_Sw_gains_16 (by decide) (fun h_5 => ?_) (fun h_5 => ?_)
  · have hd := ite_t hd h_5
    refine lv_iconst (v := 0) hx hb d_Sw_gains_51 (by decide) ?_
    obtain rfl := Option.some.inj hd
    exact retZ hx hb hr hlk hK hP hD hS d_Sw_gains_52 rfl (by decide +kernel)
  · have hd := ite_f hd h_5
    refine lv_aload_n hx hb d_Sw_gains_19 rfl (lv_at hl 0 rfl) ?_
    refine lv_iload_n hx hb d_Sw_gains_20 rfl (lv_at hl 1 rfl) ?_
    obtain ⟨v_6, e_7, hd⟩ := bind_s hd
    refine callVI (ws' := ws_St g a z) (rest := []) (As := [.int x1]) hx hb hml hown hg hK hP hD hS hA hCs hl.1 (c_St_load l D g a x1 z _ e_7) o_St_load g_870 (ci := 9) (q0 := 0) rfl rfl (List.range' 0 10) (segC1 rfl rfl) (by decide) rfl (segP1 rfl rfl) rfl rfl (Nat.le_of_ble_eq_true rfl) ⟨rfl, rfl, Nat.le_of_ble_eq_true rfl, Nat.le_of_ble_eq_true rfl⟩ d_Sw_gains_21 (fun H locs hP hD hS => ?_)
    refine lv_aload_n hx hb d_Sw_gains_24 rfl (lv_at hl 0 rfl) ?_
    refine va_get (D := D) (ci := 9) (v := .ref (a 8)) (C := R_St) (T := F_St) (N := 7) hx hb hg i_St hown hK hP 0 rfl rfl 5 (by decide) (hg _ g_296) (fun _ h9 => h9) rfl d_Sw_gains_25 ?_
    refine lv_iload_n hx hb d_Sw_gains_28 rfl (lv_at hl 2 rfl) ?_
    obtain ⟨h_11, hd⟩ := ite_s hd
    refine ialdK hx hb hK hP 8 0 rfl rfl (inb_t h_11) rfl d_Sw_gains_29 ?_
    refine lv_isub hx hb d_Sw_gains_30 ?_
    refine lv_aload_n hx hb d_Sw_gains_31 rfl (lv_at hl 0 rfl) ?_
    refine va_get (D := D) (ci := 9) (v := .ref (a 8)) (C := R_St) (T := F_St) (N := 7) hx hb hg i_St hown hK hP 0 rfl rfl 5 (by decide) (hg _ g_296) (fun _ h9 => h9) rfl d_Sw_gains_32 ?_
    refine lv_iload_n hx hb d_Sw_gains_35 rfl (lv_at hl 3 rfl) ?_
    obtain ⟨h_10, hd⟩ := ite_s hd
    refine ialdK hx hb hK hP 8 0 rfl rfl (inb_t h_10) rfl d_Sw_gains_36 ?_
    refine lv_iadd hx hb d_Sw_gains_37 ?_
    refine lv_aload_n hx hb d_Sw_gains_38 rfl (lv_at hl 0 rfl) ?_
    refine va_get (D := D) (ci := 9) (v := .ref (a 6)) (C := R_St) (T := F_St) (N := 7) hx hb hg i_St hown hK hP 0 rfl rfl 3 (by decide) (hg _ g_291) (fun _ h9 => h9) rfl d_Sw_gains_39 ?_
    refine lv_iload_n hx hb d_Sw_gains_42 rfl (lv_at hl 1 rfl) ?_
    obtain ⟨h_9, hd⟩ := ite_s hd
    refine ialdK hx hb hK hP 6 0 rfl rfl (inb_t h_9) rfl d_Sw_gains_43 ?_
    refine lv_icmp_gt (tgt := 51) hx hb d_Sw_gains_44 (by decide) (fun h_8 => ?_) (fun h_8 => ?_)
    · have hd := ite_t hd h_8
      refine lv_iconst (v := 0) hx hb d_Sw_gains_51 (by decide) ?_
      obtain rfl := Option.some.inj hd
      exact retZ hx hb hr hlk hK hP hD hS d_Sw_gains_52 rfl (by decide +kernel)
    · have hd := ite_f hd h_8
      refine lv_iconst (v := 1) hx hb d_Sw_gains_47 (by decide) ?_
      refine lv_goto (tgt := 52) hx hb d_Sw_gains_48 (by decide) ?_
      obtain rfl := Option.some.inj hd
      exact retZ hx hb hr hlk hK hP hD hS d_Sw_gains_52 rfl (by decide +kernel)
-- OwnsLift$Swaps.serves(LOwnsLift$Standing;II)Z
def d_Sw_serves (x1 : Int32) (x2 : Int32) (z : T_St) : Option (Int32) :=
  if inb x1 7 = true then (if inb x2 7 = true then (if ((q_St_owner z) x1.toNatClampNeg) = (-5) then (some (0)) else (if ((q_St_owner z) x2.toNatClampNeg) = (-5) then (some (0)) else (if ((q_St_owner z) x1.toNatClampNeg) = ((q_St_owner z) x2.toNatClampNeg) then (some (0)) else ((d_Sw_gains ((q_St_owner z) x1.toNatClampNeg) x1 x2 z).bind fun v_4 => if v_4 = 0 then (some (0)) else ((d_Sw_gains ((q_St_owner z) x2.toNatClampNeg) x2 x1 z).bind fun v_7 => if v_7 = 0 then (some (0)) else (some (1))))))) else none) else none
theorem d_Sw_serves_0 : decode b_Sw_serves 0 = .ok (.aload_n 0, 1) := by decide +kernel
theorem d_Sw_serves_1 : decode b_Sw_serves 1 = .ok (.getfield 25, 3) := by decide +kernel
theorem d_Sw_serves_4 : decode b_Sw_serves 4 = .ok (.iload_n 1, 1) := by decide +kernel
theorem d_Sw_serves_5 : decode b_Sw_serves 5 = .ok (.iaload, 1) := by decide +kernel
theorem d_Sw_serves_6 : decode b_Sw_serves 6 = .ok (.istore_n 3, 1) := by decide +kernel
theorem d_Sw_serves_7 : decode b_Sw_serves 7 = .ok (.aload_n 0, 1) := by decide +kernel
theorem d_Sw_serves_8 : decode b_Sw_serves 8 = .ok (.getfield 25, 3) := by decide +kernel
theorem d_Sw_serves_11 : decode b_Sw_serves 11 = .ok (.iload_n 2, 1) := by decide +kernel
theorem d_Sw_serves_12 : decode b_Sw_serves 12 = .ok (.iaload, 1) := by decide +kernel
theorem d_Sw_serves_13 : decode b_Sw_serves 13 = .ok (.istore 4, 2) := by decide +kernel
theorem d_Sw_serves_15 : decode b_Sw_serves 15 = .ok (.iload_n 3, 1) := by decide +kernel
theorem d_Sw_serves_16 : decode b_Sw_serves 16 = .ok (.bipush (-5), 2) := by decide +kernel
theorem d_Sw_serves_18 : decode b_Sw_serves 18 = .ok (.if_icmp .eq 41, 3) := by decide +kernel
theorem d_Sw_serves_21 : decode b_Sw_serves 21 = .ok (.iload 4, 2) := by decide +kernel
theorem d_Sw_serves_23 : decode b_Sw_serves 23 = .ok (.bipush (-5), 2) := by decide +kernel
theorem d_Sw_serves_25 : decode b_Sw_serves 25 = .ok (.if_icmp .eq 34, 3) := by decide +kernel
theorem d_Sw_serves_28 : decode b_Sw_serves 28 = .ok (.iload_n 3, 1) := by decide +kernel
theorem d_Sw_serves_29 : decode b_Sw_serves 29 = .ok (.iload 4, 2) := by decide +kernel
theorem d_Sw_serves_31 : decode b_Sw_serves 31 = .ok (.if_icmp .eq 28, 3) := by decide +kernel
theorem d_Sw_serves_34 : decode b_Sw_serves 34 = .ok (.aload_n 0, 1) := by decide +kernel
theorem d_Sw_serves_35 : decode b_Sw_serves 35 = .ok (.iload_n 3, 1) := by decide +kernel
theorem d_Sw_serves_36 : decode b_Sw_serves 36 = .ok (.iload_n 1, 1) := by decide +kernel
theorem d_Sw_serves_37 : decode b_Sw_serves 37 = .ok (.iload_n 2, 1) := by decide +kernel
theorem d_Sw_serves_38 : decode b_Sw_serves 38 = .ok (.invokestatic 29, 3) := by decide +kernel
theorem d_Sw_serves_41 : decode b_Sw_serves 41 = .ok (.ifCond .eq 18, 3) := by decide +kernel
theorem d_Sw_serves_44 : decode b_Sw_serves 44 = .ok (.aload_n 0, 1) := by decide +kernel
theorem d_Sw_serves_45 : decode b_Sw_serves 45 = .ok (.iload 4, 2) := by decide +kernel
theorem d_Sw_serves_47 : decode b_Sw_serves 47 = .ok (.iload_n 2, 1) := by decide +kernel
theorem d_Sw_serves_48 : decode b_Sw_serves 48 = .ok (.iload_n 1, 1) := by decide +kernel
theorem d_Sw_serves_49 : decode b_Sw_serves 49 = .ok (.invokestatic 29, 3) := by decide +kernel
theorem d_Sw_serves_52 : decode b_Sw_serves 52 = .ok (.ifCond .eq 7, 3) := by decide +kernel
theorem d_Sw_serves_55 : decode b_Sw_serves 55 = .ok (.iconst 1, 1) := by decide +kernel
theorem d_Sw_serves_56 : decode b_Sw_serves 56 = .ok (.goto 4, 3) := by decide +kernel
theorem d_Sw_serves_59 : decode b_Sw_serves 59 = .ok (.iconst 0, 1) := by decide +kernel
theorem d_Sw_serves_60 : decode b_Sw_serves 60 = .ok (.ireturn, 1) := by decide +kernel
theorem o_Sw_serves : OkS y_Sw_serves b_Sw_serves 5 (some .boolean) 3 := ⟨⟨by decide +kernel, by decide +kernel, by decide +kernel⟩, g_865, g_90, g_866⟩
set_option maxHeartbeats 4000000 in
set_option maxRecDepth 100000 in
theorem c_Sw_serves (l : Launch) (D : va_G) (g : Nat → ClassId) (a : Nat → Nat) (x1 : Int32) (x2 : Int32) (z : T_St) (v : Int32) (h : d_Sw_serves x1 x2 z = some v) :
    MI l y_Sw_serves b_Sw_serves 5 .boolean ({ frames := 3, cells := 0, slots := 0, locals := 67 } : Room) D g [.ref (a 0), .int x1, .int x2] (ws_St g a z) (v) (ws_St g a z) := by
  have hd := h
  unfold d_Sw_serves at hd
  refine enterI rfl (Nat.le_of_ble_eq_true rfl) (fun p e s m below meth c A ls hx hb hml hr hown hg hlk hK hA hP hD hS hCs hl => ?_)
  have hown : s.vm.findClass "OwnsLift$Swaps" = some m.cls := hown
  have hl : lv_has ls 5 [(0, .ref (a 0)), (1, .int x1), (2, .int x2)] := hl
  show GI p l e s m ({ frames := 3, cells := 0, slots := 0, locals := 67 } : Room) ([.ref (a 0), .int x1, .int x2] : List Value).toArray below meth c A D g (ws_St g a z) (v) s.heap [] (F0 m 0 ls [])
  refine lv_aload_n hx hb d_Sw_serves_0 rfl (lv_at hl 0 rfl) ?_
  refine va_get (D := D) (ci := 9) (v := .ref (a 9)) (C := R_St) (T := F_St) (N := 7) hx hb hg i_St hown hK hP 0 rfl rfl 6 (by decide) (hg _ g_299) (fun _ h9 => h9) rfl d_Sw_serves_1 ?_
  refine lv_iload_n hx hb d_Sw_serves_4 rfl (lv_at hl 1 rfl) ?_
  obtain ⟨h_11, hd⟩ := ite_s hd
  refine ialdK hx hb hK hP 9 0 rfl rfl (inb_t h_11) rfl d_Sw_serves_5 ?_
  refine lv_istore_n (lv' := [(3, .int ((q_St_owner z) x1.toNatClampNeg)), (0, .ref (a 0)), (1, .int x1), (2, .int x2)]) hx hb d_Sw_serves_6 rfl hl (by decide) rfl (fun ls hl => ?_)
  refine lv_aload_n hx hb d_Sw_serves_7 rfl (lv_at hl 1 rfl) ?_
  refine va_get (D := D) (ci := 9) (v := .ref (a 9)) (C := R_St) (T := F_St) (N := 7) hx hb hg i_St hown hK hP 0 rfl rfl 6 (by decide) (hg _ g_299) (fun _ h9 => h9) rfl d_Sw_serves_8 ?_
  refine lv_iload_n hx hb d_Sw_serves_11 rfl (lv_at hl 3 rfl) ?_
  obtain ⟨h_10, hd⟩ := ite_s hd
  refine ialdK hx hb hK hP 9 0 rfl rfl (inb_t h_10) rfl d_Sw_serves_12 ?_
  refine lv_istore (lv' := [(4, .int ((q_St_owner z) x2.toNatClampNeg)), (3, .int ((q_St_owner z) x1.toNatClampNeg)), (0, .ref (a 0)), (1, .int x1), (2, .int x2)]) hx hb d_Sw_serves_13 hl (by decide) rfl (fun ls hl => ?_)
  refine lv_iload_n hx hb d_Sw_serves_15 rfl (lv_at hl 1 rfl) ?_
  refine lv_bipush (v := (-5)) hx hb d_Sw_serves_16 (by decide) ?_
  refine lv_icmp_eq (tgt := 59) hx hb d_Sw_serves_18 (by decide) (fun h_1 => ?_) (fun h_1 => ?_)
  · have hd := ite_t hd h_1
    refine lv_iconst (v := 0) hx hb d_Sw_serves_59 (by decide) ?_
    obtain rfl := Option.some.inj hd
    exact retZ hx hb hr hlk hK hP hD hS d_Sw_serves_60 rfl (by decide +kernel)
  · have hd := ite_f hd h_1
    refine lv_iload hx hb d_Sw_serves_21 (lv_at hl 0 rfl) ?_
    refine lv_bipush (v := (-5)) hx hb d_Sw_serves_23 (by decide) ?_
    refine lv_icmp_eq (tgt := 59) hx hb d_Sw_serves_25 (by decide) (fun h_2 => ?_) (fun h_2 => ?_)
    · have hd := ite_t hd h_2
      refine lv_iconst (v := 0) hx hb d_Sw_serves_59 (by decide) ?_
      obtain rfl := Option.some.inj hd
      exact retZ hx hb hr hlk hK hP hD hS d_Sw_serves_60 rfl (by decide +kernel)
    · have hd := ite_f hd h_2
      refine lv_iload_n hx hb d_Sw_serves_28 rfl (lv_at hl 1 rfl) ?_
      refine lv_iload hx hb d_Sw_serves_29 (lv_at hl 0 rfl) ?_
      refine lv_icmp_eq (tgt := 59) hx hb d_Sw_serves_31 (by decide) (fun h_3 => ?_) (fun h_3 => ?_)
      · have hd := ite_t hd h_3
        refine lv_iconst (v := 0) hx hb d_Sw_serves_59 (by decide) ?_
        obtain rfl := Option.some.inj hd
        exact retZ hx hb hr hlk hK hP hD hS d_Sw_serves_60 rfl (by decide +kernel)
      · have hd := ite_f hd h_3
        refine lv_aload_n hx hb d_Sw_serves_34 rfl (lv_at hl 2 rfl) ?_
        refine lv_iload_n hx hb d_Sw_serves_35 rfl (lv_at hl 1 rfl) ?_
        refine lv_iload_n hx hb d_Sw_serves_36 rfl (lv_at hl 3 rfl) ?_
        refine lv_iload_n hx hb d_Sw_serves_37 rfl (lv_at hl 4 rfl) ?_
        obtain ⟨v_4, e_5, hd⟩ := bind_s hd
        refine callSI (ws' := ws_St g a z) (rest := []) (As := [.ref (a 0), .int ((q_St_owner z) x1.toNatClampNeg), .int x1, .int x2]) hx hb hml hown hg hK hP hD hS hA hCs hl.1 (c_Sw_gains l D g a ((q_St_owner z) x1.toNatClampNeg) x1 x2 z _ e_5) o_Sw_gains g_867 (List.range' 0 10) (segC1 rfl rfl) (by decide) rfl (segP1 rfl rfl) rfl rfl (Nat.le_of_ble_eq_true rfl) ⟨rfl, rfl, Nat.le_of_ble_eq_true rfl, Nat.le_of_ble_eq_true rfl⟩ d_Sw_serves_38 (fun H locs hP hD hS => ?_)
        refine lv_if_eq (tgt := 59) hx hb d_Sw_serves_41 (by decide) (fun h_6 => ?_) (fun h_6 => ?_)
        · have hd := ite_t hd h_6
          refine lv_iconst (v := 0) hx hb d_Sw_serves_59 (by decide) ?_
          obtain rfl := Option.some.inj hd
          exact retZ hx hb hr hlk hK hP hD hS d_Sw_serves_60 rfl (by decide +kernel)
        · have hd := ite_f hd h_6
          refine lv_aload_n hx hb d_Sw_serves_44 rfl (lv_at hl 2 rfl) ?_
          refine lv_iload hx hb d_Sw_serves_45 (lv_at hl 0 rfl) ?_
          refine lv_iload_n hx hb d_Sw_serves_47 rfl (lv_at hl 4 rfl) ?_
          refine lv_iload_n hx hb d_Sw_serves_48 rfl (lv_at hl 3 rfl) ?_
          obtain ⟨v_7, e_8, hd⟩ := bind_s hd
          refine callSI (ws' := ws_St g a z) (rest := []) (As := [.ref (a 0), .int ((q_St_owner z) x2.toNatClampNeg), .int x2, .int x1]) hx hb hml hown hg hK hP hD hS hA hCs hl.1 (c_Sw_gains l D g a ((q_St_owner z) x2.toNatClampNeg) x2 x1 z _ e_8) o_Sw_gains g_867 (List.range' 0 10) (segC1 rfl rfl) (by decide) rfl (segP1 rfl rfl) rfl rfl (Nat.le_of_ble_eq_true rfl) ⟨rfl, rfl, Nat.le_of_ble_eq_true rfl, Nat.le_of_ble_eq_true rfl⟩ d_Sw_serves_49 (fun H locs hP hD hS => ?_)
          refine lv_if_eq (tgt := 59) hx hb d_Sw_serves_52 (by decide) (fun h_9 => ?_) (fun h_9 => ?_)
          · have hd := ite_t hd h_9
            refine lv_iconst (v := 0) hx hb d_Sw_serves_59 (by decide) ?_
            obtain rfl := Option.some.inj hd
            exact retZ hx hb hr hlk hK hP hD hS d_Sw_serves_60 rfl (by decide +kernel)
          · have hd := ite_f hd h_9
            refine lv_iconst (v := 1) hx hb d_Sw_serves_55 (by decide) ?_
            refine lv_goto (tgt := 60) hx hb d_Sw_serves_56 (by decide) ?_
            obtain rfl := Option.some.inj hd
            exact retZ hx hb hr hlk hK hP hD hS d_Sw_serves_60 rfl (by decide +kernel)
-- OwnsLift$Swaps.first(LOwnsLift$Standing;)I
def B_Sw_first_L14 (x1_f14 : Int32) (z : T_St) (k14_44 : Option (Int32)) (self14 : Int32 → Option (Int32)) (x2_14 : Int32) : Option (Int32) :=
  if (q_St_things z) ≤ x2_14 then (k14_44) else ((d_Sw_serves x1_f14 x2_14 z).bind fun v_3 => if v_3 = 0 then (self14 (x2_14 + 1)) else (some ((10 * x1_f14) + x2_14)))
def d_Sw_first_L14 (x1_f14 : Int32) (z : T_St) (k14_44 : Option (Int32)) (n : Nat) : Int32 → Option (Int32) := recN (fun _ => none) (fun self => B_Sw_first_L14 x1_f14 z k14_44 self) n
def B_Sw_first_L2 (z : T_St) (self2 : Int32 → Option (Int32)) (x1_2 : Int32) : Option (Int32) :=
  if (q_St_things z) ≤ x1_2 then (some ((-5))) else (d_Sw_first_L14 x1_2 z (self2 (x1_2 + 1)) 1000 (x1_2 + 1))
def d_Sw_first_L2 (z : T_St) (n : Nat) : Int32 → Option (Int32) := recN (fun _ => none) (fun self => B_Sw_first_L2 z self) n
def d_Sw_first (z : T_St) : Option (Int32) :=
  d_Sw_first_L2 z  1000 0
theorem d_Sw_first_0 : decode b_Sw_first 0 = .ok (.iconst 0, 1) := by decide +kernel
theorem d_Sw_first_1 : decode b_Sw_first 1 = .ok (.istore_n 1, 1) := by decide +kernel
theorem d_Sw_first_2 : decode b_Sw_first 2 = .ok (.iload_n 1, 1) := by decide +kernel
theorem d_Sw_first_3 : decode b_Sw_first 3 = .ok (.aload_n 0, 1) := by decide +kernel
theorem d_Sw_first_4 : decode b_Sw_first 4 = .ok (.getfield 9, 3) := by decide +kernel
theorem d_Sw_first_7 : decode b_Sw_first 7 = .ok (.if_icmp .ge 43, 3) := by decide +kernel
theorem d_Sw_first_10 : decode b_Sw_first 10 = .ok (.iload_n 1, 1) := by decide +kernel
theorem d_Sw_first_11 : decode b_Sw_first 11 = .ok (.iconst 1, 1) := by decide +kernel
theorem d_Sw_first_12 : decode b_Sw_first 12 = .ok (.iadd, 1) := by decide +kernel
theorem d_Sw_first_13 : decode b_Sw_first 13 = .ok (.istore_n 2, 1) := by decide +kernel
theorem d_Sw_first_14 : decode b_Sw_first 14 = .ok (.iload_n 2, 1) := by decide +kernel
theorem d_Sw_first_15 : decode b_Sw_first 15 = .ok (.aload_n 0, 1) := by decide +kernel
theorem d_Sw_first_16 : decode b_Sw_first 16 = .ok (.getfield 9, 3) := by decide +kernel
theorem d_Sw_first_19 : decode b_Sw_first 19 = .ok (.if_icmp .ge 25, 3) := by decide +kernel
theorem d_Sw_first_22 : decode b_Sw_first 22 = .ok (.aload_n 0, 1) := by decide +kernel
theorem d_Sw_first_23 : decode b_Sw_first 23 = .ok (.iload_n 1, 1) := by decide +kernel
theorem d_Sw_first_24 : decode b_Sw_first 24 = .ok (.iload_n 2, 1) := by decide +kernel
theorem d_Sw_first_25 : decode b_Sw_first 25 = .ok (.invokestatic 15, 3) := by decide +kernel
theorem d_Sw_first_28 : decode b_Sw_first 28 = .ok (.ifCond .eq 10, 3) := by decide +kernel
theorem d_Sw_first_31 : decode b_Sw_first 31 = .ok (.bipush 10, 2) := by decide +kernel
theorem d_Sw_first_33 : decode b_Sw_first 33 = .ok (.iload_n 1, 1) := by decide +kernel
theorem d_Sw_first_34 : decode b_Sw_first 34 = .ok (.imul, 1) := by decide +kernel
theorem d_Sw_first_35 : decode b_Sw_first 35 = .ok (.iload_n 2, 1) := by decide +kernel
theorem d_Sw_first_36 : decode b_Sw_first 36 = .ok (.iadd, 1) := by decide +kernel
theorem d_Sw_first_37 : decode b_Sw_first 37 = .ok (.ireturn, 1) := by decide +kernel
theorem d_Sw_first_38 : decode b_Sw_first 38 = .ok (.iinc 2 1, 3) := by decide +kernel
theorem d_Sw_first_41 : decode b_Sw_first 41 = .ok (.goto (-27), 3) := by decide +kernel
theorem d_Sw_first_44 : decode b_Sw_first 44 = .ok (.iinc 1 1, 3) := by decide +kernel
theorem d_Sw_first_47 : decode b_Sw_first 47 = .ok (.goto (-45), 3) := by decide +kernel
theorem d_Sw_first_50 : decode b_Sw_first 50 = .ok (.bipush (-5), 2) := by decide +kernel
theorem d_Sw_first_52 : decode b_Sw_first 52 = .ok (.ireturn, 1) := by decide +kernel
theorem o_Sw_first : OkS y_Sw_first b_Sw_first 3 (some .int) 1 := ⟨⟨by decide +kernel, by decide +kernel, by decide +kernel⟩, g_872, g_90, g_873⟩
set_option maxHeartbeats 4000000 in
set_option maxRecDepth 100000 in
theorem c_Sw_first (l : Launch) (D : va_G) (g : Nat → ClassId) (a : Nat → Nat) (z : T_St) (v : Int32) (h : d_Sw_first z = some v) :
    MI l y_Sw_first b_Sw_first 3 .int ({ frames := 4, cells := 0, slots := 0, locals := 91 } : Room) D g [.ref (a 0)] (ws_St g a z) (v) (ws_St g a z) := by
  have hd := h
  unfold d_Sw_first at hd
  refine enterI rfl (Nat.le_of_ble_eq_true rfl) (fun p e s m below meth c A ls hx hb hml hr hown hg hlk hK hA hP hD hS hCs hl => ?_)
  have hown : s.vm.findClass "OwnsLift$Swaps" = some m.cls := hown
  have hl : lv_has ls 3 [(0, .ref (a 0))] := hl
  show GI p l e s m ({ frames := 4, cells := 0, slots := 0, locals := 91 } : Room) ([.ref (a 0)] : List Value).toArray below meth c A D g (ws_St g a z) (v) s.heap [] (F0 m 0 ls [])
  refine lv_iconst (v := 0) hx hb d_Sw_first_0 (by decide) ?_
  refine lv_istore_n (lv' := [(1, .int 0), (0, .ref (a 0))]) hx hb d_Sw_first_1 rfl hl (by decide) rfl (fun ls hl => ?_)
  have lp2 : ∀ (n : Nat) (x1_2 : Int32) (H : Heap) (locs : List Loc) (ls : Array Slot), va_P D classes (ws_St g a z) H → va_D A (ws_St g a z) → va_S A s.heap H locs → lv_has ls 3 [(0, .ref (a 0)), (1, .int x1_2)] → d_Sw_first_L2 z n x1_2 = some v → GI p l e s m ({ frames := 4, cells := 0, slots := 0, locals := 91 } : Room) ([.ref (a 0)] : List Value).toArray below meth c A D g (ws_St g a z) (v) H locs (F0 m 2 ls []) := by
    intro n
    induction n with
    | zero =>
      intro  x1_2 H locs ls hP hD hS hl hd
      have hd : none = some v := hd
      cases hd
    | succ n ih2 =>
      intro  x1_2 H locs ls hP hD hS hl hd
      have hd : B_Sw_first_L2 z (d_Sw_first_L2 z n) x1_2 = some v := hd
      generalize d_Sw_first_L2 z n = self2 at ih2 hd
      unfold B_Sw_first_L2 at hd
      refine lv_iload_n hx hb d_Sw_first_2 rfl (lv_at hl 1 rfl) ?_
      refine lv_aload_n hx hb d_Sw_first_3 rfl (lv_at hl 0 rfl) ?_
      refine va_get (D := D) (ci := 9) (v := .int (q_St_things z)) (C := R_St) (T := F_St) (N := 7) hx hb hg i_St hown hK hP 0 rfl rfl 1 (by decide) (hg _ g_280) (fun _ h9 => h9) rfl d_Sw_first_4 ?_
      refine lv_icmp_ge (tgt := 50) hx hb d_Sw_first_7 (by decide) (fun h_1 => ?_) (fun h_1 => ?_)
      · have hd := ite_t hd h_1
        refine lv_bipush (v := (-5)) hx hb d_Sw_first_50 (by decide) ?_
        obtain rfl := Option.some.inj hd
        exact retI hx hb hr hlk hK hP hD hS d_Sw_first_52 rfl
      · have hd := ite_f hd h_1
        refine lv_iload_n hx hb d_Sw_first_10 rfl (lv_at hl 1 rfl) ?_
        refine lv_iconst (v := 1) hx hb d_Sw_first_11 (by decide) ?_
        refine lv_iadd hx hb d_Sw_first_12 ?_
        refine lv_istore_n (lv' := [(2, .int (x1_2 + 1)), (0, .ref (a 0)), (1, .int x1_2)]) hx hb d_Sw_first_13 rfl hl (by decide) rfl (fun ls hl => ?_)
        have ex14_44 : ∀ (H : Heap) (locs : List Loc) (ls : Array Slot), va_P D classes (ws_St g a z) H → va_D A (ws_St g a z) → va_S A s.heap H locs → lv_has ls 3 [(0, .ref (a 0)), (1, .int x1_2)] → (self2 (x1_2 + 1)) = some v → GI p l e s m ({ frames := 4, cells := 0, slots := 0, locals := 91 } : Room) ([.ref (a 0)] : List Value).toArray below meth c A D g (ws_St g a z) (v) H locs (F0 m 44 ls []) := by
          intro  H locs ls hP hD hS hl hd
          refine lv_iinc (v := x1_2 + 1) (lv' := [(1, .int (x1_2 + 1)), (0, .ref (a 0))]) hx hb d_Sw_first_44 hl (k := 1) rfl (by rfl) (by decide) rfl (fun ls hl => ?_)
          refine lv_goto (tgt := 2) hx hb d_Sw_first_47 (by decide) ?_
          exact ih2 (x1_2 + 1) _ _ _ hP hD hS (lv_sub hl [1, 0] rfl) hd
        have lp14 : ∀ (x1_f14 : Int32) (k14_44 : Option (Int32)) (hk14_44 : ∀ (H : Heap) (locs : List Loc) (ls : Array Slot), va_P D classes (ws_St g a z) H → va_D A (ws_St g a z) → va_S A s.heap H locs → lv_has ls 3 [(0, .ref (a 0)), (1, .int x1_f14)] → k14_44 = some v → GI p l e s m ({ frames := 4, cells := 0, slots := 0, locals := 91 } : Room) ([.ref (a 0)] : List Value).toArray below meth c A D g (ws_St g a z) (v) H locs (F0 m 44 ls [])) (n : Nat) (x2_14 : Int32) (H : Heap) (locs : List Loc) (ls : Array Slot), va_P D classes (ws_St g a z) H → va_D A (ws_St g a z) → va_S A s.heap H locs → lv_has ls 3 [(0, .ref (a 0)), (1, .int x1_f14), (2, .int x2_14)] → d_Sw_first_L14 x1_f14 z k14_44 n x2_14 = some v → GI p l e s m ({ frames := 4, cells := 0, slots := 0, locals := 91 } : Room) ([.ref (a 0)] : List Value).toArray below meth c A D g (ws_St g a z) (v) H locs (F0 m 14 ls []) := by
          intro x1_f14 k14_44 hk14_44 n
          induction n with
          | zero =>
            intro  x2_14 H locs ls hP hD hS hl hd
            have hd : none = some v := hd
            cases hd
          | succ n ih14 =>
            intro  x2_14 H locs ls hP hD hS hl hd
            have hd : B_Sw_first_L14 x1_f14 z k14_44 (d_Sw_first_L14 x1_f14 z k14_44 n) x2_14 = some v := hd
            generalize d_Sw_first_L14 x1_f14 z k14_44 n = self14 at ih14 hd
            unfold B_Sw_first_L14 at hd
            refine lv_iload_n hx hb d_Sw_first_14 rfl (lv_at hl 2 rfl) ?_
            refine lv_aload_n hx hb d_Sw_first_15 rfl (lv_at hl 0 rfl) ?_
            refine va_get (D := D) (ci := 9) (v := .int (q_St_things z)) (C := R_St) (T := F_St) (N := 7) hx hb hg i_St hown hK hP 0 rfl rfl 1 (by decide) (hg _ g_280) (fun _ h9 => h9) rfl d_Sw_first_16 ?_
            refine lv_icmp_ge (tgt := 44) hx hb d_Sw_first_19 (by decide) (fun h_2 => ?_) (fun h_2 => ?_)
            · have hd := ite_t hd h_2
              exact hk14_44  _ _ _ hP hD hS (lv_sub hl [0, 1] rfl) hd
            · have hd := ite_f hd h_2
              refine lv_aload_n hx hb d_Sw_first_22 rfl (lv_at hl 0 rfl) ?_
              refine lv_iload_n hx hb d_Sw_first_23 rfl (lv_at hl 1 rfl) ?_
              refine lv_iload_n hx hb d_Sw_first_24 rfl (lv_at hl 2 rfl) ?_
              obtain ⟨v_3, e_4, hd⟩ := bind_s hd
              refine callSI (ws' := ws_St g a z) (rest := []) (As := [.ref (a 0), .int x1_f14, .int x2_14]) hx hb hml hown hg hK hP hD hS hA hCs hl.1 (c_Sw_serves l D g a x1_f14 x2_14 z _ e_4) o_Sw_serves g_864 (List.range' 0 10) (segC1 rfl rfl) (by decide) rfl (segP1 rfl rfl) rfl rfl (Nat.le_of_ble_eq_true rfl) ⟨rfl, rfl, Nat.le_of_ble_eq_true rfl, Nat.le_of_ble_eq_true rfl⟩ d_Sw_first_25 (fun H locs hP hD hS => ?_)
              refine lv_if_eq (tgt := 38) hx hb d_Sw_first_28 (by decide) (fun h_5 => ?_) (fun h_5 => ?_)
              · have hd := ite_t hd h_5
                refine lv_iinc (v := x2_14 + 1) (lv' := [(2, .int (x2_14 + 1)), (0, .ref (a 0)), (1, .int x1_f14)]) hx hb d_Sw_first_38 hl (k := 2) rfl (by rfl) (by decide) rfl (fun ls hl => ?_)
                refine lv_goto (tgt := 14) hx hb d_Sw_first_41 (by decide) ?_
                exact ih14 (x2_14 + 1) _ _ _ hP hD hS (lv_sub hl [1, 2, 0] rfl) hd
              · have hd := ite_f hd h_5
                refine lv_bipush (v := 10) hx hb d_Sw_first_31 (by decide) ?_
                refine lv_iload_n hx hb d_Sw_first_33 rfl (lv_at hl 1 rfl) ?_
                refine lv_imul hx hb d_Sw_first_34 ?_
                refine lv_iload_n hx hb d_Sw_first_35 rfl (lv_at hl 2 rfl) ?_
                refine lv_iadd hx hb d_Sw_first_36 ?_
                obtain rfl := Option.some.inj hd
                exact retI hx hb hr hlk hK hP hD hS d_Sw_first_37 rfl
        exact lp14 x1_2 _ ex14_44 1000 (x1_2 + 1) _ _ _ hP hD hS (lv_sub hl [1, 2, 0] rfl) hd
  exact lp2 1000 0 _ _ _ hP hD hS (lv_sub hl [1, 0] rfl) hd
-- OwnsLift$Swaps.number(LOwnsLift$Standing;)I
def B_Sw_number_L16 (x2_f16 : Int32) (z : T_St) (k16_42 : Int32 → Option (Int32)) (self16 : Int32 → Int32 → Option (Int32)) (x1_16 : Int32) (x3_16 : Int32) : Option (Int32) :=
  if (q_St_things z) ≤ x3_16 then (k16_42 x1_16) else ((d_Sw_serves x2_f16 x3_16 z).bind fun v_3 => if v_3 = 0 then (self16 x1_16 (x3_16 + 1)) else (self16 (x1_16 + 1) (x3_16 + 1)))
def d_Sw_number_L16 (x2_f16 : Int32) (z : T_St) (k16_42 : Int32 → Option (Int32)) (n : Nat) : Int32 → Int32 → Option (Int32) := recN (fun _ _ => none) (fun self => B_Sw_number_L16 x2_f16 z k16_42 self) n
def B_Sw_number_L4 (z : T_St) (self4 : Int32 → Int32 → Option (Int32)) (x1_4 : Int32) (x2_4 : Int32) : Option (Int32) :=
  if (q_St_things z) ≤ x2_4 then (some (x1_4)) else (d_Sw_number_L16 x2_4 z (fun x1_16 => self4 x1_16 (x2_4 + 1)) 1000 x1_4 (x2_4 + 1))
def d_Sw_number_L4 (z : T_St) (n : Nat) : Int32 → Int32 → Option (Int32) := recN (fun _ _ => none) (fun self => B_Sw_number_L4 z self) n
def d_Sw_number (z : T_St) : Option (Int32) :=
  d_Sw_number_L4 z  1000 0 0
theorem d_Sw_number_0 : decode b_Sw_number 0 = .ok (.iconst 0, 1) := by decide +kernel
theorem d_Sw_number_1 : decode b_Sw_number 1 = .ok (.istore_n 1, 1) := by decide +kernel
theorem d_Sw_number_2 : decode b_Sw_number 2 = .ok (.iconst 0, 1) := by decide +kernel
theorem d_Sw_number_3 : decode b_Sw_number 3 = .ok (.istore_n 2, 1) := by decide +kernel
theorem d_Sw_number_4 : decode b_Sw_number 4 = .ok (.iload_n 2, 1) := by decide +kernel
theorem d_Sw_number_5 : decode b_Sw_number 5 = .ok (.aload_n 0, 1) := by decide +kernel
theorem d_Sw_number_6 : decode b_Sw_number 6 = .ok (.getfield 9, 3) := by decide +kernel
theorem d_Sw_number_9 : decode b_Sw_number 9 = .ok (.if_icmp .ge 39, 3) := by decide +kernel
theorem d_Sw_number_12 : decode b_Sw_number 12 = .ok (.iload_n 2, 1) := by decide +kernel
theorem d_Sw_number_13 : decode b_Sw_number 13 = .ok (.iconst 1, 1) := by decide +kernel
theorem d_Sw_number_14 : decode b_Sw_number 14 = .ok (.iadd, 1) := by decide +kernel
theorem d_Sw_number_15 : decode b_Sw_number 15 = .ok (.istore_n 3, 1) := by decide +kernel
theorem d_Sw_number_16 : decode b_Sw_number 16 = .ok (.iload_n 3, 1) := by decide +kernel
theorem d_Sw_number_17 : decode b_Sw_number 17 = .ok (.aload_n 0, 1) := by decide +kernel
theorem d_Sw_number_18 : decode b_Sw_number 18 = .ok (.getfield 9, 3) := by decide +kernel
theorem d_Sw_number_21 : decode b_Sw_number 21 = .ok (.if_icmp .ge 21, 3) := by decide +kernel
theorem d_Sw_number_24 : decode b_Sw_number 24 = .ok (.aload_n 0, 1) := by decide +kernel
theorem d_Sw_number_25 : decode b_Sw_number 25 = .ok (.iload_n 2, 1) := by decide +kernel
theorem d_Sw_number_26 : decode b_Sw_number 26 = .ok (.iload_n 3, 1) := by decide +kernel
theorem d_Sw_number_27 : decode b_Sw_number 27 = .ok (.invokestatic 15, 3) := by decide +kernel
theorem d_Sw_number_30 : decode b_Sw_number 30 = .ok (.ifCond .eq 6, 3) := by decide +kernel
theorem d_Sw_number_33 : decode b_Sw_number 33 = .ok (.iinc 1 1, 3) := by decide +kernel
theorem d_Sw_number_36 : decode b_Sw_number 36 = .ok (.iinc 3 1, 3) := by decide +kernel
theorem d_Sw_number_39 : decode b_Sw_number 39 = .ok (.goto (-23), 3) := by decide +kernel
theorem d_Sw_number_42 : decode b_Sw_number 42 = .ok (.iinc 2 1, 3) := by decide +kernel
theorem d_Sw_number_45 : decode b_Sw_number 45 = .ok (.goto (-41), 3) := by decide +kernel
theorem d_Sw_number_48 : decode b_Sw_number 48 = .ok (.iload_n 1, 1) := by decide +kernel
theorem d_Sw_number_49 : decode b_Sw_number 49 = .ok (.ireturn, 1) := by decide +kernel
theorem o_Sw_number : OkS y_Sw_number b_Sw_number 4 (some .int) 1 := ⟨⟨by decide +kernel, by decide +kernel, by decide +kernel⟩, g_862, g_90, g_863⟩
set_option maxHeartbeats 4000000 in
set_option maxRecDepth 100000 in
theorem c_Sw_number (l : Launch) (D : va_G) (g : Nat → ClassId) (a : Nat → Nat) (z : T_St) (v : Int32) (h : d_Sw_number z = some v) :
    MI l y_Sw_number b_Sw_number 4 .int ({ frames := 4, cells := 0, slots := 0, locals := 91 } : Room) D g [.ref (a 0)] (ws_St g a z) (v) (ws_St g a z) := by
  have hd := h
  unfold d_Sw_number at hd
  refine enterI rfl (Nat.le_of_ble_eq_true rfl) (fun p e s m below meth c A ls hx hb hml hr hown hg hlk hK hA hP hD hS hCs hl => ?_)
  have hown : s.vm.findClass "OwnsLift$Swaps" = some m.cls := hown
  have hl : lv_has ls 4 [(0, .ref (a 0))] := hl
  show GI p l e s m ({ frames := 4, cells := 0, slots := 0, locals := 91 } : Room) ([.ref (a 0)] : List Value).toArray below meth c A D g (ws_St g a z) (v) s.heap [] (F0 m 0 ls [])
  refine lv_iconst (v := 0) hx hb d_Sw_number_0 (by decide) ?_
  refine lv_istore_n (lv' := [(1, .int 0), (0, .ref (a 0))]) hx hb d_Sw_number_1 rfl hl (by decide) rfl (fun ls hl => ?_)
  refine lv_iconst (v := 0) hx hb d_Sw_number_2 (by decide) ?_
  refine lv_istore_n (lv' := [(2, .int 0), (1, .int 0), (0, .ref (a 0))]) hx hb d_Sw_number_3 rfl hl (by decide) rfl (fun ls hl => ?_)
  have lp4 : ∀ (n : Nat) (x1_4 : Int32) (x2_4 : Int32) (H : Heap) (locs : List Loc) (ls : Array Slot), va_P D classes (ws_St g a z) H → va_D A (ws_St g a z) → va_S A s.heap H locs → lv_has ls 4 [(0, .ref (a 0)), (1, .int x1_4), (2, .int x2_4)] → d_Sw_number_L4 z n x1_4 x2_4 = some v → GI p l e s m ({ frames := 4, cells := 0, slots := 0, locals := 91 } : Room) ([.ref (a 0)] : List Value).toArray below meth c A D g (ws_St g a z) (v) H locs (F0 m 4 ls []) := by
    intro n
    induction n with
    | zero =>
      intro  x1_4 x2_4 H locs ls hP hD hS hl hd
      have hd : none = some v := hd
      cases hd
    | succ n ih4 =>
      intro  x1_4 x2_4 H locs ls hP hD hS hl hd
      have hd : B_Sw_number_L4 z (d_Sw_number_L4 z n) x1_4 x2_4 = some v := hd
      generalize d_Sw_number_L4 z n = self4 at ih4 hd
      unfold B_Sw_number_L4 at hd
      refine lv_iload_n hx hb d_Sw_number_4 rfl (lv_at hl 2 rfl) ?_
      refine lv_aload_n hx hb d_Sw_number_5 rfl (lv_at hl 0 rfl) ?_
      refine va_get (D := D) (ci := 9) (v := .int (q_St_things z)) (C := R_St) (T := F_St) (N := 7) hx hb hg i_St hown hK hP 0 rfl rfl 1 (by decide) (hg _ g_280) (fun _ h9 => h9) rfl d_Sw_number_6 ?_
      refine lv_icmp_ge (tgt := 48) hx hb d_Sw_number_9 (by decide) (fun h_1 => ?_) (fun h_1 => ?_)
      · have hd := ite_t hd h_1
        refine lv_iload_n hx hb d_Sw_number_48 rfl (lv_at hl 1 rfl) ?_
        obtain rfl := Option.some.inj hd
        exact retI hx hb hr hlk hK hP hD hS d_Sw_number_49 rfl
      · have hd := ite_f hd h_1
        refine lv_iload_n hx hb d_Sw_number_12 rfl (lv_at hl 2 rfl) ?_
        refine lv_iconst (v := 1) hx hb d_Sw_number_13 (by decide) ?_
        refine lv_iadd hx hb d_Sw_number_14 ?_
        refine lv_istore_n (lv' := [(3, .int (x2_4 + 1)), (0, .ref (a 0)), (1, .int x1_4), (2, .int x2_4)]) hx hb d_Sw_number_15 rfl hl (by decide) rfl (fun ls hl => ?_)
        have ex16_42 : ∀ (x1_16 : Int32) (H : Heap) (locs : List Loc) (ls : Array Slot), va_P D classes (ws_St g a z) H → va_D A (ws_St g a z) → va_S A s.heap H locs → lv_has ls 4 [(0, .ref (a 0)), (1, .int x1_16), (2, .int x2_4)] → (self4 x1_16 (x2_4 + 1)) = some v → GI p l e s m ({ frames := 4, cells := 0, slots := 0, locals := 91 } : Room) ([.ref (a 0)] : List Value).toArray below meth c A D g (ws_St g a z) (v) H locs (F0 m 42 ls []) := by
          intro x1_16 H locs ls hP hD hS hl hd
          refine lv_iinc (v := x2_4 + 1) (lv' := [(2, .int (x2_4 + 1)), (0, .ref (a 0)), (1, .int x1_16)]) hx hb d_Sw_number_42 hl (k := 2) rfl (by rfl) (by decide) rfl (fun ls hl => ?_)
          refine lv_goto (tgt := 4) hx hb d_Sw_number_45 (by decide) ?_
          exact ih4 x1_16 (x2_4 + 1) _ _ _ hP hD hS (lv_sub hl [1, 2, 0] rfl) hd
        have lp16 : ∀ (x2_f16 : Int32) (k16_42 : Int32 → Option (Int32)) (hk16_42 : ∀ (x1_16 : Int32) (H : Heap) (locs : List Loc) (ls : Array Slot), va_P D classes (ws_St g a z) H → va_D A (ws_St g a z) → va_S A s.heap H locs → lv_has ls 4 [(0, .ref (a 0)), (1, .int x1_16), (2, .int x2_f16)] → k16_42 x1_16 = some v → GI p l e s m ({ frames := 4, cells := 0, slots := 0, locals := 91 } : Room) ([.ref (a 0)] : List Value).toArray below meth c A D g (ws_St g a z) (v) H locs (F0 m 42 ls [])) (n : Nat) (x1_16 : Int32) (x3_16 : Int32) (H : Heap) (locs : List Loc) (ls : Array Slot), va_P D classes (ws_St g a z) H → va_D A (ws_St g a z) → va_S A s.heap H locs → lv_has ls 4 [(0, .ref (a 0)), (1, .int x1_16), (2, .int x2_f16), (3, .int x3_16)] → d_Sw_number_L16 x2_f16 z k16_42 n x1_16 x3_16 = some v → GI p l e s m ({ frames := 4, cells := 0, slots := 0, locals := 91 } : Room) ([.ref (a 0)] : List Value).toArray below meth c A D g (ws_St g a z) (v) H locs (F0 m 16 ls []) := by
          intro x2_f16 k16_42 hk16_42 n
          induction n with
          | zero =>
            intro  x1_16 x3_16 H locs ls hP hD hS hl hd
            have hd : none = some v := hd
            cases hd
          | succ n ih16 =>
            intro  x1_16 x3_16 H locs ls hP hD hS hl hd
            have hd : B_Sw_number_L16 x2_f16 z k16_42 (d_Sw_number_L16 x2_f16 z k16_42 n) x1_16 x3_16 = some v := hd
            generalize d_Sw_number_L16 x2_f16 z k16_42 n = self16 at ih16 hd
            unfold B_Sw_number_L16 at hd
            refine lv_iload_n hx hb d_Sw_number_16 rfl (lv_at hl 3 rfl) ?_
            refine lv_aload_n hx hb d_Sw_number_17 rfl (lv_at hl 0 rfl) ?_
            refine va_get (D := D) (ci := 9) (v := .int (q_St_things z)) (C := R_St) (T := F_St) (N := 7) hx hb hg i_St hown hK hP 0 rfl rfl 1 (by decide) (hg _ g_280) (fun _ h9 => h9) rfl d_Sw_number_18 ?_
            refine lv_icmp_ge (tgt := 42) hx hb d_Sw_number_21 (by decide) (fun h_2 => ?_) (fun h_2 => ?_)
            · have hd := ite_t hd h_2
              exact hk16_42 x1_16 _ _ _ hP hD hS (lv_sub hl [0, 1, 2] rfl) hd
            · have hd := ite_f hd h_2
              refine lv_aload_n hx hb d_Sw_number_24 rfl (lv_at hl 0 rfl) ?_
              refine lv_iload_n hx hb d_Sw_number_25 rfl (lv_at hl 2 rfl) ?_
              refine lv_iload_n hx hb d_Sw_number_26 rfl (lv_at hl 3 rfl) ?_
              obtain ⟨v_3, e_4, hd⟩ := bind_s hd
              refine callSI (ws' := ws_St g a z) (rest := []) (As := [.ref (a 0), .int x2_f16, .int x3_16]) hx hb hml hown hg hK hP hD hS hA hCs hl.1 (c_Sw_serves l D g a x2_f16 x3_16 z _ e_4) o_Sw_serves g_864 (List.range' 0 10) (segC1 rfl rfl) (by decide) rfl (segP1 rfl rfl) rfl rfl (Nat.le_of_ble_eq_true rfl) ⟨rfl, rfl, Nat.le_of_ble_eq_true rfl, Nat.le_of_ble_eq_true rfl⟩ d_Sw_number_27 (fun H locs hP hD hS => ?_)
              refine lv_if_eq (tgt := 36) hx hb d_Sw_number_30 (by decide) (fun h_5 => ?_) (fun h_5 => ?_)
              · have hd := ite_t hd h_5
                refine lv_iinc (v := x3_16 + 1) (lv' := [(3, .int (x3_16 + 1)), (0, .ref (a 0)), (1, .int x1_16), (2, .int x2_f16)]) hx hb d_Sw_number_36 hl (k := 3) rfl (by rfl) (by decide) rfl (fun ls hl => ?_)
                refine lv_goto (tgt := 16) hx hb d_Sw_number_39 (by decide) ?_
                exact ih16 x1_16 (x3_16 + 1) _ _ _ hP hD hS (lv_sub hl [1, 2, 3, 0] rfl) hd
              · have hd := ite_f hd h_5
                refine lv_iinc (v := x1_16 + 1) (lv' := [(1, .int (x1_16 + 1)), (0, .ref (a 0)), (2, .int x2_f16), (3, .int x3_16)]) hx hb d_Sw_number_33 hl (k := 1) rfl (by rfl) (by decide) rfl (fun ls hl => ?_)
                refine lv_iinc (v := x3_16 + 1) (lv' := [(3, .int (x3_16 + 1)), (1, .int (x1_16 + 1)), (0, .ref (a 0)), (2, .int x2_f16)]) hx hb d_Sw_number_36 hl (k := 3) rfl (by rfl) (by decide) rfl (fun ls hl => ?_)
                refine lv_goto (tgt := 16) hx hb d_Sw_number_39 (by decide) ?_
                exact ih16 (x1_16 + 1) (x3_16 + 1) _ _ _ hP hD hS (lv_sub hl [2, 1, 3, 0] rfl) hd
        exact lp16 x2_4 _ ex16_42 1000 x1_4 (x2_4 + 1) _ _ _ hP hD hS (lv_sub hl [1, 2, 3, 0] rfl) hd
  exact lp4 1000 0 0 _ _ _ hP hD hS (lv_sub hl [2, 1, 0] rfl) hd
-- OwnsLift$Swaps.untilNone(LOwnsLift$Standing;)I
def B_Sw_untilNone_L2 (self2 : Int32 → T_St → Option (Int32 × T_St)) (x1_2 : Int32) (z_2 : T_St) : Option (Int32 × T_St) :=
  if 20 < x1_2 then (some ((-5), z_2)) else ((d_Sw_first z_2).bind fun v_2 => if v_2 = (-5) then (some (x1_2, z_2)) else (if inb (v_2 / 10) 7 = true then (if inb (v_2 - v_2 / 10 * 10) 7 = true then (if inb (v_2 / 10) 7 = true then (if inb (v_2 - v_2 / 10 * 10) 7 = true then (self2 (x1_2 + 1) (u_St_owner (u_St_owner z_2 (upd (q_St_owner z_2) (v_2 / 10).toNatClampNeg ((q_St_owner z_2) (v_2 - v_2 / 10 * 10).toNatClampNeg))) (upd (q_St_owner (u_St_owner z_2 (upd (q_St_owner z_2) (v_2 / 10).toNatClampNeg ((q_St_owner z_2) (v_2 - v_2 / 10 * 10).toNatClampNeg)))) (v_2 - v_2 / 10 * 10).toNatClampNeg ((q_St_owner z_2) (v_2 / 10).toNatClampNeg)))) else none) else none) else none) else none))
def d_Sw_untilNone_L2 (n : Nat) : Int32 → T_St → Option (Int32 × T_St) := recN (fun _ _ => none) (fun self => B_Sw_untilNone_L2 self) n
def d_Sw_untilNone (z : T_St) : Option (Int32 × T_St) :=
  d_Sw_untilNone_L2  1000 0 z
theorem d_Sw_untilNone_0 : decode b_Sw_untilNone 0 = .ok (.iconst 0, 1) := by decide +kernel
theorem d_Sw_untilNone_1 : decode b_Sw_untilNone 1 = .ok (.istore_n 1, 1) := by decide +kernel
theorem d_Sw_untilNone_2 : decode b_Sw_untilNone 2 = .ok (.iload_n 1, 1) := by decide +kernel
theorem d_Sw_untilNone_3 : decode b_Sw_untilNone 3 = .ok (.bipush 20, 2) := by decide +kernel
theorem d_Sw_untilNone_5 : decode b_Sw_untilNone 5 = .ok (.if_icmp .gt 63, 3) := by decide +kernel
theorem d_Sw_untilNone_8 : decode b_Sw_untilNone 8 = .ok (.aload_n 0, 1) := by decide +kernel
theorem d_Sw_untilNone_9 : decode b_Sw_untilNone 9 = .ok (.invokestatic 21, 3) := by decide +kernel
theorem d_Sw_untilNone_12 : decode b_Sw_untilNone 12 = .ok (.istore_n 2, 1) := by decide +kernel
theorem d_Sw_untilNone_13 : decode b_Sw_untilNone 13 = .ok (.iload_n 2, 1) := by decide +kernel
theorem d_Sw_untilNone_14 : decode b_Sw_untilNone 14 = .ok (.bipush (-5), 2) := by decide +kernel
theorem d_Sw_untilNone_16 : decode b_Sw_untilNone 16 = .ok (.if_icmp .ne 5, 3) := by decide +kernel
theorem d_Sw_untilNone_19 : decode b_Sw_untilNone 19 = .ok (.iload_n 1, 1) := by decide +kernel
theorem d_Sw_untilNone_20 : decode b_Sw_untilNone 20 = .ok (.ireturn, 1) := by decide +kernel
theorem d_Sw_untilNone_21 : decode b_Sw_untilNone 21 = .ok (.iload_n 2, 1) := by decide +kernel
theorem d_Sw_untilNone_22 : decode b_Sw_untilNone 22 = .ok (.bipush 10, 2) := by decide +kernel
theorem d_Sw_untilNone_24 : decode b_Sw_untilNone 24 = .ok (.idiv, 1) := by decide +kernel
theorem d_Sw_untilNone_25 : decode b_Sw_untilNone 25 = .ok (.istore_n 3, 1) := by decide +kernel
theorem d_Sw_untilNone_26 : decode b_Sw_untilNone 26 = .ok (.iload_n 2, 1) := by decide +kernel
theorem d_Sw_untilNone_27 : decode b_Sw_untilNone 27 = .ok (.bipush 10, 2) := by decide +kernel
theorem d_Sw_untilNone_29 : decode b_Sw_untilNone 29 = .ok (.irem, 1) := by decide +kernel
theorem d_Sw_untilNone_30 : decode b_Sw_untilNone 30 = .ok (.istore 4, 2) := by decide +kernel
theorem d_Sw_untilNone_32 : decode b_Sw_untilNone 32 = .ok (.aload_n 0, 1) := by decide +kernel
theorem d_Sw_untilNone_33 : decode b_Sw_untilNone 33 = .ok (.getfield 25, 3) := by decide +kernel
theorem d_Sw_untilNone_36 : decode b_Sw_untilNone 36 = .ok (.iload_n 3, 1) := by decide +kernel
theorem d_Sw_untilNone_37 : decode b_Sw_untilNone 37 = .ok (.iaload, 1) := by decide +kernel
theorem d_Sw_untilNone_38 : decode b_Sw_untilNone 38 = .ok (.istore 5, 2) := by decide +kernel
theorem d_Sw_untilNone_40 : decode b_Sw_untilNone 40 = .ok (.aload_n 0, 1) := by decide +kernel
theorem d_Sw_untilNone_41 : decode b_Sw_untilNone 41 = .ok (.getfield 25, 3) := by decide +kernel
theorem d_Sw_untilNone_44 : decode b_Sw_untilNone 44 = .ok (.iload_n 3, 1) := by decide +kernel
theorem d_Sw_untilNone_45 : decode b_Sw_untilNone 45 = .ok (.aload_n 0, 1) := by decide +kernel
theorem d_Sw_untilNone_46 : decode b_Sw_untilNone 46 = .ok (.getfield 25, 3) := by decide +kernel
theorem d_Sw_untilNone_49 : decode b_Sw_untilNone 49 = .ok (.iload 4, 2) := by decide +kernel
theorem d_Sw_untilNone_51 : decode b_Sw_untilNone 51 = .ok (.iaload, 1) := by decide +kernel
theorem d_Sw_untilNone_52 : decode b_Sw_untilNone 52 = .ok (.iastore, 1) := by decide +kernel
theorem d_Sw_untilNone_53 : decode b_Sw_untilNone 53 = .ok (.aload_n 0, 1) := by decide +kernel
theorem d_Sw_untilNone_54 : decode b_Sw_untilNone 54 = .ok (.getfield 25, 3) := by decide +kernel
theorem d_Sw_untilNone_57 : decode b_Sw_untilNone 57 = .ok (.iload 4, 2) := by decide +kernel
theorem d_Sw_untilNone_59 : decode b_Sw_untilNone 59 = .ok (.iload 5, 2) := by decide +kernel
theorem d_Sw_untilNone_61 : decode b_Sw_untilNone 61 = .ok (.iastore, 1) := by decide +kernel
theorem d_Sw_untilNone_62 : decode b_Sw_untilNone 62 = .ok (.iinc 1 1, 3) := by decide +kernel
theorem d_Sw_untilNone_65 : decode b_Sw_untilNone 65 = .ok (.goto (-63), 3) := by decide +kernel
theorem d_Sw_untilNone_68 : decode b_Sw_untilNone 68 = .ok (.bipush (-5), 2) := by decide +kernel
theorem d_Sw_untilNone_70 : decode b_Sw_untilNone 70 = .ok (.ireturn, 1) := by decide +kernel
theorem o_Sw_untilNone : OkS y_Sw_untilNone b_Sw_untilNone 6 (some .int) 1 := ⟨⟨by decide +kernel, by decide +kernel, by decide +kernel⟩, g_879, g_90, g_880⟩
set_option maxHeartbeats 4000000 in
set_option maxRecDepth 100000 in
theorem c_Sw_untilNone (l : Launch) (D : va_G) (g : Nat → ClassId) (a : Nat → Nat) (z : T_St) (v : Int32 × T_St) (h : d_Sw_untilNone z = some v) :
    MI l y_Sw_untilNone b_Sw_untilNone 6 .int ({ frames := 5, cells := 0, slots := 0, locals := 113 } : Room) D g [.ref (a 0)] (ws_St g a z) (v.1) (ws_St g a v.2) := by
  have hd := h
  unfold d_Sw_untilNone at hd
  refine enterI rfl (Nat.le_of_ble_eq_true rfl) (fun p e s m below meth c A ls hx hb hml hr hown hg hlk hK hA hP hD hS hCs hl => ?_)
  have hown : s.vm.findClass "OwnsLift$Swaps" = some m.cls := hown
  have hl : lv_has ls 6 [(0, .ref (a 0))] := hl
  show GI p l e s m ({ frames := 5, cells := 0, slots := 0, locals := 113 } : Room) ([.ref (a 0)] : List Value).toArray below meth c A D g (ws_St g a v.2) (v.1) s.heap [] (F0 m 0 ls [])
  refine lv_iconst (v := 0) hx hb d_Sw_untilNone_0 (by decide) ?_
  refine lv_istore_n (lv' := [(1, .int 0), (0, .ref (a 0))]) hx hb d_Sw_untilNone_1 rfl hl (by decide) rfl (fun ls hl => ?_)
  have lp2 : ∀ (n : Nat) (x1_2 : Int32) (z_2 : T_St) (H : Heap) (locs : List Loc) (ls : Array Slot), va_P D classes (ws_St g a z_2) H → va_D A (ws_St g a z_2) → va_S A s.heap H locs → lv_has ls 6 [(0, .ref (a 0)), (1, .int x1_2)] → d_Sw_untilNone_L2 n x1_2 z_2 = some v → GI p l e s m ({ frames := 5, cells := 0, slots := 0, locals := 113 } : Room) ([.ref (a 0)] : List Value).toArray below meth c A D g (ws_St g a v.2) (v.1) H locs (F0 m 2 ls []) := by
    intro n
    induction n with
    | zero =>
      intro  x1_2 z_2 H locs ls hP hD hS hl hd
      have hd : none = some v := hd
      cases hd
    | succ n ih2 =>
      intro  x1_2 z_2 H locs ls hP hD hS hl hd
      have hd : B_Sw_untilNone_L2 (d_Sw_untilNone_L2 n) x1_2 z_2 = some v := hd
      generalize d_Sw_untilNone_L2 n = self2 at ih2 hd
      unfold B_Sw_untilNone_L2 at hd
      refine lv_iload_n hx hb d_Sw_untilNone_2 rfl (lv_at hl 1 rfl) ?_
      refine lv_bipush (v := 20) hx hb d_Sw_untilNone_3 (by decide) ?_
      refine lv_icmp_gt (tgt := 68) hx hb d_Sw_untilNone_5 (by decide) (fun h_1 => ?_) (fun h_1 => ?_)
      · have hd := ite_t hd h_1
        refine lv_bipush (v := (-5)) hx hb d_Sw_untilNone_68 (by decide) ?_
        obtain rfl := Option.some.inj hd
        exact retI hx hb hr hlk hK hP hD hS d_Sw_untilNone_70 rfl
      · have hd := ite_f hd h_1
        refine lv_aload_n hx hb d_Sw_untilNone_8 rfl (lv_at hl 0 rfl) ?_
        obtain ⟨v_2, e_3, hd⟩ := bind_s hd
        refine callSI (ws' := ws_St g a z_2) (rest := []) (As := [.ref (a 0)]) hx hb hml hown hg hK hP hD hS hA hCs hl.1 (c_Sw_first l D g a z_2 _ e_3) o_Sw_first g_881 (List.range' 0 10) (segC1 rfl rfl) (by decide) rfl (segP1 rfl rfl) rfl rfl (Nat.le_of_ble_eq_true rfl) ⟨rfl, rfl, Nat.le_of_ble_eq_true rfl, Nat.le_of_ble_eq_true rfl⟩ d_Sw_untilNone_9 (fun H locs hP hD hS => ?_)
        refine lv_istore_n (lv' := [(2, .int v_2), (0, .ref (a 0)), (1, .int x1_2)]) hx hb d_Sw_untilNone_12 rfl hl (by decide) rfl (fun ls hl => ?_)
        refine lv_iload_n hx hb d_Sw_untilNone_13 rfl (lv_at hl 0 rfl) ?_
        refine lv_bipush (v := (-5)) hx hb d_Sw_untilNone_14 (by decide) ?_
        refine lv_icmp_ne (tgt := 21) hx hb d_Sw_untilNone_16 (by decide) (fun h_4 => ?_) (fun h_4 => ?_)
        · have hd := ite_f hd h_4
          refine lv_iload_n hx hb d_Sw_untilNone_21 rfl (lv_at hl 0 rfl) ?_
          refine lv_bipush (v := 10) hx hb d_Sw_untilNone_22 (by decide) ?_
          refine lv_idiv hx hb d_Sw_untilNone_24 (by decide) ?_
          refine lv_istore_n (lv' := [(3, .int (v_2 / 10)), (2, .int v_2), (0, .ref (a 0)), (1, .int x1_2)]) hx hb d_Sw_untilNone_25 rfl hl (by decide) rfl (fun ls hl => ?_)
          refine lv_iload_n hx hb d_Sw_untilNone_26 rfl (lv_at hl 1 rfl) ?_
          refine lv_bipush (v := 10) hx hb d_Sw_untilNone_27 (by decide) ?_
          refine lv_irem hx hb d_Sw_untilNone_29 (by decide) ?_
          refine lv_istore (lv' := [(4, .int (v_2 - v_2 / 10 * 10)), (3, .int (v_2 / 10)), (2, .int v_2), (0, .ref (a 0)), (1, .int x1_2)]) hx hb d_Sw_untilNone_30 hl (by decide) rfl (fun ls hl => ?_)
          refine lv_aload_n hx hb d_Sw_untilNone_32 rfl (lv_at hl 3 rfl) ?_
          refine va_get (D := D) (ci := 9) (v := .ref (a 9)) (C := R_St) (T := F_St) (N := 7) hx hb hg i_St hown hK hP 0 rfl rfl 6 (by decide) (hg _ g_299) (fun _ h9 => h9) rfl d_Sw_untilNone_33 ?_
          refine lv_iload_n hx hb d_Sw_untilNone_36 rfl (lv_at hl 1 rfl) ?_
          obtain ⟨h_8, hd⟩ := ite_s hd
          refine ialdK hx hb hK hP 9 0 rfl rfl (inb_t h_8) rfl d_Sw_untilNone_37 ?_
          refine lv_istore (lv' := [(5, .int ((q_St_owner z_2) (v_2 / 10).toNatClampNeg)), (4, .int (v_2 - v_2 / 10 * 10)), (3, .int (v_2 / 10)), (2, .int v_2), (0, .ref (a 0)), (1, .int x1_2)]) hx hb d_Sw_untilNone_38 hl (by decide) rfl (fun ls hl => ?_)
          refine lv_aload_n hx hb d_Sw_untilNone_40 rfl (lv_at hl 4 rfl) ?_
          refine va_get (D := D) (ci := 9) (v := .ref (a 9)) (C := R_St) (T := F_St) (N := 7) hx hb hg i_St hown hK hP 0 rfl rfl 6 (by decide) (hg _ g_299) (fun _ h9 => h9) rfl d_Sw_untilNone_41 ?_
          refine lv_iload_n hx hb d_Sw_untilNone_44 rfl (lv_at hl 2 rfl) ?_
          refine lv_aload_n hx hb d_Sw_untilNone_45 rfl (lv_at hl 4 rfl) ?_
          refine va_get (D := D) (ci := 9) (v := .ref (a 9)) (C := R_St) (T := F_St) (N := 7) hx hb hg i_St hown hK hP 0 rfl rfl 6 (by decide) (hg _ g_299) (fun _ h9 => h9) rfl d_Sw_untilNone_46 ?_
          refine lv_iload hx hb d_Sw_untilNone_49 (lv_at hl 1 rfl) ?_
          obtain ⟨h_7, hd⟩ := ite_s hd
          refine ialdK hx hb hK hP 9 0 rfl rfl (inb_t h_7) rfl d_Sw_untilNone_51 ?_
          obtain ⟨h_6, hd⟩ := ite_s hd
          refine iastK hx hb hK hP hD hS 9 0 rfl rfl (inb_t h_6) rfl d_Sw_untilNone_52 (fun H locs hP hD hS => ?_)
          have hP : va_P D classes (ws_St g a (u_St_owner z_2 (upd (q_St_owner z_2) (v_2 / 10).toNatClampNeg ((q_St_owner z_2) (v_2 - v_2 / 10 * 10).toNatClampNeg)))) H := hP
          have hD : va_D A (ws_St g a (u_St_owner z_2 (upd (q_St_owner z_2) (v_2 / 10).toNatClampNeg ((q_St_owner z_2) (v_2 - v_2 / 10 * 10).toNatClampNeg)))) := hD
          refine lv_aload_n hx hb d_Sw_untilNone_53 rfl (lv_at hl 4 rfl) ?_
          refine va_get (D := D) (ci := 9) (v := .ref (a 9)) (C := R_St) (T := F_St) (N := 7) hx hb hg i_St hown hK hP 0 rfl rfl 6 (by decide) (hg _ g_299) (fun _ h9 => h9) rfl d_Sw_untilNone_54 ?_
          refine lv_iload hx hb d_Sw_untilNone_57 (lv_at hl 1 rfl) ?_
          refine lv_iload hx hb d_Sw_untilNone_59 (lv_at hl 0 rfl) ?_
          obtain ⟨h_5, hd⟩ := ite_s hd
          refine iastK hx hb hK hP hD hS 9 0 rfl rfl (inb_t h_5) rfl d_Sw_untilNone_61 (fun H locs hP hD hS => ?_)
          have hP : va_P D classes (ws_St g a (u_St_owner (u_St_owner z_2 (upd (q_St_owner z_2) (v_2 / 10).toNatClampNeg ((q_St_owner z_2) (v_2 - v_2 / 10 * 10).toNatClampNeg))) (upd (q_St_owner (u_St_owner z_2 (upd (q_St_owner z_2) (v_2 / 10).toNatClampNeg ((q_St_owner z_2) (v_2 - v_2 / 10 * 10).toNatClampNeg)))) (v_2 - v_2 / 10 * 10).toNatClampNeg ((q_St_owner z_2) (v_2 / 10).toNatClampNeg)))) H := hP
          have hD : va_D A (ws_St g a (u_St_owner (u_St_owner z_2 (upd (q_St_owner z_2) (v_2 / 10).toNatClampNeg ((q_St_owner z_2) (v_2 - v_2 / 10 * 10).toNatClampNeg))) (upd (q_St_owner (u_St_owner z_2 (upd (q_St_owner z_2) (v_2 / 10).toNatClampNeg ((q_St_owner z_2) (v_2 - v_2 / 10 * 10).toNatClampNeg)))) (v_2 - v_2 / 10 * 10).toNatClampNeg ((q_St_owner z_2) (v_2 / 10).toNatClampNeg)))) := hD
          refine lv_iinc (v := x1_2 + 1) (lv' := [(1, .int (x1_2 + 1)), (5, .int ((q_St_owner z_2) (v_2 / 10).toNatClampNeg)), (4, .int (v_2 - v_2 / 10 * 10)), (3, .int (v_2 / 10)), (2, .int v_2), (0, .ref (a 0))]) hx hb d_Sw_untilNone_62 hl (k := 5) rfl (by rfl) (by decide) rfl (fun ls hl => ?_)
          refine lv_goto (tgt := 2) hx hb d_Sw_untilNone_65 (by decide) ?_
          exact ih2 (x1_2 + 1) (u_St_owner (u_St_owner z_2 (upd (q_St_owner z_2) (v_2 / 10).toNatClampNeg ((q_St_owner z_2) (v_2 - v_2 / 10 * 10).toNatClampNeg))) (upd (q_St_owner (u_St_owner z_2 (upd (q_St_owner z_2) (v_2 / 10).toNatClampNeg ((q_St_owner z_2) (v_2 - v_2 / 10 * 10).toNatClampNeg)))) (v_2 - v_2 / 10 * 10).toNatClampNeg ((q_St_owner z_2) (v_2 / 10).toNatClampNeg))) _ _ _ hP hD hS (lv_sub hl [5, 0] rfl) hd
        · have hd := ite_t hd h_4
          refine lv_iload_n hx hb d_Sw_untilNone_19 rfl (lv_at hl 2 rfl) ?_
          obtain rfl := Option.some.inj hd
          exact retI hx hb hr hlk hK hP hD hS d_Sw_untilNone_20 rfl
  exact lp2 1000 0 z _ _ _ hP hD hS (lv_sub hl [1, 0] rfl) hd
-- OwnsLift$Sets.partsFairly(LOwnsLift$Standing;III)Z
def d_Se_partsFairly (x1 : Int32) (x2 : Int32) (x3 : Int32) (z : T_St) : Option (Int32) :=
  (d_St_bits x1 z).bind fun v_1 => (d_St_bits x2 z).bind fun v_3 => (d_St_weightOfSet x3 z).bind fun v_5 => if inb x1 4 = true then (if ((q_St_lifts z) x1.toNatClampNeg) < v_5 then (some (0)) else ((d_St_weightOfSet ((v_1 ||| v_3) &&& (x3 ^^^ (-1))) z).bind fun v_8 => if inb x2 4 = true then (if ((q_St_lifts z) x2.toNatClampNeg) < v_8 then (some (0)) else ((d_St_likeOfSet x1 ((v_1 ||| v_3) &&& (x3 ^^^ (-1))) z).bind fun v_11 => (d_St_likeOfSet x1 x3 z).bind fun v_13 => if v_13 < v_11 then (some (0)) else ((d_St_likeOfSet x2 x3 z).bind fun v_16 => (d_St_likeOfSet x2 ((v_1 ||| v_3) &&& (x3 ^^^ (-1))) z).bind fun v_18 => if v_18 < v_16 then (some (0)) else (some (1))))) else none)) else none
theorem d_Se_partsFairly_0 : decode b_Se_partsFairly 0 = .ok (.aload_n 0, 1) := by decide +kernel
theorem d_Se_partsFairly_1 : decode b_Se_partsFairly 1 = .ok (.iload_n 1, 1) := by decide +kernel
theorem d_Se_partsFairly_2 : decode b_Se_partsFairly 2 = .ok (.invokevirtual 9, 3) := by decide +kernel
theorem d_Se_partsFairly_5 : decode b_Se_partsFairly 5 = .ok (.aload_n 0, 1) := by decide +kernel
theorem d_Se_partsFairly_6 : decode b_Se_partsFairly 6 = .ok (.iload_n 2, 1) := by decide +kernel
theorem d_Se_partsFairly_7 : decode b_Se_partsFairly 7 = .ok (.invokevirtual 9, 3) := by decide +kernel
theorem d_Se_partsFairly_10 : decode b_Se_partsFairly 10 = .ok (.ior, 1) := by decide +kernel
theorem d_Se_partsFairly_11 : decode b_Se_partsFairly 11 = .ok (.iload_n 3, 1) := by decide +kernel
theorem d_Se_partsFairly_12 : decode b_Se_partsFairly 12 = .ok (.iconst (-1), 1) := by decide +kernel
theorem d_Se_partsFairly_13 : decode b_Se_partsFairly 13 = .ok (.ixor, 1) := by decide +kernel
theorem d_Se_partsFairly_14 : decode b_Se_partsFairly 14 = .ok (.iand, 1) := by decide +kernel
theorem d_Se_partsFairly_15 : decode b_Se_partsFairly 15 = .ok (.istore 4, 2) := by decide +kernel
theorem d_Se_partsFairly_17 : decode b_Se_partsFairly 17 = .ok (.aload_n 0, 1) := by decide +kernel
theorem d_Se_partsFairly_18 : decode b_Se_partsFairly 18 = .ok (.iload_n 3, 1) := by decide +kernel
theorem d_Se_partsFairly_19 : decode b_Se_partsFairly 19 = .ok (.invokevirtual 19, 3) := by decide +kernel
theorem d_Se_partsFairly_22 : decode b_Se_partsFairly 22 = .ok (.aload_n 0, 1) := by decide +kernel
theorem d_Se_partsFairly_23 : decode b_Se_partsFairly 23 = .ok (.getfield 22, 3) := by decide +kernel
theorem d_Se_partsFairly_26 : decode b_Se_partsFairly 26 = .ok (.iload_n 1, 1) := by decide +kernel
theorem d_Se_partsFairly_27 : decode b_Se_partsFairly 27 = .ok (.iaload, 1) := by decide +kernel
theorem d_Se_partsFairly_28 : decode b_Se_partsFairly 28 = .ok (.if_icmp .gt 54, 3) := by decide +kernel
theorem d_Se_partsFairly_31 : decode b_Se_partsFairly 31 = .ok (.aload_n 0, 1) := by decide +kernel
theorem d_Se_partsFairly_32 : decode b_Se_partsFairly 32 = .ok (.iload 4, 2) := by decide +kernel
theorem d_Se_partsFairly_34 : decode b_Se_partsFairly 34 = .ok (.invokevirtual 19, 3) := by decide +kernel
theorem d_Se_partsFairly_37 : decode b_Se_partsFairly 37 = .ok (.aload_n 0, 1) := by decide +kernel
theorem d_Se_partsFairly_38 : decode b_Se_partsFairly 38 = .ok (.getfield 22, 3) := by decide +kernel
theorem d_Se_partsFairly_41 : decode b_Se_partsFairly 41 = .ok (.iload_n 2, 1) := by decide +kernel
theorem d_Se_partsFairly_42 : decode b_Se_partsFairly 42 = .ok (.iaload, 1) := by decide +kernel
theorem d_Se_partsFairly_43 : decode b_Se_partsFairly 43 = .ok (.if_icmp .gt 39, 3) := by decide +kernel
theorem d_Se_partsFairly_46 : decode b_Se_partsFairly 46 = .ok (.aload_n 0, 1) := by decide +kernel
theorem d_Se_partsFairly_47 : decode b_Se_partsFairly 47 = .ok (.iload_n 1, 1) := by decide +kernel
theorem d_Se_partsFairly_48 : decode b_Se_partsFairly 48 = .ok (.iload 4, 2) := by decide +kernel
theorem d_Se_partsFairly_50 : decode b_Se_partsFairly 50 = .ok (.invokevirtual 15, 3) := by decide +kernel
theorem d_Se_partsFairly_53 : decode b_Se_partsFairly 53 = .ok (.aload_n 0, 1) := by decide +kernel
theorem d_Se_partsFairly_54 : decode b_Se_partsFairly 54 = .ok (.iload_n 1, 1) := by decide +kernel
theorem d_Se_partsFairly_55 : decode b_Se_partsFairly 55 = .ok (.iload_n 3, 1) := by decide +kernel
theorem d_Se_partsFairly_56 : decode b_Se_partsFairly 56 = .ok (.invokevirtual 15, 3) := by decide +kernel
theorem d_Se_partsFairly_59 : decode b_Se_partsFairly 59 = .ok (.if_icmp .gt 23, 3) := by decide +kernel
theorem d_Se_partsFairly_62 : decode b_Se_partsFairly 62 = .ok (.aload_n 0, 1) := by decide +kernel
theorem d_Se_partsFairly_63 : decode b_Se_partsFairly 63 = .ok (.iload_n 2, 1) := by decide +kernel
theorem d_Se_partsFairly_64 : decode b_Se_partsFairly 64 = .ok (.iload_n 3, 1) := by decide +kernel
theorem d_Se_partsFairly_65 : decode b_Se_partsFairly 65 = .ok (.invokevirtual 15, 3) := by decide +kernel
theorem d_Se_partsFairly_68 : decode b_Se_partsFairly 68 = .ok (.aload_n 0, 1) := by decide +kernel
theorem d_Se_partsFairly_69 : decode b_Se_partsFairly 69 = .ok (.iload_n 2, 1) := by decide +kernel
theorem d_Se_partsFairly_70 : decode b_Se_partsFairly 70 = .ok (.iload 4, 2) := by decide +kernel
theorem d_Se_partsFairly_72 : decode b_Se_partsFairly 72 = .ok (.invokevirtual 15, 3) := by decide +kernel
theorem d_Se_partsFairly_75 : decode b_Se_partsFairly 75 = .ok (.if_icmp .gt 7, 3) := by decide +kernel
theorem d_Se_partsFairly_78 : decode b_Se_partsFairly 78 = .ok (.iconst 1, 1) := by decide +kernel
theorem d_Se_partsFairly_79 : decode b_Se_partsFairly 79 = .ok (.goto 4, 3) := by decide +kernel
theorem d_Se_partsFairly_82 : decode b_Se_partsFairly 82 = .ok (.iconst 0, 1) := by decide +kernel
theorem d_Se_partsFairly_83 : decode b_Se_partsFairly 83 = .ok (.ireturn, 1) := by decide +kernel
theorem o_Se_partsFairly : OkS y_Se_partsFairly b_Se_partsFairly 5 (some .boolean) 4 := ⟨⟨by decide +kernel, by decide +kernel, by decide +kernel⟩, g_890, g_89, g_891⟩
set_option maxHeartbeats 4000000 in
set_option maxRecDepth 100000 in
theorem c_Se_partsFairly (l : Launch) (D : va_G) (g : Nat → ClassId) (a : Nat → Nat) (x1 : Int32) (x2 : Int32) (x3 : Int32) (z : T_St) (v : Int32) (h : d_Se_partsFairly x1 x2 x3 z = some v) :
    MI l y_Se_partsFairly b_Se_partsFairly 5 .boolean ({ frames := 1, cells := 0, slots := 0, locals := 24 } : Room) D g [.ref (a 0), .int x1, .int x2, .int x3] (ws_St g a z) (v) (ws_St g a z) := by
  have hd := h
  unfold d_Se_partsFairly at hd
  refine enterI rfl (Nat.le_of_ble_eq_true rfl) (fun p e s m below meth c A ls hx hb hml hr hown hg hlk hK hA hP hD hS hCs hl => ?_)
  have hown : s.vm.findClass "OwnsLift$Sets" = some m.cls := hown
  have hl : lv_has ls 5 [(0, .ref (a 0)), (1, .int x1), (2, .int x2), (3, .int x3)] := hl
  show GI p l e s m ({ frames := 1, cells := 0, slots := 0, locals := 24 } : Room) ([.ref (a 0), .int x1, .int x2, .int x3] : List Value).toArray below meth c A D g (ws_St g a z) (v) s.heap [] (F0 m 0 ls [])
  refine lv_aload_n hx hb d_Se_partsFairly_0 rfl (lv_at hl 0 rfl) ?_
  refine lv_iload_n hx hb d_Se_partsFairly_1 rfl (lv_at hl 1 rfl) ?_
  obtain ⟨v_1, e_2, hd⟩ := bind_s hd
  refine callVI (ws' := ws_St g a z) (rest := []) (As := [.int x1]) hx hb hml hown hg hK hP hD hS hA hCs hl.1 (c_St_bits l D g a x1 z _ e_2) o_St_bits g_830 (ci := 9) (q0 := 0) rfl rfl (List.range' 0 10) (segC1 rfl rfl) (by decide) rfl (segP1 rfl rfl) rfl rfl (Nat.le_of_ble_eq_true rfl) ⟨rfl, rfl, Nat.le_of_ble_eq_true rfl, Nat.le_of_ble_eq_true rfl⟩ d_Se_partsFairly_2 (fun H locs hP hD hS => ?_)
  refine lv_aload_n hx hb d_Se_partsFairly_5 rfl (lv_at hl 0 rfl) ?_
  refine lv_iload_n hx hb d_Se_partsFairly_6 rfl (lv_at hl 2 rfl) ?_
  obtain ⟨v_3, e_4, hd⟩ := bind_s hd
  refine callVI (ws' := ws_St g a z) (rest := [.int v_1]) (As := [.int x2]) hx hb hml hown hg hK hP hD hS hA hCs hl.1 (c_St_bits l D g a x2 z _ e_4) o_St_bits g_830 (ci := 9) (q0 := 0) rfl rfl (List.range' 0 10) (segC1 rfl rfl) (by decide) rfl (segP1 rfl rfl) rfl rfl (Nat.le_of_ble_eq_true rfl) ⟨rfl, rfl, Nat.le_of_ble_eq_true rfl, Nat.le_of_ble_eq_true rfl⟩ d_Se_partsFairly_7 (fun H locs hP hD hS => ?_)
  refine lv_ior hx hb d_Se_partsFairly_10 ?_
  refine lv_iload_n hx hb d_Se_partsFairly_11 rfl (lv_at hl 3 rfl) ?_
  refine lv_iconst (v := (-1)) hx hb d_Se_partsFairly_12 (by decide) ?_
  refine lv_ixor hx hb d_Se_partsFairly_13 ?_
  refine lv_iand hx hb d_Se_partsFairly_14 ?_
  refine lv_istore (lv' := [(4, .int ((v_1 ||| v_3) &&& (x3 ^^^ (-1)))), (0, .ref (a 0)), (1, .int x1), (2, .int x2), (3, .int x3)]) hx hb d_Se_partsFairly_15 hl (by decide) rfl (fun ls hl => ?_)
  refine lv_aload_n hx hb d_Se_partsFairly_17 rfl (lv_at hl 1 rfl) ?_
  refine lv_iload_n hx hb d_Se_partsFairly_18 rfl (lv_at hl 4 rfl) ?_
  obtain ⟨v_5, e_6, hd⟩ := bind_s hd
  refine callVI (ws' := ws_St g a z) (rest := []) (As := [.int x3]) hx hb hml hown hg hK hP hD hS hA hCs hl.1 (c_St_weightOfSet l D g a x3 z _ e_6) o_St_weightOfSet g_835 (ci := 9) (q0 := 0) rfl rfl (List.range' 0 10) (segC1 rfl rfl) (by decide) rfl (segP1 rfl rfl) rfl rfl (Nat.le_of_ble_eq_true rfl) ⟨rfl, rfl, Nat.le_of_ble_eq_true rfl, Nat.le_of_ble_eq_true rfl⟩ d_Se_partsFairly_19 (fun H locs hP hD hS => ?_)
  refine lv_aload_n hx hb d_Se_partsFairly_22 rfl (lv_at hl 1 rfl) ?_
  refine va_get (D := D) (ci := 9) (v := .ref (a 6)) (C := R_St) (T := F_St) (N := 7) hx hb hg i_St hown hK hP 0 rfl rfl 3 (by decide) (hg _ g_288) (fun _ h9 => h9) rfl d_Se_partsFairly_23 ?_
  refine lv_iload_n hx hb d_Se_partsFairly_26 rfl (lv_at hl 2 rfl) ?_
  obtain ⟨h_22, hd⟩ := ite_s hd
  refine ialdK hx hb hK hP 6 0 rfl rfl (inb_t h_22) rfl d_Se_partsFairly_27 ?_
  refine lv_icmp_gt (tgt := 82) hx hb d_Se_partsFairly_28 (by decide) (fun h_7 => ?_) (fun h_7 => ?_)
  · have hd := ite_t hd h_7
    refine lv_iconst (v := 0) hx hb d_Se_partsFairly_82 (by decide) ?_
    obtain rfl := Option.some.inj hd
    exact retZ hx hb hr hlk hK hP hD hS d_Se_partsFairly_83 rfl (by decide +kernel)
  · have hd := ite_f hd h_7
    refine lv_aload_n hx hb d_Se_partsFairly_31 rfl (lv_at hl 1 rfl) ?_
    refine lv_iload hx hb d_Se_partsFairly_32 (lv_at hl 0 rfl) ?_
    obtain ⟨v_8, e_9, hd⟩ := bind_s hd
    refine callVI (ws' := ws_St g a z) (rest := []) (As := [.int ((v_1 ||| v_3) &&& (x3 ^^^ (-1)))]) hx hb hml hown hg hK hP hD hS hA hCs hl.1 (c_St_weightOfSet l D g a ((v_1 ||| v_3) &&& (x3 ^^^ (-1))) z _ e_9) o_St_weightOfSet g_835 (ci := 9) (q0 := 0) rfl rfl (List.range' 0 10) (segC1 rfl rfl) (by decide) rfl (segP1 rfl rfl) rfl rfl (Nat.le_of_ble_eq_true rfl) ⟨rfl, rfl, Nat.le_of_ble_eq_true rfl, Nat.le_of_ble_eq_true rfl⟩ d_Se_partsFairly_34 (fun H locs hP hD hS => ?_)
    refine lv_aload_n hx hb d_Se_partsFairly_37 rfl (lv_at hl 1 rfl) ?_
    refine va_get (D := D) (ci := 9) (v := .ref (a 6)) (C := R_St) (T := F_St) (N := 7) hx hb hg i_St hown hK hP 0 rfl rfl 3 (by decide) (hg _ g_288) (fun _ h9 => h9) rfl d_Se_partsFairly_38 ?_
    refine lv_iload_n hx hb d_Se_partsFairly_41 rfl (lv_at hl 3 rfl) ?_
    obtain ⟨h_21, hd⟩ := ite_s hd
    refine ialdK hx hb hK hP 6 0 rfl rfl (inb_t h_21) rfl d_Se_partsFairly_42 ?_
    refine lv_icmp_gt (tgt := 82) hx hb d_Se_partsFairly_43 (by decide) (fun h_10 => ?_) (fun h_10 => ?_)
    · have hd := ite_t hd h_10
      refine lv_iconst (v := 0) hx hb d_Se_partsFairly_82 (by decide) ?_
      obtain rfl := Option.some.inj hd
      exact retZ hx hb hr hlk hK hP hD hS d_Se_partsFairly_83 rfl (by decide +kernel)
    · have hd := ite_f hd h_10
      refine lv_aload_n hx hb d_Se_partsFairly_46 rfl (lv_at hl 1 rfl) ?_
      refine lv_iload_n hx hb d_Se_partsFairly_47 rfl (lv_at hl 2 rfl) ?_
      refine lv_iload hx hb d_Se_partsFairly_48 (lv_at hl 0 rfl) ?_
      obtain ⟨v_11, e_12, hd⟩ := bind_s hd
      refine callVI (ws' := ws_St g a z) (rest := []) (As := [.int x1, .int ((v_1 ||| v_3) &&& (x3 ^^^ (-1)))]) hx hb hml hown hg hK hP hD hS hA hCs hl.1 (c_St_likeOfSet l D g a x1 ((v_1 ||| v_3) &&& (x3 ^^^ (-1))) z _ e_12) o_St_likeOfSet g_831 (ci := 9) (q0 := 0) rfl rfl (List.range' 0 10) (segC1 rfl rfl) (by decide) rfl (segP1 rfl rfl) rfl rfl (Nat.le_of_ble_eq_true rfl) ⟨rfl, rfl, Nat.le_of_ble_eq_true rfl, Nat.le_of_ble_eq_true rfl⟩ d_Se_partsFairly_50 (fun H locs hP hD hS => ?_)
      refine lv_aload_n hx hb d_Se_partsFairly_53 rfl (lv_at hl 1 rfl) ?_
      refine lv_iload_n hx hb d_Se_partsFairly_54 rfl (lv_at hl 2 rfl) ?_
      refine lv_iload_n hx hb d_Se_partsFairly_55 rfl (lv_at hl 4 rfl) ?_
      obtain ⟨v_13, e_14, hd⟩ := bind_s hd
      refine callVI (ws' := ws_St g a z) (rest := [.int v_11]) (As := [.int x1, .int x3]) hx hb hml hown hg hK hP hD hS hA hCs hl.1 (c_St_likeOfSet l D g a x1 x3 z _ e_14) o_St_likeOfSet g_831 (ci := 9) (q0 := 0) rfl rfl (List.range' 0 10) (segC1 rfl rfl) (by decide) rfl (segP1 rfl rfl) rfl rfl (Nat.le_of_ble_eq_true rfl) ⟨rfl, rfl, Nat.le_of_ble_eq_true rfl, Nat.le_of_ble_eq_true rfl⟩ d_Se_partsFairly_56 (fun H locs hP hD hS => ?_)
      refine lv_icmp_gt (tgt := 82) hx hb d_Se_partsFairly_59 (by decide) (fun h_15 => ?_) (fun h_15 => ?_)
      · have hd := ite_t hd h_15
        refine lv_iconst (v := 0) hx hb d_Se_partsFairly_82 (by decide) ?_
        obtain rfl := Option.some.inj hd
        exact retZ hx hb hr hlk hK hP hD hS d_Se_partsFairly_83 rfl (by decide +kernel)
      · have hd := ite_f hd h_15
        refine lv_aload_n hx hb d_Se_partsFairly_62 rfl (lv_at hl 1 rfl) ?_
        refine lv_iload_n hx hb d_Se_partsFairly_63 rfl (lv_at hl 3 rfl) ?_
        refine lv_iload_n hx hb d_Se_partsFairly_64 rfl (lv_at hl 4 rfl) ?_
        obtain ⟨v_16, e_17, hd⟩ := bind_s hd
        refine callVI (ws' := ws_St g a z) (rest := []) (As := [.int x2, .int x3]) hx hb hml hown hg hK hP hD hS hA hCs hl.1 (c_St_likeOfSet l D g a x2 x3 z _ e_17) o_St_likeOfSet g_831 (ci := 9) (q0 := 0) rfl rfl (List.range' 0 10) (segC1 rfl rfl) (by decide) rfl (segP1 rfl rfl) rfl rfl (Nat.le_of_ble_eq_true rfl) ⟨rfl, rfl, Nat.le_of_ble_eq_true rfl, Nat.le_of_ble_eq_true rfl⟩ d_Se_partsFairly_65 (fun H locs hP hD hS => ?_)
        refine lv_aload_n hx hb d_Se_partsFairly_68 rfl (lv_at hl 1 rfl) ?_
        refine lv_iload_n hx hb d_Se_partsFairly_69 rfl (lv_at hl 3 rfl) ?_
        refine lv_iload hx hb d_Se_partsFairly_70 (lv_at hl 0 rfl) ?_
        obtain ⟨v_18, e_19, hd⟩ := bind_s hd
        refine callVI (ws' := ws_St g a z) (rest := [.int v_16]) (As := [.int x2, .int ((v_1 ||| v_3) &&& (x3 ^^^ (-1)))]) hx hb hml hown hg hK hP hD hS hA hCs hl.1 (c_St_likeOfSet l D g a x2 ((v_1 ||| v_3) &&& (x3 ^^^ (-1))) z _ e_19) o_St_likeOfSet g_831 (ci := 9) (q0 := 0) rfl rfl (List.range' 0 10) (segC1 rfl rfl) (by decide) rfl (segP1 rfl rfl) rfl rfl (Nat.le_of_ble_eq_true rfl) ⟨rfl, rfl, Nat.le_of_ble_eq_true rfl, Nat.le_of_ble_eq_true rfl⟩ d_Se_partsFairly_72 (fun H locs hP hD hS => ?_)
        refine lv_icmp_gt (tgt := 82) hx hb d_Se_partsFairly_75 (by decide) (fun h_20 => ?_) (fun h_20 => ?_)
        · have hd := ite_t hd h_20
          refine lv_iconst (v := 0) hx hb d_Se_partsFairly_82 (by decide) ?_
          obtain rfl := Option.some.inj hd
          exact retZ hx hb hr hlk hK hP hD hS d_Se_partsFairly_83 rfl (by decide +kernel)
        · have hd := ite_f hd h_20
          refine lv_iconst (v := 1) hx hb d_Se_partsFairly_78 (by decide) ?_
          refine lv_goto (tgt := 83) hx hb d_Se_partsFairly_79 (by decide) ?_
          obtain rfl := Option.some.inj hd
          exact retZ hx hb hr hlk hK hP hD hS d_Se_partsFairly_83 rfl (by decide +kernel)
-- OwnsLift$Sets.fairLeast(LOwnsLift$Standing;II)I
def B_Se_fairLeast_L15 (x1_f15 : Int32) (x2_f15 : Int32) (x3_f15 : Int32) (z : T_St) (self15 : Int32 → Option (Int32)) (x4_15 : Int32) : Option (Int32) :=
  if x3_f15 < x4_15 then (some ((-5))) else (if (x4_15 &&& (x3_f15 ^^^ (-1))) = 0 then ((d_Se_partsFairly x1_f15 x2_f15 x4_15 z).bind fun v_7 => if v_7 = 0 then (self15 (x4_15 + 1)) else (some (x4_15))) else (self15 (x4_15 + 1)))
def d_Se_fairLeast_L15 (x1_f15 : Int32) (x2_f15 : Int32) (x3_f15 : Int32) (z : T_St) (n : Nat) : Int32 → Option (Int32) := recN (fun _ => none) (fun self => B_Se_fairLeast_L15 x1_f15 x2_f15 x3_f15 z self) n
def d_Se_fairLeast (x1 : Int32) (x2 : Int32) (z : T_St) : Option (Int32) :=
  (d_St_bits x1 z).bind fun v_1 => (d_St_bits x2 z).bind fun v_3 => d_Se_fairLeast_L15 x1 x2 (v_1 ||| v_3) z  1000 0
theorem d_Se_fairLeast_0 : decode b_Se_fairLeast 0 = .ok (.aload_n 0, 1) := by decide +kernel
theorem d_Se_fairLeast_1 : decode b_Se_fairLeast 1 = .ok (.iload_n 1, 1) := by decide +kernel
theorem d_Se_fairLeast_2 : decode b_Se_fairLeast 2 = .ok (.invokevirtual 9, 3) := by decide +kernel
theorem d_Se_fairLeast_5 : decode b_Se_fairLeast 5 = .ok (.aload_n 0, 1) := by decide +kernel
theorem d_Se_fairLeast_6 : decode b_Se_fairLeast 6 = .ok (.iload_n 2, 1) := by decide +kernel
theorem d_Se_fairLeast_7 : decode b_Se_fairLeast 7 = .ok (.invokevirtual 9, 3) := by decide +kernel
theorem d_Se_fairLeast_10 : decode b_Se_fairLeast 10 = .ok (.ior, 1) := by decide +kernel
theorem d_Se_fairLeast_11 : decode b_Se_fairLeast 11 = .ok (.istore_n 3, 1) := by decide +kernel
theorem d_Se_fairLeast_12 : decode b_Se_fairLeast 12 = .ok (.iconst 0, 1) := by decide +kernel
theorem d_Se_fairLeast_13 : decode b_Se_fairLeast 13 = .ok (.istore 4, 2) := by decide +kernel
theorem d_Se_fairLeast_15 : decode b_Se_fairLeast 15 = .ok (.iload 4, 2) := by decide +kernel
theorem d_Se_fairLeast_17 : decode b_Se_fairLeast 17 = .ok (.iload_n 3, 1) := by decide +kernel
theorem d_Se_fairLeast_18 : decode b_Se_fairLeast 18 = .ok (.if_icmp .gt 32, 3) := by decide +kernel
theorem d_Se_fairLeast_21 : decode b_Se_fairLeast 21 = .ok (.iload 4, 2) := by decide +kernel
theorem d_Se_fairLeast_23 : decode b_Se_fairLeast 23 = .ok (.iload_n 3, 1) := by decide +kernel
theorem d_Se_fairLeast_24 : decode b_Se_fairLeast 24 = .ok (.iconst (-1), 1) := by decide +kernel
theorem d_Se_fairLeast_25 : decode b_Se_fairLeast 25 = .ok (.ixor, 1) := by decide +kernel
theorem d_Se_fairLeast_26 : decode b_Se_fairLeast 26 = .ok (.iand, 1) := by decide +kernel
theorem d_Se_fairLeast_27 : decode b_Se_fairLeast 27 = .ok (.ifCond .ne 17, 3) := by decide +kernel
theorem d_Se_fairLeast_30 : decode b_Se_fairLeast 30 = .ok (.aload_n 0, 1) := by decide +kernel
theorem d_Se_fairLeast_31 : decode b_Se_fairLeast 31 = .ok (.iload_n 1, 1) := by decide +kernel
theorem d_Se_fairLeast_32 : decode b_Se_fairLeast 32 = .ok (.iload_n 2, 1) := by decide +kernel
theorem d_Se_fairLeast_33 : decode b_Se_fairLeast 33 = .ok (.iload 4, 2) := by decide +kernel
theorem d_Se_fairLeast_35 : decode b_Se_fairLeast 35 = .ok (.invokestatic 26, 3) := by decide +kernel
theorem d_Se_fairLeast_38 : decode b_Se_fairLeast 38 = .ok (.ifCond .eq 6, 3) := by decide +kernel
theorem d_Se_fairLeast_41 : decode b_Se_fairLeast 41 = .ok (.iload 4, 2) := by decide +kernel
theorem d_Se_fairLeast_43 : decode b_Se_fairLeast 43 = .ok (.ireturn, 1) := by decide +kernel
theorem d_Se_fairLeast_44 : decode b_Se_fairLeast 44 = .ok (.iinc 4 1, 3) := by decide +kernel
theorem d_Se_fairLeast_47 : decode b_Se_fairLeast 47 = .ok (.goto (-32), 3) := by decide +kernel
theorem d_Se_fairLeast_50 : decode b_Se_fairLeast 50 = .ok (.bipush (-5), 2) := by decide +kernel
theorem d_Se_fairLeast_52 : decode b_Se_fairLeast 52 = .ok (.ireturn, 1) := by decide +kernel
theorem o_Se_fairLeast : OkS y_Se_fairLeast b_Se_fairLeast 5 (some .int) 3 := ⟨⟨by decide +kernel, by decide +kernel, by decide +kernel⟩, g_893, g_89, g_894⟩
set_option maxHeartbeats 4000000 in
set_option maxRecDepth 100000 in
theorem c_Se_fairLeast (l : Launch) (D : va_G) (g : Nat → ClassId) (a : Nat → Nat) (x1 : Int32) (x2 : Int32) (z : T_St) (v : Int32) (h : d_Se_fairLeast x1 x2 z = some v) :
    MI l y_Se_fairLeast b_Se_fairLeast 5 .int ({ frames := 2, cells := 0, slots := 0, locals := 48 } : Room) D g [.ref (a 0), .int x1, .int x2] (ws_St g a z) (v) (ws_St g a z) := by
  have hd := h
  unfold d_Se_fairLeast at hd
  refine enterI rfl (Nat.le_of_ble_eq_true rfl) (fun p e s m below meth c A ls hx hb hml hr hown hg hlk hK hA hP hD hS hCs hl => ?_)
  have hown : s.vm.findClass "OwnsLift$Sets" = some m.cls := hown
  have hl : lv_has ls 5 [(0, .ref (a 0)), (1, .int x1), (2, .int x2)] := hl
  show GI p l e s m ({ frames := 2, cells := 0, slots := 0, locals := 48 } : Room) ([.ref (a 0), .int x1, .int x2] : List Value).toArray below meth c A D g (ws_St g a z) (v) s.heap [] (F0 m 0 ls [])
  refine lv_aload_n hx hb d_Se_fairLeast_0 rfl (lv_at hl 0 rfl) ?_
  refine lv_iload_n hx hb d_Se_fairLeast_1 rfl (lv_at hl 1 rfl) ?_
  obtain ⟨v_1, e_2, hd⟩ := bind_s hd
  refine callVI (ws' := ws_St g a z) (rest := []) (As := [.int x1]) hx hb hml hown hg hK hP hD hS hA hCs hl.1 (c_St_bits l D g a x1 z _ e_2) o_St_bits g_830 (ci := 9) (q0 := 0) rfl rfl (List.range' 0 10) (segC1 rfl rfl) (by decide) rfl (segP1 rfl rfl) rfl rfl (Nat.le_of_ble_eq_true rfl) ⟨rfl, rfl, Nat.le_of_ble_eq_true rfl, Nat.le_of_ble_eq_true rfl⟩ d_Se_fairLeast_2 (fun H locs hP hD hS => ?_)
  refine lv_aload_n hx hb d_Se_fairLeast_5 rfl (lv_at hl 0 rfl) ?_
  refine lv_iload_n hx hb d_Se_fairLeast_6 rfl (lv_at hl 2 rfl) ?_
  obtain ⟨v_3, e_4, hd⟩ := bind_s hd
  refine callVI (ws' := ws_St g a z) (rest := [.int v_1]) (As := [.int x2]) hx hb hml hown hg hK hP hD hS hA hCs hl.1 (c_St_bits l D g a x2 z _ e_4) o_St_bits g_830 (ci := 9) (q0 := 0) rfl rfl (List.range' 0 10) (segC1 rfl rfl) (by decide) rfl (segP1 rfl rfl) rfl rfl (Nat.le_of_ble_eq_true rfl) ⟨rfl, rfl, Nat.le_of_ble_eq_true rfl, Nat.le_of_ble_eq_true rfl⟩ d_Se_fairLeast_7 (fun H locs hP hD hS => ?_)
  refine lv_ior hx hb d_Se_fairLeast_10 ?_
  refine lv_istore_n (lv' := [(3, .int (v_1 ||| v_3)), (0, .ref (a 0)), (1, .int x1), (2, .int x2)]) hx hb d_Se_fairLeast_11 rfl hl (by decide) rfl (fun ls hl => ?_)
  refine lv_iconst (v := 0) hx hb d_Se_fairLeast_12 (by decide) ?_
  refine lv_istore (lv' := [(4, .int 0), (3, .int (v_1 ||| v_3)), (0, .ref (a 0)), (1, .int x1), (2, .int x2)]) hx hb d_Se_fairLeast_13 hl (by decide) rfl (fun ls hl => ?_)
  have lp15 : ∀ (x1_f15 : Int32) (x2_f15 : Int32) (x3_f15 : Int32) (n : Nat) (x4_15 : Int32) (H : Heap) (locs : List Loc) (ls : Array Slot), va_P D classes (ws_St g a z) H → va_D A (ws_St g a z) → va_S A s.heap H locs → lv_has ls 5 [(0, .ref (a 0)), (1, .int x1_f15), (2, .int x2_f15), (3, .int x3_f15), (4, .int x4_15)] → d_Se_fairLeast_L15 x1_f15 x2_f15 x3_f15 z n x4_15 = some v → GI p l e s m ({ frames := 2, cells := 0, slots := 0, locals := 48 } : Room) ([.ref (a 0), .int x1, .int x2] : List Value).toArray below meth c A D g (ws_St g a z) (v) H locs (F0 m 15 ls []) := by
    intro x1_f15 x2_f15 x3_f15 n
    induction n with
    | zero =>
      intro  x4_15 H locs ls hP hD hS hl hd
      have hd : none = some v := hd
      cases hd
    | succ n ih15 =>
      intro  x4_15 H locs ls hP hD hS hl hd
      have hd : B_Se_fairLeast_L15 x1_f15 x2_f15 x3_f15 z (d_Se_fairLeast_L15 x1_f15 x2_f15 x3_f15 z n) x4_15 = some v := hd
      generalize d_Se_fairLeast_L15 x1_f15 x2_f15 x3_f15 z n = self15 at ih15 hd
      unfold B_Se_fairLeast_L15 at hd
      refine lv_iload hx hb d_Se_fairLeast_15 (lv_at hl 4 rfl) ?_
      refine lv_iload_n hx hb d_Se_fairLeast_17 rfl (lv_at hl 3 rfl) ?_
      refine lv_icmp_gt (tgt := 50) hx hb d_Se_fairLeast_18 (by decide) (fun h_5 => ?_) (fun h_5 => ?_)
      · have hd := ite_t hd h_5
        refine lv_bipush (v := (-5)) hx hb d_Se_fairLeast_50 (by decide) ?_
        obtain rfl := Option.some.inj hd
        exact retI hx hb hr hlk hK hP hD hS d_Se_fairLeast_52 rfl
      · have hd := ite_f hd h_5
        refine lv_iload hx hb d_Se_fairLeast_21 (lv_at hl 4 rfl) ?_
        refine lv_iload_n hx hb d_Se_fairLeast_23 rfl (lv_at hl 3 rfl) ?_
        refine lv_iconst (v := (-1)) hx hb d_Se_fairLeast_24 (by decide) ?_
        refine lv_ixor hx hb d_Se_fairLeast_25 ?_
        refine lv_iand hx hb d_Se_fairLeast_26 ?_
        refine lv_if_ne (tgt := 44) hx hb d_Se_fairLeast_27 (by decide) (fun h_6 => ?_) (fun h_6 => ?_)
        · have hd := ite_f hd h_6
          refine lv_iinc (v := x4_15 + 1) (lv' := [(4, .int (x4_15 + 1)), (0, .ref (a 0)), (1, .int x1_f15), (2, .int x2_f15), (3, .int x3_f15)]) hx hb d_Se_fairLeast_44 hl (k := 4) rfl (by rfl) (by decide) rfl (fun ls hl => ?_)
          refine lv_goto (tgt := 15) hx hb d_Se_fairLeast_47 (by decide) ?_
          exact ih15 (x4_15 + 1) _ _ _ hP hD hS (lv_sub hl [1, 2, 3, 4, 0] rfl) hd
        · have hd := ite_t hd h_6
          refine lv_aload_n hx hb d_Se_fairLeast_30 rfl (lv_at hl 0 rfl) ?_
          refine lv_iload_n hx hb d_Se_fairLeast_31 rfl (lv_at hl 1 rfl) ?_
          refine lv_iload_n hx hb d_Se_fairLeast_32 rfl (lv_at hl 2 rfl) ?_
          refine lv_iload hx hb d_Se_fairLeast_33 (lv_at hl 4 rfl) ?_
          obtain ⟨v_7, e_8, hd⟩ := bind_s hd
          refine callSI (ws' := ws_St g a z) (rest := []) (As := [.ref (a 0), .int x1_f15, .int x2_f15, .int x4_15]) hx hb hml hown hg hK hP hD hS hA hCs hl.1 (c_Se_partsFairly l D g a x1_f15 x2_f15 x4_15 z _ e_8) o_Se_partsFairly g_889 (List.range' 0 10) (segC1 rfl rfl) (by decide) rfl (segP1 rfl rfl) rfl rfl (Nat.le_of_ble_eq_true rfl) ⟨rfl, rfl, Nat.le_of_ble_eq_true rfl, Nat.le_of_ble_eq_true rfl⟩ d_Se_fairLeast_35 (fun H locs hP hD hS => ?_)
          refine lv_if_eq (tgt := 44) hx hb d_Se_fairLeast_38 (by decide) (fun h_9 => ?_) (fun h_9 => ?_)
          · have hd := ite_t hd h_9
            refine lv_iinc (v := x4_15 + 1) (lv' := [(4, .int (x4_15 + 1)), (0, .ref (a 0)), (1, .int x1_f15), (2, .int x2_f15), (3, .int x3_f15)]) hx hb d_Se_fairLeast_44 hl (k := 4) rfl (by rfl) (by decide) rfl (fun ls hl => ?_)
            refine lv_goto (tgt := 15) hx hb d_Se_fairLeast_47 (by decide) ?_
            exact ih15 (x4_15 + 1) _ _ _ hP hD hS (lv_sub hl [1, 2, 3, 4, 0] rfl) hd
          · have hd := ite_f hd h_9
            refine lv_iload hx hb d_Se_fairLeast_41 (lv_at hl 4 rfl) ?_
            obtain rfl := Option.some.inj hd
            exact retI hx hb hr hlk hK hP hD hS d_Se_fairLeast_43 rfl
  exact lp15 x1 x2 (v_1 ||| v_3) 1000 0 _ _ _ hP hD hS (lv_sub hl [2, 3, 4, 1, 0] rfl) hd
-- OwnsLift$Sets.fairNumber(LOwnsLift$Standing;II)I
def B_Se_fairNumber_L18 (x1_f18 : Int32) (x2_f18 : Int32) (x3_f18 : Int32) (z : T_St) (self18 : Int32 → Int32 → Option (Int32)) (x4_18 : Int32) (x5_18 : Int32) : Option (Int32) :=
  if x3_f18 < x5_18 then (some (x4_18)) else (if (x5_18 &&& (x3_f18 ^^^ (-1))) = 0 then ((d_Se_partsFairly x1_f18 x2_f18 x5_18 z).bind fun v_7 => if v_7 = 0 then (self18 x4_18 (x5_18 + 1)) else (self18 (x4_18 + 1) (x5_18 + 1))) else (self18 x4_18 (x5_18 + 1)))
def d_Se_fairNumber_L18 (x1_f18 : Int32) (x2_f18 : Int32) (x3_f18 : Int32) (z : T_St) (n : Nat) : Int32 → Int32 → Option (Int32) := recN (fun _ _ => none) (fun self => B_Se_fairNumber_L18 x1_f18 x2_f18 x3_f18 z self) n
def d_Se_fairNumber (x1 : Int32) (x2 : Int32) (z : T_St) : Option (Int32) :=
  (d_St_bits x1 z).bind fun v_1 => (d_St_bits x2 z).bind fun v_3 => d_Se_fairNumber_L18 x1 x2 (v_1 ||| v_3) z  1000 0 0
theorem d_Se_fairNumber_0 : decode b_Se_fairNumber 0 = .ok (.aload_n 0, 1) := by decide +kernel
theorem d_Se_fairNumber_1 : decode b_Se_fairNumber 1 = .ok (.iload_n 1, 1) := by decide +kernel
theorem d_Se_fairNumber_2 : decode b_Se_fairNumber 2 = .ok (.invokevirtual 9, 3) := by decide +kernel
theorem d_Se_fairNumber_5 : decode b_Se_fairNumber 5 = .ok (.aload_n 0, 1) := by decide +kernel
theorem d_Se_fairNumber_6 : decode b_Se_fairNumber 6 = .ok (.iload_n 2, 1) := by decide +kernel
theorem d_Se_fairNumber_7 : decode b_Se_fairNumber 7 = .ok (.invokevirtual 9, 3) := by decide +kernel
theorem d_Se_fairNumber_10 : decode b_Se_fairNumber 10 = .ok (.ior, 1) := by decide +kernel
theorem d_Se_fairNumber_11 : decode b_Se_fairNumber 11 = .ok (.istore_n 3, 1) := by decide +kernel
theorem d_Se_fairNumber_12 : decode b_Se_fairNumber 12 = .ok (.iconst 0, 1) := by decide +kernel
theorem d_Se_fairNumber_13 : decode b_Se_fairNumber 13 = .ok (.istore 4, 2) := by decide +kernel
theorem d_Se_fairNumber_15 : decode b_Se_fairNumber 15 = .ok (.iconst 0, 1) := by decide +kernel
theorem d_Se_fairNumber_16 : decode b_Se_fairNumber 16 = .ok (.istore 5, 2) := by decide +kernel
theorem d_Se_fairNumber_18 : decode b_Se_fairNumber 18 = .ok (.iload 5, 2) := by decide +kernel
theorem d_Se_fairNumber_20 : decode b_Se_fairNumber 20 = .ok (.iload_n 3, 1) := by decide +kernel
theorem d_Se_fairNumber_21 : decode b_Se_fairNumber 21 = .ok (.if_icmp .gt 32, 3) := by decide +kernel
theorem d_Se_fairNumber_24 : decode b_Se_fairNumber 24 = .ok (.iload 5, 2) := by decide +kernel
theorem d_Se_fairNumber_26 : decode b_Se_fairNumber 26 = .ok (.iload_n 3, 1) := by decide +kernel
theorem d_Se_fairNumber_27 : decode b_Se_fairNumber 27 = .ok (.iconst (-1), 1) := by decide +kernel
theorem d_Se_fairNumber_28 : decode b_Se_fairNumber 28 = .ok (.ixor, 1) := by decide +kernel
theorem d_Se_fairNumber_29 : decode b_Se_fairNumber 29 = .ok (.iand, 1) := by decide +kernel
theorem d_Se_fairNumber_30 : decode b_Se_fairNumber 30 = .ok (.ifCond .ne 17, 3) := by decide +kernel
theorem d_Se_fairNumber_33 : decode b_Se_fairNumber 33 = .ok (.aload_n 0, 1) := by decide +kernel
theorem d_Se_fairNumber_34 : decode b_Se_fairNumber 34 = .ok (.iload_n 1, 1) := by decide +kernel
theorem d_Se_fairNumber_35 : decode b_Se_fairNumber 35 = .ok (.iload_n 2, 1) := by decide +kernel
theorem d_Se_fairNumber_36 : decode b_Se_fairNumber 36 = .ok (.iload 5, 2) := by decide +kernel
theorem d_Se_fairNumber_38 : decode b_Se_fairNumber 38 = .ok (.invokestatic 26, 3) := by decide +kernel
theorem d_Se_fairNumber_41 : decode b_Se_fairNumber 41 = .ok (.ifCond .eq 6, 3) := by decide +kernel
theorem d_Se_fairNumber_44 : decode b_Se_fairNumber 44 = .ok (.iinc 4 1, 3) := by decide +kernel
theorem d_Se_fairNumber_47 : decode b_Se_fairNumber 47 = .ok (.iinc 5 1, 3) := by decide +kernel
theorem d_Se_fairNumber_50 : decode b_Se_fairNumber 50 = .ok (.goto (-32), 3) := by decide +kernel
theorem d_Se_fairNumber_53 : decode b_Se_fairNumber 53 = .ok (.iload 4, 2) := by decide +kernel
theorem d_Se_fairNumber_55 : decode b_Se_fairNumber 55 = .ok (.ireturn, 1) := by decide +kernel
theorem o_Se_fairNumber : OkS y_Se_fairNumber b_Se_fairNumber 6 (some .int) 3 := ⟨⟨by decide +kernel, by decide +kernel, by decide +kernel⟩, g_887, g_89, g_888⟩
set_option maxHeartbeats 4000000 in
set_option maxRecDepth 100000 in
theorem c_Se_fairNumber (l : Launch) (D : va_G) (g : Nat → ClassId) (a : Nat → Nat) (x1 : Int32) (x2 : Int32) (z : T_St) (v : Int32) (h : d_Se_fairNumber x1 x2 z = some v) :
    MI l y_Se_fairNumber b_Se_fairNumber 6 .int ({ frames := 2, cells := 0, slots := 0, locals := 48 } : Room) D g [.ref (a 0), .int x1, .int x2] (ws_St g a z) (v) (ws_St g a z) := by
  have hd := h
  unfold d_Se_fairNumber at hd
  refine enterI rfl (Nat.le_of_ble_eq_true rfl) (fun p e s m below meth c A ls hx hb hml hr hown hg hlk hK hA hP hD hS hCs hl => ?_)
  have hown : s.vm.findClass "OwnsLift$Sets" = some m.cls := hown
  have hl : lv_has ls 6 [(0, .ref (a 0)), (1, .int x1), (2, .int x2)] := hl
  show GI p l e s m ({ frames := 2, cells := 0, slots := 0, locals := 48 } : Room) ([.ref (a 0), .int x1, .int x2] : List Value).toArray below meth c A D g (ws_St g a z) (v) s.heap [] (F0 m 0 ls [])
  refine lv_aload_n hx hb d_Se_fairNumber_0 rfl (lv_at hl 0 rfl) ?_
  refine lv_iload_n hx hb d_Se_fairNumber_1 rfl (lv_at hl 1 rfl) ?_
  obtain ⟨v_1, e_2, hd⟩ := bind_s hd
  refine callVI (ws' := ws_St g a z) (rest := []) (As := [.int x1]) hx hb hml hown hg hK hP hD hS hA hCs hl.1 (c_St_bits l D g a x1 z _ e_2) o_St_bits g_830 (ci := 9) (q0 := 0) rfl rfl (List.range' 0 10) (segC1 rfl rfl) (by decide) rfl (segP1 rfl rfl) rfl rfl (Nat.le_of_ble_eq_true rfl) ⟨rfl, rfl, Nat.le_of_ble_eq_true rfl, Nat.le_of_ble_eq_true rfl⟩ d_Se_fairNumber_2 (fun H locs hP hD hS => ?_)
  refine lv_aload_n hx hb d_Se_fairNumber_5 rfl (lv_at hl 0 rfl) ?_
  refine lv_iload_n hx hb d_Se_fairNumber_6 rfl (lv_at hl 2 rfl) ?_
  obtain ⟨v_3, e_4, hd⟩ := bind_s hd
  refine callVI (ws' := ws_St g a z) (rest := [.int v_1]) (As := [.int x2]) hx hb hml hown hg hK hP hD hS hA hCs hl.1 (c_St_bits l D g a x2 z _ e_4) o_St_bits g_830 (ci := 9) (q0 := 0) rfl rfl (List.range' 0 10) (segC1 rfl rfl) (by decide) rfl (segP1 rfl rfl) rfl rfl (Nat.le_of_ble_eq_true rfl) ⟨rfl, rfl, Nat.le_of_ble_eq_true rfl, Nat.le_of_ble_eq_true rfl⟩ d_Se_fairNumber_7 (fun H locs hP hD hS => ?_)
  refine lv_ior hx hb d_Se_fairNumber_10 ?_
  refine lv_istore_n (lv' := [(3, .int (v_1 ||| v_3)), (0, .ref (a 0)), (1, .int x1), (2, .int x2)]) hx hb d_Se_fairNumber_11 rfl hl (by decide) rfl (fun ls hl => ?_)
  refine lv_iconst (v := 0) hx hb d_Se_fairNumber_12 (by decide) ?_
  refine lv_istore (lv' := [(4, .int 0), (3, .int (v_1 ||| v_3)), (0, .ref (a 0)), (1, .int x1), (2, .int x2)]) hx hb d_Se_fairNumber_13 hl (by decide) rfl (fun ls hl => ?_)
  refine lv_iconst (v := 0) hx hb d_Se_fairNumber_15 (by decide) ?_
  refine lv_istore (lv' := [(5, .int 0), (4, .int 0), (3, .int (v_1 ||| v_3)), (0, .ref (a 0)), (1, .int x1), (2, .int x2)]) hx hb d_Se_fairNumber_16 hl (by decide) rfl (fun ls hl => ?_)
  have lp18 : ∀ (x1_f18 : Int32) (x2_f18 : Int32) (x3_f18 : Int32) (n : Nat) (x4_18 : Int32) (x5_18 : Int32) (H : Heap) (locs : List Loc) (ls : Array Slot), va_P D classes (ws_St g a z) H → va_D A (ws_St g a z) → va_S A s.heap H locs → lv_has ls 6 [(0, .ref (a 0)), (1, .int x1_f18), (2, .int x2_f18), (3, .int x3_f18), (4, .int x4_18), (5, .int x5_18)] → d_Se_fairNumber_L18 x1_f18 x2_f18 x3_f18 z n x4_18 x5_18 = some v → GI p l e s m ({ frames := 2, cells := 0, slots := 0, locals := 48 } : Room) ([.ref (a 0), .int x1, .int x2] : List Value).toArray below meth c A D g (ws_St g a z) (v) H locs (F0 m 18 ls []) := by
    intro x1_f18 x2_f18 x3_f18 n
    induction n with
    | zero =>
      intro  x4_18 x5_18 H locs ls hP hD hS hl hd
      have hd : none = some v := hd
      cases hd
    | succ n ih18 =>
      intro  x4_18 x5_18 H locs ls hP hD hS hl hd
      have hd : B_Se_fairNumber_L18 x1_f18 x2_f18 x3_f18 z (d_Se_fairNumber_L18 x1_f18 x2_f18 x3_f18 z n) x4_18 x5_18 = some v := hd
      generalize d_Se_fairNumber_L18 x1_f18 x2_f18 x3_f18 z n = self18 at ih18 hd
      unfold B_Se_fairNumber_L18 at hd
      refine lv_iload hx hb d_Se_fairNumber_18 (lv_at hl 5 rfl) ?_
      refine lv_iload_n hx hb d_Se_fairNumber_20 rfl (lv_at hl 3 rfl) ?_
      refine lv_icmp_gt (tgt := 53) hx hb d_Se_fairNumber_21 (by decide) (fun h_5 => ?_) (fun h_5 => ?_)
      · have hd := ite_t hd h_5
        refine lv_iload hx hb d_Se_fairNumber_53 (lv_at hl 4 rfl) ?_
        obtain rfl := Option.some.inj hd
        exact retI hx hb hr hlk hK hP hD hS d_Se_fairNumber_55 rfl
      · have hd := ite_f hd h_5
        refine lv_iload hx hb d_Se_fairNumber_24 (lv_at hl 5 rfl) ?_
        refine lv_iload_n hx hb d_Se_fairNumber_26 rfl (lv_at hl 3 rfl) ?_
        refine lv_iconst (v := (-1)) hx hb d_Se_fairNumber_27 (by decide) ?_
        refine lv_ixor hx hb d_Se_fairNumber_28 ?_
        refine lv_iand hx hb d_Se_fairNumber_29 ?_
        refine lv_if_ne (tgt := 47) hx hb d_Se_fairNumber_30 (by decide) (fun h_6 => ?_) (fun h_6 => ?_)
        · have hd := ite_f hd h_6
          refine lv_iinc (v := x5_18 + 1) (lv' := [(5, .int (x5_18 + 1)), (0, .ref (a 0)), (1, .int x1_f18), (2, .int x2_f18), (3, .int x3_f18), (4, .int x4_18)]) hx hb d_Se_fairNumber_47 hl (k := 5) rfl (by rfl) (by decide) rfl (fun ls hl => ?_)
          refine lv_goto (tgt := 18) hx hb d_Se_fairNumber_50 (by decide) ?_
          exact ih18 x4_18 (x5_18 + 1) _ _ _ hP hD hS (lv_sub hl [1, 2, 3, 4, 5, 0] rfl) hd
        · have hd := ite_t hd h_6
          refine lv_aload_n hx hb d_Se_fairNumber_33 rfl (lv_at hl 0 rfl) ?_
          refine lv_iload_n hx hb d_Se_fairNumber_34 rfl (lv_at hl 1 rfl) ?_
          refine lv_iload_n hx hb d_Se_fairNumber_35 rfl (lv_at hl 2 rfl) ?_
          refine lv_iload hx hb d_Se_fairNumber_36 (lv_at hl 5 rfl) ?_
          obtain ⟨v_7, e_8, hd⟩ := bind_s hd
          refine callSI (ws' := ws_St g a z) (rest := []) (As := [.ref (a 0), .int x1_f18, .int x2_f18, .int x5_18]) hx hb hml hown hg hK hP hD hS hA hCs hl.1 (c_Se_partsFairly l D g a x1_f18 x2_f18 x5_18 z _ e_8) o_Se_partsFairly g_889 (List.range' 0 10) (segC1 rfl rfl) (by decide) rfl (segP1 rfl rfl) rfl rfl (Nat.le_of_ble_eq_true rfl) ⟨rfl, rfl, Nat.le_of_ble_eq_true rfl, Nat.le_of_ble_eq_true rfl⟩ d_Se_fairNumber_38 (fun H locs hP hD hS => ?_)
          refine lv_if_eq (tgt := 47) hx hb d_Se_fairNumber_41 (by decide) (fun h_9 => ?_) (fun h_9 => ?_)
          · have hd := ite_t hd h_9
            refine lv_iinc (v := x5_18 + 1) (lv' := [(5, .int (x5_18 + 1)), (0, .ref (a 0)), (1, .int x1_f18), (2, .int x2_f18), (3, .int x3_f18), (4, .int x4_18)]) hx hb d_Se_fairNumber_47 hl (k := 5) rfl (by rfl) (by decide) rfl (fun ls hl => ?_)
            refine lv_goto (tgt := 18) hx hb d_Se_fairNumber_50 (by decide) ?_
            exact ih18 x4_18 (x5_18 + 1) _ _ _ hP hD hS (lv_sub hl [1, 2, 3, 4, 5, 0] rfl) hd
          · have hd := ite_f hd h_9
            refine lv_iinc (v := x4_18 + 1) (lv' := [(4, .int (x4_18 + 1)), (0, .ref (a 0)), (1, .int x1_f18), (2, .int x2_f18), (3, .int x3_f18), (5, .int x5_18)]) hx hb d_Se_fairNumber_44 hl (k := 4) rfl (by rfl) (by decide) rfl (fun ls hl => ?_)
            refine lv_iinc (v := x5_18 + 1) (lv' := [(5, .int (x5_18 + 1)), (4, .int (x4_18 + 1)), (0, .ref (a 0)), (1, .int x1_f18), (2, .int x2_f18), (3, .int x3_f18)]) hx hb d_Se_fairNumber_47 hl (k := 5) rfl (by rfl) (by decide) rfl (fun ls hl => ?_)
            refine lv_goto (tgt := 18) hx hb d_Se_fairNumber_50 (by decide) ?_
            exact ih18 (x4_18 + 1) (x5_18 + 1) _ _ _ hP hD hS (lv_sub hl [2, 3, 4, 5, 1, 0] rfl) hd
  exact lp18 x1 x2 (v_1 ||| v_3) 1000 0 0 _ _ _ hP hD hS (lv_sub hl [3, 4, 5, 2, 1, 0] rfl) hd
-- OwnsLift$Sets.weighingLeast(LOwnsLift$Standing;I)I
def B_Se_weighingLeast_L2 (x1_f2 : Int32) (z : T_St) (self2 : Int32 → Option (Int32)) (x2_2 : Int32) : Option (Int32) :=
  if ((1 : Int32) <<< ((q_St_things z) &&& 31)) ≤ x2_2 then (some ((-5))) else ((d_St_weightOfSet x2_2 z).bind fun v_2 => if v_2 = x1_f2 then (some (x2_2)) else (self2 (x2_2 + 1)))
def d_Se_weighingLeast_L2 (x1_f2 : Int32) (z : T_St) (n : Nat) : Int32 → Option (Int32) := recN (fun _ => none) (fun self => B_Se_weighingLeast_L2 x1_f2 z self) n
def d_Se_weighingLeast (x1 : Int32) (z : T_St) : Option (Int32) :=
  d_Se_weighingLeast_L2 x1 z  1000 0
theorem d_Se_weighingLeast_0 : decode b_Se_weighingLeast 0 = .ok (.iconst 0, 1) := by decide +kernel
theorem d_Se_weighingLeast_1 : decode b_Se_weighingLeast 1 = .ok (.istore_n 2, 1) := by decide +kernel
theorem d_Se_weighingLeast_2 : decode b_Se_weighingLeast 2 = .ok (.iload_n 2, 1) := by decide +kernel
theorem d_Se_weighingLeast_3 : decode b_Se_weighingLeast 3 = .ok (.iconst 1, 1) := by decide +kernel
theorem d_Se_weighingLeast_4 : decode b_Se_weighingLeast 4 = .ok (.aload_n 0, 1) := by decide +kernel
theorem d_Se_weighingLeast_5 : decode b_Se_weighingLeast 5 = .ok (.getfield 32, 3) := by decide +kernel
theorem d_Se_weighingLeast_8 : decode b_Se_weighingLeast 8 = .ok (.ishl, 1) := by decide +kernel
theorem d_Se_weighingLeast_9 : decode b_Se_weighingLeast 9 = .ok (.if_icmp .ge 20, 3) := by decide +kernel
theorem d_Se_weighingLeast_12 : decode b_Se_weighingLeast 12 = .ok (.aload_n 0, 1) := by decide +kernel
theorem d_Se_weighingLeast_13 : decode b_Se_weighingLeast 13 = .ok (.iload_n 2, 1) := by decide +kernel
theorem d_Se_weighingLeast_14 : decode b_Se_weighingLeast 14 = .ok (.invokevirtual 19, 3) := by decide +kernel
theorem d_Se_weighingLeast_17 : decode b_Se_weighingLeast 17 = .ok (.iload_n 1, 1) := by decide +kernel
theorem d_Se_weighingLeast_18 : decode b_Se_weighingLeast 18 = .ok (.if_icmp .ne 5, 3) := by decide +kernel
theorem d_Se_weighingLeast_21 : decode b_Se_weighingLeast 21 = .ok (.iload_n 2, 1) := by decide +kernel
theorem d_Se_weighingLeast_22 : decode b_Se_weighingLeast 22 = .ok (.ireturn, 1) := by decide +kernel
theorem d_Se_weighingLeast_23 : decode b_Se_weighingLeast 23 = .ok (.iinc 2 1, 3) := by decide +kernel
theorem d_Se_weighingLeast_26 : decode b_Se_weighingLeast 26 = .ok (.goto (-24), 3) := by decide +kernel
theorem d_Se_weighingLeast_29 : decode b_Se_weighingLeast 29 = .ok (.bipush (-5), 2) := by decide +kernel
theorem d_Se_weighingLeast_31 : decode b_Se_weighingLeast 31 = .ok (.ireturn, 1) := by decide +kernel
theorem o_Se_weighingLeast : OkS y_Se_weighingLeast b_Se_weighingLeast 3 (some .int) 2 := ⟨⟨by decide +kernel, by decide +kernel, by decide +kernel⟩, g_903, g_89, g_904⟩
set_option maxHeartbeats 4000000 in
set_option maxRecDepth 100000 in
theorem c_Se_weighingLeast (l : Launch) (D : va_G) (g : Nat → ClassId) (a : Nat → Nat) (x1 : Int32) (z : T_St) (v : Int32) (h : d_Se_weighingLeast x1 z = some v) :
    MI l y_Se_weighingLeast b_Se_weighingLeast 3 .int ({ frames := 1, cells := 0, slots := 0, locals := 23 } : Room) D g [.ref (a 0), .int x1] (ws_St g a z) (v) (ws_St g a z) := by
  have hd := h
  unfold d_Se_weighingLeast at hd
  refine enterI rfl (Nat.le_of_ble_eq_true rfl) (fun p e s m below meth c A ls hx hb hml hr hown hg hlk hK hA hP hD hS hCs hl => ?_)
  have hown : s.vm.findClass "OwnsLift$Sets" = some m.cls := hown
  have hl : lv_has ls 3 [(0, .ref (a 0)), (1, .int x1)] := hl
  show GI p l e s m ({ frames := 1, cells := 0, slots := 0, locals := 23 } : Room) ([.ref (a 0), .int x1] : List Value).toArray below meth c A D g (ws_St g a z) (v) s.heap [] (F0 m 0 ls [])
  refine lv_iconst (v := 0) hx hb d_Se_weighingLeast_0 (by decide) ?_
  refine lv_istore_n (lv' := [(2, .int 0), (0, .ref (a 0)), (1, .int x1)]) hx hb d_Se_weighingLeast_1 rfl hl (by decide) rfl (fun ls hl => ?_)
  have lp2 : ∀ (x1_f2 : Int32) (n : Nat) (x2_2 : Int32) (H : Heap) (locs : List Loc) (ls : Array Slot), va_P D classes (ws_St g a z) H → va_D A (ws_St g a z) → va_S A s.heap H locs → lv_has ls 3 [(0, .ref (a 0)), (1, .int x1_f2), (2, .int x2_2)] → d_Se_weighingLeast_L2 x1_f2 z n x2_2 = some v → GI p l e s m ({ frames := 1, cells := 0, slots := 0, locals := 23 } : Room) ([.ref (a 0), .int x1] : List Value).toArray below meth c A D g (ws_St g a z) (v) H locs (F0 m 2 ls []) := by
    intro x1_f2 n
    induction n with
    | zero =>
      intro  x2_2 H locs ls hP hD hS hl hd
      have hd : none = some v := hd
      cases hd
    | succ n ih2 =>
      intro  x2_2 H locs ls hP hD hS hl hd
      have hd : B_Se_weighingLeast_L2 x1_f2 z (d_Se_weighingLeast_L2 x1_f2 z n) x2_2 = some v := hd
      generalize d_Se_weighingLeast_L2 x1_f2 z n = self2 at ih2 hd
      unfold B_Se_weighingLeast_L2 at hd
      refine lv_iload_n hx hb d_Se_weighingLeast_2 rfl (lv_at hl 2 rfl) ?_
      refine lv_iconst (v := 1) hx hb d_Se_weighingLeast_3 (by decide) ?_
      refine lv_aload_n hx hb d_Se_weighingLeast_4 rfl (lv_at hl 0 rfl) ?_
      refine va_get (D := D) (ci := 9) (v := .int (q_St_things z)) (C := R_St) (T := F_St) (N := 7) hx hb hg i_St hown hK hP 0 rfl rfl 1 (by decide) (hg _ g_283) (fun _ h9 => h9) rfl d_Se_weighingLeast_5 ?_
      refine lv_ishl hx hb d_Se_weighingLeast_8 ?_
      refine lv_icmp_ge (tgt := 29) hx hb d_Se_weighingLeast_9 (by decide) (fun h_1 => ?_) (fun h_1 => ?_)
      · have hd := ite_t hd h_1
        refine lv_bipush (v := (-5)) hx hb d_Se_weighingLeast_29 (by decide) ?_
        obtain rfl := Option.some.inj hd
        exact retI hx hb hr hlk hK hP hD hS d_Se_weighingLeast_31 rfl
      · have hd := ite_f hd h_1
        refine lv_aload_n hx hb d_Se_weighingLeast_12 rfl (lv_at hl 0 rfl) ?_
        refine lv_iload_n hx hb d_Se_weighingLeast_13 rfl (lv_at hl 2 rfl) ?_
        obtain ⟨v_2, e_3, hd⟩ := bind_s hd
        refine callVI (ws' := ws_St g a z) (rest := []) (As := [.int x2_2]) hx hb hml hown hg hK hP hD hS hA hCs hl.1 (c_St_weightOfSet l D g a x2_2 z _ e_3) o_St_weightOfSet g_835 (ci := 9) (q0 := 0) rfl rfl (List.range' 0 10) (segC1 rfl rfl) (by decide) rfl (segP1 rfl rfl) rfl rfl (Nat.le_of_ble_eq_true rfl) ⟨rfl, rfl, Nat.le_of_ble_eq_true rfl, Nat.le_of_ble_eq_true rfl⟩ d_Se_weighingLeast_14 (fun H locs hP hD hS => ?_)
        refine lv_iload_n hx hb d_Se_weighingLeast_17 rfl (lv_at hl 1 rfl) ?_
        refine lv_icmp_ne (tgt := 23) hx hb d_Se_weighingLeast_18 (by decide) (fun h_4 => ?_) (fun h_4 => ?_)
        · have hd := ite_f hd h_4
          refine lv_iinc (v := x2_2 + 1) (lv' := [(2, .int (x2_2 + 1)), (0, .ref (a 0)), (1, .int x1_f2)]) hx hb d_Se_weighingLeast_23 hl (k := 2) rfl (by rfl) (by decide) rfl (fun ls hl => ?_)
          refine lv_goto (tgt := 2) hx hb d_Se_weighingLeast_26 (by decide) ?_
          exact ih2 (x2_2 + 1) _ _ _ hP hD hS (lv_sub hl [1, 2, 0] rfl) hd
        · have hd := ite_t hd h_4
          refine lv_iload_n hx hb d_Se_weighingLeast_21 rfl (lv_at hl 2 rfl) ?_
          obtain rfl := Option.some.inj hd
          exact retI hx hb hr hlk hK hP hD hS d_Se_weighingLeast_22 rfl
  exact lp2 x1 1000 0 _ _ _ hP hD hS (lv_sub hl [1, 2, 0] rfl) hd
-- OwnsLift$Sets.weighingNumber(LOwnsLift$Standing;I)I
def B_Se_weighingNumber_L4 (x1_f4 : Int32) (z : T_St) (self4 : Int32 → Int32 → Option (Int32)) (x2_4 : Int32) (x3_4 : Int32) : Option (Int32) :=
  if ((1 : Int32) <<< ((q_St_things z) &&& 31)) ≤ x3_4 then (some (x2_4)) else ((d_St_weightOfSet x3_4 z).bind fun v_2 => if v_2 = x1_f4 then (self4 (x2_4 + 1) (x3_4 + 1)) else (self4 x2_4 (x3_4 + 1)))
def d_Se_weighingNumber_L4 (x1_f4 : Int32) (z : T_St) (n : Nat) : Int32 → Int32 → Option (Int32) := recN (fun _ _ => none) (fun self => B_Se_weighingNumber_L4 x1_f4 z self) n
def d_Se_weighingNumber (x1 : Int32) (z : T_St) : Option (Int32) :=
  d_Se_weighingNumber_L4 x1 z  1000 0 0
theorem d_Se_weighingNumber_0 : decode b_Se_weighingNumber 0 = .ok (.iconst 0, 1) := by decide +kernel
theorem d_Se_weighingNumber_1 : decode b_Se_weighingNumber 1 = .ok (.istore_n 2, 1) := by decide +kernel
theorem d_Se_weighingNumber_2 : decode b_Se_weighingNumber 2 = .ok (.iconst 0, 1) := by decide +kernel
theorem d_Se_weighingNumber_3 : decode b_Se_weighingNumber 3 = .ok (.istore_n 3, 1) := by decide +kernel
theorem d_Se_weighingNumber_4 : decode b_Se_weighingNumber 4 = .ok (.iload_n 3, 1) := by decide +kernel
theorem d_Se_weighingNumber_5 : decode b_Se_weighingNumber 5 = .ok (.iconst 1, 1) := by decide +kernel
theorem d_Se_weighingNumber_6 : decode b_Se_weighingNumber 6 = .ok (.aload_n 0, 1) := by decide +kernel
theorem d_Se_weighingNumber_7 : decode b_Se_weighingNumber 7 = .ok (.getfield 32, 3) := by decide +kernel
theorem d_Se_weighingNumber_10 : decode b_Se_weighingNumber 10 = .ok (.ishl, 1) := by decide +kernel
theorem d_Se_weighingNumber_11 : decode b_Se_weighingNumber 11 = .ok (.if_icmp .ge 21, 3) := by decide +kernel
theorem d_Se_weighingNumber_14 : decode b_Se_weighingNumber 14 = .ok (.aload_n 0, 1) := by decide +kernel
theorem d_Se_weighingNumber_15 : decode b_Se_weighingNumber 15 = .ok (.iload_n 3, 1) := by decide +kernel
theorem d_Se_weighingNumber_16 : decode b_Se_weighingNumber 16 = .ok (.invokevirtual 19, 3) := by decide +kernel
theorem d_Se_weighingNumber_19 : decode b_Se_weighingNumber 19 = .ok (.iload_n 1, 1) := by decide +kernel
theorem d_Se_weighingNumber_20 : decode b_Se_weighingNumber 20 = .ok (.if_icmp .ne 6, 3) := by decide +kernel
theorem d_Se_weighingNumber_23 : decode b_Se_weighingNumber 23 = .ok (.iinc 2 1, 3) := by decide +kernel
theorem d_Se_weighingNumber_26 : decode b_Se_weighingNumber 26 = .ok (.iinc 3 1, 3) := by decide +kernel
theorem d_Se_weighingNumber_29 : decode b_Se_weighingNumber 29 = .ok (.goto (-25), 3) := by decide +kernel
theorem d_Se_weighingNumber_32 : decode b_Se_weighingNumber 32 = .ok (.iload_n 2, 1) := by decide +kernel
theorem d_Se_weighingNumber_33 : decode b_Se_weighingNumber 33 = .ok (.ireturn, 1) := by decide +kernel
theorem o_Se_weighingNumber : OkS y_Se_weighingNumber b_Se_weighingNumber 4 (some .int) 2 := ⟨⟨by decide +kernel, by decide +kernel, by decide +kernel⟩, g_900, g_89, g_901⟩
set_option maxHeartbeats 4000000 in
set_option maxRecDepth 100000 in
theorem c_Se_weighingNumber (l : Launch) (D : va_G) (g : Nat → ClassId) (a : Nat → Nat) (x1 : Int32) (z : T_St) (v : Int32) (h : d_Se_weighingNumber x1 z = some v) :
    MI l y_Se_weighingNumber b_Se_weighingNumber 4 .int ({ frames := 1, cells := 0, slots := 0, locals := 23 } : Room) D g [.ref (a 0), .int x1] (ws_St g a z) (v) (ws_St g a z) := by
  have hd := h
  unfold d_Se_weighingNumber at hd
  refine enterI rfl (Nat.le_of_ble_eq_true rfl) (fun p e s m below meth c A ls hx hb hml hr hown hg hlk hK hA hP hD hS hCs hl => ?_)
  have hown : s.vm.findClass "OwnsLift$Sets" = some m.cls := hown
  have hl : lv_has ls 4 [(0, .ref (a 0)), (1, .int x1)] := hl
  show GI p l e s m ({ frames := 1, cells := 0, slots := 0, locals := 23 } : Room) ([.ref (a 0), .int x1] : List Value).toArray below meth c A D g (ws_St g a z) (v) s.heap [] (F0 m 0 ls [])
  refine lv_iconst (v := 0) hx hb d_Se_weighingNumber_0 (by decide) ?_
  refine lv_istore_n (lv' := [(2, .int 0), (0, .ref (a 0)), (1, .int x1)]) hx hb d_Se_weighingNumber_1 rfl hl (by decide) rfl (fun ls hl => ?_)
  refine lv_iconst (v := 0) hx hb d_Se_weighingNumber_2 (by decide) ?_
  refine lv_istore_n (lv' := [(3, .int 0), (2, .int 0), (0, .ref (a 0)), (1, .int x1)]) hx hb d_Se_weighingNumber_3 rfl hl (by decide) rfl (fun ls hl => ?_)
  have lp4 : ∀ (x1_f4 : Int32) (n : Nat) (x2_4 : Int32) (x3_4 : Int32) (H : Heap) (locs : List Loc) (ls : Array Slot), va_P D classes (ws_St g a z) H → va_D A (ws_St g a z) → va_S A s.heap H locs → lv_has ls 4 [(0, .ref (a 0)), (1, .int x1_f4), (2, .int x2_4), (3, .int x3_4)] → d_Se_weighingNumber_L4 x1_f4 z n x2_4 x3_4 = some v → GI p l e s m ({ frames := 1, cells := 0, slots := 0, locals := 23 } : Room) ([.ref (a 0), .int x1] : List Value).toArray below meth c A D g (ws_St g a z) (v) H locs (F0 m 4 ls []) := by
    intro x1_f4 n
    induction n with
    | zero =>
      intro  x2_4 x3_4 H locs ls hP hD hS hl hd
      have hd : none = some v := hd
      cases hd
    | succ n ih4 =>
      intro  x2_4 x3_4 H locs ls hP hD hS hl hd
      have hd : B_Se_weighingNumber_L4 x1_f4 z (d_Se_weighingNumber_L4 x1_f4 z n) x2_4 x3_4 = some v := hd
      generalize d_Se_weighingNumber_L4 x1_f4 z n = self4 at ih4 hd
      unfold B_Se_weighingNumber_L4 at hd
      refine lv_iload_n hx hb d_Se_weighingNumber_4 rfl (lv_at hl 3 rfl) ?_
      refine lv_iconst (v := 1) hx hb d_Se_weighingNumber_5 (by decide) ?_
      refine lv_aload_n hx hb d_Se_weighingNumber_6 rfl (lv_at hl 0 rfl) ?_
      refine va_get (D := D) (ci := 9) (v := .int (q_St_things z)) (C := R_St) (T := F_St) (N := 7) hx hb hg i_St hown hK hP 0 rfl rfl 1 (by decide) (hg _ g_283) (fun _ h9 => h9) rfl d_Se_weighingNumber_7 ?_
      refine lv_ishl hx hb d_Se_weighingNumber_10 ?_
      refine lv_icmp_ge (tgt := 32) hx hb d_Se_weighingNumber_11 (by decide) (fun h_1 => ?_) (fun h_1 => ?_)
      · have hd := ite_t hd h_1
        refine lv_iload_n hx hb d_Se_weighingNumber_32 rfl (lv_at hl 2 rfl) ?_
        obtain rfl := Option.some.inj hd
        exact retI hx hb hr hlk hK hP hD hS d_Se_weighingNumber_33 rfl
      · have hd := ite_f hd h_1
        refine lv_aload_n hx hb d_Se_weighingNumber_14 rfl (lv_at hl 0 rfl) ?_
        refine lv_iload_n hx hb d_Se_weighingNumber_15 rfl (lv_at hl 3 rfl) ?_
        obtain ⟨v_2, e_3, hd⟩ := bind_s hd
        refine callVI (ws' := ws_St g a z) (rest := []) (As := [.int x3_4]) hx hb hml hown hg hK hP hD hS hA hCs hl.1 (c_St_weightOfSet l D g a x3_4 z _ e_3) o_St_weightOfSet g_835 (ci := 9) (q0 := 0) rfl rfl (List.range' 0 10) (segC1 rfl rfl) (by decide) rfl (segP1 rfl rfl) rfl rfl (Nat.le_of_ble_eq_true rfl) ⟨rfl, rfl, Nat.le_of_ble_eq_true rfl, Nat.le_of_ble_eq_true rfl⟩ d_Se_weighingNumber_16 (fun H locs hP hD hS => ?_)
        refine lv_iload_n hx hb d_Se_weighingNumber_19 rfl (lv_at hl 1 rfl) ?_
        refine lv_icmp_ne (tgt := 26) hx hb d_Se_weighingNumber_20 (by decide) (fun h_4 => ?_) (fun h_4 => ?_)
        · have hd := ite_f hd h_4
          refine lv_iinc (v := x3_4 + 1) (lv' := [(3, .int (x3_4 + 1)), (0, .ref (a 0)), (1, .int x1_f4), (2, .int x2_4)]) hx hb d_Se_weighingNumber_26 hl (k := 3) rfl (by rfl) (by decide) rfl (fun ls hl => ?_)
          refine lv_goto (tgt := 4) hx hb d_Se_weighingNumber_29 (by decide) ?_
          exact ih4 x2_4 (x3_4 + 1) _ _ _ hP hD hS (lv_sub hl [1, 2, 3, 0] rfl) hd
        · have hd := ite_t hd h_4
          refine lv_iinc (v := x2_4 + 1) (lv' := [(2, .int (x2_4 + 1)), (0, .ref (a 0)), (1, .int x1_f4), (3, .int x3_4)]) hx hb d_Se_weighingNumber_23 hl (k := 2) rfl (by rfl) (by decide) rfl (fun ls hl => ?_)
          refine lv_iinc (v := x3_4 + 1) (lv' := [(3, .int (x3_4 + 1)), (2, .int (x2_4 + 1)), (0, .ref (a 0)), (1, .int x1_f4)]) hx hb d_Se_weighingNumber_26 hl (k := 3) rfl (by rfl) (by decide) rfl (fun ls hl => ?_)
          refine lv_goto (tgt := 4) hx hb d_Se_weighingNumber_29 (by decide) ?_
          exact ih4 (x2_4 + 1) (x3_4 + 1) _ _ _ hP hD hS (lv_sub hl [2, 3, 1, 0] rfl) hd
  exact lp4 x1 1000 0 0 _ _ _ hP hD hS (lv_sub hl [2, 3, 1, 0] rfl) hd

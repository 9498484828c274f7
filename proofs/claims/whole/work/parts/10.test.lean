-- OwnsLift.within(II)Z
def d_OL_within (x0 : Int32) (x1 : Int32) : Option (Int32) :=
  if x0 < 0 then (some (0)) else (if x1 < x0 then (some (0)) else (some (1)))
theorem d_OL_within_0 : decode b_OL_within 0 = .ok (.iload_n 0, 1) := by decide +kernel
theorem d_OL_within_1 : decode b_OL_within 1 = .ok (.ifCond .lt 12, 3) := by decide +kernel
theorem d_OL_within_4 : decode b_OL_within 4 = .ok (.iload_n 0, 1) := by decide +kernel
theorem d_OL_within_5 : decode b_OL_within 5 = .ok (.iload_n 1, 1) := by decide +kernel
theorem d_OL_within_6 : decode b_OL_within 6 = .ok (.if_icmp .gt 7, 3) := by decide +kernel
theorem d_OL_within_9 : decode b_OL_within 9 = .ok (.iconst 1, 1) := by decide +kernel
theorem d_OL_within_10 : decode b_OL_within 10 = .ok (.goto 4, 3) := by decide +kernel
theorem d_OL_within_13 : decode b_OL_within 13 = .ok (.iconst 0, 1) := by decide +kernel
theorem d_OL_within_14 : decode b_OL_within 14 = .ok (.ireturn, 1) := by decide +kernel
theorem o_OL_within : OkS y_OL_within b_OL_within 2 (some .boolean) 2 := ⟨⟨by decide +kernel, by decide +kernel, by decide +kernel⟩, g_619, g_71, g_620⟩
set_option maxHeartbeats 4000000 in
set_option maxRecDepth 100000 in
theorem c_OL_within (l : Launch) (D : va_G) (g : Nat → ClassId) (x0 : Int32) (x1 : Int32) (v : Int32) (h : d_OL_within x0 x1 = some v) :
    MI l y_OL_within b_OL_within 2 .boolean ({ frames := 0, cells := 0, slots := 0, locals := 0 } : Room) D g [.int x0, .int x1] (([] : va_W)) (v) (([] : va_W)) := by
  have hd := h
  unfold d_OL_within at hd
  refine enterI rfl (Nat.le_of_ble_eq_true rfl) (fun p e s m below meth c A ls hx hb hml hr hown hg hlk hK hA hP hD hS hl => ?_)
  have hown : s.vm.findClass "OwnsLift" = some m.cls := hown
  have hl : lv_has ls 2 [(0, .int x0), (1, .int x1)] := hl
  show GI p l e s m ({ frames := 0, cells := 0, slots := 0, locals := 0 } : Room) ([.int x0, .int x1] : List Value).toArray below meth c A D g (([] : va_W)) (v) s.heap [] (F0 m 0 ls [])
  refine lv_iload_n hx hb d_OL_within_0 rfl (lv_at hl 0 rfl) ?_
  refine lv_if_lt (tgt := 13) hx hb d_OL_within_1 (by decide) (fun h_1 => ?_) (fun h_1 => ?_)
  · have hd := ite_t hd h_1
    refine lv_iconst (v := 0) hx hb d_OL_within_13 (by decide) ?_
    obtain rfl := Option.some.inj hd
    exact retZ hx hb hr hlk hK hP hD hS d_OL_within_14 rfl (by decide +kernel)
  · have hd := ite_f hd h_1
    refine lv_iload_n hx hb d_OL_within_4 rfl (lv_at hl 0 rfl) ?_
    refine lv_iload_n hx hb d_OL_within_5 rfl (lv_at hl 1 rfl) ?_
    refine lv_icmp_gt (tgt := 13) hx hb d_OL_within_6 (by decide) (fun h_2 => ?_) (fun h_2 => ?_)
    · have hd := ite_t hd h_2
      refine lv_iconst (v := 0) hx hb d_OL_within_13 (by decide) ?_
      obtain rfl := Option.some.inj hd
      exact retZ hx hb hr hlk hK hP hD hS d_OL_within_14 rfl (by decide +kernel)
    · have hd := ite_f hd h_2
      refine lv_iconst (v := 1) hx hb d_OL_within_9 (by decide) ?_
      refine lv_goto (tgt := 14) hx hb d_OL_within_10 (by decide) ?_
      obtain rfl := Option.some.inj hd
      exact retZ hx hb hr hlk hK hP hD hS d_OL_within_14 rfl (by decide +kernel)
-- OwnsLift$Things.add(I)I
def d_Th_add (x1 : Int32) (z : T_Th) : Option (Int32 × T_Th) :=
  if inb (q_Th_size z) 7 = true then (if inb (q_Th_size z) 7 = true then (some ((q_Th_size z), (u_Th_size (u_Th_owner (u_Th_weight z (upd (q_Th_weight z) (q_Th_size z).toNatClampNeg x1)) (upd (q_Th_owner (u_Th_weight z (upd (q_Th_weight z) (q_Th_size z).toNatClampNeg x1))) (q_Th_size z).toNatClampNeg (-5))) ((q_Th_size (u_Th_owner (u_Th_weight z (upd (q_Th_weight z) (q_Th_size z).toNatClampNeg x1)) (upd (q_Th_owner (u_Th_weight z (upd (q_Th_weight z) (q_Th_size z).toNatClampNeg x1))) (q_Th_size z).toNatClampNeg (-5)))) + 1)))) else none) else none
theorem d_Th_add_0 : decode b_Th_add 0 = .ok (.aload_n 0, 1) := by decide +kernel
theorem d_Th_add_1 : decode b_Th_add 1 = .ok (.getfield 18, 3) := by decide +kernel
theorem d_Th_add_4 : decode b_Th_add 4 = .ok (.istore_n 2, 1) := by decide +kernel
theorem d_Th_add_5 : decode b_Th_add 5 = .ok (.aload_n 0, 1) := by decide +kernel
theorem d_Th_add_6 : decode b_Th_add 6 = .ok (.getfield 9, 3) := by decide +kernel
theorem d_Th_add_9 : decode b_Th_add 9 = .ok (.iload_n 2, 1) := by decide +kernel
theorem d_Th_add_10 : decode b_Th_add 10 = .ok (.iload_n 1, 1) := by decide +kernel
theorem d_Th_add_11 : decode b_Th_add 11 = .ok (.iastore, 1) := by decide +kernel
theorem d_Th_add_12 : decode b_Th_add 12 = .ok (.aload_n 0, 1) := by decide +kernel
theorem d_Th_add_13 : decode b_Th_add 13 = .ok (.getfield 15, 3) := by decide +kernel
theorem d_Th_add_16 : decode b_Th_add 16 = .ok (.iload_n 2, 1) := by decide +kernel
theorem d_Th_add_17 : decode b_Th_add 17 = .ok (.bipush (-5), 2) := by decide +kernel
theorem d_Th_add_19 : decode b_Th_add 19 = .ok (.iastore, 1) := by decide +kernel
theorem d_Th_add_20 : decode b_Th_add 20 = .ok (.aload_n 0, 1) := by decide +kernel
theorem d_Th_add_21 : decode b_Th_add 21 = .ok (.dup, 1) := by decide +kernel
theorem d_Th_add_22 : decode b_Th_add 22 = .ok (.getfield 18, 3) := by decide +kernel
theorem d_Th_add_25 : decode b_Th_add 25 = .ok (.iconst 1, 1) := by decide +kernel
theorem d_Th_add_26 : decode b_Th_add 26 = .ok (.iadd, 1) := by decide +kernel
theorem d_Th_add_27 : decode b_Th_add 27 = .ok (.putfield 18, 3) := by decide +kernel
theorem d_Th_add_30 : decode b_Th_add 30 = .ok (.iload_n 2, 1) := by decide +kernel
theorem d_Th_add_31 : decode b_Th_add 31 = .ok (.ireturn, 1) := by decide +kernel
theorem o_Th_add : OkV y_Th_add "OwnsLift$Things" b_Th_add 3 (some .int) 1 := ⟨⟨rfl, by decide +kernel, by decide +kernel, by decide +kernel⟩, g_713, g_714, g_75, g_715⟩
set_option maxHeartbeats 4000000 in
set_option maxRecDepth 100000 in
theorem c_Th_add (l : Launch) (D : va_G) (g : Nat → ClassId) (a : Nat → Nat) (x1 : Int32) (z : T_Th) (v : Int32 × T_Th) (h : d_Th_add x1 z = some v) :
    MI l y_Th_add b_Th_add 3 .int ({ frames := 0, cells := 0, slots := 0, locals := 0 } : Room) D g [.ref (a 0), .int x1] (ws_Th g a z) (v.1) (ws_Th g a v.2) := by
  have hd := h
  unfold d_Th_add at hd
  refine enterI rfl (Nat.le_of_ble_eq_true rfl) (fun p e s m below meth c A ls hx hb hml hr hown hg hlk hK hA hP hD hS hl => ?_)
  have hown : s.vm.findClass "OwnsLift$Things" = some m.cls := hown
  have hl : lv_has ls 3 [(0, .ref (a 0)), (1, .int x1)] := hl
  show GI p l e s m ({ frames := 0, cells := 0, slots := 0, locals := 0 } : Room) ([.ref (a 0), .int x1] : List Value).toArray below meth c A D g (ws_Th g a v.2) (v.1) s.heap [] (F0 m 0 ls [])
  refine lv_aload_n hx hb d_Th_add_0 rfl (lv_at hl 0 rfl) ?_
  refine va_get (D := D) (ci := 10) (v := .int (q_Th_size z)) (C := R_Th) (T := F_Th) (N := 3) hx hb hg i_Th hown hK hP 0 rfl rfl 0 (by decide) (hg _ g_184) (fun _ h9 => h9) rfl d_Th_add_1 ?_
  refine lv_istore_n (lv' := [(2, .int (q_Th_size z)), (0, .ref (a 0)), (1, .int x1)]) hx hb d_Th_add_4 rfl hl (by decide) rfl (fun ls hl => ?_)
  refine lv_aload_n hx hb d_Th_add_5 rfl (lv_at hl 1 rfl) ?_
  refine va_get (D := D) (ci := 10) (v := .ref (a 1)) (C := R_Th) (T := F_Th) (N := 3) hx hb hg i_Th hown hK hP 0 rfl rfl 1 (by decide) (hg _ g_188) (fun _ h9 => h9) rfl d_Th_add_6 ?_
  refine lv_iload_n hx hb d_Th_add_9 rfl (lv_at hl 0 rfl) ?_
  refine lv_iload_n hx hb d_Th_add_10 rfl (lv_at hl 2 rfl) ?_
  obtain ⟨h_2, hd⟩ := ite_s hd
  refine iastK hx hb hK hP hD hS 1 0 rfl rfl (inb_t h_2) rfl d_Th_add_11 (fun H locs hP hD hS => ?_)
  have hP : va_P D classes (ws_Th g a (u_Th_weight z (upd (q_Th_weight z) (q_Th_size z).toNatClampNeg x1))) H := hP
  have hD : va_D A (ws_Th g a (u_Th_weight z (upd (q_Th_weight z) (q_Th_size z).toNatClampNeg x1))) := hD
  refine lv_aload_n hx hb d_Th_add_12 rfl (lv_at hl 1 rfl) ?_
  refine va_get (D := D) (ci := 10) (v := .ref (a 2)) (C := R_Th) (T := F_Th) (N := 3) hx hb hg i_Th hown hK hP 0 rfl rfl 2 (by decide) (hg _ g_192) (fun _ h9 => h9) rfl d_Th_add_13 ?_
  refine lv_iload_n hx hb d_Th_add_16 rfl (lv_at hl 0 rfl) ?_
  refine lv_bipush (v := (-5)) hx hb d_Th_add_17 (by decide) ?_
  obtain ⟨h_1, hd⟩ := ite_s hd
  refine iastK hx hb hK hP hD hS 2 0 rfl rfl (inb_t h_1) rfl d_Th_add_19 (fun H locs hP hD hS => ?_)
  have hP : va_P D classes (ws_Th g a (u_Th_owner (u_Th_weight z (upd (q_Th_weight z) (q_Th_size z).toNatClampNeg x1)) (upd (q_Th_owner (u_Th_weight z (upd (q_Th_weight z) (q_Th_size z).toNatClampNeg x1))) (q_Th_size z).toNatClampNeg (-5)))) H := hP
  have hD : va_D A (ws_Th g a (u_Th_owner (u_Th_weight z (upd (q_Th_weight z) (q_Th_size z).toNatClampNeg x1)) (upd (q_Th_owner (u_Th_weight z (upd (q_Th_weight z) (q_Th_size z).toNatClampNeg x1))) (q_Th_size z).toNatClampNeg (-5)))) := hD
  refine lv_aload_n hx hb d_Th_add_20 rfl (lv_at hl 1 rfl) ?_
  refine lv_dup hx hb d_Th_add_21 rfl ?_
  refine va_get (D := D) (ci := 10) (v := .int (q_Th_size (u_Th_owner (u_Th_weight z (upd (q_Th_weight z) (q_Th_size z).toNatClampNeg x1)) (upd (q_Th_owner (u_Th_weight z (upd (q_Th_weight z) (q_Th_size z).toNatClampNeg x1))) (q_Th_size z).toNatClampNeg (-5))))) (C := R_Th) (T := F_Th) (N := 3) hx hb hg i_Th hown hK hP 0 rfl rfl 0 (by decide) (hg _ g_184) (fun _ h9 => h9) rfl d_Th_add_22 ?_
  refine lv_iconst (v := 1) hx hb d_Th_add_25 (by decide) ?_
  refine lv_iadd hx hb d_Th_add_26 ?_
  refine va_put (D := D) (ci := 10) (v := .int ((q_Th_size (u_Th_owner (u_Th_weight z (upd (q_Th_weight z) (q_Th_size z).toNatClampNeg x1)) (upd (q_Th_owner (u_Th_weight z (upd (q_Th_weight z) (q_Th_size z).toNatClampNeg x1))) (q_Th_size z).toNatClampNeg (-5)))) + 1)) (ty := .int) (C := R_Th) (T := F_Th) (N := 3) hx hb hg i_Th t_Th t_Th_ok n_Th hown hK hP hD hS 0 rfl rfl 0 (by decide) (hg _ g_184) (fun _ h9 => h9) rfl (by decide +kernel) rfl rfl (Nat.le_of_ble_eq_true rfl) d_Th_add_27 (fun H locs hP hD hS => ?_)
  have hP : va_P D classes (ws_Th g a (u_Th_size (u_Th_owner (u_Th_weight z (upd (q_Th_weight z) (q_Th_size z).toNatClampNeg x1)) (upd (q_Th_owner (u_Th_weight z (upd (q_Th_weight z) (q_Th_size z).toNatClampNeg x1))) (q_Th_size z).toNatClampNeg (-5))) ((q_Th_size (u_Th_owner (u_Th_weight z (upd (q_Th_weight z) (q_Th_size z).toNatClampNeg x1)) (upd (q_Th_owner (u_Th_weight z (upd (q_Th_weight z) (q_Th_size z).toNatClampNeg x1))) (q_Th_size z).toNatClampNeg (-5)))) + 1))) H := hP
  have hD : va_D A (ws_Th g a (u_Th_size (u_Th_owner (u_Th_weight z (upd (q_Th_weight z) (q_Th_size z).toNatClampNeg x1)) (upd (q_Th_owner (u_Th_weight z (upd (q_Th_weight z) (q_Th_size z).toNatClampNeg x1))) (q_Th_size z).toNatClampNeg (-5))) ((q_Th_size (u_Th_owner (u_Th_weight z (upd (q_Th_weight z) (q_Th_size z).toNatClampNeg x1)) (upd (q_Th_owner (u_Th_weight z (upd (q_Th_weight z) (q_Th_size z).toNatClampNeg x1))) (q_Th_size z).toNatClampNeg (-5)))) + 1))) := hD
  refine lv_iload_n hx hb d_Th_add_30 rfl (lv_at hl 0 rfl) ?_
  obtain rfl := Option.some.inj hd
  exact retI hx hb hr hlk hK hP hD hS d_Th_add_31 rfl
-- OwnsLift.thing(I)I
def d_OL_thing (x1 : Int32) (z : T_OL) : Option (Int32 × T_OL) :=
  (d_OL_within x1 50).bind fun v_1 => if v_1 = 0 then (some ((-2), z)) else (if (q_Th_size (q_Re_things (q_OL_now z))) < 7 then ((d_Th_add x1 (q_Re_things (q_OL_now z))).bind fun v_5 => some (v_5.1, (u_OL_now z (u_Re_things (q_OL_now z) v_5.2)))) else (some ((-4), z)))
theorem d_OL_thing_0 : decode b_OL_thing 0 = .ok (.iload_n 1, 1) := by decide +kernel
theorem d_OL_thing_1 : decode b_OL_thing 1 = .ok (.bipush 50, 2) := by decide +kernel
theorem d_OL_thing_3 : decode b_OL_thing 3 = .ok (.invokestatic 91, 3) := by decide +kernel
theorem d_OL_thing_6 : decode b_OL_thing 6 = .ok (.ifCond .ne 6, 3) := by decide +kernel
theorem d_OL_thing_9 : decode b_OL_thing 9 = .ok (.bipush (-2), 2) := by decide +kernel
theorem d_OL_thing_11 : decode b_OL_thing 11 = .ok (.ireturn, 1) := by decide +kernel
theorem d_OL_thing_12 : decode b_OL_thing 12 = .ok (.aload_n 0, 1) := by decide +kernel
theorem d_OL_thing_13 : decode b_OL_thing 13 = .ok (.getfield 12, 3) := by decide +kernel
theorem d_OL_thing_16 : decode b_OL_thing 16 = .ok (.getfield 146, 3) := by decide +kernel
theorem d_OL_thing_19 : decode b_OL_thing 19 = .ok (.getfield 157, 3) := by decide +kernel
theorem d_OL_thing_22 : decode b_OL_thing 22 = .ok (.bipush 7, 2) := by decide +kernel
theorem d_OL_thing_24 : decode b_OL_thing 24 = .ok (.if_icmp .lt 6, 3) := by decide +kernel
theorem d_OL_thing_27 : decode b_OL_thing 27 = .ok (.bipush (-4), 2) := by decide +kernel
theorem d_OL_thing_29 : decode b_OL_thing 29 = .ok (.ireturn, 1) := by decide +kernel
theorem d_OL_thing_30 : decode b_OL_thing 30 = .ok (.aload_n 0, 1) := by decide +kernel
theorem d_OL_thing_31 : decode b_OL_thing 31 = .ok (.getfield 12, 3) := by decide +kernel
theorem d_OL_thing_34 : decode b_OL_thing 34 = .ok (.getfield 146, 3) := by decide +kernel
theorem d_OL_thing_37 : decode b_OL_thing 37 = .ok (.iload_n 1, 1) := by decide +kernel
theorem d_OL_thing_38 : decode b_OL_thing 38 = .ok (.invokevirtual 158, 3) := by decide +kernel
theorem d_OL_thing_41 : decode b_OL_thing 41 = .ok (.ireturn, 1) := by decide +kernel
theorem o_OL_thing : OkV y_OL_thing "OwnsLift" b_OL_thing 2 (some .int) 1 := ⟨⟨rfl, by decide +kernel, by decide +kernel, by decide +kernel⟩, g_709, g_710, g_71, g_711⟩
set_option maxHeartbeats 4000000 in
set_option maxRecDepth 100000 in
theorem c_OL_thing (l : Launch) (D : va_G) (g : Nat → ClassId) (a : Nat → Nat) (x1 : Int32) (z : T_OL) (v : Int32 × T_OL) (h : d_OL_thing x1 z = some v) :
    MI l y_OL_thing b_OL_thing 2 .int ({ frames := 1, cells := 0, slots := 0, locals := 22 } : Room) D g [.ref (a 0), .int x1] (ws_OL g a z) (v.1) (ws_OL g a v.2) := by
  have hd := h
  unfold d_OL_thing at hd
  refine enterI rfl (Nat.le_of_ble_eq_true rfl) (fun p e s m below meth c A ls hx hb hml hr hown hg hlk hK hA hP hD hS hl => ?_)
  have hown : s.vm.findClass "OwnsLift" = some m.cls := hown
  have hl : lv_has ls 2 [(0, .ref (a 0)), (1, .int x1)] := hl
  show GI p l e s m ({ frames := 1, cells := 0, slots := 0, locals := 22 } : Room) ([.ref (a 0), .int x1] : List Value).toArray below meth c A D g (ws_OL g a v.2) (v.1) s.heap [] (F0 m 0 ls [])
  refine lv_iload_n hx hb d_OL_thing_0 rfl (lv_at hl 1 rfl) ?_
  refine lv_bipush (v := 50) hx hb d_OL_thing_1 (by decide) ?_
  obtain ⟨v_1, e_2, hd⟩ := bind_s hd
  refine callSI (wr := ([0, 1, 2, 3, 4, 5, 6, 7, 8, 9, 10, 11, 12, 13, 14, 15, 16, 17, 18, 19, 20, 21, 22, 23, 24, 25, 26, 27, 28, 29, 30, 31, 32, 33, 34, 35, 36, 37, 38, 39, 40, 41, 42, 43, 44, 45, 46, 47, 48, 49, 50, 51, 52, 53, 54, 55, 56, 57, 58, 59, 60, 61, 62, 63, 64, 65, 66, 67, 68, 69, 70, 71, 72, 73, 74, 75, 76, 77, 78, 79, 80, 81, 82] : List Nat).filterMap (fun (i : Nat) => (ws_OL g a z)[i]?)) (ws' := ws_OL g a z) (rest := []) (As := [.int x1, .int 50]) hx hb hml hown hg hK hP hD hS hA hl.1 (c_OL_within l D g  x1 50 _ e_2) o_OL_within g_618 [] [0, 1, 2, 3, 4, 5, 6, 7, 8, 9, 10, 11, 12, 13, 14, 15, 16, 17, 18, 19, 20, 21, 22, 23, 24, 25, 26, 27, 28, 29, 30, 31, 32, 33, 34, 35, 36, 37, 38, 39, 40, 41, 42, 43, 44, 45, 46, 47, 48, 49, 50, 51, 52, 53, 54, 55, 56, 57, 58, 59, 60, 61, 62, 63, 64, 65, 66, 67, 68, 69, 70, 71, 72, 73, 74, 75, 76, 77, 78, 79, 80, 81, 82] [0, 1, 2, 3, 4, 5, 6, 7, 8, 9, 10, 11, 12, 13, 14, 15, 16, 17, 18, 19, 20, 21, 22, 23, 24, 25, 26, 27, 28, 29, 30, 31, 32, 33, 34, 35, 36, 37, 38, 39, 40, 41, 42, 43, 44, 45, 46, 47, 48, 49, 50, 51, 52, 53, 54, 55, 56, 57, 58, 59, 60, 61, 62, 63, 64, 65, 66, 67, 68, 69, 70, 71, 72, 73, 74, 75, 76, 77, 78, 79, 80, 81, 82] rfl rfl rfl rfl (by decide) rfl rfl rfl rfl (Nat.le_of_ble_eq_true rfl) ⟨rfl, rfl, Nat.le_of_ble_eq_true rfl, Nat.le_of_ble_eq_true rfl⟩ d_OL_thing_3 (fun H locs hP hD hS => ?_)
  refine lv_if_ne (tgt := 12) hx hb d_OL_thing_6 (by decide) (fun h_3 => ?_) (fun h_3 => ?_)
  · have hd := ite_f hd h_3
    refine lv_aload_n hx hb d_OL_thing_12 rfl (lv_at hl 0 rfl) ?_
    refine va_get (D := D) (ci := 0) (v := .ref (a 1)) (C := R_OL) (T := F_OL) (N := 8) hx hb hg i_OL hown hK hP 0 rfl rfl 0 (by decide) (hg _ g_396) (fun _ h9 => h9) rfl d_OL_thing_13 ?_
    refine va_get (D := D) (ci := 7) (v := .ref (a 19)) (C := R_Re) (T := F_Re) (N := 11) hx hb hg i_Re hown hK hP 1 rfl rfl 5 (by decide) (hg _ g_215) (fun _ h9 => h9) rfl d_OL_thing_16 ?_
    refine va_get (D := D) (ci := 10) (v := .int (q_Th_size (q_Re_things (q_OL_now z)))) (C := R_Th) (T := F_Th) (N := 3) hx hb hg i_Th hown hK hP 19 rfl rfl 0 (by decide) (hg _ g_187) (fun _ h9 => h9) rfl d_OL_thing_19 ?_
    refine lv_bipush (v := 7) hx hb d_OL_thing_22 (by decide) ?_
    refine lv_icmp_lt (tgt := 30) hx hb d_OL_thing_24 (by decide) (fun h_4 => ?_) (fun h_4 => ?_)
    · have hd := ite_t hd h_4
      refine lv_aload_n hx hb d_OL_thing_30 rfl (lv_at hl 0 rfl) ?_
      refine va_get (D := D) (ci := 0) (v := .ref (a 1)) (C := R_OL) (T := F_OL) (N := 8) hx hb hg i_OL hown hK hP 0 rfl rfl 0 (by decide) (hg _ g_396) (fun _ h9 => h9) rfl d_OL_thing_31 ?_
      refine va_get (D := D) (ci := 7) (v := .ref (a 19)) (C := R_Re) (T := F_Re) (N := 11) hx hb hg i_Re hown hK hP 1 rfl rfl 5 (by decide) (hg _ g_215) (fun _ h9 => h9) rfl d_OL_thing_34 ?_
      refine lv_iload_n hx hb d_OL_thing_37 rfl (lv_at hl 1 rfl) ?_
      obtain ⟨v_5, e_6, hd⟩ := bind_s hd
      refine callVI (wr := ([0, 1, 2, 3, 4, 5, 6, 7, 8, 9, 10, 11, 12, 13, 14, 15, 16, 17, 18, 22, 23, 24, 25, 26, 27, 28, 29, 30, 31, 32, 33, 34, 35, 36, 37, 38, 39, 40, 41, 42, 43, 44, 45, 46, 47, 48, 49, 50, 51, 52, 53, 54, 55, 56, 57, 58, 59, 60, 61, 62, 63, 64, 65, 66, 67, 68, 69, 70, 71, 72, 73, 74, 75, 76, 77, 78, 79, 80, 81, 82] : List Nat).filterMap (fun (i : Nat) => (ws_OL g a z)[i]?)) (ws' := ws_OL g a (u_OL_now z (u_Re_things (q_OL_now z) v_5.2))) (rest := []) (As := [.int x1]) hx hb hml hown hg hK hP hD hS hA hl.1 (c_Th_add l D g (sh a 19) x1 (q_Re_things (q_OL_now z)) _ e_6) o_Th_add g_712 (ci := 10) (q0 := 19) rfl rfl [19, 20, 21] [0, 1, 2, 3, 4, 5, 6, 7, 8, 9, 10, 11, 12, 13, 14, 15, 16, 17, 18, 22, 23, 24, 25, 26, 27, 28, 29, 30, 31, 32, 33, 34, 35, 36, 37, 38, 39, 40, 41, 42, 43, 44, 45, 46, 47, 48, 49, 50, 51, 52, 53, 54, 55, 56, 57, 58, 59, 60, 61, 62, 63, 64, 65, 66, 67, 68, 69, 70, 71, 72, 73, 74, 75, 76, 77, 78, 79, 80, 81, 82] [0, 1, 2, 3, 4, 5, 6, 7, 8, 9, 10, 11, 12, 13, 14, 15, 16, 17, 18, 80, 81, 82, 19, 20, 21, 22, 23, 24, 25, 26, 27, 28, 29, 30, 31, 32, 33, 34, 35, 36, 37, 38, 39, 40, 41, 42, 43, 44, 45, 46, 47, 48, 49, 50, 51, 52, 53, 54, 55, 56, 57, 58, 59, 60, 61, 62, 63, 64, 65, 66, 67, 68, 69, 70, 71, 72, 73, 74, 75, 76, 77, 78, 79] rfl rfl rfl rfl (by decide) rfl rfl rfl rfl (Nat.le_of_ble_eq_true rfl) ⟨rfl, rfl, Nat.le_of_ble_eq_true rfl, Nat.le_of_ble_eq_true rfl⟩ d_OL_thing_38 (fun H locs hP hD hS => ?_)
      obtain rfl := Option.some.inj hd
      exact retI hx hb hr hlk hK hP hD hS d_OL_thing_41 rfl
    · have hd := ite_f hd h_4
      refine lv_bipush (v := (-4)) hx hb d_OL_thing_27 (by decide) ?_
      obtain rfl := Option.some.inj hd
      exact retI hx hb hr hlk hK hP hD hS d_OL_thing_29 rfl
  · have hd := ite_t hd h_3
    refine lv_bipush (v := (-2)) hx hb d_OL_thing_9 (by decide) ?_
    obtain rfl := Option.some.inj hd
    exact retI hx hb hr hlk hK hP hD hS d_OL_thing_11 rfl

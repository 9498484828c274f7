-- OwnsLift$Reader.eat(C)Z
def d_Rd_eat (x1 : Int32) (z : T_Rd) : Option (Int32 × T_Rd) :=
  if (q_Rd_size z) ≤ (q_Rd_place z) then (some (0, z)) else (if inb (q_Rd_place z) 100 = true then (if ((q_Rd_text z) (q_Rd_place z).toNatClampNeg) = x1 then (some (1, (u_Rd_place z ((q_Rd_place z) + 1)))) else (some (0, z))) else none)
theorem d_Rd_eat_0 : decode b_Rd_eat 0 = .ok (.aload_n 0, 1) := by decide +kernel
theorem d_Rd_eat_1 : decode b_Rd_eat 1 = .ok (.getfield 32, 3) := by decide +kernel
theorem d_Rd_eat_4 : decode b_Rd_eat 4 = .ok (.aload_n 0, 1) := by decide +kernel
theorem d_Rd_eat_5 : decode b_Rd_eat 5 = .ok (.getfield 28, 3) := by decide +kernel
theorem d_Rd_eat_8 : decode b_Rd_eat 8 = .ok (.if_icmp .ge 28, 3) := by decide +kernel
theorem d_Rd_eat_11 : decode b_Rd_eat 11 = .ok (.aload_n 0, 1) := by decide +kernel
theorem d_Rd_eat_12 : decode b_Rd_eat 12 = .ok (.getfield 18, 3) := by decide +kernel
theorem d_Rd_eat_15 : decode b_Rd_eat 15 = .ok (.aload_n 0, 1) := by decide +kernel
theorem d_Rd_eat_16 : decode b_Rd_eat 16 = .ok (.getfield 32, 3) := by decide +kernel
theorem d_Rd_eat_19 : decode b_Rd_eat 19 = .ok (.iaload, 1) := by decide +kernel
theorem d_Rd_eat_20 : decode b_Rd_eat 20 = .ok (.iload_n 1, 1) := by decide +kernel
theorem d_Rd_eat_21 : decode b_Rd_eat 21 = .ok (.if_icmp .ne 15, 3) := by decide +kernel
theorem d_Rd_eat_24 : decode b_Rd_eat 24 = .ok (.aload_n 0, 1) := by decide +kernel
theorem d_Rd_eat_25 : decode b_Rd_eat 25 = .ok (.dup, 1) := by decide +kernel
theorem d_Rd_eat_26 : decode b_Rd_eat 26 = .ok (.getfield 32, 3) := by decide +kernel
theorem d_Rd_eat_29 : decode b_Rd_eat 29 = .ok (.iconst 1, 1) := by decide +kernel
theorem d_Rd_eat_30 : decode b_Rd_eat 30 = .ok (.iadd, 1) := by decide +kernel
theorem d_Rd_eat_31 : decode b_Rd_eat 31 = .ok (.putfield 32, 3) := by decide +kernel
theorem d_Rd_eat_34 : decode b_Rd_eat 34 = .ok (.iconst 1, 1) := by decide +kernel
theorem d_Rd_eat_35 : decode b_Rd_eat 35 = .ok (.ireturn, 1) := by decide +kernel
theorem d_Rd_eat_36 : decode b_Rd_eat 36 = .ok (.iconst 0, 1) := by decide +kernel
theorem d_Rd_eat_37 : decode b_Rd_eat 37 = .ok (.ireturn, 1) := by decide +kernel
theorem o_Rd_eat : OkV y_Rd_eat "OwnsLift$Reader" b_Rd_eat 2 (some .boolean) 1 := ⟨⟨rfl, by decide +kernel, by decide +kernel, by decide +kernel⟩, g_512, g_3, g_76, g_513⟩
set_option maxHeartbeats 4000000 in
set_option maxRecDepth 100000 in
theorem c_Rd_eat (l : Launch) (D : va_G) (g : Nat → ClassId) (a : Nat → Nat) (x1 : Int32) (z : T_Rd) (v : Int32 × T_Rd) (h : d_Rd_eat x1 z = some v) :
    MI l y_Rd_eat b_Rd_eat 2 .boolean ({ frames := 0, cells := 0, slots := 0, locals := 0 } : Room) D g [.ref (a 0), .int x1] (ws_Rd g a z) (v.1) (ws_Rd g a v.2) := by
  have hd := h
  unfold d_Rd_eat at hd
  refine enterI rfl (Nat.le_of_ble_eq_true rfl) (fun p e s m below meth c A ls hx hb hml hr hown hg hlk hK hA hP hD hS hCs hl => ?_)
  have hown : s.vm.findClass "OwnsLift$Reader" = some m.cls := hown
  have hl : lv_has ls 2 [(0, .ref (a 0)), (1, .int x1)] := hl
  show GI p l e s m ({ frames := 0, cells := 0, slots := 0, locals := 0 } : Room) ([.ref (a 0), .int x1] : List Value).toArray below meth c A D g (ws_Rd g a v.2) (v.1) s.heap [] (F0 m 0 ls [])
  refine lv_aload_n hx hb d_Rd_eat_0 rfl (lv_at hl 0 rfl) ?_
  refine va_get (D := D) (ci := 6) (v := .int (q_Rd_place z)) (C := R_Rd) (T := F_Rd) (N := 4) hx hb hg i_Rd hown hK hP 0 rfl rfl 1 (by decide) (hg _ g_258) (fun _ h9 => h9) rfl d_Rd_eat_1 ?_
  refine lv_aload_n hx hb d_Rd_eat_4 rfl (lv_at hl 0 rfl) ?_
  refine va_get (D := D) (ci := 6) (v := .int (q_Rd_size z)) (C := R_Rd) (T := F_Rd) (N := 4) hx hb hg i_Rd hown hK hP 0 rfl rfl 3 (by decide) (hg _ g_261) (fun _ h9 => h9) rfl d_Rd_eat_5 ?_
  refine lv_icmp_ge (tgt := 36) hx hb d_Rd_eat_8 (by decide) (fun h_1 => ?_) (fun h_1 => ?_)
  · have hd := ite_t hd h_1
    refine lv_iconst (v := 0) hx hb d_Rd_eat_36 (by decide) ?_
    obtain rfl := Option.some.inj hd
    exact retZ hx hb hr hlk hK hP hD hS d_Rd_eat_37 rfl (by decide +kernel)
  · have hd := ite_f hd h_1
    refine lv_aload_n hx hb d_Rd_eat_11 rfl (lv_at hl 0 rfl) ?_
    refine va_get (D := D) (ci := 6) (v := .ref (a 6)) (C := R_Rd) (T := F_Rd) (N := 4) hx hb hg i_Rd hown hK hP 0 rfl rfl 2 (by decide) (hg _ g_260) (fun _ h9 => h9) rfl d_Rd_eat_12 ?_
    refine lv_aload_n hx hb d_Rd_eat_15 rfl (lv_at hl 0 rfl) ?_
    refine va_get (D := D) (ci := 6) (v := .int (q_Rd_place z)) (C := R_Rd) (T := F_Rd) (N := 4) hx hb hg i_Rd hown hK hP 0 rfl rfl 1 (by decide) (hg _ g_258) (fun _ h9 => h9) rfl d_Rd_eat_16 ?_
    obtain ⟨h_3, hd⟩ := ite_s hd
    refine ialdK hx hb hK hP 6 0 rfl rfl (inb_t h_3) rfl d_Rd_eat_19 ?_
    refine lv_iload_n hx hb d_Rd_eat_20 rfl (lv_at hl 1 rfl) ?_
    refine lv_icmp_ne (tgt := 36) hx hb d_Rd_eat_21 (by decide) (fun h_2 => ?_) (fun h_2 => ?_)
    · have hd := ite_f hd h_2
      refine lv_iconst (v := 0) hx hb d_Rd_eat_36 (by decide) ?_
      obtain rfl := Option.some.inj hd
      exact retZ hx hb hr hlk hK hP hD hS d_Rd_eat_37 rfl (by decide +kernel)
    · have hd := ite_t hd h_2
      refine lv_aload_n hx hb d_Rd_eat_24 rfl (lv_at hl 0 rfl) ?_
      refine lv_dup hx hb d_Rd_eat_25 rfl ?_
      refine va_get (D := D) (ci := 6) (v := .int (q_Rd_place z)) (C := R_Rd) (T := F_Rd) (N := 4) hx hb hg i_Rd hown hK hP 0 rfl rfl 1 (by decide) (hg _ g_258) (fun _ h9 => h9) rfl d_Rd_eat_26 ?_
      refine lv_iconst (v := 1) hx hb d_Rd_eat_29 (by decide) ?_
      refine lv_iadd hx hb d_Rd_eat_30 ?_
      refine va_put (D := D) (ci := 6) (v := .int ((q_Rd_place z) + 1)) (ty := .int) (C := R_Rd) (T := F_Rd) (N := 4) hx hb hg i_Rd t_Rd t_Rd_ok n_Rd hown hK hP hD hS 0 rfl rfl 1 (by decide) (hg _ g_258) (fun _ h9 => h9) rfl (by decide +kernel) rfl rfl (Nat.le_of_ble_eq_true rfl) d_Rd_eat_31 (fun H locs hP hD hS => ?_)
      have hP : va_P D classes (ws_Rd g a (u_Rd_place z ((q_Rd_place z) + 1))) H := hP
      have hD : va_D A (ws_Rd g a (u_Rd_place z ((q_Rd_place z) + 1))) := hD
      refine lv_iconst (v := 1) hx hb d_Rd_eat_34 (by decide) ?_
      obtain rfl := Option.some.inj hd
      exact retZ hx hb hr hlk hK hP hD hS d_Rd_eat_35 rfl (by decide +kernel)
-- OwnsLift$Reader.digitHere()Z
def d_Rd_digitHere (z : T_Rd) : Option (Int32) :=
  if (q_Rd_size z) ≤ (q_Rd_place z) then (some (0)) else (if inb (q_Rd_place z) 100 = true then (if ((q_Rd_text z) (q_Rd_place z).toNatClampNeg) < 48 then (some (0)) else (if inb (q_Rd_place z) 100 = true then (if 57 < ((q_Rd_text z) (q_Rd_place z).toNatClampNeg) then (some (0)) else (some (1))) else none)) else none)
theorem d_Rd_digitHere_0 : decode b_Rd_digitHere 0 = .ok (.aload_n 0, 1) := by decide +kernel
theorem d_Rd_digitHere_1 : decode b_Rd_digitHere 1 = .ok (.getfield 32, 3) := by decide +kernel
theorem d_Rd_digitHere_4 : decode b_Rd_digitHere 4 = .ok (.aload_n 0, 1) := by decide +kernel
theorem d_Rd_digitHere_5 : decode b_Rd_digitHere 5 = .ok (.getfield 28, 3) := by decide +kernel
theorem d_Rd_digitHere_8 : decode b_Rd_digitHere 8 = .ok (.if_icmp .ge 35, 3) := by decide +kernel
theorem d_Rd_digitHere_11 : decode b_Rd_digitHere 11 = .ok (.aload_n 0, 1) := by decide +kernel
theorem d_Rd_digitHere_12 : decode b_Rd_digitHere 12 = .ok (.getfield 18, 3) := by decide +kernel
theorem d_Rd_digitHere_15 : decode b_Rd_digitHere 15 = .ok (.aload_n 0, 1) := by decide +kernel
theorem d_Rd_digitHere_16 : decode b_Rd_digitHere 16 = .ok (.getfield 32, 3) := by decide +kernel
theorem d_Rd_digitHere_19 : decode b_Rd_digitHere 19 = .ok (.iaload, 1) := by decide +kernel
theorem d_Rd_digitHere_20 : decode b_Rd_digitHere 20 = .ok (.bipush 48, 2) := by decide +kernel
theorem d_Rd_digitHere_22 : decode b_Rd_digitHere 22 = .ok (.if_icmp .lt 21, 3) := by decide +kernel
theorem d_Rd_digitHere_25 : decode b_Rd_digitHere 25 = .ok (.aload_n 0, 1) := by decide +kernel
theorem d_Rd_digitHere_26 : decode b_Rd_digitHere 26 = .ok (.getfield 18, 3) := by decide +kernel
theorem d_Rd_digitHere_29 : decode b_Rd_digitHere 29 = .ok (.aload_n 0, 1) := by decide +kernel
theorem d_Rd_digitHere_30 : decode b_Rd_digitHere 30 = .ok (.getfield 32, 3) := by decide +kernel
theorem d_Rd_digitHere_33 : decode b_Rd_digitHere 33 = .ok (.iaload, 1) := by decide +kernel
theorem d_Rd_digitHere_34 : decode b_Rd_digitHere 34 = .ok (.bipush 57, 2) := by decide +kernel
theorem d_Rd_digitHere_36 : decode b_Rd_digitHere 36 = .ok (.if_icmp .gt 7, 3) := by decide +kernel
theorem d_Rd_digitHere_39 : decode b_Rd_digitHere 39 = .ok (.iconst 1, 1) := by decide +kernel
theorem d_Rd_digitHere_40 : decode b_Rd_digitHere 40 = .ok (.goto 4, 3) := by decide +kernel
theorem d_Rd_digitHere_43 : decode b_Rd_digitHere 43 = .ok (.iconst 0, 1) := by decide +kernel
theorem d_Rd_digitHere_44 : decode b_Rd_digitHere 44 = .ok (.ireturn, 1) := by decide +kernel
theorem o_Rd_digitHere : OkV y_Rd_digitHere "OwnsLift$Reader" b_Rd_digitHere 1 (some .boolean) 0 := ⟨⟨rfl, by decide +kernel, by decide +kernel, by decide +kernel⟩, g_520, g_5, g_76, g_521⟩
set_option maxHeartbeats 4000000 in
set_option maxRecDepth 100000 in
theorem c_Rd_digitHere (l : Launch) (D : va_G) (g : Nat → ClassId) (a : Nat → Nat) (z : T_Rd) (v : Int32) (h : d_Rd_digitHere z = some v) :
    MI l y_Rd_digitHere b_Rd_digitHere 1 .boolean ({ frames := 0, cells := 0, slots := 0, locals := 0 } : Room) D g [.ref (a 0)] (ws_Rd g a z) (v) (ws_Rd g a z) := by
  have hd := h
  unfold d_Rd_digitHere at hd
  refine enterI rfl (Nat.le_of_ble_eq_true rfl) (fun p e s m below meth c A ls hx hb hml hr hown hg hlk hK hA hP hD hS hCs hl => ?_)
  have hown : s.vm.findClass "OwnsLift$Reader" = some m.cls := hown
  have hl : lv_has ls 1 [(0, .ref (a 0))] := hl
  show GI p l e s m ({ frames := 0, cells := 0, slots := 0, locals := 0 } : Room) ([.ref (a 0)] : List Value).toArray below meth c A D g (ws_Rd g a z) (v) s.heap [] (F0 m 0 ls [])
  refine lv_aload_n hx hb d_Rd_digitHere_0 rfl (lv_at hl 0 rfl) ?_
  refine va_get (D := D) (ci := 6) (v := .int (q_Rd_place z)) (C := R_Rd) (T := F_Rd) (N := 4) hx hb hg i_Rd hown hK hP 0 rfl rfl 1 (by decide) (hg _ g_258) (fun _ h9 => h9) rfl d_Rd_digitHere_1 ?_
  refine lv_aload_n hx hb d_Rd_digitHere_4 rfl (lv_at hl 0 rfl) ?_
  refine va_get (D := D) (ci := 6) (v := .int (q_Rd_size z)) (C := R_Rd) (T := F_Rd) (N := 4) hx hb hg i_Rd hown hK hP 0 rfl rfl 3 (by decide) (hg _ g_261) (fun _ h9 => h9) rfl d_Rd_digitHere_5 ?_
  refine lv_icmp_ge (tgt := 43) hx hb d_Rd_digitHere_8 (by decide) (fun h_1 => ?_) (fun h_1 => ?_)
  · have hd := ite_t hd h_1
    refine lv_iconst (v := 0) hx hb d_Rd_digitHere_43 (by decide) ?_
    obtain rfl := Option.some.inj hd
    exact retZ hx hb hr hlk hK hP hD hS d_Rd_digitHere_44 rfl (by decide +kernel)
  · have hd := ite_f hd h_1
    refine lv_aload_n hx hb d_Rd_digitHere_11 rfl (lv_at hl 0 rfl) ?_
    refine va_get (D := D) (ci := 6) (v := .ref (a 6)) (C := R_Rd) (T := F_Rd) (N := 4) hx hb hg i_Rd hown hK hP 0 rfl rfl 2 (by decide) (hg _ g_260) (fun _ h9 => h9) rfl d_Rd_digitHere_12 ?_
    refine lv_aload_n hx hb d_Rd_digitHere_15 rfl (lv_at hl 0 rfl) ?_
    refine va_get (D := D) (ci := 6) (v := .int (q_Rd_place z)) (C := R_Rd) (T := F_Rd) (N := 4) hx hb hg i_Rd hown hK hP 0 rfl rfl 1 (by decide) (hg _ g_258) (fun _ h9 => h9) rfl d_Rd_digitHere_16 ?_
    obtain ⟨h_5, hd⟩ := ite_s hd
    refine ialdK hx hb hK hP 6 0 rfl rfl (inb_t h_5) rfl d_Rd_digitHere_19 ?_
    refine lv_bipush (v := 48) hx hb d_Rd_digitHere_20 (by decide) ?_
    refine lv_icmp_lt (tgt := 43) hx hb d_Rd_digitHere_22 (by decide) (fun h_2 => ?_) (fun h_2 => ?_)
    · have hd := ite_t hd h_2
      refine lv_iconst (v := 0) hx hb d_Rd_digitHere_43 (by decide) ?_
      obtain rfl := Option.some.inj hd
      exact retZ hx hb hr hlk hK hP hD hS d_Rd_digitHere_44 rfl (by decide +kernel)
    · have hd := ite_f hd h_2
      refine lv_aload_n hx hb d_Rd_digitHere_25 rfl (lv_at hl 0 rfl) ?_
      refine va_get (D := D) (ci := 6) (v := .ref (a 6)) (C := R_Rd) (T := F_Rd) (N := 4) hx hb hg i_Rd hown hK hP 0 rfl rfl 2 (by decide) (hg _ g_260) (fun _ h9 => h9) rfl d_Rd_digitHere_26 ?_
      refine lv_aload_n hx hb d_Rd_digitHere_29 rfl (lv_at hl 0 rfl) ?_
      refine va_get (D := D) (ci := 6) (v := .int (q_Rd_place z)) (C := R_Rd) (T := F_Rd) (N := 4) hx hb hg i_Rd hown hK hP 0 rfl rfl 1 (by decide) (hg _ g_258) (fun _ h9 => h9) rfl d_Rd_digitHere_30 ?_
      obtain ⟨h_4, hd⟩ := ite_s hd
      refine ialdK hx hb hK hP 6 0 rfl rfl (inb_t h_4) rfl d_Rd_digitHere_33 ?_
      refine lv_bipush (v := 57) hx hb d_Rd_digitHere_34 (by decide) ?_
      refine lv_icmp_gt (tgt := 43) hx hb d_Rd_digitHere_36 (by decide) (fun h_3 => ?_) (fun h_3 => ?_)
      · have hd := ite_t hd h_3
        refine lv_iconst (v := 0) hx hb d_Rd_digitHere_43 (by decide) ?_
        obtain rfl := Option.some.inj hd
        exact retZ hx hb hr hlk hK hP hD hS d_Rd_digitHere_44 rfl (by decide +kernel)
      · have hd := ite_f hd h_3
        refine lv_iconst (v := 1) hx hb d_Rd_digitHere_39 (by decide) ?_
        refine lv_goto (tgt := 44) hx hb d_Rd_digitHere_40 (by decide) ?_
        obtain rfl := Option.some.inj hd
        exact retZ hx hb hr hlk hK hP hD hS d_Rd_digitHere_44 rfl (by decide +kernel)
-- OwnsLift$Reader.number()I
def d_Rd_number (z : T_Rd) : Option (Int32 × T_Rd) :=
  (d_Rd_digitHere z).bind fun v_1 => if v_1 = 0 then (some ((-1), z)) else (if inb (q_Rd_place z) 100 = true then (if (((q_Rd_text z) (q_Rd_place z).toNatClampNeg) - 48) = 0 then (some (((q_Rd_text z) (q_Rd_place z).toNatClampNeg) - 48, (u_Rd_place z ((q_Rd_place z) + 1)))) else ((d_Rd_digitHere (u_Rd_place z ((q_Rd_place z) + 1))).bind fun v_5 => if v_5 = 0 then (some (((q_Rd_text z) (q_Rd_place z).toNatClampNeg) - 48, (u_Rd_place z ((q_Rd_place z) + 1)))) else (if inb (q_Rd_place (u_Rd_place z ((q_Rd_place z) + 1))) 100 = true then (some ((((((q_Rd_text z) (q_Rd_place z).toNatClampNeg) - 48) * 10) + ((q_Rd_text (u_Rd_place z ((q_Rd_place z) + 1))) (q_Rd_place (u_Rd_place z ((q_Rd_place z) + 1))).toNatClampNeg)) - 48, (u_Rd_place (u_Rd_place z ((q_Rd_place z) + 1)) ((q_Rd_place (u_Rd_place z ((q_Rd_place z) + 1))) + 1)))) else none))) else none)
theorem d_Rd_number_0 : decode b_Rd_number 0 = .ok (.aload_n 0, 1) := by decide +kernel
theorem d_Rd_number_1 : decode b_Rd_number 1 = .ok (.invokevirtual 109, 3) := by decide +kernel
theorem d_Rd_number_4 : decode b_Rd_number 4 = .ok (.ifCond .ne 5, 3) := by decide +kernel
theorem d_Rd_number_7 : decode b_Rd_number 7 = .ok (.iconst (-1), 1) := by decide +kernel
theorem d_Rd_number_8 : decode b_Rd_number 8 = .ok (.ireturn, 1) := by decide +kernel
theorem d_Rd_number_9 : decode b_Rd_number 9 = .ok (.aload_n 0, 1) := by decide +kernel
theorem d_Rd_number_10 : decode b_Rd_number 10 = .ok (.getfield 18, 3) := by decide +kernel
theorem d_Rd_number_13 : decode b_Rd_number 13 = .ok (.aload_n 0, 1) := by decide +kernel
theorem d_Rd_number_14 : decode b_Rd_number 14 = .ok (.getfield 32, 3) := by decide +kernel
theorem d_Rd_number_17 : decode b_Rd_number 17 = .ok (.iaload, 1) := by decide +kernel
theorem d_Rd_number_18 : decode b_Rd_number 18 = .ok (.bipush 48, 2) := by decide +kernel
theorem d_Rd_number_20 : decode b_Rd_number 20 = .ok (.isub, 1) := by decide +kernel
theorem d_Rd_number_21 : decode b_Rd_number 21 = .ok (.istore_n 1, 1) := by decide +kernel
theorem d_Rd_number_22 : decode b_Rd_number 22 = .ok (.aload_n 0, 1) := by decide +kernel
theorem d_Rd_number_23 : decode b_Rd_number 23 = .ok (.dup, 1) := by decide +kernel
theorem d_Rd_number_24 : decode b_Rd_number 24 = .ok (.getfield 32, 3) := by decide +kernel
theorem d_Rd_number_27 : decode b_Rd_number 27 = .ok (.iconst 1, 1) := by decide +kernel
theorem d_Rd_number_28 : decode b_Rd_number 28 = .ok (.iadd, 1) := by decide +kernel
theorem d_Rd_number_29 : decode b_Rd_number 29 = .ok (.putfield 32, 3) := by decide +kernel
theorem d_Rd_number_32 : decode b_Rd_number 32 = .ok (.iload_n 1, 1) := by decide +kernel
theorem d_Rd_number_33 : decode b_Rd_number 33 = .ok (.ifCond .eq 38, 3) := by decide +kernel
theorem d_Rd_number_36 : decode b_Rd_number 36 = .ok (.aload_n 0, 1) := by decide +kernel
theorem d_Rd_number_37 : decode b_Rd_number 37 = .ok (.invokevirtual 109, 3) := by decide +kernel
theorem d_Rd_number_40 : decode b_Rd_number 40 = .ok (.ifCond .eq 31, 3) := by decide +kernel
theorem d_Rd_number_43 : decode b_Rd_number 43 = .ok (.iload_n 1, 1) := by decide +kernel
theorem d_Rd_number_44 : decode b_Rd_number 44 = .ok (.bipush 10, 2) := by decide +kernel
theorem d_Rd_number_46 : decode b_Rd_number 46 = .ok (.imul, 1) := by decide +kernel
theorem d_Rd_number_47 : decode b_Rd_number 47 = .ok (.aload_n 0, 1) := by decide +kernel
theorem d_Rd_number_48 : decode b_Rd_number 48 = .ok (.getfield 18, 3) := by decide +kernel
theorem d_Rd_number_51 : decode b_Rd_number 51 = .ok (.aload_n 0, 1) := by decide +kernel
theorem d_Rd_number_52 : decode b_Rd_number 52 = .ok (.getfield 32, 3) := by decide +kernel
theorem d_Rd_number_55 : decode b_Rd_number 55 = .ok (.iaload, 1) := by decide +kernel
theorem d_Rd_number_56 : decode b_Rd_number 56 = .ok (.iadd, 1) := by decide +kernel
theorem d_Rd_number_57 : decode b_Rd_number 57 = .ok (.bipush 48, 2) := by decide +kernel
theorem d_Rd_number_59 : decode b_Rd_number 59 = .ok (.isub, 1) := by decide +kernel
theorem d_Rd_number_60 : decode b_Rd_number 60 = .ok (.istore_n 1, 1) := by decide +kernel
theorem d_Rd_number_61 : decode b_Rd_number 61 = .ok (.aload_n 0, 1) := by decide +kernel
theorem d_Rd_number_62 : decode b_Rd_number 62 = .ok (.dup, 1) := by decide +kernel
theorem d_Rd_number_63 : decode b_Rd_number 63 = .ok (.getfield 32, 3) := by decide +kernel
theorem d_Rd_number_66 : decode b_Rd_number 66 = .ok (.iconst 1, 1) := by decide +kernel
theorem d_Rd_number_67 : decode b_Rd_number 67 = .ok (.iadd, 1) := by decide +kernel
theorem d_Rd_number_68 : decode b_Rd_number 68 = .ok (.putfield 32, 3) := by decide +kernel
theorem d_Rd_number_71 : decode b_Rd_number 71 = .ok (.iload_n 1, 1) := by decide +kernel
theorem d_Rd_number_72 : decode b_Rd_number 72 = .ok (.ireturn, 1) := by decide +kernel
theorem o_Rd_number : OkV y_Rd_number "OwnsLift$Reader" b_Rd_number 2 (some .int) 0 := ⟨⟨rfl, by decide +kernel, by decide +kernel, by decide +kernel⟩, g_516, g_4, g_76, g_517⟩
set_option maxHeartbeats 4000000 in
set_option maxRecDepth 100000 in
theorem c_Rd_number (l : Launch) (D : va_G) (g : Nat → ClassId) (a : Nat → Nat) (z : T_Rd) (v : Int32 × T_Rd) (h : d_Rd_number z = some v) :
    MI l y_Rd_number b_Rd_number 2 .int ({ frames := 1, cells := 0, slots := 0, locals := 20 } : Room) D g [.ref (a 0)] (ws_Rd g a z) (v.1) (ws_Rd g a v.2) := by
  have hd := h
  unfold d_Rd_number at hd
  refine enterI rfl (Nat.le_of_ble_eq_true rfl) (fun p e s m below meth c A ls hx hb hml hr hown hg hlk hK hA hP hD hS hCs hl => ?_)
  have hown : s.vm.findClass "OwnsLift$Reader" = some m.cls := hown
  have hl : lv_has ls 2 [(0, .ref (a 0))] := hl
  show GI p l e s m ({ frames := 1, cells := 0, slots := 0, locals := 20 } : Room) ([.ref (a 0)] : List Value).toArray below meth c A D g (ws_Rd g a v.2) (v.1) s.heap [] (F0 m 0 ls [])
  refine lv_aload_n hx hb d_Rd_number_0 rfl (lv_at hl 0 rfl) ?_
  obtain ⟨v_1, e_2, hd⟩ := bind_s hd
  refine callVI (ws' := ws_Rd g a z) (rest := []) (As := []) hx hb hml hown hg hK hP hD hS hA hCs hl.1 (c_Rd_digitHere l D g a z _ e_2) o_Rd_digitHere g_518 (ci := 6) (q0 := 0) rfl rfl (List.range' 0 7) (segC1 rfl rfl) (by decide) rfl (segP1 rfl rfl) rfl rfl (Nat.le_of_ble_eq_true rfl) ⟨rfl, rfl, Nat.le_of_ble_eq_true rfl, Nat.le_of_ble_eq_true rfl⟩ d_Rd_number_1 (fun H locs hP hD hS => ?_)
  refine lv_if_ne (tgt := 9) hx hb d_Rd_number_4 (by decide) (fun h_3 => ?_) (fun h_3 => ?_)
  · have hd := ite_f hd h_3
    refine lv_aload_n hx hb d_Rd_number_9 rfl (lv_at hl 0 rfl) ?_
    refine va_get (D := D) (ci := 6) (v := .ref (a 6)) (C := R_Rd) (T := F_Rd) (N := 4) hx hb hg i_Rd hown hK hP 0 rfl rfl 2 (by decide) (hg _ g_260) (fun _ h9 => h9) rfl d_Rd_number_10 ?_
    refine lv_aload_n hx hb d_Rd_number_13 rfl (lv_at hl 0 rfl) ?_
    refine va_get (D := D) (ci := 6) (v := .int (q_Rd_place z)) (C := R_Rd) (T := F_Rd) (N := 4) hx hb hg i_Rd hown hK hP 0 rfl rfl 1 (by decide) (hg _ g_258) (fun _ h9 => h9) rfl d_Rd_number_14 ?_
    obtain ⟨h_9, hd⟩ := ite_s hd
    refine ialdK hx hb hK hP 6 0 rfl rfl (inb_t h_9) rfl d_Rd_number_17 ?_
    refine lv_bipush (v := 48) hx hb d_Rd_number_18 (by decide) ?_
    refine lv_isub hx hb d_Rd_number_20 ?_
    refine lv_istore_n (lv' := [(1, .int (((q_Rd_text z) (q_Rd_place z).toNatClampNeg) - 48)), (0, .ref (a 0))]) hx hb d_Rd_number_21 rfl hl (by decide) rfl (fun ls hl => ?_)
    refine lv_aload_n hx hb d_Rd_number_22 rfl (lv_at hl 1 rfl) ?_
    refine lv_dup hx hb d_Rd_number_23 rfl ?_
    refine va_get (D := D) (ci := 6) (v := .int (q_Rd_place z)) (C := R_Rd) (T := F_Rd) (N := 4) hx hb hg i_Rd hown hK hP 0 rfl rfl 1 (by decide) (hg _ g_258) (fun _ h9 => h9) rfl d_Rd_number_24 ?_
    refine lv_iconst (v := 1) hx hb d_Rd_number_27 (by decide) ?_
    refine lv_iadd hx hb d_Rd_number_28 ?_
    refine va_put (D := D) (ci := 6) (v := .int ((q_Rd_place z) + 1)) (ty := .int) (C := R_Rd) (T := F_Rd) (N := 4) hx hb hg i_Rd t_Rd t_Rd_ok n_Rd hown hK hP hD hS 0 rfl rfl 1 (by decide) (hg _ g_258) (fun _ h9 => h9) rfl (by decide +kernel) rfl rfl (Nat.le_of_ble_eq_true rfl) d_Rd_number_29 (fun H locs hP hD hS => ?_)
    have hP : va_P D classes (ws_Rd g a (u_Rd_place z ((q_Rd_place z) + 1))) H := hP
    have hD : va_D A (ws_Rd g a (u_Rd_place z ((q_Rd_place z) + 1))) := hD
    refine lv_iload_n hx hb d_Rd_number_32 rfl (lv_at hl 0 rfl) ?_
    refine lv_if_eq (tgt := 71) hx hb d_Rd_number_33 (by decide) (fun h_4 => ?_) (fun h_4 => ?_)
    · have hd := ite_t hd h_4
      refine lv_iload_n hx hb d_Rd_number_71 rfl (lv_at hl 0 rfl) ?_
      obtain rfl := Option.some.inj hd
      exact retI hx hb hr hlk hK hP hD hS d_Rd_number_72 rfl
    · have hd := ite_f hd h_4
      refine lv_aload_n hx hb d_Rd_number_36 rfl (lv_at hl 1 rfl) ?_
      obtain ⟨v_5, e_6, hd⟩ := bind_s hd
      refine callVI (ws' := ws_Rd g a (u_Rd_place z ((q_Rd_place z) + 1))) (rest := []) (As := []) hx hb hml hown hg hK hP hD hS hA hCs hl.1 (c_Rd_digitHere l D g a (u_Rd_place z ((q_Rd_place z) + 1)) _ e_6) o_Rd_digitHere g_518 (ci := 6) (q0 := 0) rfl rfl (List.range' 0 7) (segC1 rfl rfl) (by decide) rfl (segP1 rfl rfl) rfl rfl (Nat.le_of_ble_eq_true rfl) ⟨rfl, rfl, Nat.le_of_ble_eq_true rfl, Nat.le_of_ble_eq_true rfl⟩ d_Rd_number_37 (fun H locs hP hD hS => ?_)
      refine lv_if_eq (tgt := 71) hx hb d_Rd_number_40 (by decide) (fun h_7 => ?_) (fun h_7 => ?_)
      · have hd := ite_t hd h_7
        refine lv_iload_n hx hb d_Rd_number_71 rfl (lv_at hl 0 rfl) ?_
        obtain rfl := Option.some.inj hd
        exact retI hx hb hr hlk hK hP hD hS d_Rd_number_72 rfl
      · have hd := ite_f hd h_7
        refine lv_iload_n hx hb d_Rd_number_43 rfl (lv_at hl 0 rfl) ?_
        refine lv_bipush (v := 10) hx hb d_Rd_number_44 (by decide) ?_
        refine lv_imul hx hb d_Rd_number_46 ?_
        refine lv_aload_n hx hb d_Rd_number_47 rfl (lv_at hl 1 rfl) ?_
        refine va_get (D := D) (ci := 6) (v := .ref (a 6)) (C := R_Rd) (T := F_Rd) (N := 4) hx hb hg i_Rd hown hK hP 0 rfl rfl 2 (by decide) (hg _ g_260) (fun _ h9 => h9) rfl d_Rd_number_48 ?_
        refine lv_aload_n hx hb d_Rd_number_51 rfl (lv_at hl 1 rfl) ?_
        refine va_get (D := D) (ci := 6) (v := .int (q_Rd_place (u_Rd_place z ((q_Rd_place z) + 1)))) (C := R_Rd) (T := F_Rd) (N := 4) hx hb hg i_Rd hown hK hP 0 rfl rfl 1 (by decide) (hg _ g_258) (fun _ h9 => h9) rfl d_Rd_number_52 ?_
        obtain ⟨h_8, hd⟩ := ite_s hd
        refine ialdK hx hb hK hP 6 0 rfl rfl (inb_t h_8) rfl d_Rd_number_55 ?_
        refine lv_iadd hx hb d_Rd_number_56 ?_
        refine lv_bipush (v := 48) hx hb d_Rd_number_57 (by decide) ?_
        refine lv_isub hx hb d_Rd_number_59 ?_
        refine lv_istore_n (lv' := [(1, .int ((((((q_Rd_text z) (q_Rd_place z).toNatClampNeg) - 48) * 10) + ((q_Rd_text (u_Rd_place z ((q_Rd_place z) + 1))) (q_Rd_place (u_Rd_place z ((q_Rd_place z) + 1))).toNatClampNeg)) - 48)), (0, .ref (a 0))]) hx hb d_Rd_number_60 rfl hl (by decide) rfl (fun ls hl => ?_)
        refine lv_aload_n hx hb d_Rd_number_61 rfl (lv_at hl 1 rfl) ?_
        refine lv_dup hx hb d_Rd_number_62 rfl ?_
        refine va_get (D := D) (ci := 6) (v := .int (q_Rd_place (u_Rd_place z ((q_Rd_place z) + 1)))) (C := R_Rd) (T := F_Rd) (N := 4) hx hb hg i_Rd hown hK hP 0 rfl rfl 1 (by decide) (hg _ g_258) (fun _ h9 => h9) rfl d_Rd_number_63 ?_
        refine lv_iconst (v := 1) hx hb d_Rd_number_66 (by decide) ?_
        refine lv_iadd hx hb d_Rd_number_67 ?_
        refine va_put (D := D) (ci := 6) (v := .int ((q_Rd_place (u_Rd_place z ((q_Rd_place z) + 1))) + 1)) (ty := .int) (C := R_Rd) (T := F_Rd) (N := 4) hx hb hg i_Rd t_Rd t_Rd_ok n_Rd hown hK hP hD hS 0 rfl rfl 1 (by decide) (hg _ g_258) (fun _ h9 => h9) rfl (by decide +kernel) rfl rfl (Nat.le_of_ble_eq_true rfl) d_Rd_number_68 (fun H locs hP hD hS => ?_)
        have hP : va_P D classes (ws_Rd g a (u_Rd_place (u_Rd_place z ((q_Rd_place z) + 1)) ((q_Rd_place (u_Rd_place z ((q_Rd_place z) + 1))) + 1))) H := hP
        have hD : va_D A (ws_Rd g a (u_Rd_place (u_Rd_place z ((q_Rd_place z) + 1)) ((q_Rd_place (u_Rd_place z ((q_Rd_place z) + 1))) + 1))) := hD
        refine lv_iload_n hx hb d_Rd_number_71 rfl (lv_at hl 0 rfl) ?_
        obtain rfl := Option.some.inj hd
        exact retI hx hb hr hlk hK hP hD hS d_Rd_number_72 rfl
  · have hd := ite_t hd h_3
    refine lv_iconst (v := (-1)) hx hb d_Rd_number_7 (by decide) ?_
    obtain rfl := Option.some.inj hd
    exact retI hx hb hr hlk hK hP hD hS d_Rd_number_8 rfl
-- OwnsLift$Reader.oneOf(Ljava/lang/String;)I
def d_Rd_oneOf (t1 : Nat) (z : T_Rd) : Option (Int32 × T_Rd) :=
  if (q_Rd_place z) < (q_Rd_size z) then (if inb (q_Rd_place z) 100 = true then ((d_JS_indexOf t1 ((((q_Rd_text z) (q_Rd_place z).toNatClampNeg : Int32).toUInt32 % 65536).toInt32)).bind fun v_2 => if v_2 < 0 then (some (v_2, z)) else (some (v_2, (u_Rd_place z ((q_Rd_place z) + 1))))) else none) else (some ((-1), z))
theorem d_Rd_oneOf_0 : decode b_Rd_oneOf 0 = .ok (.aload_n 0, 1) := by decide +kernel
theorem d_Rd_oneOf_1 : decode b_Rd_oneOf 1 = .ok (.getfield 32, 3) := by decide +kernel
theorem d_Rd_oneOf_4 : decode b_Rd_oneOf 4 = .ok (.aload_n 0, 1) := by decide +kernel
theorem d_Rd_oneOf_5 : decode b_Rd_oneOf 5 = .ok (.getfield 28, 3) := by decide +kernel
theorem d_Rd_oneOf_8 : decode b_Rd_oneOf 8 = .ok (.if_icmp .lt 5, 3) := by decide +kernel
theorem d_Rd_oneOf_11 : decode b_Rd_oneOf 11 = .ok (.iconst (-1), 1) := by decide +kernel
theorem d_Rd_oneOf_12 : decode b_Rd_oneOf 12 = .ok (.ireturn, 1) := by decide +kernel
theorem d_Rd_oneOf_13 : decode b_Rd_oneOf 13 = .ok (.aload_n 1, 1) := by decide +kernel
theorem d_Rd_oneOf_14 : decode b_Rd_oneOf 14 = .ok (.aload_n 0, 1) := by decide +kernel
theorem d_Rd_oneOf_15 : decode b_Rd_oneOf 15 = .ok (.getfield 18, 3) := by decide +kernel
theorem d_Rd_oneOf_18 : decode b_Rd_oneOf 18 = .ok (.aload_n 0, 1) := by decide +kernel
theorem d_Rd_oneOf_19 : decode b_Rd_oneOf 19 = .ok (.getfield 32, 3) := by decide +kernel
theorem d_Rd_oneOf_22 : decode b_Rd_oneOf 22 = .ok (.iaload, 1) := by decide +kernel
theorem d_Rd_oneOf_23 : decode b_Rd_oneOf 23 = .ok (.i2c, 1) := by decide +kernel
theorem d_Rd_oneOf_24 : decode b_Rd_oneOf 24 = .ok (.invokevirtual 112, 3) := by decide +kernel
theorem d_Rd_oneOf_27 : decode b_Rd_oneOf 27 = .ok (.istore_n 2, 1) := by decide +kernel
theorem d_Rd_oneOf_28 : decode b_Rd_oneOf 28 = .ok (.iload_n 2, 1) := by decide +kernel
theorem d_Rd_oneOf_29 : decode b_Rd_oneOf 29 = .ok (.ifCond .lt 13, 3) := by decide +kernel
theorem d_Rd_oneOf_32 : decode b_Rd_oneOf 32 = .ok (.aload_n 0, 1) := by decide +kernel
theorem d_Rd_oneOf_33 : decode b_Rd_oneOf 33 = .ok (.dup, 1) := by decide +kernel
theorem d_Rd_oneOf_34 : decode b_Rd_oneOf 34 = .ok (.getfield 32, 3) := by decide +kernel
theorem d_Rd_oneOf_37 : decode b_Rd_oneOf 37 = .ok (.iconst 1, 1) := by decide +kernel
theorem d_Rd_oneOf_38 : decode b_Rd_oneOf 38 = .ok (.iadd, 1) := by decide +kernel
theorem d_Rd_oneOf_39 : decode b_Rd_oneOf 39 = .ok (.putfield 32, 3) := by decide +kernel
theorem d_Rd_oneOf_42 : decode b_Rd_oneOf 42 = .ok (.iload_n 2, 1) := by decide +kernel
theorem d_Rd_oneOf_43 : decode b_Rd_oneOf 43 = .ok (.ireturn, 1) := by decide +kernel
theorem o_Rd_oneOf : OkV y_Rd_oneOf "OwnsLift$Reader" b_Rd_oneOf 3 (some .int) 1 := ⟨⟨rfl, by decide +kernel, by decide +kernel, by decide +kernel⟩, g_541, g_9, g_76, g_542⟩
set_option maxHeartbeats 4000000 in
set_option maxRecDepth 100000 in
theorem c_Rd_oneOf (l : Launch) (D : va_G) (g : Nat → ClassId) (a : Nat → Nat) (t1 : Nat) (z : T_Rd) (v : Int32 × T_Rd) (h : d_Rd_oneOf t1 z = some v) :
    MI l y_Rd_oneOf b_Rd_oneOf 3 .int ({ frames := 4, cells := 0, slots := 0, locals := 91 } : Room) D g [.ref (a 0), .ref (g (10 + t1))] (ws_Rd g a z) (v.1) (ws_Rd g a v.2) := by
  have hd := h
  unfold d_Rd_oneOf at hd
  refine enterI rfl (Nat.le_of_ble_eq_true rfl) (fun p e s m below meth c A ls hx hb hml hr hown hg hlk hK hA hP hD hS hCs hl => ?_)
  have hown : s.vm.findClass "OwnsLift$Reader" = some m.cls := hown
  have hl : lv_has ls 3 [(0, .ref (a 0)), (1, .ref (g (10 + t1)))] := hl
  show GI p l e s m ({ frames := 4, cells := 0, slots := 0, locals := 91 } : Room) ([.ref (a 0), .ref (g (10 + t1))] : List Value).toArray below meth c A D g (ws_Rd g a v.2) (v.1) s.heap [] (F0 m 0 ls [])
  refine lv_aload_n hx hb d_Rd_oneOf_0 rfl (lv_at hl 0 rfl) ?_
  refine va_get (D := D) (ci := 6) (v := .int (q_Rd_place z)) (C := R_Rd) (T := F_Rd) (N := 4) hx hb hg i_Rd hown hK hP 0 rfl rfl 1 (by decide) (hg _ g_258) (fun _ h9 => h9) rfl d_Rd_oneOf_1 ?_
  refine lv_aload_n hx hb d_Rd_oneOf_4 rfl (lv_at hl 0 rfl) ?_
  refine va_get (D := D) (ci := 6) (v := .int (q_Rd_size z)) (C := R_Rd) (T := F_Rd) (N := 4) hx hb hg i_Rd hown hK hP 0 rfl rfl 3 (by decide) (hg _ g_261) (fun _ h9 => h9) rfl d_Rd_oneOf_5 ?_
  refine lv_icmp_lt (tgt := 13) hx hb d_Rd_oneOf_8 (by decide) (fun h_1 => ?_) (fun h_1 => ?_)
  · have hd := ite_t hd h_1
    refine lv_aload_n hx hb d_Rd_oneOf_13 rfl (lv_at hl 1 rfl) ?_
    refine lv_aload_n hx hb d_Rd_oneOf_14 rfl (lv_at hl 0 rfl) ?_
    refine va_get (D := D) (ci := 6) (v := .ref (a 6)) (C := R_Rd) (T := F_Rd) (N := 4) hx hb hg i_Rd hown hK hP 0 rfl rfl 2 (by decide) (hg _ g_260) (fun _ h9 => h9) rfl d_Rd_oneOf_15 ?_
    refine lv_aload_n hx hb d_Rd_oneOf_18 rfl (lv_at hl 0 rfl) ?_
    refine va_get (D := D) (ci := 6) (v := .int (q_Rd_place z)) (C := R_Rd) (T := F_Rd) (N := 4) hx hb hg i_Rd hown hK hP 0 rfl rfl 1 (by decide) (hg _ g_258) (fun _ h9 => h9) rfl d_Rd_oneOf_19 ?_
    obtain ⟨h_5, hd⟩ := ite_s hd
    refine ialdK hx hb hK hP 6 0 rfl rfl (inb_t h_5) rfl d_Rd_oneOf_22 ?_
    refine lv_i2c hx hb d_Rd_oneOf_23 rfl ?_
    obtain ⟨v_2, e_3, hd⟩ := bind_s hd
    refine callTI (ws' := ws_Rd g a z) (rest := []) (As := [.int ((((q_Rd_text z) (q_Rd_place z).toNatClampNeg : Int32).toUInt32 % 65536).toInt32)]) hx hb hml hown hg hK hP hD hS hA hCs hl.1 (c_JS_indexOf l D g  t1 ((((q_Rd_text z) (q_Rd_place z).toNatClampNeg : Int32).toUInt32 % 65536).toInt32) _ e_3) o_JS_indexOf g_543 (vk_recv (i := t1) hCs.1.1 (lt_JS_indexOf e_3) hS) [] segC0 rfl rfl segP0 rfl rfl (Nat.le_of_ble_eq_true rfl) ⟨rfl, rfl, Nat.le_of_ble_eq_true rfl, Nat.le_of_ble_eq_true rfl⟩ d_Rd_oneOf_24 (fun H locs hP hD hS => ?_)
    refine lv_istore_n (lv' := [(2, .int v_2), (0, .ref (a 0)), (1, .ref (g (10 + t1)))]) hx hb d_Rd_oneOf_27 rfl hl (by decide) rfl (fun ls hl => ?_)
    refine lv_iload_n hx hb d_Rd_oneOf_28 rfl (lv_at hl 0 rfl) ?_
    refine lv_if_lt (tgt := 42) hx hb d_Rd_oneOf_29 (by decide) (fun h_4 => ?_) (fun h_4 => ?_)
    · have hd := ite_t hd h_4
      refine lv_iload_n hx hb d_Rd_oneOf_42 rfl (lv_at hl 0 rfl) ?_
      obtain rfl := Option.some.inj hd
      exact retI hx hb hr hlk hK hP hD hS d_Rd_oneOf_43 rfl
    · have hd := ite_f hd h_4
      refine lv_aload_n hx hb d_Rd_oneOf_32 rfl (lv_at hl 1 rfl) ?_
      refine lv_dup hx hb d_Rd_oneOf_33 rfl ?_
      refine va_get (D := D) (ci := 6) (v := .int (q_Rd_place z)) (C := R_Rd) (T := F_Rd) (N := 4) hx hb hg i_Rd hown hK hP 0 rfl rfl 1 (by decide) (hg _ g_258) (fun _ h9 => h9) rfl d_Rd_oneOf_34 ?_
      refine lv_iconst (v := 1) hx hb d_Rd_oneOf_37 (by decide) ?_
      refine lv_iadd hx hb d_Rd_oneOf_38 ?_
      refine va_put (D := D) (ci := 6) (v := .int ((q_Rd_place z) + 1)) (ty := .int) (C := R_Rd) (T := F_Rd) (N := 4) hx hb hg i_Rd t_Rd t_Rd_ok n_Rd hown hK hP hD hS 0 rfl rfl 1 (by decide) (hg _ g_258) (fun _ h9 => h9) rfl (by decide +kernel) rfl rfl (Nat.le_of_ble_eq_true rfl) d_Rd_oneOf_39 (fun H locs hP hD hS => ?_)
      have hP : va_P D classes (ws_Rd g a (u_Rd_place z ((q_Rd_place z) + 1))) H := hP
      have hD : va_D A (ws_Rd g a (u_Rd_place z ((q_Rd_place z) + 1))) := hD
      refine lv_iload_n hx hb d_Rd_oneOf_42 rfl (lv_at hl 0 rfl) ?_
      obtain rfl := Option.some.inj hd
      exact retI hx hb hr hlk hK hP hD hS d_Rd_oneOf_43 rfl
  · have hd := ite_f hd h_1
    refine lv_iconst (v := (-1)) hx hb d_Rd_oneOf_11 (by decide) ?_
    obtain rfl := Option.some.inj hd
    exact retI hx hb hr hlk hK hP hD hS d_Rd_oneOf_12 rfl
-- OwnsLift$Reader.test()Z
def d_Rd_test (z : T_Rd) : Option (Int32 × T_Rd) :=
  (d_Rd_oneOf 4 z).bind fun v_1 => if 0 ≤ v_1.1 then ((d_Rd_oneOf 5 v_1.2).bind fun v_4 => if 0 ≤ v_4.1 then ((d_Rd_number v_4.2).bind fun v_7 => if 0 ≤ v_7.1 then ((d_La_emit (((v_1.1 * 1000) + (v_4.1 * 100)) + v_7.1) (q_Rd_draft v_7.2)).bind fun v_10 => some (1, (u_Rd_draft v_7.2 v_10))) else (some (0, v_7.2))) else (some (0, v_4.2))) else (some (0, v_1.2))
theorem nz_Rd_test {z : T_Rd} {v : Int32 × T_Rd} (h : d_Rd_test z = some v) : narrow .boolean (.int v.1) = .int v.1 := by
  unfold d_Rd_test at h
  obtain ⟨_, _, h⟩ := bind_s h
  split at h
  case isFalse => obtain rfl := Option.some.inj h; exact (by decide +kernel : narrow .boolean (.int (0 : Int32)) = .int 0)
  obtain ⟨_, _, h⟩ := bind_s h
  split at h
  case isFalse => obtain rfl := Option.some.inj h; exact (by decide +kernel : narrow .boolean (.int (0 : Int32)) = .int 0)
  obtain ⟨_, _, h⟩ := bind_s h
  split at h
  case isFalse => obtain rfl := Option.some.inj h; exact (by decide +kernel : narrow .boolean (.int (0 : Int32)) = .int 0)
  obtain ⟨_, _, h⟩ := bind_s h
  obtain rfl := Option.some.inj h
  exact (by decide +kernel : narrow .boolean (.int (1 : Int32)) = .int 1)
theorem d_Rd_test_0 : decode b_Rd_test 0 = .ok (.aload_n 0, 1) := by decide +kernel
theorem d_Rd_test_1 : decode b_Rd_test 1 = .ok (.ldc 102, 2) := by decide +kernel
theorem d_Rd_test_3 : decode b_Rd_test 3 = .ok (.invokevirtual 104, 3) := by decide +kernel
theorem d_Rd_test_6 : decode b_Rd_test 6 = .ok (.istore_n 1, 1) := by decide +kernel
theorem d_Rd_test_7 : decode b_Rd_test 7 = .ok (.iload_n 1, 1) := by decide +kernel
theorem d_Rd_test_8 : decode b_Rd_test 8 = .ok (.ifCond .ge 5, 3) := by decide +kernel
theorem d_Rd_test_11 : decode b_Rd_test 11 = .ok (.iconst 0, 1) := by decide +kernel
theorem d_Rd_test_12 : decode b_Rd_test 12 = .ok (.ireturn, 1) := by decide +kernel
theorem d_Rd_test_13 : decode b_Rd_test 13 = .ok (.aload_n 0, 1) := by decide +kernel
theorem d_Rd_test_14 : decode b_Rd_test 14 = .ok (.ldc 107, 2) := by decide +kernel
theorem d_Rd_test_16 : decode b_Rd_test 16 = .ok (.invokevirtual 104, 3) := by decide +kernel
theorem d_Rd_test_19 : decode b_Rd_test 19 = .ok (.istore_n 2, 1) := by decide +kernel
theorem d_Rd_test_20 : decode b_Rd_test 20 = .ok (.iload_n 2, 1) := by decide +kernel
theorem d_Rd_test_21 : decode b_Rd_test 21 = .ok (.ifCond .ge 5, 3) := by decide +kernel
theorem d_Rd_test_24 : decode b_Rd_test 24 = .ok (.iconst 0, 1) := by decide +kernel
theorem d_Rd_test_25 : decode b_Rd_test 25 = .ok (.ireturn, 1) := by decide +kernel
theorem d_Rd_test_26 : decode b_Rd_test 26 = .ok (.aload_n 0, 1) := by decide +kernel
theorem d_Rd_test_27 : decode b_Rd_test 27 = .ok (.invokevirtual 50, 3) := by decide +kernel
theorem d_Rd_test_30 : decode b_Rd_test 30 = .ok (.istore_n 3, 1) := by decide +kernel
theorem d_Rd_test_31 : decode b_Rd_test 31 = .ok (.iload_n 3, 1) := by decide +kernel
theorem d_Rd_test_32 : decode b_Rd_test 32 = .ok (.ifCond .ge 5, 3) := by decide +kernel
theorem d_Rd_test_35 : decode b_Rd_test 35 = .ok (.iconst 0, 1) := by decide +kernel
theorem d_Rd_test_36 : decode b_Rd_test 36 = .ok (.ireturn, 1) := by decide +kernel
theorem d_Rd_test_37 : decode b_Rd_test 37 = .ok (.aload_n 0, 1) := by decide +kernel
theorem d_Rd_test_38 : decode b_Rd_test 38 = .ok (.getfield 12, 3) := by decide +kernel
theorem d_Rd_test_41 : decode b_Rd_test 41 = .ok (.iload_n 1, 1) := by decide +kernel
theorem d_Rd_test_42 : decode b_Rd_test 42 = .ok (.sipush 1000, 3) := by decide +kernel
theorem d_Rd_test_45 : decode b_Rd_test 45 = .ok (.imul, 1) := by decide +kernel
theorem d_Rd_test_46 : decode b_Rd_test 46 = .ok (.iload_n 2, 1) := by decide +kernel
theorem d_Rd_test_47 : decode b_Rd_test 47 = .ok (.bipush 100, 2) := by decide +kernel
theorem d_Rd_test_49 : decode b_Rd_test 49 = .ok (.imul, 1) := by decide +kernel
theorem d_Rd_test_50 : decode b_Rd_test 50 = .ok (.iadd, 1) := by decide +kernel
theorem d_Rd_test_51 : decode b_Rd_test 51 = .ok (.iload_n 3, 1) := by decide +kernel
theorem d_Rd_test_52 : decode b_Rd_test 52 = .ok (.iadd, 1) := by decide +kernel
theorem d_Rd_test_53 : decode b_Rd_test 53 = .ok (.invokevirtual 95, 3) := by decide +kernel
theorem d_Rd_test_56 : decode b_Rd_test 56 = .ok (.iconst 1, 1) := by decide +kernel
theorem d_Rd_test_57 : decode b_Rd_test 57 = .ok (.ireturn, 1) := by decide +kernel
theorem o_Rd_test : OkV y_Rd_test "OwnsLift$Reader" b_Rd_test 4 (some .boolean) 0 := ⟨⟨rfl, by decide +kernel, by decide +kernel, by decide +kernel⟩, g_536, g_8, g_76, g_537⟩
set_option maxHeartbeats 4000000 in
set_option maxRecDepth 100000 in
theorem c_Rd_test (l : Launch) (D : va_G) (g : Nat → ClassId) (a : Nat → Nat) (z : T_Rd) (v : Int32 × T_Rd) (h : d_Rd_test z = some v) :
    MI l y_Rd_test b_Rd_test 4 .boolean ({ frames := 5, cells := 0, slots := 0, locals := 113 } : Room) D g [.ref (a 0)] (ws_Rd g a z) (v.1) (ws_Rd g a v.2) := by
  have hd := h
  unfold d_Rd_test at hd
  refine enterI rfl (Nat.le_of_ble_eq_true rfl) (fun p e s m below meth c A ls hx hb hml hr hown hg hlk hK hA hP hD hS hCs hl => ?_)
  have hown : s.vm.findClass "OwnsLift$Reader" = some m.cls := hown
  have hl : lv_has ls 4 [(0, .ref (a 0))] := hl
  show GI p l e s m ({ frames := 5, cells := 0, slots := 0, locals := 113 } : Room) ([.ref (a 0)] : List Value).toArray below meth c A D g (ws_Rd g a v.2) (v.1) s.heap [] (F0 m 0 ls [])
  refine lv_aload_n hx hb d_Rd_test_0 rfl (lv_at hl 0 rfl) ?_
  refine va_ldcS (tx := "pkatwy") (q := g (10 + 4)) hx hb hown (hCs.2.2.2.2 ("OwnsLift$Reader", 102, "pkatwy", 4) (by decide)) d_Rd_test_1 ?_
  obtain ⟨v_1, e_2, hd⟩ := bind_s hd
  refine callVI (ws' := ws_Rd g a v_1.2) (rest := []) (As := [.ref (g (10 + 4))]) hx hb hml hown hg hK hP hD hS hA hCs hl.1 (c_Rd_oneOf l D g a 4 z _ e_2) o_Rd_oneOf g_539 (ci := 6) (q0 := 0) rfl rfl (List.range' 0 7) (segC1 rfl rfl) (by decide) rfl (segP1 rfl rfl) rfl rfl (Nat.le_of_ble_eq_true rfl) ⟨rfl, rfl, Nat.le_of_ble_eq_true rfl, Nat.le_of_ble_eq_true rfl⟩ d_Rd_test_3 (fun H locs hP hD hS => ?_)
  refine lv_istore_n (lv' := [(1, .int v_1.1), (0, .ref (a 0))]) hx hb d_Rd_test_6 rfl hl (by decide) rfl (fun ls hl => ?_)
  refine lv_iload_n hx hb d_Rd_test_7 rfl (lv_at hl 0 rfl) ?_
  refine lv_if_ge (tgt := 13) hx hb d_Rd_test_8 (by decide) (fun h_3 => ?_) (fun h_3 => ?_)
  · have hd := ite_t hd h_3
    refine lv_aload_n hx hb d_Rd_test_13 rfl (lv_at hl 1 rfl) ?_
    refine va_ldcS (tx := "<=>") (q := g (10 + 5)) hx hb hown (hCs.2.2.2.2 ("OwnsLift$Reader", 107, "<=>", 5) (by decide)) d_Rd_test_14 ?_
    obtain ⟨v_4, e_5, hd⟩ := bind_s hd
    refine callVI (ws' := ws_Rd g a v_4.2) (rest := []) (As := [.ref (g (10 + 5))]) hx hb hml hown hg hK hP hD hS hA hCs hl.1 (c_Rd_oneOf l D g a 5 v_1.2 _ e_5) o_Rd_oneOf g_539 (ci := 6) (q0 := 0) rfl rfl (List.range' 0 7) (segC1 rfl rfl) (by decide) rfl (segP1 rfl rfl) rfl rfl (Nat.le_of_ble_eq_true rfl) ⟨rfl, rfl, Nat.le_of_ble_eq_true rfl, Nat.le_of_ble_eq_true rfl⟩ d_Rd_test_16 (fun H locs hP hD hS => ?_)
    refine lv_istore_n (lv' := [(2, .int v_4.1), (1, .int v_1.1), (0, .ref (a 0))]) hx hb d_Rd_test_19 rfl hl (by decide) rfl (fun ls hl => ?_)
    refine lv_iload_n hx hb d_Rd_test_20 rfl (lv_at hl 0 rfl) ?_
    refine lv_if_ge (tgt := 26) hx hb d_Rd_test_21 (by decide) (fun h_6 => ?_) (fun h_6 => ?_)
    · have hd := ite_t hd h_6
      refine lv_aload_n hx hb d_Rd_test_26 rfl (lv_at hl 2 rfl) ?_
      obtain ⟨v_7, e_8, hd⟩ := bind_s hd
      refine callVI (ws' := ws_Rd g a v_7.2) (rest := []) (As := []) hx hb hml hown hg hK hP hD hS hA hCs hl.1 (c_Rd_number l D g a v_4.2 _ e_8) o_Rd_number g_514 (ci := 6) (q0 := 0) rfl rfl (List.range' 0 7) (segC1 rfl rfl) (by decide) rfl (segP1 rfl rfl) rfl rfl (Nat.le_of_ble_eq_true rfl) ⟨rfl, rfl, Nat.le_of_ble_eq_true rfl, Nat.le_of_ble_eq_true rfl⟩ d_Rd_test_27 (fun H locs hP hD hS => ?_)
      refine lv_istore_n (lv' := [(3, .int v_7.1), (2, .int v_4.1), (1, .int v_1.1), (0, .ref (a 0))]) hx hb d_Rd_test_30 rfl hl (by decide) rfl (fun ls hl => ?_)
      refine lv_iload_n hx hb d_Rd_test_31 rfl (lv_at hl 0 rfl) ?_
      refine lv_if_ge (tgt := 37) hx hb d_Rd_test_32 (by decide) (fun h_9 => ?_) (fun h_9 => ?_)
      · have hd := ite_t hd h_9
        refine lv_aload_n hx hb d_Rd_test_37 rfl (lv_at hl 3 rfl) ?_
        refine va_get (D := D) (ci := 6) (v := .ref (a 1)) (C := R_Rd) (T := F_Rd) (N := 4) hx hb hg i_Rd hown hK hP 0 rfl rfl 0 (by decide) (hg _ g_256) (fun _ h9 => h9) rfl d_Rd_test_38 ?_
        refine lv_iload_n hx hb d_Rd_test_41 rfl (lv_at hl 2 rfl) ?_
        refine lv_sipush (v := 1000) hx hb d_Rd_test_42 (by decide) ?_
        refine lv_imul hx hb d_Rd_test_45 ?_
        refine lv_iload_n hx hb d_Rd_test_46 rfl (lv_at hl 1 rfl) ?_
        refine lv_bipush (v := 100) hx hb d_Rd_test_47 (by decide) ?_
        refine lv_imul hx hb d_Rd_test_49 ?_
        refine lv_iadd hx hb d_Rd_test_50 ?_
        refine lv_iload_n hx hb d_Rd_test_51 rfl (lv_at hl 0 rfl) ?_
        refine lv_iadd hx hb d_Rd_test_52 ?_
        obtain ⟨v_10, e_11, hd⟩ := bind_s hd
        refine callVV (ws' := ws_Rd g a (u_Rd_draft v_7.2 v_10)) (rest := []) (As := [.int (((v_1.1 * 1000) + (v_4.1 * 100)) + v_7.1)]) hx hb hml hown hg hK hP hD hS hA hCs hl.1 (c_La_emit l D g (sh a 1) (((v_1.1 * 1000) + (v_4.1 * 100)) + v_7.1) (q_Rd_draft v_7.2) _ e_11) o_La_emit g_530 (ci := 4) (q0 := 1) rfl rfl (List.range' 1 5) (segC1 rfl rfl) (by decide) rfl (segP1 rfl rfl) rfl rfl (Nat.le_of_ble_eq_true rfl) ⟨rfl, rfl, Nat.le_of_ble_eq_true rfl, Nat.le_of_ble_eq_true rfl⟩ d_Rd_test_53 (fun H locs hP hD hS => ?_)
        refine lv_iconst (v := 1) hx hb d_Rd_test_56 (by decide) ?_
        obtain rfl := Option.some.inj hd
        exact retZ hx hb hr hlk hK hP hD hS d_Rd_test_57 rfl (by decide +kernel)
      · have hd := ite_f hd h_9
        refine lv_iconst (v := 0) hx hb d_Rd_test_35 (by decide) ?_
        obtain rfl := Option.some.inj hd
        exact retZ hx hb hr hlk hK hP hD hS d_Rd_test_36 rfl (by decide +kernel)
    · have hd := ite_f hd h_6
      refine lv_iconst (v := 0) hx hb d_Rd_test_24 (by decide) ?_
      obtain rfl := Option.some.inj hd
      exact retZ hx hb hr hlk hK hP hD hS d_Rd_test_25 rfl (by decide +kernel)
  · have hd := ite_f hd h_3
    refine lv_iconst (v := 0) hx hb d_Rd_test_11 (by decide) ?_
    obtain rfl := Option.some.inj hd
    exact retZ hx hb hr hlk hK hP hD hS d_Rd_test_12 rfl (by decide +kernel)
-- recursion: Rd_either, Rd_factor
def B_Rd_either_L7 (rc : (Int32 → T_Rd → Option (Int32 × T_Rd)) × (Int32 → T_Rd → Option (Int32 × T_Rd))) (x1_f7 : Int32) (self7 : Int32 → Int32 → Int32 → T_Rd → Option (Int32 × T_Rd)) (x2_7 : Int32) (x3_7 : Int32) (x4_7 : Int32) (z_7 : T_Rd) : Option (Int32 × T_Rd) :=
  if 100 ≤ x4_7 then (some (0, z_7)) else ((rc.2 x1_f7 z_7).bind fun v_2 => if v_2.1 = 0 then (some (0, v_2.2)) else (if x2_7 = 0 then ((d_Rd_eat 38 v_2.2).bind fun v_6 => if v_6.1 = 0 then (if x3_7 = 0 then ((d_Rd_eat 124 v_6.2).bind fun v_10 => if v_10.1 = 0 then (some (1, v_10.2)) else (self7 v_6.1 v_10.1 (x4_7 + 1) v_10.2)) else ((d_La_emit (-3) (q_Rd_draft v_6.2)).bind fun v_13 => (d_Rd_eat 124 (u_Rd_draft v_6.2 v_13)).bind fun v_15 => if v_15.1 = 0 then (some (1, v_15.2)) else (self7 v_6.1 v_15.1 (x4_7 + 1) v_15.2))) else (self7 v_6.1 x3_7 (x4_7 + 1) v_6.2)) else ((d_La_emit (-2) (q_Rd_draft v_2.2)).bind fun v_18 => (d_Rd_eat 38 (u_Rd_draft v_2.2 v_18)).bind fun v_20 => if v_20.1 = 0 then (if x3_7 = 0 then ((d_Rd_eat 124 v_20.2).bind fun v_24 => if v_24.1 = 0 then (some (1, v_24.2)) else (self7 v_20.1 v_24.1 (x4_7 + 1) v_24.2)) else ((d_La_emit (-3) (q_Rd_draft v_20.2)).bind fun v_27 => (d_Rd_eat 124 (u_Rd_draft v_20.2 v_27)).bind fun v_29 => if v_29.1 = 0 then (some (1, v_29.2)) else (self7 v_20.1 v_29.1 (x4_7 + 1) v_29.2))) else (self7 v_20.1 x3_7 (x4_7 + 1) v_20.2))))
def d_Rd_either_L7 (rc : (Int32 → T_Rd → Option (Int32 × T_Rd)) × (Int32 → T_Rd → Option (Int32 × T_Rd))) (x1_f7 : Int32) (n : Nat) : Int32 → Int32 → Int32 → T_Rd → Option (Int32 × T_Rd) := recN (fun _ _ _ _ => none) (fun self => B_Rd_either_L7 rc x1_f7 self) n
def B_Rd_either (rc : (Int32 → T_Rd → Option (Int32 × T_Rd)) × (Int32 → T_Rd → Option (Int32 × T_Rd))) (x1 : Int32) (z : T_Rd) : Option (Int32 × T_Rd) :=
  d_Rd_either_L7 rc x1  1000 0 0 0 z
def B_Rd_factor (rc : (Int32 → T_Rd → Option (Int32 × T_Rd)) × (Int32 → T_Rd → Option (Int32 × T_Rd))) (x1 : Int32) (z : T_Rd) : Option (Int32 × T_Rd) :=
  if 5 ≤ x1 then ((d_Rd_test z).bind fun v_2 => some (v_2.1, v_2.2)) else ((d_Rd_eat 33 z).bind fun v_4 => if v_4.1 = 0 then ((d_Rd_eat 40 v_4.2).bind fun v_7 => if v_7.1 = 0 then ((d_Rd_test v_7.2).bind fun v_10 => some (v_10.1, v_10.2)) else ((rc.1 (x1 + 1) v_7.2).bind fun v_12 => if v_12.1 = 0 then (some (0, v_12.2)) else ((d_Rd_eat 41 v_12.2).bind fun v_15 => if v_15.1 = 0 then (some (0, v_15.2)) else (some (1, v_15.2))))) else ((rc.2 (x1 + 1) v_4.2).bind fun v_18 => if v_18.1 = 0 then (some (0, v_18.2)) else ((d_La_emit (-1) (q_Rd_draft v_18.2)).bind fun v_21 => some (1, (u_Rd_draft v_18.2 v_21)))))
def d_G_Rd_either (n : Nat) : (Int32 → T_Rd → Option (Int32 × T_Rd)) × (Int32 → T_Rd → Option (Int32 × T_Rd)) := recN ((fun _ _ => none), (fun _ _ => none)) (fun rc => (B_Rd_either rc, B_Rd_factor rc)) n
def d_Rd_either (n : Nat) (x1 : Int32) (z : T_Rd) : Option (Int32 × T_Rd) := (d_G_Rd_either n).1 x1 z
def d_Rd_factor (n : Nat) (x1 : Int32) (z : T_Rd) : Option (Int32 × T_Rd) := (d_G_Rd_either n).2 x1 z
theorem d_Rd_either_0 : decode b_Rd_either 0 = .ok (.iconst 0, 1) := by decide +kernel
theorem d_Rd_either_1 : decode b_Rd_either 1 = .ok (.istore_n 2, 1) := by decide +kernel
theorem d_Rd_either_2 : decode b_Rd_either 2 = .ok (.iconst 0, 1) := by decide +kernel
theorem d_Rd_either_3 : decode b_Rd_either 3 = .ok (.istore_n 3, 1) := by decide +kernel
theorem d_Rd_either_4 : decode b_Rd_either 4 = .ok (.iconst 0, 1) := by decide +kernel
theorem d_Rd_either_5 : decode b_Rd_either 5 = .ok (.istore 4, 2) := by decide +kernel
theorem d_Rd_either_7 : decode b_Rd_either 7 = .ok (.iload 4, 2) := by decide +kernel
theorem d_Rd_either_9 : decode b_Rd_either 9 = .ok (.bipush 100, 2) := by decide +kernel
theorem d_Rd_either_11 : decode b_Rd_either 11 = .ok (.if_icmp .ge 72, 3) := by decide +kernel
theorem d_Rd_either_14 : decode b_Rd_either 14 = .ok (.aload_n 0, 1) := by decide +kernel
theorem d_Rd_either_15 : decode b_Rd_either 15 = .ok (.iload_n 1, 1) := by decide +kernel
theorem d_Rd_either_16 : decode b_Rd_either 16 = .ok (.invokevirtual 92, 3) := by decide +kernel
theorem d_Rd_either_19 : decode b_Rd_either 19 = .ok (.ifCond .ne 5, 3) := by decide +kernel
theorem d_Rd_either_22 : decode b_Rd_either 22 = .ok (.iconst 0, 1) := by decide +kernel
theorem d_Rd_either_23 : decode b_Rd_either 23 = .ok (.ireturn, 1) := by decide +kernel
theorem d_Rd_either_24 : decode b_Rd_either 24 = .ok (.iload_n 2, 1) := by decide +kernel
theorem d_Rd_either_25 : decode b_Rd_either 25 = .ok (.ifCond .eq 12, 3) := by decide +kernel
theorem d_Rd_either_28 : decode b_Rd_either 28 = .ok (.aload_n 0, 1) := by decide +kernel
theorem d_Rd_either_29 : decode b_Rd_either 29 = .ok (.getfield 12, 3) := by decide +kernel
theorem d_Rd_either_32 : decode b_Rd_either 32 = .ok (.bipush (-2), 2) := by decide +kernel
theorem d_Rd_either_34 : decode b_Rd_either 34 = .ok (.invokevirtual 95, 3) := by decide +kernel
theorem d_Rd_either_37 : decode b_Rd_either 37 = .ok (.aload_n 0, 1) := by decide +kernel
theorem d_Rd_either_38 : decode b_Rd_either 38 = .ok (.bipush 38, 2) := by decide +kernel
theorem d_Rd_either_40 : decode b_Rd_either 40 = .ok (.invokevirtual 42, 3) := by decide +kernel
theorem d_Rd_either_43 : decode b_Rd_either 43 = .ok (.istore_n 2, 1) := by decide +kernel
theorem d_Rd_either_44 : decode b_Rd_either 44 = .ok (.iload_n 2, 1) := by decide +kernel
theorem d_Rd_either_45 : decode b_Rd_either 45 = .ok (.ifCond .eq 6, 3) := by decide +kernel
theorem d_Rd_either_48 : decode b_Rd_either 48 = .ok (.goto 29, 3) := by decide +kernel
theorem d_Rd_either_51 : decode b_Rd_either 51 = .ok (.iload_n 3, 1) := by decide +kernel
theorem d_Rd_either_52 : decode b_Rd_either 52 = .ok (.ifCond .eq 12, 3) := by decide +kernel
theorem d_Rd_either_55 : decode b_Rd_either 55 = .ok (.aload_n 0, 1) := by decide +kernel
theorem d_Rd_either_56 : decode b_Rd_either 56 = .ok (.getfield 12, 3) := by decide +kernel
theorem d_Rd_either_59 : decode b_Rd_either 59 = .ok (.bipush (-3), 2) := by decide +kernel
theorem d_Rd_either_61 : decode b_Rd_either 61 = .ok (.invokevirtual 95, 3) := by decide +kernel
theorem d_Rd_either_64 : decode b_Rd_either 64 = .ok (.aload_n 0, 1) := by decide +kernel
theorem d_Rd_either_65 : decode b_Rd_either 65 = .ok (.bipush 124, 2) := by decide +kernel
theorem d_Rd_either_67 : decode b_Rd_either 67 = .ok (.invokevirtual 42, 3) := by decide +kernel
theorem d_Rd_either_70 : decode b_Rd_either 70 = .ok (.istore_n 3, 1) := by decide +kernel
theorem d_Rd_either_71 : decode b_Rd_either 71 = .ok (.iload_n 3, 1) := by decide +kernel
theorem d_Rd_either_72 : decode b_Rd_either 72 = .ok (.ifCond .ne 5, 3) := by decide +kernel
theorem d_Rd_either_75 : decode b_Rd_either 75 = .ok (.iconst 1, 1) := by decide +kernel
theorem d_Rd_either_76 : decode b_Rd_either 76 = .ok (.ireturn, 1) := by decide +kernel
theorem d_Rd_either_77 : decode b_Rd_either 77 = .ok (.iinc 4 1, 3) := by decide +kernel
theorem d_Rd_either_80 : decode b_Rd_either 80 = .ok (.goto (-73), 3) := by decide +kernel
theorem d_Rd_either_83 : decode b_Rd_either 83 = .ok (.iconst 0, 1) := by decide +kernel
theorem d_Rd_either_84 : decode b_Rd_either 84 = .ok (.ireturn, 1) := by decide +kernel
theorem o_Rd_either : OkV y_Rd_either "OwnsLift$Reader" b_Rd_either 5 (some .boolean) 1 := ⟨⟨rfl, by decide +kernel, by decide +kernel, by decide +kernel⟩, g_524, g_6, g_76, g_525⟩

theorem d_Rd_factor_0 : decode b_Rd_factor 0 = .ok (.iload_n 1, 1) := by decide +kernel
theorem d_Rd_factor_1 : decode b_Rd_factor 1 = .ok (.iconst 5, 1) := by decide +kernel
theorem d_Rd_factor_2 : decode b_Rd_factor 2 = .ok (.if_icmp .ge 7, 3) := by decide +kernel
theorem d_Rd_factor_5 : decode b_Rd_factor 5 = .ok (.iconst 1, 1) := by decide +kernel
theorem d_Rd_factor_6 : decode b_Rd_factor 6 = .ok (.goto 4, 3) := by decide +kernel
theorem d_Rd_factor_9 : decode b_Rd_factor 9 = .ok (.iconst 0, 1) := by decide +kernel
theorem d_Rd_factor_10 : decode b_Rd_factor 10 = .ok (.istore_n 2, 1) := by decide +kernel
theorem d_Rd_factor_11 : decode b_Rd_factor 11 = .ok (.iload_n 2, 1) := by decide +kernel
theorem d_Rd_factor_12 : decode b_Rd_factor 12 = .ok (.ifCond .eq 34, 3) := by decide +kernel
theorem d_Rd_factor_15 : decode b_Rd_factor 15 = .ok (.aload_n 0, 1) := by decide +kernel
theorem d_Rd_factor_16 : decode b_Rd_factor 16 = .ok (.bipush 33, 2) := by decide +kernel
theorem d_Rd_factor_18 : decode b_Rd_factor 18 = .ok (.invokevirtual 42, 3) := by decide +kernel
theorem d_Rd_factor_21 : decode b_Rd_factor 21 = .ok (.ifCond .eq 25, 3) := by decide +kernel
theorem d_Rd_factor_24 : decode b_Rd_factor 24 = .ok (.aload_n 0, 1) := by decide +kernel
theorem d_Rd_factor_25 : decode b_Rd_factor 25 = .ok (.iload_n 1, 1) := by decide +kernel
theorem d_Rd_factor_26 : decode b_Rd_factor 26 = .ok (.iconst 1, 1) := by decide +kernel
theorem d_Rd_factor_27 : decode b_Rd_factor 27 = .ok (.iadd, 1) := by decide +kernel
theorem d_Rd_factor_28 : decode b_Rd_factor 28 = .ok (.invokevirtual 92, 3) := by decide +kernel
theorem d_Rd_factor_31 : decode b_Rd_factor 31 = .ok (.ifCond .ne 5, 3) := by decide +kernel
theorem d_Rd_factor_34 : decode b_Rd_factor 34 = .ok (.iconst 0, 1) := by decide +kernel
theorem d_Rd_factor_35 : decode b_Rd_factor 35 = .ok (.ireturn, 1) := by decide +kernel
theorem d_Rd_factor_36 : decode b_Rd_factor 36 = .ok (.aload_n 0, 1) := by decide +kernel
theorem d_Rd_factor_37 : decode b_Rd_factor 37 = .ok (.getfield 12, 3) := by decide +kernel
theorem d_Rd_factor_40 : decode b_Rd_factor 40 = .ok (.iconst (-1), 1) := by decide +kernel
theorem d_Rd_factor_41 : decode b_Rd_factor 41 = .ok (.invokevirtual 95, 3) := by decide +kernel
theorem d_Rd_factor_44 : decode b_Rd_factor 44 = .ok (.iconst 1, 1) := by decide +kernel
theorem d_Rd_factor_45 : decode b_Rd_factor 45 = .ok (.ireturn, 1) := by decide +kernel
theorem d_Rd_factor_46 : decode b_Rd_factor 46 = .ok (.iload_n 2, 1) := by decide +kernel
theorem d_Rd_factor_47 : decode b_Rd_factor 47 = .ok (.ifCond .eq 37, 3) := by decide +kernel
theorem d_Rd_factor_50 : decode b_Rd_factor 50 = .ok (.aload_n 0, 1) := by decide +kernel
theorem d_Rd_factor_51 : decode b_Rd_factor 51 = .ok (.bipush 40, 2) := by decide +kernel
theorem d_Rd_factor_53 : decode b_Rd_factor 53 = .ok (.invokevirtual 42, 3) := by decide +kernel
theorem d_Rd_factor_56 : decode b_Rd_factor 56 = .ok (.ifCond .eq 28, 3) := by decide +kernel
theorem d_Rd_factor_59 : decode b_Rd_factor 59 = .ok (.aload_n 0, 1) := by decide +kernel
theorem d_Rd_factor_60 : decode b_Rd_factor 60 = .ok (.iload_n 1, 1) := by decide +kernel
theorem d_Rd_factor_61 : decode b_Rd_factor 61 = .ok (.iconst 1, 1) := by decide +kernel
theorem d_Rd_factor_62 : decode b_Rd_factor 62 = .ok (.iadd, 1) := by decide +kernel
theorem d_Rd_factor_63 : decode b_Rd_factor 63 = .ok (.invokevirtual 53, 3) := by decide +kernel
theorem d_Rd_factor_66 : decode b_Rd_factor 66 = .ok (.ifCond .eq 16, 3) := by decide +kernel
theorem d_Rd_factor_69 : decode b_Rd_factor 69 = .ok (.aload_n 0, 1) := by decide +kernel
theorem d_Rd_factor_70 : decode b_Rd_factor 70 = .ok (.bipush 41, 2) := by decide +kernel
theorem d_Rd_factor_72 : decode b_Rd_factor 72 = .ok (.invokevirtual 42, 3) := by decide +kernel
theorem d_Rd_factor_75 : decode b_Rd_factor 75 = .ok (.ifCond .eq 7, 3) := by decide +kernel
theorem d_Rd_factor_78 : decode b_Rd_factor 78 = .ok (.iconst 1, 1) := by decide +kernel
theorem d_Rd_factor_79 : decode b_Rd_factor 79 = .ok (.goto 4, 3) := by decide +kernel
theorem d_Rd_factor_82 : decode b_Rd_factor 82 = .ok (.iconst 0, 1) := by decide +kernel
theorem d_Rd_factor_83 : decode b_Rd_factor 83 = .ok (.ireturn, 1) := by decide +kernel
theorem d_Rd_factor_84 : decode b_Rd_factor 84 = .ok (.aload_n 0, 1) := by decide +kernel
theorem d_Rd_factor_85 : decode b_Rd_factor 85 = .ok (.invokevirtual 99, 3) := by decide +kernel
theorem d_Rd_factor_88 : decode b_Rd_factor 88 = .ok (.ireturn, 1) := by decide +kernel
theorem o_Rd_factor : OkV y_Rd_factor "OwnsLift$Reader" b_Rd_factor 3 (some .boolean) 1 := ⟨⟨rfl, by decide +kernel, by decide +kernel, by decide +kernel⟩, g_528, g_7, g_76, g_529⟩

set_option maxHeartbeats 8000000 in
set_option maxRecDepth 100000 in
theorem cg_Rd_either : ∀ nr : Nat, (∀ (l : Launch) (D : va_G) (g : Nat → ClassId) (a : Nat → Nat) (x1 : Int32) (z : T_Rd) (v : Int32 × T_Rd) (h : d_Rd_either nr x1 z = some v), MI l y_Rd_either b_Rd_either 5 .boolean ({ frames := 7 + 2 * nr, cells := 0, slots := 0, locals := 137 + 60 * nr } : Room) D g [.ref (a 0), .int x1] (ws_Rd g a z) (v.1) (ws_Rd g a v.2)) ∧ (∀ (l : Launch) (D : va_G) (g : Nat → ClassId) (a : Nat → Nat) (x1 : Int32) (z : T_Rd) (v : Int32 × T_Rd) (h : d_Rd_factor nr x1 z = some v), MI l y_Rd_factor b_Rd_factor 3 .boolean ({ frames := 7 + 2 * nr, cells := 0, slots := 0, locals := 137 + 60 * nr } : Room) D g [.ref (a 0), .int x1] (ws_Rd g a z) (v.1) (ws_Rd g a v.2)) := by
  intro nr
  induction nr with
  | zero =>
    exact ⟨(by intro l D g a x1 z v h; have h : none = some v := h; cases h), (by intro l D g a x1 z v h; have h : none = some v := h; cases h)⟩
  | succ nr ih =>
    refine ⟨?_, ?_⟩
    · intro l D g a x1 z v h
      have hd : B_Rd_either (d_G_Rd_either nr) x1 z = some v := h
      have ihc := ih
      generalize hrc : (d_G_Rd_either nr) = rc at hd
      have ih : (∀ (l : Launch) (D : va_G) (g : Nat → ClassId) (a : Nat → Nat) (x1 : Int32) (z : T_Rd) (v : Int32 × T_Rd) (h : rc.1 x1 z = some v), MI l y_Rd_either b_Rd_either 5 .boolean ({ frames := 7 + 2 * nr, cells := 0, slots := 0, locals := 137 + 60 * nr } : Room) D g [.ref (a 0), .int x1] (ws_Rd g a z) (v.1) (ws_Rd g a v.2)) ∧ (∀ (l : Launch) (D : va_G) (g : Nat → ClassId) (a : Nat → Nat) (x1 : Int32) (z : T_Rd) (v : Int32 × T_Rd) (h : rc.2 x1 z = some v), MI l y_Rd_factor b_Rd_factor 3 .boolean ({ frames := 7 + 2 * nr, cells := 0, slots := 0, locals := 137 + 60 * nr } : Room) D g [.ref (a 0), .int x1] (ws_Rd g a z) (v.1) (ws_Rd g a v.2)) := ⟨fun l D g a x1 z v h => ih.1 l D g a x1 z v (by unfold d_Rd_either; rw [hrc]; exact h), fun l D g a x1 z v h => ih.2 l D g a x1 z v (by unfold d_Rd_factor; rw [hrc]; exact h)⟩
      clear ihc hrc
      unfold B_Rd_either at hd
      refine enterI rfl (Nat.le_of_ble_eq_true rfl) (fun p e s m below meth c A ls hx hb hml hr hown hg hlk hK hA hP hD hS hCs hl => ?_)
      have hown : s.vm.findClass "OwnsLift$Reader" = some m.cls := hown
      have hl : lv_has ls 5 [(0, .ref (a 0)), (1, .int x1)] := hl
      show GI p l e s m ({ frames := 7 + 2 * (nr + 1), cells := 0, slots := 0, locals := 137 + 60 * (nr + 1) } : Room) ([.ref (a 0), .int x1] : List Value).toArray below meth c A D g (ws_Rd g a v.2) (v.1) s.heap [] (F0 m 0 ls [])
      refine lv_iconst (v := 0) hx hb d_Rd_either_0 (by decide) ?_
      refine lv_istore_n (lv' := [(2, .int 0), (0, .ref (a 0)), (1, .int x1)]) hx hb d_Rd_either_1 rfl hl (by decide) rfl (fun ls hl => ?_)
      refine lv_iconst (v := 0) hx hb d_Rd_either_2 (by decide) ?_
      refine lv_istore_n (lv' := [(3, .int 0), (2, .int 0), (0, .ref (a 0)), (1, .int x1)]) hx hb d_Rd_either_3 rfl hl (by decide) rfl (fun ls hl => ?_)
      refine lv_iconst (v := 0) hx hb d_Rd_either_4 (by decide) ?_
      refine lv_istore (lv' := [(4, .int 0), (3, .int 0), (2, .int 0), (0, .ref (a 0)), (1, .int x1)]) hx hb d_Rd_either_5 hl (by decide) rfl (fun ls hl => ?_)
      have lp7 : ∀ (x1_f7 : Int32) (n : Nat) (x2_7 : Int32) (x3_7 : Int32) (x4_7 : Int32) (z_7 : T_Rd) (H : Heap) (locs : List Loc) (ls : Array Slot), va_P D classes (ws_Rd g a z_7) H → va_D A (ws_Rd g a z_7) → va_S A s.heap H locs → lv_has ls 5 [(0, .ref (a 0)), (1, .int x1_f7), (2, .int x2_7), (3, .int x3_7), (4, .int x4_7)] → d_Rd_either_L7 rc x1_f7 n x2_7 x3_7 x4_7 z_7 = some v → GI p l e s m ({ frames := 7 + 2 * (nr + 1), cells := 0, slots := 0, locals := 137 + 60 * (nr + 1) } : Room) ([.ref (a 0), .int x1] : List Value).toArray below meth c A D g (ws_Rd g a v.2) (v.1) H locs (F0 m 7 ls []) := by
        intro x1_f7 n
        induction n with
        | zero =>
          intro  x2_7 x3_7 x4_7 z_7 H locs ls hP hD hS hl hd
          have hd : none = some v := hd
          cases hd
        | succ n ih7 =>
          intro  x2_7 x3_7 x4_7 z_7 H locs ls hP hD hS hl hd
          have hd : B_Rd_either_L7 rc x1_f7 (d_Rd_either_L7 rc x1_f7 n) x2_7 x3_7 x4_7 z_7 = some v := hd
          generalize d_Rd_either_L7 rc x1_f7 n = self7 at ih7 hd
          unfold B_Rd_either_L7 at hd
          refine lv_iload hx hb d_Rd_either_7 (lv_at hl 4 rfl) ?_
          refine lv_bipush (v := 100) hx hb d_Rd_either_9 (by decide) ?_
          refine lv_icmp_ge (tgt := 83) hx hb d_Rd_either_11 (by decide) (fun h_1 => ?_) (fun h_1 => ?_)
          · have hd := ite_t hd h_1
            refine lv_iconst (v := 0) hx hb d_Rd_either_83 (by decide) ?_
            obtain rfl := Option.some.inj hd
            exact retZ hx hb hr hlk hK hP hD hS d_Rd_either_84 rfl (by decide +kernel)
          · have hd := ite_f hd h_1
            refine lv_aload_n hx hb d_Rd_either_14 rfl (lv_at hl 0 rfl) ?_
            refine lv_iload_n hx hb d_Rd_either_15 rfl (lv_at hl 1 rfl) ?_
            obtain ⟨v_2, e_3, hd⟩ := bind_s hd
            refine callVI (ws' := ws_Rd g a v_2.2) (rest := []) (As := [.int x1_f7]) hx hb hml hown hg hK hP hD hS hA hCs hl.1 (ih.2 l D g a x1_f7 z_7 _ e_3) o_Rd_factor g_526 (ci := 6) (q0 := 0) rfl rfl (List.range' 0 7) (segC1 rfl rfl) (by decide) rfl (segP1 rfl rfl) rfl rfl (Nat.le_of_ble_eq_true rfl) ⟨rfl, rfl, by show _ ≤ _; (try dsimp only); omega, by show _ ≤ _; (try dsimp only); omega⟩ d_Rd_either_16 (fun H locs hP hD hS => ?_)
            refine lv_if_ne (tgt := 24) hx hb d_Rd_either_19 (by decide) (fun h_4 => ?_) (fun h_4 => ?_)
            · have hd := ite_f hd h_4
              refine lv_iload_n hx hb d_Rd_either_24 rfl (lv_at hl 2 rfl) ?_
              refine lv_if_eq (tgt := 37) hx hb d_Rd_either_25 (by decide) (fun h_5 => ?_) (fun h_5 => ?_)
              · have hd := ite_t hd h_5
                refine lv_aload_n hx hb d_Rd_either_37 rfl (lv_at hl 0 rfl) ?_
                refine lv_bipush (v := 38) hx hb d_Rd_either_38 (by decide) ?_
                obtain ⟨v_6, e_7, hd⟩ := bind_s hd
                refine callVI (ws' := ws_Rd g a v_6.2) (rest := []) (As := [.int 38]) hx hb hml hown hg hK hP hD hS hA hCs hl.1 (c_Rd_eat l D g a 38 v_2.2 _ e_7) o_Rd_eat g_510 (ci := 6) (q0 := 0) rfl rfl (List.range' 0 7) (segC1 rfl rfl) (by decide) rfl (segP1 rfl rfl) rfl rfl (Nat.le_of_ble_eq_true rfl) ⟨rfl, rfl, by show _ ≤ _; (try dsimp only); omega, by show _ ≤ _; (try dsimp only); omega⟩ d_Rd_either_40 (fun H locs hP hD hS => ?_)
                refine lv_istore_n (lv' := [(2, .int v_6.1), (0, .ref (a 0)), (1, .int x1_f7), (3, .int x3_7), (4, .int x4_7)]) hx hb d_Rd_either_43 rfl hl (by decide) rfl (fun ls hl => ?_)
                refine lv_iload_n hx hb d_Rd_either_44 rfl (lv_at hl 0 rfl) ?_
                refine lv_if_eq (tgt := 51) hx hb d_Rd_either_45 (by decide) (fun h_8 => ?_) (fun h_8 => ?_)
                · have hd := ite_t hd h_8
                  refine lv_iload_n hx hb d_Rd_either_51 rfl (lv_at hl 3 rfl) ?_
                  refine lv_if_eq (tgt := 64) hx hb d_Rd_either_52 (by decide) (fun h_9 => ?_) (fun h_9 => ?_)
                  · have hd := ite_t hd h_9
                    refine lv_aload_n hx hb d_Rd_either_64 rfl (lv_at hl 1 rfl) ?_
                    refine lv_bipush (v := 124) hx hb d_Rd_either_65 (by decide) ?_
                    obtain ⟨v_10, e_11, hd⟩ := bind_s hd
                    refine callVI (ws' := ws_Rd g a v_10.2) (rest := []) (As := [.int 124]) hx hb hml hown hg hK hP hD hS hA hCs hl.1 (c_Rd_eat l D g a 124 v_6.2 _ e_11) o_Rd_eat g_510 (ci := 6) (q0 := 0) rfl rfl (List.range' 0 7) (segC1 rfl rfl) (by decide) rfl (segP1 rfl rfl) rfl rfl (Nat.le_of_ble_eq_true rfl) ⟨rfl, rfl, by show _ ≤ _; (try dsimp only); omega, by show _ ≤ _; (try dsimp only); omega⟩ d_Rd_either_67 (fun H locs hP hD hS => ?_)
                    refine lv_istore_n (lv' := [(3, .int v_10.1), (2, .int v_6.1), (0, .ref (a 0)), (1, .int x1_f7), (4, .int x4_7)]) hx hb d_Rd_either_70 rfl hl (by decide) rfl (fun ls hl => ?_)
                    refine lv_iload_n hx hb d_Rd_either_71 rfl (lv_at hl 0 rfl) ?_
                    refine lv_if_ne (tgt := 77) hx hb d_Rd_either_72 (by decide) (fun h_12 => ?_) (fun h_12 => ?_)
                    · have hd := ite_f hd h_12
                      refine lv_iinc (v := x4_7 + 1) (lv' := [(4, .int (x4_7 + 1)), (3, .int v_10.1), (2, .int v_6.1), (0, .ref (a 0)), (1, .int x1_f7)]) hx hb d_Rd_either_77 hl (k := 4) rfl (by rfl) (by decide) rfl (fun ls hl => ?_)
                      refine lv_goto (tgt := 7) hx hb d_Rd_either_80 (by decide) ?_
                      exact ih7 v_6.1 v_10.1 (x4_7 + 1) v_10.2 _ _ _ hP hD hS (lv_sub hl [3, 4, 2, 1, 0] rfl) hd
                    · have hd := ite_t hd h_12
                      refine lv_iconst (v := 1) hx hb d_Rd_either_75 (by decide) ?_
                      obtain rfl := Option.some.inj hd
                      exact retZ hx hb hr hlk hK hP hD hS d_Rd_either_76 rfl (by decide +kernel)
                  · have hd := ite_f hd h_9
                    refine lv_aload_n hx hb d_Rd_either_55 rfl (lv_at hl 1 rfl) ?_
                    refine va_get (D := D) (ci := 6) (v := .ref (a 1)) (C := R_Rd) (T := F_Rd) (N := 4) hx hb hg i_Rd hown hK hP 0 rfl rfl 0 (by decide) (hg _ g_256) (fun _ h9 => h9) rfl d_Rd_either_56 ?_
                    refine lv_bipush (v := (-3)) hx hb d_Rd_either_59 (by decide) ?_
                    obtain ⟨v_13, e_14, hd⟩ := bind_s hd
                    refine callVV (ws' := ws_Rd g a (u_Rd_draft v_6.2 v_13)) (rest := []) (As := [.int (-3)]) hx hb hml hown hg hK hP hD hS hA hCs hl.1 (c_La_emit l D g (sh a 1) (-3) (q_Rd_draft v_6.2) _ e_14) o_La_emit g_530 (ci := 4) (q0 := 1) rfl rfl (List.range' 1 5) (segC1 rfl rfl) (by decide) rfl (segP1 rfl rfl) rfl rfl (Nat.le_of_ble_eq_true rfl) ⟨rfl, rfl, by show _ ≤ _; (try dsimp only); omega, by show _ ≤ _; (try dsimp only); omega⟩ d_Rd_either_61 (fun H locs hP hD hS => ?_)
                    refine lv_aload_n hx hb d_Rd_either_64 rfl (lv_at hl 1 rfl) ?_
                    refine lv_bipush (v := 124) hx hb d_Rd_either_65 (by decide) ?_
                    obtain ⟨v_15, e_16, hd⟩ := bind_s hd
                    refine callVI (ws' := ws_Rd g a v_15.2) (rest := []) (As := [.int 124]) hx hb hml hown hg hK hP hD hS hA hCs hl.1 (c_Rd_eat l D g a 124 (u_Rd_draft v_6.2 v_13) _ e_16) o_Rd_eat g_510 (ci := 6) (q0 := 0) rfl rfl (List.range' 0 7) (segC1 rfl rfl) (by decide) rfl (segP1 rfl rfl) rfl rfl (Nat.le_of_ble_eq_true rfl) ⟨rfl, rfl, by show _ ≤ _; (try dsimp only); omega, by show _ ≤ _; (try dsimp only); omega⟩ d_Rd_either_67 (fun H locs hP hD hS => ?_)
                    refine lv_istore_n (lv' := [(3, .int v_15.1), (2, .int v_6.1), (0, .ref (a 0)), (1, .int x1_f7), (4, .int x4_7)]) hx hb d_Rd_either_70 rfl hl (by decide) rfl (fun ls hl => ?_)
                    refine lv_iload_n hx hb d_Rd_either_71 rfl (lv_at hl 0 rfl) ?_
                    refine lv_if_ne (tgt := 77) hx hb d_Rd_either_72 (by decide) (fun h_17 => ?_) (fun h_17 => ?_)
                    · have hd := ite_f hd h_17
                      refine lv_iinc (v := x4_7 + 1) (lv' := [(4, .int (x4_7 + 1)), (3, .int v_15.1), (2, .int v_6.1), (0, .ref (a 0)), (1, .int x1_f7)]) hx hb d_Rd_either_77 hl (k := 4) rfl (by rfl) (by decide) rfl (fun ls hl => ?_)
                      refine lv_goto (tgt := 7) hx hb d_Rd_either_80 (by decide) ?_
                      exact ih7 v_6.1 v_15.1 (x4_7 + 1) v_15.2 _ _ _ hP hD hS (lv_sub hl [3, 4, 2, 1, 0] rfl) hd
                    · have hd := ite_t hd h_17
                      refine lv_iconst (v := 1) hx hb d_Rd_either_75 (by decide) ?_
                      obtain rfl := Option.some.inj hd
                      exact retZ hx hb hr hlk hK hP hD hS d_Rd_either_76 rfl (by decide +kernel)
                · have hd := ite_f hd h_8
                  refine lv_goto (tgt := 77) hx hb d_Rd_either_48 (by decide) ?_
                  refine lv_iinc (v := x4_7 + 1) (lv' := [(4, .int (x4_7 + 1)), (2, .int v_6.1), (0, .ref (a 0)), (1, .int x1_f7), (3, .int x3_7)]) hx hb d_Rd_either_77 hl (k := 4) rfl (by rfl) (by decide) rfl (fun ls hl => ?_)
                  refine lv_goto (tgt := 7) hx hb d_Rd_either_80 (by decide) ?_
                  exact ih7 v_6.1 x3_7 (x4_7 + 1) v_6.2 _ _ _ hP hD hS (lv_sub hl [2, 3, 1, 4, 0] rfl) hd
              · have hd := ite_f hd h_5
                refine lv_aload_n hx hb d_Rd_either_28 rfl (lv_at hl 0 rfl) ?_
                refine va_get (D := D) (ci := 6) (v := .ref (a 1)) (C := R_Rd) (T := F_Rd) (N := 4) hx hb hg i_Rd hown hK hP 0 rfl rfl 0 (by decide) (hg _ g_256) (fun _ h9 => h9) rfl d_Rd_either_29 ?_
                refine lv_bipush (v := (-2)) hx hb d_Rd_either_32 (by decide) ?_
                obtain ⟨v_18, e_19, hd⟩ := bind_s hd
                refine callVV (ws' := ws_Rd g a (u_Rd_draft v_2.2 v_18)) (rest := []) (As := [.int (-2)]) hx hb hml hown hg hK hP hD hS hA hCs hl.1 (c_La_emit l D g (sh a 1) (-2) (q_Rd_draft v_2.2) _ e_19) o_La_emit g_530 (ci := 4) (q0 := 1) rfl rfl (List.range' 1 5) (segC1 rfl rfl) (by decide) rfl (segP1 rfl rfl) rfl rfl (Nat.le_of_ble_eq_true rfl) ⟨rfl, rfl, by show _ ≤ _; (try dsimp only); omega, by show _ ≤ _; (try dsimp only); omega⟩ d_Rd_either_34 (fun H locs hP hD hS => ?_)
                refine lv_aload_n hx hb d_Rd_either_37 rfl (lv_at hl 0 rfl) ?_
                refine lv_bipush (v := 38) hx hb d_Rd_either_38 (by decide) ?_
                obtain ⟨v_20, e_21, hd⟩ := bind_s hd
                refine callVI (ws' := ws_Rd g a v_20.2) (rest := []) (As := [.int 38]) hx hb hml hown hg hK hP hD hS hA hCs hl.1 (c_Rd_eat l D g a 38 (u_Rd_draft v_2.2 v_18) _ e_21) o_Rd_eat g_510 (ci := 6) (q0 := 0) rfl rfl (List.range' 0 7) (segC1 rfl rfl) (by decide) rfl (segP1 rfl rfl) rfl rfl (Nat.le_of_ble_eq_true rfl) ⟨rfl, rfl, by show _ ≤ _; (try dsimp only); omega, by show _ ≤ _; (try dsimp only); omega⟩ d_Rd_either_40 (fun H locs hP hD hS => ?_)
                refine lv_istore_n (lv' := [(2, .int v_20.1), (0, .ref (a 0)), (1, .int x1_f7), (3, .int x3_7), (4, .int x4_7)]) hx hb d_Rd_either_43 rfl hl (by decide) rfl (fun ls hl => ?_)
                refine lv_iload_n hx hb d_Rd_either_44 rfl (lv_at hl 0 rfl) ?_
                refine lv_if_eq (tgt := 51) hx hb d_Rd_either_45 (by decide) (fun h_22 => ?_) (fun h_22 => ?_)
                · have hd := ite_t hd h_22
                  refine lv_iload_n hx hb d_Rd_either_51 rfl (lv_at hl 3 rfl) ?_
                  refine lv_if_eq (tgt := 64) hx hb d_Rd_either_52 (by decide) (fun h_23 => ?_) (fun h_23 => ?_)
                  · have hd := ite_t hd h_23
                    refine lv_aload_n hx hb d_Rd_either_64 rfl (lv_at hl 1 rfl) ?_
                    refine lv_bipush (v := 124) hx hb d_Rd_either_65 (by decide) ?_
                    obtain ⟨v_24, e_25, hd⟩ := bind_s hd
                    refine callVI (ws' := ws_Rd g a v_24.2) (rest := []) (As := [.int 124]) hx hb hml hown hg hK hP hD hS hA hCs hl.1 (c_Rd_eat l D g a 124 v_20.2 _ e_25) o_Rd_eat g_510 (ci := 6) (q0 := 0) rfl rfl (List.range' 0 7) (segC1 rfl rfl) (by decide) rfl (segP1 rfl rfl) rfl rfl (Nat.le_of_ble_eq_true rfl) ⟨rfl, rfl, by show _ ≤ _; (try dsimp only); omega, by show _ ≤ _; (try dsimp only); omega⟩ d_Rd_either_67 (fun H locs hP hD hS => ?_)
                    refine lv_istore_n (lv' := [(3, .int v_24.1), (2, .int v_20.1), (0, .ref (a 0)), (1, .int x1_f7), (4, .int x4_7)]) hx hb d_Rd_either_70 rfl hl (by decide) rfl (fun ls hl => ?_)
                    refine lv_iload_n hx hb d_Rd_either_71 rfl (lv_at hl 0 rfl) ?_
                    refine lv_if_ne (tgt := 77) hx hb d_Rd_either_72 (by decide) (fun h_26 => ?_) (fun h_26 => ?_)
                    · have hd := ite_f hd h_26
                      refine lv_iinc (v := x4_7 + 1) (lv' := [(4, .int (x4_7 + 1)), (3, .int v_24.1), (2, .int v_20.1), (0, .ref (a 0)), (1, .int x1_f7)]) hx hb d_Rd_either_77 hl (k := 4) rfl (by rfl) (by decide) rfl (fun ls hl => ?_)
                      refine lv_goto (tgt := 7) hx hb d_Rd_either_80 (by decide) ?_
                      exact ih7 v_20.1 v_24.1 (x4_7 + 1) v_24.2 _ _ _ hP hD hS (lv_sub hl [3, 4, 2, 1, 0] rfl) hd
                    · have hd := ite_t hd h_26
                      refine lv_iconst (v := 1) hx hb d_Rd_either_75 (by decide) ?_
                      obtain rfl := Option.some.inj hd
                      exact retZ hx hb hr hlk hK hP hD hS d_Rd_either_76 rfl (by decide +kernel)
                  · have hd := ite_f hd h_23
                    refine lv_aload_n hx hb d_Rd_either_55 rfl (lv_at hl 1 rfl) ?_
                    refine va_get (D := D) (ci := 6) (v := .ref (a 1)) (C := R_Rd) (T := F_Rd) (N := 4) hx hb hg i_Rd hown hK hP 0 rfl rfl 0 (by decide) (hg _ g_256) (fun _ h9 => h9) rfl d_Rd_either_56 ?_
                    refine lv_bipush (v := (-3)) hx hb d_Rd_either_59 (by decide) ?_
                    obtain ⟨v_27, e_28, hd⟩ := bind_s hd
                    refine callVV (ws' := ws_Rd g a (u_Rd_draft v_20.2 v_27)) (rest := []) (As := [.int (-3)]) hx hb hml hown hg hK hP hD hS hA hCs hl.1 (c_La_emit l D g (sh a 1) (-3) (q_Rd_draft v_20.2) _ e_28) o_La_emit g_530 (ci := 4) (q0 := 1) rfl rfl (List.range' 1 5) (segC1 rfl rfl) (by decide) rfl (segP1 rfl rfl) rfl rfl (Nat.le_of_ble_eq_true rfl) ⟨rfl, rfl, by show _ ≤ _; (try dsimp only); omega, by show _ ≤ _; (try dsimp only); omega⟩ d_Rd_either_61 (fun H locs hP hD hS => ?_)
                    refine lv_aload_n hx hb d_Rd_either_64 rfl (lv_at hl 1 rfl) ?_
                    refine lv_bipush (v := 124) hx hb d_Rd_either_65 (by decide) ?_
                    obtain ⟨v_29, e_30, hd⟩ := bind_s hd
                    refine callVI (ws' := ws_Rd g a v_29.2) (rest := []) (As := [.int 124]) hx hb hml hown hg hK hP hD hS hA hCs hl.1 (c_Rd_eat l D g a 124 (u_Rd_draft v_20.2 v_27) _ e_30) o_Rd_eat g_510 (ci := 6) (q0 := 0) rfl rfl (List.range' 0 7) (segC1 rfl rfl) (by decide) rfl (segP1 rfl rfl) rfl rfl (Nat.le_of_ble_eq_true rfl) ⟨rfl, rfl, by show _ ≤ _; (try dsimp only); omega, by show _ ≤ _; (try dsimp only); omega⟩ d_Rd_either_67 (fun H locs hP hD hS => ?_)
                    refine lv_istore_n (lv' := [(3, .int v_29.1), (2, .int v_20.1), (0, .ref (a 0)), (1, .int x1_f7), (4, .int x4_7)]) hx hb d_Rd_either_70 rfl hl (by decide) rfl (fun ls hl => ?_)
                    refine lv_iload_n hx hb d_Rd_either_71 rfl (lv_at hl 0 rfl) ?_
                    refine lv_if_ne (tgt := 77) hx hb d_Rd_either_72 (by decide) (fun h_31 => ?_) (fun h_31 => ?_)
                    · have hd := ite_f hd h_31
                      refine lv_iinc (v := x4_7 + 1) (lv' := [(4, .int (x4_7 + 1)), (3, .int v_29.1), (2, .int v_20.1), (0, .ref (a 0)), (1, .int x1_f7)]) hx hb d_Rd_either_77 hl (k := 4) rfl (by rfl) (by decide) rfl (fun ls hl => ?_)
                      refine lv_goto (tgt := 7) hx hb d_Rd_either_80 (by decide) ?_
                      exact ih7 v_20.1 v_29.1 (x4_7 + 1) v_29.2 _ _ _ hP hD hS (lv_sub hl [3, 4, 2, 1, 0] rfl) hd
                    · have hd := ite_t hd h_31
                      refine lv_iconst (v := 1) hx hb d_Rd_either_75 (by decide) ?_
                      obtain rfl := Option.some.inj hd
                      exact retZ hx hb hr hlk hK hP hD hS d_Rd_either_76 rfl (by decide +kernel)
                · have hd := ite_f hd h_22
                  refine lv_goto (tgt := 77) hx hb d_Rd_either_48 (by decide) ?_
                  refine lv_iinc (v := x4_7 + 1) (lv' := [(4, .int (x4_7 + 1)), (2, .int v_20.1), (0, .ref (a 0)), (1, .int x1_f7), (3, .int x3_7)]) hx hb d_Rd_either_77 hl (k := 4) rfl (by rfl) (by decide) rfl (fun ls hl => ?_)
                  refine lv_goto (tgt := 7) hx hb d_Rd_either_80 (by decide) ?_
                  exact ih7 v_20.1 x3_7 (x4_7 + 1) v_20.2 _ _ _ hP hD hS (lv_sub hl [2, 3, 1, 4, 0] rfl) hd
            · have hd := ite_t hd h_4
              refine lv_iconst (v := 0) hx hb d_Rd_either_22 (by decide) ?_
              obtain rfl := Option.some.inj hd
              exact retZ hx hb hr hlk hK hP hD hS d_Rd_either_23 rfl (by decide +kernel)
      exact lp7 x1 1000 0 0 0 z _ _ _ hP hD hS (lv_sub hl [3, 4, 2, 1, 0] rfl) hd
    · intro l D g a x1 z v h
      have hd : B_Rd_factor (d_G_Rd_either nr) x1 z = some v := h
      have ihc := ih
      generalize hrc : (d_G_Rd_either nr) = rc at hd
      have ih : (∀ (l : Launch) (D : va_G) (g : Nat → ClassId) (a : Nat → Nat) (x1 : Int32) (z : T_Rd) (v : Int32 × T_Rd) (h : rc.1 x1 z = some v), MI l y_Rd_either b_Rd_either 5 .boolean ({ frames := 7 + 2 * nr, cells := 0, slots := 0, locals := 137 + 60 * nr } : Room) D g [.ref (a 0), .int x1] (ws_Rd g a z) (v.1) (ws_Rd g a v.2)) ∧ (∀ (l : Launch) (D : va_G) (g : Nat → ClassId) (a : Nat → Nat) (x1 : Int32) (z : T_Rd) (v : Int32 × T_Rd) (h : rc.2 x1 z = some v), MI l y_Rd_factor b_Rd_factor 3 .boolean ({ frames := 7 + 2 * nr, cells := 0, slots := 0, locals := 137 + 60 * nr } : Room) D g [.ref (a 0), .int x1] (ws_Rd g a z) (v.1) (ws_Rd g a v.2)) := ⟨fun l D g a x1 z v h => ih.1 l D g a x1 z v (by unfold d_Rd_either; rw [hrc]; exact h), fun l D g a x1 z v h => ih.2 l D g a x1 z v (by unfold d_Rd_factor; rw [hrc]; exact h)⟩
      clear ihc hrc
      unfold B_Rd_factor at hd
      refine enterI rfl (Nat.le_of_ble_eq_true rfl) (fun p e s m below meth c A ls hx hb hml hr hown hg hlk hK hA hP hD hS hCs hl => ?_)
      have hown : s.vm.findClass "OwnsLift$Reader" = some m.cls := hown
      have hl : lv_has ls 3 [(0, .ref (a 0)), (1, .int x1)] := hl
      show GI p l e s m ({ frames := 7 + 2 * (nr + 1), cells := 0, slots := 0, locals := 137 + 60 * (nr + 1) } : Room) ([.ref (a 0), .int x1] : List Value).toArray below meth c A D g (ws_Rd g a v.2) (v.1) s.heap [] (F0 m 0 ls [])
      refine lv_iload_n hx hb d_Rd_factor_0 rfl (lv_at hl 1 rfl) ?_
      refine lv_iconst (v := 5) hx hb d_Rd_factor_1 (by decide) ?_
      refine lv_icmp_ge (tgt := 9) hx hb d_Rd_factor_2 (by decide) (fun h_1 => ?_) (fun h_1 => ?_)
      · have hd := ite_t hd h_1
        refine lv_iconst (v := 0) hx hb d_Rd_factor_9 (by decide) ?_
        refine lv_istore_n (lv' := [(2, .int 0), (0, .ref (a 0)), (1, .int x1)]) hx hb d_Rd_factor_10 rfl hl (by decide) rfl (fun ls hl => ?_)
        refine lv_iload_n hx hb d_Rd_factor_11 rfl (lv_at hl 0 rfl) ?_
        refine lv_if_eq (tgt := 46) hx hb d_Rd_factor_12 (by decide) (fun _ => ?_) (fun h9 => absurd (by decide) h9)
        refine lv_iload_n hx hb d_Rd_factor_46 rfl (lv_at hl 0 rfl) ?_
        refine lv_if_eq (tgt := 84) hx hb d_Rd_factor_47 (by decide) (fun _ => ?_) (fun h9 => absurd (by decide) h9)
        refine lv_aload_n hx hb d_Rd_factor_84 rfl (lv_at hl 1 rfl) ?_
        obtain ⟨v_2, e_3, hd⟩ := bind_s hd
        refine callVI (ws' := ws_Rd g a v_2.2) (rest := []) (As := []) hx hb hml hown hg hK hP hD hS hA hCs hl.1 (c_Rd_test l D g a z _ e_3) o_Rd_test g_534 (ci := 6) (q0 := 0) rfl rfl (List.range' 0 7) (segC1 rfl rfl) (by decide) rfl (segP1 rfl rfl) rfl rfl (Nat.le_of_ble_eq_true rfl) ⟨rfl, rfl, by show _ ≤ _; (try dsimp only); omega, by show _ ≤ _; (try dsimp only); omega⟩ d_Rd_factor_85 (fun H locs hP hD hS => ?_)
        obtain rfl := Option.some.inj hd
        exact retZ hx hb hr hlk hK hP hD hS d_Rd_factor_88 rfl (nz_Rd_test e_3)
      · have hd := ite_f hd h_1
        refine lv_iconst (v := 1) hx hb d_Rd_factor_5 (by decide) ?_
        refine lv_goto (tgt := 10) hx hb d_Rd_factor_6 (by decide) ?_
        refine lv_istore_n (lv' := [(2, .int 1), (0, .ref (a 0)), (1, .int x1)]) hx hb d_Rd_factor_10 rfl hl (by decide) rfl (fun ls hl => ?_)
        refine lv_iload_n hx hb d_Rd_factor_11 rfl (lv_at hl 0 rfl) ?_
        refine lv_if_eq (tgt := 46) hx hb d_Rd_factor_12 (by decide) (fun h9 => absurd h9 (by decide)) (fun _ => ?_)
        refine lv_aload_n hx hb d_Rd_factor_15 rfl (lv_at hl 1 rfl) ?_
        refine lv_bipush (v := 33) hx hb d_Rd_factor_16 (by decide) ?_
        obtain ⟨v_4, e_5, hd⟩ := bind_s hd
        refine callVI (ws' := ws_Rd g a v_4.2) (rest := []) (As := [.int 33]) hx hb hml hown hg hK hP hD hS hA hCs hl.1 (c_Rd_eat l D g a 33 z _ e_5) o_Rd_eat g_510 (ci := 6) (q0 := 0) rfl rfl (List.range' 0 7) (segC1 rfl rfl) (by decide) rfl (segP1 rfl rfl) rfl rfl (Nat.le_of_ble_eq_true rfl) ⟨rfl, rfl, by show _ ≤ _; (try dsimp only); omega, by show _ ≤ _; (try dsimp only); omega⟩ d_Rd_factor_18 (fun H locs hP hD hS => ?_)
        refine lv_if_eq (tgt := 46) hx hb d_Rd_factor_21 (by decide) (fun h_6 => ?_) (fun h_6 => ?_)
        · have hd := ite_t hd h_6
          refine lv_iload_n hx hb d_Rd_factor_46 rfl (lv_at hl 0 rfl) ?_
          refine lv_if_eq (tgt := 84) hx hb d_Rd_factor_47 (by decide) (fun h9 => absurd h9 (by decide)) (fun _ => ?_)
          refine lv_aload_n hx hb d_Rd_factor_50 rfl (lv_at hl 1 rfl) ?_
          refine lv_bipush (v := 40) hx hb d_Rd_factor_51 (by decide) ?_
          obtain ⟨v_7, e_8, hd⟩ := bind_s hd
          refine callVI (ws' := ws_Rd g a v_7.2) (rest := []) (As := [.int 40]) hx hb hml hown hg hK hP hD hS hA hCs hl.1 (c_Rd_eat l D g a 40 v_4.2 _ e_8) o_Rd_eat g_510 (ci := 6) (q0 := 0) rfl rfl (List.range' 0 7) (segC1 rfl rfl) (by decide) rfl (segP1 rfl rfl) rfl rfl (Nat.le_of_ble_eq_true rfl) ⟨rfl, rfl, by show _ ≤ _; (try dsimp only); omega, by show _ ≤ _; (try dsimp only); omega⟩ d_Rd_factor_53 (fun H locs hP hD hS => ?_)
          refine lv_if_eq (tgt := 84) hx hb d_Rd_factor_56 (by decide) (fun h_9 => ?_) (fun h_9 => ?_)
          · have hd := ite_t hd h_9
            refine lv_aload_n hx hb d_Rd_factor_84 rfl (lv_at hl 1 rfl) ?_
            obtain ⟨v_10, e_11, hd⟩ := bind_s hd
            refine callVI (ws' := ws_Rd g a v_10.2) (rest := []) (As := []) hx hb hml hown hg hK hP hD hS hA hCs hl.1 (c_Rd_test l D g a v_7.2 _ e_11) o_Rd_test g_534 (ci := 6) (q0 := 0) rfl rfl (List.range' 0 7) (segC1 rfl rfl) (by decide) rfl (segP1 rfl rfl) rfl rfl (Nat.le_of_ble_eq_true rfl) ⟨rfl, rfl, by show _ ≤ _; (try dsimp only); omega, by show _ ≤ _; (try dsimp only); omega⟩ d_Rd_factor_85 (fun H locs hP hD hS => ?_)
            obtain rfl := Option.some.inj hd
            exact retZ hx hb hr hlk hK hP hD hS d_Rd_factor_88 rfl (nz_Rd_test e_11)
          · have hd := ite_f hd h_9
            refine lv_aload_n hx hb d_Rd_factor_59 rfl (lv_at hl 1 rfl) ?_
            refine lv_iload_n hx hb d_Rd_factor_60 rfl (lv_at hl 2 rfl) ?_
            refine lv_iconst (v := 1) hx hb d_Rd_factor_61 (by decide) ?_
            refine lv_iadd hx hb d_Rd_factor_62 ?_
            obtain ⟨v_12, e_13, hd⟩ := bind_s hd
            refine callVI (ws' := ws_Rd g a v_12.2) (rest := []) (As := [.int (x1 + 1)]) hx hb hml hown hg hK hP hD hS hA hCs hl.1 (ih.1 l D g a (x1 + 1) v_7.2 _ e_13) o_Rd_either g_522 (ci := 6) (q0 := 0) rfl rfl (List.range' 0 7) (segC1 rfl rfl) (by decide) rfl (segP1 rfl rfl) rfl rfl (Nat.le_of_ble_eq_true rfl) ⟨rfl, rfl, by show _ ≤ _; (try dsimp only); omega, by show _ ≤ _; (try dsimp only); omega⟩ d_Rd_factor_63 (fun H locs hP hD hS => ?_)
            refine lv_if_eq (tgt := 82) hx hb d_Rd_factor_66 (by decide) (fun h_14 => ?_) (fun h_14 => ?_)
            · have hd := ite_t hd h_14
              refine lv_iconst (v := 0) hx hb d_Rd_factor_82 (by decide) ?_
              obtain rfl := Option.some.inj hd
              exact retZ hx hb hr hlk hK hP hD hS d_Rd_factor_83 rfl (by decide +kernel)
            · have hd := ite_f hd h_14
              refine lv_aload_n hx hb d_Rd_factor_69 rfl (lv_at hl 1 rfl) ?_
              refine lv_bipush (v := 41) hx hb d_Rd_factor_70 (by decide) ?_
              obtain ⟨v_15, e_16, hd⟩ := bind_s hd
              refine callVI (ws' := ws_Rd g a v_15.2) (rest := []) (As := [.int 41]) hx hb hml hown hg hK hP hD hS hA hCs hl.1 (c_Rd_eat l D g a 41 v_12.2 _ e_16) o_Rd_eat g_510 (ci := 6) (q0 := 0) rfl rfl (List.range' 0 7) (segC1 rfl rfl) (by decide) rfl (segP1 rfl rfl) rfl rfl (Nat.le_of_ble_eq_true rfl) ⟨rfl, rfl, by show _ ≤ _; (try dsimp only); omega, by show _ ≤ _; (try dsimp only); omega⟩ d_Rd_factor_72 (fun H locs hP hD hS => ?_)
              refine lv_if_eq (tgt := 82) hx hb d_Rd_factor_75 (by decide) (fun h_17 => ?_) (fun h_17 => ?_)
              · have hd := ite_t hd h_17
                refine lv_iconst (v := 0) hx hb d_Rd_factor_82 (by decide) ?_
                obtain rfl := Option.some.inj hd
                exact retZ hx hb hr hlk hK hP hD hS d_Rd_factor_83 rfl (by decide +kernel)
              · have hd := ite_f hd h_17
                refine lv_iconst (v := 1) hx hb d_Rd_factor_78 (by decide) ?_
                refine lv_goto (tgt := 83) hx hb d_Rd_factor_79 (by decide) ?_
                obtain rfl := Option.some.inj hd
                exact retZ hx hb hr hlk hK hP hD hS d_Rd_factor_83 rfl (by decide +kernel)
        · have hd := ite_f hd h_6
          refine lv_aload_n hx hb d_Rd_factor_24 rfl (lv_at hl 1 rfl) ?_
          refine lv_iload_n hx hb d_Rd_factor_25 rfl (lv_at hl 2 rfl) ?_
          refine lv_iconst (v := 1) hx hb d_Rd_factor_26 (by decide) ?_
          refine lv_iadd hx hb d_Rd_factor_27 ?_
          obtain ⟨v_18, e_19, hd⟩ := bind_s hd
          refine callVI (ws' := ws_Rd g a v_18.2) (rest := []) (As := [.int (x1 + 1)]) hx hb hml hown hg hK hP hD hS hA hCs hl.1 (ih.2 l D g a (x1 + 1) v_4.2 _ e_19) o_Rd_factor g_526 (ci := 6) (q0 := 0) rfl rfl (List.range' 0 7) (segC1 rfl rfl) (by decide) rfl (segP1 rfl rfl) rfl rfl (Nat.le_of_ble_eq_true rfl) ⟨rfl, rfl, by show _ ≤ _; (try dsimp only); omega, by show _ ≤ _; (try dsimp only); omega⟩ d_Rd_factor_28 (fun H locs hP hD hS => ?_)
          refine lv_if_ne (tgt := 36) hx hb d_Rd_factor_31 (by decide) (fun h_20 => ?_) (fun h_20 => ?_)
          · have hd := ite_f hd h_20
            refine lv_aload_n hx hb d_Rd_factor_36 rfl (lv_at hl 1 rfl) ?_
            refine va_get (D := D) (ci := 6) (v := .ref (a 1)) (C := R_Rd) (T := F_Rd) (N := 4) hx hb hg i_Rd hown hK hP 0 rfl rfl 0 (by decide) (hg _ g_256) (fun _ h9 => h9) rfl d_Rd_factor_37 ?_
            refine lv_iconst (v := (-1)) hx hb d_Rd_factor_40 (by decide) ?_
            obtain ⟨v_21, e_22, hd⟩ := bind_s hd
            refine callVV (ws' := ws_Rd g a (u_Rd_draft v_18.2 v_21)) (rest := []) (As := [.int (-1)]) hx hb hml hown hg hK hP hD hS hA hCs hl.1 (c_La_emit l D g (sh a 1) (-1) (q_Rd_draft v_18.2) _ e_22) o_La_emit g_530 (ci := 4) (q0 := 1) rfl rfl (List.range' 1 5) (segC1 rfl rfl) (by decide) rfl (segP1 rfl rfl) rfl rfl (Nat.le_of_ble_eq_true rfl) ⟨rfl, rfl, by show _ ≤ _; (try dsimp only); omega, by show _ ≤ _; (try dsimp only); omega⟩ d_Rd_factor_41 (fun H locs hP hD hS => ?_)
            refine lv_iconst (v := 1) hx hb d_Rd_factor_44 (by decide) ?_
            obtain rfl := Option.some.inj hd
            exact retZ hx hb hr hlk hK hP hD hS d_Rd_factor_45 rfl (by decide +kernel)
          · have hd := ite_t hd h_20
            refine lv_iconst (v := 0) hx hb d_Rd_factor_34 (by decide) ?_
            obtain rfl := Option.some.inj hd
            exact retZ hx hb hr hlk hK hP hD hS d_Rd_factor_35 rfl (by decide +kernel)
theorem c_Rd_either (n : Nat) (l : Launch) (D : va_G) (g : Nat → ClassId) (a : Nat → Nat) (x1 : Int32) (z : T_Rd) (v : Int32 × T_Rd) (h : d_Rd_either n x1 z = some v) :
    MI l y_Rd_either b_Rd_either 5 .boolean ({ frames := 7 + 2 * n, cells := 0, slots := 0, locals := 137 + 60 * n } : Room) D g [.ref (a 0), .int x1] (ws_Rd g a z) (v.1) (ws_Rd g a v.2) := (cg_Rd_either n).1 l D g a x1 z v h
theorem c_Rd_factor (n : Nat) (l : Launch) (D : va_G) (g : Nat → ClassId) (a : Nat → Nat) (x1 : Int32) (z : T_Rd) (v : Int32 × T_Rd) (h : d_Rd_factor n x1 z = some v) :
    MI l y_Rd_factor b_Rd_factor 3 .boolean ({ frames := 7 + 2 * n, cells := 0, slots := 0, locals := 137 + 60 * n } : Room) D g [.ref (a 0), .int x1] (ws_Rd g a z) (v.1) (ws_Rd g a v.2) := (cg_Rd_either n).2 l D g a x1 z v h
-- OwnsLift$Reader.alike(Ljava/lang/String;)I
def B_Rd_alike_L2 (t1 : Nat) (z : T_Rd) (self2 : Int32 → Option (Int32)) (x2_2 : Int32) : Option (Int32) :=
  (d_JS_length t1).bind fun v_1 => if v_1 ≤ x2_2 then (some (x2_2)) else (if (q_Rd_size z) ≤ ((q_Rd_place z) + x2_2) then (some (x2_2)) else (if inb ((q_Rd_place z) + x2_2) 100 = true then ((d_JS_charAt t1 x2_2).bind fun v_5 => if ((q_Rd_text z) ((q_Rd_place z) + x2_2).toNatClampNeg) = v_5 then (self2 (x2_2 + 1)) else (some (x2_2))) else none))
def d_Rd_alike_L2 (t1 : Nat) (z : T_Rd) (n : Nat) : Int32 → Option (Int32) := recN (fun _ => none) (fun self => B_Rd_alike_L2 t1 z self) n
def d_Rd_alike (t1 : Nat) (z : T_Rd) : Option (Int32) :=
  d_Rd_alike_L2 t1 z  1000 0
theorem d_Rd_alike_0 : decode b_Rd_alike 0 = .ok (.iconst 0, 1) := by decide +kernel
theorem d_Rd_alike_1 : decode b_Rd_alike 1 = .ok (.istore_n 2, 1) := by decide +kernel
theorem d_Rd_alike_2 : decode b_Rd_alike 2 = .ok (.iload_n 2, 1) := by decide +kernel
theorem d_Rd_alike_3 : decode b_Rd_alike 3 = .ok (.aload_n 1, 1) := by decide +kernel
theorem d_Rd_alike_4 : decode b_Rd_alike 4 = .ok (.invokevirtual 69, 3) := by decide +kernel
theorem d_Rd_alike_7 : decode b_Rd_alike 7 = .ok (.if_icmp .ge 41, 3) := by decide +kernel
theorem d_Rd_alike_10 : decode b_Rd_alike 10 = .ok (.aload_n 0, 1) := by decide +kernel
theorem d_Rd_alike_11 : decode b_Rd_alike 11 = .ok (.getfield 32, 3) := by decide +kernel
theorem d_Rd_alike_14 : decode b_Rd_alike 14 = .ok (.iload_n 2, 1) := by decide +kernel
theorem d_Rd_alike_15 : decode b_Rd_alike 15 = .ok (.iadd, 1) := by decide +kernel
theorem d_Rd_alike_16 : decode b_Rd_alike 16 = .ok (.aload_n 0, 1) := by decide +kernel
theorem d_Rd_alike_17 : decode b_Rd_alike 17 = .ok (.getfield 28, 3) := by decide +kernel
theorem d_Rd_alike_20 : decode b_Rd_alike 20 = .ok (.if_icmp .ge 28, 3) := by decide +kernel
theorem d_Rd_alike_23 : decode b_Rd_alike 23 = .ok (.aload_n 0, 1) := by decide +kernel
theorem d_Rd_alike_24 : decode b_Rd_alike 24 = .ok (.getfield 18, 3) := by decide +kernel
theorem d_Rd_alike_27 : decode b_Rd_alike 27 = .ok (.aload_n 0, 1) := by decide +kernel
theorem d_Rd_alike_28 : decode b_Rd_alike 28 = .ok (.getfield 32, 3) := by decide +kernel
theorem d_Rd_alike_31 : decode b_Rd_alike 31 = .ok (.iload_n 2, 1) := by decide +kernel
theorem d_Rd_alike_32 : decode b_Rd_alike 32 = .ok (.iadd, 1) := by decide +kernel
theorem d_Rd_alike_33 : decode b_Rd_alike 33 = .ok (.iaload, 1) := by decide +kernel
theorem d_Rd_alike_34 : decode b_Rd_alike 34 = .ok (.aload_n 1, 1) := by decide +kernel
theorem d_Rd_alike_35 : decode b_Rd_alike 35 = .ok (.iload_n 2, 1) := by decide +kernel
theorem d_Rd_alike_36 : decode b_Rd_alike 36 = .ok (.invokevirtual 88, 3) := by decide +kernel
theorem d_Rd_alike_39 : decode b_Rd_alike 39 = .ok (.if_icmp .ne 9, 3) := by decide +kernel
theorem d_Rd_alike_42 : decode b_Rd_alike 42 = .ok (.iinc 2 1, 3) := by decide +kernel
theorem d_Rd_alike_45 : decode b_Rd_alike 45 = .ok (.goto (-43), 3) := by decide +kernel
theorem d_Rd_alike_48 : decode b_Rd_alike 48 = .ok (.iload_n 2, 1) := by decide +kernel
theorem d_Rd_alike_49 : decode b_Rd_alike 49 = .ok (.ireturn, 1) := by decide +kernel
theorem o_Rd_alike : OkV y_Rd_alike "OwnsLift$Reader" b_Rd_alike 3 (some .int) 1 := ⟨⟨rfl, by decide +kernel, by decide +kernel, by decide +kernel⟩, g_457, g_2, g_76, g_458⟩
set_option maxHeartbeats 4000000 in
set_option maxRecDepth 100000 in
theorem c_Rd_alike (l : Launch) (D : va_G) (g : Nat → ClassId) (a : Nat → Nat) (t1 : Nat) (z : T_Rd) (v : Int32) (h : d_Rd_alike t1 z = some v) :
    MI l y_Rd_alike b_Rd_alike 3 .int ({ frames := 4, cells := 0, slots := 0, locals := 85 } : Room) D g [.ref (a 0), .ref (g (10 + t1))] (ws_Rd g a z) (v) (ws_Rd g a z) := by
  have hd := h
  unfold d_Rd_alike at hd
  refine enterI rfl (Nat.le_of_ble_eq_true rfl) (fun p e s m below meth c A ls hx hb hml hr hown hg hlk hK hA hP hD hS hCs hl => ?_)
  have hown : s.vm.findClass "OwnsLift$Reader" = some m.cls := hown
  have hl : lv_has ls 3 [(0, .ref (a 0)), (1, .ref (g (10 + t1)))] := hl
  show GI p l e s m ({ frames := 4, cells := 0, slots := 0, locals := 85 } : Room) ([.ref (a 0), .ref (g (10 + t1))] : List Value).toArray below meth c A D g (ws_Rd g a z) (v) s.heap [] (F0 m 0 ls [])
  refine lv_iconst (v := 0) hx hb d_Rd_alike_0 (by decide) ?_
  refine lv_istore_n (lv' := [(2, .int 0), (0, .ref (a 0)), (1, .ref (g (10 + t1)))]) hx hb d_Rd_alike_1 rfl hl (by decide) rfl (fun ls hl => ?_)
  have lp2 : ∀ (n : Nat) (x2_2 : Int32) (H : Heap) (locs : List Loc) (ls : Array Slot), va_P D classes (ws_Rd g a z) H → va_D A (ws_Rd g a z) → va_S A s.heap H locs → lv_has ls 3 [(0, .ref (a 0)), (1, .ref (g (10 + t1))), (2, .int x2_2)] → d_Rd_alike_L2 t1 z n x2_2 = some v → GI p l e s m ({ frames := 4, cells := 0, slots := 0, locals := 85 } : Room) ([.ref (a 0), .ref (g (10 + t1))] : List Value).toArray below meth c A D g (ws_Rd g a z) (v) H locs (F0 m 2 ls []) := by
    intro n
    induction n with
    | zero =>
      intro  x2_2 H locs ls hP hD hS hl hd
      have hd : none = some v := hd
      cases hd
    | succ n ih2 =>
      intro  x2_2 H locs ls hP hD hS hl hd
      have hd : B_Rd_alike_L2 t1 z (d_Rd_alike_L2 t1 z n) x2_2 = some v := hd
      generalize d_Rd_alike_L2 t1 z n = self2 at ih2 hd
      unfold B_Rd_alike_L2 at hd
      refine lv_iload_n hx hb d_Rd_alike_2 rfl (lv_at hl 2 rfl) ?_
      refine lv_aload_n hx hb d_Rd_alike_3 rfl (lv_at hl 1 rfl) ?_
      obtain ⟨v_1, e_2, hd⟩ := bind_s hd
      refine callTI (ws' := ws_Rd g a z) (rest := [.int x2_2]) (As := []) hx hb hml hown hg hK hP hD hS hA hCs hl.1 (c_JS_length l D g  t1 _ e_2) o_JS_length g_459 (vk_recv (i := t1) hCs.1.1 (lt_JS_length e_2) hS) [] segC0 rfl rfl segP0 rfl rfl (Nat.le_of_ble_eq_true rfl) ⟨rfl, rfl, Nat.le_of_ble_eq_true rfl, Nat.le_of_ble_eq_true rfl⟩ d_Rd_alike_4 (fun H locs hP hD hS => ?_)
      refine lv_icmp_ge (tgt := 48) hx hb d_Rd_alike_7 (by decide) (fun h_3 => ?_) (fun h_3 => ?_)
      · have hd := ite_t hd h_3
        refine lv_iload_n hx hb d_Rd_alike_48 rfl (lv_at hl 2 rfl) ?_
        obtain rfl := Option.some.inj hd
        exact retI hx hb hr hlk hK hP hD hS d_Rd_alike_49 rfl
      · have hd := ite_f hd h_3
        refine lv_aload_n hx hb d_Rd_alike_10 rfl (lv_at hl 0 rfl) ?_
        refine va_get (D := D) (ci := 6) (v := .int (q_Rd_place z)) (C := R_Rd) (T := F_Rd) (N := 4) hx hb hg i_Rd hown hK hP 0 rfl rfl 1 (by decide) (hg _ g_258) (fun _ h9 => h9) rfl d_Rd_alike_11 ?_
        refine lv_iload_n hx hb d_Rd_alike_14 rfl (lv_at hl 2 rfl) ?_
        refine lv_iadd hx hb d_Rd_alike_15 ?_
        refine lv_aload_n hx hb d_Rd_alike_16 rfl (lv_at hl 0 rfl) ?_
        refine va_get (D := D) (ci := 6) (v := .int (q_Rd_size z)) (C := R_Rd) (T := F_Rd) (N := 4) hx hb hg i_Rd hown hK hP 0 rfl rfl 3 (by decide) (hg _ g_261) (fun _ h9 => h9) rfl d_Rd_alike_17 ?_
        refine lv_icmp_ge (tgt := 48) hx hb d_Rd_alike_20 (by decide) (fun h_4 => ?_) (fun h_4 => ?_)
        · have hd := ite_t hd h_4
          refine lv_iload_n hx hb d_Rd_alike_48 rfl (lv_at hl 2 rfl) ?_
          obtain rfl := Option.some.inj hd
          exact retI hx hb hr hlk hK hP hD hS d_Rd_alike_49 rfl
        · have hd := ite_f hd h_4
          refine lv_aload_n hx hb d_Rd_alike_23 rfl (lv_at hl 0 rfl) ?_
          refine va_get (D := D) (ci := 6) (v := .ref (a 6)) (C := R_Rd) (T := F_Rd) (N := 4) hx hb hg i_Rd hown hK hP 0 rfl rfl 2 (by decide) (hg _ g_260) (fun _ h9 => h9) rfl d_Rd_alike_24 ?_
          refine lv_aload_n hx hb d_Rd_alike_27 rfl (lv_at hl 0 rfl) ?_
          refine va_get (D := D) (ci := 6) (v := .int (q_Rd_place z)) (C := R_Rd) (T := F_Rd) (N := 4) hx hb hg i_Rd hown hK hP 0 rfl rfl 1 (by decide) (hg _ g_258) (fun _ h9 => h9) rfl d_Rd_alike_28 ?_
          refine lv_iload_n hx hb d_Rd_alike_31 rfl (lv_at hl 2 rfl) ?_
          refine lv_iadd hx hb d_Rd_alike_32 ?_
          obtain ⟨h_8, hd⟩ := ite_s hd
          refine ialdK hx hb hK hP 6 0 rfl rfl (inb_t h_8) rfl d_Rd_alike_33 ?_
          refine lv_aload_n hx hb d_Rd_alike_34 rfl (lv_at hl 1 rfl) ?_
          refine lv_iload_n hx hb d_Rd_alike_35 rfl (lv_at hl 2 rfl) ?_
          obtain ⟨v_5, e_6, hd⟩ := bind_s hd
          refine callTI (ws' := ws_Rd g a z) (rest := [.int ((q_Rd_text z) ((q_Rd_place z) + x2_2).toNatClampNeg)]) (As := [.int x2_2]) hx hb hml hown hg hK hP hD hS hA hCs hl.1 (c_JS_charAt l D g  t1 x2_2 _ e_6) o_JS_charAt g_469 (vk_recv (i := t1) hCs.1.1 (lt_JS_charAt e_6) hS) [] segC0 rfl rfl segP0 rfl rfl (Nat.le_of_ble_eq_true rfl) ⟨rfl, rfl, Nat.le_of_ble_eq_true rfl, Nat.le_of_ble_eq_true rfl⟩ d_Rd_alike_36 (fun H locs hP hD hS => ?_)
          refine lv_icmp_ne (tgt := 48) hx hb d_Rd_alike_39 (by decide) (fun h_7 => ?_) (fun h_7 => ?_)
          · have hd := ite_f hd h_7
            refine lv_iload_n hx hb d_Rd_alike_48 rfl (lv_at hl 2 rfl) ?_
            obtain rfl := Option.some.inj hd
            exact retI hx hb hr hlk hK hP hD hS d_Rd_alike_49 rfl
          · have hd := ite_t hd h_7
            refine lv_iinc (v := x2_2 + 1) (lv' := [(2, .int (x2_2 + 1)), (0, .ref (a 0)), (1, .ref (g (10 + t1)))]) hx hb d_Rd_alike_42 hl (k := 2) rfl (by rfl) (by decide) rfl (fun ls hl => ?_)
            refine lv_goto (tgt := 2) hx hb d_Rd_alike_45 (by decide) ?_
            exact ih2 (x2_2 + 1) _ _ _ hP hD hS (lv_sub hl [1, 2, 0] rfl) hd
  exact lp2 1000 0 _ _ _ hP hD hS (lv_sub hl [1, 2, 0] rfl) hd
-- OwnsLift$Reader.spelling(I)Ljava/lang/String;
def d_Rd_spelling (x0 : Int32) : Option (Nat) :=
  if x0 = 0 then (some (0)) else (if x0 = 1 then (some (1)) else (if x0 = 2 then (some (2)) else (some (3))))
theorem d_Rd_spelling_0 : decode b_Rd_spelling 0 = .ok (.iload_n 0, 1) := by decide +kernel
theorem d_Rd_spelling_1 : decode b_Rd_spelling 1 = .ok (.tableswitch 36 0 2 #[27, 30, 33], 27) := by decide +kernel
theorem d_Rd_spelling_28 : decode b_Rd_spelling 28 = .ok (.ldc 80, 2) := by decide +kernel
theorem d_Rd_spelling_30 : decode b_Rd_spelling 30 = .ok (.areturn, 1) := by decide +kernel
theorem d_Rd_spelling_31 : decode b_Rd_spelling 31 = .ok (.ldc 82, 2) := by decide +kernel
theorem d_Rd_spelling_33 : decode b_Rd_spelling 33 = .ok (.areturn, 1) := by decide +kernel
theorem d_Rd_spelling_34 : decode b_Rd_spelling 34 = .ok (.ldc 84, 2) := by decide +kernel
theorem d_Rd_spelling_36 : decode b_Rd_spelling 36 = .ok (.areturn, 1) := by decide +kernel
theorem d_Rd_spelling_37 : decode b_Rd_spelling 37 = .ok (.ldc 86, 2) := by decide +kernel
theorem d_Rd_spelling_39 : decode b_Rd_spelling 39 = .ok (.areturn, 1) := by decide +kernel
theorem o_Rd_spelling : OkS y_Rd_spelling b_Rd_spelling 1 (some (.object "java/lang/String")) 1 := ⟨⟨by decide +kernel, by decide +kernel, by decide +kernel⟩, g_449, g_76, g_450⟩
set_option maxHeartbeats 4000000 in
set_option maxRecDepth 100000 in
theorem c_Rd_spelling (l : Launch) (D : va_G) (g : Nat → ClassId) (x0 : Int32) (v : Nat) (h : d_Rd_spelling x0 = some v) :
    MS l y_Rd_spelling b_Rd_spelling 1 ({ frames := 0, cells := 0, slots := 0, locals := 0 } : Room) D g [.int x0] (([] : va_W)) (v) (([] : va_W)) := by
  have hd := h
  unfold d_Rd_spelling at hd
  refine enterS rfl (Nat.le_of_ble_eq_true rfl) (fun p e s m below meth c A ls hx hb hml hr hown hg hlk hK hA hP hD hS hCs hl => ?_)
  have hown : s.vm.findClass "OwnsLift$Reader" = some m.cls := hown
  have hl : lv_has ls 1 [(0, .int x0)] := hl
  show GS p l e s m ({ frames := 0, cells := 0, slots := 0, locals := 0 } : Room) ([.int x0] : List Value).toArray below meth c A D g (([] : va_W)) (v) s.heap [] (F0 m 0 ls [])
  refine lv_iload_n hx hb d_Rd_spelling_0 rfl (lv_at hl 0 rfl) ?_
  by_cases h_1 : x0 = 0
  · have hd := ite_t hd h_1
    refine lv_tableIn (tgt := 28) hx hb d_Rd_spelling_1 (by rw [h_1]; decide) (by rw [h_1]; decide) (off := 27) (by rw [h_1]; decide) (by decide) ?_
    refine va_ldcS (tx := "like") (q := g (10 + 0)) hx hb hown (hCs.2.2.2.2 ("OwnsLift$Reader", 80, "like", 0) (by decide)) d_Rd_spelling_28 ?_
    obtain rfl := Option.some.inj hd
    exact retS hx hb hr hlk hK hP hD hS d_Rd_spelling_30 rfl
  have hd := ite_f hd h_1
  by_cases h_2 : x0 = 1
  · have hd := ite_t hd h_2
    refine lv_tableIn (tgt := 31) hx hb d_Rd_spelling_1 (by rw [h_2]; decide) (by rw [h_2]; decide) (off := 30) (by rw [h_2]; decide) (by decide) ?_
    refine va_ldcS (tx := "lift") (q := g (10 + 1)) hx hb hown (hCs.2.2.2.2 ("OwnsLift$Reader", 82, "lift", 1) (by decide)) d_Rd_spelling_31 ?_
    obtain rfl := Option.some.inj hd
    exact retS hx hb hr hlk hK hP hD hS d_Rd_spelling_33 rfl
  have hd := ite_f hd h_2
  by_cases h_3 : x0 = 2
  · have hd := ite_t hd h_3
    refine lv_tableIn (tgt := 34) hx hb d_Rd_spelling_1 (by rw [h_3]; decide) (by rw [h_3]; decide) (off := 33) (by rw [h_3]; decide) (by decide) ?_
    refine va_ldcS (tx := "wear") (q := g (10 + 2)) hx hb hown (hCs.2.2.2.2 ("OwnsLift$Reader", 84, "wear", 2) (by decide)) d_Rd_spelling_34 ?_
    obtain rfl := Option.some.inj hd
    exact retS hx hb hr hlk hK hP hD hS d_Rd_spelling_36 rfl
  have hd := ite_f hd h_3
  have ho_4 : (x0).toInt < 0 ∨ 2 < (x0).toInt := by
    refine tab_out 0 2 ?_
    intro k h1 h2 q
    have hk : k = 0 ∨ k = 1 ∨ k = 2 := by omega
    rcases hk with rfl | rfl | rfl
    · exact h_1 (Int32.toInt_inj.mp (q.trans (by decide)))
    · exact h_2 (Int32.toInt_inj.mp (q.trans (by decide)))
    · exact h_3 (Int32.toInt_inj.mp (q.trans (by decide)))
  refine lv_tableOut (tgt := 37) hx hb d_Rd_spelling_1 ho_4 (by decide) ?_
  refine va_ldcS (tx := "ill") (q := g (10 + 3)) hx hb hown (hCs.2.2.2.2 ("OwnsLift$Reader", 86, "ill", 3) (by decide)) d_Rd_spelling_37 ?_
  obtain rfl := Option.some.inj hd
  exact retS hx hb hr hlk hK hP hD hS d_Rd_spelling_39 rfl
-- OwnsLift$Reader.word()I
def B_Rd_word_L4 (z_f4 : T_Rd) (self4 : Int32 → Int32 → Option (Int32 × T_Rd)) (x1_4 : Int32) (x2_4 : Int32) : Option (Int32 × T_Rd) :=
  if 4 ≤ x2_4 then (some ((-1), (u_Rd_place z_f4 ((q_Rd_place z_f4) + x1_4)))) else ((d_Rd_spelling x2_4).bind fun v_2 => (d_Rd_alike v_2 z_f4).bind fun v_4 => (d_JS_length v_2).bind fun v_6 => if v_4 = v_6 then (some (x2_4, (u_Rd_place z_f4 ((q_Rd_place z_f4) + v_4)))) else (self4 (if x1_4 < v_4 then v_4 else x1_4) (x2_4 + 1)))
def d_Rd_word_L4 (z_f4 : T_Rd) (n : Nat) : Int32 → Int32 → Option (Int32 × T_Rd) := recN (fun _ _ => none) (fun self => B_Rd_word_L4 z_f4 self) n
def d_Rd_word (z : T_Rd) : Option (Int32 × T_Rd) :=
  d_Rd_word_L4 z  1000 0 0
theorem d_Rd_word_0 : decode b_Rd_word 0 = .ok (.iconst 0, 1) := by decide +kernel
theorem d_Rd_word_1 : decode b_Rd_word 1 = .ok (.istore_n 1, 1) := by decide +kernel
theorem d_Rd_word_2 : decode b_Rd_word 2 = .ok (.iconst 0, 1) := by decide +kernel
theorem d_Rd_word_3 : decode b_Rd_word 3 = .ok (.istore_n 2, 1) := by decide +kernel
theorem d_Rd_word_4 : decode b_Rd_word 4 = .ok (.iload_n 2, 1) := by decide +kernel
theorem d_Rd_word_5 : decode b_Rd_word 5 = .ok (.iconst 4, 1) := by decide +kernel
theorem d_Rd_word_6 : decode b_Rd_word 6 = .ok (.if_icmp .ge 50, 3) := by decide +kernel
theorem d_Rd_word_9 : decode b_Rd_word 9 = .ok (.iload_n 2, 1) := by decide +kernel
theorem d_Rd_word_10 : decode b_Rd_word 10 = .ok (.invokestatic 61, 3) := by decide +kernel
theorem d_Rd_word_13 : decode b_Rd_word 13 = .ok (.astore_n 3, 1) := by decide +kernel
theorem d_Rd_word_14 : decode b_Rd_word 14 = .ok (.aload_n 0, 1) := by decide +kernel
theorem d_Rd_word_15 : decode b_Rd_word 15 = .ok (.aload_n 3, 1) := by decide +kernel
theorem d_Rd_word_16 : decode b_Rd_word 16 = .ok (.invokevirtual 65, 3) := by decide +kernel
theorem d_Rd_word_19 : decode b_Rd_word 19 = .ok (.istore 4, 2) := by decide +kernel
theorem d_Rd_word_21 : decode b_Rd_word 21 = .ok (.iload 4, 2) := by decide +kernel
theorem d_Rd_word_23 : decode b_Rd_word 23 = .ok (.aload_n 3, 1) := by decide +kernel
theorem d_Rd_word_24 : decode b_Rd_word 24 = .ok (.invokevirtual 69, 3) := by decide +kernel
theorem d_Rd_word_27 : decode b_Rd_word 27 = .ok (.if_icmp .ne 16, 3) := by decide +kernel
theorem d_Rd_word_30 : decode b_Rd_word 30 = .ok (.aload_n 0, 1) := by decide +kernel
theorem d_Rd_word_31 : decode b_Rd_word 31 = .ok (.dup, 1) := by decide +kernel
theorem d_Rd_word_32 : decode b_Rd_word 32 = .ok (.getfield 32, 3) := by decide +kernel
theorem d_Rd_word_35 : decode b_Rd_word 35 = .ok (.iload 4, 2) := by decide +kernel
theorem d_Rd_word_37 : decode b_Rd_word 37 = .ok (.iadd, 1) := by decide +kernel
theorem d_Rd_word_38 : decode b_Rd_word 38 = .ok (.putfield 32, 3) := by decide +kernel
theorem d_Rd_word_41 : decode b_Rd_word 41 = .ok (.iload_n 2, 1) := by decide +kernel
theorem d_Rd_word_42 : decode b_Rd_word 42 = .ok (.ireturn, 1) := by decide +kernel
theorem d_Rd_word_43 : decode b_Rd_word 43 = .ok (.iload_n 1, 1) := by decide +kernel
theorem d_Rd_word_44 : decode b_Rd_word 44 = .ok (.iload 4, 2) := by decide +kernel
theorem d_Rd_word_46 : decode b_Rd_word 46 = .ok (.invokestatic 74, 3) := by decide +kernel
theorem d_Rd_word_49 : decode b_Rd_word 49 = .ok (.istore_n 1, 1) := by decide +kernel
theorem d_Rd_word_50 : decode b_Rd_word 50 = .ok (.iinc 2 1, 3) := by decide +kernel
theorem d_Rd_word_53 : decode b_Rd_word 53 = .ok (.goto (-49), 3) := by decide +kernel
theorem d_Rd_word_56 : decode b_Rd_word 56 = .ok (.aload_n 0, 1) := by decide +kernel
theorem d_Rd_word_57 : decode b_Rd_word 57 = .ok (.dup, 1) := by decide +kernel
theorem d_Rd_word_58 : decode b_Rd_word 58 = .ok (.getfield 32, 3) := by decide +kernel
theorem d_Rd_word_61 : decode b_Rd_word 61 = .ok (.iload_n 1, 1) := by decide +kernel
theorem d_Rd_word_62 : decode b_Rd_word 62 = .ok (.iadd, 1) := by decide +kernel
theorem d_Rd_word_63 : decode b_Rd_word 63 = .ok (.putfield 32, 3) := by decide +kernel
theorem d_Rd_word_66 : decode b_Rd_word 66 = .ok (.iconst (-1), 1) := by decide +kernel
theorem d_Rd_word_67 : decode b_Rd_word 67 = .ok (.ireturn, 1) := by decide +kernel
theorem o_Rd_word : OkV y_Rd_word "OwnsLift$Reader" b_Rd_word 5 (some .int) 0 := ⟨⟨rfl, by decide +kernel, by decide +kernel, by decide +kernel⟩, g_446, g_1, g_76, g_447⟩
set_option maxHeartbeats 4000000 in
set_option maxRecDepth 100000 in
theorem c_Rd_word (l : Launch) (D : va_G) (g : Nat → ClassId) (a : Nat → Nat) (z : T_Rd) (v : Int32 × T_Rd) (h : d_Rd_word z = some v) :
    MI l y_Rd_word b_Rd_word 5 .int ({ frames := 5, cells := 0, slots := 0, locals := 107 } : Room) D g [.ref (a 0)] (ws_Rd g a z) (v.1) (ws_Rd g a v.2) := by
  have hd := h
  unfold d_Rd_word at hd
  refine enterI rfl (Nat.le_of_ble_eq_true rfl) (fun p e s m below meth c A ls hx hb hml hr hown hg hlk hK hA hP hD hS hCs hl => ?_)
  have hown : s.vm.findClass "OwnsLift$Reader" = some m.cls := hown
  have hl : lv_has ls 5 [(0, .ref (a 0))] := hl
  show GI p l e s m ({ frames := 5, cells := 0, slots := 0, locals := 107 } : Room) ([.ref (a 0)] : List Value).toArray below meth c A D g (ws_Rd g a v.2) (v.1) s.heap [] (F0 m 0 ls [])
  refine lv_iconst (v := 0) hx hb d_Rd_word_0 (by decide) ?_
  refine lv_istore_n (lv' := [(1, .int 0), (0, .ref (a 0))]) hx hb d_Rd_word_1 rfl hl (by decide) rfl (fun ls hl => ?_)
  refine lv_iconst (v := 0) hx hb d_Rd_word_2 (by decide) ?_
  refine lv_istore_n (lv' := [(2, .int 0), (1, .int 0), (0, .ref (a 0))]) hx hb d_Rd_word_3 rfl hl (by decide) rfl (fun ls hl => ?_)
  have lp4 : ∀ (z_f4 : T_Rd) (n : Nat) (x1_4 : Int32) (x2_4 : Int32) (H : Heap) (locs : List Loc) (ls : Array Slot), va_P D classes (ws_Rd g a z_f4) H → va_D A (ws_Rd g a z_f4) → va_S A s.heap H locs → lv_has ls 5 [(0, .ref (a 0)), (1, .int x1_4), (2, .int x2_4)] → d_Rd_word_L4 z_f4 n x1_4 x2_4 = some v → GI p l e s m ({ frames := 5, cells := 0, slots := 0, locals := 107 } : Room) ([.ref (a 0)] : List Value).toArray below meth c A D g (ws_Rd g a v.2) (v.1) H locs (F0 m 4 ls []) := by
    intro z_f4 n
    induction n with
    | zero =>
      intro  x1_4 x2_4 H locs ls hP hD hS hl hd
      have hd : none = some v := hd
      cases hd
    | succ n ih4 =>
      intro  x1_4 x2_4 H locs ls hP hD hS hl hd
      have hd : B_Rd_word_L4 z_f4 (d_Rd_word_L4 z_f4 n) x1_4 x2_4 = some v := hd
      generalize d_Rd_word_L4 z_f4 n = self4 at ih4 hd
      unfold B_Rd_word_L4 at hd
      refine lv_iload_n hx hb d_Rd_word_4 rfl (lv_at hl 2 rfl) ?_
      refine lv_iconst (v := 4) hx hb d_Rd_word_5 (by decide) ?_
      refine lv_icmp_ge (tgt := 56) hx hb d_Rd_word_6 (by decide) (fun h_1 => ?_) (fun h_1 => ?_)
      · have hd := ite_t hd h_1
        refine lv_aload_n hx hb d_Rd_word_56 rfl (lv_at hl 0 rfl) ?_
        refine lv_dup hx hb d_Rd_word_57 rfl ?_
        refine va_get (D := D) (ci := 6) (v := .int (q_Rd_place z_f4)) (C := R_Rd) (T := F_Rd) (N := 4) hx hb hg i_Rd hown hK hP 0 rfl rfl 1 (by decide) (hg _ g_258) (fun _ h9 => h9) rfl d_Rd_word_58 ?_
        refine lv_iload_n hx hb d_Rd_word_61 rfl (lv_at hl 1 rfl) ?_
        refine lv_iadd hx hb d_Rd_word_62 ?_
        refine va_put (D := D) (ci := 6) (v := .int ((q_Rd_place z_f4) + x1_4)) (ty := .int) (C := R_Rd) (T := F_Rd) (N := 4) hx hb hg i_Rd t_Rd t_Rd_ok n_Rd hown hK hP hD hS 0 rfl rfl 1 (by decide) (hg _ g_258) (fun _ h9 => h9) rfl (by decide +kernel) rfl rfl (Nat.le_of_ble_eq_true rfl) d_Rd_word_63 (fun H locs hP hD hS => ?_)
        have hP : va_P D classes (ws_Rd g a (u_Rd_place z_f4 ((q_Rd_place z_f4) + x1_4))) H := hP
        have hD : va_D A (ws_Rd g a (u_Rd_place z_f4 ((q_Rd_place z_f4) + x1_4))) := hD
        refine lv_iconst (v := (-1)) hx hb d_Rd_word_66 (by decide) ?_
        obtain rfl := Option.some.inj hd
        exact retI hx hb hr hlk hK hP hD hS d_Rd_word_67 rfl
      · have hd := ite_f hd h_1
        refine lv_iload_n hx hb d_Rd_word_9 rfl (lv_at hl 2 rfl) ?_
        obtain ⟨v_2, e_3, hd⟩ := bind_s hd
        refine callSS (ws' := ws_Rd g a z_f4) (rest := []) (As := [.int x2_4]) hx hb hml hown hg hK hP hD hS hA hCs hl.1 (c_Rd_spelling l D g  x2_4 _ e_3) o_Rd_spelling g_448 [] segC0 rfl rfl segP0 rfl rfl (Nat.le_of_ble_eq_true rfl) ⟨rfl, rfl, Nat.le_of_ble_eq_true rfl, Nat.le_of_ble_eq_true rfl⟩ d_Rd_word_10 (fun H locs hP hD hS => ?_)
        refine lv_astore_n (lv' := [(3, .ref (g (10 + v_2))), (0, .ref (a 0)), (1, .int x1_4), (2, .int x2_4)]) hx hb d_Rd_word_13 rfl hl (by decide) rfl (fun ls hl => ?_)
        refine lv_aload_n hx hb d_Rd_word_14 rfl (lv_at hl 1 rfl) ?_
        refine lv_aload_n hx hb d_Rd_word_15 rfl (lv_at hl 0 rfl) ?_
        obtain ⟨v_4, e_5, hd⟩ := bind_s hd
        refine callVI (ws' := ws_Rd g a z_f4) (rest := []) (As := [.ref (g (10 + v_2))]) hx hb hml hown hg hK hP hD hS hA hCs hl.1 (c_Rd_alike l D g a v_2 z_f4 _ e_5) o_Rd_alike g_455 (ci := 6) (q0 := 0) rfl rfl (List.range' 0 7) (segC1 rfl rfl) (by decide) rfl (segP1 rfl rfl) rfl rfl (Nat.le_of_ble_eq_true rfl) ⟨rfl, rfl, Nat.le_of_ble_eq_true rfl, Nat.le_of_ble_eq_true rfl⟩ d_Rd_word_16 (fun H locs hP hD hS => ?_)
        refine lv_istore (lv' := [(4, .int v_4), (3, .ref (g (10 + v_2))), (0, .ref (a 0)), (1, .int x1_4), (2, .int x2_4)]) hx hb d_Rd_word_19 hl (by decide) rfl (fun ls hl => ?_)
        refine lv_iload hx hb d_Rd_word_21 (lv_at hl 0 rfl) ?_
        refine lv_aload_n hx hb d_Rd_word_23 rfl (lv_at hl 1 rfl) ?_
        obtain ⟨v_6, e_7, hd⟩ := bind_s hd
        refine callTI (ws' := ws_Rd g a z_f4) (rest := [.int v_4]) (As := []) hx hb hml hown hg hK hP hD hS hA hCs hl.1 (c_JS_length l D g  v_2 _ e_7) o_JS_length g_459 (vk_recv (i := v_2) hCs.1.1 (lt_JS_length e_7) hS) [] segC0 rfl rfl segP0 rfl rfl (Nat.le_of_ble_eq_true rfl) ⟨rfl, rfl, Nat.le_of_ble_eq_true rfl, Nat.le_of_ble_eq_true rfl⟩ d_Rd_word_24 (fun H locs hP hD hS => ?_)
        refine lv_icmp_ne (tgt := 43) hx hb d_Rd_word_27 (by decide) (fun h_8 => ?_) (fun h_8 => ?_)
        · have hd := ite_f hd h_8
          refine lv_iload_n hx hb d_Rd_word_43 rfl (lv_at hl 3 rfl) ?_
          refine lv_iload hx hb d_Rd_word_44 (lv_at hl 0 rfl) ?_
          refine va_mmax hx hb (hml.trans hl.1.symm) hown (hg _ g_507) (hg _ k_max_s) (hg _ k_math_i) (hg _ k_max_c) (Nat.le_of_ble_eq_true rfl) (Nat.le_of_ble_eq_true rfl) (Nat.zero_le _) (Nat.zero_le _) d_Rd_word_46 ?_
          refine lv_istore_n (lv' := [(1, .int (if x1_4 < v_4 then v_4 else x1_4)), (4, .int v_4), (3, .ref (g (10 + v_2))), (0, .ref (a 0)), (2, .int x2_4)]) hx hb d_Rd_word_49 rfl hl (by decide) rfl (fun ls hl => ?_)
          refine lv_iinc (v := x2_4 + 1) (lv' := [(2, .int (x2_4 + 1)), (1, .int (if x1_4 < v_4 then v_4 else x1_4)), (4, .int v_4), (3, .ref (g (10 + v_2))), (0, .ref (a 0))]) hx hb d_Rd_word_50 hl (k := 4) rfl (by rfl) (by decide) rfl (fun ls hl => ?_)
          refine lv_goto (tgt := 4) hx hb d_Rd_word_53 (by decide) ?_
          exact ih4 (if x1_4 < v_4 then v_4 else x1_4) (x2_4 + 1) _ _ _ hP hD hS (lv_sub hl [4, 1, 0] rfl) hd
        · have hd := ite_t hd h_8
          refine lv_aload_n hx hb d_Rd_word_30 rfl (lv_at hl 2 rfl) ?_
          refine lv_dup hx hb d_Rd_word_31 rfl ?_
          refine va_get (D := D) (ci := 6) (v := .int (q_Rd_place z_f4)) (C := R_Rd) (T := F_Rd) (N := 4) hx hb hg i_Rd hown hK hP 0 rfl rfl 1 (by decide) (hg _ g_258) (fun _ h9 => h9) rfl d_Rd_word_32 ?_
          refine lv_iload hx hb d_Rd_word_35 (lv_at hl 0 rfl) ?_
          refine lv_iadd hx hb d_Rd_word_37 ?_
          refine va_put (D := D) (ci := 6) (v := .int ((q_Rd_place z_f4) + v_4)) (ty := .int) (C := R_Rd) (T := F_Rd) (N := 4) hx hb hg i_Rd t_Rd t_Rd_ok n_Rd hown hK hP hD hS 0 rfl rfl 1 (by decide) (hg _ g_258) (fun _ h9 => h9) rfl (by decide +kernel) rfl rfl (Nat.le_of_ble_eq_true rfl) d_Rd_word_38 (fun H locs hP hD hS => ?_)
          have hP : va_P D classes (ws_Rd g a (u_Rd_place z_f4 ((q_Rd_place z_f4) + v_4))) H := hP
          have hD : va_D A (ws_Rd g a (u_Rd_place z_f4 ((q_Rd_place z_f4) + v_4))) := hD
          refine lv_iload_n hx hb d_Rd_word_41 rfl (lv_at hl 4 rfl) ?_
          obtain rfl := Option.some.inj hd
          exact retI hx hb hr hlk hK hP hD hS d_Rd_word_42 rfl
  exact lp4 z 1000 0 0 _ _ _ hP hD hS (lv_sub hl [2, 1, 0] rfl) hd
-- OwnsLift$Reader.clause()Z
def d_Rd_clause (z : T_Rd) : Option (Int32 × T_Rd) :=
  (d_Rd_word z).bind fun v_1 => if v_1.1 < 0 then (some (0, v_1.2)) else ((d_Rd_eat 32 v_1.2).bind fun v_4 => if v_4.1 = 0 then (some (0, v_4.2)) else ((d_Rd_number v_4.2).bind fun v_7 => if v_7.1 < 0 then (some (0, v_7.2)) else ((d_Rd_eat 32 v_7.2).bind fun v_10 => if v_10.1 = 0 then (some (0, v_10.2)) else ((d_Rd_either 64 0 v_10.2).bind fun v_13 => if v_13.1 = 0 then (some (0, v_13.2)) else ((d_La_close v_1.1 v_7.1 (q_Rd_draft v_13.2)).bind fun v_16 => some (1, (u_Rd_draft v_13.2 v_16)))))))
theorem d_Rd_clause_0 : decode b_Rd_clause 0 = .ok (.aload_n 0, 1) := by decide +kernel
theorem d_Rd_clause_1 : decode b_Rd_clause 1 = .ok (.invokevirtual 46, 3) := by decide +kernel
theorem d_Rd_clause_4 : decode b_Rd_clause 4 = .ok (.istore_n 1, 1) := by decide +kernel
theorem d_Rd_clause_5 : decode b_Rd_clause 5 = .ok (.iload_n 1, 1) := by decide +kernel
theorem d_Rd_clause_6 : decode b_Rd_clause 6 = .ok (.ifCond .lt 12, 3) := by decide +kernel
theorem d_Rd_clause_9 : decode b_Rd_clause 9 = .ok (.aload_n 0, 1) := by decide +kernel
theorem d_Rd_clause_10 : decode b_Rd_clause 10 = .ok (.bipush 32, 2) := by decide +kernel
theorem d_Rd_clause_12 : decode b_Rd_clause 12 = .ok (.invokevirtual 42, 3) := by decide +kernel
theorem d_Rd_clause_15 : decode b_Rd_clause 15 = .ok (.ifCond .ne 5, 3) := by decide +kernel
theorem d_Rd_clause_18 : decode b_Rd_clause 18 = .ok (.iconst 0, 1) := by decide +kernel
theorem d_Rd_clause_19 : decode b_Rd_clause 19 = .ok (.ireturn, 1) := by decide +kernel
theorem d_Rd_clause_20 : decode b_Rd_clause 20 = .ok (.aload_n 0, 1) := by decide +kernel
theorem d_Rd_clause_21 : decode b_Rd_clause 21 = .ok (.invokevirtual 50, 3) := by decide +kernel
theorem d_Rd_clause_24 : decode b_Rd_clause 24 = .ok (.istore_n 2, 1) := by decide +kernel
theorem d_Rd_clause_25 : decode b_Rd_clause 25 = .ok (.iload_n 2, 1) := by decide +kernel
theorem d_Rd_clause_26 : decode b_Rd_clause 26 = .ok (.ifCond .lt 20, 3) := by decide +kernel
theorem d_Rd_clause_29 : decode b_Rd_clause 29 = .ok (.aload_n 0, 1) := by decide +kernel
theorem d_Rd_clause_30 : decode b_Rd_clause 30 = .ok (.bipush 32, 2) := by decide +kernel
theorem d_Rd_clause_32 : decode b_Rd_clause 32 = .ok (.invokevirtual 42, 3) := by decide +kernel
theorem d_Rd_clause_35 : decode b_Rd_clause 35 = .ok (.ifCond .eq 11, 3) := by decide +kernel
theorem d_Rd_clause_38 : decode b_Rd_clause 38 = .ok (.aload_n 0, 1) := by decide +kernel
theorem d_Rd_clause_39 : decode b_Rd_clause 39 = .ok (.iconst 0, 1) := by decide +kernel
theorem d_Rd_clause_40 : decode b_Rd_clause 40 = .ok (.invokevirtual 53, 3) := by decide +kernel
theorem d_Rd_clause_43 : decode b_Rd_clause 43 = .ok (.ifCond .ne 5, 3) := by decide +kernel
theorem d_Rd_clause_46 : decode b_Rd_clause 46 = .ok (.iconst 0, 1) := by decide +kernel
theorem d_Rd_clause_47 : decode b_Rd_clause 47 = .ok (.ireturn, 1) := by decide +kernel
theorem d_Rd_clause_48 : decode b_Rd_clause 48 = .ok (.aload_n 0, 1) := by decide +kernel
theorem d_Rd_clause_49 : decode b_Rd_clause 49 = .ok (.getfield 12, 3) := by decide +kernel
theorem d_Rd_clause_52 : decode b_Rd_clause 52 = .ok (.iload_n 1, 1) := by decide +kernel
theorem d_Rd_clause_53 : decode b_Rd_clause 53 = .ok (.iload_n 2, 1) := by decide +kernel
theorem d_Rd_clause_54 : decode b_Rd_clause 54 = .ok (.invokevirtual 57, 3) := by decide +kernel
theorem d_Rd_clause_57 : decode b_Rd_clause 57 = .ok (.iconst 1, 1) := by decide +kernel
theorem d_Rd_clause_58 : decode b_Rd_clause 58 = .ok (.ireturn, 1) := by decide +kernel
theorem o_Rd_clause : OkV y_Rd_clause "OwnsLift$Reader" b_Rd_clause 3 (some .boolean) 0 := ⟨⟨rfl, by decide +kernel, by decide +kernel, by decide +kernel⟩, g_442, g_0, g_76, g_443⟩
set_option maxHeartbeats 4000000 in
set_option maxRecDepth 100000 in
theorem c_Rd_clause (l : Launch) (D : va_G) (g : Nat → ClassId) (a : Nat → Nat) (z : T_Rd) (v : Int32 × T_Rd) (h : d_Rd_clause z = some v) :
    MI l y_Rd_clause b_Rd_clause 3 .boolean ({ frames := 136, cells := 0, slots := 0, locals := 4001 } : Room) D g [.ref (a 0)] (ws_Rd g a z) (v.1) (ws_Rd g a v.2) := by
  have hd := h
  unfold d_Rd_clause at hd
  refine enterI rfl (Nat.le_of_ble_eq_true rfl) (fun p e s m below meth c A ls hx hb hml hr hown hg hlk hK hA hP hD hS hCs hl => ?_)
  have hown : s.vm.findClass "OwnsLift$Reader" = some m.cls := hown
  have hl : lv_has ls 3 [(0, .ref (a 0))] := hl
  show GI p l e s m ({ frames := 136, cells := 0, slots := 0, locals := 4001 } : Room) ([.ref (a 0)] : List Value).toArray below meth c A D g (ws_Rd g a v.2) (v.1) s.heap [] (F0 m 0 ls [])
  refine lv_aload_n hx hb d_Rd_clause_0 rfl (lv_at hl 0 rfl) ?_
  obtain ⟨v_1, e_2, hd⟩ := bind_s hd
  refine callVI (ws' := ws_Rd g a v_1.2) (rest := []) (As := []) hx hb hml hown hg hK hP hD hS hA hCs hl.1 (c_Rd_word l D g a z _ e_2) o_Rd_word g_444 (ci := 6) (q0 := 0) rfl rfl (List.range' 0 7) (segC1 rfl rfl) (by decide) rfl (segP1 rfl rfl) rfl rfl (Nat.le_of_ble_eq_true rfl) ⟨rfl, rfl, Nat.le_of_ble_eq_true rfl, Nat.le_of_ble_eq_true rfl⟩ d_Rd_clause_1 (fun H locs hP hD hS => ?_)
  refine lv_istore_n (lv' := [(1, .int v_1.1), (0, .ref (a 0))]) hx hb d_Rd_clause_4 rfl hl (by decide) rfl (fun ls hl => ?_)
  refine lv_iload_n hx hb d_Rd_clause_5 rfl (lv_at hl 0 rfl) ?_
  refine lv_if_lt (tgt := 18) hx hb d_Rd_clause_6 (by decide) (fun h_3 => ?_) (fun h_3 => ?_)
  · have hd := ite_t hd h_3
    refine lv_iconst (v := 0) hx hb d_Rd_clause_18 (by decide) ?_
    obtain rfl := Option.some.inj hd
    exact retZ hx hb hr hlk hK hP hD hS d_Rd_clause_19 rfl (by decide +kernel)
  · have hd := ite_f hd h_3
    refine lv_aload_n hx hb d_Rd_clause_9 rfl (lv_at hl 1 rfl) ?_
    refine lv_bipush (v := 32) hx hb d_Rd_clause_10 (by decide) ?_
    obtain ⟨v_4, e_5, hd⟩ := bind_s hd
    refine callVI (ws' := ws_Rd g a v_4.2) (rest := []) (As := [.int 32]) hx hb hml hown hg hK hP hD hS hA hCs hl.1 (c_Rd_eat l D g a 32 v_1.2 _ e_5) o_Rd_eat g_510 (ci := 6) (q0 := 0) rfl rfl (List.range' 0 7) (segC1 rfl rfl) (by decide) rfl (segP1 rfl rfl) rfl rfl (Nat.le_of_ble_eq_true rfl) ⟨rfl, rfl, Nat.le_of_ble_eq_true rfl, Nat.le_of_ble_eq_true rfl⟩ d_Rd_clause_12 (fun H locs hP hD hS => ?_)
    refine lv_if_ne (tgt := 20) hx hb d_Rd_clause_15 (by decide) (fun h_6 => ?_) (fun h_6 => ?_)
    · have hd := ite_f hd h_6
      refine lv_aload_n hx hb d_Rd_clause_20 rfl (lv_at hl 1 rfl) ?_
      obtain ⟨v_7, e_8, hd⟩ := bind_s hd
      refine callVI (ws' := ws_Rd g a v_7.2) (rest := []) (As := []) hx hb hml hown hg hK hP hD hS hA hCs hl.1 (c_Rd_number l D g a v_4.2 _ e_8) o_Rd_number g_514 (ci := 6) (q0 := 0) rfl rfl (List.range' 0 7) (segC1 rfl rfl) (by decide) rfl (segP1 rfl rfl) rfl rfl (Nat.le_of_ble_eq_true rfl) ⟨rfl, rfl, Nat.le_of_ble_eq_true rfl, Nat.le_of_ble_eq_true rfl⟩ d_Rd_clause_21 (fun H locs hP hD hS => ?_)
      refine lv_istore_n (lv' := [(2, .int v_7.1), (1, .int v_1.1), (0, .ref (a 0))]) hx hb d_Rd_clause_24 rfl hl (by decide) rfl (fun ls hl => ?_)
      refine lv_iload_n hx hb d_Rd_clause_25 rfl (lv_at hl 0 rfl) ?_
      refine lv_if_lt (tgt := 46) hx hb d_Rd_clause_26 (by decide) (fun h_9 => ?_) (fun h_9 => ?_)
      · have hd := ite_t hd h_9
        refine lv_iconst (v := 0) hx hb d_Rd_clause_46 (by decide) ?_
        obtain rfl := Option.some.inj hd
        exact retZ hx hb hr hlk hK hP hD hS d_Rd_clause_47 rfl (by decide +kernel)
      · have hd := ite_f hd h_9
        refine lv_aload_n hx hb d_Rd_clause_29 rfl (lv_at hl 2 rfl) ?_
        refine lv_bipush (v := 32) hx hb d_Rd_clause_30 (by decide) ?_
        obtain ⟨v_10, e_11, hd⟩ := bind_s hd
        refine callVI (ws' := ws_Rd g a v_10.2) (rest := []) (As := [.int 32]) hx hb hml hown hg hK hP hD hS hA hCs hl.1 (c_Rd_eat l D g a 32 v_7.2 _ e_11) o_Rd_eat g_510 (ci := 6) (q0 := 0) rfl rfl (List.range' 0 7) (segC1 rfl rfl) (by decide) rfl (segP1 rfl rfl) rfl rfl (Nat.le_of_ble_eq_true rfl) ⟨rfl, rfl, Nat.le_of_ble_eq_true rfl, Nat.le_of_ble_eq_true rfl⟩ d_Rd_clause_32 (fun H locs hP hD hS => ?_)
        refine lv_if_eq (tgt := 46) hx hb d_Rd_clause_35 (by decide) (fun h_12 => ?_) (fun h_12 => ?_)
        · have hd := ite_t hd h_12
          refine lv_iconst (v := 0) hx hb d_Rd_clause_46 (by decide) ?_
          obtain rfl := Option.some.inj hd
          exact retZ hx hb hr hlk hK hP hD hS d_Rd_clause_47 rfl (by decide +kernel)
        · have hd := ite_f hd h_12
          refine lv_aload_n hx hb d_Rd_clause_38 rfl (lv_at hl 2 rfl) ?_
          refine lv_iconst (v := 0) hx hb d_Rd_clause_39 (by decide) ?_
          obtain ⟨v_13, e_14, hd⟩ := bind_s hd
          refine callVI (ws' := ws_Rd g a v_13.2) (rest := []) (As := [.int 0]) hx hb hml hown hg hK hP hD hS hA hCs hl.1 (c_Rd_either 64 l D g a 0 v_10.2 _ e_14) o_Rd_either g_522 (ci := 6) (q0 := 0) rfl rfl (List.range' 0 7) (segC1 rfl rfl) (by decide) rfl (segP1 rfl rfl) rfl rfl (Nat.le_of_ble_eq_true rfl) ⟨rfl, rfl, Nat.le_of_ble_eq_true rfl, Nat.le_of_ble_eq_true rfl⟩ d_Rd_clause_40 (fun H locs hP hD hS => ?_)
          refine lv_if_ne (tgt := 48) hx hb d_Rd_clause_43 (by decide) (fun h_15 => ?_) (fun h_15 => ?_)
          · have hd := ite_f hd h_15
            refine lv_aload_n hx hb d_Rd_clause_48 rfl (lv_at hl 2 rfl) ?_
            refine va_get (D := D) (ci := 6) (v := .ref (a 1)) (C := R_Rd) (T := F_Rd) (N := 4) hx hb hg i_Rd hown hK hP 0 rfl rfl 0 (by decide) (hg _ g_256) (fun _ h9 => h9) rfl d_Rd_clause_49 ?_
            refine lv_iload_n hx hb d_Rd_clause_52 rfl (lv_at hl 1 rfl) ?_
            refine lv_iload_n hx hb d_Rd_clause_53 rfl (lv_at hl 0 rfl) ?_
            obtain ⟨v_16, e_17, hd⟩ := bind_s hd
            refine callVV (ws' := ws_Rd g a (u_Rd_draft v_13.2 v_16)) (rest := []) (As := [.int v_1.1, .int v_7.1]) hx hb hml hown hg hK hP hD hS hA hCs hl.1 (c_La_close l D g (sh a 1) v_1.1 v_7.1 (q_Rd_draft v_13.2) _ e_17) o_La_close g_601 (ci := 4) (q0 := 1) rfl rfl (List.range' 1 5) (segC1 rfl rfl) (by decide) rfl (segP1 rfl rfl) rfl rfl (Nat.le_of_ble_eq_true rfl) ⟨rfl, rfl, Nat.le_of_ble_eq_true rfl, Nat.le_of_ble_eq_true rfl⟩ d_Rd_clause_54 (fun H locs hP hD hS => ?_)
            refine lv_iconst (v := 1) hx hb d_Rd_clause_57 (by decide) ?_
            obtain rfl := Option.some.inj hd
            exact retZ hx hb hr hlk hK hP hD hS d_Rd_clause_58 rfl (by decide +kernel)
          · have hd := ite_t hd h_15
            refine lv_iconst (v := 0) hx hb d_Rd_clause_46 (by decide) ?_
            obtain rfl := Option.some.inj hd
            exact retZ hx hb hr hlk hK hP hD hS d_Rd_clause_47 rfl (by decide +kernel)
    · have hd := ite_t hd h_6
      refine lv_iconst (v := 0) hx hb d_Rd_clause_18 (by decide) ?_
      obtain rfl := Option.some.inj hd
      exact retZ hx hb hr hlk hK hP hD hS d_Rd_clause_19 rfl (by decide +kernel)
-- OwnsLift$Reader.read([II)Z
def B_Rd_read_L31 (w : (Nat → Int32)) (k31_81 : T_Rd → Option (Int32 × T_Rd)) (k31_72 : T_Rd → Option (Int32 × T_Rd)) (self31 : Int32 → T_Rd → Option (Int32 × T_Rd)) (x3_31 : Int32) (z_31 : T_Rd) : Option (Int32 × T_Rd) :=
  if 10 ≤ x3_31 then (k31_81 z_31) else ((d_Rd_clause z_31).bind fun v_4 => if v_4.1 = 0 then (some (0, v_4.2)) else (if (q_Rd_place v_4.2) = (q_Rd_size v_4.2) then (k31_81 v_4.2) else (if x3_31 = 9 then (k31_81 v_4.2) else ((d_Rd_eat 59 v_4.2).bind fun v_9 => if v_9.1 = 0 then (k31_72 v_9.2) else (self31 (x3_31 + 1) v_9.2)))))
def d_Rd_read_L31 (w : (Nat → Int32)) (k31_81 : T_Rd → Option (Int32 × T_Rd)) (k31_72 : T_Rd → Option (Int32 × T_Rd)) (n : Nat) : Int32 → T_Rd → Option (Int32 × T_Rd) := recN (fun _ _ => none) (fun self => B_Rd_read_L31 w k31_81 k31_72 self) n
def d_Rd_read (x2 : Int32) (z : T_Rd) (w : (Nat → Int32)) : Option (Int32 × T_Rd) :=
  (d_La_clear (q_Rd_draft (u_Rd_place (u_Rd_size (u_Rd_text z (va_cpy w (q_Rd_text z) 0 0 100)) x2) 0))).bind fun v_1 => d_Rd_read_L31 w (fun z_31 => if (q_Rd_place z_31) = (q_Rd_size z_31) then (some (1, z_31)) else (some (0, z_31))) (fun z_31 => if (q_Rd_place z_31) = (q_Rd_size z_31) then (some (1, z_31)) else (some (0, z_31))) 1000 0 (u_Rd_draft (u_Rd_place (u_Rd_size (u_Rd_text z (va_cpy w (q_Rd_text z) 0 0 100)) x2) 0) v_1)
theorem d_Rd_read_0 : decode b_Rd_read 0 = .ok (.aload_n 1, 1) := by decide +kernel
theorem d_Rd_read_1 : decode b_Rd_read 1 = .ok (.iconst 0, 1) := by decide +kernel
theorem d_Rd_read_2 : decode b_Rd_read 2 = .ok (.aload_n 0, 1) := by decide +kernel
theorem d_Rd_read_3 : decode b_Rd_read 3 = .ok (.getfield 18, 3) := by decide +kernel
theorem d_Rd_read_6 : decode b_Rd_read 6 = .ok (.iconst 0, 1) := by decide +kernel
theorem d_Rd_read_7 : decode b_Rd_read 7 = .ok (.bipush 100, 2) := by decide +kernel
theorem d_Rd_read_9 : decode b_Rd_read 9 = .ok (.invokestatic 22, 3) := by decide +kernel
theorem d_Rd_read_12 : decode b_Rd_read 12 = .ok (.aload_n 0, 1) := by decide +kernel
theorem d_Rd_read_13 : decode b_Rd_read 13 = .ok (.iload_n 2, 1) := by decide +kernel
theorem d_Rd_read_14 : decode b_Rd_read 14 = .ok (.putfield 28, 3) := by decide +kernel
theorem d_Rd_read_17 : decode b_Rd_read 17 = .ok (.aload_n 0, 1) := by decide +kernel
theorem d_Rd_read_18 : decode b_Rd_read 18 = .ok (.iconst 0, 1) := by decide +kernel
theorem d_Rd_read_19 : decode b_Rd_read 19 = .ok (.putfield 32, 3) := by decide +kernel
theorem d_Rd_read_22 : decode b_Rd_read 22 = .ok (.aload_n 0, 1) := by decide +kernel
theorem d_Rd_read_23 : decode b_Rd_read 23 = .ok (.getfield 12, 3) := by decide +kernel
theorem d_Rd_read_26 : decode b_Rd_read 26 = .ok (.invokevirtual 35, 3) := by decide +kernel
theorem d_Rd_read_29 : decode b_Rd_read 29 = .ok (.iconst 0, 1) := by decide +kernel
theorem d_Rd_read_30 : decode b_Rd_read 30 = .ok (.istore_n 3, 1) := by decide +kernel
theorem d_Rd_read_31 : decode b_Rd_read 31 = .ok (.iload_n 3, 1) := by decide +kernel
theorem d_Rd_read_32 : decode b_Rd_read 32 = .ok (.bipush 10, 2) := by decide +kernel
theorem d_Rd_read_34 : decode b_Rd_read 34 = .ok (.if_icmp .ge 47, 3) := by decide +kernel
theorem d_Rd_read_37 : decode b_Rd_read 37 = .ok (.aload_n 0, 1) := by decide +kernel
theorem d_Rd_read_38 : decode b_Rd_read 38 = .ok (.invokevirtual 38, 3) := by decide +kernel
theorem d_Rd_read_41 : decode b_Rd_read 41 = .ok (.ifCond .ne 5, 3) := by decide +kernel
theorem d_Rd_read_44 : decode b_Rd_read 44 = .ok (.iconst 0, 1) := by decide +kernel
theorem d_Rd_read_45 : decode b_Rd_read 45 = .ok (.ireturn, 1) := by decide +kernel
theorem d_Rd_read_46 : decode b_Rd_read 46 = .ok (.aload_n 0, 1) := by decide +kernel
theorem d_Rd_read_47 : decode b_Rd_read 47 = .ok (.getfield 32, 3) := by decide +kernel
theorem d_Rd_read_50 : decode b_Rd_read 50 = .ok (.aload_n 0, 1) := by decide +kernel
theorem d_Rd_read_51 : decode b_Rd_read 51 = .ok (.getfield 28, 3) := by decide +kernel
theorem d_Rd_read_54 : decode b_Rd_read 54 = .ok (.if_icmp .eq 27, 3) := by decide +kernel
theorem d_Rd_read_57 : decode b_Rd_read 57 = .ok (.iload_n 3, 1) := by decide +kernel
theorem d_Rd_read_58 : decode b_Rd_read 58 = .ok (.bipush 9, 2) := by decide +kernel
theorem d_Rd_read_60 : decode b_Rd_read 60 = .ok (.if_icmp .eq 21, 3) := by decide +kernel
theorem d_Rd_read_63 : decode b_Rd_read 63 = .ok (.aload_n 0, 1) := by decide +kernel
theorem d_Rd_read_64 : decode b_Rd_read 64 = .ok (.bipush 59, 2) := by decide +kernel
theorem d_Rd_read_66 : decode b_Rd_read 66 = .ok (.invokevirtual 42, 3) := by decide +kernel
theorem d_Rd_read_69 : decode b_Rd_read 69 = .ok (.ifCond .ne 6, 3) := by decide +kernel
theorem d_Rd_read_72 : decode b_Rd_read 72 = .ok (.goto 9, 3) := by decide +kernel
theorem d_Rd_read_75 : decode b_Rd_read 75 = .ok (.iinc 3 1, 3) := by decide +kernel
theorem d_Rd_read_78 : decode b_Rd_read 78 = .ok (.goto (-47), 3) := by decide +kernel
theorem d_Rd_read_81 : decode b_Rd_read 81 = .ok (.aload_n 0, 1) := by decide +kernel
theorem d_Rd_read_82 : decode b_Rd_read 82 = .ok (.getfield 32, 3) := by decide +kernel
theorem d_Rd_read_85 : decode b_Rd_read 85 = .ok (.aload_n 0, 1) := by decide +kernel
theorem d_Rd_read_86 : decode b_Rd_read 86 = .ok (.getfield 28, 3) := by decide +kernel
theorem d_Rd_read_89 : decode b_Rd_read 89 = .ok (.if_icmp .ne 7, 3) := by decide +kernel
theorem d_Rd_read_92 : decode b_Rd_read 92 = .ok (.iconst 1, 1) := by decide +kernel
theorem d_Rd_read_93 : decode b_Rd_read 93 = .ok (.goto 4, 3) := by decide +kernel
theorem d_Rd_read_96 : decode b_Rd_read 96 = .ok (.iconst 0, 1) := by decide +kernel
theorem d_Rd_read_97 : decode b_Rd_read 97 = .ok (.ireturn, 1) := by decide +kernel
theorem o_Rd_read : OkV y_Rd_read "OwnsLift$Reader" b_Rd_read 4 (some .boolean) 2 := ⟨⟨rfl, by decide +kernel, by decide +kernel, by decide +kernel⟩, g_430, g_431, g_76, g_432⟩
set_option maxHeartbeats 4000000 in
set_option maxRecDepth 100000 in
theorem c_Rd_read (l : Launch) (D : va_G) (g : Nat → ClassId) (a : Nat → Nat) (b : Nat → Nat) (x2 : Int32) (z : T_Rd) (w : (Nat → Int32)) (v : Int32 × T_Rd) (h : d_Rd_read x2 z w = some v) :
    MI l y_Rd_read b_Rd_read 4 .boolean ({ frames := 137, cells := 0, slots := 0, locals := 4023 } : Room) D g [.ref (a 0), .ref (b 0), .int x2] (ws_Rd g a z ++ [(b 0, .inl (g 0, 100, .inl w))]) (v.1) (ws_Rd g a v.2 ++ [(b 0, .inl (g 0, 100, .inl w))]) := by
  have hd := h
  unfold d_Rd_read at hd
  refine enterI rfl (Nat.le_of_ble_eq_true rfl) (fun p e s m below meth c A ls hx hb hml hr hown hg hlk hK hA hP hD hS hCs hl => ?_)
  have hown : s.vm.findClass "OwnsLift$Reader" = some m.cls := hown
  have hl : lv_has ls 4 [(0, .ref (a 0)), (1, .ref (b 0)), (2, .int x2)] := hl
  show GI p l e s m ({ frames := 137, cells := 0, slots := 0, locals := 4023 } : Room) ([.ref (a 0), .ref (b 0), .int x2] : List Value).toArray below meth c A D g (ws_Rd g a v.2 ++ [(b 0, .inl (g 0, 100, .inl w))]) (v.1) s.heap [] (F0 m 0 ls [])
  refine lv_aload_n hx hb d_Rd_read_0 rfl (lv_at hl 1 rfl) ?_
  refine lv_iconst (v := 0) hx hb d_Rd_read_1 (by decide) ?_
  refine lv_aload_n hx hb d_Rd_read_2 rfl (lv_at hl 0 rfl) ?_
  refine va_get (D := D) (ci := 6) (v := .ref (a 6)) (C := R_Rd) (T := F_Rd) (N := 4) hx hb hg i_Rd hown hK hP 0 rfl rfl 2 (by decide) (hg _ g_260) (fun _ h9 => h9) rfl d_Rd_read_3 ?_
  refine lv_iconst (v := 0) hx hb d_Rd_read_6 (by decide) ?_
  refine lv_bipush (v := 100) hx hb d_Rd_read_7 (by decide) ?_
  refine copyK (N := 100) hx hb (hml.trans hl.1.symm) hown (hg _ g_433) hg hK hP hD hS 7 6 rfl rfl (by decide +kernel) (by decide +kernel) (by decide) (by decide) (Nat.le_of_ble_eq_true rfl) (Nat.le_of_ble_eq_true (by decide +kernel)) d_Rd_read_9 (fun H locs hP hD hS => ?_)
  have hP : va_P D classes (ws_Rd g a (u_Rd_text z (va_cpy w (q_Rd_text z) 0 0 100)) ++ [(b 0, .inl (g 0, 100, .inl w))]) H := hP
  have hD : va_D A (ws_Rd g a (u_Rd_text z (va_cpy w (q_Rd_text z) 0 0 100)) ++ [(b 0, .inl (g 0, 100, .inl w))]) := hD
  refine lv_aload_n hx hb d_Rd_read_12 rfl (lv_at hl 0 rfl) ?_
  refine lv_iload_n hx hb d_Rd_read_13 rfl (lv_at hl 2 rfl) ?_
  refine va_put (D := D) (ci := 6) (v := .int x2) (ty := .int) (C := R_Rd) (T := F_Rd) (N := 4) hx hb hg i_Rd t_Rd t_Rd_ok n_Rd hown hK hP hD hS 0 rfl rfl 3 (by decide) (hg _ g_261) (fun _ h9 => h9) rfl (by decide +kernel) rfl rfl (Nat.le_of_ble_eq_true rfl) d_Rd_read_14 (fun H locs hP hD hS => ?_)
  have hP : va_P D classes (ws_Rd g a (u_Rd_size (u_Rd_text z (va_cpy w (q_Rd_text z) 0 0 100)) x2) ++ [(b 0, .inl (g 0, 100, .inl w))]) H := hP
  have hD : va_D A (ws_Rd g a (u_Rd_size (u_Rd_text z (va_cpy w (q_Rd_text z) 0 0 100)) x2) ++ [(b 0, .inl (g 0, 100, .inl w))]) := hD
  refine lv_aload_n hx hb d_Rd_read_17 rfl (lv_at hl 0 rfl) ?_
  refine lv_iconst (v := 0) hx hb d_Rd_read_18 (by decide) ?_
  refine va_put (D := D) (ci := 6) (v := .int 0) (ty := .int) (C := R_Rd) (T := F_Rd) (N := 4) hx hb hg i_Rd t_Rd t_Rd_ok n_Rd hown hK hP hD hS 0 rfl rfl 1 (by decide) (hg _ g_258) (fun _ h9 => h9) rfl (by decide +kernel) rfl rfl (Nat.le_of_ble_eq_true rfl) d_Rd_read_19 (fun H locs hP hD hS => ?_)
  have hP : va_P D classes (ws_Rd g a (u_Rd_place (u_Rd_size (u_Rd_text z (va_cpy w (q_Rd_text z) 0 0 100)) x2) 0) ++ [(b 0, .inl (g 0, 100, .inl w))]) H := hP
  have hD : va_D A (ws_Rd g a (u_Rd_place (u_Rd_size (u_Rd_text z (va_cpy w (q_Rd_text z) 0 0 100)) x2) 0) ++ [(b 0, .inl (g 0, 100, .inl w))]) := hD
  refine lv_aload_n hx hb d_Rd_read_22 rfl (lv_at hl 0 rfl) ?_
  refine va_get (D := D) (ci := 6) (v := .ref (a 1)) (C := R_Rd) (T := F_Rd) (N := 4) hx hb hg i_Rd hown hK hP 0 rfl rfl 0 (by decide) (hg _ g_256) (fun _ h9 => h9) rfl d_Rd_read_23 ?_
  obtain ⟨v_1, e_2, hd⟩ := bind_s hd
  refine callVV (ws' := ws_Rd g a (u_Rd_draft (u_Rd_place (u_Rd_size (u_Rd_text z (va_cpy w (q_Rd_text z) 0 0 100)) x2) 0) v_1) ++ [(b 0, .inl (g 0, 100, .inl w))]) (rest := []) (As := []) hx hb hml hown hg hK hP hD hS hA hCs hl.1 (c_La_clear l D g (sh a 1) (q_Rd_draft (u_Rd_place (u_Rd_size (u_Rd_text z (va_cpy w (q_Rd_text z) 0 0 100)) x2) 0)) _ e_2) o_La_clear g_436 (ci := 4) (q0 := 1) rfl rfl (List.range' 1 5) (segC1 rfl rfl) (by decide) rfl (segP1 rfl rfl) rfl rfl (Nat.le_of_ble_eq_true rfl) ⟨rfl, rfl, Nat.le_of_ble_eq_true rfl, Nat.le_of_ble_eq_true rfl⟩ d_Rd_read_26 (fun H locs hP hD hS => ?_)
  refine lv_iconst (v := 0) hx hb d_Rd_read_29 (by decide) ?_
  refine lv_istore_n (lv' := [(3, .int 0), (0, .ref (a 0)), (1, .ref (b 0)), (2, .int x2)]) hx hb d_Rd_read_30 rfl hl (by decide) rfl (fun ls hl => ?_)
  have ex31_81 : ∀ (z_31 : T_Rd) (H : Heap) (locs : List Loc) (ls : Array Slot), va_P D classes (ws_Rd g a z_31 ++ [(b 0, .inl (g 0, 100, .inl w))]) H → va_D A (ws_Rd g a z_31 ++ [(b 0, .inl (g 0, 100, .inl w))]) → va_S A s.heap H locs → lv_has ls 4 [(0, .ref (a 0))] → (if (q_Rd_place z_31) = (q_Rd_size z_31) then (some (1, z_31)) else (some (0, z_31))) = some v → GI p l e s m ({ frames := 137, cells := 0, slots := 0, locals := 4023 } : Room) ([.ref (a 0), .ref (b 0), .int x2] : List Value).toArray below meth c A D g (ws_Rd g a v.2 ++ [(b 0, .inl (g 0, 100, .inl w))]) (v.1) H locs (F0 m 81 ls []) := by
    intro z_31 H locs ls hP hD hS hl hd
    refine lv_aload_n hx hb d_Rd_read_81 rfl (lv_at hl 0 rfl) ?_
    refine va_get (D := D) (ci := 6) (v := .int (q_Rd_place z_31)) (C := R_Rd) (T := F_Rd) (N := 4) hx hb hg i_Rd hown hK hP 0 rfl rfl 1 (by decide) (hg _ g_258) (fun _ h9 => h9) rfl d_Rd_read_82 ?_
    refine lv_aload_n hx hb d_Rd_read_85 rfl (lv_at hl 0 rfl) ?_
    refine va_get (D := D) (ci := 6) (v := .int (q_Rd_size z_31)) (C := R_Rd) (T := F_Rd) (N := 4) hx hb hg i_Rd hown hK hP 0 rfl rfl 3 (by decide) (hg _ g_261) (fun _ h9 => h9) rfl d_Rd_read_86 ?_
    refine lv_icmp_ne (tgt := 96) hx hb d_Rd_read_89 (by decide) (fun h_12 => ?_) (fun h_12 => ?_)
    · have hd := ite_f hd h_12
      refine lv_iconst (v := 0) hx hb d_Rd_read_96 (by decide) ?_
      obtain rfl := Option.some.inj hd
      exact retZ hx hb hr hlk hK hP hD hS d_Rd_read_97 rfl (by decide +kernel)
    · have hd := ite_t hd h_12
      refine lv_iconst (v := 1) hx hb d_Rd_read_92 (by decide) ?_
      refine lv_goto (tgt := 97) hx hb d_Rd_read_93 (by decide) ?_
      obtain rfl := Option.some.inj hd
      exact retZ hx hb hr hlk hK hP hD hS d_Rd_read_97 rfl (by decide +kernel)
  have ex31_72 : ∀ (z_31 : T_Rd) (H : Heap) (locs : List Loc) (ls : Array Slot), va_P D classes (ws_Rd g a z_31 ++ [(b 0, .inl (g 0, 100, .inl w))]) H → va_D A (ws_Rd g a z_31 ++ [(b 0, .inl (g 0, 100, .inl w))]) → va_S A s.heap H locs → lv_has ls 4 [(0, .ref (a 0))] → (if (q_Rd_place z_31) = (q_Rd_size z_31) then (some (1, z_31)) else (some (0, z_31))) = some v → GI p l e s m ({ frames := 137, cells := 0, slots := 0, locals := 4023 } : Room) ([.ref (a 0), .ref (b 0), .int x2] : List Value).toArray below meth c A D g (ws_Rd g a v.2 ++ [(b 0, .inl (g 0, 100, .inl w))]) (v.1) H locs (F0 m 72 ls []) := by
    intro z_31 H locs ls hP hD hS hl hd
    refine lv_goto (tgt := 81) hx hb d_Rd_read_72 (by decide) ?_
    refine lv_aload_n hx hb d_Rd_read_81 rfl (lv_at hl 0 rfl) ?_
    refine va_get (D := D) (ci := 6) (v := .int (q_Rd_place z_31)) (C := R_Rd) (T := F_Rd) (N := 4) hx hb hg i_Rd hown hK hP 0 rfl rfl 1 (by decide) (hg _ g_258) (fun _ h9 => h9) rfl d_Rd_read_82 ?_
    refine lv_aload_n hx hb d_Rd_read_85 rfl (lv_at hl 0 rfl) ?_
    refine va_get (D := D) (ci := 6) (v := .int (q_Rd_size z_31)) (C := R_Rd) (T := F_Rd) (N := 4) hx hb hg i_Rd hown hK hP 0 rfl rfl 3 (by decide) (hg _ g_261) (fun _ h9 => h9) rfl d_Rd_read_86 ?_
    refine lv_icmp_ne (tgt := 96) hx hb d_Rd_read_89 (by decide) (fun h_13 => ?_) (fun h_13 => ?_)
    · have hd := ite_f hd h_13
      refine lv_iconst (v := 0) hx hb d_Rd_read_96 (by decide) ?_
      obtain rfl := Option.some.inj hd
      exact retZ hx hb hr hlk hK hP hD hS d_Rd_read_97 rfl (by decide +kernel)
    · have hd := ite_t hd h_13
      refine lv_iconst (v := 1) hx hb d_Rd_read_92 (by decide) ?_
      refine lv_goto (tgt := 97) hx hb d_Rd_read_93 (by decide) ?_
      obtain rfl := Option.some.inj hd
      exact retZ hx hb hr hlk hK hP hD hS d_Rd_read_97 rfl (by decide +kernel)
  have lp31 : ∀ (k31_81 : T_Rd → Option (Int32 × T_Rd)) (hk31_81 : ∀ (z_31 : T_Rd) (H : Heap) (locs : List Loc) (ls : Array Slot), va_P D classes (ws_Rd g a z_31 ++ [(b 0, .inl (g 0, 100, .inl w))]) H → va_D A (ws_Rd g a z_31 ++ [(b 0, .inl (g 0, 100, .inl w))]) → va_S A s.heap H locs → lv_has ls 4 [(0, .ref (a 0))] → k31_81 z_31 = some v → GI p l e s m ({ frames := 137, cells := 0, slots := 0, locals := 4023 } : Room) ([.ref (a 0), .ref (b 0), .int x2] : List Value).toArray below meth c A D g (ws_Rd g a v.2 ++ [(b 0, .inl (g 0, 100, .inl w))]) (v.1) H locs (F0 m 81 ls [])) (k31_72 : T_Rd → Option (Int32 × T_Rd)) (hk31_72 : ∀ (z_31 : T_Rd) (H : Heap) (locs : List Loc) (ls : Array Slot), va_P D classes (ws_Rd g a z_31 ++ [(b 0, .inl (g 0, 100, .inl w))]) H → va_D A (ws_Rd g a z_31 ++ [(b 0, .inl (g 0, 100, .inl w))]) → va_S A s.heap H locs → lv_has ls 4 [(0, .ref (a 0))] → k31_72 z_31 = some v → GI p l e s m ({ frames := 137, cells := 0, slots := 0, locals := 4023 } : Room) ([.ref (a 0), .ref (b 0), .int x2] : List Value).toArray below meth c A D g (ws_Rd g a v.2 ++ [(b 0, .inl (g 0, 100, .inl w))]) (v.1) H locs (F0 m 72 ls [])) (n : Nat) (x3_31 : Int32) (z_31 : T_Rd) (H : Heap) (locs : List Loc) (ls : Array Slot), va_P D classes (ws_Rd g a z_31 ++ [(b 0, .inl (g 0, 100, .inl w))]) H → va_D A (ws_Rd g a z_31 ++ [(b 0, .inl (g 0, 100, .inl w))]) → va_S A s.heap H locs → lv_has ls 4 [(0, .ref (a 0)), (3, .int x3_31)] → d_Rd_read_L31 w k31_81 k31_72 n x3_31 z_31 = some v → GI p l e s m ({ frames := 137, cells := 0, slots := 0, locals := 4023 } : Room) ([.ref (a 0), .ref (b 0), .int x2] : List Value).toArray below meth c A D g (ws_Rd g a v.2 ++ [(b 0, .inl (g 0, 100, .inl w))]) (v.1) H locs (F0 m 31 ls []) := by
    intro k31_81 hk31_81 k31_72 hk31_72 n
    induction n with
    | zero =>
      intro  x3_31 z_31 H locs ls hP hD hS hl hd
      have hd : none = some v := hd
      cases hd
    | succ n ih31 =>
      intro  x3_31 z_31 H locs ls hP hD hS hl hd
      have hd : B_Rd_read_L31 w k31_81 k31_72 (d_Rd_read_L31 w k31_81 k31_72 n) x3_31 z_31 = some v := hd
      generalize d_Rd_read_L31 w k31_81 k31_72 n = self31 at ih31 hd
      unfold B_Rd_read_L31 at hd
      refine lv_iload_n hx hb d_Rd_read_31 rfl (lv_at hl 1 rfl) ?_
      refine lv_bipush (v := 10) hx hb d_Rd_read_32 (by decide) ?_
      refine lv_icmp_ge (tgt := 81) hx hb d_Rd_read_34 (by decide) (fun h_3 => ?_) (fun h_3 => ?_)
      · have hd := ite_t hd h_3
        exact hk31_81 z_31 _ _ _ hP hD hS (lv_sub hl [0] rfl) hd
      · have hd := ite_f hd h_3
        refine lv_aload_n hx hb d_Rd_read_37 rfl (lv_at hl 0 rfl) ?_
        obtain ⟨v_4, e_5, hd⟩ := bind_s hd
        refine callVI (ws' := ws_Rd g a v_4.2 ++ [(b 0, .inl (g 0, 100, .inl w))]) (rest := []) (As := []) hx hb hml hown hg hK hP hD hS hA hCs hl.1 (c_Rd_clause l D g a z_31 _ e_5) o_Rd_clause g_440 (ci := 6) (q0 := 0) rfl rfl (List.range' 0 7) (segC1 rfl rfl) (by decide) rfl (segP1 rfl rfl) rfl rfl (Nat.le_of_ble_eq_true rfl) ⟨rfl, rfl, Nat.le_of_ble_eq_true rfl, Nat.le_of_ble_eq_true rfl⟩ d_Rd_read_38 (fun H locs hP hD hS => ?_)
        refine lv_if_ne (tgt := 46) hx hb d_Rd_read_41 (by decide) (fun h_6 => ?_) (fun h_6 => ?_)
        · have hd := ite_f hd h_6
          refine lv_aload_n hx hb d_Rd_read_46 rfl (lv_at hl 0 rfl) ?_
          refine va_get (D := D) (ci := 6) (v := .int (q_Rd_place v_4.2)) (C := R_Rd) (T := F_Rd) (N := 4) hx hb hg i_Rd hown hK hP 0 rfl rfl 1 (by decide) (hg _ g_258) (fun _ h9 => h9) rfl d_Rd_read_47 ?_
          refine lv_aload_n hx hb d_Rd_read_50 rfl (lv_at hl 0 rfl) ?_
          refine va_get (D := D) (ci := 6) (v := .int (q_Rd_size v_4.2)) (C := R_Rd) (T := F_Rd) (N := 4) hx hb hg i_Rd hown hK hP 0 rfl rfl 3 (by decide) (hg _ g_261) (fun _ h9 => h9) rfl d_Rd_read_51 ?_
          refine lv_icmp_eq (tgt := 81) hx hb d_Rd_read_54 (by decide) (fun h_7 => ?_) (fun h_7 => ?_)
          · have hd := ite_t hd h_7
            exact hk31_81 v_4.2 _ _ _ hP hD hS (lv_sub hl [0] rfl) hd
          · have hd := ite_f hd h_7
            refine lv_iload_n hx hb d_Rd_read_57 rfl (lv_at hl 1 rfl) ?_
            refine lv_bipush (v := 9) hx hb d_Rd_read_58 (by decide) ?_
            refine lv_icmp_eq (tgt := 81) hx hb d_Rd_read_60 (by decide) (fun h_8 => ?_) (fun h_8 => ?_)
            · have hd := ite_t hd h_8
              exact hk31_81 v_4.2 _ _ _ hP hD hS (lv_sub hl [0] rfl) hd
            · have hd := ite_f hd h_8
              refine lv_aload_n hx hb d_Rd_read_63 rfl (lv_at hl 0 rfl) ?_
              refine lv_bipush (v := 59) hx hb d_Rd_read_64 (by decide) ?_
              obtain ⟨v_9, e_10, hd⟩ := bind_s hd
              refine callVI (ws' := ws_Rd g a v_9.2 ++ [(b 0, .inl (g 0, 100, .inl w))]) (rest := []) (As := [.int 59]) hx hb hml hown hg hK hP hD hS hA hCs hl.1 (c_Rd_eat l D g a 59 v_4.2 _ e_10) o_Rd_eat g_510 (ci := 6) (q0 := 0) rfl rfl (List.range' 0 7) (segC1 rfl rfl) (by decide) rfl (segP1 rfl rfl) rfl rfl (Nat.le_of_ble_eq_true rfl) ⟨rfl, rfl, Nat.le_of_ble_eq_true rfl, Nat.le_of_ble_eq_true rfl⟩ d_Rd_read_66 (fun H locs hP hD hS => ?_)
              refine lv_if_ne (tgt := 75) hx hb d_Rd_read_69 (by decide) (fun h_11 => ?_) (fun h_11 => ?_)
              · have hd := ite_f hd h_11
                refine lv_iinc (v := x3_31 + 1) (lv' := [(3, .int (x3_31 + 1)), (0, .ref (a 0))]) hx hb d_Rd_read_75 hl (k := 1) rfl (by rfl) (by decide) rfl (fun ls hl => ?_)
                refine lv_goto (tgt := 31) hx hb d_Rd_read_78 (by decide) ?_
                exact ih31 (x3_31 + 1) v_9.2 _ _ _ hP hD hS (lv_sub hl [1, 0] rfl) hd
              · have hd := ite_t hd h_11
                exact hk31_72 v_9.2 _ _ _ hP hD hS (lv_sub hl [0] rfl) hd
        · have hd := ite_t hd h_6
          refine lv_iconst (v := 0) hx hb d_Rd_read_44 (by decide) ?_
          obtain rfl := Option.some.inj hd
          exact retZ hx hb hr hlk hK hP hD hS d_Rd_read_45 rfl (by decide +kernel)
  exact lp31 _ ex31_81 _ ex31_72 1000 0 (u_Rd_draft (u_Rd_place (u_Rd_size (u_Rd_text z (va_cpy w (q_Rd_text z) 0 0 100)) x2) 0) v_1) _ _ _ hP hD hS (lv_sub hl [1, 0] rfl) hd

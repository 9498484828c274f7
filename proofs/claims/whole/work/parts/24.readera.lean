-- OwnsLift$Reader.eat(C)Z
def d_Rd_eat (x1 : Int32) (z : T_Rd) : Option (Int32 × T_Rd) :=
  if (q_Rd_size z) ≤ (q_Rd_place z) then (some (0, z)) else (if inb (q_Rd_place z) 100 = true then (if ((q_Rd_text z) (q_Rd_place z).toNatClampNeg) = x1 then (some (1, (u_Rd_place z ((q_Rd_place z) + 1)))) else (some (0, z))) else none)
theorem d_Rd_eat_0 : decode b_Rd_eat 0 = .ok (.aload_n 0, 1) := by decide +kernel
theorem d_Rd_eat_1 : decode b_Rd_eat 1 = .ok (.getfield 32, 3) := by decide +kernel
theorem d_Rd_eat_4 : decode b_Rd_eat 4 = .ok (.aload_n 0, 1) := by decide +kernel
theorem d_Rd_eat_5 : decode b_Rd_eat 5 = .ok (.getfield 28, 3) := by decide +kernel
theorem d_Rd_eat_8 : decode b_Rd_eat 8 = .ok (.if_icmp .ge 28, 3) := by decide +kernel
theorem d_Rd_eat_11 : decode b_Rd_eat 11 = .ok (.aload_n 0, 1) := by decide +kernel
theorem d_Rd_eat_12 : decode b_Rd_eat 12 = .ok (.getfield 18, 3) := by decide +kernel
theorem d_Rd_eat_15 : decode b_Rd_eat 15 = .ok (.aload_n 0, 1) := by decide +kernel
theorem d_Rd_eat_16 : decode b_Rd_eat 16 = .ok (.getfield 32, 3) := by decide +kernel
theorem d_Rd_eat_19 : decode b_Rd_eat 19 = .ok (.iaload, 1) := by decide +kernel
theorem d_Rd_eat_20 : decode b_Rd_eat 20 = .ok (.iload_n 1, 1) := by decide +kernel
theorem d_Rd_eat_21 : decode b_Rd_eat 21 = .ok (.if_icmp .ne 15, 3) := by decide +kernel
theorem d_Rd_eat_24 : decode b_Rd_eat 24 = .ok (.aload_n 0, 1) := by decide +kernel
theorem d_Rd_eat_25 : decode b_Rd_eat 25 = .ok (.dup, 1) := by decide +kernel
theorem d_Rd_eat_26 : decode b_Rd_eat 26 = .ok (.getfield 32, 3) := by decide +kernel
theorem d_Rd_eat_29 : decode b_Rd_eat 29 = .ok (.iconst 1, 1) := by decide +kernel
theorem d_Rd_eat_30 : decode b_Rd_eat 30 = .ok (.iadd, 1) := by decide +kernel
theorem d_Rd_eat_31 : decode b_Rd_eat 31 = .ok (.putfield 32, 3) := by decide +kernel
theorem d_Rd_eat_34 : decode b_Rd_eat 34 = .ok (.iconst 1, 1) := by decide +kernel
theorem d_Rd_eat_35 : decode b_Rd_eat 35 = .ok (.ireturn, 1) := by decide +kernel
theorem d_Rd_eat_36 : decode b_Rd_eat 36 = .ok (.iconst 0, 1) := by decide +kernel
theorem d_Rd_eat_37 : decode b_Rd_eat 37 = .ok (.ireturn, 1) := by decide +kernel
theorem o_Rd_eat : OkV y_Rd_eat "OwnsLift$Reader" b_Rd_eat 2 (some .boolean) 1 := ⟨⟨rfl, by decide +kernel, by decide +kernel, by decide +kernel⟩, g_512, g_3, g_76, g_513⟩
set_option maxHeartbeats 4000000 in
set_option maxRecDepth 100000 in
theorem c_Rd_eat (l : Launch) (D : va_G) (g : Nat → ClassId) (a : Nat → Nat) (x1 : Int32) (z : T_Rd) (v : Int32 × T_Rd) (h : d_Rd_eat x1 z = some v) :
    MI l y_Rd_eat b_Rd_eat 2 .boolean ({ frames := 0, cells := 0, slots := 0, locals := 0 } : Room) D g [.ref (a 0), .int x1] (ws_Rd g a z) (v.1) (ws_Rd g a v.2) := by
  have hd := h
  unfold d_Rd_eat at hd
  refine enterI rfl (Nat.le_of_ble_eq_true rfl) (fun p e s m below meth c A ls hx hb hml hr hown hg hlk hK hA hP hD hS hCs hl => ?_)
  have hown : s.vm.findClass "OwnsLift$Reader" = some m.cls := hown
  have hl : lv_has ls 2 [(0, .ref (a 0)), (1, .int x1)] := hl
  show GI p l e s m ({ frames := 0, cells := 0, slots := 0, locals := 0 } : Room) ([.ref (a 0), .int x1] : List Value).toArray below meth c A D g (ws_Rd g a v.2) (v.1) s.heap [] (F0 m 0 ls [])
  refine lv_aload_n hx hb d_Rd_eat_0 rfl (lv_at hl 0 rfl) ?_
  refine va_get (D := D) (ci := 6) (v := .int (q_Rd_place z)) (C := R_Rd) (T := F_Rd) (N := 4) hx hb hg i_Rd hown hK hP 0 rfl rfl 1 (by decide) (hg _ g_258) (fun _ h9 => h9) rfl d_Rd_eat_1 ?_
  refine lv_aload_n hx hb d_Rd_eat_4 rfl (lv_at hl 0 rfl) ?_
  refine va_get (D := D) (ci := 6) (v := .int (q_Rd_size z)) (C := R_Rd) (T := F_Rd) (N := 4) hx hb hg i_Rd hown hK hP 0 rfl rfl 3 (by decide) (hg _ g_261) (fun _ h9 => h9) rfl d_Rd_eat_5 ?_
  refine lv_icmp_ge (tgt := 36) hx hb d_Rd_eat_8 (by decide) (fun h_1 => ?_) (fun h_1 => ?_)
  · have hd := ite_t hd h_1
    refine lv_iconst (v := 0) hx hb d_Rd_eat_36 (by decide) ?_
    obtain rfl := Option.some.inj hd
    exact retZ hx hb hr hlk hK hP hD hS d_Rd_eat_37 rfl (by decide +kernel)
  · have hd := ite_f hd h_1
    refine lv_aload_n hx hb d_Rd_eat_11 rfl (lv_at hl 0 rfl) ?_
    refine va_get (D := D) (ci := 6) (v := .ref (a 6)) (C := R_Rd) (T := F_Rd) (N := 4) hx hb hg i_Rd hown hK hP 0 rfl rfl 2 (by decide) (hg _ g_260) (fun _ h9 => h9) rfl d_Rd_eat_12 ?_
    refine lv_aload_n hx hb d_Rd_eat_15 rfl (lv_at hl 0 rfl) ?_
    refine va_get (D := D) (ci := 6) (v := .int (q_Rd_place z)) (C := R_Rd) (T := F_Rd) (N := 4) hx hb hg i_Rd hown hK hP 0 rfl rfl 1 (by decide) (hg _ g_258) (fun _ h9 => h9) rfl d_Rd_eat_16 ?_
    obtain ⟨h_3, hd⟩ := ite_s hd
    refine ialdK hx hb hK hP 6 0 rfl rfl (inb_t h_3) rfl d_Rd_eat_19 ?_
    refine lv_iload_n hx hb d_Rd_eat_20 rfl (lv_at hl 1 rfl) ?_
    refine lv_icmp_ne (tgt := 36) hx hb d_Rd_eat_21 (by decide) (fun h_2 => ?_) (fun h_2 => ?_)
    · have hd := ite_f hd h_2
      refine lv_iconst (v := 0) hx hb d_Rd_eat_36 (by decide) ?_
      obtain rfl := Option.some.inj hd
      exact retZ hx hb hr hlk hK hP hD hS d_Rd_eat_37 rfl (by decide +kernel)
    · have hd := ite_t hd h_2
      refine lv_aload_n hx hb d_Rd_eat_24 rfl (lv_at hl 0 rfl) ?_
      refine lv_dup hx hb d_Rd_eat_25 rfl ?_
      refine va_get (D := D) (ci := 6) (v := .int (q_Rd_place z)) (C := R_Rd) (T := F_Rd) (N := 4) hx hb hg i_Rd hown hK hP 0 rfl rfl 1 (by decide) (hg _ g_258) (fun _ h9 => h9) rfl d_Rd_eat_26 ?_
      refine lv_iconst (v := 1) hx hb d_Rd_eat_29 (by decide) ?_
      refine lv_iadd hx hb d_Rd_eat_30 ?_
      refine va_put (D := D) (ci := 6) (v := .int ((q_Rd_place z) + 1)) (ty := .int) (C := R_Rd) (T := F_Rd) (N := 4) hx hb hg i_Rd t_Rd t_Rd_ok n_Rd hown hK hP hD hS 0 rfl rfl 1 (by decide) (hg _ g_258) (fun _ h9 => h9) rfl (by decide +kernel) rfl rfl (Nat.le_of_ble_eq_true rfl) d_Rd_eat_31 (fun H locs hP hD hS => ?_)
      have hP : va_P D classes (ws_Rd g a (u_Rd_place z ((q_Rd_place z) + 1))) H := hP
      have hD : va_D A (ws_Rd g a (u_Rd_place z ((q_Rd_place z) + 1))) := hD
      refine lv_iconst (v := 1) hx hb d_Rd_eat_34 (by decide) ?_
      obtain rfl := Option.some.inj hd
      exact retZ hx hb hr hlk hK hP hD hS d_Rd_eat_35 rfl (by decide +kernel)
-- OwnsLift$Reader.digitHere()Z
def d_Rd_digitHere (z : T_Rd) : Option (Int32) :=
  if (q_Rd_size z) ≤ (q_Rd_place z) then (some (0)) else (if inb (q_Rd_place z) 100 = true then (if ((q_Rd_text z) (q_Rd_place z).toNatClampNeg) < 48 then (some (0)) else (if inb (q_Rd_place z) 100 = true then (if 57 < ((q_Rd_text z) (q_Rd_place z).toNatClampNeg) then (some (0)) else (some (1))) else none)) else none)
theorem nz_Rd_digitHere {z : T_Rd} {v : Int32} (h : d_Rd_digitHere z = some v) : narrow .boolean (.int v) = .int v := by
  unfold d_Rd_digitHere at h
  (repeat' split at h) <;> first | (cases h; done) | (obtain rfl := Option.some.inj h; rfl)
theorem d_Rd_digitHere_0 : decode b_Rd_digitHere 0 = .ok (.aload_n 0, 1) := by decide +kernel
theorem d_Rd_digitHere_1 : decode b_Rd_digitHere 1 = .ok (.getfield 32, 3) := by decide +kernel
theorem d_Rd_digitHere_4 : decode b_Rd_digitHere 4 = .ok (.aload_n 0, 1) := by decide +kernel
theorem d_Rd_digitHere_5 : decode b_Rd_digitHere 5 = .ok (.getfield 28, 3) := by decide +kernel
theorem d_Rd_digitHere_8 : decode b_Rd_digitHere 8 = .ok (.if_icmp .ge 35, 3) := by decide +kernel
theorem d_Rd_digitHere_11 : decode b_Rd_digitHere 11 = .ok (.aload_n 0, 1) := by decide +kernel
theorem d_Rd_digitHere_12 : decode b_Rd_digitHere 12 = .ok (.getfield 18, 3) := by decide +kernel
theorem d_Rd_digitHere_15 : decode b_Rd_digitHere 15 = .ok (.aload_n 0, 1) := by decide +kernel
theorem d_Rd_digitHere_16 : decode b_Rd_digitHere 16 = .ok (.getfield 32, 3) := by decide +kernel
theorem d_Rd_digitHere_19 : decode b_Rd_digitHere 19 = .ok (.iaload, 1) := by decide +kernel
theorem d_Rd_digitHere_20 : decode b_Rd_digitHere 20 = .ok (.bipush 48, 2) := by decide +kernel
theorem d_Rd_digitHere_22 : decode b_Rd_digitHere 22 = .ok (.if_icmp .lt 21, 3) := by decide +kernel
theorem d_Rd_digitHere_25 : decode b_Rd_digitHere 25 = .ok (.aload_n 0, 1) := by decide +kernel
theorem d_Rd_digitHere_26 : decode b_Rd_digitHere 26 = .ok (.getfield 18, 3) := by decide +kernel
theorem d_Rd_digitHere_29 : decode b_Rd_digitHere 29 = .ok (.aload_n 0, 1) := by decide +kernel
theorem d_Rd_digitHere_30 : decode b_Rd_digitHere 30 = .ok (.getfield 32, 3) := by decide +kernel
theorem d_Rd_digitHere_33 : decode b_Rd_digitHere 33 = .ok (.iaload, 1) := by decide +kernel
theorem d_Rd_digitHere_34 : decode b_Rd_digitHere 34 = .ok (.bipush 57, 2) := by decide +kernel
theorem d_Rd_digitHere_36 : decode b_Rd_digitHere 36 = .ok (.if_icmp .gt 7, 3) := by decide +kernel
theorem d_Rd_digitHere_39 : decode b_Rd_digitHere 39 = .ok (.iconst 1, 1) := by decide +kernel
theorem d_Rd_digitHere_40 : decode b_Rd_digitHere 40 = .ok (.goto 4, 3) := by decide +kernel
theorem d_Rd_digitHere_43 : decode b_Rd_digitHere 43 = .ok (.iconst 0, 1) := by decide +kernel
theorem d_Rd_digitHere_44 : decode b_Rd_digitHere 44 = .ok (.ireturn, 1) := by decide +kernel
theorem o_Rd_digitHere : OkV y_Rd_digitHere "OwnsLift$Reader" b_Rd_digitHere 1 (some .boolean) 0 := ⟨⟨rfl, by decide +kernel, by decide +kernel, by decide +kernel⟩, g_520, g_5, g_76, g_521⟩
set_option maxHeartbeats 4000000 in
set_option maxRecDepth 100000 in
theorem c_Rd_digitHere (l : Launch) (D : va_G) (g : Nat → ClassId) (a : Nat → Nat) (z : T_Rd) (v : Int32) (h : d_Rd_digitHere z = some v) :
    MI l y_Rd_digitHere b_Rd_digitHere 1 .boolean ({ frames := 0, cells := 0, slots := 0, locals := 0 } : Room) D g [.ref (a 0)] (ws_Rd g a z) (v) (ws_Rd g a z) := by
  have hd := h
  unfold d_Rd_digitHere at hd
  refine enterI rfl (Nat.le_of_ble_eq_true rfl) (fun p e s m below meth c A ls hx hb hml hr hown hg hlk hK hA hP hD hS hCs hl => ?_)
  have hown : s.vm.findClass "OwnsLift$Reader" = some m.cls := hown
  have hl : lv_has ls 1 [(0, .ref (a 0))] := hl
  show GI p l e s m ({ frames := 0, cells := 0, slots := 0, locals := 0 } : Room) ([.ref (a 0)] : List Value).toArray below meth c A D g (ws_Rd g a z) (v) s.heap [] (F0 m 0 ls [])
  refine lv_aload_n hx hb d_Rd_digitHere_0 rfl (lv_at hl 0 rfl) ?_
  refine va_get (D := D) (ci := 6) (v := .int (q_Rd_place z)) (C := R_Rd) (T := F_Rd) (N := 4) hx hb hg i_Rd hown hK hP 0 rfl rfl 1 (by decide) (hg _ g_258) (fun _ h9 => h9) rfl d_Rd_digitHere_1 ?_
  refine lv_aload_n hx hb d_Rd_digitHere_4 rfl (lv_at hl 0 rfl) ?_
  refine va_get (D := D) (ci := 6) (v := .int (q_Rd_size z)) (C := R_Rd) (T := F_Rd) (N := 4) hx hb hg i_Rd hown hK hP 0 rfl rfl 3 (by decide) (hg _ g_261) (fun _ h9 => h9) rfl d_Rd_digitHere_5 ?_
  refine lv_icmp_ge (tgt := 43) hx hb d_Rd_digitHere_8 (by decide) (fun h_1 => ?_) (fun h_1 => ?_)
  · have hd := ite_t hd h_1
    refine lv_iconst (v := 0) hx hb d_Rd_digitHere_43 (by decide) ?_
    obtain rfl := Option.some.inj hd
    exact retZ hx hb hr hlk hK hP hD hS d_Rd_digitHere_44 rfl (by decide +kernel)
  · have hd := ite_f hd h_1
    refine lv_aload_n hx hb d_Rd_digitHere_11 rfl (lv_at hl 0 rfl) ?_
    refine va_get (D := D) (ci := 6) (v := .ref (a 6)) (C := R_Rd) (T := F_Rd) (N := 4) hx hb hg i_Rd hown hK hP 0 rfl rfl 2 (by decide) (hg _ g_260) (fun _ h9 => h9) rfl d_Rd_digitHere_12 ?_
    refine lv_aload_n hx hb d_Rd_digitHere_15 rfl (lv_at hl 0 rfl) ?_
    refine va_get (D := D) (ci := 6) (v := .int (q_Rd_place z)) (C := R_Rd) (T := F_Rd) (N := 4) hx hb hg i_Rd hown hK hP 0 rfl rfl 1 (by decide) (hg _ g_258) (fun _ h9 => h9) rfl d_Rd_digitHere_16 ?_
    obtain ⟨h_5, hd⟩ := ite_s hd
    refine ialdK hx hb hK hP 6 0 rfl rfl (inb_t h_5) rfl d_Rd_digitHere_19 ?_
    refine lv_bipush (v := 48) hx hb d_Rd_digitHere_20 (by decide) ?_
    refine lv_icmp_lt (tgt := 43) hx hb d_Rd_digitHere_22 (by decide) (fun h_2 => ?_) (fun h_2 => ?_)
    · have hd := ite_t hd h_2
      refine lv_iconst (v := 0) hx hb d_Rd_digitHere_43 (by decide) ?_
      obtain rfl := Option.some.inj hd
      exact retZ hx hb hr hlk hK hP hD hS d_Rd_digitHere_44 rfl (by decide +kernel)
    · have hd := ite_f hd h_2
      refine lv_aload_n hx hb d_Rd_digitHere_25 rfl (lv_at hl 0 rfl) ?_
      refine va_get (D := D) (ci := 6) (v := .ref (a 6)) (C := R_Rd) (T := F_Rd) (N := 4) hx hb hg i_Rd hown hK hP 0 rfl rfl 2 (by decide) (hg _ g_260) (fun _ h9 => h9) rfl d_Rd_digitHere_26 ?_
      refine lv_aload_n hx hb d_Rd_digitHere_29 rfl (lv_at hl 0 rfl) ?_
      refine va_get (D := D) (ci := 6) (v := .int (q_Rd_place z)) (C := R_Rd) (T := F_Rd) (N := 4) hx hb hg i_Rd hown hK hP 0 rfl rfl 1 (by decide) (hg _ g_258) (fun _ h9 => h9) rfl d_Rd_digitHere_30 ?_
      obtain ⟨h_4, hd⟩ := ite_s hd
      refine ialdK hx hb hK hP 6 0 rfl rfl (inb_t h_4) rfl d_Rd_digitHere_33 ?_
      refine lv_bipush (v := 57) hx hb d_Rd_digitHere_34 (by decide) ?_
      refine lv_icmp_gt (tgt := 43) hx hb d_Rd_digitHere_36 (by decide) (fun h_3 => ?_) (fun h_3 => ?_)
      · have hd := ite_t hd h_3
        refine lv_iconst (v := 0) hx hb d_Rd_digitHere_43 (by decide) ?_
        obtain rfl := Option.some.inj hd
        exact retZ hx hb hr hlk hK hP hD hS d_Rd_digitHere_44 rfl (by decide +kernel)
      · have hd := ite_f hd h_3
        refine lv_iconst (v := 1) hx hb d_Rd_digitHere_39 (by decide) ?_
        refine lv_goto (tgt := 44) hx hb d_Rd_digitHere_40 (by decide) ?_
        obtain rfl := Option.some.inj hd
        exact retZ hx hb hr hlk hK hP hD hS d_Rd_digitHere_44 rfl (by decide +kernel)
-- OwnsLift$Reader.number()I
def d_Rd_number (z : T_Rd) : Option (Int32 × T_Rd) :=
  (d_Rd_digitHere z).bind fun v_1 => if v_1 = 0 then (some ((-1), z)) else (if inb (q_Rd_place z) 100 = true then (if (((q_Rd_text z) (q_Rd_place z).toNatClampNeg) - 48) = 0 then (some (((q_Rd_text z) (q_Rd_place z).toNatClampNeg) - 48, (u_Rd_place z ((q_Rd_place z) + 1)))) else ((d_Rd_digitHere (u_Rd_place z ((q_Rd_place z) + 1))).bind fun v_5 => if v_5 = 0 then (some (((q_Rd_text z) (q_Rd_place z).toNatClampNeg) - 48, (u_Rd_place z ((q_Rd_place z) + 1)))) else (if inb (q_Rd_place (u_Rd_place z ((q_Rd_place z) + 1))) 100 = true then (some ((((((q_Rd_text z) (q_Rd_place z).toNatClampNeg) - 48) * 10) + ((q_Rd_text (u_Rd_place z ((q_Rd_place z) + 1))) (q_Rd_place (u_Rd_place z ((q_Rd_place z) + 1))).toNatClampNeg)) - 48, (u_Rd_place (u_Rd_place z ((q_Rd_place z) + 1)) ((q_Rd_place (u_Rd_place z ((q_Rd_place z) + 1))) + 1)))) else none))) else none)
theorem d_Rd_number_0 : decode b_Rd_number 0 = .ok (.aload_n 0, 1) := by decide +kernel
theorem d_Rd_number_1 : decode b_Rd_number 1 = .ok (.invokevirtual 109, 3) := by decide +kernel
theorem d_Rd_number_4 : decode b_Rd_number 4 = .ok (.ifCond .ne 5, 3) := by decide +kernel
theorem d_Rd_number_7 : decode b_Rd_number 7 = .ok (.iconst (-1), 1) := by decide +kernel
theorem d_Rd_number_8 : decode b_Rd_number 8 = .ok (.ireturn, 1) := by decide +kernel
theorem d_Rd_number_9 : decode b_Rd_number 9 = .ok (.aload_n 0, 1) := by decide +kernel
theorem d_Rd_number_10 : decode b_Rd_number 10 = .ok (.getfield 18, 3) := by decide +kernel
theorem d_Rd_number_13 : decode b_Rd_number 13 = .ok (.aload_n 0, 1) := by decide +kernel
theorem d_Rd_number_14 : decode b_Rd_number 14 = .ok (.getfield 32, 3) := by decide +kernel
theorem d_Rd_number_17 : decode b_Rd_number 17 = .ok (.iaload, 1) := by decide +kernel
theorem d_Rd_number_18 : decode b_Rd_number 18 = .ok (.bipush 48, 2) := by decide +kernel
theorem d_Rd_number_20 : decode b_Rd_number 20 = .ok (.isub, 1) := by decide +kernel
theorem d_Rd_number_21 : decode b_Rd_number 21 = .ok (.istore_n 1, 1) := by decide +kernel
theorem d_Rd_number_22 : decode b_Rd_number 22 = .ok (.aload_n 0, 1) := by decide +kernel
theorem d_Rd_number_23 : decode b_Rd_number 23 = .ok (.dup, 1) := by decide +kernel
theorem d_Rd_number_24 : decode b_Rd_number 24 = .ok (.getfield 32, 3) := by decide +kernel
theorem d_Rd_number_27 : decode b_Rd_number 27 = .ok (.iconst 1, 1) := by decide +kernel
theorem d_Rd_number_28 : decode b_Rd_number 28 = .ok (.iadd, 1) := by decide +kernel
theorem d_Rd_number_29 : decode b_Rd_number 29 = .ok (.putfield 32, 3) := by decide +kernel
theorem d_Rd_number_32 : decode b_Rd_number 32 = .ok (.iload_n 1, 1) := by decide +kernel
theorem d_Rd_number_33 : decode b_Rd_number 33 = .ok (.ifCond .eq 38, 3) := by decide +kernel
theorem d_Rd_number_36 : decode b_Rd_number 36 = .ok (.aload_n 0, 1) := by decide +kernel
theorem d_Rd_number_37 : decode b_Rd_number 37 = .ok (.invokevirtual 109, 3) := by decide +kernel
theorem d_Rd_number_40 : decode b_Rd_number 40 = .ok (.ifCond .eq 31, 3) := by decide +kernel
theorem d_Rd_number_43 : decode b_Rd_number 43 = .ok (.iload_n 1, 1) := by decide +kernel
theorem d_Rd_number_44 : decode b_Rd_number 44 = .ok (.bipush 10, 2) := by decide +kernel
theorem d_Rd_number_46 : decode b_Rd_number 46 = .ok (.imul, 1) := by decide +kernel
theorem d_Rd_number_47 : decode b_Rd_number 47 = .ok (.aload_n 0, 1) := by decide +kernel
theorem d_Rd_number_48 : decode b_Rd_number 48 = .ok (.getfield 18, 3) := by decide +kernel
theorem d_Rd_number_51 : decode b_Rd_number 51 = .ok (.aload_n 0, 1) := by decide +kernel
theorem d_Rd_number_52 : decode b_Rd_number 52 = .ok (.getfield 32, 3) := by decide +kernel
theorem d_Rd_number_55 : decode b_Rd_number 55 = .ok (.iaload, 1) := by decide +kernel
theorem d_Rd_number_56 : decode b_Rd_number 56 = .ok (.iadd, 1) := by decide +kernel
theorem d_Rd_number_57 : decode b_Rd_number 57 = .ok (.bipush 48, 2) := by decide +kernel
theorem d_Rd_number_59 : decode b_Rd_number 59 = .ok (.isub, 1) := by decide +kernel
theorem d_Rd_number_60 : decode b_Rd_number 60 = .ok (.istore_n 1, 1) := by decide +kernel
theorem d_Rd_number_61 : decode b_Rd_number 61 = .ok (.aload_n 0, 1) := by decide +kernel
theorem d_Rd_number_62 : decode b_Rd_number 62 = .ok (.dup, 1) := by decide +kernel
theorem d_Rd_number_63 : decode b_Rd_number 63 = .ok (.getfield 32, 3) := by decide +kernel
theorem d_Rd_number_66 : decode b_Rd_number 66 = .ok (.iconst 1, 1) := by decide +kernel
theorem d_Rd_number_67 : decode b_Rd_number 67 = .ok (.iadd, 1) := by decide +kernel
theorem d_Rd_number_68 : decode b_Rd_number 68 = .ok (.putfield 32, 3) := by decide +kernel
theorem d_Rd_number_71 : decode b_Rd_number 71 = .ok (.iload_n 1, 1) := by decide +kernel
theorem d_Rd_number_72 : decode b_Rd_number 72 = .ok (.ireturn, 1) := by decide +kernel
theorem o_Rd_number : OkV y_Rd_number "OwnsLift$Reader" b_Rd_number 2 (some .int) 0 := ⟨⟨rfl, by decide +kernel, by decide +kernel, by decide +kernel⟩, g_516, g_4, g_76, g_517⟩
set_option maxHeartbeats 4000000 in
set_option maxRecDepth 100000 in
theorem c_Rd_number (l : Launch) (D : va_G) (g : Nat → ClassId) (a : Nat → Nat) (z : T_Rd) (v : Int32 × T_Rd) (h : d_Rd_number z = some v) :
    MI l y_Rd_number b_Rd_number 2 .int ({ frames := 1, cells := 0, slots := 0, locals := 20 } : Room) D g [.ref (a 0)] (ws_Rd g a z) (v.1) (ws_Rd g a v.2) := by
  have hd := h
  unfold d_Rd_number at hd
  refine enterI rfl (Nat.le_of_ble_eq_true rfl) (fun p e s m below meth c A ls hx hb hml hr hown hg hlk hK hA hP hD hS hCs hl => ?_)
  have hown : s.vm.findClass "OwnsLift$Reader" = some m.cls := hown
  have hl : lv_has ls 2 [(0, .ref (a 0))] := hl
  show GI p l e s m ({ frames := 1, cells := 0, slots := 0, locals := 20 } : Room) ([.ref (a 0)] : List Value).toArray below meth c A D g (ws_Rd g a v.2) (v.1) s.heap [] (F0 m 0 ls [])
  refine lv_aload_n hx hb d_Rd_number_0 rfl (lv_at hl 0 rfl) ?_
  obtain ⟨v_1, e_2, hd⟩ := bind_s hd
  refine callVI (ws' := ws_Rd g a z) (rest := []) (As := []) hx hb hml hown hg hK hP hD hS hA hCs hl.1 (c_Rd_digitHere l D g a z _ e_2) o_Rd_digitHere g_518 (ci := 6) (q0 := 0) rfl rfl (List.range' 0 7) (segC1 rfl rfl) (by decide) rfl (segP1 rfl rfl) rfl rfl (Nat.le_of_ble_eq_true rfl) ⟨rfl, rfl, Nat.le_of_ble_eq_true rfl, Nat.le_of_ble_eq_true rfl⟩ d_Rd_number_1 (fun H locs hP hD hS => ?_)
  refine lv_if_ne (tgt := 9) hx hb d_Rd_number_4 (by decide) (fun h_3 => ?_) (fun h_3 => ?_)
  · have hd := ite_f hd h_3
    refine lv_aload_n hx hb d_Rd_number_9 rfl (lv_at hl 0 rfl) ?_
    refine va_get (D := D) (ci := 6) (v := .ref (a 6)) (C := R_Rd) (T := F_Rd) (N := 4) hx hb hg i_Rd hown hK hP 0 rfl rfl 2 (by decide) (hg _ g_260) (fun _ h9 => h9) rfl d_Rd_number_10 ?_
    refine lv_aload_n hx hb d_Rd_number_13 rfl (lv_at hl 0 rfl) ?_
    refine va_get (D := D) (ci := 6) (v := .int (q_Rd_place z)) (C := R_Rd) (T := F_Rd) (N := 4) hx hb hg i_Rd hown hK hP 0 rfl rfl 1 (by decide) (hg _ g_258) (fun _ h9 => h9) rfl d_Rd_number_14 ?_
    obtain ⟨h_9, hd⟩ := ite_s hd
    refine ialdK hx hb hK hP 6 0 rfl rfl (inb_t h_9) rfl d_Rd_number_17 ?_
    refine lv_bipush (v := 48) hx hb d_Rd_number_18 (by decide) ?_
    refine lv_isub hx hb d_Rd_number_20 ?_
    refine lv_istore_n (lv' := [(1, .int (((q_Rd_text z) (q_Rd_place z).toNatClampNeg) - 48)), (0, .ref (a 0))]) hx hb d_Rd_number_21 rfl hl (by decide) rfl (fun ls hl => ?_)
    refine lv_aload_n hx hb d_Rd_number_22 rfl (lv_at hl 1 rfl) ?_
    refine lv_dup hx hb d_Rd_number_23 rfl ?_
    refine va_get (D := D) (ci := 6) (v := .int (q_Rd_place z)) (C := R_Rd) (T := F_Rd) (N := 4) hx hb hg i_Rd hown hK hP 0 rfl rfl 1 (by decide) (hg _ g_258) (fun _ h9 => h9) rfl d_Rd_number_24 ?_
    refine lv_iconst (v := 1) hx hb d_Rd_number_27 (by decide) ?_
    refine lv_iadd hx hb d_Rd_number_28 ?_
    refine va_put (D := D) (ci := 6) (v := .int ((q_Rd_place z) + 1)) (ty := .int) (C := R_Rd) (T := F_Rd) (N := 4) hx hb hg i_Rd t_Rd t_Rd_ok n_Rd hown hK hP hD hS 0 rfl rfl 1 (by decide) (hg _ g_258) (fun _ h9 => h9) rfl (by decide +kernel) rfl rfl (Nat.le_of_ble_eq_true rfl) d_Rd_number_29 (fun H locs hP hD hS => ?_)
    have hP : va_P D classes (ws_Rd g a (u_Rd_place z ((q_Rd_place z) + 1))) H := hP
    have hD : va_D A (ws_Rd g a (u_Rd_place z ((q_Rd_place z) + 1))) := hD
    refine lv_iload_n hx hb d_Rd_number_32 rfl (lv_at hl 0 rfl) ?_
    refine lv_if_eq (tgt := 71) hx hb d_Rd_number_33 (by decide) (fun h_4 => ?_) (fun h_4 => ?_)
    · have hd := ite_t hd h_4
      refine lv_iload_n hx hb d_Rd_number_71 rfl (lv_at hl 0 rfl) ?_
      obtain rfl := Option.some.inj hd
      exact retI hx hb hr hlk hK hP hD hS d_Rd_number_72 rfl
    · have hd := ite_f hd h_4
      refine lv_aload_n hx hb d_Rd_number_36 rfl (lv_at hl 1 rfl) ?_
      obtain ⟨v_5, e_6, hd⟩ := bind_s hd
      refine callVI (ws' := ws_Rd g a (u_Rd_place z ((q_Rd_place z) + 1))) (rest := []) (As := []) hx hb hml hown hg hK hP hD hS hA hCs hl.1 (c_Rd_digitHere l D g a (u_Rd_place z ((q_Rd_place z) + 1)) _ e_6) o_Rd_digitHere g_518 (ci := 6) (q0 := 0) rfl rfl (List.range' 0 7) (segC1 rfl rfl) (by decide) rfl (segP1 rfl rfl) rfl rfl (Nat.le_of_ble_eq_true rfl) ⟨rfl, rfl, Nat.le_of_ble_eq_true rfl, Nat.le_of_ble_eq_true rfl⟩ d_Rd_number_37 (fun H locs hP hD hS => ?_)
      refine lv_if_eq (tgt := 71) hx hb d_Rd_number_40 (by decide) (fun h_7 => ?_) (fun h_7 => ?_)
      · have hd := ite_t hd h_7
        refine lv_iload_n hx hb d_Rd_number_71 rfl (lv_at hl 0 rfl) ?_
        obtain rfl := Option.some.inj hd
        exact retI hx hb hr hlk hK hP hD hS d_Rd_number_72 rfl
      · have hd := ite_f hd h_7
        refine lv_iload_n hx hb d_Rd_number_43 rfl (lv_at hl 0 rfl) ?_
        refine lv_bipush (v := 10) hx hb d_Rd_number_44 (by decide) ?_
        refine lv_imul hx hb d_Rd_number_46 ?_
        refine lv_aload_n hx hb d_Rd_number_47 rfl (lv_at hl 1 rfl) ?_
        refine va_get (D := D) (ci := 6) (v := .ref (a 6)) (C := R_Rd) (T := F_Rd) (N := 4) hx hb hg i_Rd hown hK hP 0 rfl rfl 2 (by decide) (hg _ g_260) (fun _ h9 => h9) rfl d_Rd_number_48 ?_
        refine lv_aload_n hx hb d_Rd_number_51 rfl (lv_at hl 1 rfl) ?_
        refine va_get (D := D) (ci := 6) (v := .int (q_Rd_place (u_Rd_place z ((q_Rd_place z) + 1)))) (C := R_Rd) (T := F_Rd) (N := 4) hx hb hg i_Rd hown hK hP 0 rfl rfl 1 (by decide) (hg _ g_258) (fun _ h9 => h9) rfl d_Rd_number_52 ?_
        obtain ⟨h_8, hd⟩ := ite_s hd
        refine ialdK hx hb hK hP 6 0 rfl rfl (inb_t h_8) rfl d_Rd_number_55 ?_
        refine lv_iadd hx hb d_Rd_number_56 ?_
        refine lv_bipush (v := 48) hx hb d_Rd_number_57 (by decide) ?_
        refine lv_isub hx hb d_Rd_number_59 ?_
        refine lv_istore_n (lv' := [(1, .int ((((((q_Rd_text z) (q_Rd_place z).toNatClampNeg) - 48) * 10) + ((q_Rd_text (u_Rd_place z ((q_Rd_place z) + 1))) (q_Rd_place (u_Rd_place z ((q_Rd_place z) + 1))).toNatClampNeg)) - 48)), (0, .ref (a 0))]) hx hb d_Rd_number_60 rfl hl (by decide) rfl (fun ls hl => ?_)
        refine lv_aload_n hx hb d_Rd_number_61 rfl (lv_at hl 1 rfl) ?_
        refine lv_dup hx hb d_Rd_number_62 rfl ?_
        refine va_get (D := D) (ci := 6) (v := .int (q_Rd_place (u_Rd_place z ((q_Rd_place z) + 1)))) (C := R_Rd) (T := F_Rd) (N := 4) hx hb hg i_Rd hown hK hP 0 rfl rfl 1 (by decide) (hg _ g_258) (fun _ h9 => h9) rfl d_Rd_number_63 ?_
        refine lv_iconst (v := 1) hx hb d_Rd_number_66 (by decide) ?_
        refine lv_iadd hx hb d_Rd_number_67 ?_
        refine va_put (D := D) (ci := 6) (v := .int ((q_Rd_place (u_Rd_place z ((q_Rd_place z) + 1))) + 1)) (ty := .int) (C := R_Rd) (T := F_Rd) (N := 4) hx hb hg i_Rd t_Rd t_Rd_ok n_Rd hown hK hP hD hS 0 rfl rfl 1 (by decide) (hg _ g_258) (fun _ h9 => h9) rfl (by decide +kernel) rfl rfl (Nat.le_of_ble_eq_true rfl) d_Rd_number_68 (fun H locs hP hD hS => ?_)
        have hP : va_P D classes (ws_Rd g a (u_Rd_place (u_Rd_place z ((q_Rd_place z) + 1)) ((q_Rd_place (u_Rd_place z ((q_Rd_place z) + 1))) + 1))) H := hP
        have hD : va_D A (ws_Rd g a (u_Rd_place (u_Rd_place z ((q_Rd_place z) + 1)) ((q_Rd_place (u_Rd_place z ((q_Rd_place z) + 1))) + 1))) := hD
        refine lv_iload_n hx hb d_Rd_number_71 rfl (lv_at hl 0 rfl) ?_
        obtain rfl := Option.some.inj hd
        exact retI hx hb hr hlk hK hP hD hS d_Rd_number_72 rfl
  · have hd := ite_t hd h_3
    refine lv_iconst (v := (-1)) hx hb d_Rd_number_7 (by decide) ?_
    obtain rfl := Option.some.inj hd
    exact retI hx hb hr hlk hK hP hD hS d_Rd_number_8 rfl

-- OwnsLift.feed(I)I
def d_OL_feed (x1 : Int32) (z : T_OL) : Option (Int32 × T_OL) :=
  if x1 < 0 then (some ((-2), z)) else (if x1 ≤ 127 then (if (q_Re_signs (q_OL_now z)) < 100 then (if inb (q_Re_signs (q_OL_now z)) 100 = true then (some ((q_Re_signs (q_OL_now (u_OL_now (u_OL_now z (u_Re_tape (q_OL_now z) (upd (q_Re_tape (q_OL_now z)) (q_Re_signs (q_OL_now z)).toNatClampNeg x1))) (u_Re_signs (q_OL_now (u_OL_now z (u_Re_tape (q_OL_now z) (upd (q_Re_tape (q_OL_now z)) (q_Re_signs (q_OL_now z)).toNatClampNeg x1)))) ((q_Re_signs (q_OL_now (u_OL_now z (u_Re_tape (q_OL_now z) (upd (q_Re_tape (q_OL_now z)) (q_Re_signs (q_OL_now z)).toNatClampNeg x1))))) + 1))))), (u_OL_now (u_OL_now z (u_Re_tape (q_OL_now z) (upd (q_Re_tape (q_OL_now z)) (q_Re_signs (q_OL_now z)).toNatClampNeg x1))) (u_Re_signs (q_OL_now (u_OL_now z (u_Re_tape (q_OL_now z) (upd (q_Re_tape (q_OL_now z)) (q_Re_signs (q_OL_now z)).toNatClampNeg x1)))) ((q_Re_signs (q_OL_now (u_OL_now z (u_Re_tape (q_OL_now z) (upd (q_Re_tape (q_OL_now z)) (q_Re_signs (q_OL_now z)).toNatClampNeg x1))))) + 1))))) else none) else (some ((-4), z))) else (some ((-2), z)))
theorem d_OL_feed_0 : decode b_OL_feed 0 = .ok (.iload_n 1, 1) := by decide +kernel
theorem d_OL_feed_1 : decode b_OL_feed 1 = .ok (.ifCond .lt 9, 3) := by decide +kernel
theorem d_OL_feed_4 : decode b_OL_feed 4 = .ok (.iload_n 1, 1) := by decide +kernel
theorem d_OL_feed_5 : decode b_OL_feed 5 = .ok (.bipush 127, 2) := by decide +kernel
theorem d_OL_feed_7 : decode b_OL_feed 7 = .ok (.if_icmp .le 6, 3) := by decide +kernel
theorem d_OL_feed_10 : decode b_OL_feed 10 = .ok (.bipush (-2), 2) := by decide +kernel
theorem d_OL_feed_12 : decode b_OL_feed 12 = .ok (.ireturn, 1) := by decide +kernel
theorem d_OL_feed_13 : decode b_OL_feed 13 = .ok (.aload_n 0, 1) := by decide +kernel
theorem d_OL_feed_14 : decode b_OL_feed 14 = .ok (.getfield 12, 3) := by decide +kernel
theorem d_OL_feed_17 : decode b_OL_feed 17 = .ok (.getfield 56, 3) := by decide +kernel
theorem d_OL_feed_20 : decode b_OL_feed 20 = .ok (.bipush 100, 2) := by decide +kernel
theorem d_OL_feed_22 : decode b_OL_feed 22 = .ok (.if_icmp .lt 6, 3) := by decide +kernel
theorem d_OL_feed_25 : decode b_OL_feed 25 = .ok (.bipush (-4), 2) := by decide +kernel
theorem d_OL_feed_27 : decode b_OL_feed 27 = .ok (.ireturn, 1) := by decide +kernel
theorem d_OL_feed_28 : decode b_OL_feed 28 = .ok (.aload_n 0, 1) := by decide +kernel
theorem d_OL_feed_29 : decode b_OL_feed 29 = .ok (.getfield 12, 3) := by decide +kernel
theorem d_OL_feed_32 : decode b_OL_feed 32 = .ok (.getfield 60, 3) := by decide +kernel
theorem d_OL_feed_35 : decode b_OL_feed 35 = .ok (.aload_n 0, 1) := by decide +kernel
theorem d_OL_feed_36 : decode b_OL_feed 36 = .ok (.getfield 12, 3) := by decide +kernel
theorem d_OL_feed_39 : decode b_OL_feed 39 = .ok (.getfield 56, 3) := by decide +kernel
theorem d_OL_feed_42 : decode b_OL_feed 42 = .ok (.iload_n 1, 1) := by decide +kernel
theorem d_OL_feed_43 : decode b_OL_feed 43 = .ok (.iastore, 1) := by decide +kernel
theorem d_OL_feed_44 : decode b_OL_feed 44 = .ok (.aload_n 0, 1) := by decide +kernel
theorem d_OL_feed_45 : decode b_OL_feed 45 = .ok (.getfield 12, 3) := by decide +kernel
theorem d_OL_feed_48 : decode b_OL_feed 48 = .ok (.dup, 1) := by decide +kernel
theorem d_OL_feed_49 : decode b_OL_feed 49 = .ok (.getfield 56, 3) := by decide +kernel
theorem d_OL_feed_52 : decode b_OL_feed 52 = .ok (.iconst 1, 1) := by decide +kernel
theorem d_OL_feed_53 : decode b_OL_feed 53 = .ok (.iadd, 1) := by decide +kernel
theorem d_OL_feed_54 : decode b_OL_feed 54 = .ok (.putfield 56, 3) := by decide +kernel
theorem d_OL_feed_57 : decode b_OL_feed 57 = .ok (.aload_n 0, 1) := by decide +kernel
theorem d_OL_feed_58 : decode b_OL_feed 58 = .ok (.getfield 12, 3) := by decide +kernel
theorem d_OL_feed_61 : decode b_OL_feed 61 = .ok (.getfield 56, 3) := by decide +kernel
theorem d_OL_feed_64 : decode b_OL_feed 64 = .ok (.ireturn, 1) := by decide +kernel
theorem o_OL_feed : OkV y_OL_feed "OwnsLift" b_OL_feed 2 (some .int) 1 := ⟨⟨rfl, by decide +kernel, by decide +kernel, by decide +kernel⟩, g_422, g_423, g_71, g_424⟩
set_option maxHeartbeats 4000000 in
set_option maxRecDepth 100000 in
theorem c_OL_feed (l : Launch) (D : va_G) (g : Nat → ClassId) (a : Nat → Nat) (x1 : Int32) (z : T_OL) (v : Int32 × T_OL) (h : d_OL_feed x1 z = some v) :
    MI l y_OL_feed b_OL_feed 2 .int ({ frames := 0, cells := 0, slots := 0, locals := 0 } : Room) D g [.ref (a 0), .int x1] (ws_OL g a z) (v.1) (ws_OL g a v.2) := by
  have hd := h
  unfold d_OL_feed at hd
  refine enterI rfl (Nat.le_of_ble_eq_true rfl) (fun p e s m below meth c A ls hx hb hml hr hown hg hlk hK hA hP hD hS hCs hl => ?_)
  have hown : s.vm.findClass "OwnsLift" = some m.cls := hown
  have hl : lv_has ls 2 [(0, .ref (a 0)), (1, .int x1)] := hl
  show GI p l e s m ({ frames := 0, cells := 0, slots := 0, locals := 0 } : Room) ([.ref (a 0), .int x1] : List Value).toArray below meth c A D g (ws_OL g a v.2) (v.1) s.heap [] (F0 m 0 ls [])
  refine lv_iload_n hx hb d_OL_feed_0 rfl (lv_at hl 1 rfl) ?_
  refine lv_if_lt (tgt := 10) hx hb d_OL_feed_1 (by decide) (fun h_1 => ?_) (fun h_1 => ?_)
  · have hd := ite_t hd h_1
    refine lv_bipush (v := (-2)) hx hb d_OL_feed_10 (by decide) ?_
    obtain rfl := Option.some.inj hd
    exact retI hx hb hr hlk hK hP hD hS d_OL_feed_12 rfl
  · have hd := ite_f hd h_1
    refine lv_iload_n hx hb d_OL_feed_4 rfl (lv_at hl 1 rfl) ?_
    refine lv_bipush (v := 127) hx hb d_OL_feed_5 (by decide) ?_
    refine lv_icmp_le (tgt := 13) hx hb d_OL_feed_7 (by decide) (fun h_2 => ?_) (fun h_2 => ?_)
    · have hd := ite_t hd h_2
      refine lv_aload_n hx hb d_OL_feed_13 rfl (lv_at hl 0 rfl) ?_
      refine va_get (D := D) (ci := 0) (v := .ref (a 1)) (C := R_OL) (T := F_OL) (N := 8) hx hb hg i_OL hown hK hP 0 rfl rfl 0 (by decide) (hg _ g_396) (fun _ h9 => h9) rfl d_OL_feed_14 ?_
      refine va_get (D := D) (ci := 7) (v := .int (q_Re_signs (q_OL_now z))) (C := R_Re) (T := F_Re) (N := 11) hx hb hg i_Re hown hK hP 1 rfl rfl 1 (by decide) (hg _ g_204) (fun _ h9 => h9) rfl d_OL_feed_17 ?_
      refine lv_bipush (v := 100) hx hb d_OL_feed_20 (by decide) ?_
      refine lv_icmp_lt (tgt := 28) hx hb d_OL_feed_22 (by decide) (fun h_3 => ?_) (fun h_3 => ?_)
      · have hd := ite_t hd h_3
        refine lv_aload_n hx hb d_OL_feed_28 rfl (lv_at hl 0 rfl) ?_
        refine va_get (D := D) (ci := 0) (v := .ref (a 1)) (C := R_OL) (T := F_OL) (N := 8) hx hb hg i_OL hown hK hP 0 rfl rfl 0 (by decide) (hg _ g_396) (fun _ h9 => h9) rfl d_OL_feed_29 ?_
        refine va_get (D := D) (ci := 7) (v := .ref (a 2)) (C := R_Re) (T := F_Re) (N := 11) hx hb hg i_Re hown hK hP 1 rfl rfl 0 (by decide) (hg _ g_203) (fun _ h9 => h9) rfl d_OL_feed_32 ?_
        refine lv_aload_n hx hb d_OL_feed_35 rfl (lv_at hl 0 rfl) ?_
        refine va_get (D := D) (ci := 0) (v := .ref (a 1)) (C := R_OL) (T := F_OL) (N := 8) hx hb hg i_OL hown hK hP 0 rfl rfl 0 (by decide) (hg _ g_396) (fun _ h9 => h9) rfl d_OL_feed_36 ?_
        refine va_get (D := D) (ci := 7) (v := .int (q_Re_signs (q_OL_now z))) (C := R_Re) (T := F_Re) (N := 11) hx hb hg i_Re hown hK hP 1 rfl rfl 1 (by decide) (hg _ g_204) (fun _ h9 => h9) rfl d_OL_feed_39 ?_
        refine lv_iload_n hx hb d_OL_feed_42 rfl (lv_at hl 1 rfl) ?_
        obtain ⟨h_4, hd⟩ := ite_s hd
        refine iastK hx hb hK hP hD hS 2 0 rfl rfl (inb_t h_4) rfl d_OL_feed_43 (fun H locs hP hD hS => ?_)
        have hP : va_P D classes (ws_OL g a (u_OL_now z (u_Re_tape (q_OL_now z) (upd (q_Re_tape (q_OL_now z)) (q_Re_signs (q_OL_now z)).toNatClampNeg x1)))) H := hP
        have hD : va_D A (ws_OL g a (u_OL_now z (u_Re_tape (q_OL_now z) (upd (q_Re_tape (q_OL_now z)) (q_Re_signs (q_OL_now z)).toNatClampNeg x1)))) := hD
        refine lv_aload_n hx hb d_OL_feed_44 rfl (lv_at hl 0 rfl) ?_
        refine va_get (D := D) (ci := 0) (v := .ref (a 1)) (C := R_OL) (T := F_OL) (N := 8) hx hb hg i_OL hown hK hP 0 rfl rfl 0 (by decide) (hg _ g_396) (fun _ h9 => h9) rfl d_OL_feed_45 ?_
        refine lv_dup hx hb d_OL_feed_48 rfl ?_
        refine va_get (D := D) (ci := 7) (v := .int (q_Re_signs (q_OL_now (u_OL_now z (u_Re_tape (q_OL_now z) (upd (q_Re_tape (q_OL_now z)) (q_Re_signs (q_OL_now z)).toNatClampNeg x1)))))) (C := R_Re) (T := F_Re) (N := 11) hx hb hg i_Re hown hK hP 1 rfl rfl 1 (by decide) (hg _ g_204) (fun _ h9 => h9) rfl d_OL_feed_49 ?_
        refine lv_iconst (v := 1) hx hb d_OL_feed_52 (by decide) ?_
        refine lv_iadd hx hb d_OL_feed_53 ?_
        refine va_put (D := D) (ci := 7) (v := .int ((q_Re_signs (q_OL_now (u_OL_now z (u_Re_tape (q_OL_now z) (upd (q_Re_tape (q_OL_now z)) (q_Re_signs (q_OL_now z)).toNatClampNeg x1))))) + 1)) (ty := .int) (C := R_Re) (T := F_Re) (N := 11) hx hb hg i_Re t_Re t_Re_ok n_Re hown hK hP hD hS 1 rfl rfl 1 (by decide) (hg _ g_204) (fun _ h9 => h9) rfl (by decide +kernel) rfl rfl (Nat.le_of_ble_eq_true rfl) d_OL_feed_54 (fun H locs hP hD hS => ?_)
        have hP : va_P D classes (ws_OL g a (u_OL_now (u_OL_now z (u_Re_tape (q_OL_now z) (upd (q_Re_tape (q_OL_now z)) (q_Re_signs (q_OL_now z)).toNatClampNeg x1))) (u_Re_signs (q_OL_now (u_OL_now z (u_Re_tape (q_OL_now z) (upd (q_Re_tape (q_OL_now z)) (q_Re_signs (q_OL_now z)).toNatClampNeg x1)))) ((q_Re_signs (q_OL_now (u_OL_now z (u_Re_tape (q_OL_now z) (upd (q_Re_tape (q_OL_now z)) (q_Re_signs (q_OL_now z)).toNatClampNeg x1))))) + 1)))) H := hP
        have hD : va_D A (ws_OL g a (u_OL_now (u_OL_now z (u_Re_tape (q_OL_now z) (upd (q_Re_tape (q_OL_now z)) (q_Re_signs (q_OL_now z)).toNatClampNeg x1))) (u_Re_signs (q_OL_now (u_OL_now z (u_Re_tape (q_OL_now z) (upd (q_Re_tape (q_OL_now z)) (q_Re_signs (q_OL_now z)).toNatClampNeg x1)))) ((q_Re_signs (q_OL_now (u_OL_now z (u_Re_tape (q_OL_now z) (upd (q_Re_tape (q_OL_now z)) (q_Re_signs (q_OL_now z)).toNatClampNeg x1))))) + 1)))) := hD
        refine lv_aload_n hx hb d_OL_feed_57 rfl (lv_at hl 0 rfl) ?_
        refine va_get (D := D) (ci := 0) (v := .ref (a 1)) (C := R_OL) (T := F_OL) (N := 8) hx hb hg i_OL hown hK hP 0 rfl rfl 0 (by decide) (hg _ g_396) (fun _ h9 => h9) rfl d_OL_feed_58 ?_
        refine va_get (D := D) (ci := 7) (v := .int (q_Re_signs (q_OL_now (u_OL_now (u_OL_now z (u_Re_tape (q_OL_now z) (upd (q_Re_tape (q_OL_now z)) (q_Re_signs (q_OL_now z)).toNatClampNeg x1))) (u_Re_signs (q_OL_now (u_OL_now z (u_Re_tape (q_OL_now z) (upd (q_Re_tape (q_OL_now z)) (q_Re_signs (q_OL_now z)).toNatClampNeg x1)))) ((q_Re_signs (q_OL_now (u_OL_now z (u_Re_tape (q_OL_now z) (upd (q_Re_tape (q_OL_now z)) (q_Re_signs (q_OL_now z)).toNatClampNeg x1))))) + 1)))))) (C := R_Re) (T := F_Re) (N := 11) hx hb hg i_Re hown hK hP 1 rfl rfl 1 (by decide) (hg _ g_204) (fun _ h9 => h9) rfl d_OL_feed_61 ?_
        obtain rfl := Option.some.inj hd
        exact retI hx hb hr hlk hK hP hD hS d_OL_feed_64 rfl
      · have hd := ite_f hd h_3
        refine lv_bipush (v := (-4)) hx hb d_OL_feed_25 (by decide) ?_
        obtain rfl := Option.some.inj hd
        exact retI hx hb hr hlk hK hP hD hS d_OL_feed_27 rfl
    · have hd := ite_f hd h_2
      refine lv_bipush (v := (-2)) hx hb d_OL_feed_10 (by decide) ?_
      obtain rfl := Option.some.inj hd
      exact retI hx hb hr hlk hK hP hD hS d_OL_feed_12 rfl
-- OwnsLift.land()I
def d_OL_land (z : T_OL) : Option (Int32 × T_OL) :=
  if (q_Re_lands (q_OL_now z)) < 5 then ((d_Rd_read (q_Re_signs (q_OL_now z)) (q_OL_reader z) (q_Re_tape (q_OL_now z))).bind fun v_2 => if v_2.1 = 0 then (some ((-10) - (q_Rd_place (q_OL_reader (u_OL_now (u_OL_reader z v_2.2) (u_Re_signs (q_OL_now (u_OL_reader z v_2.2)) 0)))), (u_OL_now (u_OL_reader z v_2.2) (u_Re_signs (q_OL_now (u_OL_reader z v_2.2)) 0)))) else ((d_La_copyFrom (q_Re_land (q_OL_now (u_OL_now (u_OL_reader z v_2.2) (u_Re_signs (q_OL_now (u_OL_reader z v_2.2)) 0)))) (q_Rd_draft (q_OL_reader (u_OL_now (u_OL_reader z v_2.2) (u_Re_signs (q_OL_now (u_OL_reader z v_2.2)) 0))))).bind fun v_5 => some ((q_Re_lands (q_OL_now (u_OL_now (u_OL_now (u_OL_now (u_OL_reader z v_2.2) (u_Re_signs (q_OL_now (u_OL_reader z v_2.2)) 0)) (u_Re_land (q_OL_now (u_OL_now (u_OL_reader z v_2.2) (u_Re_signs (q_OL_now (u_OL_reader z v_2.2)) 0))) v_5)) (u_Re_lands (q_OL_now (u_OL_now (u_OL_now (u_OL_reader z v_2.2) (u_Re_signs (q_OL_now (u_OL_reader z v_2.2)) 0)) (u_Re_land (q_OL_now (u_OL_now (u_OL_reader z v_2.2) (u_Re_signs (q_OL_now (u_OL_reader z v_2.2)) 0))) v_5))) ((q_Re_lands (q_OL_now (u_OL_now (u_OL_now (u_OL_reader z v_2.2) (u_Re_signs (q_OL_now (u_OL_reader z v_2.2)) 0)) (u_Re_land (q_OL_now (u_OL_now (u_OL_reader z v_2.2) (u_Re_signs (q_OL_now (u_OL_reader z v_2.2)) 0))) v_5)))) + 1))))) - 1, (u_OL_now (u_OL_now (u_OL_now (u_OL_reader z v_2.2) (u_Re_signs (q_OL_now (u_OL_reader z v_2.2)) 0)) (u_Re_land (q_OL_now (u_OL_now (u_OL_reader z v_2.2) (u_Re_signs (q_OL_now (u_OL_reader z v_2.2)) 0))) v_5)) (u_Re_lands (q_OL_now (u_OL_now (u_OL_now (u_OL_reader z v_2.2) (u_Re_signs (q_OL_now (u_OL_reader z v_2.2)) 0)) (u_Re_land (q_OL_now (u_OL_now (u_OL_reader z v_2.2) (u_Re_signs (q_OL_now (u_OL_reader z v_2.2)) 0))) v_5))) ((q_Re_lands (q_OL_now (u_OL_now (u_OL_now (u_OL_reader z v_2.2) (u_Re_signs (q_OL_now (u_OL_reader z v_2.2)) 0)) (u_Re_land (q_OL_now (u_OL_now (u_OL_reader z v_2.2) (u_Re_signs (q_OL_now (u_OL_reader z v_2.2)) 0))) v_5)))) + 1)))))) else (some ((-4), z))
theorem d_OL_land_0 : decode b_OL_land 0 = .ok (.aload_n 0, 1) := by decide +kernel
theorem d_OL_land_1 : decode b_OL_land 1 = .ok (.getfield 12, 3) := by decide +kernel
theorem d_OL_land_4 : decode b_OL_land 4 = .ok (.getfield 64, 3) := by decide +kernel
theorem d_OL_land_7 : decode b_OL_land 7 = .ok (.iconst 5, 1) := by decide +kernel
theorem d_OL_land_8 : decode b_OL_land 8 = .ok (.if_icmp .lt 6, 3) := by decide +kernel
theorem d_OL_land_11 : decode b_OL_land 11 = .ok (.bipush (-4), 2) := by decide +kernel
theorem d_OL_land_13 : decode b_OL_land 13 = .ok (.ireturn, 1) := by decide +kernel
theorem d_OL_land_14 : decode b_OL_land 14 = .ok (.aload_n 0, 1) := by decide +kernel
theorem d_OL_land_15 : decode b_OL_land 15 = .ok (.getfield 24, 3) := by decide +kernel
theorem d_OL_land_18 : decode b_OL_land 18 = .ok (.aload_n 0, 1) := by decide +kernel
theorem d_OL_land_19 : decode b_OL_land 19 = .ok (.getfield 12, 3) := by decide +kernel
theorem d_OL_land_22 : decode b_OL_land 22 = .ok (.getfield 60, 3) := by decide +kernel
theorem d_OL_land_25 : decode b_OL_land 25 = .ok (.aload_n 0, 1) := by decide +kernel
theorem d_OL_land_26 : decode b_OL_land 26 = .ok (.getfield 12, 3) := by decide +kernel
theorem d_OL_land_29 : decode b_OL_land 29 = .ok (.getfield 56, 3) := by decide +kernel
theorem d_OL_land_32 : decode b_OL_land 32 = .ok (.invokevirtual 67, 3) := by decide +kernel
theorem d_OL_land_35 : decode b_OL_land 35 = .ok (.istore_n 1, 1) := by decide +kernel
theorem d_OL_land_36 : decode b_OL_land 36 = .ok (.aload_n 0, 1) := by decide +kernel
theorem d_OL_land_37 : decode b_OL_land 37 = .ok (.getfield 12, 3) := by decide +kernel
theorem d_OL_land_40 : decode b_OL_land 40 = .ok (.iconst 0, 1) := by decide +kernel
theorem d_OL_land_41 : decode b_OL_land 41 = .ok (.putfield 56, 3) := by decide +kernel
theorem d_OL_land_44 : decode b_OL_land 44 = .ok (.iload_n 1, 1) := by decide +kernel
theorem d_OL_land_45 : decode b_OL_land 45 = .ok (.ifCond .ne 14, 3) := by decide +kernel
theorem d_OL_land_48 : decode b_OL_land 48 = .ok (.bipush (-10), 2) := by decide +kernel
theorem d_OL_land_50 : decode b_OL_land 50 = .ok (.aload_n 0, 1) := by decide +kernel
theorem d_OL_land_51 : decode b_OL_land 51 = .ok (.getfield 24, 3) := by decide +kernel
theorem d_OL_land_54 : decode b_OL_land 54 = .ok (.getfield 71, 3) := by decide +kernel
theorem d_OL_land_57 : decode b_OL_land 57 = .ok (.isub, 1) := by decide +kernel
theorem d_OL_land_58 : decode b_OL_land 58 = .ok (.ireturn, 1) := by decide +kernel
theorem d_OL_land_59 : decode b_OL_land 59 = .ok (.aload_n 0, 1) := by decide +kernel
theorem d_OL_land_60 : decode b_OL_land 60 = .ok (.getfield 12, 3) := by decide +kernel
theorem d_OL_land_63 : decode b_OL_land 63 = .ok (.getfield 74, 3) := by decide +kernel
theorem d_OL_land_66 : decode b_OL_land 66 = .ok (.aload_n 0, 1) := by decide +kernel
theorem d_OL_land_67 : decode b_OL_land 67 = .ok (.getfield 24, 3) := by decide +kernel
theorem d_OL_land_70 : decode b_OL_land 70 = .ok (.getfield 78, 3) := by decide +kernel
theorem d_OL_land_73 : decode b_OL_land 73 = .ok (.invokevirtual 81, 3) := by decide +kernel
theorem d_OL_land_76 : decode b_OL_land 76 = .ok (.aload_n 0, 1) := by decide +kernel
theorem d_OL_land_77 : decode b_OL_land 77 = .ok (.getfield 12, 3) := by decide +kernel
theorem d_OL_land_80 : decode b_OL_land 80 = .ok (.dup, 1) := by decide +kernel
theorem d_OL_land_81 : decode b_OL_land 81 = .ok (.getfield 64, 3) := by decide +kernel
theorem d_OL_land_84 : decode b_OL_land 84 = .ok (.iconst 1, 1) := by decide +kernel
theorem d_OL_land_85 : decode b_OL_land 85 = .ok (.iadd, 1) := by decide +kernel
theorem d_OL_land_86 : decode b_OL_land 86 = .ok (.putfield 64, 3) := by decide +kernel
theorem d_OL_land_89 : decode b_OL_land 89 = .ok (.aload_n 0, 1) := by decide +kernel
theorem d_OL_land_90 : decode b_OL_land 90 = .ok (.getfield 12, 3) := by decide +kernel
theorem d_OL_land_93 : decode b_OL_land 93 = .ok (.getfield 64, 3) := by decide +kernel
theorem d_OL_land_96 : decode b_OL_land 96 = .ok (.iconst 1, 1) := by decide +kernel
theorem d_OL_land_97 : decode b_OL_land 97 = .ok (.isub, 1) := by decide +kernel
theorem d_OL_land_98 : decode b_OL_land 98 = .ok (.ireturn, 1) := by decide +kernel
theorem o_OL_land : OkV y_OL_land "OwnsLift" b_OL_land 2 (some .int) 0 := ⟨⟨rfl, by decide +kernel, by decide +kernel, by decide +kernel⟩, g_426, g_427, g_71, g_428⟩
set_option maxHeartbeats 4000000 in
set_option maxRecDepth 100000 in
theorem c_OL_land (l : Launch) (D : va_G) (g : Nat → ClassId) (a : Nat → Nat) (z : T_OL) (v : Int32 × T_OL) (h : d_OL_land z = some v) :
    MI l y_OL_land b_OL_land 2 .int ({ frames := 138, cells := 0, slots := 0, locals := 4046 } : Room) D g [.ref (a 0)] (ws_OL g a z) (v.1) (ws_OL g a v.2) := by
  have hd := h
  unfold d_OL_land at hd
  refine enterI rfl (Nat.le_of_ble_eq_true rfl) (fun p e s m below meth c A ls hx hb hml hr hown hg hlk hK hA hP hD hS hCs hl => ?_)
  have hown : s.vm.findClass "OwnsLift" = some m.cls := hown
  have hl : lv_has ls 2 [(0, .ref (a 0))] := hl
  show GI p l e s m ({ frames := 138, cells := 0, slots := 0, locals := 4046 } : Room) ([.ref (a 0)] : List Value).toArray below meth c A D g (ws_OL g a v.2) (v.1) s.heap [] (F0 m 0 ls [])
  refine lv_aload_n hx hb d_OL_land_0 rfl (lv_at hl 0 rfl) ?_
  refine va_get (D := D) (ci := 0) (v := .ref (a 1)) (C := R_OL) (T := F_OL) (N := 8) hx hb hg i_OL hown hK hP 0 rfl rfl 0 (by decide) (hg _ g_396) (fun _ h9 => h9) rfl d_OL_land_1 ?_
  refine va_get (D := D) (ci := 7) (v := .int (q_Re_lands (q_OL_now z))) (C := R_Re) (T := F_Re) (N := 11) hx hb hg i_Re hown hK hP 1 rfl rfl 3 (by decide) (hg _ g_208) (fun _ h9 => h9) rfl d_OL_land_4 ?_
  refine lv_iconst (v := 5) hx hb d_OL_land_7 (by decide) ?_
  refine lv_icmp_lt (tgt := 14) hx hb d_OL_land_8 (by decide) (fun h_1 => ?_) (fun h_1 => ?_)
  · have hd := ite_t hd h_1
    refine lv_aload_n hx hb d_OL_land_14 rfl (lv_at hl 0 rfl) ?_
    refine va_get (D := D) (ci := 0) (v := .ref (a 49)) (C := R_OL) (T := F_OL) (N := 8) hx hb hg i_OL hown hK hP 0 rfl rfl 3 (by decide) (hg _ g_399) (fun _ h9 => h9) rfl d_OL_land_15 ?_
    refine lv_aload_n hx hb d_OL_land_18 rfl (lv_at hl 0 rfl) ?_
    refine va_get (D := D) (ci := 0) (v := .ref (a 1)) (C := R_OL) (T := F_OL) (N := 8) hx hb hg i_OL hown hK hP 0 rfl rfl 0 (by decide) (hg _ g_396) (fun _ h9 => h9) rfl d_OL_land_19 ?_
    refine va_get (D := D) (ci := 7) (v := .ref (a 2)) (C := R_Re) (T := F_Re) (N := 11) hx hb hg i_Re hown hK hP 1 rfl rfl 0 (by decide) (hg _ g_203) (fun _ h9 => h9) rfl d_OL_land_22 ?_
    refine lv_aload_n hx hb d_OL_land_25 rfl (lv_at hl 0 rfl) ?_
    refine va_get (D := D) (ci := 0) (v := .ref (a 1)) (C := R_OL) (T := F_OL) (N := 8) hx hb hg i_OL hown hK hP 0 rfl rfl 0 (by decide) (hg _ g_396) (fun _ h9 => h9) rfl d_OL_land_26 ?_
    refine va_get (D := D) (ci := 7) (v := .int (q_Re_signs (q_OL_now z))) (C := R_Re) (T := F_Re) (N := 11) hx hb hg i_Re hown hK hP 1 rfl rfl 1 (by decide) (hg _ g_204) (fun _ h9 => h9) rfl d_OL_land_29 ?_
    obtain ⟨v_2, e_3, hd⟩ := bind_s hd
    refine callVI (ws' := ws_OL g a (u_OL_reader z v_2.2)) (rest := []) (As := [.ref ((sh a 2) 0), .int (q_Re_signs (q_OL_now z))]) hx hb hml hown hg hK hP hD hS hA hCs hl.1 (c_Rd_read l D g (sh a 49) (sh a 2) (q_Re_signs (q_OL_now z)) (q_OL_reader z) (q_Re_tape (q_OL_now z)) _ e_3) o_Rd_read g_429 (ci := 6) (q0 := 49) rfl rfl (List.range' 49 7 ++ List.range' 2 1) (segC2 rfl rfl rfl rfl) (by decide) rfl (segP2 rfl rfl rfl) rfl rfl (Nat.le_of_ble_eq_true rfl) ⟨rfl, rfl, Nat.le_of_ble_eq_true rfl, Nat.le_of_ble_eq_true rfl⟩ d_OL_land_32 (fun H locs hP hD hS => ?_)
    refine lv_istore_n (lv' := [(1, .int v_2.1), (0, .ref (a 0))]) hx hb d_OL_land_35 rfl hl (by decide) rfl (fun ls hl => ?_)
    refine lv_aload_n hx hb d_OL_land_36 rfl (lv_at hl 1 rfl) ?_
    refine va_get (D := D) (ci := 0) (v := .ref (a 1)) (C := R_OL) (T := F_OL) (N := 8) hx hb hg i_OL hown hK hP 0 rfl rfl 0 (by decide) (hg _ g_396) (fun _ h9 => h9) rfl d_OL_land_37 ?_
    refine lv_iconst (v := 0) hx hb d_OL_land_40 (by decide) ?_
    refine va_put (D := D) (ci := 7) (v := .int 0) (ty := .int) (C := R_Re) (T := F_Re) (N := 11) hx hb hg i_Re t_Re t_Re_ok n_Re hown hK hP hD hS 1 rfl rfl 1 (by decide) (hg _ g_204) (fun _ h9 => h9) rfl (by decide +kernel) rfl rfl (Nat.le_of_ble_eq_true rfl) d_OL_land_41 (fun H locs hP hD hS => ?_)
    have hP : va_P D classes (ws_OL g a (u_OL_now (u_OL_reader z v_2.2) (u_Re_signs (q_OL_now (u_OL_reader z v_2.2)) 0))) H := hP
    have hD : va_D A (ws_OL g a (u_OL_now (u_OL_reader z v_2.2) (u_Re_signs (q_OL_now (u_OL_reader z v_2.2)) 0))) := hD
    refine lv_iload_n hx hb d_OL_land_44 rfl (lv_at hl 0 rfl) ?_
    refine lv_if_ne (tgt := 59) hx hb d_OL_land_45 (by decide) (fun h_4 => ?_) (fun h_4 => ?_)
    · have hd := ite_f hd h_4
      refine lv_aload_n hx hb d_OL_land_59 rfl (lv_at hl 1 rfl) ?_
      refine va_get (D := D) (ci := 0) (v := .ref (a 1)) (C := R_OL) (T := F_OL) (N := 8) hx hb hg i_OL hown hK hP 0 rfl rfl 0 (by decide) (hg _ g_396) (fun _ h9 => h9) rfl d_OL_land_60 ?_
      refine va_get (D := D) (ci := 7) (v := .ref (a 3)) (C := R_Re) (T := F_Re) (N := 11) hx hb hg i_Re hown hK hP 1 rfl rfl 2 (by decide) (hg _ g_207) (fun _ h9 => h9) rfl d_OL_land_63 ?_
      refine lv_aload_n hx hb d_OL_land_66 rfl (lv_at hl 1 rfl) ?_
      refine va_get (D := D) (ci := 0) (v := .ref (a 49)) (C := R_OL) (T := F_OL) (N := 8) hx hb hg i_OL hown hK hP 0 rfl rfl 3 (by decide) (hg _ g_399) (fun _ h9 => h9) rfl d_OL_land_67 ?_
      refine va_get (D := D) (ci := 6) (v := .ref (a 50)) (C := R_Rd) (T := F_Rd) (N := 4) hx hb hg i_Rd hown hK hP 49 rfl rfl 0 (by decide) (hg _ g_257) (fun _ h9 => h9) rfl d_OL_land_70 ?_
      obtain ⟨v_5, e_6, hd⟩ := bind_s hd
      refine callVV (ws' := ws_OL g a (u_OL_now (u_OL_now (u_OL_reader z v_2.2) (u_Re_signs (q_OL_now (u_OL_reader z v_2.2)) 0)) (u_Re_land (q_OL_now (u_OL_now (u_OL_reader z v_2.2) (u_Re_signs (q_OL_now (u_OL_reader z v_2.2)) 0))) v_5))) (rest := []) (As := [.ref ((sh a 50) 0)]) hx hb hml hown hg hK hP hD hS hA hCs hl.1 (c_La_copyFrom l D g (sh a 3) (sh a 50) (q_Re_land (q_OL_now (u_OL_now (u_OL_reader z v_2.2) (u_Re_signs (q_OL_now (u_OL_reader z v_2.2)) 0)))) (q_Rd_draft (q_OL_reader (u_OL_now (u_OL_reader z v_2.2) (u_Re_signs (q_OL_now (u_OL_reader z v_2.2)) 0)))) _ e_6) o_La_copyFrom g_605 (ci := 4) (q0 := 3) rfl rfl (List.range' 3 5 ++ List.range' 50 5) (segC2 rfl rfl rfl rfl) (by decide) rfl (segP2 rfl rfl rfl) rfl rfl (Nat.le_of_ble_eq_true rfl) ⟨rfl, rfl, Nat.le_of_ble_eq_true rfl, Nat.le_of_ble_eq_true rfl⟩ d_OL_land_73 (fun H locs hP hD hS => ?_)
      refine lv_aload_n hx hb d_OL_land_76 rfl (lv_at hl 1 rfl) ?_
      refine va_get (D := D) (ci := 0) (v := .ref (a 1)) (C := R_OL) (T := F_OL) (N := 8) hx hb hg i_OL hown hK hP 0 rfl rfl 0 (by decide) (hg _ g_396) (fun _ h9 => h9) rfl d_OL_land_77 ?_
      refine lv_dup hx hb d_OL_land_80 rfl ?_
      refine va_get (D := D) (ci := 7) (v := .int (q_Re_lands (q_OL_now (u_OL_now (u_OL_now (u_OL_reader z v_2.2) (u_Re_signs (q_OL_now (u_OL_reader z v_2.2)) 0)) (u_Re_land (q_OL_now (u_OL_now (u_OL_reader z v_2.2) (u_Re_signs (q_OL_now (u_OL_reader z v_2.2)) 0))) v_5))))) (C := R_Re) (T := F_Re) (N := 11) hx hb hg i_Re hown hK hP 1 rfl rfl 3 (by decide) (hg _ g_208) (fun _ h9 => h9) rfl d_OL_land_81 ?_
      refine lv_iconst (v := 1) hx hb d_OL_land_84 (by decide) ?_
      refine lv_iadd hx hb d_OL_land_85 ?_
      refine va_put (D := D) (ci := 7) (v := .int ((q_Re_lands (q_OL_now (u_OL_now (u_OL_now (u_OL_reader z v_2.2) (u_Re_signs (q_OL_now (u_OL_reader z v_2.2)) 0)) (u_Re_land (q_OL_now (u_OL_now (u_OL_reader z v_2.2) (u_Re_signs (q_OL_now (u_OL_reader z v_2.2)) 0))) v_5)))) + 1)) (ty := .int) (C := R_Re) (T := F_Re) (N := 11) hx hb hg i_Re t_Re t_Re_ok n_Re hown hK hP hD hS 1 rfl rfl 3 (by decide) (hg _ g_208) (fun _ h9 => h9) rfl (by decide +kernel) rfl rfl (Nat.le_of_ble_eq_true rfl) d_OL_land_86 (fun H locs hP hD hS => ?_)
      have hP : va_P D classes (ws_OL g a (u_OL_now (u_OL_now (u_OL_now (u_OL_reader z v_2.2) (u_Re_signs (q_OL_now (u_OL_reader z v_2.2)) 0)) (u_Re_land (q_OL_now (u_OL_now (u_OL_reader z v_2.2) (u_Re_signs (q_OL_now (u_OL_reader z v_2.2)) 0))) v_5)) (u_Re_lands (q_OL_now (u_OL_now (u_OL_now (u_OL_reader z v_2.2) (u_Re_signs (q_OL_now (u_OL_reader z v_2.2)) 0)) (u_Re_land (q_OL_now (u_OL_now (u_OL_reader z v_2.2) (u_Re_signs (q_OL_now (u_OL_reader z v_2.2)) 0))) v_5))) ((q_Re_lands (q_OL_now (u_OL_now (u_OL_now (u_OL_reader z v_2.2) (u_Re_signs (q_OL_now (u_OL_reader z v_2.2)) 0)) (u_Re_land (q_OL_now (u_OL_now (u_OL_reader z v_2.2) (u_Re_signs (q_OL_now (u_OL_reader z v_2.2)) 0))) v_5)))) + 1)))) H := hP
      have hD : va_D A (ws_OL g a (u_OL_now (u_OL_now (u_OL_now (u_OL_reader z v_2.2) (u_Re_signs (q_OL_now (u_OL_reader z v_2.2)) 0)) (u_Re_land (q_OL_now (u_OL_now (u_OL_reader z v_2.2) (u_Re_signs (q_OL_now (u_OL_reader z v_2.2)) 0))) v_5)) (u_Re_lands (q_OL_now (u_OL_now (u_OL_now (u_OL_reader z v_2.2) (u_Re_signs (q_OL_now (u_OL_reader z v_2.2)) 0)) (u_Re_land (q_OL_now (u_OL_now (u_OL_reader z v_2.2) (u_Re_signs (q_OL_now (u_OL_reader z v_2.2)) 0))) v_5))) ((q_Re_lands (q_OL_now (u_OL_now (u_OL_now (u_OL_reader z v_2.2) (u_Re_signs (q_OL_now (u_OL_reader z v_2.2)) 0)) (u_Re_land (q_OL_now (u_OL_now (u_OL_reader z v_2.2) (u_Re_signs (q_OL_now (u_OL_reader z v_2.2)) 0))) v_5)))) + 1)))) := hD
      refine lv_aload_n hx hb d_OL_land_89 rfl (lv_at hl 1 rfl) ?_
      refine va_get (D := D) (ci := 0) (v := .ref (a 1)) (C := R_OL) (T := F_OL) (N := 8) hx hb hg i_OL hown hK hP 0 rfl rfl 0 (by decide) (hg _ g_396) (fun _ h9 => h9) rfl d_OL_land_90 ?_
      refine va_get (D := D) (ci := 7) (v := .int (q_Re_lands (q_OL_now (u_OL_now (u_OL_now (u_OL_now (u_OL_reader z v_2.2) (u_Re_signs (q_OL_now (u_OL_reader z v_2.2)) 0)) (u_Re_land (q_OL_now (u_OL_now (u_OL_reader z v_2.2) (u_Re_signs (q_OL_now (u_OL_reader z v_2.2)) 0))) v_5)) (u_Re_lands (q_OL_now (u_OL_now (u_OL_now (u_OL_reader z v_2.2) (u_Re_signs (q_OL_now (u_OL_reader z v_2.2)) 0)) (u_Re_land (q_OL_now (u_OL_now (u_OL_reader z v_2.2) (u_Re_signs (q_OL_now (u_OL_reader z v_2.2)) 0))) v_5))) ((q_Re_lands (q_OL_now (u_OL_now (u_OL_now (u_OL_reader z v_2.2) (u_Re_signs (q_OL_now (u_OL_reader z v_2.2)) 0)) (u_Re_land (q_OL_now (u_OL_now (u_OL_reader z v_2.2) (u_Re_signs (q_OL_now (u_OL_reader z v_2.2)) 0))) v_5)))) + 1)))))) (C := R_Re) (T := F_Re) (N := 11) hx hb hg i_Re hown hK hP 1 rfl rfl 3 (by decide) (hg _ g_208) (fun _ h9 => h9) rfl d_OL_land_93 ?_
      refine lv_iconst (v := 1) hx hb d_OL_land_96 (by decide) ?_
      refine lv_isub hx hb d_OL_land_97 ?_
      obtain rfl := Option.some.inj hd
      exact retI hx hb hr hlk hK hP hD hS d_OL_land_98 rfl
    · have hd := ite_t hd h_4
      refine lv_bipush (v := (-10)) hx hb d_OL_land_48 (by decide) ?_
      refine lv_aload_n hx hb d_OL_land_50 rfl (lv_at hl 1 rfl) ?_
      refine va_get (D := D) (ci := 0) (v := .ref (a 49)) (C := R_OL) (T := F_OL) (N := 8) hx hb hg i_OL hown hK hP 0 rfl rfl 3 (by decide) (hg _ g_399) (fun _ h9 => h9) rfl d_OL_land_51 ?_
      refine va_get (D := D) (ci := 6) (v := .int (q_Rd_place (q_OL_reader (u_OL_now (u_OL_reader z v_2.2) (u_Re_signs (q_OL_now (u_OL_reader z v_2.2)) 0))))) (C := R_Rd) (T := F_Rd) (N := 4) hx hb hg i_Rd hown hK hP 49 rfl rfl 1 (by decide) (hg _ g_259) (fun _ h9 => h9) rfl d_OL_land_54 ?_
      refine lv_isub hx hb d_OL_land_57 ?_
      obtain rfl := Option.some.inj hd
      exact retI hx hb hr hlk hK hP hD hS d_OL_land_58 rfl
  · have hd := ite_f hd h_1
    refine lv_bipush (v := (-4)) hx hb d_OL_land_11 (by decide) ?_
    obtain rfl := Option.some.inj hd
    exact retI hx hb hr hlk hK hP hD hS d_OL_land_13 rfl
-- OwnsLift.isKind(I)Z
def d_OL_isKind (x0 : Int32) : Option (Int32) :=
  if x0 < 0 then (some (0)) else (if 7 ≤ x0 then (some (0)) else (some (1)))
theorem d_OL_isKind_0 : decode b_OL_isKind 0 = .ok (.iload_n 0, 1) := by decide +kernel
theorem d_OL_isKind_1 : decode b_OL_isKind 1 = .ok (.ifCond .lt 13, 3) := by decide +kernel
theorem d_OL_isKind_4 : decode b_OL_isKind 4 = .ok (.iload_n 0, 1) := by decide +kernel
theorem d_OL_isKind_5 : decode b_OL_isKind 5 = .ok (.bipush 7, 2) := by decide +kernel
theorem d_OL_isKind_7 : decode b_OL_isKind 7 = .ok (.if_icmp .ge 7, 3) := by decide +kernel
theorem d_OL_isKind_10 : decode b_OL_isKind 10 = .ok (.iconst 1, 1) := by decide +kernel
theorem d_OL_isKind_11 : decode b_OL_isKind 11 = .ok (.goto 4, 3) := by decide +kernel
theorem d_OL_isKind_14 : decode b_OL_isKind 14 = .ok (.iconst 0, 1) := by decide +kernel
theorem d_OL_isKind_15 : decode b_OL_isKind 15 = .ok (.ireturn, 1) := by decide +kernel
theorem o_OL_isKind : OkS y_OL_isKind b_OL_isKind 1 (some .boolean) 1 := ⟨⟨by decide +kernel, by decide +kernel, by decide +kernel⟩, g_616, g_71, g_617⟩
set_option maxHeartbeats 4000000 in
set_option maxRecDepth 100000 in
theorem c_OL_isKind (l : Launch) (D : va_G) (g : Nat → ClassId) (x0 : Int32) (v : Int32) (h : d_OL_isKind x0 = some v) :
    MI l y_OL_isKind b_OL_isKind 1 .boolean ({ frames := 0, cells := 0, slots := 0, locals := 0 } : Room) D g [.int x0] (([] : va_W)) (v) (([] : va_W)) := by
  have hd := h
  unfold d_OL_isKind at hd
  refine enterI rfl (Nat.le_of_ble_eq_true rfl) (fun p e s m below meth c A ls hx hb hml hr hown hg hlk hK hA hP hD hS hCs hl => ?_)
  have hown : s.vm.findClass "OwnsLift" = some m.cls := hown
  have hl : lv_has ls 1 [(0, .int x0)] := hl
  show GI p l e s m ({ frames := 0, cells := 0, slots := 0, locals := 0 } : Room) ([.int x0] : List Value).toArray below meth c A D g (([] : va_W)) (v) s.heap [] (F0 m 0 ls [])
  refine lv_iload_n hx hb d_OL_isKind_0 rfl (lv_at hl 0 rfl) ?_
  refine lv_if_lt (tgt := 14) hx hb d_OL_isKind_1 (by decide) (fun h_1 => ?_) (fun h_1 => ?_)
  · have hd := ite_t hd h_1
    refine lv_iconst (v := 0) hx hb d_OL_isKind_14 (by decide) ?_
    obtain rfl := Option.some.inj hd
    exact retZ hx hb hr hlk hK hP hD hS d_OL_isKind_15 rfl (by decide +kernel)
  · have hd := ite_f hd h_1
    refine lv_iload_n hx hb d_OL_isKind_4 rfl (lv_at hl 0 rfl) ?_
    refine lv_bipush (v := 7) hx hb d_OL_isKind_5 (by decide) ?_
    refine lv_icmp_ge (tgt := 14) hx hb d_OL_isKind_7 (by decide) (fun h_2 => ?_) (fun h_2 => ?_)
    · have hd := ite_t hd h_2
      refine lv_iconst (v := 0) hx hb d_OL_isKind_14 (by decide) ?_
      obtain rfl := Option.some.inj hd
      exact retZ hx hb hr hlk hK hP hD hS d_OL_isKind_15 rfl (by decide +kernel)
    · have hd := ite_f hd h_2
      refine lv_iconst (v := 1) hx hb d_OL_isKind_10 (by decide) ?_
      refine lv_goto (tgt := 15) hx hb d_OL_isKind_11 (by decide) ?_
      obtain rfl := Option.some.inj hd
      exact retZ hx hb hr hlk hK hP hD hS d_OL_isKind_15 rfl (by decide +kernel)
-- OwnsLift.within(II)Z
def d_OL_within (x0 : Int32) (x1 : Int32) : Option (Int32) :=
  if x0 < 0 then (some (0)) else (if x1 < x0 then (some (0)) else (some (1)))
theorem d_OL_within_0 : decode b_OL_within 0 = .ok (.iload_n 0, 1) := by decide +kernel
theorem d_OL_within_1 : decode b_OL_within 1 = .ok (.ifCond .lt 12, 3) := by decide +kernel
theorem d_OL_within_4 : decode b_OL_within 4 = .ok (.iload_n 0, 1) := by decide +kernel
theorem d_OL_within_5 : decode b_OL_within 5 = .ok (.iload_n 1, 1) := by decide +kernel
theorem d_OL_within_6 : decode b_OL_within 6 = .ok (.if_icmp .gt 7, 3) := by decide +kernel
theorem d_OL_within_9 : decode b_OL_within 9 = .ok (.iconst 1, 1) := by decide +kernel
theorem d_OL_within_10 : decode b_OL_within 10 = .ok (.goto 4, 3) := by decide +kernel
theorem d_OL_within_13 : decode b_OL_within 13 = .ok (.iconst 0, 1) := by decide +kernel
theorem d_OL_within_14 : decode b_OL_within 14 = .ok (.ireturn, 1) := by decide +kernel
theorem o_OL_within : OkS y_OL_within b_OL_within 2 (some .boolean) 2 := ⟨⟨by decide +kernel, by decide +kernel, by decide +kernel⟩, g_619, g_71, g_620⟩
set_option maxHeartbeats 4000000 in
set_option maxRecDepth 100000 in
theorem c_OL_within (l : Launch) (D : va_G) (g : Nat → ClassId) (x0 : Int32) (x1 : Int32) (v : Int32) (h : d_OL_within x0 x1 = some v) :
    MI l y_OL_within b_OL_within 2 .boolean ({ frames := 0, cells := 0, slots := 0, locals := 0 } : Room) D g [.int x0, .int x1] (([] : va_W)) (v) (([] : va_W)) := by
  have hd := h
  unfold d_OL_within at hd
  refine enterI rfl (Nat.le_of_ble_eq_true rfl) (fun p e s m below meth c A ls hx hb hml hr hown hg hlk hK hA hP hD hS hCs hl => ?_)
  have hown : s.vm.findClass "OwnsLift" = some m.cls := hown
  have hl : lv_has ls 2 [(0, .int x0), (1, .int x1)] := hl
  show GI p l e s m ({ frames := 0, cells := 0, slots := 0, locals := 0 } : Room) ([.int x0, .int x1] : List Value).toArray below meth c A D g (([] : va_W)) (v) s.heap [] (F0 m 0 ls [])
  refine lv_iload_n hx hb d_OL_within_0 rfl (lv_at hl 0 rfl) ?_
  refine lv_if_lt (tgt := 13) hx hb d_OL_within_1 (by decide) (fun h_1 => ?_) (fun h_1 => ?_)
  · have hd := ite_t hd h_1
    refine lv_iconst (v := 0) hx hb d_OL_within_13 (by decide) ?_
    obtain rfl := Option.some.inj hd
    exact retZ hx hb hr hlk hK hP hD hS d_OL_within_14 rfl (by decide +kernel)
  · have hd := ite_f hd h_1
    refine lv_iload_n hx hb d_OL_within_4 rfl (lv_at hl 0 rfl) ?_
    refine lv_iload_n hx hb d_OL_within_5 rfl (lv_at hl 1 rfl) ?_
    refine lv_icmp_gt (tgt := 13) hx hb d_OL_within_6 (by decide) (fun h_2 => ?_) (fun h_2 => ?_)
    · have hd := ite_t hd h_2
      refine lv_iconst (v := 0) hx hb d_OL_within_13 (by decide) ?_
      obtain rfl := Option.some.inj hd
      exact retZ hx hb hr hlk hK hP hD hS d_OL_within_14 rfl (by decide +kernel)
    · have hd := ite_f hd h_2
      refine lv_iconst (v := 1) hx hb d_OL_within_9 (by decide) ?_
      refine lv_goto (tgt := 14) hx hb d_OL_within_10 (by decide) ?_
      obtain rfl := Option.some.inj hd
      exact retZ hx hb hr hlk hK hP hD hS d_OL_within_14 rfl (by decide +kernel)
-- OwnsLift.person(IIII)I
def d_OL_person (x1 : Int32) (x2 : Int32) (x3 : Int32) (x4 : Int32) (z : T_OL) : Option (Int32 × T_OL) :=
  (d_OL_isKind x1).bind fun v_1 => if v_1 = 0 then (some ((-1), z)) else ((d_OL_within x2 9).bind fun v_4 => if v_4 = 0 then (some ((-2), z)) else ((d_OL_within x3 99).bind fun v_7 => if v_7 = 0 then (some ((-2), z)) else ((d_OL_within x4 99).bind fun v_10 => if v_10 = 0 then (some ((-2), z)) else (if (q_Pe_size (q_Re_people (q_OL_now z))) < 4 then ((d_Pe_add x1 x2 x3 x4 (q_Re_people (q_OL_now z))).bind fun v_14 => some (v_14.1, (u_OL_now z (u_Re_people (q_OL_now z) v_14.2)))) else (some ((-4), z))))))
theorem d_OL_person_0 : decode b_OL_person 0 = .ok (.iload_n 1, 1) := by decide +kernel
theorem d_OL_person_1 : decode b_OL_person 1 = .ok (.invokestatic 87, 3) := by decide +kernel
theorem d_OL_person_4 : decode b_OL_person 4 = .ok (.ifCond .ne 5, 3) := by decide +kernel
theorem d_OL_person_7 : decode b_OL_person 7 = .ok (.iconst (-1), 1) := by decide +kernel
theorem d_OL_person_8 : decode b_OL_person 8 = .ok (.ireturn, 1) := by decide +kernel
theorem d_OL_person_9 : decode b_OL_person 9 = .ok (.iload_n 2, 1) := by decide +kernel
theorem d_OL_person_10 : decode b_OL_person 10 = .ok (.bipush 9, 2) := by decide +kernel
theorem d_OL_person_12 : decode b_OL_person 12 = .ok (.invokestatic 91, 3) := by decide +kernel
theorem d_OL_person_15 : decode b_OL_person 15 = .ok (.ifCond .eq 22, 3) := by decide +kernel
theorem d_OL_person_18 : decode b_OL_person 18 = .ok (.iload_n 3, 1) := by decide +kernel
theorem d_OL_person_19 : decode b_OL_person 19 = .ok (.bipush 99, 2) := by decide +kernel
theorem d_OL_person_21 : decode b_OL_person 21 = .ok (.invokestatic 91, 3) := by decide +kernel
theorem d_OL_person_24 : decode b_OL_person 24 = .ok (.ifCond .eq 13, 3) := by decide +kernel
theorem d_OL_person_27 : decode b_OL_person 27 = .ok (.iload 4, 2) := by decide +kernel
theorem d_OL_person_29 : decode b_OL_person 29 = .ok (.bipush 99, 2) := by decide +kernel
theorem d_OL_person_31 : decode b_OL_person 31 = .ok (.invokestatic 91, 3) := by decide +kernel
theorem d_OL_person_34 : decode b_OL_person 34 = .ok (.ifCond .ne 6, 3) := by decide +kernel
theorem d_OL_person_37 : decode b_OL_person 37 = .ok (.bipush (-2), 2) := by decide +kernel
theorem d_OL_person_39 : decode b_OL_person 39 = .ok (.ireturn, 1) := by decide +kernel
theorem d_OL_person_40 : decode b_OL_person 40 = .ok (.aload_n 0, 1) := by decide +kernel
theorem d_OL_person_41 : decode b_OL_person 41 = .ok (.getfield 12, 3) := by decide +kernel
theorem d_OL_person_44 : decode b_OL_person 44 = .ok (.getfield 95, 3) := by decide +kernel
theorem d_OL_person_47 : decode b_OL_person 47 = .ok (.getfield 99, 3) := by decide +kernel
theorem d_OL_person_50 : decode b_OL_person 50 = .ok (.iconst 4, 1) := by decide +kernel
theorem d_OL_person_51 : decode b_OL_person 51 = .ok (.if_icmp .lt 6, 3) := by decide +kernel
theorem d_OL_person_54 : decode b_OL_person 54 = .ok (.bipush (-4), 2) := by decide +kernel
theorem d_OL_person_56 : decode b_OL_person 56 = .ok (.ireturn, 1) := by decide +kernel
theorem d_OL_person_57 : decode b_OL_person 57 = .ok (.aload_n 0, 1) := by decide +kernel
theorem d_OL_person_58 : decode b_OL_person 58 = .ok (.getfield 12, 3) := by decide +kernel
theorem d_OL_person_61 : decode b_OL_person 61 = .ok (.getfield 95, 3) := by decide +kernel
theorem d_OL_person_64 : decode b_OL_person 64 = .ok (.iload_n 1, 1) := by decide +kernel
theorem d_OL_person_65 : decode b_OL_person 65 = .ok (.iload_n 2, 1) := by decide +kernel
theorem d_OL_person_66 : decode b_OL_person 66 = .ok (.iload_n 3, 1) := by decide +kernel
theorem d_OL_person_67 : decode b_OL_person 67 = .ok (.iload 4, 2) := by decide +kernel
theorem d_OL_person_69 : decode b_OL_person 69 = .ok (.invokevirtual 104, 3) := by decide +kernel
theorem d_OL_person_72 : decode b_OL_person 72 = .ok (.ireturn, 1) := by decide +kernel
theorem o_OL_person : OkV y_OL_person "OwnsLift" b_OL_person 5 (some .int) 4 := ⟨⟨rfl, by decide +kernel, by decide +kernel, by decide +kernel⟩, g_612, g_613, g_71, g_614⟩
set_option maxHeartbeats 4000000 in
set_option maxRecDepth 100000 in
theorem c_OL_person (l : Launch) (D : va_G) (g : Nat → ClassId) (a : Nat → Nat) (x1 : Int32) (x2 : Int32) (x3 : Int32) (x4 : Int32) (z : T_OL) (v : Int32 × T_OL) (h : d_OL_person x1 x2 x3 x4 z = some v) :
    MI l y_OL_person b_OL_person 5 .int ({ frames := 1, cells := 0, slots := 0, locals := 25 } : Room) D g [.ref (a 0), .int x1, .int x2, .int x3, .int x4] (ws_OL g a z) (v.1) (ws_OL g a v.2) := by
  have hd := h
  unfold d_OL_person at hd
  refine enterI rfl (Nat.le_of_ble_eq_true rfl) (fun p e s m below meth c A ls hx hb hml hr hown hg hlk hK hA hP hD hS hCs hl => ?_)
  have hown : s.vm.findClass "OwnsLift" = some m.cls := hown
  have hl : lv_has ls 5 [(0, .ref (a 0)), (1, .int x1), (2, .int x2), (3, .int x3), (4, .int x4)] := hl
  show GI p l e s m ({ frames := 1, cells := 0, slots := 0, locals := 25 } : Room) ([.ref (a 0), .int x1, .int x2, .int x3, .int x4] : List Value).toArray below meth c A D g (ws_OL g a v.2) (v.1) s.heap [] (F0 m 0 ls [])
  refine lv_iload_n hx hb d_OL_person_0 rfl (lv_at hl 1 rfl) ?_
  obtain ⟨v_1, e_2, hd⟩ := bind_s hd
  refine callSI (ws' := ws_OL g a z) (rest := []) (As := [.int x1]) hx hb hml hown hg hK hP hD hS hA hCs hl.1 (c_OL_isKind l D g  x1 _ e_2) o_OL_isKind g_615 [] segC0 rfl rfl segP0 rfl rfl (Nat.le_of_ble_eq_true rfl) ⟨rfl, rfl, Nat.le_of_ble_eq_true rfl, Nat.le_of_ble_eq_true rfl⟩ d_OL_person_1 (fun H locs hP hD hS => ?_)
  refine lv_if_ne (tgt := 9) hx hb d_OL_person_4 (by decide) (fun h_3 => ?_) (fun h_3 => ?_)
  · have hd := ite_f hd h_3
    refine lv_iload_n hx hb d_OL_person_9 rfl (lv_at hl 2 rfl) ?_
    refine lv_bipush (v := 9) hx hb d_OL_person_10 (by decide) ?_
    obtain ⟨v_4, e_5, hd⟩ := bind_s hd
    refine callSI (ws' := ws_OL g a z) (rest := []) (As := [.int x2, .int 9]) hx hb hml hown hg hK hP hD hS hA hCs hl.1 (c_OL_within l D g  x2 9 _ e_5) o_OL_within g_618 [] segC0 rfl rfl segP0 rfl rfl (Nat.le_of_ble_eq_true rfl) ⟨rfl, rfl, Nat.le_of_ble_eq_true rfl, Nat.le_of_ble_eq_true rfl⟩ d_OL_person_12 (fun H locs hP hD hS => ?_)
    refine lv_if_eq (tgt := 37) hx hb d_OL_person_15 (by decide) (fun h_6 => ?_) (fun h_6 => ?_)
    · have hd := ite_t hd h_6
      refine lv_bipush (v := (-2)) hx hb d_OL_person_37 (by decide) ?_
      obtain rfl := Option.some.inj hd
      exact retI hx hb hr hlk hK hP hD hS d_OL_person_39 rfl
    · have hd := ite_f hd h_6
      refine lv_iload_n hx hb d_OL_person_18 rfl (lv_at hl 3 rfl) ?_
      refine lv_bipush (v := 99) hx hb d_OL_person_19 (by decide) ?_
      obtain ⟨v_7, e_8, hd⟩ := bind_s hd
      refine callSI (ws' := ws_OL g a z) (rest := []) (As := [.int x3, .int 99]) hx hb hml hown hg hK hP hD hS hA hCs hl.1 (c_OL_within l D g  x3 99 _ e_8) o_OL_within g_618 [] segC0 rfl rfl segP0 rfl rfl (Nat.le_of_ble_eq_true rfl) ⟨rfl, rfl, Nat.le_of_ble_eq_true rfl, Nat.le_of_ble_eq_true rfl⟩ d_OL_person_21 (fun H locs hP hD hS => ?_)
      refine lv_if_eq (tgt := 37) hx hb d_OL_person_24 (by decide) (fun h_9 => ?_) (fun h_9 => ?_)
      · have hd := ite_t hd h_9
        refine lv_bipush (v := (-2)) hx hb d_OL_person_37 (by decide) ?_
        obtain rfl := Option.some.inj hd
        exact retI hx hb hr hlk hK hP hD hS d_OL_person_39 rfl
      · have hd := ite_f hd h_9
        refine lv_iload hx hb d_OL_person_27 (lv_at hl 4 rfl) ?_
        refine lv_bipush (v := 99) hx hb d_OL_person_29 (by decide) ?_
        obtain ⟨v_10, e_11, hd⟩ := bind_s hd
        refine callSI (ws' := ws_OL g a z) (rest := []) (As := [.int x4, .int 99]) hx hb hml hown hg hK hP hD hS hA hCs hl.1 (c_OL_within l D g  x4 99 _ e_11) o_OL_within g_618 [] segC0 rfl rfl segP0 rfl rfl (Nat.le_of_ble_eq_true rfl) ⟨rfl, rfl, Nat.le_of_ble_eq_true rfl, Nat.le_of_ble_eq_true rfl⟩ d_OL_person_31 (fun H locs hP hD hS => ?_)
        refine lv_if_ne (tgt := 40) hx hb d_OL_person_34 (by decide) (fun h_12 => ?_) (fun h_12 => ?_)
        · have hd := ite_f hd h_12
          refine lv_aload_n hx hb d_OL_person_40 rfl (lv_at hl 0 rfl) ?_
          refine va_get (D := D) (ci := 0) (v := .ref (a 1)) (C := R_OL) (T := F_OL) (N := 8) hx hb hg i_OL hown hK hP 0 rfl rfl 0 (by decide) (hg _ g_396) (fun _ h9 => h9) rfl d_OL_person_41 ?_
          refine va_get (D := D) (ci := 7) (v := .ref (a 8)) (C := R_Re) (T := F_Re) (N := 11) hx hb hg i_Re hown hK hP 1 rfl rfl 4 (by decide) (hg _ g_212) (fun _ h9 => h9) rfl d_OL_person_44 ?_
          refine va_get (D := D) (ci := 5) (v := .int (q_Pe_size (q_Re_people (q_OL_now z)))) (C := R_Pe) (T := F_Pe) (N := 7) hx hb hg i_Pe hown hK hP 8 rfl rfl 0 (by decide) (hg _ g_141) (fun _ h9 => h9) rfl d_OL_person_47 ?_
          refine lv_iconst (v := 4) hx hb d_OL_person_50 (by decide) ?_
          refine lv_icmp_lt (tgt := 57) hx hb d_OL_person_51 (by decide) (fun h_13 => ?_) (fun h_13 => ?_)
          · have hd := ite_t hd h_13
            refine lv_aload_n hx hb d_OL_person_57 rfl (lv_at hl 0 rfl) ?_
            refine va_get (D := D) (ci := 0) (v := .ref (a 1)) (C := R_OL) (T := F_OL) (N := 8) hx hb hg i_OL hown hK hP 0 rfl rfl 0 (by decide) (hg _ g_396) (fun _ h9 => h9) rfl d_OL_person_58 ?_
            refine va_get (D := D) (ci := 7) (v := .ref (a 8)) (C := R_Re) (T := F_Re) (N := 11) hx hb hg i_Re hown hK hP 1 rfl rfl 4 (by decide) (hg _ g_212) (fun _ h9 => h9) rfl d_OL_person_61 ?_
            refine lv_iload_n hx hb d_OL_person_64 rfl (lv_at hl 1 rfl) ?_
            refine lv_iload_n hx hb d_OL_person_65 rfl (lv_at hl 2 rfl) ?_
            refine lv_iload_n hx hb d_OL_person_66 rfl (lv_at hl 3 rfl) ?_
            refine lv_iload hx hb d_OL_person_67 (lv_at hl 4 rfl) ?_
            obtain ⟨v_14, e_15, hd⟩ := bind_s hd
            refine callVI (ws' := ws_OL g a (u_OL_now z (u_Re_people (q_OL_now z) v_14.2))) (rest := []) (As := [.int x1, .int x2, .int x3, .int x4]) hx hb hml hown hg hK hP hD hS hA hCs hl.1 (c_Pe_add l D g (sh a 8) x1 x2 x3 x4 (q_Re_people (q_OL_now z)) _ e_15) o_Pe_add g_621 (ci := 5) (q0 := 8) rfl rfl (List.range' 8 11) (segC1 rfl rfl) (by decide) rfl (segP1 rfl rfl) rfl rfl (Nat.le_of_ble_eq_true rfl) ⟨rfl, rfl, Nat.le_of_ble_eq_true rfl, Nat.le_of_ble_eq_true rfl⟩ d_OL_person_69 (fun H locs hP hD hS => ?_)
            obtain rfl := Option.some.inj hd
            exact retI hx hb hr hlk hK hP hD hS d_OL_person_72 rfl
          · have hd := ite_f hd h_13
            refine lv_bipush (v := (-4)) hx hb d_OL_person_54 (by decide) ?_
            obtain rfl := Option.some.inj hd
            exact retI hx hb hr hlk hK hP hD hS d_OL_person_56 rfl
        · have hd := ite_t hd h_12
          refine lv_bipush (v := (-2)) hx hb d_OL_person_37 (by decide) ?_
          obtain rfl := Option.some.inj hd
          exact retI hx hb hr hlk hK hP hD hS d_OL_person_39 rfl
  · have hd := ite_t hd h_3
    refine lv_iconst (v := (-1)) hx hb d_OL_person_7 (by decide) ?_
    obtain rfl := Option.some.inj hd
    exact retI hx hb hr hlk hK hP hD hS d_OL_person_8 rfl
-- OwnsLift.of(II)I
def d_OL_of (x1 : Int32) (x2 : Int32) (z : T_OL) : Option (Int32 × T_OL) :=
  (d_Pe_has x1 (q_Re_people (q_OL_now z))).bind fun v_1 => if v_1 = 0 then (some ((-1), z)) else ((d_St_take (q_OL_standing z) (q_OL_now z)).bind fun v_4 => if x2 = 0 then (if inb x1 4 = true then (some ((q_Pe_kind (q_Re_people (q_OL_now (u_OL_now (u_OL_standing z v_4.1) v_4.2)))) x1.toNatClampNeg, (u_OL_now (u_OL_standing z v_4.1) v_4.2))) else none) else (if x2 = 1 then (if inb x1 4 = true then (some ((q_Pe_v (q_Re_people (q_OL_now (u_OL_now (u_OL_standing z v_4.1) v_4.2)))) x1.toNatClampNeg, (u_OL_now (u_OL_standing z v_4.1) v_4.2))) else none) else (if x2 = 2 then (if inb x1 4 = true then (some ((q_Pe_strength (q_Re_people (q_OL_now (u_OL_now (u_OL_standing z v_4.1) v_4.2)))) x1.toNatClampNeg, (u_OL_now (u_OL_standing z v_4.1) v_4.2))) else none) else (if x2 = 3 then (if inb x1 4 = true then (some ((q_Pe_age (q_Re_people (q_OL_now (u_OL_now (u_OL_standing z v_4.1) v_4.2)))) x1.toNatClampNeg, (u_OL_now (u_OL_standing z v_4.1) v_4.2))) else none) else (if x2 = 4 then (if inb x1 4 = true then (some ((q_St_lifts (q_OL_standing (u_OL_now (u_OL_standing z v_4.1) v_4.2))) x1.toNatClampNeg, (u_OL_now (u_OL_standing z v_4.1) v_4.2))) else none) else (if x2 = 5 then ((d_St_load x1 (q_OL_standing (u_OL_now (u_OL_standing z v_4.1) v_4.2))).bind fun v_17 => some (v_17, (u_OL_now (u_OL_standing z v_4.1) v_4.2))) else (if x2 = 6 then ((d_St_over x1 (q_OL_standing (u_OL_now (u_OL_standing z v_4.1) v_4.2))).bind fun v_20 => if v_20 = 0 then (some (0, (u_OL_now (u_OL_standing z v_4.1) v_4.2))) else (some (1, (u_OL_now (u_OL_standing z v_4.1) v_4.2)))) else (if x2 = 7 then (if inb x1 4 = true then (some ((q_St_ill (q_OL_standing (u_OL_now (u_OL_standing z v_4.1) v_4.2))) x1.toNatClampNeg, (u_OL_now (u_OL_standing z v_4.1) v_4.2))) else none) else (if x2 = 8 then ((d_St_bits x1 (q_OL_standing (u_OL_now (u_OL_standing z v_4.1) v_4.2))).bind fun v_26 => some (v_26, (u_OL_now (u_OL_standing z v_4.1) v_4.2))) else (if x2 = 9 then (if inb x1 4 = true then (some ((q_Pe_rowSize (q_Re_people (q_OL_now (u_OL_now (u_OL_standing z v_4.1) v_4.2)))) x1.toNatClampNeg, (u_OL_now (u_OL_standing z v_4.1) v_4.2))) else none) else (some ((-1), (u_OL_now (u_OL_standing z v_4.1) v_4.2)))))))))))))
theorem d_OL_of_0 : decode b_OL_of 0 = .ok (.aload_n 0, 1) := by decide +kernel
theorem d_OL_of_1 : decode b_OL_of 1 = .ok (.getfield 12, 3) := by decide +kernel
theorem d_OL_of_4 : decode b_OL_of 4 = .ok (.getfield 95, 3) := by decide +kernel
theorem d_OL_of_7 : decode b_OL_of 7 = .ok (.iload_n 1, 1) := by decide +kernel
theorem d_OL_of_8 : decode b_OL_of 8 = .ok (.invokevirtual 108, 3) := by decide +kernel
theorem d_OL_of_11 : decode b_OL_of 11 = .ok (.ifCond .ne 5, 3) := by decide +kernel
theorem d_OL_of_14 : decode b_OL_of 14 = .ok (.iconst (-1), 1) := by decide +kernel
theorem d_OL_of_15 : decode b_OL_of 15 = .ok (.ireturn, 1) := by decide +kernel
theorem d_OL_of_16 : decode b_OL_of 16 = .ok (.aload_n 0, 1) := by decide +kernel
theorem d_OL_of_17 : decode b_OL_of 17 = .ok (.getfield 31, 3) := by decide +kernel
theorem d_OL_of_20 : decode b_OL_of 20 = .ok (.aload_n 0, 1) := by decide +kernel
theorem d_OL_of_21 : decode b_OL_of 21 = .ok (.getfield 12, 3) := by decide +kernel
theorem d_OL_of_24 : decode b_OL_of 24 = .ok (.invokevirtual 111, 3) := by decide +kernel
theorem d_OL_of_27 : decode b_OL_of 27 = .ok (.iload_n 2, 1) := by decide +kernel
theorem d_OL_of_28 : decode b_OL_of 28 = .ok (.tableswitch 176 0 9 #[56, 69, 82, 95, 108, 118, 127, 144, 154, 163], 56) := by decide +kernel
theorem d_OL_of_84 : decode b_OL_of 84 = .ok (.aload_n 0, 1) := by decide +kernel
theorem d_OL_of_85 : decode b_OL_of 85 = .ok (.getfield 12, 3) := by decide +kernel
theorem d_OL_of_88 : decode b_OL_of 88 = .ok (.getfield 95, 3) := by decide +kernel
theorem d_OL_of_91 : decode b_OL_of 91 = .ok (.getfield 115, 3) := by decide +kernel
theorem d_OL_of_94 : decode b_OL_of 94 = .ok (.iload_n 1, 1) := by decide +kernel
theorem d_OL_of_95 : decode b_OL_of 95 = .ok (.iaload, 1) := by decide +kernel
theorem d_OL_of_96 : decode b_OL_of 96 = .ok (.ireturn, 1) := by decide +kernel
theorem d_OL_of_97 : decode b_OL_of 97 = .ok (.aload_n 0, 1) := by decide +kernel
theorem d_OL_of_98 : decode b_OL_of 98 = .ok (.getfield 12, 3) := by decide +kernel
theorem d_OL_of_101 : decode b_OL_of 101 = .ok (.getfield 95, 3) := by decide +kernel
theorem d_OL_of_104 : decode b_OL_of 104 = .ok (.getfield 118, 3) := by decide +kernel
theorem d_OL_of_107 : decode b_OL_of 107 = .ok (.iload_n 1, 1) := by decide +kernel
theorem d_OL_of_108 : decode b_OL_of 108 = .ok (.iaload, 1) := by decide +kernel
theorem d_OL_of_109 : decode b_OL_of 109 = .ok (.ireturn, 1) := by decide +kernel
theorem d_OL_of_110 : decode b_OL_of 110 = .ok (.aload_n 0, 1) := by decide +kernel
theorem d_OL_of_111 : decode b_OL_of 111 = .ok (.getfield 12, 3) := by decide +kernel
theorem d_OL_of_114 : decode b_OL_of 114 = .ok (.getfield 95, 3) := by decide +kernel
theorem d_OL_of_117 : decode b_OL_of 117 = .ok (.getfield 121, 3) := by decide +kernel
theorem d_OL_of_120 : decode b_OL_of 120 = .ok (.iload_n 1, 1) := by decide +kernel
theorem d_OL_of_121 : decode b_OL_of 121 = .ok (.iaload, 1) := by decide +kernel
theorem d_OL_of_122 : decode b_OL_of 122 = .ok (.ireturn, 1) := by decide +kernel
theorem d_OL_of_123 : decode b_OL_of 123 = .ok (.aload_n 0, 1) := by decide +kernel
theorem d_OL_of_124 : decode b_OL_of 124 = .ok (.getfield 12, 3) := by decide +kernel
theorem d_OL_of_127 : decode b_OL_of 127 = .ok (.getfield 95, 3) := by decide +kernel
theorem d_OL_of_130 : decode b_OL_of 130 = .ok (.getfield 124, 3) := by decide +kernel
theorem d_OL_of_133 : decode b_OL_of 133 = .ok (.iload_n 1, 1) := by decide +kernel
theorem d_OL_of_134 : decode b_OL_of 134 = .ok (.iaload, 1) := by decide +kernel
theorem d_OL_of_135 : decode b_OL_of 135 = .ok (.ireturn, 1) := by decide +kernel
theorem d_OL_of_136 : decode b_OL_of 136 = .ok (.aload_n 0, 1) := by decide +kernel
theorem d_OL_of_137 : decode b_OL_of 137 = .ok (.getfield 31, 3) := by decide +kernel
theorem d_OL_of_140 : decode b_OL_of 140 = .ok (.getfield 127, 3) := by decide +kernel
theorem d_OL_of_143 : decode b_OL_of 143 = .ok (.iload_n 1, 1) := by decide +kernel
theorem d_OL_of_144 : decode b_OL_of 144 = .ok (.iaload, 1) := by decide +kernel
theorem d_OL_of_145 : decode b_OL_of 145 = .ok (.ireturn, 1) := by decide +kernel
theorem d_OL_of_146 : decode b_OL_of 146 = .ok (.aload_n 0, 1) := by decide +kernel
theorem d_OL_of_147 : decode b_OL_of 147 = .ok (.getfield 31, 3) := by decide +kernel
theorem d_OL_of_150 : decode b_OL_of 150 = .ok (.iload_n 1, 1) := by decide +kernel
theorem d_OL_of_151 : decode b_OL_of 151 = .ok (.invokevirtual 130, 3) := by decide +kernel
theorem d_OL_of_154 : decode b_OL_of 154 = .ok (.ireturn, 1) := by decide +kernel
theorem d_OL_of_155 : decode b_OL_of 155 = .ok (.aload_n 0, 1) := by decide +kernel
theorem d_OL_of_156 : decode b_OL_of 156 = .ok (.getfield 31, 3) := by decide +kernel
theorem d_OL_of_159 : decode b_OL_of 159 = .ok (.iload_n 1, 1) := by decide +kernel
theorem d_OL_of_160 : decode b_OL_of 160 = .ok (.invokevirtual 134, 3) := by decide +kernel
theorem d_OL_of_163 : decode b_OL_of 163 = .ok (.ifCond .eq 7, 3) := by decide +kernel
theorem d_OL_of_166 : decode b_OL_of 166 = .ok (.iconst 1, 1) := by decide +kernel
theorem d_OL_of_167 : decode b_OL_of 167 = .ok (.goto 4, 3) := by decide +kernel
theorem d_OL_of_170 : decode b_OL_of 170 = .ok (.iconst 0, 1) := by decide +kernel
theorem d_OL_of_171 : decode b_OL_of 171 = .ok (.ireturn, 1) := by decide +kernel
theorem d_OL_of_172 : decode b_OL_of 172 = .ok (.aload_n 0, 1) := by decide +kernel
theorem d_OL_of_173 : decode b_OL_of 173 = .ok (.getfield 31, 3) := by decide +kernel
theorem d_OL_of_176 : decode b_OL_of 176 = .ok (.getfield 137, 3) := by decide +kernel
theorem d_OL_of_179 : decode b_OL_of 179 = .ok (.iload_n 1, 1) := by decide +kernel
theorem d_OL_of_180 : decode b_OL_of 180 = .ok (.iaload, 1) := by decide +kernel
theorem d_OL_of_181 : decode b_OL_of 181 = .ok (.ireturn, 1) := by decide +kernel
theorem d_OL_of_182 : decode b_OL_of 182 = .ok (.aload_n 0, 1) := by decide +kernel
theorem d_OL_of_183 : decode b_OL_of 183 = .ok (.getfield 31, 3) := by decide +kernel
theorem d_OL_of_186 : decode b_OL_of 186 = .ok (.iload_n 1, 1) := by decide +kernel
theorem d_OL_of_187 : decode b_OL_of 187 = .ok (.invokevirtual 140, 3) := by decide +kernel
theorem d_OL_of_190 : decode b_OL_of 190 = .ok (.ireturn, 1) := by decide +kernel
theorem d_OL_of_191 : decode b_OL_of 191 = .ok (.aload_n 0, 1) := by decide +kernel
theorem d_OL_of_192 : decode b_OL_of 192 = .ok (.getfield 12, 3) := by decide +kernel
theorem d_OL_of_195 : decode b_OL_of 195 = .ok (.getfield 95, 3) := by decide +kernel
theorem d_OL_of_198 : decode b_OL_of 198 = .ok (.getfield 143, 3) := by decide +kernel
theorem d_OL_of_201 : decode b_OL_of 201 = .ok (.iload_n 1, 1) := by decide +kernel
theorem d_OL_of_202 : decode b_OL_of 202 = .ok (.iaload, 1) := by decide +kernel
theorem d_OL_of_203 : decode b_OL_of 203 = .ok (.ireturn, 1) := by decide +kernel
theorem d_OL_of_204 : decode b_OL_of 204 = .ok (.iconst (-1), 1) := by decide +kernel
theorem d_OL_of_205 : decode b_OL_of 205 = .ok (.ireturn, 1) := by decide +kernel
theorem o_OL_of : OkV y_OL_of "OwnsLift" b_OL_of 3 (some .int) 2 := ⟨⟨rfl, by decide +kernel, by decide +kernel, by decide +kernel⟩, g_626, g_627, g_71, g_628⟩
set_option maxHeartbeats 4000000 in
set_option maxRecDepth 100000 in
theorem c_OL_of (l : Launch) (D : va_G) (g : Nat → ClassId) (a : Nat → Nat) (x1 : Int32) (x2 : Int32) (z : T_OL) (v : Int32 × T_OL) (h : d_OL_of x1 x2 z = some v) :
    MI l y_OL_of b_OL_of 3 .int ({ frames := 5, cells := 0, slots := 0, locals := 119 } : Room) D g [.ref (a 0), .int x1, .int x2] (ws_OL g a z) (v.1) (ws_OL g a v.2) := by
  have hd := h
  unfold d_OL_of at hd
  refine enterI rfl (Nat.le_of_ble_eq_true rfl) (fun p e s m below meth c A ls hx hb hml hr hown hg hlk hK hA hP hD hS hCs hl => ?_)
  have hown : s.vm.findClass "OwnsLift" = some m.cls := hown
  have hl : lv_has ls 3 [(0, .ref (a 0)), (1, .int x1), (2, .int x2)] := hl
  show GI p l e s m ({ frames := 5, cells := 0, slots := 0, locals := 119 } : Room) ([.ref (a 0), .int x1, .int x2] : List Value).toArray below meth c A D g (ws_OL g a v.2) (v.1) s.heap [] (F0 m 0 ls [])
  refine lv_aload_n hx hb d_OL_of_0 rfl (lv_at hl 0 rfl) ?_
  refine va_get (D := D) (ci := 0) (v := .ref (a 1)) (C := R_OL) (T := F_OL) (N := 8) hx hb hg i_OL hown hK hP 0 rfl rfl 0 (by decide) (hg _ g_396) (fun _ h9 => h9) rfl d_OL_of_1 ?_
  refine va_get (D := D) (ci := 7) (v := .ref (a 8)) (C := R_Re) (T := F_Re) (N := 11) hx hb hg i_Re hown hK hP 1 rfl rfl 4 (by decide) (hg _ g_212) (fun _ h9 => h9) rfl d_OL_of_4 ?_
  refine lv_iload_n hx hb d_OL_of_7 rfl (lv_at hl 1 rfl) ?_
  obtain ⟨v_1, e_2, hd⟩ := bind_s hd
  refine callVI (ws' := ws_OL g a z) (rest := []) (As := [.int x1]) hx hb hml hown hg hK hP hD hS hA hCs hl.1 (c_Pe_has l D g (sh a 8) x1 (q_Re_people (q_OL_now z)) _ e_2) o_Pe_has g_629 (ci := 5) (q0 := 8) rfl rfl (List.range' 8 11) (segC1 rfl rfl) (by decide) rfl (segP1 rfl rfl) rfl rfl (Nat.le_of_ble_eq_true rfl) ⟨rfl, rfl, Nat.le_of_ble_eq_true rfl, Nat.le_of_ble_eq_true rfl⟩ d_OL_of_8 (fun H locs hP hD hS => ?_)
  refine lv_if_ne (tgt := 16) hx hb d_OL_of_11 (by decide) (fun h_3 => ?_) (fun h_3 => ?_)
  · have hd := ite_f hd h_3
    refine lv_aload_n hx hb d_OL_of_16 rfl (lv_at hl 0 rfl) ?_
    refine va_get (D := D) (ci := 0) (v := .ref (a 56)) (C := R_OL) (T := F_OL) (N := 8) hx hb hg i_OL hown hK hP 0 rfl rfl 4 (by decide) (hg _ g_400) (fun _ h9 => h9) rfl d_OL_of_17 ?_
    refine lv_aload_n hx hb d_OL_of_20 rfl (lv_at hl 0 rfl) ?_
    refine va_get (D := D) (ci := 0) (v := .ref (a 1)) (C := R_OL) (T := F_OL) (N := 8) hx hb hg i_OL hown hK hP 0 rfl rfl 0 (by decide) (hg _ g_396) (fun _ h9 => h9) rfl d_OL_of_21 ?_
    obtain ⟨v_4, e_5, hd⟩ := bind_s hd
    refine callVV (ws' := ws_OL g a (u_OL_now (u_OL_standing z v_4.1) v_4.2)) (rest := []) (As := [.ref ((sh a 1) 0)]) hx hb hml hown hg hK hP hD hS hA hCs hl.1 (c_St_take l D g (sh a 56) (sh a 1) (q_OL_standing z) (q_OL_now z) _ e_5) o_St_take g_633 (ci := 9) (q0 := 56) rfl rfl (List.range' 56 10 ++ List.range' 1 24) (segC2 rfl rfl rfl rfl) (by decide) rfl (segP2 rfl rfl rfl) rfl rfl (Nat.le_of_ble_eq_true rfl) ⟨rfl, rfl, Nat.le_of_ble_eq_true rfl, Nat.le_of_ble_eq_true rfl⟩ d_OL_of_24 (fun H locs hP hD hS => ?_)
    refine lv_iload_n hx hb d_OL_of_27 rfl (lv_at hl 2 rfl) ?_
    by_cases h_6 : x2 = 0
    · have hd := ite_t hd h_6
      refine lv_tableIn (tgt := 84) hx hb d_OL_of_28 (by rw [h_6]; decide) (by rw [h_6]; decide) (off := 56) (by rw [h_6]; decide) (by decide) ?_
      refine lv_aload_n hx hb d_OL_of_84 rfl (lv_at hl 0 rfl) ?_
      refine va_get (D := D) (ci := 0) (v := .ref (a 1)) (C := R_OL) (T := F_OL) (N := 8) hx hb hg i_OL hown hK hP 0 rfl rfl 0 (by decide) (hg _ g_396) (fun _ h9 => h9) rfl d_OL_of_85 ?_
      refine va_get (D := D) (ci := 7) (v := .ref (a 8)) (C := R_Re) (T := F_Re) (N := 11) hx hb hg i_Re hown hK hP 1 rfl rfl 4 (by decide) (hg _ g_212) (fun _ h9 => h9) rfl d_OL_of_88 ?_
      refine va_get (D := D) (ci := 5) (v := .ref (a 9)) (C := R_Pe) (T := F_Pe) (N := 7) hx hb hg i_Pe hown hK hP 8 rfl rfl 1 (by decide) (hg _ g_146) (fun _ h9 => h9) rfl d_OL_of_91 ?_
      refine lv_iload_n hx hb d_OL_of_94 rfl (lv_at hl 1 rfl) ?_
      obtain ⟨h_7, hd⟩ := ite_s hd
      refine ialdK hx hb hK hP 9 0 rfl rfl (inb_t h_7) rfl d_OL_of_95 ?_
      obtain rfl := Option.some.inj hd
      exact retI hx hb hr hlk hK hP hD hS d_OL_of_96 rfl
    have hd := ite_f hd h_6
    by_cases h_8 : x2 = 1
    · have hd := ite_t hd h_8
      refine lv_tableIn (tgt := 97) hx hb d_OL_of_28 (by rw [h_8]; decide) (by rw [h_8]; decide) (off := 69) (by rw [h_8]; decide) (by decide) ?_
      refine lv_aload_n hx hb d_OL_of_97 rfl (lv_at hl 0 rfl) ?_
      refine va_get (D := D) (ci := 0) (v := .ref (a 1)) (C := R_OL) (T := F_OL) (N := 8) hx hb hg i_OL hown hK hP 0 rfl rfl 0 (by decide) (hg _ g_396) (fun _ h9 => h9) rfl d_OL_of_98 ?_
      refine va_get (D := D) (ci := 7) (v := .ref (a 8)) (C := R_Re) (T := F_Re) (N := 11) hx hb hg i_Re hown hK hP 1 rfl rfl 4 (by decide) (hg _ g_212) (fun _ h9 => h9) rfl d_OL_of_101 ?_
      refine va_get (D := D) (ci := 5) (v := .ref (a 10)) (C := R_Pe) (T := F_Pe) (N := 7) hx hb hg i_Pe hown hK hP 8 rfl rfl 2 (by decide) (hg _ g_151) (fun _ h9 => h9) rfl d_OL_of_104 ?_
      refine lv_iload_n hx hb d_OL_of_107 rfl (lv_at hl 1 rfl) ?_
      obtain ⟨h_9, hd⟩ := ite_s hd
      refine ialdK hx hb hK hP 10 0 rfl rfl (inb_t h_9) rfl d_OL_of_108 ?_
      obtain rfl := Option.some.inj hd
      exact retI hx hb hr hlk hK hP hD hS d_OL_of_109 rfl
    have hd := ite_f hd h_8
    by_cases h_10 : x2 = 2
    · have hd := ite_t hd h_10
      refine lv_tableIn (tgt := 110) hx hb d_OL_of_28 (by rw [h_10]; decide) (by rw [h_10]; decide) (off := 82) (by rw [h_10]; decide) (by decide) ?_
      refine lv_aload_n hx hb d_OL_of_110 rfl (lv_at hl 0 rfl) ?_
      refine va_get (D := D) (ci := 0) (v := .ref (a 1)) (C := R_OL) (T := F_OL) (N := 8) hx hb hg i_OL hown hK hP 0 rfl rfl 0 (by decide) (hg _ g_396) (fun _ h9 => h9) rfl d_OL_of_111 ?_
      refine va_get (D := D) (ci := 7) (v := .ref (a 8)) (C := R_Re) (T := F_Re) (N := 11) hx hb hg i_Re hown hK hP 1 rfl rfl 4 (by decide) (hg _ g_212) (fun _ h9 => h9) rfl d_OL_of_114 ?_
      refine va_get (D := D) (ci := 5) (v := .ref (a 11)) (C := R_Pe) (T := F_Pe) (N := 7) hx hb hg i_Pe hown hK hP 8 rfl rfl 3 (by decide) (hg _ g_154) (fun _ h9 => h9) rfl d_OL_of_117 ?_
      refine lv_iload_n hx hb d_OL_of_120 rfl (lv_at hl 1 rfl) ?_
      obtain ⟨h_11, hd⟩ := ite_s hd
      refine ialdK hx hb hK hP 11 0 rfl rfl (inb_t h_11) rfl d_OL_of_121 ?_
      obtain rfl := Option.some.inj hd
      exact retI hx hb hr hlk hK hP hD hS d_OL_of_122 rfl
    have hd := ite_f hd h_10
    by_cases h_12 : x2 = 3
    · have hd := ite_t hd h_12
      refine lv_tableIn (tgt := 123) hx hb d_OL_of_28 (by rw [h_12]; decide) (by rw [h_12]; decide) (off := 95) (by rw [h_12]; decide) (by decide) ?_
      refine lv_aload_n hx hb d_OL_of_123 rfl (lv_at hl 0 rfl) ?_
      refine va_get (D := D) (ci := 0) (v := .ref (a 1)) (C := R_OL) (T := F_OL) (N := 8) hx hb hg i_OL hown hK hP 0 rfl rfl 0 (by decide) (hg _ g_396) (fun _ h9 => h9) rfl d_OL_of_124 ?_
      refine va_get (D := D) (ci := 7) (v := .ref (a 8)) (C := R_Re) (T := F_Re) (N := 11) hx hb hg i_Re hown hK hP 1 rfl rfl 4 (by decide) (hg _ g_212) (fun _ h9 => h9) rfl d_OL_of_127 ?_
      refine va_get (D := D) (ci := 5) (v := .ref (a 12)) (C := R_Pe) (T := F_Pe) (N := 7) hx hb hg i_Pe hown hK hP 8 rfl rfl 4 (by decide) (hg _ g_156) (fun _ h9 => h9) rfl d_OL_of_130 ?_
      refine lv_iload_n hx hb d_OL_of_133 rfl (lv_at hl 1 rfl) ?_
      obtain ⟨h_13, hd⟩ := ite_s hd
      refine ialdK hx hb hK hP 12 0 rfl rfl (inb_t h_13) rfl d_OL_of_134 ?_
      obtain rfl := Option.some.inj hd
      exact retI hx hb hr hlk hK hP hD hS d_OL_of_135 rfl
    have hd := ite_f hd h_12
    by_cases h_14 : x2 = 4
    · have hd := ite_t hd h_14
      refine lv_tableIn (tgt := 136) hx hb d_OL_of_28 (by rw [h_14]; decide) (by rw [h_14]; decide) (off := 108) (by rw [h_14]; decide) (by decide) ?_
      refine lv_aload_n hx hb d_OL_of_136 rfl (lv_at hl 0 rfl) ?_
      refine va_get (D := D) (ci := 0) (v := .ref (a 56)) (C := R_OL) (T := F_OL) (N := 8) hx hb hg i_OL hown hK hP 0 rfl rfl 4 (by decide) (hg _ g_400) (fun _ h9 => h9) rfl d_OL_of_137 ?_
      refine va_get (D := D) (ci := 9) (v := .ref (a 62)) (C := R_St) (T := F_St) (N := 7) hx hb hg i_St hown hK hP 56 rfl rfl 3 (by decide) (hg _ g_290) (fun _ h9 => h9) rfl d_OL_of_140 ?_
      refine lv_iload_n hx hb d_OL_of_143 rfl (lv_at hl 1 rfl) ?_
      obtain ⟨h_15, hd⟩ := ite_s hd
      refine ialdK hx hb hK hP 62 0 rfl rfl (inb_t h_15) rfl d_OL_of_144 ?_
      obtain rfl := Option.some.inj hd
      exact retI hx hb hr hlk hK hP hD hS d_OL_of_145 rfl
    have hd := ite_f hd h_14
    by_cases h_16 : x2 = 5
    · have hd := ite_t hd h_16
      refine lv_tableIn (tgt := 146) hx hb d_OL_of_28 (by rw [h_16]; decide) (by rw [h_16]; decide) (off := 118) (by rw [h_16]; decide) (by decide) ?_
      refine lv_aload_n hx hb d_OL_of_146 rfl (lv_at hl 0 rfl) ?_
      refine va_get (D := D) (ci := 0) (v := .ref (a 56)) (C := R_OL) (T := F_OL) (N := 8) hx hb hg i_OL hown hK hP 0 rfl rfl 4 (by decide) (hg _ g_400) (fun _ h9 => h9) rfl d_OL_of_147 ?_
      refine lv_iload_n hx hb d_OL_of_150 rfl (lv_at hl 1 rfl) ?_
      obtain ⟨v_17, e_18, hd⟩ := bind_s hd
      refine callVI (ws' := ws_OL g a (u_OL_now (u_OL_standing z v_4.1) v_4.2)) (rest := []) (As := [.int x1]) hx hb hml hown hg hK hP hD hS hA hCs hl.1 (c_St_load l D g (sh a 56) x1 (q_OL_standing (u_OL_now (u_OL_standing z v_4.1) v_4.2)) _ e_18) o_St_load g_674 (ci := 9) (q0 := 56) rfl rfl (List.range' 56 10) (segC1 rfl rfl) (by decide) rfl (segP1 rfl rfl) rfl rfl (Nat.le_of_ble_eq_true rfl) ⟨rfl, rfl, Nat.le_of_ble_eq_true rfl, Nat.le_of_ble_eq_true rfl⟩ d_OL_of_151 (fun H locs hP hD hS => ?_)
      obtain rfl := Option.some.inj hd
      exact retI hx hb hr hlk hK hP hD hS d_OL_of_154 rfl
    have hd := ite_f hd h_16
    by_cases h_19 : x2 = 6
    · have hd := ite_t hd h_19
      refine lv_tableIn (tgt := 155) hx hb d_OL_of_28 (by rw [h_19]; decide) (by rw [h_19]; decide) (off := 127) (by rw [h_19]; decide) (by decide) ?_
      refine lv_aload_n hx hb d_OL_of_155 rfl (lv_at hl 0 rfl) ?_
      refine va_get (D := D) (ci := 0) (v := .ref (a 56)) (C := R_OL) (T := F_OL) (N := 8) hx hb hg i_OL hown hK hP 0 rfl rfl 4 (by decide) (hg _ g_400) (fun _ h9 => h9) rfl d_OL_of_156 ?_
      refine lv_iload_n hx hb d_OL_of_159 rfl (lv_at hl 1 rfl) ?_
      obtain ⟨v_20, e_21, hd⟩ := bind_s hd
      refine callVI (ws' := ws_OL g a (u_OL_now (u_OL_standing z v_4.1) v_4.2)) (rest := []) (As := [.int x1]) hx hb hml hown hg hK hP hD hS hA hCs hl.1 (c_St_over l D g (sh a 56) x1 (q_OL_standing (u_OL_now (u_OL_standing z v_4.1) v_4.2)) _ e_21) o_St_over g_686 (ci := 9) (q0 := 56) rfl rfl (List.range' 56 10) (segC1 rfl rfl) (by decide) rfl (segP1 rfl rfl) rfl rfl (Nat.le_of_ble_eq_true rfl) ⟨rfl, rfl, Nat.le_of_ble_eq_true rfl, Nat.le_of_ble_eq_true rfl⟩ d_OL_of_160 (fun H locs hP hD hS => ?_)
      refine lv_if_eq (tgt := 170) hx hb d_OL_of_163 (by decide) (fun h_22 => ?_) (fun h_22 => ?_)
      · have hd := ite_t hd h_22
        refine lv_iconst (v := 0) hx hb d_OL_of_170 (by decide) ?_
        obtain rfl := Option.some.inj hd
        exact retI hx hb hr hlk hK hP hD hS d_OL_of_171 rfl
      · have hd := ite_f hd h_22
        refine lv_iconst (v := 1) hx hb d_OL_of_166 (by decide) ?_
        refine lv_goto (tgt := 171) hx hb d_OL_of_167 (by decide) ?_
        obtain rfl := Option.some.inj hd
        exact retI hx hb hr hlk hK hP hD hS d_OL_of_171 rfl
    have hd := ite_f hd h_19
    by_cases h_23 : x2 = 7
    · have hd := ite_t hd h_23
      refine lv_tableIn (tgt := 172) hx hb d_OL_of_28 (by rw [h_23]; decide) (by rw [h_23]; decide) (off := 144) (by rw [h_23]; decide) (by decide) ?_
      refine lv_aload_n hx hb d_OL_of_172 rfl (lv_at hl 0 rfl) ?_
      refine va_get (D := D) (ci := 0) (v := .ref (a 56)) (C := R_OL) (T := F_OL) (N := 8) hx hb hg i_OL hown hK hP 0 rfl rfl 4 (by decide) (hg _ g_400) (fun _ h9 => h9) rfl d_OL_of_173 ?_
      refine va_get (D := D) (ci := 9) (v := .ref (a 63)) (C := R_St) (T := F_St) (N := 7) hx hb hg i_St hown hK hP 56 rfl rfl 4 (by decide) (hg _ g_293) (fun _ h9 => h9) rfl d_OL_of_176 ?_
      refine lv_iload_n hx hb d_OL_of_179 rfl (lv_at hl 1 rfl) ?_
      obtain ⟨h_24, hd⟩ := ite_s hd
      refine ialdK hx hb hK hP 63 0 rfl rfl (inb_t h_24) rfl d_OL_of_180 ?_
      obtain rfl := Option.some.inj hd
      exact retI hx hb hr hlk hK hP hD hS d_OL_of_181 rfl
    have hd := ite_f hd h_23
    by_cases h_25 : x2 = 8
    · have hd := ite_t hd h_25
      refine lv_tableIn (tgt := 182) hx hb d_OL_of_28 (by rw [h_25]; decide) (by rw [h_25]; decide) (off := 154) (by rw [h_25]; decide) (by decide) ?_
      refine lv_aload_n hx hb d_OL_of_182 rfl (lv_at hl 0 rfl) ?_
      refine va_get (D := D) (ci := 0) (v := .ref (a 56)) (C := R_OL) (T := F_OL) (N := 8) hx hb hg i_OL hown hK hP 0 rfl rfl 4 (by decide) (hg _ g_400) (fun _ h9 => h9) rfl d_OL_of_183 ?_
      refine lv_iload_n hx hb d_OL_of_186 rfl (lv_at hl 1 rfl) ?_
      obtain ⟨v_26, e_27, hd⟩ := bind_s hd
      refine callVI (ws' := ws_OL g a (u_OL_now (u_OL_standing z v_4.1) v_4.2)) (rest := []) (As := [.int x1]) hx hb hml hown hg hK hP hD hS hA hCs hl.1 (c_St_bits l D g (sh a 56) x1 (q_OL_standing (u_OL_now (u_OL_standing z v_4.1) v_4.2)) _ e_27) o_St_bits g_691 (ci := 9) (q0 := 56) rfl rfl (List.range' 56 10) (segC1 rfl rfl) (by decide) rfl (segP1 rfl rfl) rfl rfl (Nat.le_of_ble_eq_true rfl) ⟨rfl, rfl, Nat.le_of_ble_eq_true rfl, Nat.le_of_ble_eq_true rfl⟩ d_OL_of_187 (fun H locs hP hD hS => ?_)
      obtain rfl := Option.some.inj hd
      exact retI hx hb hr hlk hK hP hD hS d_OL_of_190 rfl
    have hd := ite_f hd h_25
    by_cases h_28 : x2 = 9
    · have hd := ite_t hd h_28
      refine lv_tableIn (tgt := 191) hx hb d_OL_of_28 (by rw [h_28]; decide) (by rw [h_28]; decide) (off := 163) (by rw [h_28]; decide) (by decide) ?_
      refine lv_aload_n hx hb d_OL_of_191 rfl (lv_at hl 0 rfl) ?_
      refine va_get (D := D) (ci := 0) (v := .ref (a 1)) (C := R_OL) (T := F_OL) (N := 8) hx hb hg i_OL hown hK hP 0 rfl rfl 0 (by decide) (hg _ g_396) (fun _ h9 => h9) rfl d_OL_of_192 ?_
      refine va_get (D := D) (ci := 7) (v := .ref (a 8)) (C := R_Re) (T := F_Re) (N := 11) hx hb hg i_Re hown hK hP 1 rfl rfl 4 (by decide) (hg _ g_212) (fun _ h9 => h9) rfl d_OL_of_195 ?_
      refine va_get (D := D) (ci := 5) (v := .ref (a 13)) (C := R_Pe) (T := F_Pe) (N := 7) hx hb hg i_Pe hown hK hP 8 rfl rfl 5 (by decide) (hg _ g_159) (fun _ h9 => h9) rfl d_OL_of_198 ?_
      refine lv_iload_n hx hb d_OL_of_201 rfl (lv_at hl 1 rfl) ?_
      obtain ⟨h_29, hd⟩ := ite_s hd
      refine ialdK hx hb hK hP 13 0 rfl rfl (inb_t h_29) rfl d_OL_of_202 ?_
      obtain rfl := Option.some.inj hd
      exact retI hx hb hr hlk hK hP hD hS d_OL_of_203 rfl
    have hd := ite_f hd h_28
    have ho_30 : (x2).toInt < 0 ∨ 9 < (x2).toInt := by
      refine tab_out 0 9 ?_
      intro k h1 h2 q
      have hk : k = 0 ∨ k = 1 ∨ k = 2 ∨ k = 3 ∨ k = 4 ∨ k = 5 ∨ k = 6 ∨ k = 7 ∨ k = 8 ∨ k = 9 := by omega
      rcases hk with rfl | rfl | rfl | rfl | rfl | rfl | rfl | rfl | rfl | rfl
      · exact h_6 (Int32.toInt_inj.mp (q.trans (by decide)))
      · exact h_8 (Int32.toInt_inj.mp (q.trans (by decide)))
      · exact h_10 (Int32.toInt_inj.mp (q.trans (by decide)))
      · exact h_12 (Int32.toInt_inj.mp (q.trans (by decide)))
      · exact h_14 (Int32.toInt_inj.mp (q.trans (by decide)))
      · exact h_16 (Int32.toInt_inj.mp (q.trans (by decide)))
      · exact h_19 (Int32.toInt_inj.mp (q.trans (by decide)))
      · exact h_23 (Int32.toInt_inj.mp (q.trans (by decide)))
      · exact h_25 (Int32.toInt_inj.mp (q.trans (by decide)))
      · exact h_28 (Int32.toInt_inj.mp (q.trans (by decide)))
    refine lv_tableOut (tgt := 204) hx hb d_OL_of_28 ho_30 (by decide) ?_
    refine lv_iconst (v := (-1)) hx hb d_OL_of_204 (by decide) ?_
    obtain rfl := Option.some.inj hd
    exact retI hx hb hr hlk hK hP hD hS d_OL_of_205 rfl
  · have hd := ite_t hd h_3
    refine lv_iconst (v := (-1)) hx hb d_OL_of_14 (by decide) ?_
    obtain rfl := Option.some.inj hd
    exact retI hx hb hr hlk hK hP hD hS d_OL_of_15 rfl
-- OwnsLift.strength(II)I
def d_OL_strength (x1 : Int32) (x2 : Int32) (z : T_OL) : Option (Int32 × T_OL) :=
  (d_Pe_has x1 (q_Re_people (q_OL_now z))).bind fun v_1 => if v_1 = 0 then (some ((-1), z)) else ((d_OL_within x2 99).bind fun v_4 => if v_4 = 0 then (some ((-2), z)) else (if inb x1 4 = true then (if inb x1 4 = true then (some ((q_Pe_strength (q_Re_people (q_OL_now z))) x1.toNatClampNeg, (u_OL_now z (u_Re_people (q_OL_now z) (u_Pe_strength (q_Re_people (q_OL_now z)) (upd (q_Pe_strength (q_Re_people (q_OL_now z))) x1.toNatClampNeg x2)))))) else none) else none))
theorem d_OL_strength_0 : decode b_OL_strength 0 = .ok (.aload_n 0, 1) := by decide +kernel
theorem d_OL_strength_1 : decode b_OL_strength 1 = .ok (.getfield 12, 3) := by decide +kernel
theorem d_OL_strength_4 : decode b_OL_strength 4 = .ok (.getfield 95, 3) := by decide +kernel
theorem d_OL_strength_7 : decode b_OL_strength 7 = .ok (.iload_n 1, 1) := by decide +kernel
theorem d_OL_strength_8 : decode b_OL_strength 8 = .ok (.invokevirtual 108, 3) := by decide +kernel
theorem d_OL_strength_11 : decode b_OL_strength 11 = .ok (.ifCond .ne 5, 3) := by decide +kernel
theorem d_OL_strength_14 : decode b_OL_strength 14 = .ok (.iconst (-1), 1) := by decide +kernel
theorem d_OL_strength_15 : decode b_OL_strength 15 = .ok (.ireturn, 1) := by decide +kernel
theorem d_OL_strength_16 : decode b_OL_strength 16 = .ok (.iload_n 2, 1) := by decide +kernel
theorem d_OL_strength_17 : decode b_OL_strength 17 = .ok (.bipush 99, 2) := by decide +kernel
theorem d_OL_strength_19 : decode b_OL_strength 19 = .ok (.invokestatic 91, 3) := by decide +kernel
theorem d_OL_strength_22 : decode b_OL_strength 22 = .ok (.ifCond .ne 6, 3) := by decide +kernel
theorem d_OL_strength_25 : decode b_OL_strength 25 = .ok (.bipush (-2), 2) := by decide +kernel
theorem d_OL_strength_27 : decode b_OL_strength 27 = .ok (.ireturn, 1) := by decide +kernel
theorem d_OL_strength_28 : decode b_OL_strength 28 = .ok (.aload_n 0, 1) := by decide +kernel
theorem d_OL_strength_29 : decode b_OL_strength 29 = .ok (.getfield 12, 3) := by decide +kernel
theorem d_OL_strength_32 : decode b_OL_strength 32 = .ok (.getfield 95, 3) := by decide +kernel
theorem d_OL_strength_35 : decode b_OL_strength 35 = .ok (.getfield 121, 3) := by decide +kernel
theorem d_OL_strength_38 : decode b_OL_strength 38 = .ok (.iload_n 1, 1) := by decide +kernel
theorem d_OL_strength_39 : decode b_OL_strength 39 = .ok (.iaload, 1) := by decide +kernel
theorem d_OL_strength_40 : decode b_OL_strength 40 = .ok (.istore_n 3, 1) := by decide +kernel
theorem d_OL_strength_41 : decode b_OL_strength 41 = .ok (.aload_n 0, 1) := by decide +kernel
theorem d_OL_strength_42 : decode b_OL_strength 42 = .ok (.getfield 12, 3) := by decide +kernel
theorem d_OL_strength_45 : decode b_OL_strength 45 = .ok (.getfield 95, 3) := by decide +kernel
theorem d_OL_strength_48 : decode b_OL_strength 48 = .ok (.getfield 121, 3) := by decide +kernel
theorem d_OL_strength_51 : decode b_OL_strength 51 = .ok (.iload_n 1, 1) := by decide +kernel
theorem d_OL_strength_52 : decode b_OL_strength 52 = .ok (.iload_n 2, 1) := by decide +kernel
theorem d_OL_strength_53 : decode b_OL_strength 53 = .ok (.iastore, 1) := by decide +kernel
theorem d_OL_strength_54 : decode b_OL_strength 54 = .ok (.iload_n 3, 1) := by decide +kernel
theorem d_OL_strength_55 : decode b_OL_strength 55 = .ok (.ireturn, 1) := by decide +kernel
theorem o_OL_strength : OkV y_OL_strength "OwnsLift" b_OL_strength 4 (some .int) 2 := ⟨⟨rfl, by decide +kernel, by decide +kernel, by decide +kernel⟩, g_693, g_694, g_71, g_695⟩
set_option maxHeartbeats 4000000 in
set_option maxRecDepth 100000 in
theorem c_OL_strength (l : Launch) (D : va_G) (g : Nat → ClassId) (a : Nat → Nat) (x1 : Int32) (x2 : Int32) (z : T_OL) (v : Int32 × T_OL) (h : d_OL_strength x1 x2 z = some v) :
    MI l y_OL_strength b_OL_strength 4 .int ({ frames := 1, cells := 0, slots := 0, locals := 21 } : Room) D g [.ref (a 0), .int x1, .int x2] (ws_OL g a z) (v.1) (ws_OL g a v.2) := by
  have hd := h
  unfold d_OL_strength at hd
  refine enterI rfl (Nat.le_of_ble_eq_true rfl) (fun p e s m below meth c A ls hx hb hml hr hown hg hlk hK hA hP hD hS hCs hl => ?_)
  have hown : s.vm.findClass "OwnsLift" = some m.cls := hown
  have hl : lv_has ls 4 [(0, .ref (a 0)), (1, .int x1), (2, .int x2)] := hl
  show GI p l e s m ({ frames := 1, cells := 0, slots := 0, locals := 21 } : Room) ([.ref (a 0), .int x1, .int x2] : List Value).toArray below meth c A D g (ws_OL g a v.2) (v.1) s.heap [] (F0 m 0 ls [])
  refine lv_aload_n hx hb d_OL_strength_0 rfl (lv_at hl 0 rfl) ?_
  refine va_get (D := D) (ci := 0) (v := .ref (a 1)) (C := R_OL) (T := F_OL) (N := 8) hx hb hg i_OL hown hK hP 0 rfl rfl 0 (by decide) (hg _ g_396) (fun _ h9 => h9) rfl d_OL_strength_1 ?_
  refine va_get (D := D) (ci := 7) (v := .ref (a 8)) (C := R_Re) (T := F_Re) (N := 11) hx hb hg i_Re hown hK hP 1 rfl rfl 4 (by decide) (hg _ g_212) (fun _ h9 => h9) rfl d_OL_strength_4 ?_
  refine lv_iload_n hx hb d_OL_strength_7 rfl (lv_at hl 1 rfl) ?_
  obtain ⟨v_1, e_2, hd⟩ := bind_s hd
  refine callVI (ws' := ws_OL g a z) (rest := []) (As := [.int x1]) hx hb hml hown hg hK hP hD hS hA hCs hl.1 (c_Pe_has l D g (sh a 8) x1 (q_Re_people (q_OL_now z)) _ e_2) o_Pe_has g_629 (ci := 5) (q0 := 8) rfl rfl (List.range' 8 11) (segC1 rfl rfl) (by decide) rfl (segP1 rfl rfl) rfl rfl (Nat.le_of_ble_eq_true rfl) ⟨rfl, rfl, Nat.le_of_ble_eq_true rfl, Nat.le_of_ble_eq_true rfl⟩ d_OL_strength_8 (fun H locs hP hD hS => ?_)
  refine lv_if_ne (tgt := 16) hx hb d_OL_strength_11 (by decide) (fun h_3 => ?_) (fun h_3 => ?_)
  · have hd := ite_f hd h_3
    refine lv_iload_n hx hb d_OL_strength_16 rfl (lv_at hl 2 rfl) ?_
    refine lv_bipush (v := 99) hx hb d_OL_strength_17 (by decide) ?_
    obtain ⟨v_4, e_5, hd⟩ := bind_s hd
    refine callSI (ws' := ws_OL g a z) (rest := []) (As := [.int x2, .int 99]) hx hb hml hown hg hK hP hD hS hA hCs hl.1 (c_OL_within l D g  x2 99 _ e_5) o_OL_within g_618 [] segC0 rfl rfl segP0 rfl rfl (Nat.le_of_ble_eq_true rfl) ⟨rfl, rfl, Nat.le_of_ble_eq_true rfl, Nat.le_of_ble_eq_true rfl⟩ d_OL_strength_19 (fun H locs hP hD hS => ?_)
    refine lv_if_ne (tgt := 28) hx hb d_OL_strength_22 (by decide) (fun h_6 => ?_) (fun h_6 => ?_)
    · have hd := ite_f hd h_6
      refine lv_aload_n hx hb d_OL_strength_28 rfl (lv_at hl 0 rfl) ?_
      refine va_get (D := D) (ci := 0) (v := .ref (a 1)) (C := R_OL) (T := F_OL) (N := 8) hx hb hg i_OL hown hK hP 0 rfl rfl 0 (by decide) (hg _ g_396) (fun _ h9 => h9) rfl d_OL_strength_29 ?_
      refine va_get (D := D) (ci := 7) (v := .ref (a 8)) (C := R_Re) (T := F_Re) (N := 11) hx hb hg i_Re hown hK hP 1 rfl rfl 4 (by decide) (hg _ g_212) (fun _ h9 => h9) rfl d_OL_strength_32 ?_
      refine va_get (D := D) (ci := 5) (v := .ref (a 11)) (C := R_Pe) (T := F_Pe) (N := 7) hx hb hg i_Pe hown hK hP 8 rfl rfl 3 (by decide) (hg _ g_154) (fun _ h9 => h9) rfl d_OL_strength_35 ?_
      refine lv_iload_n hx hb d_OL_strength_38 rfl (lv_at hl 1 rfl) ?_
      obtain ⟨h_8, hd⟩ := ite_s hd
      refine ialdK hx hb hK hP 11 0 rfl rfl (inb_t h_8) rfl d_OL_strength_39 ?_
      refine lv_istore_n (lv' := [(3, .int ((q_Pe_strength (q_Re_people (q_OL_now z))) x1.toNatClampNeg)), (0, .ref (a 0)), (1, .int x1), (2, .int x2)]) hx hb d_OL_strength_40 rfl hl (by decide) rfl (fun ls hl => ?_)
      refine lv_aload_n hx hb d_OL_strength_41 rfl (lv_at hl 1 rfl) ?_
      refine va_get (D := D) (ci := 0) (v := .ref (a 1)) (C := R_OL) (T := F_OL) (N := 8) hx hb hg i_OL hown hK hP 0 rfl rfl 0 (by decide) (hg _ g_396) (fun _ h9 => h9) rfl d_OL_strength_42 ?_
      refine va_get (D := D) (ci := 7) (v := .ref (a 8)) (C := R_Re) (T := F_Re) (N := 11) hx hb hg i_Re hown hK hP 1 rfl rfl 4 (by decide) (hg _ g_212) (fun _ h9 => h9) rfl d_OL_strength_45 ?_
      refine va_get (D := D) (ci := 5) (v := .ref (a 11)) (C := R_Pe) (T := F_Pe) (N := 7) hx hb hg i_Pe hown hK hP 8 rfl rfl 3 (by decide) (hg _ g_154) (fun _ h9 => h9) rfl d_OL_strength_48 ?_
      refine lv_iload_n hx hb d_OL_strength_51 rfl (lv_at hl 2 rfl) ?_
      refine lv_iload_n hx hb d_OL_strength_52 rfl (lv_at hl 3 rfl) ?_
      obtain ⟨h_7, hd⟩ := ite_s hd
      refine iastK hx hb hK hP hD hS 11 0 rfl rfl (inb_t h_7) rfl d_OL_strength_53 (fun H locs hP hD hS => ?_)
      have hP : va_P D classes (ws_OL g a (u_OL_now z (u_Re_people (q_OL_now z) (u_Pe_strength (q_Re_people (q_OL_now z)) (upd (q_Pe_strength (q_Re_people (q_OL_now z))) x1.toNatClampNeg x2))))) H := hP
      have hD : va_D A (ws_OL g a (u_OL_now z (u_Re_people (q_OL_now z) (u_Pe_strength (q_Re_people (q_OL_now z)) (upd (q_Pe_strength (q_Re_people (q_OL_now z))) x1.toNatClampNeg x2))))) := hD
      refine lv_iload_n hx hb d_OL_strength_54 rfl (lv_at hl 0 rfl) ?_
      obtain rfl := Option.some.inj hd
      exact retI hx hb hr hlk hK hP hD hS d_OL_strength_55 rfl
    · have hd := ite_t hd h_6
      refine lv_bipush (v := (-2)) hx hb d_OL_strength_25 (by decide) ?_
      obtain rfl := Option.some.inj hd
      exact retI hx hb hr hlk hK hP hD hS d_OL_strength_27 rfl
  · have hd := ite_t hd h_3
    refine lv_iconst (v := (-1)) hx hb d_OL_strength_14 (by decide) ?_
    obtain rfl := Option.some.inj hd
    exact retI hx hb hr hlk hK hP hD hS d_OL_strength_15 rfl
-- OwnsLift.row(II)I
def d_OL_row (x1 : Int32) (x2 : Int32) (z : T_OL) : Option (Int32 × T_OL) :=
  (d_Pe_has x1 (q_Re_people (q_OL_now z))).bind fun v_1 => if v_1 = 0 then (some ((-1), z)) else (if x2 = (-1) then (if inb x1 4 = true then (if ((q_Pe_kind (q_Re_people (q_OL_now z))) x1.toNatClampNeg) = 6 then (if x2 = (-1) then (if inb x1 4 = true then (some (0, (u_OL_now z (u_Re_people (q_OL_now z) (u_Pe_rowSize (q_Re_people (q_OL_now z)) (upd (q_Pe_rowSize (q_Re_people (q_OL_now z))) x1.toNatClampNeg 0)))))) else none) else (if inb x1 4 = true then (if ((q_Pe_rowSize (q_Re_people (q_OL_now z))) x1.toNatClampNeg) < 7 then ((d_Pe_addToRow x1 x2 (q_Re_people (q_OL_now z))).bind fun v_8 => some (v_8.1, (u_OL_now z (u_Re_people (q_OL_now z) v_8.2)))) else (some ((-4), z))) else none)) else (some ((-3), z))) else none) else ((d_Th_has x2 (q_Re_things (q_OL_now z))).bind fun v_13 => if v_13 = 0 then (some ((-1), z)) else (if inb x1 4 = true then (if ((q_Pe_kind (q_Re_people (q_OL_now z))) x1.toNatClampNeg) = 6 then (if x2 = (-1) then (if inb x1 4 = true then (some (0, (u_OL_now z (u_Re_people (q_OL_now z) (u_Pe_rowSize (q_Re_people (q_OL_now z)) (upd (q_Pe_rowSize (q_Re_people (q_OL_now z))) x1.toNatClampNeg 0)))))) else none) else (if inb x1 4 = true then (if ((q_Pe_rowSize (q_Re_people (q_OL_now z))) x1.toNatClampNeg) < 7 then ((d_Pe_addToRow x1 x2 (q_Re_people (q_OL_now z))).bind fun v_19 => some (v_19.1, (u_OL_now z (u_Re_people (q_OL_now z) v_19.2)))) else (some ((-4), z))) else none)) else (some ((-3), z))) else none)))
theorem d_OL_row_0 : decode b_OL_row 0 = .ok (.aload_n 0, 1) := by decide +kernel
theorem d_OL_row_1 : decode b_OL_row 1 = .ok (.getfield 12, 3) := by decide +kernel
theorem d_OL_row_4 : decode b_OL_row 4 = .ok (.getfield 95, 3) := by decide +kernel
theorem d_OL_row_7 : decode b_OL_row 7 = .ok (.iload_n 1, 1) := by decide +kernel
theorem d_OL_row_8 : decode b_OL_row 8 = .ok (.invokevirtual 108, 3) := by decide +kernel
theorem d_OL_row_11 : decode b_OL_row 11 = .ok (.ifCond .eq 22, 3) := by decide +kernel
theorem d_OL_row_14 : decode b_OL_row 14 = .ok (.iload_n 2, 1) := by decide +kernel
theorem d_OL_row_15 : decode b_OL_row 15 = .ok (.iconst (-1), 1) := by decide +kernel
theorem d_OL_row_16 : decode b_OL_row 16 = .ok (.if_icmp .eq 19, 3) := by decide +kernel
theorem d_OL_row_19 : decode b_OL_row 19 = .ok (.aload_n 0, 1) := by decide +kernel
theorem d_OL_row_20 : decode b_OL_row 20 = .ok (.getfield 12, 3) := by decide +kernel
theorem d_OL_row_23 : decode b_OL_row 23 = .ok (.getfield 146, 3) := by decide +kernel
theorem d_OL_row_26 : decode b_OL_row 26 = .ok (.iload_n 2, 1) := by decide +kernel
theorem d_OL_row_27 : decode b_OL_row 27 = .ok (.invokevirtual 150, 3) := by decide +kernel
theorem d_OL_row_30 : decode b_OL_row 30 = .ok (.ifCond .ne 5, 3) := by decide +kernel
theorem d_OL_row_33 : decode b_OL_row 33 = .ok (.iconst (-1), 1) := by decide +kernel
theorem d_OL_row_34 : decode b_OL_row 34 = .ok (.ireturn, 1) := by decide +kernel
theorem d_OL_row_35 : decode b_OL_row 35 = .ok (.aload_n 0, 1) := by decide +kernel
theorem d_OL_row_36 : decode b_OL_row 36 = .ok (.getfield 12, 3) := by decide +kernel
theorem d_OL_row_39 : decode b_OL_row 39 = .ok (.getfield 95, 3) := by decide +kernel
theorem d_OL_row_42 : decode b_OL_row 42 = .ok (.getfield 115, 3) := by decide +kernel
theorem d_OL_row_45 : decode b_OL_row 45 = .ok (.iload_n 1, 1) := by decide +kernel
theorem d_OL_row_46 : decode b_OL_row 46 = .ok (.iaload, 1) := by decide +kernel
theorem d_OL_row_47 : decode b_OL_row 47 = .ok (.bipush 6, 2) := by decide +kernel
theorem d_OL_row_49 : decode b_OL_row 49 = .ok (.if_icmp .eq 6, 3) := by decide +kernel
theorem d_OL_row_52 : decode b_OL_row 52 = .ok (.bipush (-3), 2) := by decide +kernel
theorem d_OL_row_54 : decode b_OL_row 54 = .ok (.ireturn, 1) := by decide +kernel
theorem d_OL_row_55 : decode b_OL_row 55 = .ok (.iload_n 2, 1) := by decide +kernel
theorem d_OL_row_56 : decode b_OL_row 56 = .ok (.iconst (-1), 1) := by decide +kernel
theorem d_OL_row_57 : decode b_OL_row 57 = .ok (.if_icmp .ne 18, 3) := by decide +kernel
theorem d_OL_row_60 : decode b_OL_row 60 = .ok (.aload_n 0, 1) := by decide +kernel
theorem d_OL_row_61 : decode b_OL_row 61 = .ok (.getfield 12, 3) := by decide +kernel
theorem d_OL_row_64 : decode b_OL_row 64 = .ok (.getfield 95, 3) := by decide +kernel
theorem d_OL_row_67 : decode b_OL_row 67 = .ok (.getfield 143, 3) := by decide +kernel
theorem d_OL_row_70 : decode b_OL_row 70 = .ok (.iload_n 1, 1) := by decide +kernel
theorem d_OL_row_71 : decode b_OL_row 71 = .ok (.iconst 0, 1) := by decide +kernel
theorem d_OL_row_72 : decode b_OL_row 72 = .ok (.iastore, 1) := by decide +kernel
theorem d_OL_row_73 : decode b_OL_row 73 = .ok (.iconst 0, 1) := by decide +kernel
theorem d_OL_row_74 : decode b_OL_row 74 = .ok (.ireturn, 1) := by decide +kernel
theorem d_OL_row_75 : decode b_OL_row 75 = .ok (.aload_n 0, 1) := by decide +kernel
theorem d_OL_row_76 : decode b_OL_row 76 = .ok (.getfield 12, 3) := by decide +kernel
theorem d_OL_row_79 : decode b_OL_row 79 = .ok (.getfield 95, 3) := by decide +kernel
theorem d_OL_row_82 : decode b_OL_row 82 = .ok (.getfield 143, 3) := by decide +kernel
theorem d_OL_row_85 : decode b_OL_row 85 = .ok (.iload_n 1, 1) := by decide +kernel
theorem d_OL_row_86 : decode b_OL_row 86 = .ok (.iaload, 1) := by decide +kernel
theorem d_OL_row_87 : decode b_OL_row 87 = .ok (.bipush 7, 2) := by decide +kernel
theorem d_OL_row_89 : decode b_OL_row 89 = .ok (.if_icmp .lt 6, 3) := by decide +kernel
theorem d_OL_row_92 : decode b_OL_row 92 = .ok (.bipush (-4), 2) := by decide +kernel
theorem d_OL_row_94 : decode b_OL_row 94 = .ok (.ireturn, 1) := by decide +kernel
theorem d_OL_row_95 : decode b_OL_row 95 = .ok (.aload_n 0, 1) := by decide +kernel
theorem d_OL_row_96 : decode b_OL_row 96 = .ok (.getfield 12, 3) := by decide +kernel
theorem d_OL_row_99 : decode b_OL_row 99 = .ok (.getfield 95, 3) := by decide +kernel
theorem d_OL_row_102 : decode b_OL_row 102 = .ok (.iload_n 1, 1) := by decide +kernel
theorem d_OL_row_103 : decode b_OL_row 103 = .ok (.iload_n 2, 1) := by decide +kernel
theorem d_OL_row_104 : decode b_OL_row 104 = .ok (.invokevirtual 153, 3) := by decide +kernel
theorem d_OL_row_107 : decode b_OL_row 107 = .ok (.ireturn, 1) := by decide +kernel
theorem o_OL_row : OkV y_OL_row "OwnsLift" b_OL_row 3 (some .int) 2 := ⟨⟨rfl, by decide +kernel, by decide +kernel, by decide +kernel⟩, g_697, g_698, g_71, g_699⟩
set_option maxHeartbeats 4000000 in
set_option maxRecDepth 100000 in
theorem c_OL_row (l : Launch) (D : va_G) (g : Nat → ClassId) (a : Nat → Nat) (x1 : Int32) (x2 : Int32) (z : T_OL) (v : Int32 × T_OL) (h : d_OL_row x1 x2 z = some v) :
    MI l y_OL_row b_OL_row 3 .int ({ frames := 1, cells := 0, slots := 0, locals := 22 } : Room) D g [.ref (a 0), .int x1, .int x2] (ws_OL g a z) (v.1) (ws_OL g a v.2) := by
  have hd := h
  unfold d_OL_row at hd
  refine enterI rfl (Nat.le_of_ble_eq_true rfl) (fun p e s m below meth c A ls hx hb hml hr hown hg hlk hK hA hP hD hS hCs hl => ?_)
  have hown : s.vm.findClass "OwnsLift" = some m.cls := hown
  have hl : lv_has ls 3 [(0, .ref (a 0)), (1, .int x1), (2, .int x2)] := hl
  show GI p l e s m ({ frames := 1, cells := 0, slots := 0, locals := 22 } : Room) ([.ref (a 0), .int x1, .int x2] : List Value).toArray below meth c A D g (ws_OL g a v.2) (v.1) s.heap [] (F0 m 0 ls [])
  refine lv_aload_n hx hb d_OL_row_0 rfl (lv_at hl 0 rfl) ?_
  refine va_get (D := D) (ci := 0) (v := .ref (a 1)) (C := R_OL) (T := F_OL) (N := 8) hx hb hg i_OL hown hK hP 0 rfl rfl 0 (by decide) (hg _ g_396) (fun _ h9 => h9) rfl d_OL_row_1 ?_
  refine va_get (D := D) (ci := 7) (v := .ref (a 8)) (C := R_Re) (T := F_Re) (N := 11) hx hb hg i_Re hown hK hP 1 rfl rfl 4 (by decide) (hg _ g_212) (fun _ h9 => h9) rfl d_OL_row_4 ?_
  refine lv_iload_n hx hb d_OL_row_7 rfl (lv_at hl 1 rfl) ?_
  obtain ⟨v_1, e_2, hd⟩ := bind_s hd
  refine callVI (ws' := ws_OL g a z) (rest := []) (As := [.int x1]) hx hb hml hown hg hK hP hD hS hA hCs hl.1 (c_Pe_has l D g (sh a 8) x1 (q_Re_people (q_OL_now z)) _ e_2) o_Pe_has g_629 (ci := 5) (q0 := 8) rfl rfl (List.range' 8 11) (segC1 rfl rfl) (by decide) rfl (segP1 rfl rfl) rfl rfl (Nat.le_of_ble_eq_true rfl) ⟨rfl, rfl, Nat.le_of_ble_eq_true rfl, Nat.le_of_ble_eq_true rfl⟩ d_OL_row_8 (fun H locs hP hD hS => ?_)
  refine lv_if_eq (tgt := 33) hx hb d_OL_row_11 (by decide) (fun h_3 => ?_) (fun h_3 => ?_)
  · have hd := ite_t hd h_3
    refine lv_iconst (v := (-1)) hx hb d_OL_row_33 (by decide) ?_
    obtain rfl := Option.some.inj hd
    exact retI hx hb hr hlk hK hP hD hS d_OL_row_34 rfl
  · have hd := ite_f hd h_3
    refine lv_iload_n hx hb d_OL_row_14 rfl (lv_at hl 2 rfl) ?_
    refine lv_iconst (v := (-1)) hx hb d_OL_row_15 (by decide) ?_
    refine lv_icmp_eq (tgt := 35) hx hb d_OL_row_16 (by decide) (fun h_4 => ?_) (fun h_4 => ?_)
    · have hd := ite_t hd h_4
      refine lv_aload_n hx hb d_OL_row_35 rfl (lv_at hl 0 rfl) ?_
      refine va_get (D := D) (ci := 0) (v := .ref (a 1)) (C := R_OL) (T := F_OL) (N := 8) hx hb hg i_OL hown hK hP 0 rfl rfl 0 (by decide) (hg _ g_396) (fun _ h9 => h9) rfl d_OL_row_36 ?_
      refine va_get (D := D) (ci := 7) (v := .ref (a 8)) (C := R_Re) (T := F_Re) (N := 11) hx hb hg i_Re hown hK hP 1 rfl rfl 4 (by decide) (hg _ g_212) (fun _ h9 => h9) rfl d_OL_row_39 ?_
      refine va_get (D := D) (ci := 5) (v := .ref (a 9)) (C := R_Pe) (T := F_Pe) (N := 7) hx hb hg i_Pe hown hK hP 8 rfl rfl 1 (by decide) (hg _ g_146) (fun _ h9 => h9) rfl d_OL_row_42 ?_
      refine lv_iload_n hx hb d_OL_row_45 rfl (lv_at hl 1 rfl) ?_
      obtain ⟨h_12, hd⟩ := ite_s hd
      refine ialdK hx hb hK hP 9 0 rfl rfl (inb_t h_12) rfl d_OL_row_46 ?_
      refine lv_bipush (v := 6) hx hb d_OL_row_47 (by decide) ?_
      refine lv_icmp_eq (tgt := 55) hx hb d_OL_row_49 (by decide) (fun h_5 => ?_) (fun h_5 => ?_)
      · have hd := ite_t hd h_5
        refine lv_iload_n hx hb d_OL_row_55 rfl (lv_at hl 2 rfl) ?_
        refine lv_iconst (v := (-1)) hx hb d_OL_row_56 (by decide) ?_
        refine lv_icmp_ne (tgt := 75) hx hb d_OL_row_57 (by decide) (fun h_6 => ?_) (fun h_6 => ?_)
        · have hd := ite_f hd h_6
          refine lv_aload_n hx hb d_OL_row_75 rfl (lv_at hl 0 rfl) ?_
          refine va_get (D := D) (ci := 0) (v := .ref (a 1)) (C := R_OL) (T := F_OL) (N := 8) hx hb hg i_OL hown hK hP 0 rfl rfl 0 (by decide) (hg _ g_396) (fun _ h9 => h9) rfl d_OL_row_76 ?_
          refine va_get (D := D) (ci := 7) (v := .ref (a 8)) (C := R_Re) (T := F_Re) (N := 11) hx hb hg i_Re hown hK hP 1 rfl rfl 4 (by decide) (hg _ g_212) (fun _ h9 => h9) rfl d_OL_row_79 ?_
          refine va_get (D := D) (ci := 5) (v := .ref (a 13)) (C := R_Pe) (T := F_Pe) (N := 7) hx hb hg i_Pe hown hK hP 8 rfl rfl 5 (by decide) (hg _ g_159) (fun _ h9 => h9) rfl d_OL_row_82 ?_
          refine lv_iload_n hx hb d_OL_row_85 rfl (lv_at hl 1 rfl) ?_
          obtain ⟨h_10, hd⟩ := ite_s hd
          refine ialdK hx hb hK hP 13 0 rfl rfl (inb_t h_10) rfl d_OL_row_86 ?_
          refine lv_bipush (v := 7) hx hb d_OL_row_87 (by decide) ?_
          refine lv_icmp_lt (tgt := 95) hx hb d_OL_row_89 (by decide) (fun h_7 => ?_) (fun h_7 => ?_)
          · have hd := ite_t hd h_7
            refine lv_aload_n hx hb d_OL_row_95 rfl (lv_at hl 0 rfl) ?_
            refine va_get (D := D) (ci := 0) (v := .ref (a 1)) (C := R_OL) (T := F_OL) (N := 8) hx hb hg i_OL hown hK hP 0 rfl rfl 0 (by decide) (hg _ g_396) (fun _ h9 => h9) rfl d_OL_row_96 ?_
            refine va_get (D := D) (ci := 7) (v := .ref (a 8)) (C := R_Re) (T := F_Re) (N := 11) hx hb hg i_Re hown hK hP 1 rfl rfl 4 (by decide) (hg _ g_212) (fun _ h9 => h9) rfl d_OL_row_99 ?_
            refine lv_iload_n hx hb d_OL_row_102 rfl (lv_at hl 1 rfl) ?_
            refine lv_iload_n hx hb d_OL_row_103 rfl (lv_at hl 2 rfl) ?_
            obtain ⟨v_8, e_9, hd⟩ := bind_s hd
            refine callVI (ws' := ws_OL g a (u_OL_now z (u_Re_people (q_OL_now z) v_8.2))) (rest := []) (As := [.int x1, .int x2]) hx hb hml hown hg hK hP hD hS hA hCs hl.1 (c_Pe_addToRow l D g (sh a 8) x1 x2 (q_Re_people (q_OL_now z)) _ e_9) o_Pe_addToRow g_704 (ci := 5) (q0 := 8) rfl rfl (List.range' 8 11) (segC1 rfl rfl) (by decide) rfl (segP1 rfl rfl) rfl rfl (Nat.le_of_ble_eq_true rfl) ⟨rfl, rfl, Nat.le_of_ble_eq_true rfl, Nat.le_of_ble_eq_true rfl⟩ d_OL_row_104 (fun H locs hP hD hS => ?_)
            obtain rfl := Option.some.inj hd
            exact retI hx hb hr hlk hK hP hD hS d_OL_row_107 rfl
          · have hd := ite_f hd h_7
            refine lv_bipush (v := (-4)) hx hb d_OL_row_92 (by decide) ?_
            obtain rfl := Option.some.inj hd
            exact retI hx hb hr hlk hK hP hD hS d_OL_row_94 rfl
        · have hd := ite_t hd h_6
          refine lv_aload_n hx hb d_OL_row_60 rfl (lv_at hl 0 rfl) ?_
          refine va_get (D := D) (ci := 0) (v := .ref (a 1)) (C := R_OL) (T := F_OL) (N := 8) hx hb hg i_OL hown hK hP 0 rfl rfl 0 (by decide) (hg _ g_396) (fun _ h9 => h9) rfl d_OL_row_61 ?_
          refine va_get (D := D) (ci := 7) (v := .ref (a 8)) (C := R_Re) (T := F_Re) (N := 11) hx hb hg i_Re hown hK hP 1 rfl rfl 4 (by decide) (hg _ g_212) (fun _ h9 => h9) rfl d_OL_row_64 ?_
          refine va_get (D := D) (ci := 5) (v := .ref (a 13)) (C := R_Pe) (T := F_Pe) (N := 7) hx hb hg i_Pe hown hK hP 8 rfl rfl 5 (by decide) (hg _ g_159) (fun _ h9 => h9) rfl d_OL_row_67 ?_
          refine lv_iload_n hx hb d_OL_row_70 rfl (lv_at hl 1 rfl) ?_
          refine lv_iconst (v := 0) hx hb d_OL_row_71 (by decide) ?_
          obtain ⟨h_11, hd⟩ := ite_s hd
          refine iastK hx hb hK hP hD hS 13 0 rfl rfl (inb_t h_11) rfl d_OL_row_72 (fun H locs hP hD hS => ?_)
          have hP : va_P D classes (ws_OL g a (u_OL_now z (u_Re_people (q_OL_now z) (u_Pe_rowSize (q_Re_people (q_OL_now z)) (upd (q_Pe_rowSize (q_Re_people (q_OL_now z))) x1.toNatClampNeg 0))))) H := hP
          have hD : va_D A (ws_OL g a (u_OL_now z (u_Re_people (q_OL_now z) (u_Pe_rowSize (q_Re_people (q_OL_now z)) (upd (q_Pe_rowSize (q_Re_people (q_OL_now z))) x1.toNatClampNeg 0))))) := hD
          refine lv_iconst (v := 0) hx hb d_OL_row_73 (by decide) ?_
          obtain rfl := Option.some.inj hd
          exact retI hx hb hr hlk hK hP hD hS d_OL_row_74 rfl
      · have hd := ite_f hd h_5
        refine lv_bipush (v := (-3)) hx hb d_OL_row_52 (by decide) ?_
        obtain rfl := Option.some.inj hd
        exact retI hx hb hr hlk hK hP hD hS d_OL_row_54 rfl
    · have hd := ite_f hd h_4
      refine lv_aload_n hx hb d_OL_row_19 rfl (lv_at hl 0 rfl) ?_
      refine va_get (D := D) (ci := 0) (v := .ref (a 1)) (C := R_OL) (T := F_OL) (N := 8) hx hb hg i_OL hown hK hP 0 rfl rfl 0 (by decide) (hg _ g_396) (fun _ h9 => h9) rfl d_OL_row_20 ?_
      refine va_get (D := D) (ci := 7) (v := .ref (a 19)) (C := R_Re) (T := F_Re) (N := 11) hx hb hg i_Re hown hK hP 1 rfl rfl 5 (by decide) (hg _ g_215) (fun _ h9 => h9) rfl d_OL_row_23 ?_
      refine lv_iload_n hx hb d_OL_row_26 rfl (lv_at hl 2 rfl) ?_
      obtain ⟨v_13, e_14, hd⟩ := bind_s hd
      refine callVI (ws' := ws_OL g a z) (rest := []) (As := [.int x2]) hx hb hml hown hg hK hP hD hS hA hCs hl.1 (c_Th_has l D g (sh a 19) x2 (q_Re_things (q_OL_now z)) _ e_14) o_Th_has g_700 (ci := 10) (q0 := 19) rfl rfl (List.range' 19 3) (segC1 rfl rfl) (by decide) rfl (segP1 rfl rfl) rfl rfl (Nat.le_of_ble_eq_true rfl) ⟨rfl, rfl, Nat.le_of_ble_eq_true rfl, Nat.le_of_ble_eq_true rfl⟩ d_OL_row_27 (fun H locs hP hD hS => ?_)
      refine lv_if_ne (tgt := 35) hx hb d_OL_row_30 (by decide) (fun h_15 => ?_) (fun h_15 => ?_)
      · have hd := ite_f hd h_15
        refine lv_aload_n hx hb d_OL_row_35 rfl (lv_at hl 0 rfl) ?_
        refine va_get (D := D) (ci := 0) (v := .ref (a 1)) (C := R_OL) (T := F_OL) (N := 8) hx hb hg i_OL hown hK hP 0 rfl rfl 0 (by decide) (hg _ g_396) (fun _ h9 => h9) rfl d_OL_row_36 ?_
        refine va_get (D := D) (ci := 7) (v := .ref (a 8)) (C := R_Re) (T := F_Re) (N := 11) hx hb hg i_Re hown hK hP 1 rfl rfl 4 (by decide) (hg _ g_212) (fun _ h9 => h9) rfl d_OL_row_39 ?_
        refine va_get (D := D) (ci := 5) (v := .ref (a 9)) (C := R_Pe) (T := F_Pe) (N := 7) hx hb hg i_Pe hown hK hP 8 rfl rfl 1 (by decide) (hg _ g_146) (fun _ h9 => h9) rfl d_OL_row_42 ?_
        refine lv_iload_n hx hb d_OL_row_45 rfl (lv_at hl 1 rfl) ?_
        obtain ⟨h_23, hd⟩ := ite_s hd
        refine ialdK hx hb hK hP 9 0 rfl rfl (inb_t h_23) rfl d_OL_row_46 ?_
        refine lv_bipush (v := 6) hx hb d_OL_row_47 (by decide) ?_
        refine lv_icmp_eq (tgt := 55) hx hb d_OL_row_49 (by decide) (fun h_16 => ?_) (fun h_16 => ?_)
        · have hd := ite_t hd h_16
          refine lv_iload_n hx hb d_OL_row_55 rfl (lv_at hl 2 rfl) ?_
          refine lv_iconst (v := (-1)) hx hb d_OL_row_56 (by decide) ?_
          refine lv_icmp_ne (tgt := 75) hx hb d_OL_row_57 (by decide) (fun h_17 => ?_) (fun h_17 => ?_)
          · have hd := ite_f hd h_17
            refine lv_aload_n hx hb d_OL_row_75 rfl (lv_at hl 0 rfl) ?_
            refine va_get (D := D) (ci := 0) (v := .ref (a 1)) (C := R_OL) (T := F_OL) (N := 8) hx hb hg i_OL hown hK hP 0 rfl rfl 0 (by decide) (hg _ g_396) (fun _ h9 => h9) rfl d_OL_row_76 ?_
            refine va_get (D := D) (ci := 7) (v := .ref (a 8)) (C := R_Re) (T := F_Re) (N := 11) hx hb hg i_Re hown hK hP 1 rfl rfl 4 (by decide) (hg _ g_212) (fun _ h9 => h9) rfl d_OL_row_79 ?_
            refine va_get (D := D) (ci := 5) (v := .ref (a 13)) (C := R_Pe) (T := F_Pe) (N := 7) hx hb hg i_Pe hown hK hP 8 rfl rfl 5 (by decide) (hg _ g_159) (fun _ h9 => h9) rfl d_OL_row_82 ?_
            refine lv_iload_n hx hb d_OL_row_85 rfl (lv_at hl 1 rfl) ?_
            obtain ⟨h_21, hd⟩ := ite_s hd
            refine ialdK hx hb hK hP 13 0 rfl rfl (inb_t h_21) rfl d_OL_row_86 ?_
            refine lv_bipush (v := 7) hx hb d_OL_row_87 (by decide) ?_
            refine lv_icmp_lt (tgt := 95) hx hb d_OL_row_89 (by decide) (fun h_18 => ?_) (fun h_18 => ?_)
            · have hd := ite_t hd h_18
              refine lv_aload_n hx hb d_OL_row_95 rfl (lv_at hl 0 rfl) ?_
              refine va_get (D := D) (ci := 0) (v := .ref (a 1)) (C := R_OL) (T := F_OL) (N := 8) hx hb hg i_OL hown hK hP 0 rfl rfl 0 (by decide) (hg _ g_396) (fun _ h9 => h9) rfl d_OL_row_96 ?_
              refine va_get (D := D) (ci := 7) (v := .ref (a 8)) (C := R_Re) (T := F_Re) (N := 11) hx hb hg i_Re hown hK hP 1 rfl rfl 4 (by decide) (hg _ g_212) (fun _ h9 => h9) rfl d_OL_row_99 ?_
              refine lv_iload_n hx hb d_OL_row_102 rfl (lv_at hl 1 rfl) ?_
              refine lv_iload_n hx hb d_OL_row_103 rfl (lv_at hl 2 rfl) ?_
              obtain ⟨v_19, e_20, hd⟩ := bind_s hd
              refine callVI (ws' := ws_OL g a (u_OL_now z (u_Re_people (q_OL_now z) v_19.2))) (rest := []) (As := [.int x1, .int x2]) hx hb hml hown hg hK hP hD hS hA hCs hl.1 (c_Pe_addToRow l D g (sh a 8) x1 x2 (q_Re_people (q_OL_now z)) _ e_20) o_Pe_addToRow g_704 (ci := 5) (q0 := 8) rfl rfl (List.range' 8 11) (segC1 rfl rfl) (by decide) rfl (segP1 rfl rfl) rfl rfl (Nat.le_of_ble_eq_true rfl) ⟨rfl, rfl, Nat.le_of_ble_eq_true rfl, Nat.le_of_ble_eq_true rfl⟩ d_OL_row_104 (fun H locs hP hD hS => ?_)
              obtain rfl := Option.some.inj hd
              exact retI hx hb hr hlk hK hP hD hS d_OL_row_107 rfl
            · have hd := ite_f hd h_18
              refine lv_bipush (v := (-4)) hx hb d_OL_row_92 (by decide) ?_
              obtain rfl := Option.some.inj hd
              exact retI hx hb hr hlk hK hP hD hS d_OL_row_94 rfl
          · have hd := ite_t hd h_17
            refine lv_aload_n hx hb d_OL_row_60 rfl (lv_at hl 0 rfl) ?_
            refine va_get (D := D) (ci := 0) (v := .ref (a 1)) (C := R_OL) (T := F_OL) (N := 8) hx hb hg i_OL hown hK hP 0 rfl rfl 0 (by decide) (hg _ g_396) (fun _ h9 => h9) rfl d_OL_row_61 ?_
            refine va_get (D := D) (ci := 7) (v := .ref (a 8)) (C := R_Re) (T := F_Re) (N := 11) hx hb hg i_Re hown hK hP 1 rfl rfl 4 (by decide) (hg _ g_212) (fun _ h9 => h9) rfl d_OL_row_64 ?_
            refine va_get (D := D) (ci := 5) (v := .ref (a 13)) (C := R_Pe) (T := F_Pe) (N := 7) hx hb hg i_Pe hown hK hP 8 rfl rfl 5 (by decide) (hg _ g_159) (fun _ h9 => h9) rfl d_OL_row_67 ?_
            refine lv_iload_n hx hb d_OL_row_70 rfl (lv_at hl 1 rfl) ?_
            refine lv_iconst (v := 0) hx hb d_OL_row_71 (by decide) ?_
            obtain ⟨h_22, hd⟩ := ite_s hd
            refine iastK hx hb hK hP hD hS 13 0 rfl rfl (inb_t h_22) rfl d_OL_row_72 (fun H locs hP hD hS => ?_)
            have hP : va_P D classes (ws_OL g a (u_OL_now z (u_Re_people (q_OL_now z) (u_Pe_rowSize (q_Re_people (q_OL_now z)) (upd (q_Pe_rowSize (q_Re_people (q_OL_now z))) x1.toNatClampNeg 0))))) H := hP
            have hD : va_D A (ws_OL g a (u_OL_now z (u_Re_people (q_OL_now z) (u_Pe_rowSize (q_Re_people (q_OL_now z)) (upd (q_Pe_rowSize (q_Re_people (q_OL_now z))) x1.toNatClampNeg 0))))) := hD
            refine lv_iconst (v := 0) hx hb d_OL_row_73 (by decide) ?_
            obtain rfl := Option.some.inj hd
            exact retI hx hb hr hlk hK hP hD hS d_OL_row_74 rfl
        · have hd := ite_f hd h_16
          refine lv_bipush (v := (-3)) hx hb d_OL_row_52 (by decide) ?_
          obtain rfl := Option.some.inj hd
          exact retI hx hb hr hlk hK hP hD hS d_OL_row_54 rfl
      · have hd := ite_t hd h_15
        refine lv_iconst (v := (-1)) hx hb d_OL_row_33 (by decide) ?_
        obtain rfl := Option.some.inj hd
        exact retI hx hb hr hlk hK hP hD hS d_OL_row_34 rfl
-- OwnsLift.thing(I)I
def d_OL_thing (x1 : Int32) (z : T_OL) : Option (Int32 × T_OL) :=
  (d_OL_within x1 50).bind fun v_1 => if v_1 = 0 then (some ((-2), z)) else (if (q_Th_size (q_Re_things (q_OL_now z))) < 7 then ((d_Th_add x1 (q_Re_things (q_OL_now z))).bind fun v_5 => some (v_5.1, (u_OL_now z (u_Re_things (q_OL_now z) v_5.2)))) else (some ((-4), z)))
theorem d_OL_thing_0 : decode b_OL_thing 0 = .ok (.iload_n 1, 1) := by decide +kernel
theorem d_OL_thing_1 : decode b_OL_thing 1 = .ok (.bipush 50, 2) := by decide +kernel
theorem d_OL_thing_3 : decode b_OL_thing 3 = .ok (.invokestatic 91, 3) := by decide +kernel
theorem d_OL_thing_6 : decode b_OL_thing 6 = .ok (.ifCond .ne 6, 3) := by decide +kernel
theorem d_OL_thing_9 : decode b_OL_thing 9 = .ok (.bipush (-2), 2) := by decide +kernel
theorem d_OL_thing_11 : decode b_OL_thing 11 = .ok (.ireturn, 1) := by decide +kernel
theorem d_OL_thing_12 : decode b_OL_thing 12 = .ok (.aload_n 0, 1) := by decide +kernel
theorem d_OL_thing_13 : decode b_OL_thing 13 = .ok (.getfield 12, 3) := by decide +kernel
theorem d_OL_thing_16 : decode b_OL_thing 16 = .ok (.getfield 146, 3) := by decide +kernel
theorem d_OL_thing_19 : decode b_OL_thing 19 = .ok (.getfield 157, 3) := by decide +kernel
theorem d_OL_thing_22 : decode b_OL_thing 22 = .ok (.bipush 7, 2) := by decide +kernel
theorem d_OL_thing_24 : decode b_OL_thing 24 = .ok (.if_icmp .lt 6, 3) := by decide +kernel
theorem d_OL_thing_27 : decode b_OL_thing 27 = .ok (.bipush (-4), 2) := by decide +kernel
theorem d_OL_thing_29 : decode b_OL_thing 29 = .ok (.ireturn, 1) := by decide +kernel
theorem d_OL_thing_30 : decode b_OL_thing 30 = .ok (.aload_n 0, 1) := by decide +kernel
theorem d_OL_thing_31 : decode b_OL_thing 31 = .ok (.getfield 12, 3) := by decide +kernel
theorem d_OL_thing_34 : decode b_OL_thing 34 = .ok (.getfield 146, 3) := by decide +kernel
theorem d_OL_thing_37 : decode b_OL_thing 37 = .ok (.iload_n 1, 1) := by decide +kernel
theorem d_OL_thing_38 : decode b_OL_thing 38 = .ok (.invokevirtual 158, 3) := by decide +kernel
theorem d_OL_thing_41 : decode b_OL_thing 41 = .ok (.ireturn, 1) := by decide +kernel
theorem o_OL_thing : OkV y_OL_thing "OwnsLift" b_OL_thing 2 (some .int) 1 := ⟨⟨rfl, by decide +kernel, by decide +kernel, by decide +kernel⟩, g_709, g_710, g_71, g_711⟩
set_option maxHeartbeats 4000000 in
set_option maxRecDepth 100000 in
theorem c_OL_thing (l : Launch) (D : va_G) (g : Nat → ClassId) (a : Nat → Nat) (x1 : Int32) (z : T_OL) (v : Int32 × T_OL) (h : d_OL_thing x1 z = some v) :
    MI l y_OL_thing b_OL_thing 2 .int ({ frames := 1, cells := 0, slots := 0, locals := 22 } : Room) D g [.ref (a 0), .int x1] (ws_OL g a z) (v.1) (ws_OL g a v.2) := by
  have hd := h
  unfold d_OL_thing at hd
  refine enterI rfl (Nat.le_of_ble_eq_true rfl) (fun p e s m below meth c A ls hx hb hml hr hown hg hlk hK hA hP hD hS hCs hl => ?_)
  have hown : s.vm.findClass "OwnsLift" = some m.cls := hown
  have hl : lv_has ls 2 [(0, .ref (a 0)), (1, .int x1)] := hl
  show GI p l e s m ({ frames := 1, cells := 0, slots := 0, locals := 22 } : Room) ([.ref (a 0), .int x1] : List Value).toArray below meth c A D g (ws_OL g a v.2) (v.1) s.heap [] (F0 m 0 ls [])
  refine lv_iload_n hx hb d_OL_thing_0 rfl (lv_at hl 1 rfl) ?_
  refine lv_bipush (v := 50) hx hb d_OL_thing_1 (by decide) ?_
  obtain ⟨v_1, e_2, hd⟩ := bind_s hd
  refine callSI (ws' := ws_OL g a z) (rest := []) (As := [.int x1, .int 50]) hx hb hml hown hg hK hP hD hS hA hCs hl.1 (c_OL_within l D g  x1 50 _ e_2) o_OL_within g_618 [] segC0 rfl rfl segP0 rfl rfl (Nat.le_of_ble_eq_true rfl) ⟨rfl, rfl, Nat.le_of_ble_eq_true rfl, Nat.le_of_ble_eq_true rfl⟩ d_OL_thing_3 (fun H locs hP hD hS => ?_)
  refine lv_if_ne (tgt := 12) hx hb d_OL_thing_6 (by decide) (fun h_3 => ?_) (fun h_3 => ?_)
  · have hd := ite_f hd h_3
    refine lv_aload_n hx hb d_OL_thing_12 rfl (lv_at hl 0 rfl) ?_
    refine va_get (D := D) (ci := 0) (v := .ref (a 1)) (C := R_OL) (T := F_OL) (N := 8) hx hb hg i_OL hown hK hP 0 rfl rfl 0 (by decide) (hg _ g_396) (fun _ h9 => h9) rfl d_OL_thing_13 ?_
    refine va_get (D := D) (ci := 7) (v := .ref (a 19)) (C := R_Re) (T := F_Re) (N := 11) hx hb hg i_Re hown hK hP 1 rfl rfl 5 (by decide) (hg _ g_215) (fun _ h9 => h9) rfl d_OL_thing_16 ?_
    refine va_get (D := D) (ci := 10) (v := .int (q_Th_size (q_Re_things (q_OL_now z)))) (C := R_Th) (T := F_Th) (N := 3) hx hb hg i_Th hown hK hP 19 rfl rfl 0 (by decide) (hg _ g_187) (fun _ h9 => h9) rfl d_OL_thing_19 ?_
    refine lv_bipush (v := 7) hx hb d_OL_thing_22 (by decide) ?_
    refine lv_icmp_lt (tgt := 30) hx hb d_OL_thing_24 (by decide) (fun h_4 => ?_) (fun h_4 => ?_)
    · have hd := ite_t hd h_4
      refine lv_aload_n hx hb d_OL_thing_30 rfl (lv_at hl 0 rfl) ?_
      refine va_get (D := D) (ci := 0) (v := .ref (a 1)) (C := R_OL) (T := F_OL) (N := 8) hx hb hg i_OL hown hK hP 0 rfl rfl 0 (by decide) (hg _ g_396) (fun _ h9 => h9) rfl d_OL_thing_31 ?_
      refine va_get (D := D) (ci := 7) (v := .ref (a 19)) (C := R_Re) (T := F_Re) (N := 11) hx hb hg i_Re hown hK hP 1 rfl rfl 5 (by decide) (hg _ g_215) (fun _ h9 => h9) rfl d_OL_thing_34 ?_
      refine lv_iload_n hx hb d_OL_thing_37 rfl (lv_at hl 1 rfl) ?_
      obtain ⟨v_5, e_6, hd⟩ := bind_s hd
      refine callVI (ws' := ws_OL g a (u_OL_now z (u_Re_things (q_OL_now z) v_5.2))) (rest := []) (As := [.int x1]) hx hb hml hown hg hK hP hD hS hA hCs hl.1 (c_Th_add l D g (sh a 19) x1 (q_Re_things (q_OL_now z)) _ e_6) o_Th_add g_712 (ci := 10) (q0 := 19) rfl rfl (List.range' 19 3) (segC1 rfl rfl) (by decide) rfl (segP1 rfl rfl) rfl rfl (Nat.le_of_ble_eq_true rfl) ⟨rfl, rfl, Nat.le_of_ble_eq_true rfl, Nat.le_of_ble_eq_true rfl⟩ d_OL_thing_38 (fun H locs hP hD hS => ?_)
      obtain rfl := Option.some.inj hd
      exact retI hx hb hr hlk hK hP hD hS d_OL_thing_41 rfl
    · have hd := ite_f hd h_4
      refine lv_bipush (v := (-4)) hx hb d_OL_thing_27 (by decide) ?_
      obtain rfl := Option.some.inj hd
      exact retI hx hb hr hlk hK hP hD hS d_OL_thing_29 rfl
  · have hd := ite_t hd h_3
    refine lv_bipush (v := (-2)) hx hb d_OL_thing_9 (by decide) ?_
    obtain rfl := Option.some.inj hd
    exact retI hx hb hr hlk hK hP hD hS d_OL_thing_11 rfl
-- OwnsLift.at(II)I
def d_OL_at (x1 : Int32) (x2 : Int32) (z : T_OL) : Option (Int32) :=
  (d_Th_has x1 (q_Re_things (q_OL_now z))).bind fun v_1 => if v_1 = 0 then (some ((-1001))) else ((d_OL_within x2 1).bind fun v_4 => if v_4 = 0 then (some ((-1001))) else (if x2 = 0 then (if inb x1 7 = true then (some ((q_Th_weight (q_Re_things (q_OL_now z))) x1.toNatClampNeg)) else none) else (if inb x1 7 = true then (some ((q_Th_owner (q_Re_things (q_OL_now z))) x1.toNatClampNeg)) else none)))
theorem d_OL_at_0 : decode b_OL_at 0 = .ok (.aload_n 0, 1) := by decide +kernel
theorem d_OL_at_1 : decode b_OL_at 1 = .ok (.getfield 12, 3) := by decide +kernel
theorem d_OL_at_4 : decode b_OL_at 4 = .ok (.getfield 146, 3) := by decide +kernel
theorem d_OL_at_7 : decode b_OL_at 7 = .ok (.iload_n 1, 1) := by decide +kernel
theorem d_OL_at_8 : decode b_OL_at 8 = .ok (.invokevirtual 150, 3) := by decide +kernel
theorem d_OL_at_11 : decode b_OL_at 11 = .ok (.ifCond .eq 11, 3) := by decide +kernel
theorem d_OL_at_14 : decode b_OL_at 14 = .ok (.iload_n 2, 1) := by decide +kernel
theorem d_OL_at_15 : decode b_OL_at 15 = .ok (.iconst 1, 1) := by decide +kernel
theorem d_OL_at_16 : decode b_OL_at 16 = .ok (.invokestatic 91, 3) := by decide +kernel
theorem d_OL_at_19 : decode b_OL_at 19 = .ok (.ifCond .ne 7, 3) := by decide +kernel
theorem d_OL_at_22 : decode b_OL_at 22 = .ok (.sipush (-1001), 3) := by decide +kernel
theorem d_OL_at_25 : decode b_OL_at 25 = .ok (.ireturn, 1) := by decide +kernel
theorem d_OL_at_26 : decode b_OL_at 26 = .ok (.iload_n 2, 1) := by decide +kernel
theorem d_OL_at_27 : decode b_OL_at 27 = .ok (.ifCond .ne 18, 3) := by decide +kernel
theorem d_OL_at_30 : decode b_OL_at 30 = .ok (.aload_n 0, 1) := by decide +kernel
theorem d_OL_at_31 : decode b_OL_at 31 = .ok (.getfield 12, 3) := by decide +kernel
theorem d_OL_at_34 : decode b_OL_at 34 = .ok (.getfield 146, 3) := by decide +kernel
theorem d_OL_at_37 : decode b_OL_at 37 = .ok (.getfield 160, 3) := by decide +kernel
theorem d_OL_at_40 : decode b_OL_at 40 = .ok (.iload_n 1, 1) := by decide +kernel
theorem d_OL_at_41 : decode b_OL_at 41 = .ok (.iaload, 1) := by decide +kernel
theorem d_OL_at_42 : decode b_OL_at 42 = .ok (.goto 15, 3) := by decide +kernel
theorem d_OL_at_45 : decode b_OL_at 45 = .ok (.aload_n 0, 1) := by decide +kernel
theorem d_OL_at_46 : decode b_OL_at 46 = .ok (.getfield 12, 3) := by decide +kernel
theorem d_OL_at_49 : decode b_OL_at 49 = .ok (.getfield 146, 3) := by decide +kernel
theorem d_OL_at_52 : decode b_OL_at 52 = .ok (.getfield 163, 3) := by decide +kernel
theorem d_OL_at_55 : decode b_OL_at 55 = .ok (.iload_n 1, 1) := by decide +kernel
theorem d_OL_at_56 : decode b_OL_at 56 = .ok (.iaload, 1) := by decide +kernel
theorem d_OL_at_57 : decode b_OL_at 57 = .ok (.ireturn, 1) := by decide +kernel
theorem o_OL_at : OkV y_OL_at "OwnsLift" b_OL_at 3 (some .int) 2 := ⟨⟨rfl, by decide +kernel, by decide +kernel, by decide +kernel⟩, g_717, g_718, g_71, g_719⟩
set_option maxHeartbeats 4000000 in
set_option maxRecDepth 100000 in
theorem c_OL_at (l : Launch) (D : va_G) (g : Nat → ClassId) (a : Nat → Nat) (x1 : Int32) (x2 : Int32) (z : T_OL) (v : Int32) (h : d_OL_at x1 x2 z = some v) :
    MI l y_OL_at b_OL_at 3 .int ({ frames := 1, cells := 0, slots := 0, locals := 21 } : Room) D g [.ref (a 0), .int x1, .int x2] (ws_OL g a z) (v) (ws_OL g a z) := by
  have hd := h
  unfold d_OL_at at hd
  refine enterI rfl (Nat.le_of_ble_eq_true rfl) (fun p e s m below meth c A ls hx hb hml hr hown hg hlk hK hA hP hD hS hCs hl => ?_)
  have hown : s.vm.findClass "OwnsLift" = some m.cls := hown
  have hl : lv_has ls 3 [(0, .ref (a 0)), (1, .int x1), (2, .int x2)] := hl
  show GI p l e s m ({ frames := 1, cells := 0, slots := 0, locals := 21 } : Room) ([.ref (a 0), .int x1, .int x2] : List Value).toArray below meth c A D g (ws_OL g a z) (v) s.heap [] (F0 m 0 ls [])
  refine lv_aload_n hx hb d_OL_at_0 rfl (lv_at hl 0 rfl) ?_
  refine va_get (D := D) (ci := 0) (v := .ref (a 1)) (C := R_OL) (T := F_OL) (N := 8) hx hb hg i_OL hown hK hP 0 rfl rfl 0 (by decide) (hg _ g_396) (fun _ h9 => h9) rfl d_OL_at_1 ?_
  refine va_get (D := D) (ci := 7) (v := .ref (a 19)) (C := R_Re) (T := F_Re) (N := 11) hx hb hg i_Re hown hK hP 1 rfl rfl 5 (by decide) (hg _ g_215) (fun _ h9 => h9) rfl d_OL_at_4 ?_
  refine lv_iload_n hx hb d_OL_at_7 rfl (lv_at hl 1 rfl) ?_
  obtain ⟨v_1, e_2, hd⟩ := bind_s hd
  refine callVI (ws' := ws_OL g a z) (rest := []) (As := [.int x1]) hx hb hml hown hg hK hP hD hS hA hCs hl.1 (c_Th_has l D g (sh a 19) x1 (q_Re_things (q_OL_now z)) _ e_2) o_Th_has g_700 (ci := 10) (q0 := 19) rfl rfl (List.range' 19 3) (segC1 rfl rfl) (by decide) rfl (segP1 rfl rfl) rfl rfl (Nat.le_of_ble_eq_true rfl) ⟨rfl, rfl, Nat.le_of_ble_eq_true rfl, Nat.le_of_ble_eq_true rfl⟩ d_OL_at_8 (fun H locs hP hD hS => ?_)
  refine lv_if_eq (tgt := 22) hx hb d_OL_at_11 (by decide) (fun h_3 => ?_) (fun h_3 => ?_)
  · have hd := ite_t hd h_3
    refine lv_sipush (v := (-1001)) hx hb d_OL_at_22 (by decide) ?_
    obtain rfl := Option.some.inj hd
    exact retI hx hb hr hlk hK hP hD hS d_OL_at_25 rfl
  · have hd := ite_f hd h_3
    refine lv_iload_n hx hb d_OL_at_14 rfl (lv_at hl 2 rfl) ?_
    refine lv_iconst (v := 1) hx hb d_OL_at_15 (by decide) ?_
    obtain ⟨v_4, e_5, hd⟩ := bind_s hd
    refine callSI (ws' := ws_OL g a z) (rest := []) (As := [.int x2, .int 1]) hx hb hml hown hg hK hP hD hS hA hCs hl.1 (c_OL_within l D g  x2 1 _ e_5) o_OL_within g_618 [] segC0 rfl rfl segP0 rfl rfl (Nat.le_of_ble_eq_true rfl) ⟨rfl, rfl, Nat.le_of_ble_eq_true rfl, Nat.le_of_ble_eq_true rfl⟩ d_OL_at_16 (fun H locs hP hD hS => ?_)
    refine lv_if_ne (tgt := 26) hx hb d_OL_at_19 (by decide) (fun h_6 => ?_) (fun h_6 => ?_)
    · have hd := ite_f hd h_6
      refine lv_iload_n hx hb d_OL_at_26 rfl (lv_at hl 2 rfl) ?_
      refine lv_if_ne (tgt := 45) hx hb d_OL_at_27 (by decide) (fun h_7 => ?_) (fun h_7 => ?_)
      · have hd := ite_f hd h_7
        refine lv_aload_n hx hb d_OL_at_45 rfl (lv_at hl 0 rfl) ?_
        refine va_get (D := D) (ci := 0) (v := .ref (a 1)) (C := R_OL) (T := F_OL) (N := 8) hx hb hg i_OL hown hK hP 0 rfl rfl 0 (by decide) (hg _ g_396) (fun _ h9 => h9) rfl d_OL_at_46 ?_
        refine va_get (D := D) (ci := 7) (v := .ref (a 19)) (C := R_Re) (T := F_Re) (N := 11) hx hb hg i_Re hown hK hP 1 rfl rfl 5 (by decide) (hg _ g_215) (fun _ h9 => h9) rfl d_OL_at_49 ?_
        refine va_get (D := D) (ci := 10) (v := .ref (a 21)) (C := R_Th) (T := F_Th) (N := 3) hx hb hg i_Th hown hK hP 19 rfl rfl 2 (by decide) (hg _ g_194) (fun _ h9 => h9) rfl d_OL_at_52 ?_
        refine lv_iload_n hx hb d_OL_at_55 rfl (lv_at hl 1 rfl) ?_
        obtain ⟨h_8, hd⟩ := ite_s hd
        refine ialdK hx hb hK hP 21 0 rfl rfl (inb_t h_8) rfl d_OL_at_56 ?_
        obtain rfl := Option.some.inj hd
        exact retI hx hb hr hlk hK hP hD hS d_OL_at_57 rfl
      · have hd := ite_t hd h_7
        refine lv_aload_n hx hb d_OL_at_30 rfl (lv_at hl 0 rfl) ?_
        refine va_get (D := D) (ci := 0) (v := .ref (a 1)) (C := R_OL) (T := F_OL) (N := 8) hx hb hg i_OL hown hK hP 0 rfl rfl 0 (by decide) (hg _ g_396) (fun _ h9 => h9) rfl d_OL_at_31 ?_
        refine va_get (D := D) (ci := 7) (v := .ref (a 19)) (C := R_Re) (T := F_Re) (N := 11) hx hb hg i_Re hown hK hP 1 rfl rfl 5 (by decide) (hg _ g_215) (fun _ h9 => h9) rfl d_OL_at_34 ?_
        refine va_get (D := D) (ci := 10) (v := .ref (a 20)) (C := R_Th) (T := F_Th) (N := 3) hx hb hg i_Th hown hK hP 19 rfl rfl 1 (by decide) (hg _ g_191) (fun _ h9 => h9) rfl d_OL_at_37 ?_
        refine lv_iload_n hx hb d_OL_at_40 rfl (lv_at hl 1 rfl) ?_
        obtain ⟨h_9, hd⟩ := ite_s hd
        refine ialdK hx hb hK hP 20 0 rfl rfl (inb_t h_9) rfl d_OL_at_41 ?_
        refine lv_goto (tgt := 57) hx hb d_OL_at_42 (by decide) ?_
        obtain rfl := Option.some.inj hd
        exact retI hx hb hr hlk hK hP hD hS d_OL_at_57 rfl
    · have hd := ite_t hd h_6
      refine lv_sipush (v := (-1001)) hx hb d_OL_at_22 (by decide) ?_
      obtain rfl := Option.some.inj hd
      exact retI hx hb hr hlk hK hP hD hS d_OL_at_25 rfl
-- OwnsLift.give(II)I
def d_OL_give (x1 : Int32) (x2 : Int32) (z : T_OL) : Option (Int32 × T_OL) :=
  (d_Th_has x1 (q_Re_things (q_OL_now z))).bind fun v_1 => if v_1 = 0 then (some ((-1001), z)) else (if x2 = (-1) then (if inb x1 7 = true then (if x2 = (-1) then (if inb x1 7 = true then (some ((q_Th_owner (q_Re_things (q_OL_now z))) x1.toNatClampNeg, (u_OL_now z (u_Re_things (q_OL_now z) (u_Th_owner (q_Re_things (q_OL_now z)) (upd (q_Th_owner (q_Re_things (q_OL_now z))) x1.toNatClampNeg (-5))))))) else none) else (if inb x1 7 = true then (some ((q_Th_owner (q_Re_things (q_OL_now z))) x1.toNatClampNeg, (u_OL_now z (u_Re_things (q_OL_now z) (u_Th_owner (q_Re_things (q_OL_now z)) (upd (q_Th_owner (q_Re_things (q_OL_now z))) x1.toNatClampNeg x2)))))) else none)) else none) else ((d_Pe_has x2 (q_Re_people (q_OL_now z))).bind fun v_9 => if v_9 = 0 then (some ((-1001), z)) else (if inb x1 7 = true then (if x2 = (-1) then (if inb x1 7 = true then (some ((q_Th_owner (q_Re_things (q_OL_now z))) x1.toNatClampNeg, (u_OL_now z (u_Re_things (q_OL_now z) (u_Th_owner (q_Re_things (q_OL_now z)) (upd (q_Th_owner (q_Re_things (q_OL_now z))) x1.toNatClampNeg (-5))))))) else none) else (if inb x1 7 = true then (some ((q_Th_owner (q_Re_things (q_OL_now z))) x1.toNatClampNeg, (u_OL_now z (u_Re_things (q_OL_now z) (u_Th_owner (q_Re_things (q_OL_now z)) (upd (q_Th_owner (q_Re_things (q_OL_now z))) x1.toNatClampNeg x2)))))) else none)) else none)))
theorem d_OL_give_0 : decode b_OL_give 0 = .ok (.aload_n 0, 1) := by decide +kernel
theorem d_OL_give_1 : decode b_OL_give 1 = .ok (.getfield 12, 3) := by decide +kernel
theorem d_OL_give_4 : decode b_OL_give 4 = .ok (.getfield 146, 3) := by decide +kernel
theorem d_OL_give_7 : decode b_OL_give 7 = .ok (.iload_n 1, 1) := by decide +kernel
theorem d_OL_give_8 : decode b_OL_give 8 = .ok (.invokevirtual 150, 3) := by decide +kernel
theorem d_OL_give_11 : decode b_OL_give 11 = .ok (.ifCond .eq 22, 3) := by decide +kernel
theorem d_OL_give_14 : decode b_OL_give 14 = .ok (.iload_n 2, 1) := by decide +kernel
theorem d_OL_give_15 : decode b_OL_give 15 = .ok (.iconst (-1), 1) := by decide +kernel
theorem d_OL_give_16 : decode b_OL_give 16 = .ok (.if_icmp .eq 21, 3) := by decide +kernel
theorem d_OL_give_19 : decode b_OL_give 19 = .ok (.aload_n 0, 1) := by decide +kernel
theorem d_OL_give_20 : decode b_OL_give 20 = .ok (.getfield 12, 3) := by decide +kernel
theorem d_OL_give_23 : decode b_OL_give 23 = .ok (.getfield 95, 3) := by decide +kernel
theorem d_OL_give_26 : decode b_OL_give 26 = .ok (.iload_n 2, 1) := by decide +kernel
theorem d_OL_give_27 : decode b_OL_give 27 = .ok (.invokevirtual 108, 3) := by decide +kernel
theorem d_OL_give_30 : decode b_OL_give 30 = .ok (.ifCond .ne 7, 3) := by decide +kernel
theorem d_OL_give_33 : decode b_OL_give 33 = .ok (.sipush (-1001), 3) := by decide +kernel
theorem d_OL_give_36 : decode b_OL_give 36 = .ok (.ireturn, 1) := by decide +kernel
theorem d_OL_give_37 : decode b_OL_give 37 = .ok (.aload_n 0, 1) := by decide +kernel
theorem d_OL_give_38 : decode b_OL_give 38 = .ok (.getfield 12, 3) := by decide +kernel
theorem d_OL_give_41 : decode b_OL_give 41 = .ok (.getfield 146, 3) := by decide +kernel
theorem d_OL_give_44 : decode b_OL_give 44 = .ok (.getfield 163, 3) := by decide +kernel
theorem d_OL_give_47 : decode b_OL_give 47 = .ok (.iload_n 1, 1) := by decide +kernel
theorem d_OL_give_48 : decode b_OL_give 48 = .ok (.iaload, 1) := by decide +kernel
theorem d_OL_give_49 : decode b_OL_give 49 = .ok (.istore_n 3, 1) := by decide +kernel
theorem d_OL_give_50 : decode b_OL_give 50 = .ok (.aload_n 0, 1) := by decide +kernel
theorem d_OL_give_51 : decode b_OL_give 51 = .ok (.getfield 12, 3) := by decide +kernel
theorem d_OL_give_54 : decode b_OL_give 54 = .ok (.getfield 146, 3) := by decide +kernel
theorem d_OL_give_57 : decode b_OL_give 57 = .ok (.getfield 163, 3) := by decide +kernel
theorem d_OL_give_60 : decode b_OL_give 60 = .ok (.iload_n 1, 1) := by decide +kernel
theorem d_OL_give_61 : decode b_OL_give 61 = .ok (.iload_n 2, 1) := by decide +kernel
theorem d_OL_give_62 : decode b_OL_give 62 = .ok (.iconst (-1), 1) := by decide +kernel
theorem d_OL_give_63 : decode b_OL_give 63 = .ok (.if_icmp .ne 8, 3) := by decide +kernel
theorem d_OL_give_66 : decode b_OL_give 66 = .ok (.bipush (-5), 2) := by decide +kernel
theorem d_OL_give_68 : decode b_OL_give 68 = .ok (.goto 4, 3) := by decide +kernel
theorem d_OL_give_71 : decode b_OL_give 71 = .ok (.iload_n 2, 1) := by decide +kernel
theorem d_OL_give_72 : decode b_OL_give 72 = .ok (.iastore, 1) := by decide +kernel
theorem d_OL_give_73 : decode b_OL_give 73 = .ok (.iload_n 3, 1) := by decide +kernel
theorem d_OL_give_74 : decode b_OL_give 74 = .ok (.ireturn, 1) := by decide +kernel
theorem o_OL_give : OkV y_OL_give "OwnsLift" b_OL_give 4 (some .int) 2 := ⟨⟨rfl, by decide +kernel, by decide +kernel, by decide +kernel⟩, g_721, g_722, g_71, g_723⟩
set_option maxHeartbeats 4000000 in
set_option maxRecDepth 100000 in
theorem c_OL_give (l : Launch) (D : va_G) (g : Nat → ClassId) (a : Nat → Nat) (x1 : Int32) (x2 : Int32) (z : T_OL) (v : Int32 × T_OL) (h : d_OL_give x1 x2 z = some v) :
    MI l y_OL_give b_OL_give 4 .int ({ frames := 1, cells := 0, slots := 0, locals := 21 } : Room) D g [.ref (a 0), .int x1, .int x2] (ws_OL g a z) (v.1) (ws_OL g a v.2) := by
  have hd := h
  unfold d_OL_give at hd
  refine enterI rfl (Nat.le_of_ble_eq_true rfl) (fun p e s m below meth c A ls hx hb hml hr hown hg hlk hK hA hP hD hS hCs hl => ?_)
  have hown : s.vm.findClass "OwnsLift" = some m.cls := hown
  have hl : lv_has ls 4 [(0, .ref (a 0)), (1, .int x1), (2, .int x2)] := hl
  show GI p l e s m ({ frames := 1, cells := 0, slots := 0, locals := 21 } : Room) ([.ref (a 0), .int x1, .int x2] : List Value).toArray below meth c A D g (ws_OL g a v.2) (v.1) s.heap [] (F0 m 0 ls [])
  refine lv_aload_n hx hb d_OL_give_0 rfl (lv_at hl 0 rfl) ?_
  refine va_get (D := D) (ci := 0) (v := .ref (a 1)) (C := R_OL) (T := F_OL) (N := 8) hx hb hg i_OL hown hK hP 0 rfl rfl 0 (by decide) (hg _ g_396) (fun _ h9 => h9) rfl d_OL_give_1 ?_
  refine va_get (D := D) (ci := 7) (v := .ref (a 19)) (C := R_Re) (T := F_Re) (N := 11) hx hb hg i_Re hown hK hP 1 rfl rfl 5 (by decide) (hg _ g_215) (fun _ h9 => h9) rfl d_OL_give_4 ?_
  refine lv_iload_n hx hb d_OL_give_7 rfl (lv_at hl 1 rfl) ?_
  obtain ⟨v_1, e_2, hd⟩ := bind_s hd
  refine callVI (ws' := ws_OL g a z) (rest := []) (As := [.int x1]) hx hb hml hown hg hK hP hD hS hA hCs hl.1 (c_Th_has l D g (sh a 19) x1 (q_Re_things (q_OL_now z)) _ e_2) o_Th_has g_700 (ci := 10) (q0 := 19) rfl rfl (List.range' 19 3) (segC1 rfl rfl) (by decide) rfl (segP1 rfl rfl) rfl rfl (Nat.le_of_ble_eq_true rfl) ⟨rfl, rfl, Nat.le_of_ble_eq_true rfl, Nat.le_of_ble_eq_true rfl⟩ d_OL_give_8 (fun H locs hP hD hS => ?_)
  refine lv_if_eq (tgt := 33) hx hb d_OL_give_11 (by decide) (fun h_3 => ?_) (fun h_3 => ?_)
  · have hd := ite_t hd h_3
    refine lv_sipush (v := (-1001)) hx hb d_OL_give_33 (by decide) ?_
    obtain rfl := Option.some.inj hd
    exact retI hx hb hr hlk hK hP hD hS d_OL_give_36 rfl
  · have hd := ite_f hd h_3
    refine lv_iload_n hx hb d_OL_give_14 rfl (lv_at hl 2 rfl) ?_
    refine lv_iconst (v := (-1)) hx hb d_OL_give_15 (by decide) ?_
    refine lv_icmp_eq (tgt := 37) hx hb d_OL_give_16 (by decide) (fun h_4 => ?_) (fun h_4 => ?_)
    · have hd := ite_t hd h_4
      refine lv_aload_n hx hb d_OL_give_37 rfl (lv_at hl 0 rfl) ?_
      refine va_get (D := D) (ci := 0) (v := .ref (a 1)) (C := R_OL) (T := F_OL) (N := 8) hx hb hg i_OL hown hK hP 0 rfl rfl 0 (by decide) (hg _ g_396) (fun _ h9 => h9) rfl d_OL_give_38 ?_
      refine va_get (D := D) (ci := 7) (v := .ref (a 19)) (C := R_Re) (T := F_Re) (N := 11) hx hb hg i_Re hown hK hP 1 rfl rfl 5 (by decide) (hg _ g_215) (fun _ h9 => h9) rfl d_OL_give_41 ?_
      refine va_get (D := D) (ci := 10) (v := .ref (a 21)) (C := R_Th) (T := F_Th) (N := 3) hx hb hg i_Th hown hK hP 19 rfl rfl 2 (by decide) (hg _ g_194) (fun _ h9 => h9) rfl d_OL_give_44 ?_
      refine lv_iload_n hx hb d_OL_give_47 rfl (lv_at hl 1 rfl) ?_
      obtain ⟨h_8, hd⟩ := ite_s hd
      refine ialdK hx hb hK hP 21 0 rfl rfl (inb_t h_8) rfl d_OL_give_48 ?_
      refine lv_istore_n (lv' := [(3, .int ((q_Th_owner (q_Re_things (q_OL_now z))) x1.toNatClampNeg)), (0, .ref (a 0)), (1, .int x1), (2, .int x2)]) hx hb d_OL_give_49 rfl hl (by decide) rfl (fun ls hl => ?_)
      refine lv_aload_n hx hb d_OL_give_50 rfl (lv_at hl 1 rfl) ?_
      refine va_get (D := D) (ci := 0) (v := .ref (a 1)) (C := R_OL) (T := F_OL) (N := 8) hx hb hg i_OL hown hK hP 0 rfl rfl 0 (by decide) (hg _ g_396) (fun _ h9 => h9) rfl d_OL_give_51 ?_
      refine va_get (D := D) (ci := 7) (v := .ref (a 19)) (C := R_Re) (T := F_Re) (N := 11) hx hb hg i_Re hown hK hP 1 rfl rfl 5 (by decide) (hg _ g_215) (fun _ h9 => h9) rfl d_OL_give_54 ?_
      refine va_get (D := D) (ci := 10) (v := .ref (a 21)) (C := R_Th) (T := F_Th) (N := 3) hx hb hg i_Th hown hK hP 19 rfl rfl 2 (by decide) (hg _ g_194) (fun _ h9 => h9) rfl d_OL_give_57 ?_
      refine lv_iload_n hx hb d_OL_give_60 rfl (lv_at hl 2 rfl) ?_
      refine lv_iload_n hx hb d_OL_give_61 rfl (lv_at hl 3 rfl) ?_
      refine lv_iconst (v := (-1)) hx hb d_OL_give_62 (by decide) ?_
      refine lv_icmp_ne (tgt := 71) hx hb d_OL_give_63 (by decide) (fun h_5 => ?_) (fun h_5 => ?_)
      · have hd := ite_f hd h_5
        refine lv_iload_n hx hb d_OL_give_71 rfl (lv_at hl 3 rfl) ?_
        obtain ⟨h_6, hd⟩ := ite_s hd
        refine iastK hx hb hK hP hD hS 21 0 rfl rfl (inb_t h_6) rfl d_OL_give_72 (fun H locs hP hD hS => ?_)
        have hP : va_P D classes (ws_OL g a (u_OL_now z (u_Re_things (q_OL_now z) (u_Th_owner (q_Re_things (q_OL_now z)) (upd (q_Th_owner (q_Re_things (q_OL_now z))) x1.toNatClampNeg x2))))) H := hP
        have hD : va_D A (ws_OL g a (u_OL_now z (u_Re_things (q_OL_now z) (u_Th_owner (q_Re_things (q_OL_now z)) (upd (q_Th_owner (q_Re_things (q_OL_now z))) x1.toNatClampNeg x2))))) := hD
        refine lv_iload_n hx hb d_OL_give_73 rfl (lv_at hl 0 rfl) ?_
        obtain rfl := Option.some.inj hd
        exact retI hx hb hr hlk hK hP hD hS d_OL_give_74 rfl
      · have hd := ite_t hd h_5
        refine lv_bipush (v := (-5)) hx hb d_OL_give_66 (by decide) ?_
        refine lv_goto (tgt := 72) hx hb d_OL_give_68 (by decide) ?_
        obtain ⟨h_7, hd⟩ := ite_s hd
        refine iastK hx hb hK hP hD hS 21 0 rfl rfl (inb_t h_7) rfl d_OL_give_72 (fun H locs hP hD hS => ?_)
        have hP : va_P D classes (ws_OL g a (u_OL_now z (u_Re_things (q_OL_now z) (u_Th_owner (q_Re_things (q_OL_now z)) (upd (q_Th_owner (q_Re_things (q_OL_now z))) x1.toNatClampNeg (-5)))))) H := hP
        have hD : va_D A (ws_OL g a (u_OL_now z (u_Re_things (q_OL_now z) (u_Th_owner (q_Re_things (q_OL_now z)) (upd (q_Th_owner (q_Re_things (q_OL_now z))) x1.toNatClampNeg (-5)))))) := hD
        refine lv_iload_n hx hb d_OL_give_73 rfl (lv_at hl 0 rfl) ?_
        obtain rfl := Option.some.inj hd
        exact retI hx hb hr hlk hK hP hD hS d_OL_give_74 rfl
    · have hd := ite_f hd h_4
      refine lv_aload_n hx hb d_OL_give_19 rfl (lv_at hl 0 rfl) ?_
      refine va_get (D := D) (ci := 0) (v := .ref (a 1)) (C := R_OL) (T := F_OL) (N := 8) hx hb hg i_OL hown hK hP 0 rfl rfl 0 (by decide) (hg _ g_396) (fun _ h9 => h9) rfl d_OL_give_20 ?_
      refine va_get (D := D) (ci := 7) (v := .ref (a 8)) (C := R_Re) (T := F_Re) (N := 11) hx hb hg i_Re hown hK hP 1 rfl rfl 4 (by decide) (hg _ g_212) (fun _ h9 => h9) rfl d_OL_give_23 ?_
      refine lv_iload_n hx hb d_OL_give_26 rfl (lv_at hl 2 rfl) ?_
      obtain ⟨v_9, e_10, hd⟩ := bind_s hd
      refine callVI (ws' := ws_OL g a z) (rest := []) (As := [.int x2]) hx hb hml hown hg hK hP hD hS hA hCs hl.1 (c_Pe_has l D g (sh a 8) x2 (q_Re_people (q_OL_now z)) _ e_10) o_Pe_has g_629 (ci := 5) (q0 := 8) rfl rfl (List.range' 8 11) (segC1 rfl rfl) (by decide) rfl (segP1 rfl rfl) rfl rfl (Nat.le_of_ble_eq_true rfl) ⟨rfl, rfl, Nat.le_of_ble_eq_true rfl, Nat.le_of_ble_eq_true rfl⟩ d_OL_give_27 (fun H locs hP hD hS => ?_)
      refine lv_if_ne (tgt := 37) hx hb d_OL_give_30 (by decide) (fun h_11 => ?_) (fun h_11 => ?_)
      · have hd := ite_f hd h_11
        refine lv_aload_n hx hb d_OL_give_37 rfl (lv_at hl 0 rfl) ?_
        refine va_get (D := D) (ci := 0) (v := .ref (a 1)) (C := R_OL) (T := F_OL) (N := 8) hx hb hg i_OL hown hK hP 0 rfl rfl 0 (by decide) (hg _ g_396) (fun _ h9 => h9) rfl d_OL_give_38 ?_
        refine va_get (D := D) (ci := 7) (v := .ref (a 19)) (C := R_Re) (T := F_Re) (N := 11) hx hb hg i_Re hown hK hP 1 rfl rfl 5 (by decide) (hg _ g_215) (fun _ h9 => h9) rfl d_OL_give_41 ?_
        refine va_get (D := D) (ci := 10) (v := .ref (a 21)) (C := R_Th) (T := F_Th) (N := 3) hx hb hg i_Th hown hK hP 19 rfl rfl 2 (by decide) (hg _ g_194) (fun _ h9 => h9) rfl d_OL_give_44 ?_
        refine lv_iload_n hx hb d_OL_give_47 rfl (lv_at hl 1 rfl) ?_
        obtain ⟨h_15, hd⟩ := ite_s hd
        refine ialdK hx hb hK hP 21 0 rfl rfl (inb_t h_15) rfl d_OL_give_48 ?_
        refine lv_istore_n (lv' := [(3, .int ((q_Th_owner (q_Re_things (q_OL_now z))) x1.toNatClampNeg)), (0, .ref (a 0)), (1, .int x1), (2, .int x2)]) hx hb d_OL_give_49 rfl hl (by decide) rfl (fun ls hl => ?_)
        refine lv_aload_n hx hb d_OL_give_50 rfl (lv_at hl 1 rfl) ?_
        refine va_get (D := D) (ci := 0) (v := .ref (a 1)) (C := R_OL) (T := F_OL) (N := 8) hx hb hg i_OL hown hK hP 0 rfl rfl 0 (by decide) (hg _ g_396) (fun _ h9 => h9) rfl d_OL_give_51 ?_
        refine va_get (D := D) (ci := 7) (v := .ref (a 19)) (C := R_Re) (T := F_Re) (N := 11) hx hb hg i_Re hown hK hP 1 rfl rfl 5 (by decide) (hg _ g_215) (fun _ h9 => h9) rfl d_OL_give_54 ?_
        refine va_get (D := D) (ci := 10) (v := .ref (a 21)) (C := R_Th) (T := F_Th) (N := 3) hx hb hg i_Th hown hK hP 19 rfl rfl 2 (by decide) (hg _ g_194) (fun _ h9 => h9) rfl d_OL_give_57 ?_
        refine lv_iload_n hx hb d_OL_give_60 rfl (lv_at hl 2 rfl) ?_
        refine lv_iload_n hx hb d_OL_give_61 rfl (lv_at hl 3 rfl) ?_
        refine lv_iconst (v := (-1)) hx hb d_OL_give_62 (by decide) ?_
        refine lv_icmp_ne (tgt := 71) hx hb d_OL_give_63 (by decide) (fun h_12 => ?_) (fun h_12 => ?_)
        · have hd := ite_f hd h_12
          refine lv_iload_n hx hb d_OL_give_71 rfl (lv_at hl 3 rfl) ?_
          obtain ⟨h_13, hd⟩ := ite_s hd
          refine iastK hx hb hK hP hD hS 21 0 rfl rfl (inb_t h_13) rfl d_OL_give_72 (fun H locs hP hD hS => ?_)
          have hP : va_P D classes (ws_OL g a (u_OL_now z (u_Re_things (q_OL_now z) (u_Th_owner (q_Re_things (q_OL_now z)) (upd (q_Th_owner (q_Re_things (q_OL_now z))) x1.toNatClampNeg x2))))) H := hP
          have hD : va_D A (ws_OL g a (u_OL_now z (u_Re_things (q_OL_now z) (u_Th_owner (q_Re_things (q_OL_now z)) (upd (q_Th_owner (q_Re_things (q_OL_now z))) x1.toNatClampNeg x2))))) := hD
          refine lv_iload_n hx hb d_OL_give_73 rfl (lv_at hl 0 rfl) ?_
          obtain rfl := Option.some.inj hd
          exact retI hx hb hr hlk hK hP hD hS d_OL_give_74 rfl
        · have hd := ite_t hd h_12
          refine lv_bipush (v := (-5)) hx hb d_OL_give_66 (by decide) ?_
          refine lv_goto (tgt := 72) hx hb d_OL_give_68 (by decide) ?_
          obtain ⟨h_14, hd⟩ := ite_s hd
          refine iastK hx hb hK hP hD hS 21 0 rfl rfl (inb_t h_14) rfl d_OL_give_72 (fun H locs hP hD hS => ?_)
          have hP : va_P D classes (ws_OL g a (u_OL_now z (u_Re_things (q_OL_now z) (u_Th_owner (q_Re_things (q_OL_now z)) (upd (q_Th_owner (q_Re_things (q_OL_now z))) x1.toNatClampNeg (-5)))))) H := hP
          have hD : va_D A (ws_OL g a (u_OL_now z (u_Re_things (q_OL_now z) (u_Th_owner (q_Re_things (q_OL_now z)) (upd (q_Th_owner (q_Re_things (q_OL_now z))) x1.toNatClampNeg (-5)))))) := hD
          refine lv_iload_n hx hb d_OL_give_73 rfl (lv_at hl 0 rfl) ?_
          obtain rfl := Option.some.inj hd
          exact retI hx hb hr hlk hK hP hD hS d_OL_give_74 rfl
      · have hd := ite_t hd h_11
        refine lv_sipush (v := (-1001)) hx hb d_OL_give_33 (by decide) ?_
        obtain rfl := Option.some.inj hd
        exact retI hx hb hr hlk hK hP hD hS d_OL_give_36 rfl
-- OwnsLift.like(II)I
def d_OL_like (x1 : Int32) (x2 : Int32) (z : T_OL) : Option (Int32 × T_OL) :=
  (d_Pe_has x1 (q_Re_people (q_OL_now z))).bind fun v_1 => if v_1 = 0 then (some ((-1), z)) else ((d_Th_has x2 (q_Re_things (q_OL_now z))).bind fun v_4 => if v_4 = 0 then (some ((-1), z)) else ((d_Re_likeOf x1 x2 (q_OL_now z)).bind fun v_7 => some (v_7.1, (u_OL_now z v_7.2))))
theorem d_OL_like_0 : decode b_OL_like 0 = .ok (.aload_n 0, 1) := by decide +kernel
theorem d_OL_like_1 : decode b_OL_like 1 = .ok (.getfield 12, 3) := by decide +kernel
theorem d_OL_like_4 : decode b_OL_like 4 = .ok (.getfield 95, 3) := by decide +kernel
theorem d_OL_like_7 : decode b_OL_like 7 = .ok (.iload_n 1, 1) := by decide +kernel
theorem d_OL_like_8 : decode b_OL_like 8 = .ok (.invokevirtual 108, 3) := by decide +kernel
theorem d_OL_like_11 : decode b_OL_like 11 = .ok (.ifCond .eq 17, 3) := by decide +kernel
theorem d_OL_like_14 : decode b_OL_like 14 = .ok (.aload_n 0, 1) := by decide +kernel
theorem d_OL_like_15 : decode b_OL_like 15 = .ok (.getfield 12, 3) := by decide +kernel
theorem d_OL_like_18 : decode b_OL_like 18 = .ok (.getfield 146, 3) := by decide +kernel
theorem d_OL_like_21 : decode b_OL_like 21 = .ok (.iload_n 2, 1) := by decide +kernel
theorem d_OL_like_22 : decode b_OL_like 22 = .ok (.invokevirtual 150, 3) := by decide +kernel
theorem d_OL_like_25 : decode b_OL_like 25 = .ok (.ifCond .ne 5, 3) := by decide +kernel
theorem d_OL_like_28 : decode b_OL_like 28 = .ok (.iconst (-1), 1) := by decide +kernel
theorem d_OL_like_29 : decode b_OL_like 29 = .ok (.ireturn, 1) := by decide +kernel
theorem d_OL_like_30 : decode b_OL_like 30 = .ok (.aload_n 0, 1) := by decide +kernel
theorem d_OL_like_31 : decode b_OL_like 31 = .ok (.getfield 12, 3) := by decide +kernel
theorem d_OL_like_34 : decode b_OL_like 34 = .ok (.iload_n 1, 1) := by decide +kernel
theorem d_OL_like_35 : decode b_OL_like 35 = .ok (.iload_n 2, 1) := by decide +kernel
theorem d_OL_like_36 : decode b_OL_like 36 = .ok (.invokevirtual 166, 3) := by decide +kernel
theorem d_OL_like_39 : decode b_OL_like 39 = .ok (.ireturn, 1) := by decide +kernel
theorem o_OL_like : OkV y_OL_like "OwnsLift" b_OL_like 3 (some .int) 2 := ⟨⟨rfl, by decide +kernel, by decide +kernel, by decide +kernel⟩, g_725, g_726, g_71, g_727⟩
set_option maxHeartbeats 4000000 in
set_option maxRecDepth 100000 in
theorem c_OL_like (l : Launch) (D : va_G) (g : Nat → ClassId) (a : Nat → Nat) (x1 : Int32) (x2 : Int32) (z : T_OL) (v : Int32 × T_OL) (h : d_OL_like x1 x2 z = some v) :
    MI l y_OL_like b_OL_like 3 .int ({ frames := 4, cells := 0, slots := 0, locals := 96 } : Room) D g [.ref (a 0), .int x1, .int x2] (ws_OL g a z) (v.1) (ws_OL g a v.2) := by
  have hd := h
  unfold d_OL_like at hd
  refine enterI rfl (Nat.le_of_ble_eq_true rfl) (fun p e s m below meth c A ls hx hb hml hr hown hg hlk hK hA hP hD hS hCs hl => ?_)
  have hown : s.vm.findClass "OwnsLift" = some m.cls := hown
  have hl : lv_has ls 3 [(0, .ref (a 0)), (1, .int x1), (2, .int x2)] := hl
  show GI p l e s m ({ frames := 4, cells := 0, slots := 0, locals := 96 } : Room) ([.ref (a 0), .int x1, .int x2] : List Value).toArray below meth c A D g (ws_OL g a v.2) (v.1) s.heap [] (F0 m 0 ls [])
  refine lv_aload_n hx hb d_OL_like_0 rfl (lv_at hl 0 rfl) ?_
  refine va_get (D := D) (ci := 0) (v := .ref (a 1)) (C := R_OL) (T := F_OL) (N := 8) hx hb hg i_OL hown hK hP 0 rfl rfl 0 (by decide) (hg _ g_396) (fun _ h9 => h9) rfl d_OL_like_1 ?_
  refine va_get (D := D) (ci := 7) (v := .ref (a 8)) (C := R_Re) (T := F_Re) (N := 11) hx hb hg i_Re hown hK hP 1 rfl rfl 4 (by decide) (hg _ g_212) (fun _ h9 => h9) rfl d_OL_like_4 ?_
  refine lv_iload_n hx hb d_OL_like_7 rfl (lv_at hl 1 rfl) ?_
  obtain ⟨v_1, e_2, hd⟩ := bind_s hd
  refine callVI (ws' := ws_OL g a z) (rest := []) (As := [.int x1]) hx hb hml hown hg hK hP hD hS hA hCs hl.1 (c_Pe_has l D g (sh a 8) x1 (q_Re_people (q_OL_now z)) _ e_2) o_Pe_has g_629 (ci := 5) (q0 := 8) rfl rfl (List.range' 8 11) (segC1 rfl rfl) (by decide) rfl (segP1 rfl rfl) rfl rfl (Nat.le_of_ble_eq_true rfl) ⟨rfl, rfl, Nat.le_of_ble_eq_true rfl, Nat.le_of_ble_eq_true rfl⟩ d_OL_like_8 (fun H locs hP hD hS => ?_)
  refine lv_if_eq (tgt := 28) hx hb d_OL_like_11 (by decide) (fun h_3 => ?_) (fun h_3 => ?_)
  · have hd := ite_t hd h_3
    refine lv_iconst (v := (-1)) hx hb d_OL_like_28 (by decide) ?_
    obtain rfl := Option.some.inj hd
    exact retI hx hb hr hlk hK hP hD hS d_OL_like_29 rfl
  · have hd := ite_f hd h_3
    refine lv_aload_n hx hb d_OL_like_14 rfl (lv_at hl 0 rfl) ?_
    refine va_get (D := D) (ci := 0) (v := .ref (a 1)) (C := R_OL) (T := F_OL) (N := 8) hx hb hg i_OL hown hK hP 0 rfl rfl 0 (by decide) (hg _ g_396) (fun _ h9 => h9) rfl d_OL_like_15 ?_
    refine va_get (D := D) (ci := 7) (v := .ref (a 19)) (C := R_Re) (T := F_Re) (N := 11) hx hb hg i_Re hown hK hP 1 rfl rfl 5 (by decide) (hg _ g_215) (fun _ h9 => h9) rfl d_OL_like_18 ?_
    refine lv_iload_n hx hb d_OL_like_21 rfl (lv_at hl 2 rfl) ?_
    obtain ⟨v_4, e_5, hd⟩ := bind_s hd
    refine callVI (ws' := ws_OL g a z) (rest := []) (As := [.int x2]) hx hb hml hown hg hK hP hD hS hA hCs hl.1 (c_Th_has l D g (sh a 19) x2 (q_Re_things (q_OL_now z)) _ e_5) o_Th_has g_700 (ci := 10) (q0 := 19) rfl rfl (List.range' 19 3) (segC1 rfl rfl) (by decide) rfl (segP1 rfl rfl) rfl rfl (Nat.le_of_ble_eq_true rfl) ⟨rfl, rfl, Nat.le_of_ble_eq_true rfl, Nat.le_of_ble_eq_true rfl⟩ d_OL_like_22 (fun H locs hP hD hS => ?_)
    refine lv_if_ne (tgt := 30) hx hb d_OL_like_25 (by decide) (fun h_6 => ?_) (fun h_6 => ?_)
    · have hd := ite_f hd h_6
      refine lv_aload_n hx hb d_OL_like_30 rfl (lv_at hl 0 rfl) ?_
      refine va_get (D := D) (ci := 0) (v := .ref (a 1)) (C := R_OL) (T := F_OL) (N := 8) hx hb hg i_OL hown hK hP 0 rfl rfl 0 (by decide) (hg _ g_396) (fun _ h9 => h9) rfl d_OL_like_31 ?_
      refine lv_iload_n hx hb d_OL_like_34 rfl (lv_at hl 1 rfl) ?_
      refine lv_iload_n hx hb d_OL_like_35 rfl (lv_at hl 2 rfl) ?_
      obtain ⟨v_7, e_8, hd⟩ := bind_s hd
      refine callVI (ws' := ws_OL g a (u_OL_now z v_7.2)) (rest := []) (As := [.int x1, .int x2]) hx hb hml hown hg hK hP hD hS hA hCs hl.1 (c_Re_likeOf l D g (sh a 1) x1 x2 (q_OL_now z) _ e_8) o_Re_likeOf g_728 (ci := 7) (q0 := 1) rfl rfl (List.range' 1 24) (segC1 rfl rfl) (by decide) rfl (segP1 rfl rfl) rfl rfl (Nat.le_of_ble_eq_true rfl) ⟨rfl, rfl, Nat.le_of_ble_eq_true rfl, Nat.le_of_ble_eq_true rfl⟩ d_OL_like_36 (fun H locs hP hD hS => ?_)
      obtain rfl := Option.some.inj hd
      exact retI hx hb hr hlk hK hP hD hS d_OL_like_39 rfl
    · have hd := ite_t hd h_6
      refine lv_iconst (v := (-1)) hx hb d_OL_like_28 (by decide) ?_
      obtain rfl := Option.some.inj hd
      exact retI hx hb hr hlk hK hP hD hS d_OL_like_29 rfl
-- OwnsLift.when()I
def d_OL_when (z : T_OL) : Option (Int32) :=
  some ((q_Re_year (q_OL_now z)))
theorem d_OL_when_0 : decode b_OL_when 0 = .ok (.aload_n 0, 1) := by decide +kernel
theorem d_OL_when_1 : decode b_OL_when 1 = .ok (.getfield 12, 3) := by decide +kernel
theorem d_OL_when_4 : decode b_OL_when 4 = .ok (.getfield 169, 3) := by decide +kernel
theorem d_OL_when_7 : decode b_OL_when 7 = .ok (.ireturn, 1) := by decide +kernel
theorem o_OL_when : OkV y_OL_when "OwnsLift" b_OL_when 1 (some .int) 0 := ⟨⟨rfl, by decide +kernel, by decide +kernel, by decide +kernel⟩, g_730, g_731, g_71, g_732⟩
set_option maxHeartbeats 4000000 in
set_option maxRecDepth 100000 in
theorem c_OL_when (l : Launch) (D : va_G) (g : Nat → ClassId) (a : Nat → Nat) (z : T_OL) (v : Int32) (h : d_OL_when z = some v) :
    MI l y_OL_when b_OL_when 1 .int ({ frames := 0, cells := 0, slots := 0, locals := 0 } : Room) D g [.ref (a 0)] (ws_OL g a z) (v) (ws_OL g a z) := by
  have hd := h
  unfold d_OL_when at hd
  refine enterI rfl (Nat.le_of_ble_eq_true rfl) (fun p e s m below meth c A ls hx hb hml hr hown hg hlk hK hA hP hD hS hCs hl => ?_)
  have hown : s.vm.findClass "OwnsLift" = some m.cls := hown
  have hl : lv_has ls 1 [(0, .ref (a 0))] := hl
  show GI p l e s m ({ frames := 0, cells := 0, slots := 0, locals := 0 } : Room) ([.ref (a 0)] : List Value).toArray below meth c A D g (ws_OL g a z) (v) s.heap [] (F0 m 0 ls [])
  refine lv_aload_n hx hb d_OL_when_0 rfl (lv_at hl 0 rfl) ?_
  refine va_get (D := D) (ci := 0) (v := .ref (a 1)) (C := R_OL) (T := F_OL) (N := 8) hx hb hg i_OL hown hK hP 0 rfl rfl 0 (by decide) (hg _ g_396) (fun _ h9 => h9) rfl d_OL_when_1 ?_
  refine va_get (D := D) (ci := 7) (v := .int (q_Re_year (q_OL_now z))) (C := R_Re) (T := F_Re) (N := 11) hx hb hg i_Re hown hK hP 1 rfl rfl 6 (by decide) (hg _ g_217) (fun _ h9 => h9) rfl d_OL_when_4 ?_
  obtain rfl := Option.some.inj hd
  exact retI hx hb hr hlk hK hP hD hS d_OL_when_7 rfl
-- OwnsLift.bench(I)I
def d_OL_bench (x1 : Int32) (z : T_OL) : Option (Int32 × T_OL) :=
  (d_Pe_has x1 (q_Re_people (q_OL_now z))).bind fun v_1 => if v_1 = 0 then (some ((-1), z)) else ((d_St_take (q_OL_standing z) (q_OL_now z)).bind fun v_4 => (d_St_lighten x1 (q_OL_standing (u_OL_now (u_OL_standing z v_4.1) v_4.2)) (q_Re_people (q_OL_now (u_OL_now (u_OL_standing z v_4.1) v_4.2)))).bind fun v_6 => some (v_6.1, (u_OL_now (u_OL_standing (u_OL_now (u_OL_standing z v_4.1) v_4.2) v_6.2) (u_Re_things (q_OL_now (u_OL_standing (u_OL_now (u_OL_standing z v_4.1) v_4.2) v_6.2)) (u_Th_owner (q_Re_things (q_OL_now (u_OL_standing (u_OL_now (u_OL_standing z v_4.1) v_4.2) v_6.2))) (va_cpy (q_St_owner (q_OL_standing (u_OL_standing (u_OL_now (u_OL_standing z v_4.1) v_4.2) v_6.2))) (q_Th_owner (q_Re_things (q_OL_now (u_OL_standing (u_OL_now (u_OL_standing z v_4.1) v_4.2) v_6.2)))) 0 0 7))))))
theorem d_OL_bench_0 : decode b_OL_bench 0 = .ok (.aload_n 0, 1) := by decide +kernel
theorem d_OL_bench_1 : decode b_OL_bench 1 = .ok (.getfield 12, 3) := by decide +kernel
theorem d_OL_bench_4 : decode b_OL_bench 4 = .ok (.getfield 95, 3) := by decide +kernel
theorem d_OL_bench_7 : decode b_OL_bench 7 = .ok (.iload_n 1, 1) := by decide +kernel
theorem d_OL_bench_8 : decode b_OL_bench 8 = .ok (.invokevirtual 108, 3) := by decide +kernel
theorem d_OL_bench_11 : decode b_OL_bench 11 = .ok (.ifCond .ne 5, 3) := by decide +kernel
theorem d_OL_bench_14 : decode b_OL_bench 14 = .ok (.iconst (-1), 1) := by decide +kernel
theorem d_OL_bench_15 : decode b_OL_bench 15 = .ok (.ireturn, 1) := by decide +kernel
theorem d_OL_bench_16 : decode b_OL_bench 16 = .ok (.aload_n 0, 1) := by decide +kernel
theorem d_OL_bench_17 : decode b_OL_bench 17 = .ok (.getfield 31, 3) := by decide +kernel
theorem d_OL_bench_20 : decode b_OL_bench 20 = .ok (.aload_n 0, 1) := by decide +kernel
theorem d_OL_bench_21 : decode b_OL_bench 21 = .ok (.getfield 12, 3) := by decide +kernel
theorem d_OL_bench_24 : decode b_OL_bench 24 = .ok (.invokevirtual 111, 3) := by decide +kernel
theorem d_OL_bench_27 : decode b_OL_bench 27 = .ok (.aload_n 0, 1) := by decide +kernel
theorem d_OL_bench_28 : decode b_OL_bench 28 = .ok (.getfield 31, 3) := by decide +kernel
theorem d_OL_bench_31 : decode b_OL_bench 31 = .ok (.aload_n 0, 1) := by decide +kernel
theorem d_OL_bench_32 : decode b_OL_bench 32 = .ok (.getfield 12, 3) := by decide +kernel
theorem d_OL_bench_35 : decode b_OL_bench 35 = .ok (.getfield 95, 3) := by decide +kernel
theorem d_OL_bench_38 : decode b_OL_bench 38 = .ok (.iload_n 1, 1) := by decide +kernel
theorem d_OL_bench_39 : decode b_OL_bench 39 = .ok (.invokevirtual 172, 3) := by decide +kernel
theorem d_OL_bench_42 : decode b_OL_bench 42 = .ok (.istore_n 2, 1) := by decide +kernel
theorem d_OL_bench_43 : decode b_OL_bench 43 = .ok (.aload_n 0, 1) := by decide +kernel
theorem d_OL_bench_44 : decode b_OL_bench 44 = .ok (.getfield 31, 3) := by decide +kernel
theorem d_OL_bench_47 : decode b_OL_bench 47 = .ok (.getfield 176, 3) := by decide +kernel
theorem d_OL_bench_50 : decode b_OL_bench 50 = .ok (.iconst 0, 1) := by decide +kernel
theorem d_OL_bench_51 : decode b_OL_bench 51 = .ok (.aload_n 0, 1) := by decide +kernel
theorem d_OL_bench_52 : decode b_OL_bench 52 = .ok (.getfield 12, 3) := by decide +kernel
theorem d_OL_bench_55 : decode b_OL_bench 55 = .ok (.getfield 146, 3) := by decide +kernel
theorem d_OL_bench_58 : decode b_OL_bench 58 = .ok (.getfield 163, 3) := by decide +kernel
theorem d_OL_bench_61 : decode b_OL_bench 61 = .ok (.iconst 0, 1) := by decide +kernel
theorem d_OL_bench_62 : decode b_OL_bench 62 = .ok (.bipush 7, 2) := by decide +kernel
theorem d_OL_bench_64 : decode b_OL_bench 64 = .ok (.invokestatic 177, 3) := by decide +kernel
theorem d_OL_bench_67 : decode b_OL_bench 67 = .ok (.iload_n 2, 1) := by decide +kernel
theorem d_OL_bench_68 : decode b_OL_bench 68 = .ok (.ireturn, 1) := by decide +kernel
theorem o_OL_bench : OkV y_OL_bench "OwnsLift" b_OL_bench 3 (some .int) 1 := ⟨⟨rfl, by decide +kernel, by decide +kernel, by decide +kernel⟩, g_734, g_735, g_71, g_736⟩
set_option maxHeartbeats 4000000 in
set_option maxRecDepth 100000 in
theorem c_OL_bench (l : Launch) (D : va_G) (g : Nat → ClassId) (a : Nat → Nat) (x1 : Int32) (z : T_OL) (v : Int32 × T_OL) (h : d_OL_bench x1 z = some v) :
    MI l y_OL_bench b_OL_bench 3 .int ({ frames := 5, cells := 0, slots := 0, locals := 119 } : Room) D g [.ref (a 0), .int x1] (ws_OL g a z) (v.1) (ws_OL g a v.2) := by
  have hd := h
  unfold d_OL_bench at hd
  refine enterI rfl (Nat.le_of_ble_eq_true rfl) (fun p e s m below meth c A ls hx hb hml hr hown hg hlk hK hA hP hD hS hCs hl => ?_)
  have hown : s.vm.findClass "OwnsLift" = some m.cls := hown
  have hl : lv_has ls 3 [(0, .ref (a 0)), (1, .int x1)] := hl
  show GI p l e s m ({ frames := 5, cells := 0, slots := 0, locals := 119 } : Room) ([.ref (a 0), .int x1] : List Value).toArray below meth c A D g (ws_OL g a v.2) (v.1) s.heap [] (F0 m 0 ls [])
  refine lv_aload_n hx hb d_OL_bench_0 rfl (lv_at hl 0 rfl) ?_
  refine va_get (D := D) (ci := 0) (v := .ref (a 1)) (C := R_OL) (T := F_OL) (N := 8) hx hb hg i_OL hown hK hP 0 rfl rfl 0 (by decide) (hg _ g_396) (fun _ h9 => h9) rfl d_OL_bench_1 ?_
  refine va_get (D := D) (ci := 7) (v := .ref (a 8)) (C := R_Re) (T := F_Re) (N := 11) hx hb hg i_Re hown hK hP 1 rfl rfl 4 (by decide) (hg _ g_212) (fun _ h9 => h9) rfl d_OL_bench_4 ?_
  refine lv_iload_n hx hb d_OL_bench_7 rfl (lv_at hl 1 rfl) ?_
  obtain ⟨v_1, e_2, hd⟩ := bind_s hd
  refine callVI (ws' := ws_OL g a z) (rest := []) (As := [.int x1]) hx hb hml hown hg hK hP hD hS hA hCs hl.1 (c_Pe_has l D g (sh a 8) x1 (q_Re_people (q_OL_now z)) _ e_2) o_Pe_has g_629 (ci := 5) (q0 := 8) rfl rfl (List.range' 8 11) (segC1 rfl rfl) (by decide) rfl (segP1 rfl rfl) rfl rfl (Nat.le_of_ble_eq_true rfl) ⟨rfl, rfl, Nat.le_of_ble_eq_true rfl, Nat.le_of_ble_eq_true rfl⟩ d_OL_bench_8 (fun H locs hP hD hS => ?_)
  refine lv_if_ne (tgt := 16) hx hb d_OL_bench_11 (by decide) (fun h_3 => ?_) (fun h_3 => ?_)
  · have hd := ite_f hd h_3
    refine lv_aload_n hx hb d_OL_bench_16 rfl (lv_at hl 0 rfl) ?_
    refine va_get (D := D) (ci := 0) (v := .ref (a 56)) (C := R_OL) (T := F_OL) (N := 8) hx hb hg i_OL hown hK hP 0 rfl rfl 4 (by decide) (hg _ g_400) (fun _ h9 => h9) rfl d_OL_bench_17 ?_
    refine lv_aload_n hx hb d_OL_bench_20 rfl (lv_at hl 0 rfl) ?_
    refine va_get (D := D) (ci := 0) (v := .ref (a 1)) (C := R_OL) (T := F_OL) (N := 8) hx hb hg i_OL hown hK hP 0 rfl rfl 0 (by decide) (hg _ g_396) (fun _ h9 => h9) rfl d_OL_bench_21 ?_
    obtain ⟨v_4, e_5, hd⟩ := bind_s hd
    refine callVV (ws' := ws_OL g a (u_OL_now (u_OL_standing z v_4.1) v_4.2)) (rest := []) (As := [.ref ((sh a 1) 0)]) hx hb hml hown hg hK hP hD hS hA hCs hl.1 (c_St_take l D g (sh a 56) (sh a 1) (q_OL_standing z) (q_OL_now z) _ e_5) o_St_take g_633 (ci := 9) (q0 := 56) rfl rfl (List.range' 56 10 ++ List.range' 1 24) (segC2 rfl rfl rfl rfl) (by decide) rfl (segP2 rfl rfl rfl) rfl rfl (Nat.le_of_ble_eq_true rfl) ⟨rfl, rfl, Nat.le_of_ble_eq_true rfl, Nat.le_of_ble_eq_true rfl⟩ d_OL_bench_24 (fun H locs hP hD hS => ?_)
    refine lv_aload_n hx hb d_OL_bench_27 rfl (lv_at hl 0 rfl) ?_
    refine va_get (D := D) (ci := 0) (v := .ref (a 56)) (C := R_OL) (T := F_OL) (N := 8) hx hb hg i_OL hown hK hP 0 rfl rfl 4 (by decide) (hg _ g_400) (fun _ h9 => h9) rfl d_OL_bench_28 ?_
    refine lv_aload_n hx hb d_OL_bench_31 rfl (lv_at hl 0 rfl) ?_
    refine va_get (D := D) (ci := 0) (v := .ref (a 1)) (C := R_OL) (T := F_OL) (N := 8) hx hb hg i_OL hown hK hP 0 rfl rfl 0 (by decide) (hg _ g_396) (fun _ h9 => h9) rfl d_OL_bench_32 ?_
    refine va_get (D := D) (ci := 7) (v := .ref (a 8)) (C := R_Re) (T := F_Re) (N := 11) hx hb hg i_Re hown hK hP 1 rfl rfl 4 (by decide) (hg _ g_212) (fun _ h9 => h9) rfl d_OL_bench_35 ?_
    refine lv_iload_n hx hb d_OL_bench_38 rfl (lv_at hl 1 rfl) ?_
    obtain ⟨v_6, e_7, hd⟩ := bind_s hd
    refine callVI (ws' := ws_OL g a (u_OL_standing (u_OL_now (u_OL_standing z v_4.1) v_4.2) v_6.2)) (rest := []) (As := [.ref ((sh a 8) 0), .int x1]) hx hb hml hown hg hK hP hD hS hA hCs hl.1 (c_St_lighten l D g (sh a 56) (sh a 8) x1 (q_OL_standing (u_OL_now (u_OL_standing z v_4.1) v_4.2)) (q_Re_people (q_OL_now (u_OL_now (u_OL_standing z v_4.1) v_4.2))) _ e_7) o_St_lighten g_737 (ci := 9) (q0 := 56) rfl rfl (List.range' 56 10 ++ List.range' 8 11) (segC2 rfl rfl rfl rfl) (by decide) rfl (segP2 rfl rfl rfl) rfl rfl (Nat.le_of_ble_eq_true rfl) ⟨rfl, rfl, Nat.le_of_ble_eq_true rfl, Nat.le_of_ble_eq_true rfl⟩ d_OL_bench_39 (fun H locs hP hD hS => ?_)
    refine lv_istore_n (lv' := [(2, .int v_6.1), (0, .ref (a 0)), (1, .int x1)]) hx hb d_OL_bench_42 rfl hl (by decide) rfl (fun ls hl => ?_)
    refine lv_aload_n hx hb d_OL_bench_43 rfl (lv_at hl 1 rfl) ?_
    refine va_get (D := D) (ci := 0) (v := .ref (a 56)) (C := R_OL) (T := F_OL) (N := 8) hx hb hg i_OL hown hK hP 0 rfl rfl 4 (by decide) (hg _ g_400) (fun _ h9 => h9) rfl d_OL_bench_44 ?_
    refine va_get (D := D) (ci := 9) (v := .ref (a 65)) (C := R_St) (T := F_St) (N := 7) hx hb hg i_St hown hK hP 56 rfl rfl 6 (by decide) (hg _ g_300) (fun _ h9 => h9) rfl d_OL_bench_47 ?_
    refine lv_iconst (v := 0) hx hb d_OL_bench_50 (by decide) ?_
    refine lv_aload_n hx hb d_OL_bench_51 rfl (lv_at hl 1 rfl) ?_
    refine va_get (D := D) (ci := 0) (v := .ref (a 1)) (C := R_OL) (T := F_OL) (N := 8) hx hb hg i_OL hown hK hP 0 rfl rfl 0 (by decide) (hg _ g_396) (fun _ h9 => h9) rfl d_OL_bench_52 ?_
    refine va_get (D := D) (ci := 7) (v := .ref (a 19)) (C := R_Re) (T := F_Re) (N := 11) hx hb hg i_Re hown hK hP 1 rfl rfl 5 (by decide) (hg _ g_215) (fun _ h9 => h9) rfl d_OL_bench_55 ?_
    refine va_get (D := D) (ci := 10) (v := .ref (a 21)) (C := R_Th) (T := F_Th) (N := 3) hx hb hg i_Th hown hK hP 19 rfl rfl 2 (by decide) (hg _ g_194) (fun _ h9 => h9) rfl d_OL_bench_58 ?_
    refine lv_iconst (v := 0) hx hb d_OL_bench_61 (by decide) ?_
    refine lv_bipush (v := 7) hx hb d_OL_bench_62 (by decide) ?_
    refine copyK (N := 7) hx hb (hml.trans hl.1.symm) hown (hg _ g_762) hg hK hP hD hS 65 21 rfl rfl (by decide +kernel) (by decide +kernel) (by decide) (by decide) (Nat.le_of_ble_eq_true rfl) (Nat.le_of_ble_eq_true (by decide +kernel)) d_OL_bench_64 (fun H locs hP hD hS => ?_)
    have hP : va_P D classes (ws_OL g a (u_OL_now (u_OL_standing (u_OL_now (u_OL_standing z v_4.1) v_4.2) v_6.2) (u_Re_things (q_OL_now (u_OL_standing (u_OL_now (u_OL_standing z v_4.1) v_4.2) v_6.2)) (u_Th_owner (q_Re_things (q_OL_now (u_OL_standing (u_OL_now (u_OL_standing z v_4.1) v_4.2) v_6.2))) (va_cpy (q_St_owner (q_OL_standing (u_OL_standing (u_OL_now (u_OL_standing z v_4.1) v_4.2) v_6.2))) (q_Th_owner (q_Re_things (q_OL_now (u_OL_standing (u_OL_now (u_OL_standing z v_4.1) v_4.2) v_6.2)))) 0 0 7))))) H := hP
    have hD : va_D A (ws_OL g a (u_OL_now (u_OL_standing (u_OL_now (u_OL_standing z v_4.1) v_4.2) v_6.2) (u_Re_things (q_OL_now (u_OL_standing (u_OL_now (u_OL_standing z v_4.1) v_4.2) v_6.2)) (u_Th_owner (q_Re_things (q_OL_now (u_OL_standing (u_OL_now (u_OL_standing z v_4.1) v_4.2) v_6.2))) (va_cpy (q_St_owner (q_OL_standing (u_OL_standing (u_OL_now (u_OL_standing z v_4.1) v_4.2) v_6.2))) (q_Th_owner (q_Re_things (q_OL_now (u_OL_standing (u_OL_now (u_OL_standing z v_4.1) v_4.2) v_6.2)))) 0 0 7))))) := hD
    refine lv_iload_n hx hb d_OL_bench_67 rfl (lv_at hl 0 rfl) ?_
    obtain rfl := Option.some.inj hd
    exact retI hx hb hr hlk hK hP hD hS d_OL_bench_68 rfl
  · have hd := ite_t hd h_3
    refine lv_iconst (v := (-1)) hx hb d_OL_bench_14 (by decide) ?_
    obtain rfl := Option.some.inj hd
    exact retI hx hb hr hlk hK hP hD hS d_OL_bench_15 rfl
-- OwnsLift.year()I
def d_OL_year (z : T_OL) : Option (Int32 × T_OL) :=
  if (q_Re_year (q_OL_now z)) < 99 then ((d_Re_pass (q_OL_now z)).bind fun v_2 => some ((q_Re_year (q_OL_now (u_OL_now z v_2))), (u_OL_now z v_2))) else (some ((-3), z))
theorem d_OL_year_0 : decode b_OL_year 0 = .ok (.aload_n 0, 1) := by decide +kernel
theorem d_OL_year_1 : decode b_OL_year 1 = .ok (.getfield 12, 3) := by decide +kernel
theorem d_OL_year_4 : decode b_OL_year 4 = .ok (.getfield 169, 3) := by decide +kernel
theorem d_OL_year_7 : decode b_OL_year 7 = .ok (.bipush 99, 2) := by decide +kernel
theorem d_OL_year_9 : decode b_OL_year 9 = .ok (.if_icmp .lt 6, 3) := by decide +kernel
theorem d_OL_year_12 : decode b_OL_year 12 = .ok (.bipush (-3), 2) := by decide +kernel
theorem d_OL_year_14 : decode b_OL_year 14 = .ok (.ireturn, 1) := by decide +kernel
theorem d_OL_year_15 : decode b_OL_year 15 = .ok (.aload_n 0, 1) := by decide +kernel
theorem d_OL_year_16 : decode b_OL_year 16 = .ok (.getfield 12, 3) := by decide +kernel
theorem d_OL_year_19 : decode b_OL_year 19 = .ok (.invokevirtual 183, 3) := by decide +kernel
theorem d_OL_year_22 : decode b_OL_year 22 = .ok (.aload_n 0, 1) := by decide +kernel
theorem d_OL_year_23 : decode b_OL_year 23 = .ok (.getfield 12, 3) := by decide +kernel
theorem d_OL_year_26 : decode b_OL_year 26 = .ok (.getfield 169, 3) := by decide +kernel
theorem d_OL_year_29 : decode b_OL_year 29 = .ok (.ireturn, 1) := by decide +kernel
theorem o_OL_year : OkV y_OL_year "OwnsLift" b_OL_year 1 (some .int) 0 := ⟨⟨rfl, by decide +kernel, by decide +kernel, by decide +kernel⟩, g_764, g_765, g_71, g_766⟩
set_option maxHeartbeats 4000000 in
set_option maxRecDepth 100000 in
theorem c_OL_year (l : Launch) (D : va_G) (g : Nat → ClassId) (a : Nat → Nat) (z : T_OL) (v : Int32 × T_OL) (h : d_OL_year z = some v) :
    MI l y_OL_year b_OL_year 1 .int ({ frames := 5, cells := 0, slots := 0, locals := 116 } : Room) D g [.ref (a 0)] (ws_OL g a z) (v.1) (ws_OL g a v.2) := by
  have hd := h
  unfold d_OL_year at hd
  refine enterI rfl (Nat.le_of_ble_eq_true rfl) (fun p e s m below meth c A ls hx hb hml hr hown hg hlk hK hA hP hD hS hCs hl => ?_)
  have hown : s.vm.findClass "OwnsLift" = some m.cls := hown
  have hl : lv_has ls 1 [(0, .ref (a 0))] := hl
  show GI p l e s m ({ frames := 5, cells := 0, slots := 0, locals := 116 } : Room) ([.ref (a 0)] : List Value).toArray below meth c A D g (ws_OL g a v.2) (v.1) s.heap [] (F0 m 0 ls [])
  refine lv_aload_n hx hb d_OL_year_0 rfl (lv_at hl 0 rfl) ?_
  refine va_get (D := D) (ci := 0) (v := .ref (a 1)) (C := R_OL) (T := F_OL) (N := 8) hx hb hg i_OL hown hK hP 0 rfl rfl 0 (by decide) (hg _ g_396) (fun _ h9 => h9) rfl d_OL_year_1 ?_
  refine va_get (D := D) (ci := 7) (v := .int (q_Re_year (q_OL_now z))) (C := R_Re) (T := F_Re) (N := 11) hx hb hg i_Re hown hK hP 1 rfl rfl 6 (by decide) (hg _ g_217) (fun _ h9 => h9) rfl d_OL_year_4 ?_
  refine lv_bipush (v := 99) hx hb d_OL_year_7 (by decide) ?_
  refine lv_icmp_lt (tgt := 15) hx hb d_OL_year_9 (by decide) (fun h_1 => ?_) (fun h_1 => ?_)
  · have hd := ite_t hd h_1
    refine lv_aload_n hx hb d_OL_year_15 rfl (lv_at hl 0 rfl) ?_
    refine va_get (D := D) (ci := 0) (v := .ref (a 1)) (C := R_OL) (T := F_OL) (N := 8) hx hb hg i_OL hown hK hP 0 rfl rfl 0 (by decide) (hg _ g_396) (fun _ h9 => h9) rfl d_OL_year_16 ?_
    obtain ⟨v_2, e_3, hd⟩ := bind_s hd
    refine callVV (ws' := ws_OL g a (u_OL_now z v_2)) (rest := []) (As := []) hx hb hml hown hg hK hP hD hS hA hCs hl.1 (c_Re_pass l D g (sh a 1) (q_OL_now z) _ e_3) o_Re_pass g_767 (ci := 7) (q0 := 1) rfl rfl (List.range' 1 24) (segC1 rfl rfl) (by decide) rfl (segP1 rfl rfl) rfl rfl (Nat.le_of_ble_eq_true rfl) ⟨rfl, rfl, Nat.le_of_ble_eq_true rfl, Nat.le_of_ble_eq_true rfl⟩ d_OL_year_19 (fun H locs hP hD hS => ?_)
    refine lv_aload_n hx hb d_OL_year_22 rfl (lv_at hl 0 rfl) ?_
    refine va_get (D := D) (ci := 0) (v := .ref (a 1)) (C := R_OL) (T := F_OL) (N := 8) hx hb hg i_OL hown hK hP 0 rfl rfl 0 (by decide) (hg _ g_396) (fun _ h9 => h9) rfl d_OL_year_23 ?_
    refine va_get (D := D) (ci := 7) (v := .int (q_Re_year (q_OL_now (u_OL_now z v_2)))) (C := R_Re) (T := F_Re) (N := 11) hx hb hg i_Re hown hK hP 1 rfl rfl 6 (by decide) (hg _ g_217) (fun _ h9 => h9) rfl d_OL_year_26 ?_
    obtain rfl := Option.some.inj hd
    exact retI hx hb hr hlk hK hP hD hS d_OL_year_29 rfl
  · have hd := ite_f hd h_1
    refine lv_bipush (v := (-3)) hx hb d_OL_year_12 (by decide) ?_
    obtain rfl := Option.some.inj hd
    exact retI hx hb hr hlk hK hP hD hS d_OL_year_14 rfl
-- OwnsLift.best(I)I
def d_OL_best (x1 : Int32) (z : T_OL) : Option (Int32 × T_OL) :=
  if x1 = (-1) then ((d_St_take (q_OL_standing z) (q_OL_now z)).bind fun v_2 => (d_Sh_byLike (q_OL_shares (u_OL_now (u_OL_standing z v_2.1) v_2.2)) (q_OL_standing (u_OL_now (u_OL_standing z v_2.1) v_2.2))).bind fun v_4 => (d_Sh_solve (q_OL_shares (u_OL_shares (u_OL_now (u_OL_standing z v_2.1) v_2.2) v_4))).bind fun v_6 => if x1 = (-1) then (some ((q_Sh_sum (q_OL_shares (u_OL_shares (u_OL_shares (u_OL_now (u_OL_standing z v_2.1) v_2.2) v_4) v_6))), (u_OL_shares (u_OL_shares (u_OL_now (u_OL_standing z v_2.1) v_2.2) v_4) v_6))) else (if inb x1 7 = true then (some ((q_Sh_owner (q_OL_shares (u_OL_shares (u_OL_shares (u_OL_now (u_OL_standing z v_2.1) v_2.2) v_4) v_6))) x1.toNatClampNeg, (u_OL_shares (u_OL_shares (u_OL_now (u_OL_standing z v_2.1) v_2.2) v_4) v_6))) else none)) else ((d_Th_has x1 (q_Re_things (q_OL_now z))).bind fun v_10 => if v_10 = 0 then (some ((-1001), z)) else ((d_St_take (q_OL_standing z) (q_OL_now z)).bind fun v_13 => (d_Sh_byLike (q_OL_shares (u_OL_now (u_OL_standing z v_13.1) v_13.2)) (q_OL_standing (u_OL_now (u_OL_standing z v_13.1) v_13.2))).bind fun v_15 => (d_Sh_solve (q_OL_shares (u_OL_shares (u_OL_now (u_OL_standing z v_13.1) v_13.2) v_15))).bind fun v_17 => if x1 = (-1) then (some ((q_Sh_sum (q_OL_shares (u_OL_shares (u_OL_shares (u_OL_now (u_OL_standing z v_13.1) v_13.2) v_15) v_17))), (u_OL_shares (u_OL_shares (u_OL_now (u_OL_standing z v_13.1) v_13.2) v_15) v_17))) else (if inb x1 7 = true then (some ((q_Sh_owner (q_OL_shares (u_OL_shares (u_OL_shares (u_OL_now (u_OL_standing z v_13.1) v_13.2) v_15) v_17))) x1.toNatClampNeg, (u_OL_shares (u_OL_shares (u_OL_now (u_OL_standing z v_13.1) v_13.2) v_15) v_17))) else none)))
theorem d_OL_best_0 : decode b_OL_best 0 = .ok (.iload_n 1, 1) := by decide +kernel
theorem d_OL_best_1 : decode b_OL_best 1 = .ok (.iconst (-1), 1) := by decide +kernel
theorem d_OL_best_2 : decode b_OL_best 2 = .ok (.if_icmp .eq 21, 3) := by decide +kernel
theorem d_OL_best_5 : decode b_OL_best 5 = .ok (.aload_n 0, 1) := by decide +kernel
theorem d_OL_best_6 : decode b_OL_best 6 = .ok (.getfield 12, 3) := by decide +kernel
theorem d_OL_best_9 : decode b_OL_best 9 = .ok (.getfield 146, 3) := by decide +kernel
theorem d_OL_best_12 : decode b_OL_best 12 = .ok (.iload_n 1, 1) := by decide +kernel
theorem d_OL_best_13 : decode b_OL_best 13 = .ok (.invokevirtual 150, 3) := by decide +kernel
theorem d_OL_best_16 : decode b_OL_best 16 = .ok (.ifCond .ne 7, 3) := by decide +kernel
theorem d_OL_best_19 : decode b_OL_best 19 = .ok (.sipush (-1001), 3) := by decide +kernel
theorem d_OL_best_22 : decode b_OL_best 22 = .ok (.ireturn, 1) := by decide +kernel
theorem d_OL_best_23 : decode b_OL_best 23 = .ok (.aload_n 0, 1) := by decide +kernel
theorem d_OL_best_24 : decode b_OL_best 24 = .ok (.getfield 31, 3) := by decide +kernel
theorem d_OL_best_27 : decode b_OL_best 27 = .ok (.aload_n 0, 1) := by decide +kernel
theorem d_OL_best_28 : decode b_OL_best 28 = .ok (.getfield 12, 3) := by decide +kernel
theorem d_OL_best_31 : decode b_OL_best 31 = .ok (.invokevirtual 111, 3) := by decide +kernel
theorem d_OL_best_34 : decode b_OL_best 34 = .ok (.aload_n 0, 1) := by decide +kernel
theorem d_OL_best_35 : decode b_OL_best 35 = .ok (.getfield 38, 3) := by decide +kernel
theorem d_OL_best_38 : decode b_OL_best 38 = .ok (.aload_n 0, 1) := by decide +kernel
theorem d_OL_best_39 : decode b_OL_best 39 = .ok (.getfield 31, 3) := by decide +kernel
theorem d_OL_best_42 : decode b_OL_best 42 = .ok (.invokevirtual 186, 3) := by decide +kernel
theorem d_OL_best_45 : decode b_OL_best 45 = .ok (.aload_n 0, 1) := by decide +kernel
theorem d_OL_best_46 : decode b_OL_best 46 = .ok (.getfield 38, 3) := by decide +kernel
theorem d_OL_best_49 : decode b_OL_best 49 = .ok (.invokevirtual 190, 3) := by decide +kernel
theorem d_OL_best_52 : decode b_OL_best 52 = .ok (.iload_n 1, 1) := by decide +kernel
theorem d_OL_best_53 : decode b_OL_best 53 = .ok (.iconst (-1), 1) := by decide +kernel
theorem d_OL_best_54 : decode b_OL_best 54 = .ok (.if_icmp .ne 13, 3) := by decide +kernel
theorem d_OL_best_57 : decode b_OL_best 57 = .ok (.aload_n 0, 1) := by decide +kernel
theorem d_OL_best_58 : decode b_OL_best 58 = .ok (.getfield 38, 3) := by decide +kernel
theorem d_OL_best_61 : decode b_OL_best 61 = .ok (.getfield 193, 3) := by decide +kernel
theorem d_OL_best_64 : decode b_OL_best 64 = .ok (.goto 12, 3) := by decide +kernel
theorem d_OL_best_67 : decode b_OL_best 67 = .ok (.aload_n 0, 1) := by decide +kernel
theorem d_OL_best_68 : decode b_OL_best 68 = .ok (.getfield 38, 3) := by decide +kernel
theorem d_OL_best_71 : decode b_OL_best 71 = .ok (.getfield 196, 3) := by decide +kernel
theorem d_OL_best_74 : decode b_OL_best 74 = .ok (.iload_n 1, 1) := by decide +kernel
theorem d_OL_best_75 : decode b_OL_best 75 = .ok (.iaload, 1) := by decide +kernel
theorem d_OL_best_76 : decode b_OL_best 76 = .ok (.ireturn, 1) := by decide +kernel
theorem o_OL_best : OkV y_OL_best "OwnsLift" b_OL_best 2 (some .int) 1 := ⟨⟨rfl, by decide +kernel, by decide +kernel, by decide +kernel⟩, g_781, g_782, g_71, g_783⟩
set_option maxHeartbeats 4000000 in
set_option maxRecDepth 100000 in
theorem c_OL_best (l : Launch) (D : va_G) (g : Nat → ClassId) (a : Nat → Nat) (x1 : Int32) (z : T_OL) (v : Int32 × T_OL) (h : d_OL_best x1 z = some v) :
    MI l y_OL_best b_OL_best 2 .int ({ frames := 132, cells := 0, slots := 0, locals := 3957 } : Room) D g [.ref (a 0), .int x1] (ws_OL g a z) (v.1) (ws_OL g a v.2) := by
  have hd := h
  unfold d_OL_best at hd
  refine enterI rfl (Nat.le_of_ble_eq_true rfl) (fun p e s m below meth c A ls hx hb hml hr hown hg hlk hK hA hP hD hS hCs hl => ?_)
  have hown : s.vm.findClass "OwnsLift" = some m.cls := hown
  have hl : lv_has ls 2 [(0, .ref (a 0)), (1, .int x1)] := hl
  show GI p l e s m ({ frames := 132, cells := 0, slots := 0, locals := 3957 } : Room) ([.ref (a 0), .int x1] : List Value).toArray below meth c A D g (ws_OL g a v.2) (v.1) s.heap [] (F0 m 0 ls [])
  refine lv_iload_n hx hb d_OL_best_0 rfl (lv_at hl 1 rfl) ?_
  refine lv_iconst (v := (-1)) hx hb d_OL_best_1 (by decide) ?_
  refine lv_icmp_eq (tgt := 23) hx hb d_OL_best_2 (by decide) (fun h_1 => ?_) (fun h_1 => ?_)
  · have hd := ite_t hd h_1
    refine lv_aload_n hx hb d_OL_best_23 rfl (lv_at hl 0 rfl) ?_
    refine va_get (D := D) (ci := 0) (v := .ref (a 56)) (C := R_OL) (T := F_OL) (N := 8) hx hb hg i_OL hown hK hP 0 rfl rfl 4 (by decide) (hg _ g_400) (fun _ h9 => h9) rfl d_OL_best_24 ?_
    refine lv_aload_n hx hb d_OL_best_27 rfl (lv_at hl 0 rfl) ?_
    refine va_get (D := D) (ci := 0) (v := .ref (a 1)) (C := R_OL) (T := F_OL) (N := 8) hx hb hg i_OL hown hK hP 0 rfl rfl 0 (by decide) (hg _ g_396) (fun _ h9 => h9) rfl d_OL_best_28 ?_
    obtain ⟨v_2, e_3, hd⟩ := bind_s hd
    refine callVV (ws' := ws_OL g a (u_OL_now (u_OL_standing z v_2.1) v_2.2)) (rest := []) (As := [.ref ((sh a 1) 0)]) hx hb hml hown hg hK hP hD hS hA hCs hl.1 (c_St_take l D g (sh a 56) (sh a 1) (q_OL_standing z) (q_OL_now z) _ e_3) o_St_take g_633 (ci := 9) (q0 := 56) rfl rfl (List.range' 56 10 ++ List.range' 1 24) (segC2 rfl rfl rfl rfl) (by decide) rfl (segP2 rfl rfl rfl) rfl rfl (Nat.le_of_ble_eq_true rfl) ⟨rfl, rfl, Nat.le_of_ble_eq_true rfl, Nat.le_of_ble_eq_true rfl⟩ d_OL_best_31 (fun H locs hP hD hS => ?_)
    refine lv_aload_n hx hb d_OL_best_34 rfl (lv_at hl 0 rfl) ?_
    refine va_get (D := D) (ci := 0) (v := .ref (a 66)) (C := R_OL) (T := F_OL) (N := 8) hx hb hg i_OL hown hK hP 0 rfl rfl 5 (by decide) (hg _ g_401) (fun _ h9 => h9) rfl d_OL_best_35 ?_
    refine lv_aload_n hx hb d_OL_best_38 rfl (lv_at hl 0 rfl) ?_
    refine va_get (D := D) (ci := 0) (v := .ref (a 56)) (C := R_OL) (T := F_OL) (N := 8) hx hb hg i_OL hown hK hP 0 rfl rfl 4 (by decide) (hg _ g_400) (fun _ h9 => h9) rfl d_OL_best_39 ?_
    obtain ⟨v_4, e_5, hd⟩ := bind_s hd
    refine callVV (ws' := ws_OL g a (u_OL_shares (u_OL_now (u_OL_standing z v_2.1) v_2.2) v_4)) (rest := []) (As := [.ref ((sh a 56) 0)]) hx hb hml hown hg hK hP hD hS hA hCs hl.1 (c_Sh_byLike l D g (sh a 66) (sh a 56) (q_OL_shares (u_OL_now (u_OL_standing z v_2.1) v_2.2)) (q_OL_standing (u_OL_now (u_OL_standing z v_2.1) v_2.2)) _ e_5) o_Sh_byLike g_784 (ci := 8) (q0 := 66) rfl rfl (List.range' 66 14 ++ List.range' 56 10) (segC2 rfl rfl rfl rfl) (by decide) rfl (segP2 rfl rfl rfl) rfl rfl (Nat.le_of_ble_eq_true rfl) ⟨rfl, rfl, Nat.le_of_ble_eq_true rfl, Nat.le_of_ble_eq_true rfl⟩ d_OL_best_42 (fun H locs hP hD hS => ?_)
    refine lv_aload_n hx hb d_OL_best_45 rfl (lv_at hl 0 rfl) ?_
    refine va_get (D := D) (ci := 0) (v := .ref (a 66)) (C := R_OL) (T := F_OL) (N := 8) hx hb hg i_OL hown hK hP 0 rfl rfl 5 (by decide) (hg _ g_401) (fun _ h9 => h9) rfl d_OL_best_46 ?_
    obtain ⟨v_6, e_7, hd⟩ := bind_s hd
    refine callVV (ws' := ws_OL g a (u_OL_shares (u_OL_shares (u_OL_now (u_OL_standing z v_2.1) v_2.2) v_4) v_6)) (rest := []) (As := []) hx hb hml hown hg hK hP hD hS hA hCs hl.1 (c_Sh_solve l D g (sh a 66) (q_OL_shares (u_OL_shares (u_OL_now (u_OL_standing z v_2.1) v_2.2) v_4)) _ e_7) o_Sh_solve g_792 (ci := 8) (q0 := 66) rfl rfl (List.range' 66 14) (segC1 rfl rfl) (by decide) rfl (segP1 rfl rfl) rfl rfl (Nat.le_of_ble_eq_true rfl) ⟨rfl, rfl, Nat.le_of_ble_eq_true rfl, Nat.le_of_ble_eq_true rfl⟩ d_OL_best_49 (fun H locs hP hD hS => ?_)
    refine lv_iload_n hx hb d_OL_best_52 rfl (lv_at hl 1 rfl) ?_
    refine lv_iconst (v := (-1)) hx hb d_OL_best_53 (by decide) ?_
    refine lv_icmp_ne (tgt := 67) hx hb d_OL_best_54 (by decide) (fun h_8 => ?_) (fun h_8 => ?_)
    · have hd := ite_f hd h_8
      refine lv_aload_n hx hb d_OL_best_67 rfl (lv_at hl 0 rfl) ?_
      refine va_get (D := D) (ci := 0) (v := .ref (a 66)) (C := R_OL) (T := F_OL) (N := 8) hx hb hg i_OL hown hK hP 0 rfl rfl 5 (by decide) (hg _ g_401) (fun _ h9 => h9) rfl d_OL_best_68 ?_
      refine va_get (D := D) (ci := 8) (v := .ref (a 67)) (C := R_Sh) (T := F_Sh) (N := 10) hx hb hg i_Sh hown hK hP 66 rfl rfl 2 (by decide) (hg _ g_328) (fun _ h9 => h9) rfl d_OL_best_71 ?_
      refine lv_iload_n hx hb d_OL_best_74 rfl (lv_at hl 1 rfl) ?_
      obtain ⟨h_9, hd⟩ := ite_s hd
      refine ialdK hx hb hK hP 67 0 rfl rfl (inb_t h_9) rfl d_OL_best_75 ?_
      obtain rfl := Option.some.inj hd
      exact retI hx hb hr hlk hK hP hD hS d_OL_best_76 rfl
    · have hd := ite_t hd h_8
      refine lv_aload_n hx hb d_OL_best_57 rfl (lv_at hl 0 rfl) ?_
      refine va_get (D := D) (ci := 0) (v := .ref (a 66)) (C := R_OL) (T := F_OL) (N := 8) hx hb hg i_OL hown hK hP 0 rfl rfl 5 (by decide) (hg _ g_401) (fun _ h9 => h9) rfl d_OL_best_58 ?_
      refine va_get (D := D) (ci := 8) (v := .int (q_Sh_sum (q_OL_shares (u_OL_shares (u_OL_shares (u_OL_now (u_OL_standing z v_2.1) v_2.2) v_4) v_6)))) (C := R_Sh) (T := F_Sh) (N := 10) hx hb hg i_Sh hown hK hP 66 rfl rfl 1 (by decide) (hg _ g_326) (fun _ h9 => h9) rfl d_OL_best_61 ?_
      refine lv_goto (tgt := 76) hx hb d_OL_best_64 (by decide) ?_
      obtain rfl := Option.some.inj hd
      exact retI hx hb hr hlk hK hP hD hS d_OL_best_76 rfl
  · have hd := ite_f hd h_1
    refine lv_aload_n hx hb d_OL_best_5 rfl (lv_at hl 0 rfl) ?_
    refine va_get (D := D) (ci := 0) (v := .ref (a 1)) (C := R_OL) (T := F_OL) (N := 8) hx hb hg i_OL hown hK hP 0 rfl rfl 0 (by decide) (hg _ g_396) (fun _ h9 => h9) rfl d_OL_best_6 ?_
    refine va_get (D := D) (ci := 7) (v := .ref (a 19)) (C := R_Re) (T := F_Re) (N := 11) hx hb hg i_Re hown hK hP 1 rfl rfl 5 (by decide) (hg _ g_215) (fun _ h9 => h9) rfl d_OL_best_9 ?_
    refine lv_iload_n hx hb d_OL_best_12 rfl (lv_at hl 1 rfl) ?_
    obtain ⟨v_10, e_11, hd⟩ := bind_s hd
    refine callVI (ws' := ws_OL g a z) (rest := []) (As := [.int x1]) hx hb hml hown hg hK hP hD hS hA hCs hl.1 (c_Th_has l D g (sh a 19) x1 (q_Re_things (q_OL_now z)) _ e_11) o_Th_has g_700 (ci := 10) (q0 := 19) rfl rfl (List.range' 19 3) (segC1 rfl rfl) (by decide) rfl (segP1 rfl rfl) rfl rfl (Nat.le_of_ble_eq_true rfl) ⟨rfl, rfl, Nat.le_of_ble_eq_true rfl, Nat.le_of_ble_eq_true rfl⟩ d_OL_best_13 (fun H locs hP hD hS => ?_)
    refine lv_if_ne (tgt := 23) hx hb d_OL_best_16 (by decide) (fun h_12 => ?_) (fun h_12 => ?_)
    · have hd := ite_f hd h_12
      refine lv_aload_n hx hb d_OL_best_23 rfl (lv_at hl 0 rfl) ?_
      refine va_get (D := D) (ci := 0) (v := .ref (a 56)) (C := R_OL) (T := F_OL) (N := 8) hx hb hg i_OL hown hK hP 0 rfl rfl 4 (by decide) (hg _ g_400) (fun _ h9 => h9) rfl d_OL_best_24 ?_
      refine lv_aload_n hx hb d_OL_best_27 rfl (lv_at hl 0 rfl) ?_
      refine va_get (D := D) (ci := 0) (v := .ref (a 1)) (C := R_OL) (T := F_OL) (N := 8) hx hb hg i_OL hown hK hP 0 rfl rfl 0 (by decide) (hg _ g_396) (fun _ h9 => h9) rfl d_OL_best_28 ?_
      obtain ⟨v_13, e_14, hd⟩ := bind_s hd
      refine callVV (ws' := ws_OL g a (u_OL_now (u_OL_standing z v_13.1) v_13.2)) (rest := []) (As := [.ref ((sh a 1) 0)]) hx hb hml hown hg hK hP hD hS hA hCs hl.1 (c_St_take l D g (sh a 56) (sh a 1) (q_OL_standing z) (q_OL_now z) _ e_14) o_St_take g_633 (ci := 9) (q0 := 56) rfl rfl (List.range' 56 10 ++ List.range' 1 24) (segC2 rfl rfl rfl rfl) (by decide) rfl (segP2 rfl rfl rfl) rfl rfl (Nat.le_of_ble_eq_true rfl) ⟨rfl, rfl, Nat.le_of_ble_eq_true rfl, Nat.le_of_ble_eq_true rfl⟩ d_OL_best_31 (fun H locs hP hD hS => ?_)
      refine lv_aload_n hx hb d_OL_best_34 rfl (lv_at hl 0 rfl) ?_
      refine va_get (D := D) (ci := 0) (v := .ref (a 66)) (C := R_OL) (T := F_OL) (N := 8) hx hb hg i_OL hown hK hP 0 rfl rfl 5 (by decide) (hg _ g_401) (fun _ h9 => h9) rfl d_OL_best_35 ?_
      refine lv_aload_n hx hb d_OL_best_38 rfl (lv_at hl 0 rfl) ?_
      refine va_get (D := D) (ci := 0) (v := .ref (a 56)) (C := R_OL) (T := F_OL) (N := 8) hx hb hg i_OL hown hK hP 0 rfl rfl 4 (by decide) (hg _ g_400) (fun _ h9 => h9) rfl d_OL_best_39 ?_
      obtain ⟨v_15, e_16, hd⟩ := bind_s hd
      refine callVV (ws' := ws_OL g a (u_OL_shares (u_OL_now (u_OL_standing z v_13.1) v_13.2) v_15)) (rest := []) (As := [.ref ((sh a 56) 0)]) hx hb hml hown hg hK hP hD hS hA hCs hl.1 (c_Sh_byLike l D g (sh a 66) (sh a 56) (q_OL_shares (u_OL_now (u_OL_standing z v_13.1) v_13.2)) (q_OL_standing (u_OL_now (u_OL_standing z v_13.1) v_13.2)) _ e_16) o_Sh_byLike g_784 (ci := 8) (q0 := 66) rfl rfl (List.range' 66 14 ++ List.range' 56 10) (segC2 rfl rfl rfl rfl) (by decide) rfl (segP2 rfl rfl rfl) rfl rfl (Nat.le_of_ble_eq_true rfl) ⟨rfl, rfl, Nat.le_of_ble_eq_true rfl, Nat.le_of_ble_eq_true rfl⟩ d_OL_best_42 (fun H locs hP hD hS => ?_)
      refine lv_aload_n hx hb d_OL_best_45 rfl (lv_at hl 0 rfl) ?_
      refine va_get (D := D) (ci := 0) (v := .ref (a 66)) (C := R_OL) (T := F_OL) (N := 8) hx hb hg i_OL hown hK hP 0 rfl rfl 5 (by decide) (hg _ g_401) (fun _ h9 => h9) rfl d_OL_best_46 ?_
      obtain ⟨v_17, e_18, hd⟩ := bind_s hd
      refine callVV (ws' := ws_OL g a (u_OL_shares (u_OL_shares (u_OL_now (u_OL_standing z v_13.1) v_13.2) v_15) v_17)) (rest := []) (As := []) hx hb hml hown hg hK hP hD hS hA hCs hl.1 (c_Sh_solve l D g (sh a 66) (q_OL_shares (u_OL_shares (u_OL_now (u_OL_standing z v_13.1) v_13.2) v_15)) _ e_18) o_Sh_solve g_792 (ci := 8) (q0 := 66) rfl rfl (List.range' 66 14) (segC1 rfl rfl) (by decide) rfl (segP1 rfl rfl) rfl rfl (Nat.le_of_ble_eq_true rfl) ⟨rfl, rfl, Nat.le_of_ble_eq_true rfl, Nat.le_of_ble_eq_true rfl⟩ d_OL_best_49 (fun H locs hP hD hS => ?_)
      refine lv_iload_n hx hb d_OL_best_52 rfl (lv_at hl 1 rfl) ?_
      refine lv_iconst (v := (-1)) hx hb d_OL_best_53 (by decide) ?_
      refine lv_icmp_ne (tgt := 67) hx hb d_OL_best_54 (by decide) (fun h_19 => ?_) (fun h_19 => ?_)
      · have hd := ite_f hd h_19
        refine lv_aload_n hx hb d_OL_best_67 rfl (lv_at hl 0 rfl) ?_
        refine va_get (D := D) (ci := 0) (v := .ref (a 66)) (C := R_OL) (T := F_OL) (N := 8) hx hb hg i_OL hown hK hP 0 rfl rfl 5 (by decide) (hg _ g_401) (fun _ h9 => h9) rfl d_OL_best_68 ?_
        refine va_get (D := D) (ci := 8) (v := .ref (a 67)) (C := R_Sh) (T := F_Sh) (N := 10) hx hb hg i_Sh hown hK hP 66 rfl rfl 2 (by decide) (hg _ g_328) (fun _ h9 => h9) rfl d_OL_best_71 ?_
        refine lv_iload_n hx hb d_OL_best_74 rfl (lv_at hl 1 rfl) ?_
        obtain ⟨h_20, hd⟩ := ite_s hd
        refine ialdK hx hb hK hP 67 0 rfl rfl (inb_t h_20) rfl d_OL_best_75 ?_
        obtain rfl := Option.some.inj hd
        exact retI hx hb hr hlk hK hP hD hS d_OL_best_76 rfl
      · have hd := ite_t hd h_19
        refine lv_aload_n hx hb d_OL_best_57 rfl (lv_at hl 0 rfl) ?_
        refine va_get (D := D) (ci := 0) (v := .ref (a 66)) (C := R_OL) (T := F_OL) (N := 8) hx hb hg i_OL hown hK hP 0 rfl rfl 5 (by decide) (hg _ g_401) (fun _ h9 => h9) rfl d_OL_best_58 ?_
        refine va_get (D := D) (ci := 8) (v := .int (q_Sh_sum (q_OL_shares (u_OL_shares (u_OL_shares (u_OL_now (u_OL_standing z v_13.1) v_13.2) v_15) v_17)))) (C := R_Sh) (T := F_Sh) (N := 10) hx hb hg i_Sh hown hK hP 66 rfl rfl 1 (by decide) (hg _ g_326) (fun _ h9 => h9) rfl d_OL_best_61 ?_
        refine lv_goto (tgt := 76) hx hb d_OL_best_64 (by decide) ?_
        obtain rfl := Option.some.inj hd
        exact retI hx hb hr hlk hK hP hD hS d_OL_best_76 rfl
    · have hd := ite_t hd h_12
      refine lv_sipush (v := (-1001)) hx hb d_OL_best_19 (by decide) ?_
      obtain rfl := Option.some.inj hd
      exact retI hx hb hr hlk hK hP hD hS d_OL_best_22 rfl

-- OwnsLift.most()I
def d_OL_most (z : T_OL) : Option (Int32 × T_OL) :=
  (d_St_take (q_OL_standing z) (q_OL_now z)).bind fun v_1 => (d_Sh_byNumber (q_OL_shares (u_OL_now (u_OL_standing z v_1.1) v_1.2)) (q_OL_standing (u_OL_now (u_OL_standing z v_1.1) v_1.2))).bind fun v_3 => (d_Sh_solve (q_OL_shares (u_OL_shares (u_OL_now (u_OL_standing z v_1.1) v_1.2) v_3))).bind fun v_5 => some ((q_Sh_sum (q_OL_shares (u_OL_shares (u_OL_shares (u_OL_now (u_OL_standing z v_1.1) v_1.2) v_3) v_5))), (u_OL_shares (u_OL_shares (u_OL_now (u_OL_standing z v_1.1) v_1.2) v_3) v_5))
theorem d_OL_most_0 : decode b_OL_most 0 = .ok (.aload_n 0, 1) := by decide +kernel
theorem d_OL_most_1 : decode b_OL_most 1 = .ok (.getfield 31, 3) := by decide +kernel
theorem d_OL_most_4 : decode b_OL_most 4 = .ok (.aload_n 0, 1) := by decide +kernel
theorem d_OL_most_5 : decode b_OL_most 5 = .ok (.getfield 12, 3) := by decide +kernel
theorem d_OL_most_8 : decode b_OL_most 8 = .ok (.invokevirtual 111, 3) := by decide +kernel
theorem d_OL_most_11 : decode b_OL_most 11 = .ok (.aload_n 0, 1) := by decide +kernel
theorem d_OL_most_12 : decode b_OL_most 12 = .ok (.getfield 38, 3) := by decide +kernel
theorem d_OL_most_15 : decode b_OL_most 15 = .ok (.aload_n 0, 1) := by decide +kernel
theorem d_OL_most_16 : decode b_OL_most 16 = .ok (.getfield 31, 3) := by decide +kernel
theorem d_OL_most_19 : decode b_OL_most 19 = .ok (.invokevirtual 197, 3) := by decide +kernel
theorem d_OL_most_22 : decode b_OL_most 22 = .ok (.aload_n 0, 1) := by decide +kernel
theorem d_OL_most_23 : decode b_OL_most 23 = .ok (.getfield 38, 3) := by decide +kernel
theorem d_OL_most_26 : decode b_OL_most 26 = .ok (.invokevirtual 190, 3) := by decide +kernel
theorem d_OL_most_29 : decode b_OL_most 29 = .ok (.aload_n 0, 1) := by decide +kernel
theorem d_OL_most_30 : decode b_OL_most 30 = .ok (.getfield 38, 3) := by decide +kernel
theorem d_OL_most_33 : decode b_OL_most 33 = .ok (.getfield 193, 3) := by decide +kernel
theorem d_OL_most_36 : decode b_OL_most 36 = .ok (.ireturn, 1) := by decide +kernel
theorem o_OL_most : OkV y_OL_most "OwnsLift" b_OL_most 1 (some .int) 0 := ⟨⟨rfl, by decide +kernel, by decide +kernel, by decide +kernel⟩, g_804, g_805, g_71, g_806⟩
set_option maxHeartbeats 4000000 in
set_option maxRecDepth 100000 in
theorem c_OL_most (l : Launch) (D : va_G) (g : Nat → ClassId) (a : Nat → Nat) (z : T_OL) (v : Int32 × T_OL) (h : d_OL_most z = some v) :
    MI l y_OL_most b_OL_most 1 .int ({ frames := 132, cells := 0, slots := 0, locals := 3957 } : Room) D g [.ref (a 0)] (ws_OL g a z) (v.1) (ws_OL g a v.2) := by
  have hd := h
  unfold d_OL_most at hd
  refine enterI rfl (Nat.le_of_ble_eq_true rfl) (fun p e s m below meth c A ls hx hb hml hr hown hg hlk hK hA hP hD hS hCs hl => ?_)
  have hown : s.vm.findClass "OwnsLift" = some m.cls := hown
  have hl : lv_has ls 1 [(0, .ref (a 0))] := hl
  show GI p l e s m ({ frames := 132, cells := 0, slots := 0, locals := 3957 } : Room) ([.ref (a 0)] : List Value).toArray below meth c A D g (ws_OL g a v.2) (v.1) s.heap [] (F0 m 0 ls [])
  refine lv_aload_n hx hb d_OL_most_0 rfl (lv_at hl 0 rfl) ?_
  refine va_get (D := D) (ci := 0) (v := .ref (a 56)) (C := R_OL) (T := F_OL) (N := 8) hx hb hg i_OL hown hK hP 0 rfl rfl 4 (by decide) (hg _ g_400) (fun _ h9 => h9) rfl d_OL_most_1 ?_
  refine lv_aload_n hx hb d_OL_most_4 rfl (lv_at hl 0 rfl) ?_
  refine va_get (D := D) (ci := 0) (v := .ref (a 1)) (C := R_OL) (T := F_OL) (N := 8) hx hb hg i_OL hown hK hP 0 rfl rfl 0 (by decide) (hg _ g_396) (fun _ h9 => h9) rfl d_OL_most_5 ?_
  obtain ⟨v_1, e_2, hd⟩ := bind_s hd
  refine callVV (ws' := ws_OL g a (u_OL_now (u_OL_standing z v_1.1) v_1.2)) (rest := []) (As := [.ref ((sh a 1) 0)]) hx hb hml hown hg hK hP hD hS hA hCs hl.1 (c_St_take l D g (sh a 56) (sh a 1) (q_OL_standing z) (q_OL_now z) _ e_2) o_St_take g_633 (ci := 9) (q0 := 56) rfl rfl (List.range' 56 10 ++ List.range' 1 24) (segC2 rfl rfl rfl rfl) (by decide) rfl (segP2 rfl rfl rfl) rfl rfl (Nat.le_of_ble_eq_true rfl) ⟨rfl, rfl, Nat.le_of_ble_eq_true rfl, Nat.le_of_ble_eq_true rfl⟩ d_OL_most_8 (fun H locs hP hD hS => ?_)
  refine lv_aload_n hx hb d_OL_most_11 rfl (lv_at hl 0 rfl) ?_
  refine va_get (D := D) (ci := 0) (v := .ref (a 66)) (C := R_OL) (T := F_OL) (N := 8) hx hb hg i_OL hown hK hP 0 rfl rfl 5 (by decide) (hg _ g_401) (fun _ h9 => h9) rfl d_OL_most_12 ?_
  refine lv_aload_n hx hb d_OL_most_15 rfl (lv_at hl 0 rfl) ?_
  refine va_get (D := D) (ci := 0) (v := .ref (a 56)) (C := R_OL) (T := F_OL) (N := 8) hx hb hg i_OL hown hK hP 0 rfl rfl 4 (by decide) (hg _ g_400) (fun _ h9 => h9) rfl d_OL_most_16 ?_
  obtain ⟨v_3, e_4, hd⟩ := bind_s hd
  refine callVV (ws' := ws_OL g a (u_OL_shares (u_OL_now (u_OL_standing z v_1.1) v_1.2) v_3)) (rest := []) (As := [.ref ((sh a 56) 0)]) hx hb hml hown hg hK hP hD hS hA hCs hl.1 (c_Sh_byNumber l D g (sh a 66) (sh a 56) (q_OL_shares (u_OL_now (u_OL_standing z v_1.1) v_1.2)) (q_OL_standing (u_OL_now (u_OL_standing z v_1.1) v_1.2)) _ e_4) o_Sh_byNumber g_807 (ci := 8) (q0 := 66) rfl rfl (List.range' 66 14 ++ List.range' 56 10) (segC2 rfl rfl rfl rfl) (by decide) rfl (segP2 rfl rfl rfl) rfl rfl (Nat.le_of_ble_eq_true rfl) ⟨rfl, rfl, Nat.le_of_ble_eq_true rfl, Nat.le_of_ble_eq_true rfl⟩ d_OL_most_19 (fun H locs hP hD hS => ?_)
  refine lv_aload_n hx hb d_OL_most_22 rfl (lv_at hl 0 rfl) ?_
  refine va_get (D := D) (ci := 0) (v := .ref (a 66)) (C := R_OL) (T := F_OL) (N := 8) hx hb hg i_OL hown hK hP 0 rfl rfl 5 (by decide) (hg _ g_401) (fun _ h9 => h9) rfl d_OL_most_23 ?_
  obtain ⟨v_5, e_6, hd⟩ := bind_s hd
  refine callVV (ws' := ws_OL g a (u_OL_shares (u_OL_shares (u_OL_now (u_OL_standing z v_1.1) v_1.2) v_3) v_5)) (rest := []) (As := []) hx hb hml hown hg hK hP hD hS hA hCs hl.1 (c_Sh_solve l D g (sh a 66) (q_OL_shares (u_OL_shares (u_OL_now (u_OL_standing z v_1.1) v_1.2) v_3)) _ e_6) o_Sh_solve g_792 (ci := 8) (q0 := 66) rfl rfl (List.range' 66 14) (segC1 rfl rfl) (by decide) rfl (segP1 rfl rfl) rfl rfl (Nat.le_of_ble_eq_true rfl) ⟨rfl, rfl, Nat.le_of_ble_eq_true rfl, Nat.le_of_ble_eq_true rfl⟩ d_OL_most_26 (fun H locs hP hD hS => ?_)
  refine lv_aload_n hx hb d_OL_most_29 rfl (lv_at hl 0 rfl) ?_
  refine va_get (D := D) (ci := 0) (v := .ref (a 66)) (C := R_OL) (T := F_OL) (N := 8) hx hb hg i_OL hown hK hP 0 rfl rfl 5 (by decide) (hg _ g_401) (fun _ h9 => h9) rfl d_OL_most_30 ?_
  refine va_get (D := D) (ci := 8) (v := .int (q_Sh_sum (q_OL_shares (u_OL_shares (u_OL_shares (u_OL_now (u_OL_standing z v_1.1) v_1.2) v_3) v_5)))) (C := R_Sh) (T := F_Sh) (N := 10) hx hb hg i_Sh hown hK hP 66 rfl rfl 1 (by decide) (hg _ g_326) (fun _ h9 => h9) rfl d_OL_most_33 ?_
  obtain rfl := Option.some.inj hd
  exact retI hx hb hr hlk hK hP hD hS d_OL_most_36 rfl
-- OwnsLift.train(I)I
def d_OL_train (x1 : Int32) (z : T_OL) : Option (Int32 × T_OL) :=
  (d_Pe_has x1 (q_Re_people (q_OL_now z))).bind fun v_1 => if v_1 = 0 then (some ((-1), z)) else ((d_St_take (q_OL_standing z) (q_OL_now z)).bind fun v_4 => (d_Sh_byLike (q_OL_shares (u_OL_now (u_OL_standing z v_4.1) v_4.2)) (q_OL_standing (u_OL_now (u_OL_standing z v_4.1) v_4.2))).bind fun v_6 => (d_Sh_solve (q_OL_shares (u_OL_shares (u_OL_now (u_OL_standing z v_4.1) v_4.2) v_6))).bind fun v_8 => if inb x1 4 = true then (if inb x1 4 = true then ((d_Sh_byLike (q_OL_shares (u_OL_standing (u_OL_shares (u_OL_shares (u_OL_now (u_OL_standing z v_4.1) v_4.2) v_6) v_8) (u_St_lifts (q_OL_standing (u_OL_shares (u_OL_shares (u_OL_now (u_OL_standing z v_4.1) v_4.2) v_6) v_8)) (upd (q_St_lifts (q_OL_standing (u_OL_shares (u_OL_shares (u_OL_now (u_OL_standing z v_4.1) v_4.2) v_6) v_8))) x1.toNatClampNeg (((q_St_lifts (q_OL_standing (u_OL_shares (u_OL_shares (u_OL_now (u_OL_standing z v_4.1) v_4.2) v_6) v_8))) x1.toNatClampNeg) + 1))))) (q_OL_standing (u_OL_standing (u_OL_shares (u_OL_shares (u_OL_now (u_OL_standing z v_4.1) v_4.2) v_6) v_8) (u_St_lifts (q_OL_standing (u_OL_shares (u_OL_shares (u_OL_now (u_OL_standing z v_4.1) v_4.2) v_6) v_8)) (upd (q_St_lifts (q_OL_standing (u_OL_shares (u_OL_shares (u_OL_now (u_OL_standing z v_4.1) v_4.2) v_6) v_8))) x1.toNatClampNeg (((q_St_lifts (q_OL_standing (u_OL_shares (u_OL_shares (u_OL_now (u_OL_standing z v_4.1) v_4.2) v_6) v_8))) x1.toNatClampNeg) + 1)))))).bind fun v_10 => (d_Sh_solve (q_OL_shares (u_OL_shares (u_OL_standing (u_OL_shares (u_OL_shares (u_OL_now (u_OL_standing z v_4.1) v_4.2) v_6) v_8) (u_St_lifts (q_OL_standing (u_OL_shares (u_OL_shares (u_OL_now (u_OL_standing z v_4.1) v_4.2) v_6) v_8)) (upd (q_St_lifts (q_OL_standing (u_OL_shares (u_OL_shares (u_OL_now (u_OL_standing z v_4.1) v_4.2) v_6) v_8))) x1.toNatClampNeg (((q_St_lifts (q_OL_standing (u_OL_shares (u_OL_shares (u_OL_now (u_OL_standing z v_4.1) v_4.2) v_6) v_8))) x1.toNatClampNeg) + 1)))) v_10))).bind fun v_12 => some ((q_Sh_sum (q_OL_shares (u_OL_shares (u_OL_shares (u_OL_standing (u_OL_shares (u_OL_shares (u_OL_now (u_OL_standing z v_4.1) v_4.2) v_6) v_8) (u_St_lifts (q_OL_standing (u_OL_shares (u_OL_shares (u_OL_now (u_OL_standing z v_4.1) v_4.2) v_6) v_8)) (upd (q_St_lifts (q_OL_standing (u_OL_shares (u_OL_shares (u_OL_now (u_OL_standing z v_4.1) v_4.2) v_6) v_8))) x1.toNatClampNeg (((q_St_lifts (q_OL_standing (u_OL_shares (u_OL_shares (u_OL_now (u_OL_standing z v_4.1) v_4.2) v_6) v_8))) x1.toNatClampNeg) + 1)))) v_10) v_12))) - (q_Sh_sum (q_OL_shares (u_OL_shares (u_OL_shares (u_OL_now (u_OL_standing z v_4.1) v_4.2) v_6) v_8))), (u_OL_shares (u_OL_shares (u_OL_standing (u_OL_shares (u_OL_shares (u_OL_now (u_OL_standing z v_4.1) v_4.2) v_6) v_8) (u_St_lifts (q_OL_standing (u_OL_shares (u_OL_shares (u_OL_now (u_OL_standing z v_4.1) v_4.2) v_6) v_8)) (upd (q_St_lifts (q_OL_standing (u_OL_shares (u_OL_shares (u_OL_now (u_OL_standing z v_4.1) v_4.2) v_6) v_8))) x1.toNatClampNeg (((q_St_lifts (q_OL_standing (u_OL_shares (u_OL_shares (u_OL_now (u_OL_standing z v_4.1) v_4.2) v_6) v_8))) x1.toNatClampNeg) + 1)))) v_10) v_12))) else none) else none)
theorem d_OL_train_0 : decode b_OL_train 0 = .ok (.aload_n 0, 1) := by decide +kernel
theorem d_OL_train_1 : decode b_OL_train 1 = .ok (.getfield 12, 3) := by decide +kernel
theorem d_OL_train_4 : decode b_OL_train 4 = .ok (.getfield 95, 3) := by decide +kernel
theorem d_OL_train_7 : decode b_OL_train 7 = .ok (.iload_n 1, 1) := by decide +kernel
theorem d_OL_train_8 : decode b_OL_train 8 = .ok (.invokevirtual 108, 3) := by decide +kernel
theorem d_OL_train_11 : decode b_OL_train 11 = .ok (.ifCond .ne 5, 3) := by decide +kernel
theorem d_OL_train_14 : decode b_OL_train 14 = .ok (.iconst (-1), 1) := by decide +kernel
theorem d_OL_train_15 : decode b_OL_train 15 = .ok (.ireturn, 1) := by decide +kernel
theorem d_OL_train_16 : decode b_OL_train 16 = .ok (.aload_n 0, 1) := by decide +kernel
theorem d_OL_train_17 : decode b_OL_train 17 = .ok (.getfield 31, 3) := by decide +kernel
theorem d_OL_train_20 : decode b_OL_train 20 = .ok (.aload_n 0, 1) := by decide +kernel
theorem d_OL_train_21 : decode b_OL_train 21 = .ok (.getfield 12, 3) := by decide +kernel
theorem d_OL_train_24 : decode b_OL_train 24 = .ok (.invokevirtual 111, 3) := by decide +kernel
theorem d_OL_train_27 : decode b_OL_train 27 = .ok (.aload_n 0, 1) := by decide +kernel
theorem d_OL_train_28 : decode b_OL_train 28 = .ok (.getfield 38, 3) := by decide +kernel
theorem d_OL_train_31 : decode b_OL_train 31 = .ok (.aload_n 0, 1) := by decide +kernel
theorem d_OL_train_32 : decode b_OL_train 32 = .ok (.getfield 31, 3) := by decide +kernel
theorem d_OL_train_35 : decode b_OL_train 35 = .ok (.invokevirtual 186, 3) := by decide +kernel
theorem d_OL_train_38 : decode b_OL_train 38 = .ok (.aload_n 0, 1) := by decide +kernel
theorem d_OL_train_39 : decode b_OL_train 39 = .ok (.getfield 38, 3) := by decide +kernel
theorem d_OL_train_42 : decode b_OL_train 42 = .ok (.invokevirtual 190, 3) := by decide +kernel
theorem d_OL_train_45 : decode b_OL_train 45 = .ok (.aload_n 0, 1) := by decide +kernel
theorem d_OL_train_46 : decode b_OL_train 46 = .ok (.getfield 38, 3) := by decide +kernel
theorem d_OL_train_49 : decode b_OL_train 49 = .ok (.getfield 193, 3) := by decide +kernel
theorem d_OL_train_52 : decode b_OL_train 52 = .ok (.istore_n 2, 1) := by decide +kernel
theorem d_OL_train_53 : decode b_OL_train 53 = .ok (.aload_n 0, 1) := by decide +kernel
theorem d_OL_train_54 : decode b_OL_train 54 = .ok (.getfield 31, 3) := by decide +kernel
theorem d_OL_train_57 : decode b_OL_train 57 = .ok (.getfield 127, 3) := by decide +kernel
theorem d_OL_train_60 : decode b_OL_train 60 = .ok (.iload_n 1, 1) := by decide +kernel
theorem d_OL_train_61 : decode b_OL_train 61 = .ok (.dup2, 1) := by decide +kernel
theorem d_OL_train_62 : decode b_OL_train 62 = .ok (.iaload, 1) := by decide +kernel
theorem d_OL_train_63 : decode b_OL_train 63 = .ok (.iconst 1, 1) := by decide +kernel
theorem d_OL_train_64 : decode b_OL_train 64 = .ok (.iadd, 1) := by decide +kernel
theorem d_OL_train_65 : decode b_OL_train 65 = .ok (.iastore, 1) := by decide +kernel
theorem d_OL_train_66 : decode b_OL_train 66 = .ok (.aload_n 0, 1) := by decide +kernel
theorem d_OL_train_67 : decode b_OL_train 67 = .ok (.getfield 38, 3) := by decide +kernel
theorem d_OL_train_70 : decode b_OL_train 70 = .ok (.aload_n 0, 1) := by decide +kernel
theorem d_OL_train_71 : decode b_OL_train 71 = .ok (.getfield 31, 3) := by decide +kernel
theorem d_OL_train_74 : decode b_OL_train 74 = .ok (.invokevirtual 186, 3) := by decide +kernel
theorem d_OL_train_77 : decode b_OL_train 77 = .ok (.aload_n 0, 1) := by decide +kernel
theorem d_OL_train_78 : decode b_OL_train 78 = .ok (.getfield 38, 3) := by decide +kernel
theorem d_OL_train_81 : decode b_OL_train 81 = .ok (.invokevirtual 190, 3) := by decide +kernel
theorem d_OL_train_84 : decode b_OL_train 84 = .ok (.aload_n 0, 1) := by decide +kernel
theorem d_OL_train_85 : decode b_OL_train 85 = .ok (.getfield 38, 3) := by decide +kernel
theorem d_OL_train_88 : decode b_OL_train 88 = .ok (.getfield 193, 3) := by decide +kernel
theorem d_OL_train_91 : decode b_OL_train 91 = .ok (.iload_n 2, 1) := by decide +kernel
theorem d_OL_train_92 : decode b_OL_train 92 = .ok (.isub, 1) := by decide +kernel
theorem d_OL_train_93 : decode b_OL_train 93 = .ok (.ireturn, 1) := by decide +kernel
theorem o_OL_train : OkV y_OL_train "OwnsLift" b_OL_train 3 (some .int) 1 := ⟨⟨rfl, by decide +kernel, by decide +kernel, by decide +kernel⟩, g_812, g_813, g_71, g_814⟩
set_option maxHeartbeats 4000000 in
set_option maxRecDepth 100000 in
theorem c_OL_train (l : Launch) (D : va_G) (g : Nat → ClassId) (a : Nat → Nat) (x1 : Int32) (z : T_OL) (v : Int32 × T_OL) (h : d_OL_train x1 z = some v) :
    MI l y_OL_train b_OL_train 3 .int ({ frames := 132, cells := 0, slots := 0, locals := 3957 } : Room) D g [.ref (a 0), .int x1] (ws_OL g a z) (v.1) (ws_OL g a v.2) := by
  have hd := h
  unfold d_OL_train at hd
  refine enterI rfl (Nat.le_of_ble_eq_true rfl) (fun p e s m below meth c A ls hx hb hml hr hown hg hlk hK hA hP hD hS hCs hl => ?_)
  have hown : s.vm.findClass "OwnsLift" = some m.cls := hown
  have hl : lv_has ls 3 [(0, .ref (a 0)), (1, .int x1)] := hl
  show GI p l e s m ({ frames := 132, cells := 0, slots := 0, locals := 3957 } : Room) ([.ref (a 0), .int x1] : List Value).toArray below meth c A D g (ws_OL g a v.2) (v.1) s.heap [] (F0 m 0 ls [])
  refine lv_aload_n hx hb d_OL_train_0 rfl (lv_at hl 0 rfl) ?_
  refine va_get (D := D) (ci := 0) (v := .ref (a 1)) (C := R_OL) (T := F_OL) (N := 8) hx hb hg i_OL hown hK hP 0 rfl rfl 0 (by decide) (hg _ g_396) (fun _ h9 => h9) rfl d_OL_train_1 ?_
  refine va_get (D := D) (ci := 7) (v := .ref (a 8)) (C := R_Re) (T := F_Re) (N := 11) hx hb hg i_Re hown hK hP 1 rfl rfl 4 (by decide) (hg _ g_212) (fun _ h9 => h9) rfl d_OL_train_4 ?_
  refine lv_iload_n hx hb d_OL_train_7 rfl (lv_at hl 1 rfl) ?_
  obtain ⟨v_1, e_2, hd⟩ := bind_s hd
  refine callVI (ws' := ws_OL g a z) (rest := []) (As := [.int x1]) hx hb hml hown hg hK hP hD hS hA hCs hl.1 (c_Pe_has l D g (sh a 8) x1 (q_Re_people (q_OL_now z)) _ e_2) o_Pe_has g_629 (ci := 5) (q0 := 8) rfl rfl (List.range' 8 11) (segC1 rfl rfl) (by decide) rfl (segP1 rfl rfl) rfl rfl (Nat.le_of_ble_eq_true rfl) ⟨rfl, rfl, Nat.le_of_ble_eq_true rfl, Nat.le_of_ble_eq_true rfl⟩ d_OL_train_8 (fun H locs hP hD hS => ?_)
  refine lv_if_ne (tgt := 16) hx hb d_OL_train_11 (by decide) (fun h_3 => ?_) (fun h_3 => ?_)
  · have hd := ite_f hd h_3
    refine lv_aload_n hx hb d_OL_train_16 rfl (lv_at hl 0 rfl) ?_
    refine va_get (D := D) (ci := 0) (v := .ref (a 56)) (C := R_OL) (T := F_OL) (N := 8) hx hb hg i_OL hown hK hP 0 rfl rfl 4 (by decide) (hg _ g_400) (fun _ h9 => h9) rfl d_OL_train_17 ?_
    refine lv_aload_n hx hb d_OL_train_20 rfl (lv_at hl 0 rfl) ?_
    refine va_get (D := D) (ci := 0) (v := .ref (a 1)) (C := R_OL) (T := F_OL) (N := 8) hx hb hg i_OL hown hK hP 0 rfl rfl 0 (by decide) (hg _ g_396) (fun _ h9 => h9) rfl d_OL_train_21 ?_
    obtain ⟨v_4, e_5, hd⟩ := bind_s hd
    refine callVV (ws' := ws_OL g a (u_OL_now (u_OL_standing z v_4.1) v_4.2)) (rest := []) (As := [.ref ((sh a 1) 0)]) hx hb hml hown hg hK hP hD hS hA hCs hl.1 (c_St_take l D g (sh a 56) (sh a 1) (q_OL_standing z) (q_OL_now z) _ e_5) o_St_take g_633 (ci := 9) (q0 := 56) rfl rfl (List.range' 56 10 ++ List.range' 1 24) (segC2 rfl rfl rfl rfl) (by decide) rfl (segP2 rfl rfl rfl) rfl rfl (Nat.le_of_ble_eq_true rfl) ⟨rfl, rfl, Nat.le_of_ble_eq_true rfl, Nat.le_of_ble_eq_true rfl⟩ d_OL_train_24 (fun H locs hP hD hS => ?_)
    refine lv_aload_n hx hb d_OL_train_27 rfl (lv_at hl 0 rfl) ?_
    refine va_get (D := D) (ci := 0) (v := .ref (a 66)) (C := R_OL) (T := F_OL) (N := 8) hx hb hg i_OL hown hK hP 0 rfl rfl 5 (by decide) (hg _ g_401) (fun _ h9 => h9) rfl d_OL_train_28 ?_
    refine lv_aload_n hx hb d_OL_train_31 rfl (lv_at hl 0 rfl) ?_
    refine va_get (D := D) (ci := 0) (v := .ref (a 56)) (C := R_OL) (T := F_OL) (N := 8) hx hb hg i_OL hown hK hP 0 rfl rfl 4 (by decide) (hg _ g_400) (fun _ h9 => h9) rfl d_OL_train_32 ?_
    obtain ⟨v_6, e_7, hd⟩ := bind_s hd
    refine callVV (ws' := ws_OL g a (u_OL_shares (u_OL_now (u_OL_standing z v_4.1) v_4.2) v_6)) (rest := []) (As := [.ref ((sh a 56) 0)]) hx hb hml hown hg hK hP hD hS hA hCs hl.1 (c_Sh_byLike l D g (sh a 66) (sh a 56) (q_OL_shares (u_OL_now (u_OL_standing z v_4.1) v_4.2)) (q_OL_standing (u_OL_now (u_OL_standing z v_4.1) v_4.2)) _ e_7) o_Sh_byLike g_784 (ci := 8) (q0 := 66) rfl rfl (List.range' 66 14 ++ List.range' 56 10) (segC2 rfl rfl rfl rfl) (by decide) rfl (segP2 rfl rfl rfl) rfl rfl (Nat.le_of_ble_eq_true rfl) ⟨rfl, rfl, Nat.le_of_ble_eq_true rfl, Nat.le_of_ble_eq_true rfl⟩ d_OL_train_35 (fun H locs hP hD hS => ?_)
    refine lv_aload_n hx hb d_OL_train_38 rfl (lv_at hl 0 rfl) ?_
    refine va_get (D := D) (ci := 0) (v := .ref (a 66)) (C := R_OL) (T := F_OL) (N := 8) hx hb hg i_OL hown hK hP 0 rfl rfl 5 (by decide) (hg _ g_401) (fun _ h9 => h9) rfl d_OL_train_39 ?_
    obtain ⟨v_8, e_9, hd⟩ := bind_s hd
    refine callVV (ws' := ws_OL g a (u_OL_shares (u_OL_shares (u_OL_now (u_OL_standing z v_4.1) v_4.2) v_6) v_8)) (rest := []) (As := []) hx hb hml hown hg hK hP hD hS hA hCs hl.1 (c_Sh_solve l D g (sh a 66) (q_OL_shares (u_OL_shares (u_OL_now (u_OL_standing z v_4.1) v_4.2) v_6)) _ e_9) o_Sh_solve g_792 (ci := 8) (q0 := 66) rfl rfl (List.range' 66 14) (segC1 rfl rfl) (by decide) rfl (segP1 rfl rfl) rfl rfl (Nat.le_of_ble_eq_true rfl) ⟨rfl, rfl, Nat.le_of_ble_eq_true rfl, Nat.le_of_ble_eq_true rfl⟩ d_OL_train_42 (fun H locs hP hD hS => ?_)
    refine lv_aload_n hx hb d_OL_train_45 rfl (lv_at hl 0 rfl) ?_
    refine va_get (D := D) (ci := 0) (v := .ref (a 66)) (C := R_OL) (T := F_OL) (N := 8) hx hb hg i_OL hown hK hP 0 rfl rfl 5 (by decide) (hg _ g_401) (fun _ h9 => h9) rfl d_OL_train_46 ?_
    refine va_get (D := D) (ci := 8) (v := .int (q_Sh_sum (q_OL_shares (u_OL_shares (u_OL_shares (u_OL_now (u_OL_standing z v_4.1) v_4.2) v_6) v_8)))) (C := R_Sh) (T := F_Sh) (N := 10) hx hb hg i_Sh hown hK hP 66 rfl rfl 1 (by decide) (hg _ g_326) (fun _ h9 => h9) rfl d_OL_train_49 ?_
    refine lv_istore_n (lv' := [(2, .int (q_Sh_sum (q_OL_shares (u_OL_shares (u_OL_shares (u_OL_now (u_OL_standing z v_4.1) v_4.2) v_6) v_8)))), (0, .ref (a 0)), (1, .int x1)]) hx hb d_OL_train_52 rfl hl (by decide) rfl (fun ls hl => ?_)
    refine lv_aload_n hx hb d_OL_train_53 rfl (lv_at hl 1 rfl) ?_
    refine va_get (D := D) (ci := 0) (v := .ref (a 56)) (C := R_OL) (T := F_OL) (N := 8) hx hb hg i_OL hown hK hP 0 rfl rfl 4 (by decide) (hg _ g_400) (fun _ h9 => h9) rfl d_OL_train_54 ?_
    refine va_get (D := D) (ci := 9) (v := .ref (a 62)) (C := R_St) (T := F_St) (N := 7) hx hb hg i_St hown hK hP 56 rfl rfl 3 (by decide) (hg _ g_290) (fun _ h9 => h9) rfl d_OL_train_57 ?_
    refine lv_iload_n hx hb d_OL_train_60 rfl (lv_at hl 2 rfl) ?_
    refine lv_dup2_11 hx hb d_OL_train_61 rfl rfl ?_
    obtain ⟨h_15, hd⟩ := ite_s hd
    refine ialdK hx hb hK hP 62 0 rfl rfl (inb_t h_15) rfl d_OL_train_62 ?_
    refine lv_iconst (v := 1) hx hb d_OL_train_63 (by decide) ?_
    refine lv_iadd hx hb d_OL_train_64 ?_
    obtain ⟨h_14, hd⟩ := ite_s hd
    refine iastK hx hb hK hP hD hS 62 0 rfl rfl (inb_t h_14) rfl d_OL_train_65 (fun H locs hP hD hS => ?_)
    have hP : va_P D classes (ws_OL g a (u_OL_standing (u_OL_shares (u_OL_shares (u_OL_now (u_OL_standing z v_4.1) v_4.2) v_6) v_8) (u_St_lifts (q_OL_standing (u_OL_shares (u_OL_shares (u_OL_now (u_OL_standing z v_4.1) v_4.2) v_6) v_8)) (upd (q_St_lifts (q_OL_standing (u_OL_shares (u_OL_shares (u_OL_now (u_OL_standing z v_4.1) v_4.2) v_6) v_8))) x1.toNatClampNeg (((q_St_lifts (q_OL_standing (u_OL_shares (u_OL_shares (u_OL_now (u_OL_standing z v_4.1) v_4.2) v_6) v_8))) x1.toNatClampNeg) + 1))))) H := hP
    have hD : va_D A (ws_OL g a (u_OL_standing (u_OL_shares (u_OL_shares (u_OL_now (u_OL_standing z v_4.1) v_4.2) v_6) v_8) (u_St_lifts (q_OL_standing (u_OL_shares (u_OL_shares (u_OL_now (u_OL_standing z v_4.1) v_4.2) v_6) v_8)) (upd (q_St_lifts (q_OL_standing (u_OL_shares (u_OL_shares (u_OL_now (u_OL_standing z v_4.1) v_4.2) v_6) v_8))) x1.toNatClampNeg (((q_St_lifts (q_OL_standing (u_OL_shares (u_OL_shares (u_OL_now (u_OL_standing z v_4.1) v_4.2) v_6) v_8))) x1.toNatClampNeg) + 1))))) := hD
    refine lv_aload_n hx hb d_OL_train_66 rfl (lv_at hl 1 rfl) ?_
    refine va_get (D := D) (ci := 0) (v := .ref (a 66)) (C := R_OL) (T := F_OL) (N := 8) hx hb hg i_OL hown hK hP 0 rfl rfl 5 (by decide) (hg _ g_401) (fun _ h9 => h9) rfl d_OL_train_67 ?_
    refine lv_aload_n hx hb d_OL_train_70 rfl (lv_at hl 1 rfl) ?_
    refine va_get (D := D) (ci := 0) (v := .ref (a 56)) (C := R_OL) (T := F_OL) (N := 8) hx hb hg i_OL hown hK hP 0 rfl rfl 4 (by decide) (hg _ g_400) (fun _ h9 => h9) rfl d_OL_train_71 ?_
    obtain ⟨v_10, e_11, hd⟩ := bind_s hd
    refine callVV (ws' := ws_OL g a (u_OL_shares (u_OL_standing (u_OL_shares (u_OL_shares (u_OL_now (u_OL_standing z v_4.1) v_4.2) v_6) v_8) (u_St_lifts (q_OL_standing (u_OL_shares (u_OL_shares (u_OL_now (u_OL_standing z v_4.1) v_4.2) v_6) v_8)) (upd (q_St_lifts (q_OL_standing (u_OL_shares (u_OL_shares (u_OL_now (u_OL_standing z v_4.1) v_4.2) v_6) v_8))) x1.toNatClampNeg (((q_St_lifts (q_OL_standing (u_OL_shares (u_OL_shares (u_OL_now (u_OL_standing z v_4.1) v_4.2) v_6) v_8))) x1.toNatClampNeg) + 1)))) v_10)) (rest := []) (As := [.ref ((sh a 56) 0)]) hx hb hml hown hg hK hP hD hS hA hCs hl.1 (c_Sh_byLike l D g (sh a 66) (sh a 56) (q_OL_shares (u_OL_standing (u_OL_shares (u_OL_shares (u_OL_now (u_OL_standing z v_4.1) v_4.2) v_6) v_8) (u_St_lifts (q_OL_standing (u_OL_shares (u_OL_shares (u_OL_now (u_OL_standing z v_4.1) v_4.2) v_6) v_8)) (upd (q_St_lifts (q_OL_standing (u_OL_shares (u_OL_shares (u_OL_now (u_OL_standing z v_4.1) v_4.2) v_6) v_8))) x1.toNatClampNeg (((q_St_lifts (q_OL_standing (u_OL_shares (u_OL_shares (u_OL_now (u_OL_standing z v_4.1) v_4.2) v_6) v_8))) x1.toNatClampNeg) + 1))))) (q_OL_standing (u_OL_standing (u_OL_shares (u_OL_shares (u_OL_now (u_OL_standing z v_4.1) v_4.2) v_6) v_8) (u_St_lifts (q_OL_standing (u_OL_shares (u_OL_shares (u_OL_now (u_OL_standing z v_4.1) v_4.2) v_6) v_8)) (upd (q_St_lifts (q_OL_standing (u_OL_shares (u_OL_shares (u_OL_now (u_OL_standing z v_4.1) v_4.2) v_6) v_8))) x1.toNatClampNeg (((q_St_lifts (q_OL_standing (u_OL_shares (u_OL_shares (u_OL_now (u_OL_standing z v_4.1) v_4.2) v_6) v_8))) x1.toNatClampNeg) + 1))))) _ e_11) o_Sh_byLike g_784 (ci := 8) (q0 := 66) rfl rfl (List.range' 66 14 ++ List.range' 56 10) (segC2 rfl rfl rfl rfl) (by decide) rfl (segP2 rfl rfl rfl) rfl rfl (Nat.le_of_ble_eq_true rfl) ⟨rfl, rfl, Nat.le_of_ble_eq_true rfl, Nat.le_of_ble_eq_true rfl⟩ d_OL_train_74 (fun H locs hP hD hS => ?_)
    refine lv_aload_n hx hb d_OL_train_77 rfl (lv_at hl 1 rfl) ?_
    refine va_get (D := D) (ci := 0) (v := .ref (a 66)) (C := R_OL) (T := F_OL) (N := 8) hx hb hg i_OL hown hK hP 0 rfl rfl 5 (by decide) (hg _ g_401) (fun _ h9 => h9) rfl d_OL_train_78 ?_
    obtain ⟨v_12, e_13, hd⟩ := bind_s hd
    refine callVV (ws' := ws_OL g a (u_OL_shares (u_OL_shares (u_OL_standing (u_OL_shares (u_OL_shares (u_OL_now (u_OL_standing z v_4.1) v_4.2) v_6) v_8) (u_St_lifts (q_OL_standing (u_OL_shares (u_OL_shares (u_OL_now (u_OL_standing z v_4.1) v_4.2) v_6) v_8)) (upd (q_St_lifts (q_OL_standing (u_OL_shares (u_OL_shares (u_OL_now (u_OL_standing z v_4.1) v_4.2) v_6) v_8))) x1.toNatClampNeg (((q_St_lifts (q_OL_standing (u_OL_shares (u_OL_shares (u_OL_now (u_OL_standing z v_4.1) v_4.2) v_6) v_8))) x1.toNatClampNeg) + 1)))) v_10) v_12)) (rest := []) (As := []) hx hb hml hown hg hK hP hD hS hA hCs hl.1 (c_Sh_solve l D g (sh a 66) (q_OL_shares (u_OL_shares (u_OL_standing (u_OL_shares (u_OL_shares (u_OL_now (u_OL_standing z v_4.1) v_4.2) v_6) v_8) (u_St_lifts (q_OL_standing (u_OL_shares (u_OL_shares (u_OL_now (u_OL_standing z v_4.1) v_4.2) v_6) v_8)) (upd (q_St_lifts (q_OL_standing (u_OL_shares (u_OL_shares (u_OL_now (u_OL_standing z v_4.1) v_4.2) v_6) v_8))) x1.toNatClampNeg (((q_St_lifts (q_OL_standing (u_OL_shares (u_OL_shares (u_OL_now (u_OL_standing z v_4.1) v_4.2) v_6) v_8))) x1.toNatClampNeg) + 1)))) v_10)) _ e_13) o_Sh_solve g_792 (ci := 8) (q0 := 66) rfl rfl (List.range' 66 14) (segC1 rfl rfl) (by decide) rfl (segP1 rfl rfl) rfl rfl (Nat.le_of_ble_eq_true rfl) ⟨rfl, rfl, Nat.le_of_ble_eq_true rfl, Nat.le_of_ble_eq_true rfl⟩ d_OL_train_81 (fun H locs hP hD hS => ?_)
    refine lv_aload_n hx hb d_OL_train_84 rfl (lv_at hl 1 rfl) ?_
    refine va_get (D := D) (ci := 0) (v := .ref (a 66)) (C := R_OL) (T := F_OL) (N := 8) hx hb hg i_OL hown hK hP 0 rfl rfl 5 (by decide) (hg _ g_401) (fun _ h9 => h9) rfl d_OL_train_85 ?_
    refine va_get (D := D) (ci := 8) (v := .int (q_Sh_sum (q_OL_shares (u_OL_shares (u_OL_shares (u_OL_standing (u_OL_shares (u_OL_shares (u_OL_now (u_OL_standing z v_4.1) v_4.2) v_6) v_8) (u_St_lifts (q_OL_standing (u_OL_shares (u_OL_shares (u_OL_now (u_OL_standing z v_4.1) v_4.2) v_6) v_8)) (upd (q_St_lifts (q_OL_standing (u_OL_shares (u_OL_shares (u_OL_now (u_OL_standing z v_4.1) v_4.2) v_6) v_8))) x1.toNatClampNeg (((q_St_lifts (q_OL_standing (u_OL_shares (u_OL_shares (u_OL_now (u_OL_standing z v_4.1) v_4.2) v_6) v_8))) x1.toNatClampNeg) + 1)))) v_10) v_12)))) (C := R_Sh) (T := F_Sh) (N := 10) hx hb hg i_Sh hown hK hP 66 rfl rfl 1 (by decide) (hg _ g_326) (fun _ h9 => h9) rfl d_OL_train_88 ?_
    refine lv_iload_n hx hb d_OL_train_91 rfl (lv_at hl 0 rfl) ?_
    refine lv_isub hx hb d_OL_train_92 ?_
    obtain rfl := Option.some.inj hd
    exact retI hx hb hr hlk hK hP hD hS d_OL_train_93 rfl
  · have hd := ite_t hd h_3
    refine lv_iconst (v := (-1)) hx hb d_OL_train_14 (by decide) ?_
    obtain rfl := Option.some.inj hd
    exact retI hx hb hr hlk hK hP hD hS d_OL_train_15 rfl
-- OwnsLift.moved()I
def d_OL_moved (z : T_OL) : Option (Int32 × T_OL) :=
  (d_St_take (q_OL_standing z) (q_OL_now z)).bind fun v_1 => (d_Sh_byStaying (q_OL_shares (u_OL_now (u_OL_standing z v_1.1) v_1.2)) (q_OL_standing (u_OL_now (u_OL_standing z v_1.1) v_1.2))).bind fun v_3 => (d_Sh_solve (q_OL_shares (u_OL_shares (u_OL_now (u_OL_standing z v_1.1) v_1.2) v_3))).bind fun v_5 => if (q_Sh_found (q_OL_shares (u_OL_shares (u_OL_shares (u_OL_now (u_OL_standing z v_1.1) v_1.2) v_3) v_5))) = 0 then (some ((-5), (u_OL_shares (u_OL_shares (u_OL_now (u_OL_standing z v_1.1) v_1.2) v_3) v_5))) else (some (-(q_Sh_sum (q_OL_shares (u_OL_shares (u_OL_shares (u_OL_now (u_OL_standing z v_1.1) v_1.2) v_3) v_5))), (u_OL_shares (u_OL_shares (u_OL_now (u_OL_standing z v_1.1) v_1.2) v_3) v_5)))
theorem d_OL_moved_0 : decode b_OL_moved 0 = .ok (.aload_n 0, 1) := by decide +kernel
theorem d_OL_moved_1 : decode b_OL_moved 1 = .ok (.getfield 31, 3) := by decide +kernel
theorem d_OL_moved_4 : decode b_OL_moved 4 = .ok (.aload_n 0, 1) := by decide +kernel
theorem d_OL_moved_5 : decode b_OL_moved 5 = .ok (.getfield 12, 3) := by decide +kernel
theorem d_OL_moved_8 : decode b_OL_moved 8 = .ok (.invokevirtual 111, 3) := by decide +kernel
theorem d_OL_moved_11 : decode b_OL_moved 11 = .ok (.aload_n 0, 1) := by decide +kernel
theorem d_OL_moved_12 : decode b_OL_moved 12 = .ok (.getfield 38, 3) := by decide +kernel
theorem d_OL_moved_15 : decode b_OL_moved 15 = .ok (.aload_n 0, 1) := by decide +kernel
theorem d_OL_moved_16 : decode b_OL_moved 16 = .ok (.getfield 31, 3) := by decide +kernel
theorem d_OL_moved_19 : decode b_OL_moved 19 = .ok (.invokevirtual 200, 3) := by decide +kernel
theorem d_OL_moved_22 : decode b_OL_moved 22 = .ok (.aload_n 0, 1) := by decide +kernel
theorem d_OL_moved_23 : decode b_OL_moved 23 = .ok (.getfield 38, 3) := by decide +kernel
theorem d_OL_moved_26 : decode b_OL_moved 26 = .ok (.invokevirtual 190, 3) := by decide +kernel
theorem d_OL_moved_29 : decode b_OL_moved 29 = .ok (.aload_n 0, 1) := by decide +kernel
theorem d_OL_moved_30 : decode b_OL_moved 30 = .ok (.getfield 38, 3) := by decide +kernel
theorem d_OL_moved_33 : decode b_OL_moved 33 = .ok (.getfield 203, 3) := by decide +kernel
theorem d_OL_moved_36 : decode b_OL_moved 36 = .ok (.ifCond .eq 14, 3) := by decide +kernel
theorem d_OL_moved_39 : decode b_OL_moved 39 = .ok (.aload_n 0, 1) := by decide +kernel
theorem d_OL_moved_40 : decode b_OL_moved 40 = .ok (.getfield 38, 3) := by decide +kernel
theorem d_OL_moved_43 : decode b_OL_moved 43 = .ok (.getfield 193, 3) := by decide +kernel
theorem d_OL_moved_46 : decode b_OL_moved 46 = .ok (.ineg, 1) := by decide +kernel
theorem d_OL_moved_47 : decode b_OL_moved 47 = .ok (.goto 5, 3) := by decide +kernel
theorem d_OL_moved_50 : decode b_OL_moved 50 = .ok (.bipush (-5), 2) := by decide +kernel
theorem d_OL_moved_52 : decode b_OL_moved 52 = .ok (.ireturn, 1) := by decide +kernel
theorem o_OL_moved : OkV y_OL_moved "OwnsLift" b_OL_moved 1 (some .int) 0 := ⟨⟨rfl, by decide +kernel, by decide +kernel, by decide +kernel⟩, g_816, g_817, g_71, g_818⟩
set_option maxHeartbeats 4000000 in
set_option maxRecDepth 100000 in
theorem c_OL_moved (l : Launch) (D : va_G) (g : Nat → ClassId) (a : Nat → Nat) (z : T_OL) (v : Int32 × T_OL) (h : d_OL_moved z = some v) :
    MI l y_OL_moved b_OL_moved 1 .int ({ frames := 132, cells := 0, slots := 0, locals := 3957 } : Room) D g [.ref (a 0)] (ws_OL g a z) (v.1) (ws_OL g a v.2) := by
  have hd := h
  unfold d_OL_moved at hd
  refine enterI rfl (Nat.le_of_ble_eq_true rfl) (fun p e s m below meth c A ls hx hb hml hr hown hg hlk hK hA hP hD hS hCs hl => ?_)
  have hown : s.vm.findClass "OwnsLift" = some m.cls := hown
  have hl : lv_has ls 1 [(0, .ref (a 0))] := hl
  show GI p l e s m ({ frames := 132, cells := 0, slots := 0, locals := 3957 } : Room) ([.ref (a 0)] : List Value).toArray below meth c A D g (ws_OL g a v.2) (v.1) s.heap [] (F0 m 0 ls [])
  refine lv_aload_n hx hb d_OL_moved_0 rfl (lv_at hl 0 rfl) ?_
  refine va_get (D := D) (ci := 0) (v := .ref (a 56)) (C := R_OL) (T := F_OL) (N := 8) hx hb hg i_OL hown hK hP 0 rfl rfl 4 (by decide) (hg _ g_400) (fun _ h9 => h9) rfl d_OL_moved_1 ?_
  refine lv_aload_n hx hb d_OL_moved_4 rfl (lv_at hl 0 rfl) ?_
  refine va_get (D := D) (ci := 0) (v := .ref (a 1)) (C := R_OL) (T := F_OL) (N := 8) hx hb hg i_OL hown hK hP 0 rfl rfl 0 (by decide) (hg _ g_396) (fun _ h9 => h9) rfl d_OL_moved_5 ?_
  obtain ⟨v_1, e_2, hd⟩ := bind_s hd
  refine callVV (ws' := ws_OL g a (u_OL_now (u_OL_standing z v_1.1) v_1.2)) (rest := []) (As := [.ref ((sh a 1) 0)]) hx hb hml hown hg hK hP hD hS hA hCs hl.1 (c_St_take l D g (sh a 56) (sh a 1) (q_OL_standing z) (q_OL_now z) _ e_2) o_St_take g_633 (ci := 9) (q0 := 56) rfl rfl (List.range' 56 10 ++ List.range' 1 24) (segC2 rfl rfl rfl rfl) (by decide) rfl (segP2 rfl rfl rfl) rfl rfl (Nat.le_of_ble_eq_true rfl) ⟨rfl, rfl, Nat.le_of_ble_eq_true rfl, Nat.le_of_ble_eq_true rfl⟩ d_OL_moved_8 (fun H locs hP hD hS => ?_)
  refine lv_aload_n hx hb d_OL_moved_11 rfl (lv_at hl 0 rfl) ?_
  refine va_get (D := D) (ci := 0) (v := .ref (a 66)) (C := R_OL) (T := F_OL) (N := 8) hx hb hg i_OL hown hK hP 0 rfl rfl 5 (by decide) (hg _ g_401) (fun _ h9 => h9) rfl d_OL_moved_12 ?_
  refine lv_aload_n hx hb d_OL_moved_15 rfl (lv_at hl 0 rfl) ?_
  refine va_get (D := D) (ci := 0) (v := .ref (a 56)) (C := R_OL) (T := F_OL) (N := 8) hx hb hg i_OL hown hK hP 0 rfl rfl 4 (by decide) (hg _ g_400) (fun _ h9 => h9) rfl d_OL_moved_16 ?_
  obtain ⟨v_3, e_4, hd⟩ := bind_s hd
  refine callVV (ws' := ws_OL g a (u_OL_shares (u_OL_now (u_OL_standing z v_1.1) v_1.2) v_3)) (rest := []) (As := [.ref ((sh a 56) 0)]) hx hb hml hown hg hK hP hD hS hA hCs hl.1 (c_Sh_byStaying l D g (sh a 66) (sh a 56) (q_OL_shares (u_OL_now (u_OL_standing z v_1.1) v_1.2)) (q_OL_standing (u_OL_now (u_OL_standing z v_1.1) v_1.2)) _ e_4) o_Sh_byStaying g_819 (ci := 8) (q0 := 66) rfl rfl (List.range' 66 14 ++ List.range' 56 10) (segC2 rfl rfl rfl rfl) (by decide) rfl (segP2 rfl rfl rfl) rfl rfl (Nat.le_of_ble_eq_true rfl) ⟨rfl, rfl, Nat.le_of_ble_eq_true rfl, Nat.le_of_ble_eq_true rfl⟩ d_OL_moved_19 (fun H locs hP hD hS => ?_)
  refine lv_aload_n hx hb d_OL_moved_22 rfl (lv_at hl 0 rfl) ?_
  refine va_get (D := D) (ci := 0) (v := .ref (a 66)) (C := R_OL) (T := F_OL) (N := 8) hx hb hg i_OL hown hK hP 0 rfl rfl 5 (by decide) (hg _ g_401) (fun _ h9 => h9) rfl d_OL_moved_23 ?_
  obtain ⟨v_5, e_6, hd⟩ := bind_s hd
  refine callVV (ws' := ws_OL g a (u_OL_shares (u_OL_shares (u_OL_now (u_OL_standing z v_1.1) v_1.2) v_3) v_5)) (rest := []) (As := []) hx hb hml hown hg hK hP hD hS hA hCs hl.1 (c_Sh_solve l D g (sh a 66) (q_OL_shares (u_OL_shares (u_OL_now (u_OL_standing z v_1.1) v_1.2) v_3)) _ e_6) o_Sh_solve g_792 (ci := 8) (q0 := 66) rfl rfl (List.range' 66 14) (segC1 rfl rfl) (by decide) rfl (segP1 rfl rfl) rfl rfl (Nat.le_of_ble_eq_true rfl) ⟨rfl, rfl, Nat.le_of_ble_eq_true rfl, Nat.le_of_ble_eq_true rfl⟩ d_OL_moved_26 (fun H locs hP hD hS => ?_)
  refine lv_aload_n hx hb d_OL_moved_29 rfl (lv_at hl 0 rfl) ?_
  refine va_get (D := D) (ci := 0) (v := .ref (a 66)) (C := R_OL) (T := F_OL) (N := 8) hx hb hg i_OL hown hK hP 0 rfl rfl 5 (by decide) (hg _ g_401) (fun _ h9 => h9) rfl d_OL_moved_30 ?_
  refine va_get (D := D) (ci := 8) (v := .int (q_Sh_found (q_OL_shares (u_OL_shares (u_OL_shares (u_OL_now (u_OL_standing z v_1.1) v_1.2) v_3) v_5)))) (C := R_Sh) (T := F_Sh) (N := 10) hx hb hg i_Sh hown hK hP 66 rfl rfl 0 (by decide) (hg _ g_324) (fun _ h9 => h9) rfl d_OL_moved_33 ?_
  refine lv_if_eq (tgt := 50) hx hb d_OL_moved_36 (by decide) (fun h_7 => ?_) (fun h_7 => ?_)
  · have hd := ite_t hd h_7
    refine lv_bipush (v := (-5)) hx hb d_OL_moved_50 (by decide) ?_
    obtain rfl := Option.some.inj hd
    exact retI hx hb hr hlk hK hP hD hS d_OL_moved_52 rfl
  · have hd := ite_f hd h_7
    refine lv_aload_n hx hb d_OL_moved_39 rfl (lv_at hl 0 rfl) ?_
    refine va_get (D := D) (ci := 0) (v := .ref (a 66)) (C := R_OL) (T := F_OL) (N := 8) hx hb hg i_OL hown hK hP 0 rfl rfl 5 (by decide) (hg _ g_401) (fun _ h9 => h9) rfl d_OL_moved_40 ?_
    refine va_get (D := D) (ci := 8) (v := .int (q_Sh_sum (q_OL_shares (u_OL_shares (u_OL_shares (u_OL_now (u_OL_standing z v_1.1) v_1.2) v_3) v_5)))) (C := R_Sh) (T := F_Sh) (N := 10) hx hb hg i_Sh hown hK hP 66 rfl rfl 1 (by decide) (hg _ g_326) (fun _ h9 => h9) rfl d_OL_moved_43 ?_
    refine lv_ineg hx hb d_OL_moved_46 ?_
    refine lv_goto (tgt := 52) hx hb d_OL_moved_47 (by decide) ?_
    obtain rfl := Option.some.inj hd
    exact retI hx hb hr hlk hK hP hD hS d_OL_moved_52 rfl
-- OwnsLift.gives(II)I
def d_OL_gives (x1 : Int32) (x2 : Int32) (z : T_OL) : Option (Int32 × T_OL) :=
  (d_Pe_has x1 (q_Re_people (q_OL_now z))).bind fun v_1 => if v_1 = 0 then (some ((-1), z)) else ((d_OL_within x2 1).bind fun v_4 => if v_4 = 0 then (some ((-1), z)) else ((d_St_take (q_OL_standing z) (q_OL_now z)).bind fun v_7 => (d_Se_leastGiven x1 (q_OL_standing (u_OL_now (u_OL_standing z v_7.1) v_7.2))).bind fun v_9 => if x2 = 0 then (some (v_9, (u_OL_now (u_OL_standing z v_7.1) v_7.2))) else ((d_St_likeOfSet x1 v_9 (q_OL_standing (u_OL_now (u_OL_standing z v_7.1) v_7.2))).bind fun v_12 => some (v_12, (u_OL_now (u_OL_standing z v_7.1) v_7.2)))))
theorem d_OL_gives_0 : decode b_OL_gives 0 = .ok (.aload_n 0, 1) := by decide +kernel
theorem d_OL_gives_1 : decode b_OL_gives 1 = .ok (.getfield 12, 3) := by decide +kernel
theorem d_OL_gives_4 : decode b_OL_gives 4 = .ok (.getfield 95, 3) := by decide +kernel
theorem d_OL_gives_7 : decode b_OL_gives 7 = .ok (.iload_n 1, 1) := by decide +kernel
theorem d_OL_gives_8 : decode b_OL_gives 8 = .ok (.invokevirtual 108, 3) := by decide +kernel
theorem d_OL_gives_11 : decode b_OL_gives 11 = .ok (.ifCond .eq 11, 3) := by decide +kernel
theorem d_OL_gives_14 : decode b_OL_gives 14 = .ok (.iload_n 2, 1) := by decide +kernel
theorem d_OL_gives_15 : decode b_OL_gives 15 = .ok (.iconst 1, 1) := by decide +kernel
theorem d_OL_gives_16 : decode b_OL_gives 16 = .ok (.invokestatic 91, 3) := by decide +kernel
theorem d_OL_gives_19 : decode b_OL_gives 19 = .ok (.ifCond .ne 5, 3) := by decide +kernel
theorem d_OL_gives_22 : decode b_OL_gives 22 = .ok (.iconst (-1), 1) := by decide +kernel
theorem d_OL_gives_23 : decode b_OL_gives 23 = .ok (.ireturn, 1) := by decide +kernel
theorem d_OL_gives_24 : decode b_OL_gives 24 = .ok (.aload_n 0, 1) := by decide +kernel
theorem d_OL_gives_25 : decode b_OL_gives 25 = .ok (.getfield 31, 3) := by decide +kernel
theorem d_OL_gives_28 : decode b_OL_gives 28 = .ok (.aload_n 0, 1) := by decide +kernel
theorem d_OL_gives_29 : decode b_OL_gives 29 = .ok (.getfield 12, 3) := by decide +kernel
theorem d_OL_gives_32 : decode b_OL_gives 32 = .ok (.invokevirtual 111, 3) := by decide +kernel
theorem d_OL_gives_35 : decode b_OL_gives 35 = .ok (.aload_n 0, 1) := by decide +kernel
theorem d_OL_gives_36 : decode b_OL_gives 36 = .ok (.getfield 31, 3) := by decide +kernel
theorem d_OL_gives_39 : decode b_OL_gives 39 = .ok (.iload_n 1, 1) := by decide +kernel
theorem d_OL_gives_40 : decode b_OL_gives 40 = .ok (.invokestatic 207, 3) := by decide +kernel
theorem d_OL_gives_43 : decode b_OL_gives 43 = .ok (.istore_n 3, 1) := by decide +kernel
theorem d_OL_gives_44 : decode b_OL_gives 44 = .ok (.iload_n 2, 1) := by decide +kernel
theorem d_OL_gives_45 : decode b_OL_gives 45 = .ok (.ifCond .ne 7, 3) := by decide +kernel
theorem d_OL_gives_48 : decode b_OL_gives 48 = .ok (.iload_n 3, 1) := by decide +kernel
theorem d_OL_gives_49 : decode b_OL_gives 49 = .ok (.goto 12, 3) := by decide +kernel
theorem d_OL_gives_52 : decode b_OL_gives 52 = .ok (.aload_n 0, 1) := by decide +kernel
theorem d_OL_gives_53 : decode b_OL_gives 53 = .ok (.getfield 31, 3) := by decide +kernel
theorem d_OL_gives_56 : decode b_OL_gives 56 = .ok (.iload_n 1, 1) := by decide +kernel
theorem d_OL_gives_57 : decode b_OL_gives 57 = .ok (.iload_n 3, 1) := by decide +kernel
theorem d_OL_gives_58 : decode b_OL_gives 58 = .ok (.invokevirtual 213, 3) := by decide +kernel
theorem d_OL_gives_61 : decode b_OL_gives 61 = .ok (.ireturn, 1) := by decide +kernel
theorem o_OL_gives : OkV y_OL_gives "OwnsLift" b_OL_gives 4 (some .int) 2 := ⟨⟨rfl, by decide +kernel, by decide +kernel, by decide +kernel⟩, g_824, g_825, g_71, g_826⟩
set_option maxHeartbeats 4000000 in
set_option maxRecDepth 100000 in
theorem c_OL_gives (l : Launch) (D : va_G) (g : Nat → ClassId) (a : Nat → Nat) (x1 : Int32) (x2 : Int32) (z : T_OL) (v : Int32 × T_OL) (h : d_OL_gives x1 x2 z = some v) :
    MI l y_OL_gives b_OL_gives 4 .int ({ frames := 5, cells := 0, slots := 0, locals := 119 } : Room) D g [.ref (a 0), .int x1, .int x2] (ws_OL g a z) (v.1) (ws_OL g a v.2) := by
  have hd := h
  unfold d_OL_gives at hd
  refine enterI rfl (Nat.le_of_ble_eq_true rfl) (fun p e s m below meth c A ls hx hb hml hr hown hg hlk hK hA hP hD hS hCs hl => ?_)
  have hown : s.vm.findClass "OwnsLift" = some m.cls := hown
  have hl : lv_has ls 4 [(0, .ref (a 0)), (1, .int x1), (2, .int x2)] := hl
  show GI p l e s m ({ frames := 5, cells := 0, slots := 0, locals := 119 } : Room) ([.ref (a 0), .int x1, .int x2] : List Value).toArray below meth c A D g (ws_OL g a v.2) (v.1) s.heap [] (F0 m 0 ls [])
  refine lv_aload_n hx hb d_OL_gives_0 rfl (lv_at hl 0 rfl) ?_
  refine va_get (D := D) (ci := 0) (v := .ref (a 1)) (C := R_OL) (T := F_OL) (N := 8) hx hb hg i_OL hown hK hP 0 rfl rfl 0 (by decide) (hg _ g_396) (fun _ h9 => h9) rfl d_OL_gives_1 ?_
  refine va_get (D := D) (ci := 7) (v := .ref (a 8)) (C := R_Re) (T := F_Re) (N := 11) hx hb hg i_Re hown hK hP 1 rfl rfl 4 (by decide) (hg _ g_212) (fun _ h9 => h9) rfl d_OL_gives_4 ?_
  refine lv_iload_n hx hb d_OL_gives_7 rfl (lv_at hl 1 rfl) ?_
  obtain ⟨v_1, e_2, hd⟩ := bind_s hd
  refine callVI (ws' := ws_OL g a z) (rest := []) (As := [.int x1]) hx hb hml hown hg hK hP hD hS hA hCs hl.1 (c_Pe_has l D g (sh a 8) x1 (q_Re_people (q_OL_now z)) _ e_2) o_Pe_has g_629 (ci := 5) (q0 := 8) rfl rfl (List.range' 8 11) (segC1 rfl rfl) (by decide) rfl (segP1 rfl rfl) rfl rfl (Nat.le_of_ble_eq_true rfl) ⟨rfl, rfl, Nat.le_of_ble_eq_true rfl, Nat.le_of_ble_eq_true rfl⟩ d_OL_gives_8 (fun H locs hP hD hS => ?_)
  refine lv_if_eq (tgt := 22) hx hb d_OL_gives_11 (by decide) (fun h_3 => ?_) (fun h_3 => ?_)
  · have hd := ite_t hd h_3
    refine lv_iconst (v := (-1)) hx hb d_OL_gives_22 (by decide) ?_
    obtain rfl := Option.some.inj hd
    exact retI hx hb hr hlk hK hP hD hS d_OL_gives_23 rfl
  · have hd := ite_f hd h_3
    refine lv_iload_n hx hb d_OL_gives_14 rfl (lv_at hl 2 rfl) ?_
    refine lv_iconst (v := 1) hx hb d_OL_gives_15 (by decide) ?_
    obtain ⟨v_4, e_5, hd⟩ := bind_s hd
    refine callSI (ws' := ws_OL g a z) (rest := []) (As := [.int x2, .int 1]) hx hb hml hown hg hK hP hD hS hA hCs hl.1 (c_OL_within l D g  x2 1 _ e_5) o_OL_within g_618 [] segC0 rfl rfl segP0 rfl rfl (Nat.le_of_ble_eq_true rfl) ⟨rfl, rfl, Nat.le_of_ble_eq_true rfl, Nat.le_of_ble_eq_true rfl⟩ d_OL_gives_16 (fun H locs hP hD hS => ?_)
    refine lv_if_ne (tgt := 24) hx hb d_OL_gives_19 (by decide) (fun h_6 => ?_) (fun h_6 => ?_)
    · have hd := ite_f hd h_6
      refine lv_aload_n hx hb d_OL_gives_24 rfl (lv_at hl 0 rfl) ?_
      refine va_get (D := D) (ci := 0) (v := .ref (a 56)) (C := R_OL) (T := F_OL) (N := 8) hx hb hg i_OL hown hK hP 0 rfl rfl 4 (by decide) (hg _ g_400) (fun _ h9 => h9) rfl d_OL_gives_25 ?_
      refine lv_aload_n hx hb d_OL_gives_28 rfl (lv_at hl 0 rfl) ?_
      refine va_get (D := D) (ci := 0) (v := .ref (a 1)) (C := R_OL) (T := F_OL) (N := 8) hx hb hg i_OL hown hK hP 0 rfl rfl 0 (by decide) (hg _ g_396) (fun _ h9 => h9) rfl d_OL_gives_29 ?_
      obtain ⟨v_7, e_8, hd⟩ := bind_s hd
      refine callVV (ws' := ws_OL g a (u_OL_now (u_OL_standing z v_7.1) v_7.2)) (rest := []) (As := [.ref ((sh a 1) 0)]) hx hb hml hown hg hK hP hD hS hA hCs hl.1 (c_St_take l D g (sh a 56) (sh a 1) (q_OL_standing z) (q_OL_now z) _ e_8) o_St_take g_633 (ci := 9) (q0 := 56) rfl rfl (List.range' 56 10 ++ List.range' 1 24) (segC2 rfl rfl rfl rfl) (by decide) rfl (segP2 rfl rfl rfl) rfl rfl (Nat.le_of_ble_eq_true rfl) ⟨rfl, rfl, Nat.le_of_ble_eq_true rfl, Nat.le_of_ble_eq_true rfl⟩ d_OL_gives_32 (fun H locs hP hD hS => ?_)
      refine lv_aload_n hx hb d_OL_gives_35 rfl (lv_at hl 0 rfl) ?_
      refine va_get (D := D) (ci := 0) (v := .ref (a 56)) (C := R_OL) (T := F_OL) (N := 8) hx hb hg i_OL hown hK hP 0 rfl rfl 4 (by decide) (hg _ g_400) (fun _ h9 => h9) rfl d_OL_gives_36 ?_
      refine lv_iload_n hx hb d_OL_gives_39 rfl (lv_at hl 1 rfl) ?_
      obtain ⟨v_9, e_10, hd⟩ := bind_s hd
      refine callSI (ws' := ws_OL g a (u_OL_now (u_OL_standing z v_7.1) v_7.2)) (rest := []) (As := [.ref ((sh a 56) 0), .int x1]) hx hb hml hown hg hK hP hD hS hA hCs hl.1 (c_Se_leastGiven l D g (sh a 56) x1 (q_OL_standing (u_OL_now (u_OL_standing z v_7.1) v_7.2)) _ e_10) o_Se_leastGiven g_827 (List.range' 56 10) (segC1 rfl rfl) (by decide) rfl (segP1 rfl rfl) rfl rfl (Nat.le_of_ble_eq_true rfl) ⟨rfl, rfl, Nat.le_of_ble_eq_true rfl, Nat.le_of_ble_eq_true rfl⟩ d_OL_gives_40 (fun H locs hP hD hS => ?_)
      refine lv_istore_n (lv' := [(3, .int v_9), (0, .ref (a 0)), (1, .int x1), (2, .int x2)]) hx hb d_OL_gives_43 rfl hl (by decide) rfl (fun ls hl => ?_)
      refine lv_iload_n hx hb d_OL_gives_44 rfl (lv_at hl 3 rfl) ?_
      refine lv_if_ne (tgt := 52) hx hb d_OL_gives_45 (by decide) (fun h_11 => ?_) (fun h_11 => ?_)
      · have hd := ite_f hd h_11
        refine lv_aload_n hx hb d_OL_gives_52 rfl (lv_at hl 1 rfl) ?_
        refine va_get (D := D) (ci := 0) (v := .ref (a 56)) (C := R_OL) (T := F_OL) (N := 8) hx hb hg i_OL hown hK hP 0 rfl rfl 4 (by decide) (hg _ g_400) (fun _ h9 => h9) rfl d_OL_gives_53 ?_
        refine lv_iload_n hx hb d_OL_gives_56 rfl (lv_at hl 2 rfl) ?_
        refine lv_iload_n hx hb d_OL_gives_57 rfl (lv_at hl 0 rfl) ?_
        obtain ⟨v_12, e_13, hd⟩ := bind_s hd
        refine callVI (ws' := ws_OL g a (u_OL_now (u_OL_standing z v_7.1) v_7.2)) (rest := []) (As := [.int x1, .int v_9]) hx hb hml hown hg hK hP hD hS hA hCs hl.1 (c_St_likeOfSet l D g (sh a 56) x1 v_9 (q_OL_standing (u_OL_now (u_OL_standing z v_7.1) v_7.2)) _ e_13) o_St_likeOfSet g_836 (ci := 9) (q0 := 56) rfl rfl (List.range' 56 10) (segC1 rfl rfl) (by decide) rfl (segP1 rfl rfl) rfl rfl (Nat.le_of_ble_eq_true rfl) ⟨rfl, rfl, Nat.le_of_ble_eq_true rfl, Nat.le_of_ble_eq_true rfl⟩ d_OL_gives_58 (fun H locs hP hD hS => ?_)
        obtain rfl := Option.some.inj hd
        exact retI hx hb hr hlk hK hP hD hS d_OL_gives_61 rfl
      · have hd := ite_t hd h_11
        refine lv_iload_n hx hb d_OL_gives_48 rfl (lv_at hl 0 rfl) ?_
        refine lv_goto (tgt := 61) hx hb d_OL_gives_49 (by decide) ?_
        obtain rfl := Option.some.inj hd
        exact retI hx hb hr hlk hK hP hD hS d_OL_gives_61 rfl
    · have hd := ite_t hd h_6
      refine lv_iconst (v := (-1)) hx hb d_OL_gives_22 (by decide) ?_
      obtain rfl := Option.some.inj hd
      exact retI hx hb hr hlk hK hP hD hS d_OL_gives_23 rfl
-- OwnsLift.parts(II)J
def d_OL_parts (x1 : Int32) (x2 : Int32) (z : T_OL) : Option (Int64 × T_OL) :=
  (d_Pe_has x1 (q_Re_people (q_OL_now z))).bind fun v_1 => if v_1 = 0 then (some ((-9223372036854775808), z)) else ((d_OL_within x2 1).bind fun v_4 => if v_4 = 0 then (some ((-9223372036854775808), z)) else ((d_St_take (q_OL_standing z) (q_OL_now z)).bind fun v_7 => (d_St_fillByParts x1 (q_OL_standing (u_OL_now (u_OL_standing z v_7.1) v_7.2)) (q_OL_fraction (u_OL_now (u_OL_standing z v_7.1) v_7.2))).bind fun v_9 => if x2 = 0 then (some ((q_Fr_above (q_OL_fraction (u_OL_fraction (u_OL_now (u_OL_standing z v_7.1) v_7.2) v_9))), (u_OL_fraction (u_OL_now (u_OL_standing z v_7.1) v_7.2) v_9))) else (some ((q_Fr_below (q_OL_fraction (u_OL_fraction (u_OL_now (u_OL_standing z v_7.1) v_7.2) v_9))), (u_OL_fraction (u_OL_now (u_OL_standing z v_7.1) v_7.2) v_9)))))
theorem d_OL_parts_0 : decode b_OL_parts 0 = .ok (.aload_n 0, 1) := by decide +kernel
theorem d_OL_parts_1 : decode b_OL_parts 1 = .ok (.getfield 12, 3) := by decide +kernel
theorem d_OL_parts_4 : decode b_OL_parts 4 = .ok (.getfield 95, 3) := by decide +kernel
theorem d_OL_parts_7 : decode b_OL_parts 7 = .ok (.iload_n 1, 1) := by decide +kernel
theorem d_OL_parts_8 : decode b_OL_parts 8 = .ok (.invokevirtual 108, 3) := by decide +kernel
theorem d_OL_parts_11 : decode b_OL_parts 11 = .ok (.ifCond .eq 11, 3) := by decide +kernel
theorem d_OL_parts_14 : decode b_OL_parts 14 = .ok (.iload_n 2, 1) := by decide +kernel
theorem d_OL_parts_15 : decode b_OL_parts 15 = .ok (.iconst 1, 1) := by decide +kernel
theorem d_OL_parts_16 : decode b_OL_parts 16 = .ok (.invokestatic 91, 3) := by decide +kernel
theorem d_OL_parts_19 : decode b_OL_parts 19 = .ok (.ifCond .ne 7, 3) := by decide +kernel
theorem d_OL_parts_22 : decode b_OL_parts 22 = .ok (.ldc2_w 216, 3) := by decide +kernel
theorem d_OL_parts_25 : decode b_OL_parts 25 = .ok (.lreturn, 1) := by decide +kernel
theorem d_OL_parts_26 : decode b_OL_parts 26 = .ok (.aload_n 0, 1) := by decide +kernel
theorem d_OL_parts_27 : decode b_OL_parts 27 = .ok (.getfield 31, 3) := by decide +kernel
theorem d_OL_parts_30 : decode b_OL_parts 30 = .ok (.aload_n 0, 1) := by decide +kernel
theorem d_OL_parts_31 : decode b_OL_parts 31 = .ok (.getfield 12, 3) := by decide +kernel
theorem d_OL_parts_34 : decode b_OL_parts 34 = .ok (.invokevirtual 111, 3) := by decide +kernel
theorem d_OL_parts_37 : decode b_OL_parts 37 = .ok (.aload_n 0, 1) := by decide +kernel
theorem d_OL_parts_38 : decode b_OL_parts 38 = .ok (.getfield 31, 3) := by decide +kernel
theorem d_OL_parts_41 : decode b_OL_parts 41 = .ok (.iload_n 1, 1) := by decide +kernel
theorem d_OL_parts_42 : decode b_OL_parts 42 = .ok (.aload_n 0, 1) := by decide +kernel
theorem d_OL_parts_43 : decode b_OL_parts 43 = .ok (.getfield 45, 3) := by decide +kernel
theorem d_OL_parts_46 : decode b_OL_parts 46 = .ok (.invokevirtual 218, 3) := by decide +kernel
theorem d_OL_parts_49 : decode b_OL_parts 49 = .ok (.iload_n 2, 1) := by decide +kernel
theorem d_OL_parts_50 : decode b_OL_parts 50 = .ok (.ifCond .ne 13, 3) := by decide +kernel
theorem d_OL_parts_53 : decode b_OL_parts 53 = .ok (.aload_n 0, 1) := by decide +kernel
theorem d_OL_parts_54 : decode b_OL_parts 54 = .ok (.getfield 45, 3) := by decide +kernel
theorem d_OL_parts_57 : decode b_OL_parts 57 = .ok (.getfield 222, 3) := by decide +kernel
theorem d_OL_parts_60 : decode b_OL_parts 60 = .ok (.goto 10, 3) := by decide +kernel
theorem d_OL_parts_63 : decode b_OL_parts 63 = .ok (.aload_n 0, 1) := by decide +kernel
theorem d_OL_parts_64 : decode b_OL_parts 64 = .ok (.getfield 45, 3) := by decide +kernel
theorem d_OL_parts_67 : decode b_OL_parts 67 = .ok (.getfield 226, 3) := by decide +kernel
theorem d_OL_parts_70 : decode b_OL_parts 70 = .ok (.lreturn, 1) := by decide +kernel
theorem o_OL_parts : OkV y_OL_parts "OwnsLift" b_OL_parts 3 (some .long) 2 := ⟨⟨rfl, by decide +kernel, by decide +kernel, by decide +kernel⟩, g_838, g_839, g_71, g_840⟩
set_option maxHeartbeats 4000000 in
set_option maxRecDepth 100000 in
theorem c_OL_parts (l : Launch) (D : va_G) (g : Nat → ClassId) (a : Nat → Nat) (x1 : Int32) (x2 : Int32) (z : T_OL) (v : Int64 × T_OL) (h : d_OL_parts x1 x2 z = some v) :
    ML l y_OL_parts b_OL_parts 3 ({ frames := 5, cells := 0, slots := 0, locals := 119 } : Room) D g [.ref (a 0), .int x1, .int x2] (ws_OL g a z) (v.1) (ws_OL g a v.2) := by
  have hd := h
  unfold d_OL_parts at hd
  refine enterL rfl (Nat.le_of_ble_eq_true rfl) (fun p e s m below meth c A ls hx hb hml hr hown hg hlk hK hA hP hD hS hCs hl => ?_)
  have hown : s.vm.findClass "OwnsLift" = some m.cls := hown
  have hl : lv_has ls 3 [(0, .ref (a 0)), (1, .int x1), (2, .int x2)] := hl
  show GL p l e s m ({ frames := 5, cells := 0, slots := 0, locals := 119 } : Room) ([.ref (a 0), .int x1, .int x2] : List Value).toArray below meth c A D g (ws_OL g a v.2) (v.1) s.heap [] (F0 m 0 ls [])
  refine lv_aload_n hx hb d_OL_parts_0 rfl (lv_at hl 0 rfl) ?_
  refine va_get (D := D) (ci := 0) (v := .ref (a 1)) (C := R_OL) (T := F_OL) (N := 8) hx hb hg i_OL hown hK hP 0 rfl rfl 0 (by decide) (hg _ g_396) (fun _ h9 => h9) rfl d_OL_parts_1 ?_
  refine va_get (D := D) (ci := 7) (v := .ref (a 8)) (C := R_Re) (T := F_Re) (N := 11) hx hb hg i_Re hown hK hP 1 rfl rfl 4 (by decide) (hg _ g_212) (fun _ h9 => h9) rfl d_OL_parts_4 ?_
  refine lv_iload_n hx hb d_OL_parts_7 rfl (lv_at hl 1 rfl) ?_
  obtain ⟨v_1, e_2, hd⟩ := bind_s hd
  refine callVI (ws' := ws_OL g a z) (rest := []) (As := [.int x1]) hx hb hml hown hg hK hP hD hS hA hCs hl.1 (c_Pe_has l D g (sh a 8) x1 (q_Re_people (q_OL_now z)) _ e_2) o_Pe_has g_629 (ci := 5) (q0 := 8) rfl rfl (List.range' 8 11) (segC1 rfl rfl) (by decide) rfl (segP1 rfl rfl) rfl rfl (Nat.le_of_ble_eq_true rfl) ⟨rfl, rfl, Nat.le_of_ble_eq_true rfl, Nat.le_of_ble_eq_true rfl⟩ d_OL_parts_8 (fun H locs hP hD hS => ?_)
  refine lv_if_eq (tgt := 22) hx hb d_OL_parts_11 (by decide) (fun h_3 => ?_) (fun h_3 => ?_)
  · have hd := ite_t hd h_3
    refine lv_ldc2 (v := (-9223372036854775808)) hx hb hown (hg _ g_841) d_OL_parts_22 ?_
    obtain rfl := Option.some.inj hd
    exact retL hx hb hr hlk hK hP hD hS d_OL_parts_25 rfl
  · have hd := ite_f hd h_3
    refine lv_iload_n hx hb d_OL_parts_14 rfl (lv_at hl 2 rfl) ?_
    refine lv_iconst (v := 1) hx hb d_OL_parts_15 (by decide) ?_
    obtain ⟨v_4, e_5, hd⟩ := bind_s hd
    refine callSI (ws' := ws_OL g a z) (rest := []) (As := [.int x2, .int 1]) hx hb hml hown hg hK hP hD hS hA hCs hl.1 (c_OL_within l D g  x2 1 _ e_5) o_OL_within g_618 [] segC0 rfl rfl segP0 rfl rfl (Nat.le_of_ble_eq_true rfl) ⟨rfl, rfl, Nat.le_of_ble_eq_true rfl, Nat.le_of_ble_eq_true rfl⟩ d_OL_parts_16 (fun H locs hP hD hS => ?_)
    refine lv_if_ne (tgt := 26) hx hb d_OL_parts_19 (by decide) (fun h_6 => ?_) (fun h_6 => ?_)
    · have hd := ite_f hd h_6
      refine lv_aload_n hx hb d_OL_parts_26 rfl (lv_at hl 0 rfl) ?_
      refine va_get (D := D) (ci := 0) (v := .ref (a 56)) (C := R_OL) (T := F_OL) (N := 8) hx hb hg i_OL hown hK hP 0 rfl rfl 4 (by decide) (hg _ g_400) (fun _ h9 => h9) rfl d_OL_parts_27 ?_
      refine lv_aload_n hx hb d_OL_parts_30 rfl (lv_at hl 0 rfl) ?_
      refine va_get (D := D) (ci := 0) (v := .ref (a 1)) (C := R_OL) (T := F_OL) (N := 8) hx hb hg i_OL hown hK hP 0 rfl rfl 0 (by decide) (hg _ g_396) (fun _ h9 => h9) rfl d_OL_parts_31 ?_
      obtain ⟨v_7, e_8, hd⟩ := bind_s hd
      refine callVV (ws' := ws_OL g a (u_OL_now (u_OL_standing z v_7.1) v_7.2)) (rest := []) (As := [.ref ((sh a 1) 0)]) hx hb hml hown hg hK hP hD hS hA hCs hl.1 (c_St_take l D g (sh a 56) (sh a 1) (q_OL_standing z) (q_OL_now z) _ e_8) o_St_take g_633 (ci := 9) (q0 := 56) rfl rfl (List.range' 56 10 ++ List.range' 1 24) (segC2 rfl rfl rfl rfl) (by decide) rfl (segP2 rfl rfl rfl) rfl rfl (Nat.le_of_ble_eq_true rfl) ⟨rfl, rfl, Nat.le_of_ble_eq_true rfl, Nat.le_of_ble_eq_true rfl⟩ d_OL_parts_34 (fun H locs hP hD hS => ?_)
      refine lv_aload_n hx hb d_OL_parts_37 rfl (lv_at hl 0 rfl) ?_
      refine va_get (D := D) (ci := 0) (v := .ref (a 56)) (C := R_OL) (T := F_OL) (N := 8) hx hb hg i_OL hown hK hP 0 rfl rfl 4 (by decide) (hg _ g_400) (fun _ h9 => h9) rfl d_OL_parts_38 ?_
      refine lv_iload_n hx hb d_OL_parts_41 rfl (lv_at hl 1 rfl) ?_
      refine lv_aload_n hx hb d_OL_parts_42 rfl (lv_at hl 0 rfl) ?_
      refine va_get (D := D) (ci := 0) (v := .ref (a 80)) (C := R_OL) (T := F_OL) (N := 8) hx hb hg i_OL hown hK hP 0 rfl rfl 6 (by decide) (hg _ g_402) (fun _ h9 => h9) rfl d_OL_parts_43 ?_
      obtain ⟨v_9, e_10, hd⟩ := bind_s hd
      refine callVV (ws' := ws_OL g a (u_OL_fraction (u_OL_now (u_OL_standing z v_7.1) v_7.2) v_9)) (rest := []) (As := [.int x1, .ref ((sh a 80) 0)]) hx hb hml hown hg hK hP hD hS hA hCs hl.1 (c_St_fillByParts l D g (sh a 56) (sh a 80) x1 (q_OL_standing (u_OL_now (u_OL_standing z v_7.1) v_7.2)) (q_OL_fraction (u_OL_now (u_OL_standing z v_7.1) v_7.2)) _ e_10) o_St_fillByParts g_842 (ci := 9) (q0 := 56) rfl rfl (List.range' 56 10 ++ List.range' 80 1) (segC2 rfl rfl rfl rfl) (by decide) rfl (segP2 rfl rfl rfl) rfl rfl (Nat.le_of_ble_eq_true rfl) ⟨rfl, rfl, Nat.le_of_ble_eq_true rfl, Nat.le_of_ble_eq_true rfl⟩ d_OL_parts_46 (fun H locs hP hD hS => ?_)
      refine lv_iload_n hx hb d_OL_parts_49 rfl (lv_at hl 2 rfl) ?_
      refine lv_if_ne (tgt := 63) hx hb d_OL_parts_50 (by decide) (fun h_11 => ?_) (fun h_11 => ?_)
      · have hd := ite_f hd h_11
        refine lv_aload_n hx hb d_OL_parts_63 rfl (lv_at hl 0 rfl) ?_
        refine va_get (D := D) (ci := 0) (v := .ref (a 80)) (C := R_OL) (T := F_OL) (N := 8) hx hb hg i_OL hown hK hP 0 rfl rfl 6 (by decide) (hg _ g_402) (fun _ h9 => h9) rfl d_OL_parts_64 ?_
        refine va_get (D := D) (ci := 3) (v := .long (q_Fr_below (q_OL_fraction (u_OL_fraction (u_OL_now (u_OL_standing z v_7.1) v_7.2) v_9)))) (C := R_Fr) (T := F_Fr) (N := 2) hx hb hg i_Fr hown hK hP 80 rfl rfl 1 (by decide) (hg _ g_366) (fun _ h9 => h9) rfl d_OL_parts_67 ?_
        obtain rfl := Option.some.inj hd
        exact retL hx hb hr hlk hK hP hD hS d_OL_parts_70 rfl
      · have hd := ite_t hd h_11
        refine lv_aload_n hx hb d_OL_parts_53 rfl (lv_at hl 0 rfl) ?_
        refine va_get (D := D) (ci := 0) (v := .ref (a 80)) (C := R_OL) (T := F_OL) (N := 8) hx hb hg i_OL hown hK hP 0 rfl rfl 6 (by decide) (hg _ g_402) (fun _ h9 => h9) rfl d_OL_parts_54 ?_
        refine va_get (D := D) (ci := 3) (v := .long (q_Fr_above (q_OL_fraction (u_OL_fraction (u_OL_now (u_OL_standing z v_7.1) v_7.2) v_9)))) (C := R_Fr) (T := F_Fr) (N := 2) hx hb hg i_Fr hown hK hP 80 rfl rfl 0 (by decide) (hg _ g_364) (fun _ h9 => h9) rfl d_OL_parts_57 ?_
        refine lv_goto (tgt := 70) hx hb d_OL_parts_60 (by decide) ?_
        obtain rfl := Option.some.inj hd
        exact retL hx hb hr hlk hK hP hD hS d_OL_parts_70 rfl
    · have hd := ite_t hd h_6
      refine lv_ldc2 (v := (-9223372036854775808)) hx hb hown (hg _ g_841) d_OL_parts_22 ?_
      obtain rfl := Option.some.inj hd
      exact retL hx hb hr hlk hK hP hD hS d_OL_parts_25 rfl
-- OwnsLift.swap(I)I
def d_OL_swap (x1 : Int32) (z : T_OL) : Option (Int32 × T_OL) :=
  (d_OL_within x1 1).bind fun v_1 => if v_1 = 0 then (some ((-1), z)) else ((d_St_take (q_OL_standing z) (q_OL_now z)).bind fun v_4 => if x1 = 0 then ((d_Sw_number (q_OL_standing (u_OL_now (u_OL_standing z v_4.1) v_4.2))).bind fun v_9 => some (v_9, (u_OL_now (u_OL_standing z v_4.1) v_4.2))) else ((d_Sw_first (q_OL_standing (u_OL_now (u_OL_standing z v_4.1) v_4.2))).bind fun v_7 => some (v_7, (u_OL_now (u_OL_standing z v_4.1) v_4.2))))
theorem d_OL_swap_0 : decode b_OL_swap 0 = .ok (.iload_n 1, 1) := by decide +kernel
theorem d_OL_swap_1 : decode b_OL_swap 1 = .ok (.iconst 1, 1) := by decide +kernel
theorem d_OL_swap_2 : decode b_OL_swap 2 = .ok (.invokestatic 91, 3) := by decide +kernel
theorem d_OL_swap_5 : decode b_OL_swap 5 = .ok (.ifCond .ne 5, 3) := by decide +kernel
theorem d_OL_swap_8 : decode b_OL_swap 8 = .ok (.iconst (-1), 1) := by decide +kernel
theorem d_OL_swap_9 : decode b_OL_swap 9 = .ok (.ireturn, 1) := by decide +kernel
theorem d_OL_swap_10 : decode b_OL_swap 10 = .ok (.aload_n 0, 1) := by decide +kernel
theorem d_OL_swap_11 : decode b_OL_swap 11 = .ok (.getfield 31, 3) := by decide +kernel
theorem d_OL_swap_14 : decode b_OL_swap 14 = .ok (.aload_n 0, 1) := by decide +kernel
theorem d_OL_swap_15 : decode b_OL_swap 15 = .ok (.getfield 12, 3) := by decide +kernel
theorem d_OL_swap_18 : decode b_OL_swap 18 = .ok (.invokevirtual 111, 3) := by decide +kernel
theorem d_OL_swap_21 : decode b_OL_swap 21 = .ok (.iload_n 1, 1) := by decide +kernel
theorem d_OL_swap_22 : decode b_OL_swap 22 = .ok (.ifCond .ne 13, 3) := by decide +kernel
theorem d_OL_swap_25 : decode b_OL_swap 25 = .ok (.aload_n 0, 1) := by decide +kernel
theorem d_OL_swap_26 : decode b_OL_swap 26 = .ok (.getfield 31, 3) := by decide +kernel
theorem d_OL_swap_29 : decode b_OL_swap 29 = .ok (.invokestatic 229, 3) := by decide +kernel
theorem d_OL_swap_32 : decode b_OL_swap 32 = .ok (.goto 10, 3) := by decide +kernel
theorem d_OL_swap_35 : decode b_OL_swap 35 = .ok (.aload_n 0, 1) := by decide +kernel
theorem d_OL_swap_36 : decode b_OL_swap 36 = .ok (.getfield 31, 3) := by decide +kernel
theorem d_OL_swap_39 : decode b_OL_swap 39 = .ok (.invokestatic 235, 3) := by decide +kernel
theorem d_OL_swap_42 : decode b_OL_swap 42 = .ok (.ireturn, 1) := by decide +kernel
theorem o_OL_swap : OkV y_OL_swap "OwnsLift" b_OL_swap 2 (some .int) 1 := ⟨⟨rfl, by decide +kernel, by decide +kernel, by decide +kernel⟩, g_858, g_859, g_71, g_860⟩
set_option maxHeartbeats 4000000 in
set_option maxRecDepth 100000 in
theorem c_OL_swap (l : Launch) (D : va_G) (g : Nat → ClassId) (a : Nat → Nat) (x1 : Int32) (z : T_OL) (v : Int32 × T_OL) (h : d_OL_swap x1 z = some v) :
    MI l y_OL_swap b_OL_swap 2 .int ({ frames := 5, cells := 0, slots := 0, locals := 119 } : Room) D g [.ref (a 0), .int x1] (ws_OL g a z) (v.1) (ws_OL g a v.2) := by
  have hd := h
  unfold d_OL_swap at hd
  refine enterI rfl (Nat.le_of_ble_eq_true rfl) (fun p e s m below meth c A ls hx hb hml hr hown hg hlk hK hA hP hD hS hCs hl => ?_)
  have hown : s.vm.findClass "OwnsLift" = some m.cls := hown
  have hl : lv_has ls 2 [(0, .ref (a 0)), (1, .int x1)] := hl
  show GI p l e s m ({ frames := 5, cells := 0, slots := 0, locals := 119 } : Room) ([.ref (a 0), .int x1] : List Value).toArray below meth c A D g (ws_OL g a v.2) (v.1) s.heap [] (F0 m 0 ls [])
  refine lv_iload_n hx hb d_OL_swap_0 rfl (lv_at hl 1 rfl) ?_
  refine lv_iconst (v := 1) hx hb d_OL_swap_1 (by decide) ?_
  obtain ⟨v_1, e_2, hd⟩ := bind_s hd
  refine callSI (ws' := ws_OL g a z) (rest := []) (As := [.int x1, .int 1]) hx hb hml hown hg hK hP hD hS hA hCs hl.1 (c_OL_within l D g  x1 1 _ e_2) o_OL_within g_618 [] segC0 rfl rfl segP0 rfl rfl (Nat.le_of_ble_eq_true rfl) ⟨rfl, rfl, Nat.le_of_ble_eq_true rfl, Nat.le_of_ble_eq_true rfl⟩ d_OL_swap_2 (fun H locs hP hD hS => ?_)
  refine lv_if_ne (tgt := 10) hx hb d_OL_swap_5 (by decide) (fun h_3 => ?_) (fun h_3 => ?_)
  · have hd := ite_f hd h_3
    refine lv_aload_n hx hb d_OL_swap_10 rfl (lv_at hl 0 rfl) ?_
    refine va_get (D := D) (ci := 0) (v := .ref (a 56)) (C := R_OL) (T := F_OL) (N := 8) hx hb hg i_OL hown hK hP 0 rfl rfl 4 (by decide) (hg _ g_400) (fun _ h9 => h9) rfl d_OL_swap_11 ?_
    refine lv_aload_n hx hb d_OL_swap_14 rfl (lv_at hl 0 rfl) ?_
    refine va_get (D := D) (ci := 0) (v := .ref (a 1)) (C := R_OL) (T := F_OL) (N := 8) hx hb hg i_OL hown hK hP 0 rfl rfl 0 (by decide) (hg _ g_396) (fun _ h9 => h9) rfl d_OL_swap_15 ?_
    obtain ⟨v_4, e_5, hd⟩ := bind_s hd
    refine callVV (ws' := ws_OL g a (u_OL_now (u_OL_standing z v_4.1) v_4.2)) (rest := []) (As := [.ref ((sh a 1) 0)]) hx hb hml hown hg hK hP hD hS hA hCs hl.1 (c_St_take l D g (sh a 56) (sh a 1) (q_OL_standing z) (q_OL_now z) _ e_5) o_St_take g_633 (ci := 9) (q0 := 56) rfl rfl (List.range' 56 10 ++ List.range' 1 24) (segC2 rfl rfl rfl rfl) (by decide) rfl (segP2 rfl rfl rfl) rfl rfl (Nat.le_of_ble_eq_true rfl) ⟨rfl, rfl, Nat.le_of_ble_eq_true rfl, Nat.le_of_ble_eq_true rfl⟩ d_OL_swap_18 (fun H locs hP hD hS => ?_)
    refine lv_iload_n hx hb d_OL_swap_21 rfl (lv_at hl 1 rfl) ?_
    refine lv_if_ne (tgt := 35) hx hb d_OL_swap_22 (by decide) (fun h_6 => ?_) (fun h_6 => ?_)
    · have hd := ite_f hd h_6
      refine lv_aload_n hx hb d_OL_swap_35 rfl (lv_at hl 0 rfl) ?_
      refine va_get (D := D) (ci := 0) (v := .ref (a 56)) (C := R_OL) (T := F_OL) (N := 8) hx hb hg i_OL hown hK hP 0 rfl rfl 4 (by decide) (hg _ g_400) (fun _ h9 => h9) rfl d_OL_swap_36 ?_
      obtain ⟨v_7, e_8, hd⟩ := bind_s hd
      refine callSI (ws' := ws_OL g a (u_OL_now (u_OL_standing z v_4.1) v_4.2)) (rest := []) (As := [.ref ((sh a 56) 0)]) hx hb hml hown hg hK hP hD hS hA hCs hl.1 (c_Sw_first l D g (sh a 56) (q_OL_standing (u_OL_now (u_OL_standing z v_4.1) v_4.2)) _ e_8) o_Sw_first g_871 (List.range' 56 10) (segC1 rfl rfl) (by decide) rfl (segP1 rfl rfl) rfl rfl (Nat.le_of_ble_eq_true rfl) ⟨rfl, rfl, Nat.le_of_ble_eq_true rfl, Nat.le_of_ble_eq_true rfl⟩ d_OL_swap_39 (fun H locs hP hD hS => ?_)
      obtain rfl := Option.some.inj hd
      exact retI hx hb hr hlk hK hP hD hS d_OL_swap_42 rfl
    · have hd := ite_t hd h_6
      refine lv_aload_n hx hb d_OL_swap_25 rfl (lv_at hl 0 rfl) ?_
      refine va_get (D := D) (ci := 0) (v := .ref (a 56)) (C := R_OL) (T := F_OL) (N := 8) hx hb hg i_OL hown hK hP 0 rfl rfl 4 (by decide) (hg _ g_400) (fun _ h9 => h9) rfl d_OL_swap_26 ?_
      obtain ⟨v_9, e_10, hd⟩ := bind_s hd
      refine callSI (ws' := ws_OL g a (u_OL_now (u_OL_standing z v_4.1) v_4.2)) (rest := []) (As := [.ref ((sh a 56) 0)]) hx hb hml hown hg hK hP hD hS hA hCs hl.1 (c_Sw_number l D g (sh a 56) (q_OL_standing (u_OL_now (u_OL_standing z v_4.1) v_4.2)) _ e_10) o_Sw_number g_861 (List.range' 56 10) (segC1 rfl rfl) (by decide) rfl (segP1 rfl rfl) rfl rfl (Nat.le_of_ble_eq_true rfl) ⟨rfl, rfl, Nat.le_of_ble_eq_true rfl, Nat.le_of_ble_eq_true rfl⟩ d_OL_swap_29 (fun H locs hP hD hS => ?_)
      refine lv_goto (tgt := 42) hx hb d_OL_swap_32 (by decide) ?_
      obtain rfl := Option.some.inj hd
      exact retI hx hb hr hlk hK hP hD hS d_OL_swap_42 rfl
  · have hd := ite_t hd h_3
    refine lv_iconst (v := (-1)) hx hb d_OL_swap_8 (by decide) ?_
    obtain rfl := Option.some.inj hd
    exact retI hx hb hr hlk hK hP hD hS d_OL_swap_9 rfl
-- OwnsLift.rest()I
def d_OL_rest (z : T_OL) : Option (Int32 × T_OL) :=
  (d_St_take (q_OL_standing z) (q_OL_now z)).bind fun v_1 => (d_Sw_untilNone (q_OL_standing (u_OL_now (u_OL_standing z v_1.1) v_1.2))).bind fun v_3 => some (v_3.1, (u_OL_standing (u_OL_now (u_OL_standing z v_1.1) v_1.2) v_3.2))
theorem d_OL_rest_0 : decode b_OL_rest 0 = .ok (.aload_n 0, 1) := by decide +kernel
theorem d_OL_rest_1 : decode b_OL_rest 1 = .ok (.getfield 31, 3) := by decide +kernel
theorem d_OL_rest_4 : decode b_OL_rest 4 = .ok (.aload_n 0, 1) := by decide +kernel
theorem d_OL_rest_5 : decode b_OL_rest 5 = .ok (.getfield 12, 3) := by decide +kernel
theorem d_OL_rest_8 : decode b_OL_rest 8 = .ok (.invokevirtual 111, 3) := by decide +kernel
theorem d_OL_rest_11 : decode b_OL_rest 11 = .ok (.aload_n 0, 1) := by decide +kernel
theorem d_OL_rest_12 : decode b_OL_rest 12 = .ok (.getfield 31, 3) := by decide +kernel
theorem d_OL_rest_15 : decode b_OL_rest 15 = .ok (.invokestatic 238, 3) := by decide +kernel
theorem d_OL_rest_18 : decode b_OL_rest 18 = .ok (.ireturn, 1) := by decide +kernel
theorem o_OL_rest : OkV y_OL_rest "OwnsLift" b_OL_rest 1 (some .int) 0 := ⟨⟨rfl, by decide +kernel, by decide +kernel, by decide +kernel⟩, g_875, g_876, g_71, g_877⟩
set_option maxHeartbeats 4000000 in
set_option maxRecDepth 100000 in
theorem c_OL_rest (l : Launch) (D : va_G) (g : Nat → ClassId) (a : Nat → Nat) (z : T_OL) (v : Int32 × T_OL) (h : d_OL_rest z = some v) :
    MI l y_OL_rest b_OL_rest 1 .int ({ frames := 6, cells := 0, slots := 0, locals := 138 } : Room) D g [.ref (a 0)] (ws_OL g a z) (v.1) (ws_OL g a v.2) := by
  have hd := h
  unfold d_OL_rest at hd
  refine enterI rfl (Nat.le_of_ble_eq_true rfl) (fun p e s m below meth c A ls hx hb hml hr hown hg hlk hK hA hP hD hS hCs hl => ?_)
  have hown : s.vm.findClass "OwnsLift" = some m.cls := hown
  have hl : lv_has ls 1 [(0, .ref (a 0))] := hl
  show GI p l e s m ({ frames := 6, cells := 0, slots := 0, locals := 138 } : Room) ([.ref (a 0)] : List Value).toArray below meth c A D g (ws_OL g a v.2) (v.1) s.heap [] (F0 m 0 ls [])
  refine lv_aload_n hx hb d_OL_rest_0 rfl (lv_at hl 0 rfl) ?_
  refine va_get (D := D) (ci := 0) (v := .ref (a 56)) (C := R_OL) (T := F_OL) (N := 8) hx hb hg i_OL hown hK hP 0 rfl rfl 4 (by decide) (hg _ g_400) (fun _ h9 => h9) rfl d_OL_rest_1 ?_
  refine lv_aload_n hx hb d_OL_rest_4 rfl (lv_at hl 0 rfl) ?_
  refine va_get (D := D) (ci := 0) (v := .ref (a 1)) (C := R_OL) (T := F_OL) (N := 8) hx hb hg i_OL hown hK hP 0 rfl rfl 0 (by decide) (hg _ g_396) (fun _ h9 => h9) rfl d_OL_rest_5 ?_
  obtain ⟨v_1, e_2, hd⟩ := bind_s hd
  refine callVV (ws' := ws_OL g a (u_OL_now (u_OL_standing z v_1.1) v_1.2)) (rest := []) (As := [.ref ((sh a 1) 0)]) hx hb hml hown hg hK hP hD hS hA hCs hl.1 (c_St_take l D g (sh a 56) (sh a 1) (q_OL_standing z) (q_OL_now z) _ e_2) o_St_take g_633 (ci := 9) (q0 := 56) rfl rfl (List.range' 56 10 ++ List.range' 1 24) (segC2 rfl rfl rfl rfl) (by decide) rfl (segP2 rfl rfl rfl) rfl rfl (Nat.le_of_ble_eq_true rfl) ⟨rfl, rfl, Nat.le_of_ble_eq_true rfl, Nat.le_of_ble_eq_true rfl⟩ d_OL_rest_8 (fun H locs hP hD hS => ?_)
  refine lv_aload_n hx hb d_OL_rest_11 rfl (lv_at hl 0 rfl) ?_
  refine va_get (D := D) (ci := 0) (v := .ref (a 56)) (C := R_OL) (T := F_OL) (N := 8) hx hb hg i_OL hown hK hP 0 rfl rfl 4 (by decide) (hg _ g_400) (fun _ h9 => h9) rfl d_OL_rest_12 ?_
  obtain ⟨v_3, e_4, hd⟩ := bind_s hd
  refine callSI (ws' := ws_OL g a (u_OL_standing (u_OL_now (u_OL_standing z v_1.1) v_1.2) v_3.2)) (rest := []) (As := [.ref ((sh a 56) 0)]) hx hb hml hown hg hK hP hD hS hA hCs hl.1 (c_Sw_untilNone l D g (sh a 56) (q_OL_standing (u_OL_now (u_OL_standing z v_1.1) v_1.2)) _ e_4) o_Sw_untilNone g_878 (List.range' 56 10) (segC1 rfl rfl) (by decide) rfl (segP1 rfl rfl) rfl rfl (Nat.le_of_ble_eq_true rfl) ⟨rfl, rfl, Nat.le_of_ble_eq_true rfl, Nat.le_of_ble_eq_true rfl⟩ d_OL_rest_15 (fun H locs hP hD hS => ?_)
  obtain rfl := Option.some.inj hd
  exact retI hx hb hr hlk hK hP hD hS d_OL_rest_18 rfl
-- OwnsLift.fair(III)I
def d_OL_fair (x1 : Int32) (x2 : Int32) (x3 : Int32) (z : T_OL) : Option (Int32 × T_OL) :=
  (d_Pe_has x1 (q_Re_people (q_OL_now z))).bind fun v_1 => if v_1 = 0 then (some ((-1), z)) else ((d_Pe_has x2 (q_Re_people (q_OL_now z))).bind fun v_4 => if v_4 = 0 then (some ((-1), z)) else ((d_OL_within x3 1).bind fun v_7 => if v_7 = 0 then (some ((-1), z)) else (if x1 = x2 then (some ((-2), z)) else ((d_St_take (q_OL_standing z) (q_OL_now z)).bind fun v_11 => if x3 = 0 then ((d_Se_fairNumber x1 x2 (q_OL_standing (u_OL_now (u_OL_standing z v_11.1) v_11.2))).bind fun v_16 => some (v_16, (u_OL_now (u_OL_standing z v_11.1) v_11.2))) else ((d_Se_fairLeast x1 x2 (q_OL_standing (u_OL_now (u_OL_standing z v_11.1) v_11.2))).bind fun v_14 => some (v_14, (u_OL_now (u_OL_standing z v_11.1) v_11.2)))))))
theorem d_OL_fair_0 : decode b_OL_fair 0 = .ok (.aload_n 0, 1) := by decide +kernel
theorem d_OL_fair_1 : decode b_OL_fair 1 = .ok (.getfield 12, 3) := by decide +kernel
theorem d_OL_fair_4 : decode b_OL_fair 4 = .ok (.getfield 95, 3) := by decide +kernel
theorem d_OL_fair_7 : decode b_OL_fair 7 = .ok (.iload_n 1, 1) := by decide +kernel
theorem d_OL_fair_8 : decode b_OL_fair 8 = .ok (.invokevirtual 108, 3) := by decide +kernel
theorem d_OL_fair_11 : decode b_OL_fair 11 = .ok (.ifCond .eq 25, 3) := by decide +kernel
theorem d_OL_fair_14 : decode b_OL_fair 14 = .ok (.aload_n 0, 1) := by decide +kernel
theorem d_OL_fair_15 : decode b_OL_fair 15 = .ok (.getfield 12, 3) := by decide +kernel
theorem d_OL_fair_18 : decode b_OL_fair 18 = .ok (.getfield 95, 3) := by decide +kernel
theorem d_OL_fair_21 : decode b_OL_fair 21 = .ok (.iload_n 2, 1) := by decide +kernel
theorem d_OL_fair_22 : decode b_OL_fair 22 = .ok (.invokevirtual 108, 3) := by decide +kernel
theorem d_OL_fair_25 : decode b_OL_fair 25 = .ok (.ifCond .eq 11, 3) := by decide +kernel
theorem d_OL_fair_28 : decode b_OL_fair 28 = .ok (.iload_n 3, 1) := by decide +kernel
theorem d_OL_fair_29 : decode b_OL_fair 29 = .ok (.iconst 1, 1) := by decide +kernel
theorem d_OL_fair_30 : decode b_OL_fair 30 = .ok (.invokestatic 91, 3) := by decide +kernel
theorem d_OL_fair_33 : decode b_OL_fair 33 = .ok (.ifCond .ne 5, 3) := by decide +kernel
theorem d_OL_fair_36 : decode b_OL_fair 36 = .ok (.iconst (-1), 1) := by decide +kernel
theorem d_OL_fair_37 : decode b_OL_fair 37 = .ok (.ireturn, 1) := by decide +kernel
theorem d_OL_fair_38 : decode b_OL_fair 38 = .ok (.iload_n 1, 1) := by decide +kernel
theorem d_OL_fair_39 : decode b_OL_fair 39 = .ok (.iload_n 2, 1) := by decide +kernel
theorem d_OL_fair_40 : decode b_OL_fair 40 = .ok (.if_icmp .ne 6, 3) := by decide +kernel
theorem d_OL_fair_43 : decode b_OL_fair 43 = .ok (.bipush (-2), 2) := by decide +kernel
theorem d_OL_fair_45 : decode b_OL_fair 45 = .ok (.ireturn, 1) := by decide +kernel
theorem d_OL_fair_46 : decode b_OL_fair 46 = .ok (.aload_n 0, 1) := by decide +kernel
theorem d_OL_fair_47 : decode b_OL_fair 47 = .ok (.getfield 31, 3) := by decide +kernel
theorem d_OL_fair_50 : decode b_OL_fair 50 = .ok (.aload_n 0, 1) := by decide +kernel
theorem d_OL_fair_51 : decode b_OL_fair 51 = .ok (.getfield 12, 3) := by decide +kernel
theorem d_OL_fair_54 : decode b_OL_fair 54 = .ok (.invokevirtual 111, 3) := by decide +kernel
theorem d_OL_fair_57 : decode b_OL_fair 57 = .ok (.iload_n 3, 1) := by decide +kernel
theorem d_OL_fair_58 : decode b_OL_fair 58 = .ok (.ifCond .ne 15, 3) := by decide +kernel
theorem d_OL_fair_61 : decode b_OL_fair 61 = .ok (.aload_n 0, 1) := by decide +kernel
theorem d_OL_fair_62 : decode b_OL_fair 62 = .ok (.getfield 31, 3) := by decide +kernel
theorem d_OL_fair_65 : decode b_OL_fair 65 = .ok (.iload_n 1, 1) := by decide +kernel
theorem d_OL_fair_66 : decode b_OL_fair 66 = .ok (.iload_n 2, 1) := by decide +kernel
theorem d_OL_fair_67 : decode b_OL_fair 67 = .ok (.invokestatic 241, 3) := by decide +kernel
theorem d_OL_fair_70 : decode b_OL_fair 70 = .ok (.goto 12, 3) := by decide +kernel
theorem d_OL_fair_73 : decode b_OL_fair 73 = .ok (.aload_n 0, 1) := by decide +kernel
theorem d_OL_fair_74 : decode b_OL_fair 74 = .ok (.getfield 31, 3) := by decide +kernel
theorem d_OL_fair_77 : decode b_OL_fair 77 = .ok (.iload_n 1, 1) := by decide +kernel
theorem d_OL_fair_78 : decode b_OL_fair 78 = .ok (.iload_n 2, 1) := by decide +kernel
theorem d_OL_fair_79 : decode b_OL_fair 79 = .ok (.invokestatic 245, 3) := by decide +kernel
theorem d_OL_fair_82 : decode b_OL_fair 82 = .ok (.ireturn, 1) := by decide +kernel
theorem o_OL_fair : OkV y_OL_fair "OwnsLift" b_OL_fair 4 (some .int) 3 := ⟨⟨rfl, by decide +kernel, by decide +kernel, by decide +kernel⟩, g_883, g_884, g_71, g_885⟩
set_option maxHeartbeats 4000000 in
set_option maxRecDepth 100000 in
theorem c_OL_fair (l : Launch) (D : va_G) (g : Nat → ClassId) (a : Nat → Nat) (x1 : Int32) (x2 : Int32) (x3 : Int32) (z : T_OL) (v : Int32 × T_OL) (h : d_OL_fair x1 x2 x3 z = some v) :
    MI l y_OL_fair b_OL_fair 4 .int ({ frames := 5, cells := 0, slots := 0, locals := 119 } : Room) D g [.ref (a 0), .int x1, .int x2, .int x3] (ws_OL g a z) (v.1) (ws_OL g a v.2) := by
  have hd := h
  unfold d_OL_fair at hd
  refine enterI rfl (Nat.le_of_ble_eq_true rfl) (fun p e s m below meth c A ls hx hb hml hr hown hg hlk hK hA hP hD hS hCs hl => ?_)
  have hown : s.vm.findClass "OwnsLift" = some m.cls := hown
  have hl : lv_has ls 4 [(0, .ref (a 0)), (1, .int x1), (2, .int x2), (3, .int x3)] := hl
  show GI p l e s m ({ frames := 5, cells := 0, slots := 0, locals := 119 } : Room) ([.ref (a 0), .int x1, .int x2, .int x3] : List Value).toArray below meth c A D g (ws_OL g a v.2) (v.1) s.heap [] (F0 m 0 ls [])
  refine lv_aload_n hx hb d_OL_fair_0 rfl (lv_at hl 0 rfl) ?_
  refine va_get (D := D) (ci := 0) (v := .ref (a 1)) (C := R_OL) (T := F_OL) (N := 8) hx hb hg i_OL hown hK hP 0 rfl rfl 0 (by decide) (hg _ g_396) (fun _ h9 => h9) rfl d_OL_fair_1 ?_
  refine va_get (D := D) (ci := 7) (v := .ref (a 8)) (C := R_Re) (T := F_Re) (N := 11) hx hb hg i_Re hown hK hP 1 rfl rfl 4 (by decide) (hg _ g_212) (fun _ h9 => h9) rfl d_OL_fair_4 ?_
  refine lv_iload_n hx hb d_OL_fair_7 rfl (lv_at hl 1 rfl) ?_
  obtain ⟨v_1, e_2, hd⟩ := bind_s hd
  refine callVI (ws' := ws_OL g a z) (rest := []) (As := [.int x1]) hx hb hml hown hg hK hP hD hS hA hCs hl.1 (c_Pe_has l D g (sh a 8) x1 (q_Re_people (q_OL_now z)) _ e_2) o_Pe_has g_629 (ci := 5) (q0 := 8) rfl rfl (List.range' 8 11) (segC1 rfl rfl) (by decide) rfl (segP1 rfl rfl) rfl rfl (Nat.le_of_ble_eq_true rfl) ⟨rfl, rfl, Nat.le_of_ble_eq_true rfl, Nat.le_of_ble_eq_true rfl⟩ d_OL_fair_8 (fun H locs hP hD hS => ?_)
  refine lv_if_eq (tgt := 36) hx hb d_OL_fair_11 (by decide) (fun h_3 => ?_) (fun h_3 => ?_)
  · have hd := ite_t hd h_3
    refine lv_iconst (v := (-1)) hx hb d_OL_fair_36 (by decide) ?_
    obtain rfl := Option.some.inj hd
    exact retI hx hb hr hlk hK hP hD hS d_OL_fair_37 rfl
  · have hd := ite_f hd h_3
    refine lv_aload_n hx hb d_OL_fair_14 rfl (lv_at hl 0 rfl) ?_
    refine va_get (D := D) (ci := 0) (v := .ref (a 1)) (C := R_OL) (T := F_OL) (N := 8) hx hb hg i_OL hown hK hP 0 rfl rfl 0 (by decide) (hg _ g_396) (fun _ h9 => h9) rfl d_OL_fair_15 ?_
    refine va_get (D := D) (ci := 7) (v := .ref (a 8)) (C := R_Re) (T := F_Re) (N := 11) hx hb hg i_Re hown hK hP 1 rfl rfl 4 (by decide) (hg _ g_212) (fun _ h9 => h9) rfl d_OL_fair_18 ?_
    refine lv_iload_n hx hb d_OL_fair_21 rfl (lv_at hl 2 rfl) ?_
    obtain ⟨v_4, e_5, hd⟩ := bind_s hd
    refine callVI (ws' := ws_OL g a z) (rest := []) (As := [.int x2]) hx hb hml hown hg hK hP hD hS hA hCs hl.1 (c_Pe_has l D g (sh a 8) x2 (q_Re_people (q_OL_now z)) _ e_5) o_Pe_has g_629 (ci := 5) (q0 := 8) rfl rfl (List.range' 8 11) (segC1 rfl rfl) (by decide) rfl (segP1 rfl rfl) rfl rfl (Nat.le_of_ble_eq_true rfl) ⟨rfl, rfl, Nat.le_of_ble_eq_true rfl, Nat.le_of_ble_eq_true rfl⟩ d_OL_fair_22 (fun H locs hP hD hS => ?_)
    refine lv_if_eq (tgt := 36) hx hb d_OL_fair_25 (by decide) (fun h_6 => ?_) (fun h_6 => ?_)
    · have hd := ite_t hd h_6
      refine lv_iconst (v := (-1)) hx hb d_OL_fair_36 (by decide) ?_
      obtain rfl := Option.some.inj hd
      exact retI hx hb hr hlk hK hP hD hS d_OL_fair_37 rfl
    · have hd := ite_f hd h_6
      refine lv_iload_n hx hb d_OL_fair_28 rfl (lv_at hl 3 rfl) ?_
      refine lv_iconst (v := 1) hx hb d_OL_fair_29 (by decide) ?_
      obtain ⟨v_7, e_8, hd⟩ := bind_s hd
      refine callSI (ws' := ws_OL g a z) (rest := []) (As := [.int x3, .int 1]) hx hb hml hown hg hK hP hD hS hA hCs hl.1 (c_OL_within l D g  x3 1 _ e_8) o_OL_within g_618 [] segC0 rfl rfl segP0 rfl rfl (Nat.le_of_ble_eq_true rfl) ⟨rfl, rfl, Nat.le_of_ble_eq_true rfl, Nat.le_of_ble_eq_true rfl⟩ d_OL_fair_30 (fun H locs hP hD hS => ?_)
      refine lv_if_ne (tgt := 38) hx hb d_OL_fair_33 (by decide) (fun h_9 => ?_) (fun h_9 => ?_)
      · have hd := ite_f hd h_9
        refine lv_iload_n hx hb d_OL_fair_38 rfl (lv_at hl 1 rfl) ?_
        refine lv_iload_n hx hb d_OL_fair_39 rfl (lv_at hl 2 rfl) ?_
        refine lv_icmp_ne (tgt := 46) hx hb d_OL_fair_40 (by decide) (fun h_10 => ?_) (fun h_10 => ?_)
        · have hd := ite_f hd h_10
          refine lv_aload_n hx hb d_OL_fair_46 rfl (lv_at hl 0 rfl) ?_
          refine va_get (D := D) (ci := 0) (v := .ref (a 56)) (C := R_OL) (T := F_OL) (N := 8) hx hb hg i_OL hown hK hP 0 rfl rfl 4 (by decide) (hg _ g_400) (fun _ h9 => h9) rfl d_OL_fair_47 ?_
          refine lv_aload_n hx hb d_OL_fair_50 rfl (lv_at hl 0 rfl) ?_
          refine va_get (D := D) (ci := 0) (v := .ref (a 1)) (C := R_OL) (T := F_OL) (N := 8) hx hb hg i_OL hown hK hP 0 rfl rfl 0 (by decide) (hg _ g_396) (fun _ h9 => h9) rfl d_OL_fair_51 ?_
          obtain ⟨v_11, e_12, hd⟩ := bind_s hd
          refine callVV (ws' := ws_OL g a (u_OL_now (u_OL_standing z v_11.1) v_11.2)) (rest := []) (As := [.ref ((sh a 1) 0)]) hx hb hml hown hg hK hP hD hS hA hCs hl.1 (c_St_take l D g (sh a 56) (sh a 1) (q_OL_standing z) (q_OL_now z) _ e_12) o_St_take g_633 (ci := 9) (q0 := 56) rfl rfl (List.range' 56 10 ++ List.range' 1 24) (segC2 rfl rfl rfl rfl) (by decide) rfl (segP2 rfl rfl rfl) rfl rfl (Nat.le_of_ble_eq_true rfl) ⟨rfl, rfl, Nat.le_of_ble_eq_true rfl, Nat.le_of_ble_eq_true rfl⟩ d_OL_fair_54 (fun H locs hP hD hS => ?_)
          refine lv_iload_n hx hb d_OL_fair_57 rfl (lv_at hl 3 rfl) ?_
          refine lv_if_ne (tgt := 73) hx hb d_OL_fair_58 (by decide) (fun h_13 => ?_) (fun h_13 => ?_)
          · have hd := ite_f hd h_13
            refine lv_aload_n hx hb d_OL_fair_73 rfl (lv_at hl 0 rfl) ?_
            refine va_get (D := D) (ci := 0) (v := .ref (a 56)) (C := R_OL) (T := F_OL) (N := 8) hx hb hg i_OL hown hK hP 0 rfl rfl 4 (by decide) (hg _ g_400) (fun _ h9 => h9) rfl d_OL_fair_74 ?_
            refine lv_iload_n hx hb d_OL_fair_77 rfl (lv_at hl 1 rfl) ?_
            refine lv_iload_n hx hb d_OL_fair_78 rfl (lv_at hl 2 rfl) ?_
            obtain ⟨v_14, e_15, hd⟩ := bind_s hd
            refine callSI (ws' := ws_OL g a (u_OL_now (u_OL_standing z v_11.1) v_11.2)) (rest := []) (As := [.ref ((sh a 56) 0), .int x1, .int x2]) hx hb hml hown hg hK hP hD hS hA hCs hl.1 (c_Se_fairLeast l D g (sh a 56) x1 x2 (q_OL_standing (u_OL_now (u_OL_standing z v_11.1) v_11.2)) _ e_15) o_Se_fairLeast g_892 (List.range' 56 10) (segC1 rfl rfl) (by decide) rfl (segP1 rfl rfl) rfl rfl (Nat.le_of_ble_eq_true rfl) ⟨rfl, rfl, Nat.le_of_ble_eq_true rfl, Nat.le_of_ble_eq_true rfl⟩ d_OL_fair_79 (fun H locs hP hD hS => ?_)
            obtain rfl := Option.some.inj hd
            exact retI hx hb hr hlk hK hP hD hS d_OL_fair_82 rfl
          · have hd := ite_t hd h_13
            refine lv_aload_n hx hb d_OL_fair_61 rfl (lv_at hl 0 rfl) ?_
            refine va_get (D := D) (ci := 0) (v := .ref (a 56)) (C := R_OL) (T := F_OL) (N := 8) hx hb hg i_OL hown hK hP 0 rfl rfl 4 (by decide) (hg _ g_400) (fun _ h9 => h9) rfl d_OL_fair_62 ?_
            refine lv_iload_n hx hb d_OL_fair_65 rfl (lv_at hl 1 rfl) ?_
            refine lv_iload_n hx hb d_OL_fair_66 rfl (lv_at hl 2 rfl) ?_
            obtain ⟨v_16, e_17, hd⟩ := bind_s hd
            refine callSI (ws' := ws_OL g a (u_OL_now (u_OL_standing z v_11.1) v_11.2)) (rest := []) (As := [.ref ((sh a 56) 0), .int x1, .int x2]) hx hb hml hown hg hK hP hD hS hA hCs hl.1 (c_Se_fairNumber l D g (sh a 56) x1 x2 (q_OL_standing (u_OL_now (u_OL_standing z v_11.1) v_11.2)) _ e_17) o_Se_fairNumber g_886 (List.range' 56 10) (segC1 rfl rfl) (by decide) rfl (segP1 rfl rfl) rfl rfl (Nat.le_of_ble_eq_true rfl) ⟨rfl, rfl, Nat.le_of_ble_eq_true rfl, Nat.le_of_ble_eq_true rfl⟩ d_OL_fair_67 (fun H locs hP hD hS => ?_)
            refine lv_goto (tgt := 82) hx hb d_OL_fair_70 (by decide) ?_
            obtain rfl := Option.some.inj hd
            exact retI hx hb hr hlk hK hP hD hS d_OL_fair_82 rfl
        · have hd := ite_t hd h_10
          refine lv_bipush (v := (-2)) hx hb d_OL_fair_43 (by decide) ?_
          obtain rfl := Option.some.inj hd
          exact retI hx hb hr hlk hK hP hD hS d_OL_fair_45 rfl
      · have hd := ite_t hd h_9
        refine lv_iconst (v := (-1)) hx hb d_OL_fair_36 (by decide) ?_
        obtain rfl := Option.some.inj hd
        exact retI hx hb hr hlk hK hP hD hS d_OL_fair_37 rfl
-- OwnsLift.had(II)I
def d_OL_had (x1 : Int32) (x2 : Int32) (z : T_OL) : Option (Int32 × T_OL) :=
  (d_OL_within x2 1).bind fun v_1 => if v_1 = 0 then (some ((-1), z)) else ((d_OL_within x1 400).bind fun v_4 => if v_4 = 0 then (some ((-2), z)) else ((d_St_take (q_OL_standing z) (q_OL_now z)).bind fun v_7 => if x2 = 0 then ((d_Se_weighingNumber x1 (q_OL_standing (u_OL_now (u_OL_standing z v_7.1) v_7.2))).bind fun v_12 => some (v_12, (u_OL_now (u_OL_standing z v_7.1) v_7.2))) else ((d_Se_weighingLeast x1 (q_OL_standing (u_OL_now (u_OL_standing z v_7.1) v_7.2))).bind fun v_10 => some (v_10, (u_OL_now (u_OL_standing z v_7.1) v_7.2)))))
theorem d_OL_had_0 : decode b_OL_had 0 = .ok (.iload_n 2, 1) := by decide +kernel
theorem d_OL_had_1 : decode b_OL_had 1 = .ok (.iconst 1, 1) := by decide +kernel
theorem d_OL_had_2 : decode b_OL_had 2 = .ok (.invokestatic 91, 3) := by decide +kernel
theorem d_OL_had_5 : decode b_OL_had 5 = .ok (.ifCond .ne 5, 3) := by decide +kernel
theorem d_OL_had_8 : decode b_OL_had 8 = .ok (.iconst (-1), 1) := by decide +kernel
theorem d_OL_had_9 : decode b_OL_had 9 = .ok (.ireturn, 1) := by decide +kernel
theorem d_OL_had_10 : decode b_OL_had 10 = .ok (.iload_n 1, 1) := by decide +kernel
theorem d_OL_had_11 : decode b_OL_had 11 = .ok (.sipush 400, 3) := by decide +kernel
theorem d_OL_had_14 : decode b_OL_had 14 = .ok (.invokestatic 91, 3) := by decide +kernel
theorem d_OL_had_17 : decode b_OL_had 17 = .ok (.ifCond .ne 6, 3) := by decide +kernel
theorem d_OL_had_20 : decode b_OL_had 20 = .ok (.bipush (-2), 2) := by decide +kernel
theorem d_OL_had_22 : decode b_OL_had 22 = .ok (.ireturn, 1) := by decide +kernel
theorem d_OL_had_23 : decode b_OL_had 23 = .ok (.aload_n 0, 1) := by decide +kernel
theorem d_OL_had_24 : decode b_OL_had 24 = .ok (.getfield 31, 3) := by decide +kernel
theorem d_OL_had_27 : decode b_OL_had 27 = .ok (.aload_n 0, 1) := by decide +kernel
theorem d_OL_had_28 : decode b_OL_had 28 = .ok (.getfield 12, 3) := by decide +kernel
theorem d_OL_had_31 : decode b_OL_had 31 = .ok (.invokevirtual 111, 3) := by decide +kernel
theorem d_OL_had_34 : decode b_OL_had 34 = .ok (.iload_n 2, 1) := by decide +kernel
theorem d_OL_had_35 : decode b_OL_had 35 = .ok (.ifCond .ne 14, 3) := by decide +kernel
theorem d_OL_had_38 : decode b_OL_had 38 = .ok (.aload_n 0, 1) := by decide +kernel
theorem d_OL_had_39 : decode b_OL_had 39 = .ok (.getfield 31, 3) := by decide +kernel
theorem d_OL_had_42 : decode b_OL_had 42 = .ok (.iload_n 1, 1) := by decide +kernel
theorem d_OL_had_43 : decode b_OL_had 43 = .ok (.invokestatic 248, 3) := by decide +kernel
theorem d_OL_had_46 : decode b_OL_had 46 = .ok (.goto 11, 3) := by decide +kernel
theorem d_OL_had_49 : decode b_OL_had 49 = .ok (.aload_n 0, 1) := by decide +kernel
theorem d_OL_had_50 : decode b_OL_had 50 = .ok (.getfield 31, 3) := by decide +kernel
theorem d_OL_had_53 : decode b_OL_had 53 = .ok (.iload_n 1, 1) := by decide +kernel
theorem d_OL_had_54 : decode b_OL_had 54 = .ok (.invokestatic 251, 3) := by decide +kernel
theorem d_OL_had_57 : decode b_OL_had 57 = .ok (.ireturn, 1) := by decide +kernel
theorem o_OL_had : OkV y_OL_had "OwnsLift" b_OL_had 3 (some .int) 2 := ⟨⟨rfl, by decide +kernel, by decide +kernel, by decide +kernel⟩, g_896, g_897, g_71, g_898⟩
set_option maxHeartbeats 4000000 in
set_option maxRecDepth 100000 in
theorem c_OL_had (l : Launch) (D : va_G) (g : Nat → ClassId) (a : Nat → Nat) (x1 : Int32) (x2 : Int32) (z : T_OL) (v : Int32 × T_OL) (h : d_OL_had x1 x2 z = some v) :
    MI l y_OL_had b_OL_had 3 .int ({ frames := 5, cells := 0, slots := 0, locals := 119 } : Room) D g [.ref (a 0), .int x1, .int x2] (ws_OL g a z) (v.1) (ws_OL g a v.2) := by
  have hd := h
  unfold d_OL_had at hd
  refine enterI rfl (Nat.le_of_ble_eq_true rfl) (fun p e s m below meth c A ls hx hb hml hr hown hg hlk hK hA hP hD hS hCs hl => ?_)
  have hown : s.vm.findClass "OwnsLift" = some m.cls := hown
  have hl : lv_has ls 3 [(0, .ref (a 0)), (1, .int x1), (2, .int x2)] := hl
  show GI p l e s m ({ frames := 5, cells := 0, slots := 0, locals := 119 } : Room) ([.ref (a 0), .int x1, .int x2] : List Value).toArray below meth c A D g (ws_OL g a v.2) (v.1) s.heap [] (F0 m 0 ls [])
  refine lv_iload_n hx hb d_OL_had_0 rfl (lv_at hl 2 rfl) ?_
  refine lv_iconst (v := 1) hx hb d_OL_had_1 (by decide) ?_
  obtain ⟨v_1, e_2, hd⟩ := bind_s hd
  refine callSI (ws' := ws_OL g a z) (rest := []) (As := [.int x2, .int 1]) hx hb hml hown hg hK hP hD hS hA hCs hl.1 (c_OL_within l D g  x2 1 _ e_2) o_OL_within g_618 [] segC0 rfl rfl segP0 rfl rfl (Nat.le_of_ble_eq_true rfl) ⟨rfl, rfl, Nat.le_of_ble_eq_true rfl, Nat.le_of_ble_eq_true rfl⟩ d_OL_had_2 (fun H locs hP hD hS => ?_)
  refine lv_if_ne (tgt := 10) hx hb d_OL_had_5 (by decide) (fun h_3 => ?_) (fun h_3 => ?_)
  · have hd := ite_f hd h_3
    refine lv_iload_n hx hb d_OL_had_10 rfl (lv_at hl 1 rfl) ?_
    refine lv_sipush (v := 400) hx hb d_OL_had_11 (by decide) ?_
    obtain ⟨v_4, e_5, hd⟩ := bind_s hd
    refine callSI (ws' := ws_OL g a z) (rest := []) (As := [.int x1, .int 400]) hx hb hml hown hg hK hP hD hS hA hCs hl.1 (c_OL_within l D g  x1 400 _ e_5) o_OL_within g_618 [] segC0 rfl rfl segP0 rfl rfl (Nat.le_of_ble_eq_true rfl) ⟨rfl, rfl, Nat.le_of_ble_eq_true rfl, Nat.le_of_ble_eq_true rfl⟩ d_OL_had_14 (fun H locs hP hD hS => ?_)
    refine lv_if_ne (tgt := 23) hx hb d_OL_had_17 (by decide) (fun h_6 => ?_) (fun h_6 => ?_)
    · have hd := ite_f hd h_6
      refine lv_aload_n hx hb d_OL_had_23 rfl (lv_at hl 0 rfl) ?_
      refine va_get (D := D) (ci := 0) (v := .ref (a 56)) (C := R_OL) (T := F_OL) (N := 8) hx hb hg i_OL hown hK hP 0 rfl rfl 4 (by decide) (hg _ g_400) (fun _ h9 => h9) rfl d_OL_had_24 ?_
      refine lv_aload_n hx hb d_OL_had_27 rfl (lv_at hl 0 rfl) ?_
      refine va_get (D := D) (ci := 0) (v := .ref (a 1)) (C := R_OL) (T := F_OL) (N := 8) hx hb hg i_OL hown hK hP 0 rfl rfl 0 (by decide) (hg _ g_396) (fun _ h9 => h9) rfl d_OL_had_28 ?_
      obtain ⟨v_7, e_8, hd⟩ := bind_s hd
      refine callVV (ws' := ws_OL g a (u_OL_now (u_OL_standing z v_7.1) v_7.2)) (rest := []) (As := [.ref ((sh a 1) 0)]) hx hb hml hown hg hK hP hD hS hA hCs hl.1 (c_St_take l D g (sh a 56) (sh a 1) (q_OL_standing z) (q_OL_now z) _ e_8) o_St_take g_633 (ci := 9) (q0 := 56) rfl rfl (List.range' 56 10 ++ List.range' 1 24) (segC2 rfl rfl rfl rfl) (by decide) rfl (segP2 rfl rfl rfl) rfl rfl (Nat.le_of_ble_eq_true rfl) ⟨rfl, rfl, Nat.le_of_ble_eq_true rfl, Nat.le_of_ble_eq_true rfl⟩ d_OL_had_31 (fun H locs hP hD hS => ?_)
      refine lv_iload_n hx hb d_OL_had_34 rfl (lv_at hl 2 rfl) ?_
      refine lv_if_ne (tgt := 49) hx hb d_OL_had_35 (by decide) (fun h_9 => ?_) (fun h_9 => ?_)
      · have hd := ite_f hd h_9
        refine lv_aload_n hx hb d_OL_had_49 rfl (lv_at hl 0 rfl) ?_
        refine va_get (D := D) (ci := 0) (v := .ref (a 56)) (C := R_OL) (T := F_OL) (N := 8) hx hb hg i_OL hown hK hP 0 rfl rfl 4 (by decide) (hg _ g_400) (fun _ h9 => h9) rfl d_OL_had_50 ?_
        refine lv_iload_n hx hb d_OL_had_53 rfl (lv_at hl 1 rfl) ?_
        obtain ⟨v_10, e_11, hd⟩ := bind_s hd
        refine callSI (ws' := ws_OL g a (u_OL_now (u_OL_standing z v_7.1) v_7.2)) (rest := []) (As := [.ref ((sh a 56) 0), .int x1]) hx hb hml hown hg hK hP hD hS hA hCs hl.1 (c_Se_weighingLeast l D g (sh a 56) x1 (q_OL_standing (u_OL_now (u_OL_standing z v_7.1) v_7.2)) _ e_11) o_Se_weighingLeast g_902 (List.range' 56 10) (segC1 rfl rfl) (by decide) rfl (segP1 rfl rfl) rfl rfl (Nat.le_of_ble_eq_true rfl) ⟨rfl, rfl, Nat.le_of_ble_eq_true rfl, Nat.le_of_ble_eq_true rfl⟩ d_OL_had_54 (fun H locs hP hD hS => ?_)
        obtain rfl := Option.some.inj hd
        exact retI hx hb hr hlk hK hP hD hS d_OL_had_57 rfl
      · have hd := ite_t hd h_9
        refine lv_aload_n hx hb d_OL_had_38 rfl (lv_at hl 0 rfl) ?_
        refine va_get (D := D) (ci := 0) (v := .ref (a 56)) (C := R_OL) (T := F_OL) (N := 8) hx hb hg i_OL hown hK hP 0 rfl rfl 4 (by decide) (hg _ g_400) (fun _ h9 => h9) rfl d_OL_had_39 ?_
        refine lv_iload_n hx hb d_OL_had_42 rfl (lv_at hl 1 rfl) ?_
        obtain ⟨v_12, e_13, hd⟩ := bind_s hd
        refine callSI (ws' := ws_OL g a (u_OL_now (u_OL_standing z v_7.1) v_7.2)) (rest := []) (As := [.ref ((sh a 56) 0), .int x1]) hx hb hml hown hg hK hP hD hS hA hCs hl.1 (c_Se_weighingNumber l D g (sh a 56) x1 (q_OL_standing (u_OL_now (u_OL_standing z v_7.1) v_7.2)) _ e_13) o_Se_weighingNumber g_899 (List.range' 56 10) (segC1 rfl rfl) (by decide) rfl (segP1 rfl rfl) rfl rfl (Nat.le_of_ble_eq_true rfl) ⟨rfl, rfl, Nat.le_of_ble_eq_true rfl, Nat.le_of_ble_eq_true rfl⟩ d_OL_had_43 (fun H locs hP hD hS => ?_)
        refine lv_goto (tgt := 57) hx hb d_OL_had_46 (by decide) ?_
        obtain rfl := Option.some.inj hd
        exact retI hx hb hr hlk hK hP hD hS d_OL_had_57 rfl
    · have hd := ite_t hd h_6
      refine lv_bipush (v := (-2)) hx hb d_OL_had_20 (by decide) ?_
      obtain rfl := Option.some.inj hd
      exact retI hx hb hr hlk hK hP hD hS d_OL_had_22 rfl
  · have hd := ite_t hd h_3
    refine lv_iconst (v := (-1)) hx hb d_OL_had_8 (by decide) ?_
    obtain rfl := Option.some.inj hd
    exact retI hx hb hr hlk hK hP hD hS d_OL_had_9 rfl
-- OwnsLift.odds(I)J
def d_OL_odds (x1 : Int32) (z : T_OL) : Option (Int64 × T_OL) :=
  (d_OL_within x1 1).bind fun v_1 => if v_1 = 0 then (some ((-9223372036854775808), z)) else ((d_St_take (q_OL_standing z) (q_OL_now z)).bind fun v_4 => (d_St_weighOdds (q_OL_standing (u_OL_now (u_OL_standing z v_4.1) v_4.2)) (q_OL_fraction (u_OL_now (u_OL_standing z v_4.1) v_4.2))).bind fun v_6 => if x1 = 0 then (some ((q_Fr_above (q_OL_fraction (u_OL_fraction (u_OL_now (u_OL_standing z v_4.1) v_4.2) v_6))), (u_OL_fraction (u_OL_now (u_OL_standing z v_4.1) v_4.2) v_6))) else (some ((q_Fr_below (q_OL_fraction (u_OL_fraction (u_OL_now (u_OL_standing z v_4.1) v_4.2) v_6))), (u_OL_fraction (u_OL_now (u_OL_standing z v_4.1) v_4.2) v_6))))
theorem d_OL_odds_0 : decode b_OL_odds 0 = .ok (.iload_n 1, 1) := by decide +kernel
theorem d_OL_odds_1 : decode b_OL_odds 1 = .ok (.iconst 1, 1) := by decide +kernel
theorem d_OL_odds_2 : decode b_OL_odds 2 = .ok (.invokestatic 91, 3) := by decide +kernel
theorem d_OL_odds_5 : decode b_OL_odds 5 = .ok (.ifCond .ne 7, 3) := by decide +kernel
theorem d_OL_odds_8 : decode b_OL_odds 8 = .ok (.ldc2_w 216, 3) := by decide +kernel
theorem d_OL_odds_11 : decode b_OL_odds 11 = .ok (.lreturn, 1) := by decide +kernel
theorem d_OL_odds_12 : decode b_OL_odds 12 = .ok (.aload_n 0, 1) := by decide +kernel
theorem d_OL_odds_13 : decode b_OL_odds 13 = .ok (.getfield 31, 3) := by decide +kernel
theorem d_OL_odds_16 : decode b_OL_odds 16 = .ok (.aload_n 0, 1) := by decide +kernel
theorem d_OL_odds_17 : decode b_OL_odds 17 = .ok (.getfield 12, 3) := by decide +kernel
theorem d_OL_odds_20 : decode b_OL_odds 20 = .ok (.invokevirtual 111, 3) := by decide +kernel
theorem d_OL_odds_23 : decode b_OL_odds 23 = .ok (.aload_n 0, 1) := by decide +kernel
theorem d_OL_odds_24 : decode b_OL_odds 24 = .ok (.getfield 31, 3) := by decide +kernel
theorem d_OL_odds_27 : decode b_OL_odds 27 = .ok (.aload_n 0, 1) := by decide +kernel
theorem d_OL_odds_28 : decode b_OL_odds 28 = .ok (.getfield 45, 3) := by decide +kernel
theorem d_OL_odds_31 : decode b_OL_odds 31 = .ok (.invokevirtual 254, 3) := by decide +kernel
theorem d_OL_odds_34 : decode b_OL_odds 34 = .ok (.iload_n 1, 1) := by decide +kernel
theorem d_OL_odds_35 : decode b_OL_odds 35 = .ok (.ifCond .ne 13, 3) := by decide +kernel
theorem d_OL_odds_38 : decode b_OL_odds 38 = .ok (.aload_n 0, 1) := by decide +kernel
theorem d_OL_odds_39 : decode b_OL_odds 39 = .ok (.getfield 45, 3) := by decide +kernel
theorem d_OL_odds_42 : decode b_OL_odds 42 = .ok (.getfield 222, 3) := by decide +kernel
theorem d_OL_odds_45 : decode b_OL_odds 45 = .ok (.goto 10, 3) := by decide +kernel
theorem d_OL_odds_48 : decode b_OL_odds 48 = .ok (.aload_n 0, 1) := by decide +kernel
theorem d_OL_odds_49 : decode b_OL_odds 49 = .ok (.getfield 45, 3) := by decide +kernel
theorem d_OL_odds_52 : decode b_OL_odds 52 = .ok (.getfield 226, 3) := by decide +kernel
theorem d_OL_odds_55 : decode b_OL_odds 55 = .ok (.lreturn, 1) := by decide +kernel
theorem o_OL_odds : OkV y_OL_odds "OwnsLift" b_OL_odds 2 (some .long) 1 := ⟨⟨rfl, by decide +kernel, by decide +kernel, by decide +kernel⟩, g_906, g_907, g_71, g_908⟩
set_option maxHeartbeats 4000000 in
set_option maxRecDepth 100000 in
theorem c_OL_odds (l : Launch) (D : va_G) (g : Nat → ClassId) (a : Nat → Nat) (x1 : Int32) (z : T_OL) (v : Int64 × T_OL) (h : d_OL_odds x1 z = some v) :
    ML l y_OL_odds b_OL_odds 2 ({ frames := 5, cells := 0, slots := 0, locals := 119 } : Room) D g [.ref (a 0), .int x1] (ws_OL g a z) (v.1) (ws_OL g a v.2) := by
  have hd := h
  unfold d_OL_odds at hd
  refine enterL rfl (Nat.le_of_ble_eq_true rfl) (fun p e s m below meth c A ls hx hb hml hr hown hg hlk hK hA hP hD hS hCs hl => ?_)
  have hown : s.vm.findClass "OwnsLift" = some m.cls := hown
  have hl : lv_has ls 2 [(0, .ref (a 0)), (1, .int x1)] := hl
  show GL p l e s m ({ frames := 5, cells := 0, slots := 0, locals := 119 } : Room) ([.ref (a 0), .int x1] : List Value).toArray below meth c A D g (ws_OL g a v.2) (v.1) s.heap [] (F0 m 0 ls [])
  refine lv_iload_n hx hb d_OL_odds_0 rfl (lv_at hl 1 rfl) ?_
  refine lv_iconst (v := 1) hx hb d_OL_odds_1 (by decide) ?_
  obtain ⟨v_1, e_2, hd⟩ := bind_s hd
  refine callSI (ws' := ws_OL g a z) (rest := []) (As := [.int x1, .int 1]) hx hb hml hown hg hK hP hD hS hA hCs hl.1 (c_OL_within l D g  x1 1 _ e_2) o_OL_within g_618 [] segC0 rfl rfl segP0 rfl rfl (Nat.le_of_ble_eq_true rfl) ⟨rfl, rfl, Nat.le_of_ble_eq_true rfl, Nat.le_of_ble_eq_true rfl⟩ d_OL_odds_2 (fun H locs hP hD hS => ?_)
  refine lv_if_ne (tgt := 12) hx hb d_OL_odds_5 (by decide) (fun h_3 => ?_) (fun h_3 => ?_)
  · have hd := ite_f hd h_3
    refine lv_aload_n hx hb d_OL_odds_12 rfl (lv_at hl 0 rfl) ?_
    refine va_get (D := D) (ci := 0) (v := .ref (a 56)) (C := R_OL) (T := F_OL) (N := 8) hx hb hg i_OL hown hK hP 0 rfl rfl 4 (by decide) (hg _ g_400) (fun _ h9 => h9) rfl d_OL_odds_13 ?_
    refine lv_aload_n hx hb d_OL_odds_16 rfl (lv_at hl 0 rfl) ?_
    refine va_get (D := D) (ci := 0) (v := .ref (a 1)) (C := R_OL) (T := F_OL) (N := 8) hx hb hg i_OL hown hK hP 0 rfl rfl 0 (by decide) (hg _ g_396) (fun _ h9 => h9) rfl d_OL_odds_17 ?_
    obtain ⟨v_4, e_5, hd⟩ := bind_s hd
    refine callVV (ws' := ws_OL g a (u_OL_now (u_OL_standing z v_4.1) v_4.2)) (rest := []) (As := [.ref ((sh a 1) 0)]) hx hb hml hown hg hK hP hD hS hA hCs hl.1 (c_St_take l D g (sh a 56) (sh a 1) (q_OL_standing z) (q_OL_now z) _ e_5) o_St_take g_633 (ci := 9) (q0 := 56) rfl rfl (List.range' 56 10 ++ List.range' 1 24) (segC2 rfl rfl rfl rfl) (by decide) rfl (segP2 rfl rfl rfl) rfl rfl (Nat.le_of_ble_eq_true rfl) ⟨rfl, rfl, Nat.le_of_ble_eq_true rfl, Nat.le_of_ble_eq_true rfl⟩ d_OL_odds_20 (fun H locs hP hD hS => ?_)
    refine lv_aload_n hx hb d_OL_odds_23 rfl (lv_at hl 0 rfl) ?_
    refine va_get (D := D) (ci := 0) (v := .ref (a 56)) (C := R_OL) (T := F_OL) (N := 8) hx hb hg i_OL hown hK hP 0 rfl rfl 4 (by decide) (hg _ g_400) (fun _ h9 => h9) rfl d_OL_odds_24 ?_
    refine lv_aload_n hx hb d_OL_odds_27 rfl (lv_at hl 0 rfl) ?_
    refine va_get (D := D) (ci := 0) (v := .ref (a 80)) (C := R_OL) (T := F_OL) (N := 8) hx hb hg i_OL hown hK hP 0 rfl rfl 6 (by decide) (hg _ g_402) (fun _ h9 => h9) rfl d_OL_odds_28 ?_
    obtain ⟨v_6, e_7, hd⟩ := bind_s hd
    refine callVV (ws' := ws_OL g a (u_OL_fraction (u_OL_now (u_OL_standing z v_4.1) v_4.2) v_6)) (rest := []) (As := [.ref ((sh a 80) 0)]) hx hb hml hown hg hK hP hD hS hA hCs hl.1 (c_St_weighOdds l D g (sh a 56) (sh a 80) (q_OL_standing (u_OL_now (u_OL_standing z v_4.1) v_4.2)) (q_OL_fraction (u_OL_now (u_OL_standing z v_4.1) v_4.2)) _ e_7) o_St_weighOdds g_909 (ci := 9) (q0 := 56) rfl rfl (List.range' 56 10 ++ List.range' 80 1) (segC2 rfl rfl rfl rfl) (by decide) rfl (segP2 rfl rfl rfl) rfl rfl (Nat.le_of_ble_eq_true rfl) ⟨rfl, rfl, Nat.le_of_ble_eq_true rfl, Nat.le_of_ble_eq_true rfl⟩ d_OL_odds_31 (fun H locs hP hD hS => ?_)
    refine lv_iload_n hx hb d_OL_odds_34 rfl (lv_at hl 1 rfl) ?_
    refine lv_if_ne (tgt := 48) hx hb d_OL_odds_35 (by decide) (fun h_8 => ?_) (fun h_8 => ?_)
    · have hd := ite_f hd h_8
      refine lv_aload_n hx hb d_OL_odds_48 rfl (lv_at hl 0 rfl) ?_
      refine va_get (D := D) (ci := 0) (v := .ref (a 80)) (C := R_OL) (T := F_OL) (N := 8) hx hb hg i_OL hown hK hP 0 rfl rfl 6 (by decide) (hg _ g_402) (fun _ h9 => h9) rfl d_OL_odds_49 ?_
      refine va_get (D := D) (ci := 3) (v := .long (q_Fr_below (q_OL_fraction (u_OL_fraction (u_OL_now (u_OL_standing z v_4.1) v_4.2) v_6)))) (C := R_Fr) (T := F_Fr) (N := 2) hx hb hg i_Fr hown hK hP 80 rfl rfl 1 (by decide) (hg _ g_366) (fun _ h9 => h9) rfl d_OL_odds_52 ?_
      obtain rfl := Option.some.inj hd
      exact retL hx hb hr hlk hK hP hD hS d_OL_odds_55 rfl
    · have hd := ite_t hd h_8
      refine lv_aload_n hx hb d_OL_odds_38 rfl (lv_at hl 0 rfl) ?_
      refine va_get (D := D) (ci := 0) (v := .ref (a 80)) (C := R_OL) (T := F_OL) (N := 8) hx hb hg i_OL hown hK hP 0 rfl rfl 6 (by decide) (hg _ g_402) (fun _ h9 => h9) rfl d_OL_odds_39 ?_
      refine va_get (D := D) (ci := 3) (v := .long (q_Fr_above (q_OL_fraction (u_OL_fraction (u_OL_now (u_OL_standing z v_4.1) v_4.2) v_6)))) (C := R_Fr) (T := F_Fr) (N := 2) hx hb hg i_Fr hown hK hP 80 rfl rfl 0 (by decide) (hg _ g_364) (fun _ h9 => h9) rfl d_OL_odds_42 ?_
      refine lv_goto (tgt := 55) hx hb d_OL_odds_45 (by decide) ?_
      obtain rfl := Option.some.inj hd
      exact retL hx hb hr hlk hK hP hD hS d_OL_odds_55 rfl
  · have hd := ite_t hd h_3
    refine lv_ldc2 (v := (-9223372036854775808)) hx hb hown (hg _ g_841) d_OL_odds_8 ?_
    obtain rfl := Option.some.inj hd
    exact retL hx hb hr hlk hK hP hD hS d_OL_odds_11 rfl
-- OwnsLift.see(IZ)I
def d_OL_see (x1 : Int32) (x2 : Int32) (z : T_OL) : Option (Int32 × T_OL) :=
  if x1 = (-1) then (some (0, (u_OL_now z (u_Re_seen (q_OL_now z) 0)))) else ((d_Pe_has x1 (q_Re_people (q_OL_now z))).bind fun v_2 => if v_2 = 0 then (some ((-1), z)) else (if (q_Re_seen (q_OL_now z)) < 12 then (if inb (q_Re_seen (q_OL_now z)) 12 = true then (if x2 = 0 then (if inb (q_Re_seen (q_OL_now (u_OL_now z (u_Re_seenWho (q_OL_now z) (upd (q_Re_seenWho (q_OL_now z)) (q_Re_seen (q_OL_now z)).toNatClampNeg x1))))) 12 = true then (some ((q_Re_seen (q_OL_now (u_OL_now (u_OL_now (u_OL_now z (u_Re_seenWho (q_OL_now z) (upd (q_Re_seenWho (q_OL_now z)) (q_Re_seen (q_OL_now z)).toNatClampNeg x1))) (u_Re_seenCould (q_OL_now (u_OL_now z (u_Re_seenWho (q_OL_now z) (upd (q_Re_seenWho (q_OL_now z)) (q_Re_seen (q_OL_now z)).toNatClampNeg x1)))) (upd (q_Re_seenCould (q_OL_now (u_OL_now z (u_Re_seenWho (q_OL_now z) (upd (q_Re_seenWho (q_OL_now z)) (q_Re_seen (q_OL_now z)).toNatClampNeg x1))))) (q_Re_seen (q_OL_now (u_OL_now z (u_Re_seenWho (q_OL_now z) (upd (q_Re_seenWho (q_OL_now z)) (q_Re_seen (q_OL_now z)).toNatClampNeg x1))))).toNatClampNeg 0))) (u_Re_seen (q_OL_now (u_OL_now (u_OL_now z (u_Re_seenWho (q_OL_now z) (upd (q_Re_seenWho (q_OL_now z)) (q_Re_seen (q_OL_now z)).toNatClampNeg x1))) (u_Re_seenCould (q_OL_now (u_OL_now z (u_Re_seenWho (q_OL_now z) (upd (q_Re_seenWho (q_OL_now z)) (q_Re_seen (q_OL_now z)).toNatClampNeg x1)))) (upd (q_Re_seenCould (q_OL_now (u_OL_now z (u_Re_seenWho (q_OL_now z) (upd (q_Re_seenWho (q_OL_now z)) (q_Re_seen (q_OL_now z)).toNatClampNeg x1))))) (q_Re_seen (q_OL_now (u_OL_now z (u_Re_seenWho (q_OL_now z) (upd (q_Re_seenWho (q_OL_now z)) (q_Re_seen (q_OL_now z)).toNatClampNeg x1))))).toNatClampNeg 0)))) ((q_Re_seen (q_OL_now (u_OL_now (u_OL_now z (u_Re_seenWho (q_OL_now z) (upd (q_Re_seenWho (q_OL_now z)) (q_Re_seen (q_OL_now z)).toNatClampNeg x1))) (u_Re_seenCould (q_OL_now (u_OL_now z (u_Re_seenWho (q_OL_now z) (upd (q_Re_seenWho (q_OL_now z)) (q_Re_seen (q_OL_now z)).toNatClampNeg x1)))) (upd (q_Re_seenCould (q_OL_now (u_OL_now z (u_Re_seenWho (q_OL_now z) (upd (q_Re_seenWho (q_OL_now z)) (q_Re_seen (q_OL_now z)).toNatClampNeg x1))))) (q_Re_seen (q_OL_now (u_OL_now z (u_Re_seenWho (q_OL_now z) (upd (q_Re_seenWho (q_OL_now z)) (q_Re_seen (q_OL_now z)).toNatClampNeg x1))))).toNatClampNeg 0))))) + 1))))), (u_OL_now (u_OL_now (u_OL_now z (u_Re_seenWho (q_OL_now z) (upd (q_Re_seenWho (q_OL_now z)) (q_Re_seen (q_OL_now z)).toNatClampNeg x1))) (u_Re_seenCould (q_OL_now (u_OL_now z (u_Re_seenWho (q_OL_now z) (upd (q_Re_seenWho (q_OL_now z)) (q_Re_seen (q_OL_now z)).toNatClampNeg x1)))) (upd (q_Re_seenCould (q_OL_now (u_OL_now z (u_Re_seenWho (q_OL_now z) (upd (q_Re_seenWho (q_OL_now z)) (q_Re_seen (q_OL_now z)).toNatClampNeg x1))))) (q_Re_seen (q_OL_now (u_OL_now z (u_Re_seenWho (q_OL_now z) (upd (q_Re_seenWho (q_OL_now z)) (q_Re_seen (q_OL_now z)).toNatClampNeg x1))))).toNatClampNeg 0))) (u_Re_seen (q_OL_now (u_OL_now (u_OL_now z (u_Re_seenWho (q_OL_now z) (upd (q_Re_seenWho (q_OL_now z)) (q_Re_seen (q_OL_now z)).toNatClampNeg x1))) (u_Re_seenCould (q_OL_now (u_OL_now z (u_Re_seenWho (q_OL_now z) (upd (q_Re_seenWho (q_OL_now z)) (q_Re_seen (q_OL_now z)).toNatClampNeg x1)))) (upd (q_Re_seenCould (q_OL_now (u_OL_now z (u_Re_seenWho (q_OL_now z) (upd (q_Re_seenWho (q_OL_now z)) (q_Re_seen (q_OL_now z)).toNatClampNeg x1))))) (q_Re_seen (q_OL_now (u_OL_now z (u_Re_seenWho (q_OL_now z) (upd (q_Re_seenWho (q_OL_now z)) (q_Re_seen (q_OL_now z)).toNatClampNeg x1))))).toNatClampNeg 0)))) ((q_Re_seen (q_OL_now (u_OL_now (u_OL_now z (u_Re_seenWho (q_OL_now z) (upd (q_Re_seenWho (q_OL_now z)) (q_Re_seen (q_OL_now z)).toNatClampNeg x1))) (u_Re_seenCould (q_OL_now (u_OL_now z (u_Re_seenWho (q_OL_now z) (upd (q_Re_seenWho (q_OL_now z)) (q_Re_seen (q_OL_now z)).toNatClampNeg x1)))) (upd (q_Re_seenCould (q_OL_now (u_OL_now z (u_Re_seenWho (q_OL_now z) (upd (q_Re_seenWho (q_OL_now z)) (q_Re_seen (q_OL_now z)).toNatClampNeg x1))))) (q_Re_seen (q_OL_now (u_OL_now z (u_Re_seenWho (q_OL_now z) (upd (q_Re_seenWho (q_OL_now z)) (q_Re_seen (q_OL_now z)).toNatClampNeg x1))))).toNatClampNeg 0))))) + 1))))) else none) else (if inb (q_Re_seen (q_OL_now (u_OL_now z (u_Re_seenWho (q_OL_now z) (upd (q_Re_seenWho (q_OL_now z)) (q_Re_seen (q_OL_now z)).toNatClampNeg x1))))) 12 = true then (some ((q_Re_seen (q_OL_now (u_OL_now (u_OL_now (u_OL_now z (u_Re_seenWho (q_OL_now z) (upd (q_Re_seenWho (q_OL_now z)) (q_Re_seen (q_OL_now z)).toNatClampNeg x1))) (u_Re_seenCould (q_OL_now (u_OL_now z (u_Re_seenWho (q_OL_now z) (upd (q_Re_seenWho (q_OL_now z)) (q_Re_seen (q_OL_now z)).toNatClampNeg x1)))) (upd (q_Re_seenCould (q_OL_now (u_OL_now z (u_Re_seenWho (q_OL_now z) (upd (q_Re_seenWho (q_OL_now z)) (q_Re_seen (q_OL_now z)).toNatClampNeg x1))))) (q_Re_seen (q_OL_now (u_OL_now z (u_Re_seenWho (q_OL_now z) (upd (q_Re_seenWho (q_OL_now z)) (q_Re_seen (q_OL_now z)).toNatClampNeg x1))))).toNatClampNeg 1))) (u_Re_seen (q_OL_now (u_OL_now (u_OL_now z (u_Re_seenWho (q_OL_now z) (upd (q_Re_seenWho (q_OL_now z)) (q_Re_seen (q_OL_now z)).toNatClampNeg x1))) (u_Re_seenCould (q_OL_now (u_OL_now z (u_Re_seenWho (q_OL_now z) (upd (q_Re_seenWho (q_OL_now z)) (q_Re_seen (q_OL_now z)).toNatClampNeg x1)))) (upd (q_Re_seenCould (q_OL_now (u_OL_now z (u_Re_seenWho (q_OL_now z) (upd (q_Re_seenWho (q_OL_now z)) (q_Re_seen (q_OL_now z)).toNatClampNeg x1))))) (q_Re_seen (q_OL_now (u_OL_now z (u_Re_seenWho (q_OL_now z) (upd (q_Re_seenWho (q_OL_now z)) (q_Re_seen (q_OL_now z)).toNatClampNeg x1))))).toNatClampNeg 1)))) ((q_Re_seen (q_OL_now (u_OL_now (u_OL_now z (u_Re_seenWho (q_OL_now z) (upd (q_Re_seenWho (q_OL_now z)) (q_Re_seen (q_OL_now z)).toNatClampNeg x1))) (u_Re_seenCould (q_OL_now (u_OL_now z (u_Re_seenWho (q_OL_now z) (upd (q_Re_seenWho (q_OL_now z)) (q_Re_seen (q_OL_now z)).toNatClampNeg x1)))) (upd (q_Re_seenCould (q_OL_now (u_OL_now z (u_Re_seenWho (q_OL_now z) (upd (q_Re_seenWho (q_OL_now z)) (q_Re_seen (q_OL_now z)).toNatClampNeg x1))))) (q_Re_seen (q_OL_now (u_OL_now z (u_Re_seenWho (q_OL_now z) (upd (q_Re_seenWho (q_OL_now z)) (q_Re_seen (q_OL_now z)).toNatClampNeg x1))))).toNatClampNeg 1))))) + 1))))), (u_OL_now (u_OL_now (u_OL_now z (u_Re_seenWho (q_OL_now z) (upd (q_Re_seenWho (q_OL_now z)) (q_Re_seen (q_OL_now z)).toNatClampNeg x1))) (u_Re_seenCould (q_OL_now (u_OL_now z (u_Re_seenWho (q_OL_now z) (upd (q_Re_seenWho (q_OL_now z)) (q_Re_seen (q_OL_now z)).toNatClampNeg x1)))) (upd (q_Re_seenCould (q_OL_now (u_OL_now z (u_Re_seenWho (q_OL_now z) (upd (q_Re_seenWho (q_OL_now z)) (q_Re_seen (q_OL_now z)).toNatClampNeg x1))))) (q_Re_seen (q_OL_now (u_OL_now z (u_Re_seenWho (q_OL_now z) (upd (q_Re_seenWho (q_OL_now z)) (q_Re_seen (q_OL_now z)).toNatClampNeg x1))))).toNatClampNeg 1))) (u_Re_seen (q_OL_now (u_OL_now (u_OL_now z (u_Re_seenWho (q_OL_now z) (upd (q_Re_seenWho (q_OL_now z)) (q_Re_seen (q_OL_now z)).toNatClampNeg x1))) (u_Re_seenCould (q_OL_now (u_OL_now z (u_Re_seenWho (q_OL_now z) (upd (q_Re_seenWho (q_OL_now z)) (q_Re_seen (q_OL_now z)).toNatClampNeg x1)))) (upd (q_Re_seenCould (q_OL_now (u_OL_now z (u_Re_seenWho (q_OL_now z) (upd (q_Re_seenWho (q_OL_now z)) (q_Re_seen (q_OL_now z)).toNatClampNeg x1))))) (q_Re_seen (q_OL_now (u_OL_now z (u_Re_seenWho (q_OL_now z) (upd (q_Re_seenWho (q_OL_now z)) (q_Re_seen (q_OL_now z)).toNatClampNeg x1))))).toNatClampNeg 1)))) ((q_Re_seen (q_OL_now (u_OL_now (u_OL_now z (u_Re_seenWho (q_OL_now z) (upd (q_Re_seenWho (q_OL_now z)) (q_Re_seen (q_OL_now z)).toNatClampNeg x1))) (u_Re_seenCould (q_OL_now (u_OL_now z (u_Re_seenWho (q_OL_now z) (upd (q_Re_seenWho (q_OL_now z)) (q_Re_seen (q_OL_now z)).toNatClampNeg x1)))) (upd (q_Re_seenCould (q_OL_now (u_OL_now z (u_Re_seenWho (q_OL_now z) (upd (q_Re_seenWho (q_OL_now z)) (q_Re_seen (q_OL_now z)).toNatClampNeg x1))))) (q_Re_seen (q_OL_now (u_OL_now z (u_Re_seenWho (q_OL_now z) (upd (q_Re_seenWho (q_OL_now z)) (q_Re_seen (q_OL_now z)).toNatClampNeg x1))))).toNatClampNeg 1))))) + 1))))) else none)) else none) else (some ((-4), z))))
theorem d_OL_see_0 : decode b_OL_see 0 = .ok (.iload_n 1, 1) := by decide +kernel
theorem d_OL_see_1 : decode b_OL_see 1 = .ok (.iconst (-1), 1) := by decide +kernel
theorem d_OL_see_2 : decode b_OL_see 2 = .ok (.if_icmp .ne 13, 3) := by decide +kernel
theorem d_OL_see_5 : decode b_OL_see 5 = .ok (.aload_n 0, 1) := by decide +kernel
theorem d_OL_see_6 : decode b_OL_see 6 = .ok (.getfield 12, 3) := by decide +kernel
theorem d_OL_see_9 : decode b_OL_see 9 = .ok (.iconst 0, 1) := by decide +kernel
theorem d_OL_see_10 : decode b_OL_see 10 = .ok (.putfield 258, 3) := by decide +kernel
theorem d_OL_see_13 : decode b_OL_see 13 = .ok (.iconst 0, 1) := by decide +kernel
theorem d_OL_see_14 : decode b_OL_see 14 = .ok (.ireturn, 1) := by decide +kernel
theorem d_OL_see_15 : decode b_OL_see 15 = .ok (.aload_n 0, 1) := by decide +kernel
theorem d_OL_see_16 : decode b_OL_see 16 = .ok (.getfield 12, 3) := by decide +kernel
theorem d_OL_see_19 : decode b_OL_see 19 = .ok (.getfield 95, 3) := by decide +kernel
theorem d_OL_see_22 : decode b_OL_see 22 = .ok (.iload_n 1, 1) := by decide +kernel
theorem d_OL_see_23 : decode b_OL_see 23 = .ok (.invokevirtual 108, 3) := by decide +kernel
theorem d_OL_see_26 : decode b_OL_see 26 = .ok (.ifCond .ne 5, 3) := by decide +kernel
theorem d_OL_see_29 : decode b_OL_see 29 = .ok (.iconst (-1), 1) := by decide +kernel
theorem d_OL_see_30 : decode b_OL_see 30 = .ok (.ireturn, 1) := by decide +kernel
theorem d_OL_see_31 : decode b_OL_see 31 = .ok (.aload_n 0, 1) := by decide +kernel
theorem d_OL_see_32 : decode b_OL_see 32 = .ok (.getfield 12, 3) := by decide +kernel
theorem d_OL_see_35 : decode b_OL_see 35 = .ok (.getfield 258, 3) := by decide +kernel
theorem d_OL_see_38 : decode b_OL_see 38 = .ok (.bipush 12, 2) := by decide +kernel
theorem d_OL_see_40 : decode b_OL_see 40 = .ok (.if_icmp .lt 6, 3) := by decide +kernel
theorem d_OL_see_43 : decode b_OL_see 43 = .ok (.bipush (-4), 2) := by decide +kernel
theorem d_OL_see_45 : decode b_OL_see 45 = .ok (.ireturn, 1) := by decide +kernel
theorem d_OL_see_46 : decode b_OL_see 46 = .ok (.aload_n 0, 1) := by decide +kernel
theorem d_OL_see_47 : decode b_OL_see 47 = .ok (.getfield 12, 3) := by decide +kernel
theorem d_OL_see_50 : decode b_OL_see 50 = .ok (.getfield 261, 3) := by decide +kernel
theorem d_OL_see_53 : decode b_OL_see 53 = .ok (.aload_n 0, 1) := by decide +kernel
theorem d_OL_see_54 : decode b_OL_see 54 = .ok (.getfield 12, 3) := by decide +kernel
theorem d_OL_see_57 : decode b_OL_see 57 = .ok (.getfield 258, 3) := by decide +kernel
theorem d_OL_see_60 : decode b_OL_see 60 = .ok (.iload_n 1, 1) := by decide +kernel
theorem d_OL_see_61 : decode b_OL_see 61 = .ok (.iastore, 1) := by decide +kernel
theorem d_OL_see_62 : decode b_OL_see 62 = .ok (.aload_n 0, 1) := by decide +kernel
theorem d_OL_see_63 : decode b_OL_see 63 = .ok (.getfield 12, 3) := by decide +kernel
theorem d_OL_see_66 : decode b_OL_see 66 = .ok (.getfield 264, 3) := by decide +kernel
theorem d_OL_see_69 : decode b_OL_see 69 = .ok (.aload_n 0, 1) := by decide +kernel
theorem d_OL_see_70 : decode b_OL_see 70 = .ok (.getfield 12, 3) := by decide +kernel
theorem d_OL_see_73 : decode b_OL_see 73 = .ok (.getfield 258, 3) := by decide +kernel
theorem d_OL_see_76 : decode b_OL_see 76 = .ok (.iload_n 2, 1) := by decide +kernel
theorem d_OL_see_77 : decode b_OL_see 77 = .ok (.ifCond .eq 7, 3) := by decide +kernel
theorem d_OL_see_80 : decode b_OL_see 80 = .ok (.iconst 1, 1) := by decide +kernel
theorem d_OL_see_81 : decode b_OL_see 81 = .ok (.goto 4, 3) := by decide +kernel
theorem d_OL_see_84 : decode b_OL_see 84 = .ok (.iconst 0, 1) := by decide +kernel
theorem d_OL_see_85 : decode b_OL_see 85 = .ok (.iastore, 1) := by decide +kernel
theorem d_OL_see_86 : decode b_OL_see 86 = .ok (.aload_n 0, 1) := by decide +kernel
theorem d_OL_see_87 : decode b_OL_see 87 = .ok (.getfield 12, 3) := by decide +kernel
theorem d_OL_see_90 : decode b_OL_see 90 = .ok (.dup, 1) := by decide +kernel
theorem d_OL_see_91 : decode b_OL_see 91 = .ok (.getfield 258, 3) := by decide +kernel
theorem d_OL_see_94 : decode b_OL_see 94 = .ok (.iconst 1, 1) := by decide +kernel
theorem d_OL_see_95 : decode b_OL_see 95 = .ok (.iadd, 1) := by decide +kernel
theorem d_OL_see_96 : decode b_OL_see 96 = .ok (.putfield 258, 3) := by decide +kernel
theorem d_OL_see_99 : decode b_OL_see 99 = .ok (.aload_n 0, 1) := by decide +kernel
theorem d_OL_see_100 : decode b_OL_see 100 = .ok (.getfield 12, 3) := by decide +kernel
theorem d_OL_see_103 : decode b_OL_see 103 = .ok (.getfield 258, 3) := by decide +kernel
theorem d_OL_see_106 : decode b_OL_see 106 = .ok (.ireturn, 1) := by decide +kernel
theorem o_OL_see : OkV y_OL_see "OwnsLift" b_OL_see 3 (some .int) 2 := ⟨⟨rfl, by decide +kernel, by decide +kernel, by decide +kernel⟩, g_915, g_916, g_71, g_917⟩
set_option maxHeartbeats 4000000 in
set_option maxRecDepth 100000 in
theorem c_OL_see (l : Launch) (D : va_G) (g : Nat → ClassId) (a : Nat → Nat) (x1 : Int32) (x2 : Int32) (z : T_OL) (v : Int32 × T_OL) (h : d_OL_see x1 x2 z = some v) :
    MI l y_OL_see b_OL_see 3 .int ({ frames := 1, cells := 0, slots := 0, locals := 21 } : Room) D g [.ref (a 0), .int x1, .int x2] (ws_OL g a z) (v.1) (ws_OL g a v.2) := by
  have hd := h
  unfold d_OL_see at hd
  refine enterI rfl (Nat.le_of_ble_eq_true rfl) (fun p e s m below meth c A ls hx hb hml hr hown hg hlk hK hA hP hD hS hCs hl => ?_)
  have hown : s.vm.findClass "OwnsLift" = some m.cls := hown
  have hl : lv_has ls 3 [(0, .ref (a 0)), (1, .int x1), (2, .int x2)] := hl
  show GI p l e s m ({ frames := 1, cells := 0, slots := 0, locals := 21 } : Room) ([.ref (a 0), .int x1, .int x2] : List Value).toArray below meth c A D g (ws_OL g a v.2) (v.1) s.heap [] (F0 m 0 ls [])
  refine lv_iload_n hx hb d_OL_see_0 rfl (lv_at hl 1 rfl) ?_
  refine lv_iconst (v := (-1)) hx hb d_OL_see_1 (by decide) ?_
  refine lv_icmp_ne (tgt := 15) hx hb d_OL_see_2 (by decide) (fun h_1 => ?_) (fun h_1 => ?_)
  · have hd := ite_f hd h_1
    refine lv_aload_n hx hb d_OL_see_15 rfl (lv_at hl 0 rfl) ?_
    refine va_get (D := D) (ci := 0) (v := .ref (a 1)) (C := R_OL) (T := F_OL) (N := 8) hx hb hg i_OL hown hK hP 0 rfl rfl 0 (by decide) (hg _ g_396) (fun _ h9 => h9) rfl d_OL_see_16 ?_
    refine va_get (D := D) (ci := 7) (v := .ref (a 8)) (C := R_Re) (T := F_Re) (N := 11) hx hb hg i_Re hown hK hP 1 rfl rfl 4 (by decide) (hg _ g_212) (fun _ h9 => h9) rfl d_OL_see_19 ?_
    refine lv_iload_n hx hb d_OL_see_22 rfl (lv_at hl 1 rfl) ?_
    obtain ⟨v_2, e_3, hd⟩ := bind_s hd
    refine callVI (ws' := ws_OL g a z) (rest := []) (As := [.int x1]) hx hb hml hown hg hK hP hD hS hA hCs hl.1 (c_Pe_has l D g (sh a 8) x1 (q_Re_people (q_OL_now z)) _ e_3) o_Pe_has g_629 (ci := 5) (q0 := 8) rfl rfl (List.range' 8 11) (segC1 rfl rfl) (by decide) rfl (segP1 rfl rfl) rfl rfl (Nat.le_of_ble_eq_true rfl) ⟨rfl, rfl, Nat.le_of_ble_eq_true rfl, Nat.le_of_ble_eq_true rfl⟩ d_OL_see_23 (fun H locs hP hD hS => ?_)
    refine lv_if_ne (tgt := 31) hx hb d_OL_see_26 (by decide) (fun h_4 => ?_) (fun h_4 => ?_)
    · have hd := ite_f hd h_4
      refine lv_aload_n hx hb d_OL_see_31 rfl (lv_at hl 0 rfl) ?_
      refine va_get (D := D) (ci := 0) (v := .ref (a 1)) (C := R_OL) (T := F_OL) (N := 8) hx hb hg i_OL hown hK hP 0 rfl rfl 0 (by decide) (hg _ g_396) (fun _ h9 => h9) rfl d_OL_see_32 ?_
      refine va_get (D := D) (ci := 7) (v := .int (q_Re_seen (q_OL_now z))) (C := R_Re) (T := F_Re) (N := 11) hx hb hg i_Re hown hK hP 1 rfl rfl 9 (by decide) (hg _ g_223) (fun _ h9 => h9) rfl d_OL_see_35 ?_
      refine lv_bipush (v := 12) hx hb d_OL_see_38 (by decide) ?_
      refine lv_icmp_lt (tgt := 46) hx hb d_OL_see_40 (by decide) (fun h_5 => ?_) (fun h_5 => ?_)
      · have hd := ite_t hd h_5
        refine lv_aload_n hx hb d_OL_see_46 rfl (lv_at hl 0 rfl) ?_
        refine va_get (D := D) (ci := 0) (v := .ref (a 1)) (C := R_OL) (T := F_OL) (N := 8) hx hb hg i_OL hown hK hP 0 rfl rfl 0 (by decide) (hg _ g_396) (fun _ h9 => h9) rfl d_OL_see_47 ?_
        refine va_get (D := D) (ci := 7) (v := .ref (a 22)) (C := R_Re) (T := F_Re) (N := 11) hx hb hg i_Re hown hK hP 1 rfl rfl 7 (by decide) (hg _ g_219) (fun _ h9 => h9) rfl d_OL_see_50 ?_
        refine lv_aload_n hx hb d_OL_see_53 rfl (lv_at hl 0 rfl) ?_
        refine va_get (D := D) (ci := 0) (v := .ref (a 1)) (C := R_OL) (T := F_OL) (N := 8) hx hb hg i_OL hown hK hP 0 rfl rfl 0 (by decide) (hg _ g_396) (fun _ h9 => h9) rfl d_OL_see_54 ?_
        refine va_get (D := D) (ci := 7) (v := .int (q_Re_seen (q_OL_now z))) (C := R_Re) (T := F_Re) (N := 11) hx hb hg i_Re hown hK hP 1 rfl rfl 9 (by decide) (hg _ g_223) (fun _ h9 => h9) rfl d_OL_see_57 ?_
        refine lv_iload_n hx hb d_OL_see_60 rfl (lv_at hl 1 rfl) ?_
        obtain ⟨h_9, hd⟩ := ite_s hd
        refine iastK hx hb hK hP hD hS 22 0 rfl rfl (inb_t h_9) rfl d_OL_see_61 (fun H locs hP hD hS => ?_)
        have hP : va_P D classes (ws_OL g a (u_OL_now z (u_Re_seenWho (q_OL_now z) (upd (q_Re_seenWho (q_OL_now z)) (q_Re_seen (q_OL_now z)).toNatClampNeg x1)))) H := hP
        have hD : va_D A (ws_OL g a (u_OL_now z (u_Re_seenWho (q_OL_now z) (upd (q_Re_seenWho (q_OL_now z)) (q_Re_seen (q_OL_now z)).toNatClampNeg x1)))) := hD
        refine lv_aload_n hx hb d_OL_see_62 rfl (lv_at hl 0 rfl) ?_
        refine va_get (D := D) (ci := 0) (v := .ref (a 1)) (C := R_OL) (T := F_OL) (N := 8) hx hb hg i_OL hown hK hP 0 rfl rfl 0 (by decide) (hg _ g_396) (fun _ h9 => h9) rfl d_OL_see_63 ?_
        refine va_get (D := D) (ci := 7) (v := .ref (a 23)) (C := R_Re) (T := F_Re) (N := 11) hx hb hg i_Re hown hK hP 1 rfl rfl 8 (by decide) (hg _ g_221) (fun _ h9 => h9) rfl d_OL_see_66 ?_
        refine lv_aload_n hx hb d_OL_see_69 rfl (lv_at hl 0 rfl) ?_
        refine va_get (D := D) (ci := 0) (v := .ref (a 1)) (C := R_OL) (T := F_OL) (N := 8) hx hb hg i_OL hown hK hP 0 rfl rfl 0 (by decide) (hg _ g_396) (fun _ h9 => h9) rfl d_OL_see_70 ?_
        refine va_get (D := D) (ci := 7) (v := .int (q_Re_seen (q_OL_now (u_OL_now z (u_Re_seenWho (q_OL_now z) (upd (q_Re_seenWho (q_OL_now z)) (q_Re_seen (q_OL_now z)).toNatClampNeg x1)))))) (C := R_Re) (T := F_Re) (N := 11) hx hb hg i_Re hown hK hP 1 rfl rfl 9 (by decide) (hg _ g_223) (fun _ h9 => h9) rfl d_OL_see_73 ?_
        refine lv_iload_n hx hb d_OL_see_76 rfl (lv_at hl 2 rfl) ?_
        refine lv_if_eq (tgt := 84) hx hb d_OL_see_77 (by decide) (fun h_6 => ?_) (fun h_6 => ?_)
        · have hd := ite_t hd h_6
          refine lv_iconst (v := 0) hx hb d_OL_see_84 (by decide) ?_
          obtain ⟨h_7, hd⟩ := ite_s hd
          refine iastK hx hb hK hP hD hS 23 0 rfl rfl (inb_t h_7) rfl d_OL_see_85 (fun H locs hP hD hS => ?_)
          have hP : va_P D classes (ws_OL g a (u_OL_now (u_OL_now z (u_Re_seenWho (q_OL_now z) (upd (q_Re_seenWho (q_OL_now z)) (q_Re_seen (q_OL_now z)).toNatClampNeg x1))) (u_Re_seenCould (q_OL_now (u_OL_now z (u_Re_seenWho (q_OL_now z) (upd (q_Re_seenWho (q_OL_now z)) (q_Re_seen (q_OL_now z)).toNatClampNeg x1)))) (upd (q_Re_seenCould (q_OL_now (u_OL_now z (u_Re_seenWho (q_OL_now z) (upd (q_Re_seenWho (q_OL_now z)) (q_Re_seen (q_OL_now z)).toNatClampNeg x1))))) (q_Re_seen (q_OL_now (u_OL_now z (u_Re_seenWho (q_OL_now z) (upd (q_Re_seenWho (q_OL_now z)) (q_Re_seen (q_OL_now z)).toNatClampNeg x1))))).toNatClampNeg 0)))) H := hP
          have hD : va_D A (ws_OL g a (u_OL_now (u_OL_now z (u_Re_seenWho (q_OL_now z) (upd (q_Re_seenWho (q_OL_now z)) (q_Re_seen (q_OL_now z)).toNatClampNeg x1))) (u_Re_seenCould (q_OL_now (u_OL_now z (u_Re_seenWho (q_OL_now z) (upd (q_Re_seenWho (q_OL_now z)) (q_Re_seen (q_OL_now z)).toNatClampNeg x1)))) (upd (q_Re_seenCould (q_OL_now (u_OL_now z (u_Re_seenWho (q_OL_now z) (upd (q_Re_seenWho (q_OL_now z)) (q_Re_seen (q_OL_now z)).toNatClampNeg x1))))) (q_Re_seen (q_OL_now (u_OL_now z (u_Re_seenWho (q_OL_now z) (upd (q_Re_seenWho (q_OL_now z)) (q_Re_seen (q_OL_now z)).toNatClampNeg x1))))).toNatClampNeg 0)))) := hD
          refine lv_aload_n hx hb d_OL_see_86 rfl (lv_at hl 0 rfl) ?_
          refine va_get (D := D) (ci := 0) (v := .ref (a 1)) (C := R_OL) (T := F_OL) (N := 8) hx hb hg i_OL hown hK hP 0 rfl rfl 0 (by decide) (hg _ g_396) (fun _ h9 => h9) rfl d_OL_see_87 ?_
          refine lv_dup hx hb d_OL_see_90 rfl ?_
          refine va_get (D := D) (ci := 7) (v := .int (q_Re_seen (q_OL_now (u_OL_now (u_OL_now z (u_Re_seenWho (q_OL_now z) (upd (q_Re_seenWho (q_OL_now z)) (q_Re_seen (q_OL_now z)).toNatClampNeg x1))) (u_Re_seenCould (q_OL_now (u_OL_now z (u_Re_seenWho (q_OL_now z) (upd (q_Re_seenWho (q_OL_now z)) (q_Re_seen (q_OL_now z)).toNatClampNeg x1)))) (upd (q_Re_seenCould (q_OL_now (u_OL_now z (u_Re_seenWho (q_OL_now z) (upd (q_Re_seenWho (q_OL_now z)) (q_Re_seen (q_OL_now z)).toNatClampNeg x1))))) (q_Re_seen (q_OL_now (u_OL_now z (u_Re_seenWho (q_OL_now z) (upd (q_Re_seenWho (q_OL_now z)) (q_Re_seen (q_OL_now z)).toNatClampNeg x1))))).toNatClampNeg 0)))))) (C := R_Re) (T := F_Re) (N := 11) hx hb hg i_Re hown hK hP 1 rfl rfl 9 (by decide) (hg _ g_223) (fun _ h9 => h9) rfl d_OL_see_91 ?_
          refine lv_iconst (v := 1) hx hb d_OL_see_94 (by decide) ?_
          refine lv_iadd hx hb d_OL_see_95 ?_
          refine va_put (D := D) (ci := 7) (v := .int ((q_Re_seen (q_OL_now (u_OL_now (u_OL_now z (u_Re_seenWho (q_OL_now z) (upd (q_Re_seenWho (q_OL_now z)) (q_Re_seen (q_OL_now z)).toNatClampNeg x1))) (u_Re_seenCould (q_OL_now (u_OL_now z (u_Re_seenWho (q_OL_now z) (upd (q_Re_seenWho (q_OL_now z)) (q_Re_seen (q_OL_now z)).toNatClampNeg x1)))) (upd (q_Re_seenCould (q_OL_now (u_OL_now z (u_Re_seenWho (q_OL_now z) (upd (q_Re_seenWho (q_OL_now z)) (q_Re_seen (q_OL_now z)).toNatClampNeg x1))))) (q_Re_seen (q_OL_now (u_OL_now z (u_Re_seenWho (q_OL_now z) (upd (q_Re_seenWho (q_OL_now z)) (q_Re_seen (q_OL_now z)).toNatClampNeg x1))))).toNatClampNeg 0))))) + 1)) (ty := .int) (C := R_Re) (T := F_Re) (N := 11) hx hb hg i_Re t_Re t_Re_ok n_Re hown hK hP hD hS 1 rfl rfl 9 (by decide) (hg _ g_223) (fun _ h9 => h9) rfl (by decide +kernel) rfl rfl (Nat.le_of_ble_eq_true rfl) d_OL_see_96 (fun H locs hP hD hS => ?_)
          have hP : va_P D classes (ws_OL g a (u_OL_now (u_OL_now (u_OL_now z (u_Re_seenWho (q_OL_now z) (upd (q_Re_seenWho (q_OL_now z)) (q_Re_seen (q_OL_now z)).toNatClampNeg x1))) (u_Re_seenCould (q_OL_now (u_OL_now z (u_Re_seenWho (q_OL_now z) (upd (q_Re_seenWho (q_OL_now z)) (q_Re_seen (q_OL_now z)).toNatClampNeg x1)))) (upd (q_Re_seenCould (q_OL_now (u_OL_now z (u_Re_seenWho (q_OL_now z) (upd (q_Re_seenWho (q_OL_now z)) (q_Re_seen (q_OL_now z)).toNatClampNeg x1))))) (q_Re_seen (q_OL_now (u_OL_now z (u_Re_seenWho (q_OL_now z) (upd (q_Re_seenWho (q_OL_now z)) (q_Re_seen (q_OL_now z)).toNatClampNeg x1))))).toNatClampNeg 0))) (u_Re_seen (q_OL_now (u_OL_now (u_OL_now z (u_Re_seenWho (q_OL_now z) (upd (q_Re_seenWho (q_OL_now z)) (q_Re_seen (q_OL_now z)).toNatClampNeg x1))) (u_Re_seenCould (q_OL_now (u_OL_now z (u_Re_seenWho (q_OL_now z) (upd (q_Re_seenWho (q_OL_now z)) (q_Re_seen (q_OL_now z)).toNatClampNeg x1)))) (upd (q_Re_seenCould (q_OL_now (u_OL_now z (u_Re_seenWho (q_OL_now z) (upd (q_Re_seenWho (q_OL_now z)) (q_Re_seen (q_OL_now z)).toNatClampNeg x1))))) (q_Re_seen (q_OL_now (u_OL_now z (u_Re_seenWho (q_OL_now z) (upd (q_Re_seenWho (q_OL_now z)) (q_Re_seen (q_OL_now z)).toNatClampNeg x1))))).toNatClampNeg 0)))) ((q_Re_seen (q_OL_now (u_OL_now (u_OL_now z (u_Re_seenWho (q_OL_now z) (upd (q_Re_seenWho (q_OL_now z)) (q_Re_seen (q_OL_now z)).toNatClampNeg x1))) (u_Re_seenCould (q_OL_now (u_OL_now z (u_Re_seenWho (q_OL_now z) (upd (q_Re_seenWho (q_OL_now z)) (q_Re_seen (q_OL_now z)).toNatClampNeg x1)))) (upd (q_Re_seenCould (q_OL_now (u_OL_now z (u_Re_seenWho (q_OL_now z) (upd (q_Re_seenWho (q_OL_now z)) (q_Re_seen (q_OL_now z)).toNatClampNeg x1))))) (q_Re_seen (q_OL_now (u_OL_now z (u_Re_seenWho (q_OL_now z) (upd (q_Re_seenWho (q_OL_now z)) (q_Re_seen (q_OL_now z)).toNatClampNeg x1))))).toNatClampNeg 0))))) + 1)))) H := hP
          have hD : va_D A (ws_OL g a (u_OL_now (u_OL_now (u_OL_now z (u_Re_seenWho (q_OL_now z) (upd (q_Re_seenWho (q_OL_now z)) (q_Re_seen (q_OL_now z)).toNatClampNeg x1))) (u_Re_seenCould (q_OL_now (u_OL_now z (u_Re_seenWho (q_OL_now z) (upd (q_Re_seenWho (q_OL_now z)) (q_Re_seen (q_OL_now z)).toNatClampNeg x1)))) (upd (q_Re_seenCould (q_OL_now (u_OL_now z (u_Re_seenWho (q_OL_now z) (upd (q_Re_seenWho (q_OL_now z)) (q_Re_seen (q_OL_now z)).toNatClampNeg x1))))) (q_Re_seen (q_OL_now (u_OL_now z (u_Re_seenWho (q_OL_now z) (upd (q_Re_seenWho (q_OL_now z)) (q_Re_seen (q_OL_now z)).toNatClampNeg x1))))).toNatClampNeg 0))) (u_Re_seen (q_OL_now (u_OL_now (u_OL_now z (u_Re_seenWho (q_OL_now z) (upd (q_Re_seenWho (q_OL_now z)) (q_Re_seen (q_OL_now z)).toNatClampNeg x1))) (u_Re_seenCould (q_OL_now (u_OL_now z (u_Re_seenWho (q_OL_now z) (upd (q_Re_seenWho (q_OL_now z)) (q_Re_seen (q_OL_now z)).toNatClampNeg x1)))) (upd (q_Re_seenCould (q_OL_now (u_OL_now z (u_Re_seenWho (q_OL_now z) (upd (q_Re_seenWho (q_OL_now z)) (q_Re_seen (q_OL_now z)).toNatClampNeg x1))))) (q_Re_seen (q_OL_now (u_OL_now z (u_Re_seenWho (q_OL_now z) (upd (q_Re_seenWho (q_OL_now z)) (q_Re_seen (q_OL_now z)).toNatClampNeg x1))))).toNatClampNeg 0)))) ((q_Re_seen (q_OL_now (u_OL_now (u_OL_now z (u_Re_seenWho (q_OL_now z) (upd (q_Re_seenWho (q_OL_now z)) (q_Re_seen (q_OL_now z)).toNatClampNeg x1))) (u_Re_seenCould (q_OL_now (u_OL_now z (u_Re_seenWho (q_OL_now z) (upd (q_Re_seenWho (q_OL_now z)) (q_Re_seen (q_OL_now z)).toNatClampNeg x1)))) (upd (q_Re_seenCould (q_OL_now (u_OL_now z (u_Re_seenWho (q_OL_now z) (upd (q_Re_seenWho (q_OL_now z)) (q_Re_seen (q_OL_now z)).toNatClampNeg x1))))) (q_Re_seen (q_OL_now (u_OL_now z (u_Re_seenWho (q_OL_now z) (upd (q_Re_seenWho (q_OL_now z)) (q_Re_seen (q_OL_now z)).toNatClampNeg x1))))).toNatClampNeg 0))))) + 1)))) := hD
          refine lv_aload_n hx hb d_OL_see_99 rfl (lv_at hl 0 rfl) ?_
          refine va_get (D := D) (ci := 0) (v := .ref (a 1)) (C := R_OL) (T := F_OL) (N := 8) hx hb hg i_OL hown hK hP 0 rfl rfl 0 (by decide) (hg _ g_396) (fun _ h9 => h9) rfl d_OL_see_100 ?_
          refine va_get (D := D) (ci := 7) (v := .int (q_Re_seen (q_OL_now (u_OL_now (u_OL_now (u_OL_now z (u_Re_seenWho (q_OL_now z) (upd (q_Re_seenWho (q_OL_now z)) (q_Re_seen (q_OL_now z)).toNatClampNeg x1))) (u_Re_seenCould (q_OL_now (u_OL_now z (u_Re_seenWho (q_OL_now z) (upd (q_Re_seenWho (q_OL_now z)) (q_Re_seen (q_OL_now z)).toNatClampNeg x1)))) (upd (q_Re_seenCould (q_OL_now (u_OL_now z (u_Re_seenWho (q_OL_now z) (upd (q_Re_seenWho (q_OL_now z)) (q_Re_seen (q_OL_now z)).toNatClampNeg x1))))) (q_Re_seen (q_OL_now (u_OL_now z (u_Re_seenWho (q_OL_now z) (upd (q_Re_seenWho (q_OL_now z)) (q_Re_seen (q_OL_now z)).toNatClampNeg x1))))).toNatClampNeg 0))) (u_Re_seen (q_OL_now (u_OL_now (u_OL_now z (u_Re_seenWho (q_OL_now z) (upd (q_Re_seenWho (q_OL_now z)) (q_Re_seen (q_OL_now z)).toNatClampNeg x1))) (u_Re_seenCould (q_OL_now (u_OL_now z (u_Re_seenWho (q_OL_now z) (upd (q_Re_seenWho (q_OL_now z)) (q_Re_seen (q_OL_now z)).toNatClampNeg x1)))) (upd (q_Re_seenCould (q_OL_now (u_OL_now z (u_Re_seenWho (q_OL_now z) (upd (q_Re_seenWho (q_OL_now z)) (q_Re_seen (q_OL_now z)).toNatClampNeg x1))))) (q_Re_seen (q_OL_now (u_OL_now z (u_Re_seenWho (q_OL_now z) (upd (q_Re_seenWho (q_OL_now z)) (q_Re_seen (q_OL_now z)).toNatClampNeg x1))))).toNatClampNeg 0)))) ((q_Re_seen (q_OL_now (u_OL_now (u_OL_now z (u_Re_seenWho (q_OL_now z) (upd (q_Re_seenWho (q_OL_now z)) (q_Re_seen (q_OL_now z)).toNatClampNeg x1))) (u_Re_seenCould (q_OL_now (u_OL_now z (u_Re_seenWho (q_OL_now z) (upd (q_Re_seenWho (q_OL_now z)) (q_Re_seen (q_OL_now z)).toNatClampNeg x1)))) (upd (q_Re_seenCould (q_OL_now (u_OL_now z (u_Re_seenWho (q_OL_now z) (upd (q_Re_seenWho (q_OL_now z)) (q_Re_seen (q_OL_now z)).toNatClampNeg x1))))) (q_Re_seen (q_OL_now (u_OL_now z (u_Re_seenWho (q_OL_now z) (upd (q_Re_seenWho (q_OL_now z)) (q_Re_seen (q_OL_now z)).toNatClampNeg x1))))).toNatClampNeg 0))))) + 1)))))) (C := R_Re) (T := F_Re) (N := 11) hx hb hg i_Re hown hK hP 1 rfl rfl 9 (by decide) (hg _ g_223) (fun _ h9 => h9) rfl d_OL_see_103 ?_
          obtain rfl := Option.some.inj hd
          exact retI hx hb hr hlk hK hP hD hS d_OL_see_106 rfl
        · have hd := ite_f hd h_6
          refine lv_iconst (v := 1) hx hb d_OL_see_80 (by decide) ?_
          refine lv_goto (tgt := 85) hx hb d_OL_see_81 (by decide) ?_
          obtain ⟨h_8, hd⟩ := ite_s hd
          refine iastK hx hb hK hP hD hS 23 0 rfl rfl (inb_t h_8) rfl d_OL_see_85 (fun H locs hP hD hS => ?_)
          have hP : va_P D classes (ws_OL g a (u_OL_now (u_OL_now z (u_Re_seenWho (q_OL_now z) (upd (q_Re_seenWho (q_OL_now z)) (q_Re_seen (q_OL_now z)).toNatClampNeg x1))) (u_Re_seenCould (q_OL_now (u_OL_now z (u_Re_seenWho (q_OL_now z) (upd (q_Re_seenWho (q_OL_now z)) (q_Re_seen (q_OL_now z)).toNatClampNeg x1)))) (upd (q_Re_seenCould (q_OL_now (u_OL_now z (u_Re_seenWho (q_OL_now z) (upd (q_Re_seenWho (q_OL_now z)) (q_Re_seen (q_OL_now z)).toNatClampNeg x1))))) (q_Re_seen (q_OL_now (u_OL_now z (u_Re_seenWho (q_OL_now z) (upd (q_Re_seenWho (q_OL_now z)) (q_Re_seen (q_OL_now z)).toNatClampNeg x1))))).toNatClampNeg 1)))) H := hP
          have hD : va_D A (ws_OL g a (u_OL_now (u_OL_now z (u_Re_seenWho (q_OL_now z) (upd (q_Re_seenWho (q_OL_now z)) (q_Re_seen (q_OL_now z)).toNatClampNeg x1))) (u_Re_seenCould (q_OL_now (u_OL_now z (u_Re_seenWho (q_OL_now z) (upd (q_Re_seenWho (q_OL_now z)) (q_Re_seen (q_OL_now z)).toNatClampNeg x1)))) (upd (q_Re_seenCould (q_OL_now (u_OL_now z (u_Re_seenWho (q_OL_now z) (upd (q_Re_seenWho (q_OL_now z)) (q_Re_seen (q_OL_now z)).toNatClampNeg x1))))) (q_Re_seen (q_OL_now (u_OL_now z (u_Re_seenWho (q_OL_now z) (upd (q_Re_seenWho (q_OL_now z)) (q_Re_seen (q_OL_now z)).toNatClampNeg x1))))).toNatClampNeg 1)))) := hD
          refine lv_aload_n hx hb d_OL_see_86 rfl (lv_at hl 0 rfl) ?_
          refine va_get (D := D) (ci := 0) (v := .ref (a 1)) (C := R_OL) (T := F_OL) (N := 8) hx hb hg i_OL hown hK hP 0 rfl rfl 0 (by decide) (hg _ g_396) (fun _ h9 => h9) rfl d_OL_see_87 ?_
          refine lv_dup hx hb d_OL_see_90 rfl ?_
          refine va_get (D := D) (ci := 7) (v := .int (q_Re_seen (q_OL_now (u_OL_now (u_OL_now z (u_Re_seenWho (q_OL_now z) (upd (q_Re_seenWho (q_OL_now z)) (q_Re_seen (q_OL_now z)).toNatClampNeg x1))) (u_Re_seenCould (q_OL_now (u_OL_now z (u_Re_seenWho (q_OL_now z) (upd (q_Re_seenWho (q_OL_now z)) (q_Re_seen (q_OL_now z)).toNatClampNeg x1)))) (upd (q_Re_seenCould (q_OL_now (u_OL_now z (u_Re_seenWho (q_OL_now z) (upd (q_Re_seenWho (q_OL_now z)) (q_Re_seen (q_OL_now z)).toNatClampNeg x1))))) (q_Re_seen (q_OL_now (u_OL_now z (u_Re_seenWho (q_OL_now z) (upd (q_Re_seenWho (q_OL_now z)) (q_Re_seen (q_OL_now z)).toNatClampNeg x1))))).toNatClampNeg 1)))))) (C := R_Re) (T := F_Re) (N := 11) hx hb hg i_Re hown hK hP 1 rfl rfl 9 (by decide) (hg _ g_223) (fun _ h9 => h9) rfl d_OL_see_91 ?_
          refine lv_iconst (v := 1) hx hb d_OL_see_94 (by decide) ?_
          refine lv_iadd hx hb d_OL_see_95 ?_
          refine va_put (D := D) (ci := 7) (v := .int ((q_Re_seen (q_OL_now (u_OL_now (u_OL_now z (u_Re_seenWho (q_OL_now z) (upd (q_Re_seenWho (q_OL_now z)) (q_Re_seen (q_OL_now z)).toNatClampNeg x1))) (u_Re_seenCould (q_OL_now (u_OL_now z (u_Re_seenWho (q_OL_now z) (upd (q_Re_seenWho (q_OL_now z)) (q_Re_seen (q_OL_now z)).toNatClampNeg x1)))) (upd (q_Re_seenCould (q_OL_now (u_OL_now z (u_Re_seenWho (q_OL_now z) (upd (q_Re_seenWho (q_OL_now z)) (q_Re_seen (q_OL_now z)).toNatClampNeg x1))))) (q_Re_seen (q_OL_now (u_OL_now z (u_Re_seenWho (q_OL_now z) (upd (q_Re_seenWho (q_OL_now z)) (q_Re_seen (q_OL_now z)).toNatClampNeg x1))))).toNatClampNeg 1))))) + 1)) (ty := .int) (C := R_Re) (T := F_Re) (N := 11) hx hb hg i_Re t_Re t_Re_ok n_Re hown hK hP hD hS 1 rfl rfl 9 (by decide) (hg _ g_223) (fun _ h9 => h9) rfl (by decide +kernel) rfl rfl (Nat.le_of_ble_eq_true rfl) d_OL_see_96 (fun H locs hP hD hS => ?_)
          have hP : va_P D classes (ws_OL g a (u_OL_now (u_OL_now (u_OL_now z (u_Re_seenWho (q_OL_now z) (upd (q_Re_seenWho (q_OL_now z)) (q_Re_seen (q_OL_now z)).toNatClampNeg x1))) (u_Re_seenCould (q_OL_now (u_OL_now z (u_Re_seenWho (q_OL_now z) (upd (q_Re_seenWho (q_OL_now z)) (q_Re_seen (q_OL_now z)).toNatClampNeg x1)))) (upd (q_Re_seenCould (q_OL_now (u_OL_now z (u_Re_seenWho (q_OL_now z) (upd (q_Re_seenWho (q_OL_now z)) (q_Re_seen (q_OL_now z)).toNatClampNeg x1))))) (q_Re_seen (q_OL_now (u_OL_now z (u_Re_seenWho (q_OL_now z) (upd (q_Re_seenWho (q_OL_now z)) (q_Re_seen (q_OL_now z)).toNatClampNeg x1))))).toNatClampNeg 1))) (u_Re_seen (q_OL_now (u_OL_now (u_OL_now z (u_Re_seenWho (q_OL_now z) (upd (q_Re_seenWho (q_OL_now z)) (q_Re_seen (q_OL_now z)).toNatClampNeg x1))) (u_Re_seenCould (q_OL_now (u_OL_now z (u_Re_seenWho (q_OL_now z) (upd (q_Re_seenWho (q_OL_now z)) (q_Re_seen (q_OL_now z)).toNatClampNeg x1)))) (upd (q_Re_seenCould (q_OL_now (u_OL_now z (u_Re_seenWho (q_OL_now z) (upd (q_Re_seenWho (q_OL_now z)) (q_Re_seen (q_OL_now z)).toNatClampNeg x1))))) (q_Re_seen (q_OL_now (u_OL_now z (u_Re_seenWho (q_OL_now z) (upd (q_Re_seenWho (q_OL_now z)) (q_Re_seen (q_OL_now z)).toNatClampNeg x1))))).toNatClampNeg 1)))) ((q_Re_seen (q_OL_now (u_OL_now (u_OL_now z (u_Re_seenWho (q_OL_now z) (upd (q_Re_seenWho (q_OL_now z)) (q_Re_seen (q_OL_now z)).toNatClampNeg x1))) (u_Re_seenCould (q_OL_now (u_OL_now z (u_Re_seenWho (q_OL_now z) (upd (q_Re_seenWho (q_OL_now z)) (q_Re_seen (q_OL_now z)).toNatClampNeg x1)))) (upd (q_Re_seenCould (q_OL_now (u_OL_now z (u_Re_seenWho (q_OL_now z) (upd (q_Re_seenWho (q_OL_now z)) (q_Re_seen (q_OL_now z)).toNatClampNeg x1))))) (q_Re_seen (q_OL_now (u_OL_now z (u_Re_seenWho (q_OL_now z) (upd (q_Re_seenWho (q_OL_now z)) (q_Re_seen (q_OL_now z)).toNatClampNeg x1))))).toNatClampNeg 1))))) + 1)))) H := hP
          have hD : va_D A (ws_OL g a (u_OL_now (u_OL_now (u_OL_now z (u_Re_seenWho (q_OL_now z) (upd (q_Re_seenWho (q_OL_now z)) (q_Re_seen (q_OL_now z)).toNatClampNeg x1))) (u_Re_seenCould (q_OL_now (u_OL_now z (u_Re_seenWho (q_OL_now z) (upd (q_Re_seenWho (q_OL_now z)) (q_Re_seen (q_OL_now z)).toNatClampNeg x1)))) (upd (q_Re_seenCould (q_OL_now (u_OL_now z (u_Re_seenWho (q_OL_now z) (upd (q_Re_seenWho (q_OL_now z)) (q_Re_seen (q_OL_now z)).toNatClampNeg x1))))) (q_Re_seen (q_OL_now (u_OL_now z (u_Re_seenWho (q_OL_now z) (upd (q_Re_seenWho (q_OL_now z)) (q_Re_seen (q_OL_now z)).toNatClampNeg x1))))).toNatClampNeg 1))) (u_Re_seen (q_OL_now (u_OL_now (u_OL_now z (u_Re_seenWho (q_OL_now z) (upd (q_Re_seenWho (q_OL_now z)) (q_Re_seen (q_OL_now z)).toNatClampNeg x1))) (u_Re_seenCould (q_OL_now (u_OL_now z (u_Re_seenWho (q_OL_now z) (upd (q_Re_seenWho (q_OL_now z)) (q_Re_seen (q_OL_now z)).toNatClampNeg x1)))) (upd (q_Re_seenCould (q_OL_now (u_OL_now z (u_Re_seenWho (q_OL_now z) (upd (q_Re_seenWho (q_OL_now z)) (q_Re_seen (q_OL_now z)).toNatClampNeg x1))))) (q_Re_seen (q_OL_now (u_OL_now z (u_Re_seenWho (q_OL_now z) (upd (q_Re_seenWho (q_OL_now z)) (q_Re_seen (q_OL_now z)).toNatClampNeg x1))))).toNatClampNeg 1)))) ((q_Re_seen (q_OL_now (u_OL_now (u_OL_now z (u_Re_seenWho (q_OL_now z) (upd (q_Re_seenWho (q_OL_now z)) (q_Re_seen (q_OL_now z)).toNatClampNeg x1))) (u_Re_seenCould (q_OL_now (u_OL_now z (u_Re_seenWho (q_OL_now z) (upd (q_Re_seenWho (q_OL_now z)) (q_Re_seen (q_OL_now z)).toNatClampNeg x1)))) (upd (q_Re_seenCould (q_OL_now (u_OL_now z (u_Re_seenWho (q_OL_now z) (upd (q_Re_seenWho (q_OL_now z)) (q_Re_seen (q_OL_now z)).toNatClampNeg x1))))) (q_Re_seen (q_OL_now (u_OL_now z (u_Re_seenWho (q_OL_now z) (upd (q_Re_seenWho (q_OL_now z)) (q_Re_seen (q_OL_now z)).toNatClampNeg x1))))).toNatClampNeg 1))))) + 1)))) := hD
          refine lv_aload_n hx hb d_OL_see_99 rfl (lv_at hl 0 rfl) ?_
          refine va_get (D := D) (ci := 0) (v := .ref (a 1)) (C := R_OL) (T := F_OL) (N := 8) hx hb hg i_OL hown hK hP 0 rfl rfl 0 (by decide) (hg _ g_396) (fun _ h9 => h9) rfl d_OL_see_100 ?_
          refine va_get (D := D) (ci := 7) (v := .int (q_Re_seen (q_OL_now (u_OL_now (u_OL_now (u_OL_now z (u_Re_seenWho (q_OL_now z) (upd (q_Re_seenWho (q_OL_now z)) (q_Re_seen (q_OL_now z)).toNatClampNeg x1))) (u_Re_seenCould (q_OL_now (u_OL_now z (u_Re_seenWho (q_OL_now z) (upd (q_Re_seenWho (q_OL_now z)) (q_Re_seen (q_OL_now z)).toNatClampNeg x1)))) (upd (q_Re_seenCould (q_OL_now (u_OL_now z (u_Re_seenWho (q_OL_now z) (upd (q_Re_seenWho (q_OL_now z)) (q_Re_seen (q_OL_now z)).toNatClampNeg x1))))) (q_Re_seen (q_OL_now (u_OL_now z (u_Re_seenWho (q_OL_now z) (upd (q_Re_seenWho (q_OL_now z)) (q_Re_seen (q_OL_now z)).toNatClampNeg x1))))).toNatClampNeg 1))) (u_Re_seen (q_OL_now (u_OL_now (u_OL_now z (u_Re_seenWho (q_OL_now z) (upd (q_Re_seenWho (q_OL_now z)) (q_Re_seen (q_OL_now z)).toNatClampNeg x1))) (u_Re_seenCould (q_OL_now (u_OL_now z (u_Re_seenWho (q_OL_now z) (upd (q_Re_seenWho (q_OL_now z)) (q_Re_seen (q_OL_now z)).toNatClampNeg x1)))) (upd (q_Re_seenCould (q_OL_now (u_OL_now z (u_Re_seenWho (q_OL_now z) (upd (q_Re_seenWho (q_OL_now z)) (q_Re_seen (q_OL_now z)).toNatClampNeg x1))))) (q_Re_seen (q_OL_now (u_OL_now z (u_Re_seenWho (q_OL_now z) (upd (q_Re_seenWho (q_OL_now z)) (q_Re_seen (q_OL_now z)).toNatClampNeg x1))))).toNatClampNeg 1)))) ((q_Re_seen (q_OL_now (u_OL_now (u_OL_now z (u_Re_seenWho (q_OL_now z) (upd (q_Re_seenWho (q_OL_now z)) (q_Re_seen (q_OL_now z)).toNatClampNeg x1))) (u_Re_seenCould (q_OL_now (u_OL_now z (u_Re_seenWho (q_OL_now z) (upd (q_Re_seenWho (q_OL_now z)) (q_Re_seen (q_OL_now z)).toNatClampNeg x1)))) (upd (q_Re_seenCould (q_OL_now (u_OL_now z (u_Re_seenWho (q_OL_now z) (upd (q_Re_seenWho (q_OL_now z)) (q_Re_seen (q_OL_now z)).toNatClampNeg x1))))) (q_Re_seen (q_OL_now (u_OL_now z (u_Re_seenWho (q_OL_now z) (upd (q_Re_seenWho (q_OL_now z)) (q_Re_seen (q_OL_now z)).toNatClampNeg x1))))).toNatClampNeg 1))))) + 1)))))) (C := R_Re) (T := F_Re) (N := 11) hx hb hg i_Re hown hK hP 1 rfl rfl 9 (by decide) (hg _ g_223) (fun _ h9 => h9) rfl d_OL_see_103 ?_
          obtain rfl := Option.some.inj hd
          exact retI hx hb hr hlk hK hP hD hS d_OL_see_106 rfl
      · have hd := ite_f hd h_5
        refine lv_bipush (v := (-4)) hx hb d_OL_see_43 (by decide) ?_
        obtain rfl := Option.some.inj hd
        exact retI hx hb hr hlk hK hP hD hS d_OL_see_45 rfl
    · have hd := ite_t hd h_4
      refine lv_iconst (v := (-1)) hx hb d_OL_see_29 (by decide) ?_
      obtain rfl := Option.some.inj hd
      exact retI hx hb hr hlk hK hP hD hS d_OL_see_30 rfl
  · have hd := ite_t hd h_1
    refine lv_aload_n hx hb d_OL_see_5 rfl (lv_at hl 0 rfl) ?_
    refine va_get (D := D) (ci := 0) (v := .ref (a 1)) (C := R_OL) (T := F_OL) (N := 8) hx hb hg i_OL hown hK hP 0 rfl rfl 0 (by decide) (hg _ g_396) (fun _ h9 => h9) rfl d_OL_see_6 ?_
    refine lv_iconst (v := 0) hx hb d_OL_see_9 (by decide) ?_
    refine va_put (D := D) (ci := 7) (v := .int 0) (ty := .int) (C := R_Re) (T := F_Re) (N := 11) hx hb hg i_Re t_Re t_Re_ok n_Re hown hK hP hD hS 1 rfl rfl 9 (by decide) (hg _ g_223) (fun _ h9 => h9) rfl (by decide +kernel) rfl rfl (Nat.le_of_ble_eq_true rfl) d_OL_see_10 (fun H locs hP hD hS => ?_)
    have hP : va_P D classes (ws_OL g a (u_OL_now z (u_Re_seen (q_OL_now z) 0))) H := hP
    have hD : va_D A (ws_OL g a (u_OL_now z (u_Re_seen (q_OL_now z) 0))) := hD
    refine lv_iconst (v := 0) hx hb d_OL_see_13 (by decide) ?_
    obtain rfl := Option.some.inj hd
    exact retI hx hb hr hlk hK hP hD hS d_OL_see_14 rfl
-- OwnsLift.looked()I
def B_OL_looked_L13 (self13 : Int32 → T_OL → Option (Int32 × T_OL)) (x1_13 : Int32) (z_13 : T_OL) : Option (Int32 × T_OL) :=
  if (q_Re_seen (q_OL_now z_13)) ≤ x1_13 then (some ((-5), z_13)) else (if inb x1_13 12 = true then ((d_St_over ((q_Re_seenWho (q_OL_now z_13)) x1_13.toNatClampNeg) (q_OL_standing z_13)).bind fun v_4 => if v_4 = 0 then (if inb x1_13 12 = true then (if 1 = ((q_Re_seenCould (q_OL_now z_13)) x1_13.toNatClampNeg) then ((d_St_lighten ((q_Re_seenWho (q_OL_now z_13)) x1_13.toNatClampNeg) (q_OL_standing z_13) (q_Re_people (q_OL_now z_13))).bind fun v_8 => self13 (x1_13 + 1) (u_OL_standing z_13 v_8.2)) else (some (x1_13, z_13))) else none) else (if inb x1_13 12 = true then (if 0 = ((q_Re_seenCould (q_OL_now z_13)) x1_13.toNatClampNeg) then ((d_St_lighten ((q_Re_seenWho (q_OL_now z_13)) x1_13.toNatClampNeg) (q_OL_standing z_13) (q_Re_people (q_OL_now z_13))).bind fun v_12 => self13 (x1_13 + 1) (u_OL_standing z_13 v_12.2)) else (some (x1_13, z_13))) else none)) else none)
def d_OL_looked_L13 (n : Nat) : Int32 → T_OL → Option (Int32 × T_OL) := recN (fun _ _ => none) (fun self => B_OL_looked_L13 self) n
def d_OL_looked (z : T_OL) : Option (Int32 × T_OL) :=
  (d_St_take (q_OL_standing z) (q_OL_now z)).bind fun v_1 => d_OL_looked_L13  1000 0 (u_OL_now (u_OL_standing z v_1.1) v_1.2)
theorem d_OL_looked_0 : decode b_OL_looked 0 = .ok (.aload_n 0, 1) := by decide +kernel
theorem d_OL_looked_1 : decode b_OL_looked 1 = .ok (.getfield 31, 3) := by decide +kernel
theorem d_OL_looked_4 : decode b_OL_looked 4 = .ok (.aload_n 0, 1) := by decide +kernel
theorem d_OL_looked_5 : decode b_OL_looked 5 = .ok (.getfield 12, 3) := by decide +kernel
theorem d_OL_looked_8 : decode b_OL_looked 8 = .ok (.invokevirtual 111, 3) := by decide +kernel
theorem d_OL_looked_11 : decode b_OL_looked 11 = .ok (.iconst 0, 1) := by decide +kernel
theorem d_OL_looked_12 : decode b_OL_looked 12 = .ok (.istore_n 1, 1) := by decide +kernel
theorem d_OL_looked_13 : decode b_OL_looked 13 = .ok (.iload_n 1, 1) := by decide +kernel
theorem d_OL_looked_14 : decode b_OL_looked 14 = .ok (.aload_n 0, 1) := by decide +kernel
theorem d_OL_looked_15 : decode b_OL_looked 15 = .ok (.getfield 12, 3) := by decide +kernel
theorem d_OL_looked_18 : decode b_OL_looked 18 = .ok (.getfield 258, 3) := by decide +kernel
theorem d_OL_looked_21 : decode b_OL_looked 21 = .ok (.if_icmp .ge 67, 3) := by decide +kernel
theorem d_OL_looked_24 : decode b_OL_looked 24 = .ok (.aload_n 0, 1) := by decide +kernel
theorem d_OL_looked_25 : decode b_OL_looked 25 = .ok (.getfield 12, 3) := by decide +kernel
theorem d_OL_looked_28 : decode b_OL_looked 28 = .ok (.getfield 261, 3) := by decide +kernel
theorem d_OL_looked_31 : decode b_OL_looked 31 = .ok (.iload_n 1, 1) := by decide +kernel
theorem d_OL_looked_32 : decode b_OL_looked 32 = .ok (.iaload, 1) := by decide +kernel
theorem d_OL_looked_33 : decode b_OL_looked 33 = .ok (.istore_n 2, 1) := by decide +kernel
theorem d_OL_looked_34 : decode b_OL_looked 34 = .ok (.aload_n 0, 1) := by decide +kernel
theorem d_OL_looked_35 : decode b_OL_looked 35 = .ok (.getfield 31, 3) := by decide +kernel
theorem d_OL_looked_38 : decode b_OL_looked 38 = .ok (.iload_n 2, 1) := by decide +kernel
theorem d_OL_looked_39 : decode b_OL_looked 39 = .ok (.invokevirtual 134, 3) := by decide +kernel
theorem d_OL_looked_42 : decode b_OL_looked 42 = .ok (.ifCond .eq 7, 3) := by decide +kernel
theorem d_OL_looked_45 : decode b_OL_looked 45 = .ok (.iconst 0, 1) := by decide +kernel
theorem d_OL_looked_46 : decode b_OL_looked 46 = .ok (.goto 4, 3) := by decide +kernel
theorem d_OL_looked_49 : decode b_OL_looked 49 = .ok (.iconst 1, 1) := by decide +kernel
theorem d_OL_looked_50 : decode b_OL_looked 50 = .ok (.istore_n 3, 1) := by decide +kernel
theorem d_OL_looked_51 : decode b_OL_looked 51 = .ok (.iload_n 3, 1) := by decide +kernel
theorem d_OL_looked_52 : decode b_OL_looked 52 = .ok (.aload_n 0, 1) := by decide +kernel
theorem d_OL_looked_53 : decode b_OL_looked 53 = .ok (.getfield 12, 3) := by decide +kernel
theorem d_OL_looked_56 : decode b_OL_looked 56 = .ok (.getfield 264, 3) := by decide +kernel
theorem d_OL_looked_59 : decode b_OL_looked 59 = .ok (.iload_n 1, 1) := by decide +kernel
theorem d_OL_looked_60 : decode b_OL_looked 60 = .ok (.iaload, 1) := by decide +kernel
theorem d_OL_looked_61 : decode b_OL_looked 61 = .ok (.if_icmp .eq 5, 3) := by decide +kernel
theorem d_OL_looked_64 : decode b_OL_looked 64 = .ok (.iload_n 1, 1) := by decide +kernel
theorem d_OL_looked_65 : decode b_OL_looked 65 = .ok (.ireturn, 1) := by decide +kernel
theorem d_OL_looked_66 : decode b_OL_looked 66 = .ok (.aload_n 0, 1) := by decide +kernel
theorem d_OL_looked_67 : decode b_OL_looked 67 = .ok (.getfield 31, 3) := by decide +kernel
theorem d_OL_looked_70 : decode b_OL_looked 70 = .ok (.aload_n 0, 1) := by decide +kernel
theorem d_OL_looked_71 : decode b_OL_looked 71 = .ok (.getfield 12, 3) := by decide +kernel
theorem d_OL_looked_74 : decode b_OL_looked 74 = .ok (.getfield 95, 3) := by decide +kernel
theorem d_OL_looked_77 : decode b_OL_looked 77 = .ok (.iload_n 2, 1) := by decide +kernel
theorem d_OL_looked_78 : decode b_OL_looked 78 = .ok (.invokevirtual 172, 3) := by decide +kernel
theorem d_OL_looked_81 : decode b_OL_looked 81 = .ok (.pop, 1) := by decide +kernel
theorem d_OL_looked_82 : decode b_OL_looked 82 = .ok (.iinc 1 1, 3) := by decide +kernel
theorem d_OL_looked_85 : decode b_OL_looked 85 = .ok (.goto (-72), 3) := by decide +kernel
theorem d_OL_looked_88 : decode b_OL_looked 88 = .ok (.bipush (-5), 2) := by decide +kernel
theorem d_OL_looked_90 : decode b_OL_looked 90 = .ok (.ireturn, 1) := by decide +kernel
theorem o_OL_looked : OkV y_OL_looked "OwnsLift" b_OL_looked 4 (some .int) 0 := ⟨⟨rfl, by decide +kernel, by decide +kernel, by decide +kernel⟩, g_919, g_920, g_71, g_921⟩
set_option maxHeartbeats 4000000 in
set_option maxRecDepth 100000 in
theorem c_OL_looked (l : Launch) (D : va_G) (g : Nat → ClassId) (a : Nat → Nat) (z : T_OL) (v : Int32 × T_OL) (h : d_OL_looked z = some v) :
    MI l y_OL_looked b_OL_looked 4 .int ({ frames := 5, cells := 0, slots := 0, locals := 119 } : Room) D g [.ref (a 0)] (ws_OL g a z) (v.1) (ws_OL g a v.2) := by
  have hd := h
  unfold d_OL_looked at hd
  refine enterI rfl (Nat.le_of_ble_eq_true rfl) (fun p e s m below meth c A ls hx hb hml hr hown hg hlk hK hA hP hD hS hCs hl => ?_)
  have hown : s.vm.findClass "OwnsLift" = some m.cls := hown
  have hl : lv_has ls 4 [(0, .ref (a 0))] := hl
  show GI p l e s m ({ frames := 5, cells := 0, slots := 0, locals := 119 } : Room) ([.ref (a 0)] : List Value).toArray below meth c A D g (ws_OL g a v.2) (v.1) s.heap [] (F0 m 0 ls [])
  refine lv_aload_n hx hb d_OL_looked_0 rfl (lv_at hl 0 rfl) ?_
  refine va_get (D := D) (ci := 0) (v := .ref (a 56)) (C := R_OL) (T := F_OL) (N := 8) hx hb hg i_OL hown hK hP 0 rfl rfl 4 (by decide) (hg _ g_400) (fun _ h9 => h9) rfl d_OL_looked_1 ?_
  refine lv_aload_n hx hb d_OL_looked_4 rfl (lv_at hl 0 rfl) ?_
  refine va_get (D := D) (ci := 0) (v := .ref (a 1)) (C := R_OL) (T := F_OL) (N := 8) hx hb hg i_OL hown hK hP 0 rfl rfl 0 (by decide) (hg _ g_396) (fun _ h9 => h9) rfl d_OL_looked_5 ?_
  obtain ⟨v_1, e_2, hd⟩ := bind_s hd
  refine callVV (ws' := ws_OL g a (u_OL_now (u_OL_standing z v_1.1) v_1.2)) (rest := []) (As := [.ref ((sh a 1) 0)]) hx hb hml hown hg hK hP hD hS hA hCs hl.1 (c_St_take l D g (sh a 56) (sh a 1) (q_OL_standing z) (q_OL_now z) _ e_2) o_St_take g_633 (ci := 9) (q0 := 56) rfl rfl (List.range' 56 10 ++ List.range' 1 24) (segC2 rfl rfl rfl rfl) (by decide) rfl (segP2 rfl rfl rfl) rfl rfl (Nat.le_of_ble_eq_true rfl) ⟨rfl, rfl, Nat.le_of_ble_eq_true rfl, Nat.le_of_ble_eq_true rfl⟩ d_OL_looked_8 (fun H locs hP hD hS => ?_)
  refine lv_iconst (v := 0) hx hb d_OL_looked_11 (by decide) ?_
  refine lv_istore_n (lv' := [(1, .int 0), (0, .ref (a 0))]) hx hb d_OL_looked_12 rfl hl (by decide) rfl (fun ls hl => ?_)
  have lp13 : ∀ (n : Nat) (x1_13 : Int32) (z_13 : T_OL) (H : Heap) (locs : List Loc) (ls : Array Slot), va_P D classes (ws_OL g a z_13) H → va_D A (ws_OL g a z_13) → va_S A s.heap H locs → lv_has ls 4 [(0, .ref (a 0)), (1, .int x1_13)] → d_OL_looked_L13 n x1_13 z_13 = some v → GI p l e s m ({ frames := 5, cells := 0, slots := 0, locals := 119 } : Room) ([.ref (a 0)] : List Value).toArray below meth c A D g (ws_OL g a v.2) (v.1) H locs (F0 m 13 ls []) := by
    intro n
    induction n with
    | zero =>
      intro  x1_13 z_13 H locs ls hP hD hS hl hd
      have hd : none = some v := hd
      cases hd
    | succ n ih13 =>
      intro  x1_13 z_13 H locs ls hP hD hS hl hd
      have hd : B_OL_looked_L13 (d_OL_looked_L13 n) x1_13 z_13 = some v := hd
      generalize d_OL_looked_L13 n = self13 at ih13 hd
      unfold B_OL_looked_L13 at hd
      refine lv_iload_n hx hb d_OL_looked_13 rfl (lv_at hl 1 rfl) ?_
      refine lv_aload_n hx hb d_OL_looked_14 rfl (lv_at hl 0 rfl) ?_
      refine va_get (D := D) (ci := 0) (v := .ref (a 1)) (C := R_OL) (T := F_OL) (N := 8) hx hb hg i_OL hown hK hP 0 rfl rfl 0 (by decide) (hg _ g_396) (fun _ h9 => h9) rfl d_OL_looked_15 ?_
      refine va_get (D := D) (ci := 7) (v := .int (q_Re_seen (q_OL_now z_13))) (C := R_Re) (T := F_Re) (N := 11) hx hb hg i_Re hown hK hP 1 rfl rfl 9 (by decide) (hg _ g_223) (fun _ h9 => h9) rfl d_OL_looked_18 ?_
      refine lv_icmp_ge (tgt := 88) hx hb d_OL_looked_21 (by decide) (fun h_3 => ?_) (fun h_3 => ?_)
      · have hd := ite_t hd h_3
        refine lv_bipush (v := (-5)) hx hb d_OL_looked_88 (by decide) ?_
        obtain rfl := Option.some.inj hd
        exact retI hx hb hr hlk hK hP hD hS d_OL_looked_90 rfl
      · have hd := ite_f hd h_3
        refine lv_aload_n hx hb d_OL_looked_24 rfl (lv_at hl 0 rfl) ?_
        refine va_get (D := D) (ci := 0) (v := .ref (a 1)) (C := R_OL) (T := F_OL) (N := 8) hx hb hg i_OL hown hK hP 0 rfl rfl 0 (by decide) (hg _ g_396) (fun _ h9 => h9) rfl d_OL_looked_25 ?_
        refine va_get (D := D) (ci := 7) (v := .ref (a 22)) (C := R_Re) (T := F_Re) (N := 11) hx hb hg i_Re hown hK hP 1 rfl rfl 7 (by decide) (hg _ g_219) (fun _ h9 => h9) rfl d_OL_looked_28 ?_
        refine lv_iload_n hx hb d_OL_looked_31 rfl (lv_at hl 1 rfl) ?_
        obtain ⟨h_15, hd⟩ := ite_s hd
        refine ialdK hx hb hK hP 22 0 rfl rfl (inb_t h_15) rfl d_OL_looked_32 ?_
        refine lv_istore_n (lv' := [(2, .int ((q_Re_seenWho (q_OL_now z_13)) x1_13.toNatClampNeg)), (0, .ref (a 0)), (1, .int x1_13)]) hx hb d_OL_looked_33 rfl hl (by decide) rfl (fun ls hl => ?_)
        refine lv_aload_n hx hb d_OL_looked_34 rfl (lv_at hl 1 rfl) ?_
        refine va_get (D := D) (ci := 0) (v := .ref (a 56)) (C := R_OL) (T := F_OL) (N := 8) hx hb hg i_OL hown hK hP 0 rfl rfl 4 (by decide) (hg _ g_400) (fun _ h9 => h9) rfl d_OL_looked_35 ?_
        refine lv_iload_n hx hb d_OL_looked_38 rfl (lv_at hl 0 rfl) ?_
        obtain ⟨v_4, e_5, hd⟩ := bind_s hd
        refine callVI (ws' := ws_OL g a z_13) (rest := []) (As := [.int ((q_Re_seenWho (q_OL_now z_13)) x1_13.toNatClampNeg)]) hx hb hml hown hg hK hP hD hS hA hCs hl.1 (c_St_over l D g (sh a 56) ((q_Re_seenWho (q_OL_now z_13)) x1_13.toNatClampNeg) (q_OL_standing z_13) _ e_5) o_St_over g_686 (ci := 9) (q0 := 56) rfl rfl (List.range' 56 10) (segC1 rfl rfl) (by decide) rfl (segP1 rfl rfl) rfl rfl (Nat.le_of_ble_eq_true rfl) ⟨rfl, rfl, Nat.le_of_ble_eq_true rfl, Nat.le_of_ble_eq_true rfl⟩ d_OL_looked_39 (fun H locs hP hD hS => ?_)
        refine lv_if_eq (tgt := 49) hx hb d_OL_looked_42 (by decide) (fun h_6 => ?_) (fun h_6 => ?_)
        · have hd := ite_t hd h_6
          refine lv_iconst (v := 1) hx hb d_OL_looked_49 (by decide) ?_
          refine lv_istore_n (lv' := [(3, .int 1), (2, .int ((q_Re_seenWho (q_OL_now z_13)) x1_13.toNatClampNeg)), (0, .ref (a 0)), (1, .int x1_13)]) hx hb d_OL_looked_50 rfl hl (by decide) rfl (fun ls hl => ?_)
          refine lv_iload_n hx hb d_OL_looked_51 rfl (lv_at hl 0 rfl) ?_
          refine lv_aload_n hx hb d_OL_looked_52 rfl (lv_at hl 2 rfl) ?_
          refine va_get (D := D) (ci := 0) (v := .ref (a 1)) (C := R_OL) (T := F_OL) (N := 8) hx hb hg i_OL hown hK hP 0 rfl rfl 0 (by decide) (hg _ g_396) (fun _ h9 => h9) rfl d_OL_looked_53 ?_
          refine va_get (D := D) (ci := 7) (v := .ref (a 23)) (C := R_Re) (T := F_Re) (N := 11) hx hb hg i_Re hown hK hP 1 rfl rfl 8 (by decide) (hg _ g_221) (fun _ h9 => h9) rfl d_OL_looked_56 ?_
          refine lv_iload_n hx hb d_OL_looked_59 rfl (lv_at hl 3 rfl) ?_
          obtain ⟨h_10, hd⟩ := ite_s hd
          refine ialdK hx hb hK hP 23 0 rfl rfl (inb_t h_10) rfl d_OL_looked_60 ?_
          refine lv_icmp_eq (tgt := 66) hx hb d_OL_looked_61 (by decide) (fun h_7 => ?_) (fun h_7 => ?_)
          · have hd := ite_t hd h_7
            refine lv_aload_n hx hb d_OL_looked_66 rfl (lv_at hl 2 rfl) ?_
            refine va_get (D := D) (ci := 0) (v := .ref (a 56)) (C := R_OL) (T := F_OL) (N := 8) hx hb hg i_OL hown hK hP 0 rfl rfl 4 (by decide) (hg _ g_400) (fun _ h9 => h9) rfl d_OL_looked_67 ?_
            refine lv_aload_n hx hb d_OL_looked_70 rfl (lv_at hl 2 rfl) ?_
            refine va_get (D := D) (ci := 0) (v := .ref (a 1)) (C := R_OL) (T := F_OL) (N := 8) hx hb hg i_OL hown hK hP 0 rfl rfl 0 (by decide) (hg _ g_396) (fun _ h9 => h9) rfl d_OL_looked_71 ?_
            refine va_get (D := D) (ci := 7) (v := .ref (a 8)) (C := R_Re) (T := F_Re) (N := 11) hx hb hg i_Re hown hK hP 1 rfl rfl 4 (by decide) (hg _ g_212) (fun _ h9 => h9) rfl d_OL_looked_74 ?_
            refine lv_iload_n hx hb d_OL_looked_77 rfl (lv_at hl 1 rfl) ?_
            obtain ⟨v_8, e_9, hd⟩ := bind_s hd
            refine callVI (ws' := ws_OL g a (u_OL_standing z_13 v_8.2)) (rest := []) (As := [.ref ((sh a 8) 0), .int ((q_Re_seenWho (q_OL_now z_13)) x1_13.toNatClampNeg)]) hx hb hml hown hg hK hP hD hS hA hCs hl.1 (c_St_lighten l D g (sh a 56) (sh a 8) ((q_Re_seenWho (q_OL_now z_13)) x1_13.toNatClampNeg) (q_OL_standing z_13) (q_Re_people (q_OL_now z_13)) _ e_9) o_St_lighten g_737 (ci := 9) (q0 := 56) rfl rfl (List.range' 56 10 ++ List.range' 8 11) (segC2 rfl rfl rfl rfl) (by decide) rfl (segP2 rfl rfl rfl) rfl rfl (Nat.le_of_ble_eq_true rfl) ⟨rfl, rfl, Nat.le_of_ble_eq_true rfl, Nat.le_of_ble_eq_true rfl⟩ d_OL_looked_78 (fun H locs hP hD hS => ?_)
            refine lv_pop hx hb d_OL_looked_81 rfl ?_
            refine lv_iinc (v := x1_13 + 1) (lv' := [(1, .int (x1_13 + 1)), (3, .int 1), (2, .int ((q_Re_seenWho (q_OL_now z_13)) x1_13.toNatClampNeg)), (0, .ref (a 0))]) hx hb d_OL_looked_82 hl (k := 3) rfl (by rfl) (by decide) rfl (fun ls hl => ?_)
            refine lv_goto (tgt := 13) hx hb d_OL_looked_85 (by decide) ?_
            exact ih13 (x1_13 + 1) (u_OL_standing z_13 v_8.2) _ _ _ hP hD hS (lv_sub hl [3, 0] rfl) hd
          · have hd := ite_f hd h_7
            refine lv_iload_n hx hb d_OL_looked_64 rfl (lv_at hl 3 rfl) ?_
            obtain rfl := Option.some.inj hd
            exact retI hx hb hr hlk hK hP hD hS d_OL_looked_65 rfl
        · have hd := ite_f hd h_6
          refine lv_iconst (v := 0) hx hb d_OL_looked_45 (by decide) ?_
          refine lv_goto (tgt := 50) hx hb d_OL_looked_46 (by decide) ?_
          refine lv_istore_n (lv' := [(3, .int 0), (2, .int ((q_Re_seenWho (q_OL_now z_13)) x1_13.toNatClampNeg)), (0, .ref (a 0)), (1, .int x1_13)]) hx hb d_OL_looked_50 rfl hl (by decide) rfl (fun ls hl => ?_)
          refine lv_iload_n hx hb d_OL_looked_51 rfl (lv_at hl 0 rfl) ?_
          refine lv_aload_n hx hb d_OL_looked_52 rfl (lv_at hl 2 rfl) ?_
          refine va_get (D := D) (ci := 0) (v := .ref (a 1)) (C := R_OL) (T := F_OL) (N := 8) hx hb hg i_OL hown hK hP 0 rfl rfl 0 (by decide) (hg _ g_396) (fun _ h9 => h9) rfl d_OL_looked_53 ?_
          refine va_get (D := D) (ci := 7) (v := .ref (a 23)) (C := R_Re) (T := F_Re) (N := 11) hx hb hg i_Re hown hK hP 1 rfl rfl 8 (by decide) (hg _ g_221) (fun _ h9 => h9) rfl d_OL_looked_56 ?_
          refine lv_iload_n hx hb d_OL_looked_59 rfl (lv_at hl 3 rfl) ?_
          obtain ⟨h_14, hd⟩ := ite_s hd
          refine ialdK hx hb hK hP 23 0 rfl rfl (inb_t h_14) rfl d_OL_looked_60 ?_
          refine lv_icmp_eq (tgt := 66) hx hb d_OL_looked_61 (by decide) (fun h_11 => ?_) (fun h_11 => ?_)
          · have hd := ite_t hd h_11
            refine lv_aload_n hx hb d_OL_looked_66 rfl (lv_at hl 2 rfl) ?_
            refine va_get (D := D) (ci := 0) (v := .ref (a 56)) (C := R_OL) (T := F_OL) (N := 8) hx hb hg i_OL hown hK hP 0 rfl rfl 4 (by decide) (hg _ g_400) (fun _ h9 => h9) rfl d_OL_looked_67 ?_
            refine lv_aload_n hx hb d_OL_looked_70 rfl (lv_at hl 2 rfl) ?_
            refine va_get (D := D) (ci := 0) (v := .ref (a 1)) (C := R_OL) (T := F_OL) (N := 8) hx hb hg i_OL hown hK hP 0 rfl rfl 0 (by decide) (hg _ g_396) (fun _ h9 => h9) rfl d_OL_looked_71 ?_
            refine va_get (D := D) (ci := 7) (v := .ref (a 8)) (C := R_Re) (T := F_Re) (N := 11) hx hb hg i_Re hown hK hP 1 rfl rfl 4 (by decide) (hg _ g_212) (fun _ h9 => h9) rfl d_OL_looked_74 ?_
            refine lv_iload_n hx hb d_OL_looked_77 rfl (lv_at hl 1 rfl) ?_
            obtain ⟨v_12, e_13, hd⟩ := bind_s hd
            refine callVI (ws' := ws_OL g a (u_OL_standing z_13 v_12.2)) (rest := []) (As := [.ref ((sh a 8) 0), .int ((q_Re_seenWho (q_OL_now z_13)) x1_13.toNatClampNeg)]) hx hb hml hown hg hK hP hD hS hA hCs hl.1 (c_St_lighten l D g (sh a 56) (sh a 8) ((q_Re_seenWho (q_OL_now z_13)) x1_13.toNatClampNeg) (q_OL_standing z_13) (q_Re_people (q_OL_now z_13)) _ e_13) o_St_lighten g_737 (ci := 9) (q0 := 56) rfl rfl (List.range' 56 10 ++ List.range' 8 11) (segC2 rfl rfl rfl rfl) (by decide) rfl (segP2 rfl rfl rfl) rfl rfl (Nat.le_of_ble_eq_true rfl) ⟨rfl, rfl, Nat.le_of_ble_eq_true rfl, Nat.le_of_ble_eq_true rfl⟩ d_OL_looked_78 (fun H locs hP hD hS => ?_)
            refine lv_pop hx hb d_OL_looked_81 rfl ?_
            refine lv_iinc (v := x1_13 + 1) (lv' := [(1, .int (x1_13 + 1)), (3, .int 0), (2, .int ((q_Re_seenWho (q_OL_now z_13)) x1_13.toNatClampNeg)), (0, .ref (a 0))]) hx hb d_OL_looked_82 hl (k := 3) rfl (by rfl) (by decide) rfl (fun ls hl => ?_)
            refine lv_goto (tgt := 13) hx hb d_OL_looked_85 (by decide) ?_
            exact ih13 (x1_13 + 1) (u_OL_standing z_13 v_12.2) _ _ _ hP hD hS (lv_sub hl [3, 0] rfl) hd
          · have hd := ite_f hd h_11
            refine lv_iload_n hx hb d_OL_looked_64 rfl (lv_at hl 3 rfl) ?_
            obtain rfl := Option.some.inj hd
            exact retI hx hb hr hlk hK hP hD hS d_OL_looked_65 rfl
  exact lp13 1000 0 (u_OL_now (u_OL_standing z v_1.1) v_1.2) _ _ _ hP hD hS (lv_sub hl [1, 0] rfl) hd
-- OwnsLift.act(III)I
def d_OL_act (x1 : Int32) (x2 : Int32) (x3 : Int32) (z : T_OL) : Option (Int32 × T_OL) :=
  (d_Ac_forget (q_OL_acts z)).bind fun v_1 => (d_Pe_has x1 (q_Re_people (q_OL_now (u_OL_acts z v_1)))).bind fun v_3 => if v_3 = 0 then (some (0, (u_OL_acts z v_1))) else ((d_OL_within x2 2).bind fun v_6 => if v_6 = 0 then (some (0, (u_OL_acts z v_1))) else ((d_Ac_take x1 (q_OL_acts (u_OL_acts z v_1)) (q_Re_people (q_OL_now (u_OL_acts z v_1)))).bind fun v_9 => if inb x1 4 = true then ((d_Ac_run 64 ((q_Pe_kind (q_Re_people (q_OL_now (u_OL_acts (u_OL_acts z v_1) v_9)))) x1.toNatClampNeg) x2 x3 0 (q_OL_acts (u_OL_acts (u_OL_acts z v_1) v_9))).bind fun v_11 => some (v_11.1, (u_OL_acts (u_OL_acts (u_OL_acts z v_1) v_9) v_11.2))) else none))
theorem d_OL_act_0 : decode b_OL_act 0 = .ok (.aload_n 0, 1) := by decide +kernel
theorem d_OL_act_1 : decode b_OL_act 1 = .ok (.getfield 52, 3) := by decide +kernel
theorem d_OL_act_4 : decode b_OL_act 4 = .ok (.invokevirtual 267, 3) := by decide +kernel
theorem d_OL_act_7 : decode b_OL_act 7 = .ok (.aload_n 0, 1) := by decide +kernel
theorem d_OL_act_8 : decode b_OL_act 8 = .ok (.getfield 12, 3) := by decide +kernel
theorem d_OL_act_11 : decode b_OL_act 11 = .ok (.getfield 95, 3) := by decide +kernel
theorem d_OL_act_14 : decode b_OL_act 14 = .ok (.iload_n 1, 1) := by decide +kernel
theorem d_OL_act_15 : decode b_OL_act 15 = .ok (.invokevirtual 108, 3) := by decide +kernel
theorem d_OL_act_18 : decode b_OL_act 18 = .ok (.ifCond .eq 11, 3) := by decide +kernel
theorem d_OL_act_21 : decode b_OL_act 21 = .ok (.iload_n 2, 1) := by decide +kernel
theorem d_OL_act_22 : decode b_OL_act 22 = .ok (.iconst 2, 1) := by decide +kernel
theorem d_OL_act_23 : decode b_OL_act 23 = .ok (.invokestatic 91, 3) := by decide +kernel
theorem d_OL_act_26 : decode b_OL_act 26 = .ok (.ifCond .ne 5, 3) := by decide +kernel
theorem d_OL_act_29 : decode b_OL_act 29 = .ok (.iconst 0, 1) := by decide +kernel
theorem d_OL_act_30 : decode b_OL_act 30 = .ok (.ireturn, 1) := by decide +kernel
theorem d_OL_act_31 : decode b_OL_act 31 = .ok (.aload_n 0, 1) := by decide +kernel
theorem d_OL_act_32 : decode b_OL_act 32 = .ok (.getfield 52, 3) := by decide +kernel
theorem d_OL_act_35 : decode b_OL_act 35 = .ok (.aload_n 0, 1) := by decide +kernel
theorem d_OL_act_36 : decode b_OL_act 36 = .ok (.getfield 12, 3) := by decide +kernel
theorem d_OL_act_39 : decode b_OL_act 39 = .ok (.getfield 95, 3) := by decide +kernel
theorem d_OL_act_42 : decode b_OL_act 42 = .ok (.iload_n 1, 1) := by decide +kernel
theorem d_OL_act_43 : decode b_OL_act 43 = .ok (.invokevirtual 270, 3) := by decide +kernel
theorem d_OL_act_46 : decode b_OL_act 46 = .ok (.aload_n 0, 1) := by decide +kernel
theorem d_OL_act_47 : decode b_OL_act 47 = .ok (.getfield 52, 3) := by decide +kernel
theorem d_OL_act_50 : decode b_OL_act 50 = .ok (.aload_n 0, 1) := by decide +kernel
theorem d_OL_act_51 : decode b_OL_act 51 = .ok (.getfield 12, 3) := by decide +kernel
theorem d_OL_act_54 : decode b_OL_act 54 = .ok (.getfield 95, 3) := by decide +kernel
theorem d_OL_act_57 : decode b_OL_act 57 = .ok (.getfield 115, 3) := by decide +kernel
theorem d_OL_act_60 : decode b_OL_act 60 = .ok (.iload_n 1, 1) := by decide +kernel
theorem d_OL_act_61 : decode b_OL_act 61 = .ok (.iaload, 1) := by decide +kernel
theorem d_OL_act_62 : decode b_OL_act 62 = .ok (.iload_n 2, 1) := by decide +kernel
theorem d_OL_act_63 : decode b_OL_act 63 = .ok (.iload_n 3, 1) := by decide +kernel
theorem d_OL_act_64 : decode b_OL_act 64 = .ok (.iconst 0, 1) := by decide +kernel
theorem d_OL_act_65 : decode b_OL_act 65 = .ok (.invokevirtual 273, 3) := by decide +kernel
theorem d_OL_act_68 : decode b_OL_act 68 = .ok (.ireturn, 1) := by decide +kernel
theorem o_OL_act : OkV y_OL_act "OwnsLift" b_OL_act 4 (some .int) 3 := ⟨⟨rfl, by decide +kernel, by decide +kernel, by decide +kernel⟩, g_923, g_924, g_71, g_925⟩
set_option maxHeartbeats 4000000 in
set_option maxRecDepth 100000 in
theorem c_OL_act (l : Launch) (D : va_G) (g : Nat → ClassId) (a : Nat → Nat) (x1 : Int32) (x2 : Int32) (x3 : Int32) (z : T_OL) (v : Int32 × T_OL) (h : d_OL_act x1 x2 x3 z = some v) :
    MI l y_OL_act b_OL_act 4 .int ({ frames := 131, cells := 0, slots := 0, locals := 3890 } : Room) D g [.ref (a 0), .int x1, .int x2, .int x3] (ws_OL g a z) (v.1) (ws_OL g a v.2) := by
  have hd := h
  unfold d_OL_act at hd
  refine enterI rfl (Nat.le_of_ble_eq_true rfl) (fun p e s m below meth c A ls hx hb hml hr hown hg hlk hK hA hP hD hS hCs hl => ?_)
  have hown : s.vm.findClass "OwnsLift" = some m.cls := hown
  have hl : lv_has ls 4 [(0, .ref (a 0)), (1, .int x1), (2, .int x2), (3, .int x3)] := hl
  show GI p l e s m ({ frames := 131, cells := 0, slots := 0, locals := 3890 } : Room) ([.ref (a 0), .int x1, .int x2, .int x3] : List Value).toArray below meth c A D g (ws_OL g a v.2) (v.1) s.heap [] (F0 m 0 ls [])
  refine lv_aload_n hx hb d_OL_act_0 rfl (lv_at hl 0 rfl) ?_
  refine va_get (D := D) (ci := 0) (v := .ref (a 81)) (C := R_OL) (T := F_OL) (N := 8) hx hb hg i_OL hown hK hP 0 rfl rfl 7 (by decide) (hg _ g_403) (fun _ h9 => h9) rfl d_OL_act_1 ?_
  obtain ⟨v_1, e_2, hd⟩ := bind_s hd
  refine callVV (ws' := ws_OL g a (u_OL_acts z v_1)) (rest := []) (As := []) hx hb hml hown hg hK hP hD hS hA hCs hl.1 (c_Ac_forget l D g (sh a 81) (q_OL_acts z) _ e_2) o_Ac_forget g_926 (ci := 2) (q0 := 81) rfl rfl (List.range' 81 2) (segC1 rfl rfl) (by decide) rfl (segP1 rfl rfl) rfl rfl (Nat.le_of_ble_eq_true rfl) ⟨rfl, rfl, Nat.le_of_ble_eq_true rfl, Nat.le_of_ble_eq_true rfl⟩ d_OL_act_4 (fun H locs hP hD hS => ?_)
  refine lv_aload_n hx hb d_OL_act_7 rfl (lv_at hl 0 rfl) ?_
  refine va_get (D := D) (ci := 0) (v := .ref (a 1)) (C := R_OL) (T := F_OL) (N := 8) hx hb hg i_OL hown hK hP 0 rfl rfl 0 (by decide) (hg _ g_396) (fun _ h9 => h9) rfl d_OL_act_8 ?_
  refine va_get (D := D) (ci := 7) (v := .ref (a 8)) (C := R_Re) (T := F_Re) (N := 11) hx hb hg i_Re hown hK hP 1 rfl rfl 4 (by decide) (hg _ g_212) (fun _ h9 => h9) rfl d_OL_act_11 ?_
  refine lv_iload_n hx hb d_OL_act_14 rfl (lv_at hl 1 rfl) ?_
  obtain ⟨v_3, e_4, hd⟩ := bind_s hd
  refine callVI (ws' := ws_OL g a (u_OL_acts z v_1)) (rest := []) (As := [.int x1]) hx hb hml hown hg hK hP hD hS hA hCs hl.1 (c_Pe_has l D g (sh a 8) x1 (q_Re_people (q_OL_now (u_OL_acts z v_1))) _ e_4) o_Pe_has g_629 (ci := 5) (q0 := 8) rfl rfl (List.range' 8 11) (segC1 rfl rfl) (by decide) rfl (segP1 rfl rfl) rfl rfl (Nat.le_of_ble_eq_true rfl) ⟨rfl, rfl, Nat.le_of_ble_eq_true rfl, Nat.le_of_ble_eq_true rfl⟩ d_OL_act_15 (fun H locs hP hD hS => ?_)
  refine lv_if_eq (tgt := 29) hx hb d_OL_act_18 (by decide) (fun h_5 => ?_) (fun h_5 => ?_)
  · have hd := ite_t hd h_5
    refine lv_iconst (v := 0) hx hb d_OL_act_29 (by decide) ?_
    obtain rfl := Option.some.inj hd
    exact retI hx hb hr hlk hK hP hD hS d_OL_act_30 rfl
  · have hd := ite_f hd h_5
    refine lv_iload_n hx hb d_OL_act_21 rfl (lv_at hl 2 rfl) ?_
    refine lv_iconst (v := 2) hx hb d_OL_act_22 (by decide) ?_
    obtain ⟨v_6, e_7, hd⟩ := bind_s hd
    refine callSI (ws' := ws_OL g a (u_OL_acts z v_1)) (rest := []) (As := [.int x2, .int 2]) hx hb hml hown hg hK hP hD hS hA hCs hl.1 (c_OL_within l D g  x2 2 _ e_7) o_OL_within g_618 [] segC0 rfl rfl segP0 rfl rfl (Nat.le_of_ble_eq_true rfl) ⟨rfl, rfl, Nat.le_of_ble_eq_true rfl, Nat.le_of_ble_eq_true rfl⟩ d_OL_act_23 (fun H locs hP hD hS => ?_)
    refine lv_if_ne (tgt := 31) hx hb d_OL_act_26 (by decide) (fun h_8 => ?_) (fun h_8 => ?_)
    · have hd := ite_f hd h_8
      refine lv_aload_n hx hb d_OL_act_31 rfl (lv_at hl 0 rfl) ?_
      refine va_get (D := D) (ci := 0) (v := .ref (a 81)) (C := R_OL) (T := F_OL) (N := 8) hx hb hg i_OL hown hK hP 0 rfl rfl 7 (by decide) (hg _ g_403) (fun _ h9 => h9) rfl d_OL_act_32 ?_
      refine lv_aload_n hx hb d_OL_act_35 rfl (lv_at hl 0 rfl) ?_
      refine va_get (D := D) (ci := 0) (v := .ref (a 1)) (C := R_OL) (T := F_OL) (N := 8) hx hb hg i_OL hown hK hP 0 rfl rfl 0 (by decide) (hg _ g_396) (fun _ h9 => h9) rfl d_OL_act_36 ?_
      refine va_get (D := D) (ci := 7) (v := .ref (a 8)) (C := R_Re) (T := F_Re) (N := 11) hx hb hg i_Re hown hK hP 1 rfl rfl 4 (by decide) (hg _ g_212) (fun _ h9 => h9) rfl d_OL_act_39 ?_
      refine lv_iload_n hx hb d_OL_act_42 rfl (lv_at hl 1 rfl) ?_
      obtain ⟨v_9, e_10, hd⟩ := bind_s hd
      refine callVV (ws' := ws_OL g a (u_OL_acts (u_OL_acts z v_1) v_9)) (rest := []) (As := [.ref ((sh a 8) 0), .int x1]) hx hb hml hown hg hK hP hD hS hA hCs hl.1 (c_Ac_take l D g (sh a 81) (sh a 8) x1 (q_OL_acts (u_OL_acts z v_1)) (q_Re_people (q_OL_now (u_OL_acts z v_1))) _ e_10) o_Ac_take g_930 (ci := 2) (q0 := 81) rfl rfl (List.range' 81 2 ++ List.range' 8 11) (segC2 rfl rfl rfl rfl) (by decide) rfl (segP2 rfl rfl rfl) rfl rfl (Nat.le_of_ble_eq_true rfl) ⟨rfl, rfl, Nat.le_of_ble_eq_true rfl, Nat.le_of_ble_eq_true rfl⟩ d_OL_act_43 (fun H locs hP hD hS => ?_)
      refine lv_aload_n hx hb d_OL_act_46 rfl (lv_at hl 0 rfl) ?_
      refine va_get (D := D) (ci := 0) (v := .ref (a 81)) (C := R_OL) (T := F_OL) (N := 8) hx hb hg i_OL hown hK hP 0 rfl rfl 7 (by decide) (hg _ g_403) (fun _ h9 => h9) rfl d_OL_act_47 ?_
      refine lv_aload_n hx hb d_OL_act_50 rfl (lv_at hl 0 rfl) ?_
      refine va_get (D := D) (ci := 0) (v := .ref (a 1)) (C := R_OL) (T := F_OL) (N := 8) hx hb hg i_OL hown hK hP 0 rfl rfl 0 (by decide) (hg _ g_396) (fun _ h9 => h9) rfl d_OL_act_51 ?_
      refine va_get (D := D) (ci := 7) (v := .ref (a 8)) (C := R_Re) (T := F_Re) (N := 11) hx hb hg i_Re hown hK hP 1 rfl rfl 4 (by decide) (hg _ g_212) (fun _ h9 => h9) rfl d_OL_act_54 ?_
      refine va_get (D := D) (ci := 5) (v := .ref (a 9)) (C := R_Pe) (T := F_Pe) (N := 7) hx hb hg i_Pe hown hK hP 8 rfl rfl 1 (by decide) (hg _ g_146) (fun _ h9 => h9) rfl d_OL_act_57 ?_
      refine lv_iload_n hx hb d_OL_act_60 rfl (lv_at hl 1 rfl) ?_
      obtain ⟨h_13, hd⟩ := ite_s hd
      refine ialdK hx hb hK hP 9 0 rfl rfl (inb_t h_13) rfl d_OL_act_61 ?_
      refine lv_iload_n hx hb d_OL_act_62 rfl (lv_at hl 2 rfl) ?_
      refine lv_iload_n hx hb d_OL_act_63 rfl (lv_at hl 3 rfl) ?_
      refine lv_iconst (v := 0) hx hb d_OL_act_64 (by decide) ?_
      obtain ⟨v_11, e_12, hd⟩ := bind_s hd
      refine callNI (ws' := ws_OL g a (u_OL_acts (u_OL_acts (u_OL_acts z v_1) v_9) v_11.2)) (rest := []) (As := [.int ((q_Pe_kind (q_Re_people (q_OL_now (u_OL_acts (u_OL_acts z v_1) v_9)))) x1.toNatClampNeg), .int x2, .int x3, .int 0]) hx hb hml hown hg hK hP hD hS hA hCs hl.1 (c_Ac_run 64 l D g (sh a 81) ((q_Pe_kind (q_Re_people (q_OL_now (u_OL_acts (u_OL_acts z v_1) v_9)))) x1.toNatClampNeg) x2 x3 0 (q_OL_acts (u_OL_acts (u_OL_acts z v_1) v_9)) _ e_12) o_Ac_run (hCs.2.1 ("OwnsLift", 273, ⟨"OwnsLift$Acts", "run", "(IIII)I"⟩) (by decide)) (ci := 2) (q0 := 81) rfl rfl (List.range' 81 2) (segC1 rfl rfl) (by decide) rfl (segP1 rfl rfl) rfl rfl (Nat.le_of_ble_eq_true rfl) ⟨rfl, rfl, Nat.le_of_ble_eq_true rfl, Nat.le_of_ble_eq_true rfl⟩ d_OL_act_65 (fun H locs hP hD hS => ?_)
      obtain rfl := Option.some.inj hd
      exact retI hx hb hr hlk hK hP hD hS d_OL_act_68 rfl
    · have hd := ite_t hd h_8
      refine lv_iconst (v := 0) hx hb d_OL_act_29 (by decide) ?_
      obtain rfl := Option.some.inj hd
      exact retI hx hb hr hlk hK hP hD hS d_OL_act_30 rfl
-- OwnsLift.trace(I)I
def d_OL_trace (x1 : Int32) (z : T_OL) : Option (Int32) :=
  if x1 < 0 then (some ((-1))) else (if (q_Ac_ran (q_OL_acts z)) ≤ x1 then (some ((-1))) else (if x1 < 20 then (if inb x1 20 = true then (some ((q_Ac_bodies (q_OL_acts z)) x1.toNatClampNeg)) else none) else (some ((-1)))))
theorem d_OL_trace_0 : decode b_OL_trace 0 = .ok (.iload_n 1, 1) := by decide +kernel
theorem d_OL_trace_1 : decode b_OL_trace 1 = .ok (.ifCond .lt 20, 3) := by decide +kernel
theorem d_OL_trace_4 : decode b_OL_trace 4 = .ok (.iload_n 1, 1) := by decide +kernel
theorem d_OL_trace_5 : decode b_OL_trace 5 = .ok (.aload_n 0, 1) := by decide +kernel
theorem d_OL_trace_6 : decode b_OL_trace 6 = .ok (.getfield 52, 3) := by decide +kernel
theorem d_OL_trace_9 : decode b_OL_trace 9 = .ok (.getfield 276, 3) := by decide +kernel
theorem d_OL_trace_12 : decode b_OL_trace 12 = .ok (.if_icmp .ge 9, 3) := by decide +kernel
theorem d_OL_trace_15 : decode b_OL_trace 15 = .ok (.iload_n 1, 1) := by decide +kernel
theorem d_OL_trace_16 : decode b_OL_trace 16 = .ok (.bipush 20, 2) := by decide +kernel
theorem d_OL_trace_18 : decode b_OL_trace 18 = .ok (.if_icmp .lt 5, 3) := by decide +kernel
theorem d_OL_trace_21 : decode b_OL_trace 21 = .ok (.iconst (-1), 1) := by decide +kernel
theorem d_OL_trace_22 : decode b_OL_trace 22 = .ok (.ireturn, 1) := by decide +kernel
theorem d_OL_trace_23 : decode b_OL_trace 23 = .ok (.aload_n 0, 1) := by decide +kernel
theorem d_OL_trace_24 : decode b_OL_trace 24 = .ok (.getfield 52, 3) := by decide +kernel
theorem d_OL_trace_27 : decode b_OL_trace 27 = .ok (.getfield 279, 3) := by decide +kernel
theorem d_OL_trace_30 : decode b_OL_trace 30 = .ok (.iload_n 1, 1) := by decide +kernel
theorem d_OL_trace_31 : decode b_OL_trace 31 = .ok (.iaload, 1) := by decide +kernel
theorem d_OL_trace_32 : decode b_OL_trace 32 = .ok (.ireturn, 1) := by decide +kernel
theorem o_OL_trace : OkV y_OL_trace "OwnsLift" b_OL_trace 2 (some .int) 1 := ⟨⟨rfl, by decide +kernel, by decide +kernel, by decide +kernel⟩, g_951, g_952, g_71, g_953⟩
set_option maxHeartbeats 4000000 in
set_option maxRecDepth 100000 in
theorem c_OL_trace (l : Launch) (D : va_G) (g : Nat → ClassId) (a : Nat → Nat) (x1 : Int32) (z : T_OL) (v : Int32) (h : d_OL_trace x1 z = some v) :
    MI l y_OL_trace b_OL_trace 2 .int ({ frames := 0, cells := 0, slots := 0, locals := 0 } : Room) D g [.ref (a 0), .int x1] (ws_OL g a z) (v) (ws_OL g a z) := by
  have hd := h
  unfold d_OL_trace at hd
  refine enterI rfl (Nat.le_of_ble_eq_true rfl) (fun p e s m below meth c A ls hx hb hml hr hown hg hlk hK hA hP hD hS hCs hl => ?_)
  have hown : s.vm.findClass "OwnsLift" = some m.cls := hown
  have hl : lv_has ls 2 [(0, .ref (a 0)), (1, .int x1)] := hl
  show GI p l e s m ({ frames := 0, cells := 0, slots := 0, locals := 0 } : Room) ([.ref (a 0), .int x1] : List Value).toArray below meth c A D g (ws_OL g a z) (v) s.heap [] (F0 m 0 ls [])
  refine lv_iload_n hx hb d_OL_trace_0 rfl (lv_at hl 1 rfl) ?_
  refine lv_if_lt (tgt := 21) hx hb d_OL_trace_1 (by decide) (fun h_1 => ?_) (fun h_1 => ?_)
  · have hd := ite_t hd h_1
    refine lv_iconst (v := (-1)) hx hb d_OL_trace_21 (by decide) ?_
    obtain rfl := Option.some.inj hd
    exact retI hx hb hr hlk hK hP hD hS d_OL_trace_22 rfl
  · have hd := ite_f hd h_1
    refine lv_iload_n hx hb d_OL_trace_4 rfl (lv_at hl 1 rfl) ?_
    refine lv_aload_n hx hb d_OL_trace_5 rfl (lv_at hl 0 rfl) ?_
    refine va_get (D := D) (ci := 0) (v := .ref (a 81)) (C := R_OL) (T := F_OL) (N := 8) hx hb hg i_OL hown hK hP 0 rfl rfl 7 (by decide) (hg _ g_403) (fun _ h9 => h9) rfl d_OL_trace_6 ?_
    refine va_get (D := D) (ci := 2) (v := .int (q_Ac_ran (q_OL_acts z))) (C := R_Ac) (T := F_Ac) (N := 5) hx hb hg i_Ac hown hK hP 81 rfl rfl 1 (by decide) (hg _ g_381) (fun _ h9 => h9) rfl d_OL_trace_9 ?_
    refine lv_icmp_ge (tgt := 21) hx hb d_OL_trace_12 (by decide) (fun h_2 => ?_) (fun h_2 => ?_)
    · have hd := ite_t hd h_2
      refine lv_iconst (v := (-1)) hx hb d_OL_trace_21 (by decide) ?_
      obtain rfl := Option.some.inj hd
      exact retI hx hb hr hlk hK hP hD hS d_OL_trace_22 rfl
    · have hd := ite_f hd h_2
      refine lv_iload_n hx hb d_OL_trace_15 rfl (lv_at hl 1 rfl) ?_
      refine lv_bipush (v := 20) hx hb d_OL_trace_16 (by decide) ?_
      refine lv_icmp_lt (tgt := 23) hx hb d_OL_trace_18 (by decide) (fun h_3 => ?_) (fun h_3 => ?_)
      · have hd := ite_t hd h_3
        refine lv_aload_n hx hb d_OL_trace_23 rfl (lv_at hl 0 rfl) ?_
        refine va_get (D := D) (ci := 0) (v := .ref (a 81)) (C := R_OL) (T := F_OL) (N := 8) hx hb hg i_OL hown hK hP 0 rfl rfl 7 (by decide) (hg _ g_403) (fun _ h9 => h9) rfl d_OL_trace_24 ?_
        refine va_get (D := D) (ci := 2) (v := .ref (a 82)) (C := R_Ac) (T := F_Ac) (N := 5) hx hb hg i_Ac hown hK hP 81 rfl rfl 0 (by decide) (hg _ g_379) (fun _ h9 => h9) rfl d_OL_trace_27 ?_
        refine lv_iload_n hx hb d_OL_trace_30 rfl (lv_at hl 1 rfl) ?_
        obtain ⟨h_4, hd⟩ := ite_s hd
        refine ialdK hx hb hK hP 82 0 rfl rfl (inb_t h_4) rfl d_OL_trace_31 ?_
        obtain rfl := Option.some.inj hd
        exact retI hx hb hr hlk hK hP hD hS d_OL_trace_32 rfl
      · have hd := ite_f hd h_3
        refine lv_iconst (v := (-1)) hx hb d_OL_trace_21 (by decide) ?_
        obtain rfl := Option.some.inj hd
        exact retI hx hb hr hlk hK hP hD hS d_OL_trace_22 rfl
-- OwnsLift.as(II)I
def B_OL_as_L39 (x1_f39 : Int32) (x2_f39 : Int32) (z : T_OL) (k39_63 : Int32 → Option (Int32)) (self39 : Int32 → Int32 → Option (Int32)) (x3_39 : Int32) (x4_39 : Int32) : Option (Int32) :=
  if 7 ≤ x4_39 then (k39_63 x3_39) else (if x3_39 ≤ x2_f39 then (k39_63 x3_39) else (if inb x3_39 7 = true then (self39 (aboveC x3_39.toNatClampNeg) (x4_39 + 1)) else none))
def d_OL_as_L39 (x1_f39 : Int32) (x2_f39 : Int32) (z : T_OL) (k39_63 : Int32 → Option (Int32)) (n : Nat) : Int32 → Int32 → Option (Int32) := recN (fun _ _ => none) (fun self => B_OL_as_L39 x1_f39 x2_f39 z k39_63 self) n
def d_OL_as (x1 : Int32) (x2 : Int32) (z : T_OL) : Option (Int32) :=
  (d_Pe_has x1 (q_Re_people (q_OL_now z))).bind fun v_1 => if v_1 = 0 then (some ((-1))) else ((d_OL_isKind x2).bind fun v_4 => if v_4 = 0 then (some ((-1))) else (if inb x1 4 = true then (d_OL_as_L39 x1 x2 z (fun x3_39 => if x3_39 = x2 then (if inb x1 4 = true then (some ((q_Pe_v (q_Re_people (q_OL_now z))) x1.toNatClampNeg)) else none) else (some ((-6)))) 1000 ((q_Pe_kind (q_Re_people (q_OL_now z))) x1.toNatClampNeg) 0) else none))
theorem d_OL_as_0 : decode b_OL_as 0 = .ok (.aload_n 0, 1) := by decide +kernel
theorem d_OL_as_1 : decode b_OL_as 1 = .ok (.getfield 12, 3) := by decide +kernel
theorem d_OL_as_4 : decode b_OL_as 4 = .ok (.getfield 95, 3) := by decide +kernel
theorem d_OL_as_7 : decode b_OL_as 7 = .ok (.iload_n 1, 1) := by decide +kernel
theorem d_OL_as_8 : decode b_OL_as 8 = .ok (.invokevirtual 108, 3) := by decide +kernel
theorem d_OL_as_11 : decode b_OL_as 11 = .ok (.ifCond .eq 10, 3) := by decide +kernel
theorem d_OL_as_14 : decode b_OL_as 14 = .ok (.iload_n 2, 1) := by decide +kernel
theorem d_OL_as_15 : decode b_OL_as 15 = .ok (.invokestatic 87, 3) := by decide +kernel
theorem d_OL_as_18 : decode b_OL_as 18 = .ok (.ifCond .ne 5, 3) := by decide +kernel
theorem d_OL_as_21 : decode b_OL_as 21 = .ok (.iconst (-1), 1) := by decide +kernel
theorem d_OL_as_22 : decode b_OL_as 22 = .ok (.ireturn, 1) := by decide +kernel
theorem d_OL_as_23 : decode b_OL_as 23 = .ok (.aload_n 0, 1) := by decide +kernel
theorem d_OL_as_24 : decode b_OL_as 24 = .ok (.getfield 12, 3) := by decide +kernel
theorem d_OL_as_27 : decode b_OL_as 27 = .ok (.getfield 95, 3) := by decide +kernel
theorem d_OL_as_30 : decode b_OL_as 30 = .ok (.getfield 115, 3) := by decide +kernel
theorem d_OL_as_33 : decode b_OL_as 33 = .ok (.iload_n 1, 1) := by decide +kernel
theorem d_OL_as_34 : decode b_OL_as 34 = .ok (.iaload, 1) := by decide +kernel
theorem d_OL_as_35 : decode b_OL_as 35 = .ok (.istore_n 3, 1) := by decide +kernel
theorem d_OL_as_36 : decode b_OL_as 36 = .ok (.iconst 0, 1) := by decide +kernel
theorem d_OL_as_37 : decode b_OL_as 37 = .ok (.istore 4, 2) := by decide +kernel
theorem d_OL_as_39 : decode b_OL_as 39 = .ok (.iload 4, 2) := by decide +kernel
theorem d_OL_as_41 : decode b_OL_as 41 = .ok (.bipush 7, 2) := by decide +kernel
theorem d_OL_as_43 : decode b_OL_as 43 = .ok (.if_icmp .ge 20, 3) := by decide +kernel
theorem d_OL_as_46 : decode b_OL_as 46 = .ok (.iload_n 3, 1) := by decide +kernel
theorem d_OL_as_47 : decode b_OL_as 47 = .ok (.iload_n 2, 1) := by decide +kernel
theorem d_OL_as_48 : decode b_OL_as 48 = .ok (.if_icmp .le 15, 3) := by decide +kernel
theorem d_OL_as_51 : decode b_OL_as 51 = .ok (.getstatic 282, 3) := by decide +kernel
theorem d_OL_as_54 : decode b_OL_as 54 = .ok (.iload_n 3, 1) := by decide +kernel
theorem d_OL_as_55 : decode b_OL_as 55 = .ok (.iaload, 1) := by decide +kernel
theorem d_OL_as_56 : decode b_OL_as 56 = .ok (.istore_n 3, 1) := by decide +kernel
theorem d_OL_as_57 : decode b_OL_as 57 = .ok (.iinc 4 1, 3) := by decide +kernel
theorem d_OL_as_60 : decode b_OL_as 60 = .ok (.goto (-21), 3) := by decide +kernel
theorem d_OL_as_63 : decode b_OL_as 63 = .ok (.iload_n 3, 1) := by decide +kernel
theorem d_OL_as_64 : decode b_OL_as 64 = .ok (.iload_n 2, 1) := by decide +kernel
theorem d_OL_as_65 : decode b_OL_as 65 = .ok (.if_icmp .ne 18, 3) := by decide +kernel
theorem d_OL_as_68 : decode b_OL_as 68 = .ok (.aload_n 0, 1) := by decide +kernel
theorem d_OL_as_69 : decode b_OL_as 69 = .ok (.getfield 12, 3) := by decide +kernel
theorem d_OL_as_72 : decode b_OL_as 72 = .ok (.getfield 95, 3) := by decide +kernel
theorem d_OL_as_75 : decode b_OL_as 75 = .ok (.getfield 118, 3) := by decide +kernel
theorem d_OL_as_78 : decode b_OL_as 78 = .ok (.iload_n 1, 1) := by decide +kernel
theorem d_OL_as_79 : decode b_OL_as 79 = .ok (.iaload, 1) := by decide +kernel
theorem d_OL_as_80 : decode b_OL_as 80 = .ok (.goto 5, 3) := by decide +kernel
theorem d_OL_as_83 : decode b_OL_as 83 = .ok (.bipush (-6), 2) := by decide +kernel
theorem d_OL_as_85 : decode b_OL_as 85 = .ok (.ireturn, 1) := by decide +kernel
theorem o_OL_as : OkV y_OL_as "OwnsLift" b_OL_as 5 (some .int) 2 := ⟨⟨rfl, by decide +kernel, by decide +kernel, by decide +kernel⟩, g_955, g_956, g_71, g_957⟩
set_option maxHeartbeats 4000000 in
set_option maxRecDepth 100000 in
theorem c_OL_as (l : Launch) (D : va_G) (g : Nat → ClassId) (a : Nat → Nat) (x1 : Int32) (x2 : Int32) (z : T_OL) (v : Int32) (h : d_OL_as x1 x2 z = some v) :
    MI l y_OL_as b_OL_as 5 .int ({ frames := 1, cells := 0, slots := 0, locals := 21 } : Room) D g [.ref (a 0), .int x1, .int x2] (ws_OL g a z) (v) (ws_OL g a z) := by
  have hd := h
  unfold d_OL_as at hd
  refine enterI rfl (Nat.le_of_ble_eq_true rfl) (fun p e s m below meth c A ls hx hb hml hr hown hg hlk hK hA hP hD hS hCs hl => ?_)
  have hown : s.vm.findClass "OwnsLift" = some m.cls := hown
  have hl : lv_has ls 5 [(0, .ref (a 0)), (1, .int x1), (2, .int x2)] := hl
  show GI p l e s m ({ frames := 1, cells := 0, slots := 0, locals := 21 } : Room) ([.ref (a 0), .int x1, .int x2] : List Value).toArray below meth c A D g (ws_OL g a z) (v) s.heap [] (F0 m 0 ls [])
  refine lv_aload_n hx hb d_OL_as_0 rfl (lv_at hl 0 rfl) ?_
  refine va_get (D := D) (ci := 0) (v := .ref (a 1)) (C := R_OL) (T := F_OL) (N := 8) hx hb hg i_OL hown hK hP 0 rfl rfl 0 (by decide) (hg _ g_396) (fun _ h9 => h9) rfl d_OL_as_1 ?_
  refine va_get (D := D) (ci := 7) (v := .ref (a 8)) (C := R_Re) (T := F_Re) (N := 11) hx hb hg i_Re hown hK hP 1 rfl rfl 4 (by decide) (hg _ g_212) (fun _ h9 => h9) rfl d_OL_as_4 ?_
  refine lv_iload_n hx hb d_OL_as_7 rfl (lv_at hl 1 rfl) ?_
  obtain ⟨v_1, e_2, hd⟩ := bind_s hd
  refine callVI (ws' := ws_OL g a z) (rest := []) (As := [.int x1]) hx hb hml hown hg hK hP hD hS hA hCs hl.1 (c_Pe_has l D g (sh a 8) x1 (q_Re_people (q_OL_now z)) _ e_2) o_Pe_has g_629 (ci := 5) (q0 := 8) rfl rfl (List.range' 8 11) (segC1 rfl rfl) (by decide) rfl (segP1 rfl rfl) rfl rfl (Nat.le_of_ble_eq_true rfl) ⟨rfl, rfl, Nat.le_of_ble_eq_true rfl, Nat.le_of_ble_eq_true rfl⟩ d_OL_as_8 (fun H locs hP hD hS => ?_)
  refine lv_if_eq (tgt := 21) hx hb d_OL_as_11 (by decide) (fun h_3 => ?_) (fun h_3 => ?_)
  · have hd := ite_t hd h_3
    refine lv_iconst (v := (-1)) hx hb d_OL_as_21 (by decide) ?_
    obtain rfl := Option.some.inj hd
    exact retI hx hb hr hlk hK hP hD hS d_OL_as_22 rfl
  · have hd := ite_f hd h_3
    refine lv_iload_n hx hb d_OL_as_14 rfl (lv_at hl 2 rfl) ?_
    obtain ⟨v_4, e_5, hd⟩ := bind_s hd
    refine callSI (ws' := ws_OL g a z) (rest := []) (As := [.int x2]) hx hb hml hown hg hK hP hD hS hA hCs hl.1 (c_OL_isKind l D g  x2 _ e_5) o_OL_isKind g_615 [] segC0 rfl rfl segP0 rfl rfl (Nat.le_of_ble_eq_true rfl) ⟨rfl, rfl, Nat.le_of_ble_eq_true rfl, Nat.le_of_ble_eq_true rfl⟩ d_OL_as_15 (fun H locs hP hD hS => ?_)
    refine lv_if_ne (tgt := 23) hx hb d_OL_as_18 (by decide) (fun h_6 => ?_) (fun h_6 => ?_)
    · have hd := ite_f hd h_6
      refine lv_aload_n hx hb d_OL_as_23 rfl (lv_at hl 0 rfl) ?_
      refine va_get (D := D) (ci := 0) (v := .ref (a 1)) (C := R_OL) (T := F_OL) (N := 8) hx hb hg i_OL hown hK hP 0 rfl rfl 0 (by decide) (hg _ g_396) (fun _ h9 => h9) rfl d_OL_as_24 ?_
      refine va_get (D := D) (ci := 7) (v := .ref (a 8)) (C := R_Re) (T := F_Re) (N := 11) hx hb hg i_Re hown hK hP 1 rfl rfl 4 (by decide) (hg _ g_212) (fun _ h9 => h9) rfl d_OL_as_27 ?_
      refine va_get (D := D) (ci := 5) (v := .ref (a 9)) (C := R_Pe) (T := F_Pe) (N := 7) hx hb hg i_Pe hown hK hP 8 rfl rfl 1 (by decide) (hg _ g_146) (fun _ h9 => h9) rfl d_OL_as_30 ?_
      refine lv_iload_n hx hb d_OL_as_33 rfl (lv_at hl 1 rfl) ?_
      obtain ⟨h_12, hd⟩ := ite_s hd
      refine ialdK hx hb hK hP 9 0 rfl rfl (inb_t h_12) rfl d_OL_as_34 ?_
      refine lv_istore_n (lv' := [(3, .int ((q_Pe_kind (q_Re_people (q_OL_now z))) x1.toNatClampNeg)), (0, .ref (a 0)), (1, .int x1), (2, .int x2)]) hx hb d_OL_as_35 rfl hl (by decide) rfl (fun ls hl => ?_)
      refine lv_iconst (v := 0) hx hb d_OL_as_36 (by decide) ?_
      refine lv_istore (lv' := [(4, .int 0), (3, .int ((q_Pe_kind (q_Re_people (q_OL_now z))) x1.toNatClampNeg)), (0, .ref (a 0)), (1, .int x1), (2, .int x2)]) hx hb d_OL_as_37 hl (by decide) rfl (fun ls hl => ?_)
      have ex39_63 : ∀ (x3_39 : Int32) (H : Heap) (locs : List Loc) (ls : Array Slot), va_P D classes (ws_OL g a z) H → va_D A (ws_OL g a z) → va_S A s.heap H locs → lv_has ls 5 [(0, .ref (a 0)), (1, .int x1), (2, .int x2), (3, .int x3_39)] → (if x3_39 = x2 then (if inb x1 4 = true then (some ((q_Pe_v (q_Re_people (q_OL_now z))) x1.toNatClampNeg)) else none) else (some ((-6)))) = some v → GI p l e s m ({ frames := 1, cells := 0, slots := 0, locals := 21 } : Room) ([.ref (a 0), .int x1, .int x2] : List Value).toArray below meth c A D g (ws_OL g a z) (v) H locs (F0 m 63 ls []) := by
        intro x3_39 H locs ls hP hD hS hl hd
        refine lv_iload_n hx hb d_OL_as_63 rfl (lv_at hl 3 rfl) ?_
        refine lv_iload_n hx hb d_OL_as_64 rfl (lv_at hl 2 rfl) ?_
        refine lv_icmp_ne (tgt := 83) hx hb d_OL_as_65 (by decide) (fun h_10 => ?_) (fun h_10 => ?_)
        · have hd := ite_f hd h_10
          refine lv_bipush (v := (-6)) hx hb d_OL_as_83 (by decide) ?_
          obtain rfl := Option.some.inj hd
          exact retI hx hb hr hlk hK hP hD hS d_OL_as_85 rfl
        · have hd := ite_t hd h_10
          refine lv_aload_n hx hb d_OL_as_68 rfl (lv_at hl 0 rfl) ?_
          refine va_get (D := D) (ci := 0) (v := .ref (a 1)) (C := R_OL) (T := F_OL) (N := 8) hx hb hg i_OL hown hK hP 0 rfl rfl 0 (by decide) (hg _ g_396) (fun _ h9 => h9) rfl d_OL_as_69 ?_
          refine va_get (D := D) (ci := 7) (v := .ref (a 8)) (C := R_Re) (T := F_Re) (N := 11) hx hb hg i_Re hown hK hP 1 rfl rfl 4 (by decide) (hg _ g_212) (fun _ h9 => h9) rfl d_OL_as_72 ?_
          refine va_get (D := D) (ci := 5) (v := .ref (a 10)) (C := R_Pe) (T := F_Pe) (N := 7) hx hb hg i_Pe hown hK hP 8 rfl rfl 2 (by decide) (hg _ g_151) (fun _ h9 => h9) rfl d_OL_as_75 ?_
          refine lv_iload_n hx hb d_OL_as_78 rfl (lv_at hl 1 rfl) ?_
          obtain ⟨h_11, hd⟩ := ite_s hd
          refine ialdK hx hb hK hP 10 0 rfl rfl (inb_t h_11) rfl d_OL_as_79 ?_
          refine lv_goto (tgt := 85) hx hb d_OL_as_80 (by decide) ?_
          obtain rfl := Option.some.inj hd
          exact retI hx hb hr hlk hK hP hD hS d_OL_as_85 rfl
      have lp39 : ∀ (x1_f39 : Int32) (x2_f39 : Int32) (k39_63 : Int32 → Option (Int32)) (hk39_63 : ∀ (x3_39 : Int32) (H : Heap) (locs : List Loc) (ls : Array Slot), va_P D classes (ws_OL g a z) H → va_D A (ws_OL g a z) → va_S A s.heap H locs → lv_has ls 5 [(0, .ref (a 0)), (1, .int x1_f39), (2, .int x2_f39), (3, .int x3_39)] → k39_63 x3_39 = some v → GI p l e s m ({ frames := 1, cells := 0, slots := 0, locals := 21 } : Room) ([.ref (a 0), .int x1, .int x2] : List Value).toArray below meth c A D g (ws_OL g a z) (v) H locs (F0 m 63 ls [])) (n : Nat) (x3_39 : Int32) (x4_39 : Int32) (H : Heap) (locs : List Loc) (ls : Array Slot), va_P D classes (ws_OL g a z) H → va_D A (ws_OL g a z) → va_S A s.heap H locs → lv_has ls 5 [(0, .ref (a 0)), (1, .int x1_f39), (2, .int x2_f39), (3, .int x3_39), (4, .int x4_39)] → d_OL_as_L39 x1_f39 x2_f39 z k39_63 n x3_39 x4_39 = some v → GI p l e s m ({ frames := 1, cells := 0, slots := 0, locals := 21 } : Room) ([.ref (a 0), .int x1, .int x2] : List Value).toArray below meth c A D g (ws_OL g a z) (v) H locs (F0 m 39 ls []) := by
        intro x1_f39 x2_f39 k39_63 hk39_63 n
        induction n with
        | zero =>
          intro  x3_39 x4_39 H locs ls hP hD hS hl hd
          have hd : none = some v := hd
          cases hd
        | succ n ih39 =>
          intro  x3_39 x4_39 H locs ls hP hD hS hl hd
          have hd : B_OL_as_L39 x1_f39 x2_f39 z k39_63 (d_OL_as_L39 x1_f39 x2_f39 z k39_63 n) x3_39 x4_39 = some v := hd
          generalize d_OL_as_L39 x1_f39 x2_f39 z k39_63 n = self39 at ih39 hd
          unfold B_OL_as_L39 at hd
          refine lv_iload hx hb d_OL_as_39 (lv_at hl 4 rfl) ?_
          refine lv_bipush (v := 7) hx hb d_OL_as_41 (by decide) ?_
          refine lv_icmp_ge (tgt := 63) hx hb d_OL_as_43 (by decide) (fun h_7 => ?_) (fun h_7 => ?_)
          · have hd := ite_t hd h_7
            exact hk39_63 x3_39 _ _ _ hP hD hS (lv_sub hl [0, 1, 2, 3] rfl) hd
          · have hd := ite_f hd h_7
            refine lv_iload_n hx hb d_OL_as_46 rfl (lv_at hl 3 rfl) ?_
            refine lv_iload_n hx hb d_OL_as_47 rfl (lv_at hl 2 rfl) ?_
            refine lv_icmp_le (tgt := 63) hx hb d_OL_as_48 (by decide) (fun h_8 => ?_) (fun h_8 => ?_)
            · have hd := ite_t hd h_8
              exact hk39_63 x3_39 _ _ _ hP hD hS (lv_sub hl [0, 1, 2, 3] rfl) hd
            · have hd := ite_f hd h_8
              refine va_gets (v := .ref (g 50)) hx hb hCs.1.2.2.2.1 hS hown (hg _ g_958) (fun _ h9 => h9) d_OL_as_51 ?_
              refine lv_iload_n hx hb d_OL_as_54 rfl (lv_at hl 3 rfl) ?_
              obtain ⟨h_9, hd⟩ := ite_s hd
              refine va_ti (v := .int (aboveC x3_39.toNatClampNeg)) hx hb hCs.1.2.2.2.2.1 hS (inb_t h_9) rfl d_OL_as_55 ?_
              refine lv_istore_n (lv' := [(3, .int (aboveC x3_39.toNatClampNeg)), (0, .ref (a 0)), (1, .int x1_f39), (2, .int x2_f39), (4, .int x4_39)]) hx hb d_OL_as_56 rfl hl (by decide) rfl (fun ls hl => ?_)
              refine lv_iinc (v := x4_39 + 1) (lv' := [(4, .int (x4_39 + 1)), (3, .int (aboveC x3_39.toNatClampNeg)), (0, .ref (a 0)), (1, .int x1_f39), (2, .int x2_f39)]) hx hb d_OL_as_57 hl (k := 4) rfl (by rfl) (by decide) rfl (fun ls hl => ?_)
              refine lv_goto (tgt := 39) hx hb d_OL_as_60 (by decide) ?_
              exact ih39 (aboveC x3_39.toNatClampNeg) (x4_39 + 1) _ _ _ hP hD hS (lv_sub hl [2, 3, 4, 1, 0] rfl) hd
      exact lp39 x1 x2 _ ex39_63 1000 ((q_Pe_kind (q_Re_people (q_OL_now z))) x1.toNatClampNeg) 0 _ _ _ hP hD hS (lv_sub hl [2, 3, 4, 1, 0] rfl) hd
    · have hd := ite_t hd h_6
      refine lv_iconst (v := (-1)) hx hb d_OL_as_21 (by decide) ?_
      obtain rfl := Option.some.inj hd
      exact retI hx hb hr hlk hK hP hD hS d_OL_as_22 rfl
-- OwnsLift.image()I
def d_OL_image (z : T_OL) : Option (Int32 × T_OL) :=
  (d_Re_copyFrom (q_OL_kept z) (q_OL_now z)).bind fun v_1 => some ((q_Pe_size (q_Re_people (q_OL_now (u_OL_hasImage (u_OL_kept z v_1) 1)))), (u_OL_hasImage (u_OL_kept z v_1) 1))
theorem d_OL_image_0 : decode b_OL_image 0 = .ok (.aload_n 0, 1) := by decide +kernel
theorem d_OL_image_1 : decode b_OL_image 1 = .ok (.getfield 18, 3) := by decide +kernel
theorem d_OL_image_4 : decode b_OL_image 4 = .ok (.aload_n 0, 1) := by decide +kernel
theorem d_OL_image_5 : decode b_OL_image 5 = .ok (.getfield 12, 3) := by decide +kernel
theorem d_OL_image_8 : decode b_OL_image 8 = .ok (.invokevirtual 285, 3) := by decide +kernel
theorem d_OL_image_11 : decode b_OL_image 11 = .ok (.aload_n 0, 1) := by decide +kernel
theorem d_OL_image_12 : decode b_OL_image 12 = .ok (.iconst 1, 1) := by decide +kernel
theorem d_OL_image_13 : decode b_OL_image 13 = .ok (.putfield 287, 3) := by decide +kernel
theorem d_OL_image_16 : decode b_OL_image 16 = .ok (.aload_n 0, 1) := by decide +kernel
theorem d_OL_image_17 : decode b_OL_image 17 = .ok (.getfield 12, 3) := by decide +kernel
theorem d_OL_image_20 : decode b_OL_image 20 = .ok (.getfield 95, 3) := by decide +kernel
theorem d_OL_image_23 : decode b_OL_image 23 = .ok (.getfield 99, 3) := by decide +kernel
theorem d_OL_image_26 : decode b_OL_image 26 = .ok (.ireturn, 1) := by decide +kernel
theorem o_OL_image : OkV y_OL_image "OwnsLift" b_OL_image 1 (some .int) 0 := ⟨⟨rfl, by decide +kernel, by decide +kernel, by decide +kernel⟩, g_960, g_961, g_71, g_962⟩
set_option maxHeartbeats 4000000 in
set_option maxRecDepth 100000 in
theorem c_OL_image (l : Launch) (D : va_G) (g : Nat → ClassId) (a : Nat → Nat) (z : T_OL) (v : Int32 × T_OL) (h : d_OL_image z = some v) :
    MI l y_OL_image b_OL_image 1 .int ({ frames := 3, cells := 0, slots := 0, locals := 113 } : Room) D g [.ref (a 0)] (ws_OL g a z) (v.1) (ws_OL g a v.2) := by
  have hd := h
  unfold d_OL_image at hd
  refine enterI rfl (Nat.le_of_ble_eq_true rfl) (fun p e s m below meth c A ls hx hb hml hr hown hg hlk hK hA hP hD hS hCs hl => ?_)
  have hown : s.vm.findClass "OwnsLift" = some m.cls := hown
  have hl : lv_has ls 1 [(0, .ref (a 0))] := hl
  show GI p l e s m ({ frames := 3, cells := 0, slots := 0, locals := 113 } : Room) ([.ref (a 0)] : List Value).toArray below meth c A D g (ws_OL g a v.2) (v.1) s.heap [] (F0 m 0 ls [])
  refine lv_aload_n hx hb d_OL_image_0 rfl (lv_at hl 0 rfl) ?_
  refine va_get (D := D) (ci := 0) (v := .ref (a 25)) (C := R_OL) (T := F_OL) (N := 8) hx hb hg i_OL hown hK hP 0 rfl rfl 1 (by decide) (hg _ g_397) (fun _ h9 => h9) rfl d_OL_image_1 ?_
  refine lv_aload_n hx hb d_OL_image_4 rfl (lv_at hl 0 rfl) ?_
  refine va_get (D := D) (ci := 0) (v := .ref (a 1)) (C := R_OL) (T := F_OL) (N := 8) hx hb hg i_OL hown hK hP 0 rfl rfl 0 (by decide) (hg _ g_396) (fun _ h9 => h9) rfl d_OL_image_5 ?_
  obtain ⟨v_1, e_2, hd⟩ := bind_s hd
  refine callVV (ws' := ws_OL g a (u_OL_kept z v_1)) (rest := []) (As := [.ref ((sh a 1) 0)]) hx hb hml hown hg hK hP hD hS hA hCs hl.1 (c_Re_copyFrom l D g (sh a 25) (sh a 1) (q_OL_kept z) (q_OL_now z) _ e_2) o_Re_copyFrom g_963 (ci := 7) (q0 := 25) rfl rfl (List.range' 25 24 ++ List.range' 1 24) (segC2 rfl rfl rfl rfl) (by decide) rfl (segP2 rfl rfl rfl) rfl rfl (Nat.le_of_ble_eq_true rfl) ⟨rfl, rfl, Nat.le_of_ble_eq_true rfl, Nat.le_of_ble_eq_true rfl⟩ d_OL_image_8 (fun H locs hP hD hS => ?_)
  refine lv_aload_n hx hb d_OL_image_11 rfl (lv_at hl 0 rfl) ?_
  refine lv_iconst (v := 1) hx hb d_OL_image_12 (by decide) ?_
  refine va_put (D := D) (ci := 0) (v := .int 1) (ty := .boolean) (C := R_OL) (T := F_OL) (N := 8) hx hb hg i_OL t_OL t_OL_ok n_OL hown hK hP hD hS 0 rfl rfl 2 (by decide) (hg _ g_398) (fun _ h9 => h9) rfl (by decide +kernel) (by decide +kernel) rfl (Nat.le_of_ble_eq_true rfl) d_OL_image_13 (fun H locs hP hD hS => ?_)
  have hP : va_P D classes (ws_OL g a (u_OL_hasImage (u_OL_kept z v_1) 1)) H := hP
  have hD : va_D A (ws_OL g a (u_OL_hasImage (u_OL_kept z v_1) 1)) := hD
  refine lv_aload_n hx hb d_OL_image_16 rfl (lv_at hl 0 rfl) ?_
  refine va_get (D := D) (ci := 0) (v := .ref (a 1)) (C := R_OL) (T := F_OL) (N := 8) hx hb hg i_OL hown hK hP 0 rfl rfl 0 (by decide) (hg _ g_396) (fun _ h9 => h9) rfl d_OL_image_17 ?_
  refine va_get (D := D) (ci := 7) (v := .ref (a 8)) (C := R_Re) (T := F_Re) (N := 11) hx hb hg i_Re hown hK hP 1 rfl rfl 4 (by decide) (hg _ g_212) (fun _ h9 => h9) rfl d_OL_image_20 ?_
  refine va_get (D := D) (ci := 5) (v := .int (q_Pe_size (q_Re_people (q_OL_now (u_OL_hasImage (u_OL_kept z v_1) 1))))) (C := R_Pe) (T := F_Pe) (N := 7) hx hb hg i_Pe hown hK hP 8 rfl rfl 0 (by decide) (hg _ g_141) (fun _ h9 => h9) rfl d_OL_image_23 ?_
  obtain rfl := Option.some.inj hd
  exact retI hx hb hr hlk hK hP hD hS d_OL_image_26 rfl
-- OwnsLift.undo()I
def d_OL_undo (z : T_OL) : Option (Int32 × T_OL) :=
  if (q_OL_hasImage z) = 0 then (some ((-3), z)) else ((d_Re_copyFrom (q_OL_now z) (q_OL_kept z)).bind fun v_2 => some ((q_Pe_size (q_Re_people (q_OL_now (u_OL_now z v_2)))), (u_OL_now z v_2)))
theorem d_OL_undo_0 : decode b_OL_undo 0 = .ok (.aload_n 0, 1) := by decide +kernel
theorem d_OL_undo_1 : decode b_OL_undo 1 = .ok (.getfield 287, 3) := by decide +kernel
theorem d_OL_undo_4 : decode b_OL_undo 4 = .ok (.ifCond .ne 6, 3) := by decide +kernel
theorem d_OL_undo_7 : decode b_OL_undo 7 = .ok (.bipush (-3), 2) := by decide +kernel
theorem d_OL_undo_9 : decode b_OL_undo 9 = .ok (.ireturn, 1) := by decide +kernel
theorem d_OL_undo_10 : decode b_OL_undo 10 = .ok (.aload_n 0, 1) := by decide +kernel
theorem d_OL_undo_11 : decode b_OL_undo 11 = .ok (.getfield 12, 3) := by decide +kernel
theorem d_OL_undo_14 : decode b_OL_undo 14 = .ok (.aload_n 0, 1) := by decide +kernel
theorem d_OL_undo_15 : decode b_OL_undo 15 = .ok (.getfield 18, 3) := by decide +kernel
theorem d_OL_undo_18 : decode b_OL_undo 18 = .ok (.invokevirtual 285, 3) := by decide +kernel
theorem d_OL_undo_21 : decode b_OL_undo 21 = .ok (.aload_n 0, 1) := by decide +kernel
theorem d_OL_undo_22 : decode b_OL_undo 22 = .ok (.getfield 12, 3) := by decide +kernel
theorem d_OL_undo_25 : decode b_OL_undo 25 = .ok (.getfield 95, 3) := by decide +kernel
theorem d_OL_undo_28 : decode b_OL_undo 28 = .ok (.getfield 99, 3) := by decide +kernel
theorem d_OL_undo_31 : decode b_OL_undo 31 = .ok (.ireturn, 1) := by decide +kernel
theorem o_OL_undo : OkV y_OL_undo "OwnsLift" b_OL_undo 1 (some .int) 0 := ⟨⟨rfl, by decide +kernel, by decide +kernel, by decide +kernel⟩, g_980, g_981, g_71, g_982⟩
set_option maxHeartbeats 4000000 in
set_option maxRecDepth 100000 in
theorem c_OL_undo (l : Launch) (D : va_G) (g : Nat → ClassId) (a : Nat → Nat) (z : T_OL) (v : Int32 × T_OL) (h : d_OL_undo z = some v) :
    MI l y_OL_undo b_OL_undo 1 .int ({ frames := 3, cells := 0, slots := 0, locals := 113 } : Room) D g [.ref (a 0)] (ws_OL g a z) (v.1) (ws_OL g a v.2) := by
  have hd := h
  unfold d_OL_undo at hd
  refine enterI rfl (Nat.le_of_ble_eq_true rfl) (fun p e s m below meth c A ls hx hb hml hr hown hg hlk hK hA hP hD hS hCs hl => ?_)
  have hown : s.vm.findClass "OwnsLift" = some m.cls := hown
  have hl : lv_has ls 1 [(0, .ref (a 0))] := hl
  show GI p l e s m ({ frames := 3, cells := 0, slots := 0, locals := 113 } : Room) ([.ref (a 0)] : List Value).toArray below meth c A D g (ws_OL g a v.2) (v.1) s.heap [] (F0 m 0 ls [])
  refine lv_aload_n hx hb d_OL_undo_0 rfl (lv_at hl 0 rfl) ?_
  refine va_get (D := D) (ci := 0) (v := .int (q_OL_hasImage z)) (C := R_OL) (T := F_OL) (N := 8) hx hb hg i_OL hown hK hP 0 rfl rfl 2 (by decide) (hg _ g_398) (fun _ h9 => h9) rfl d_OL_undo_1 ?_
  refine lv_if_ne (tgt := 10) hx hb d_OL_undo_4 (by decide) (fun h_1 => ?_) (fun h_1 => ?_)
  · have hd := ite_f hd h_1
    refine lv_aload_n hx hb d_OL_undo_10 rfl (lv_at hl 0 rfl) ?_
    refine va_get (D := D) (ci := 0) (v := .ref (a 1)) (C := R_OL) (T := F_OL) (N := 8) hx hb hg i_OL hown hK hP 0 rfl rfl 0 (by decide) (hg _ g_396) (fun _ h9 => h9) rfl d_OL_undo_11 ?_
    refine lv_aload_n hx hb d_OL_undo_14 rfl (lv_at hl 0 rfl) ?_
    refine va_get (D := D) (ci := 0) (v := .ref (a 25)) (C := R_OL) (T := F_OL) (N := 8) hx hb hg i_OL hown hK hP 0 rfl rfl 1 (by decide) (hg _ g_397) (fun _ h9 => h9) rfl d_OL_undo_15 ?_
    obtain ⟨v_2, e_3, hd⟩ := bind_s hd
    refine callVV (ws' := ws_OL g a (u_OL_now z v_2)) (rest := []) (As := [.ref ((sh a 25) 0)]) hx hb hml hown hg hK hP hD hS hA hCs hl.1 (c_Re_copyFrom l D g (sh a 1) (sh a 25) (q_OL_now z) (q_OL_kept z) _ e_3) o_Re_copyFrom g_963 (ci := 7) (q0 := 1) rfl rfl (List.range' 1 24 ++ List.range' 25 24) (segC2 rfl rfl rfl rfl) (by decide) rfl (segP2 rfl rfl rfl) rfl rfl (Nat.le_of_ble_eq_true rfl) ⟨rfl, rfl, Nat.le_of_ble_eq_true rfl, Nat.le_of_ble_eq_true rfl⟩ d_OL_undo_18 (fun H locs hP hD hS => ?_)
    refine lv_aload_n hx hb d_OL_undo_21 rfl (lv_at hl 0 rfl) ?_
    refine va_get (D := D) (ci := 0) (v := .ref (a 1)) (C := R_OL) (T := F_OL) (N := 8) hx hb hg i_OL hown hK hP 0 rfl rfl 0 (by decide) (hg _ g_396) (fun _ h9 => h9) rfl d_OL_undo_22 ?_
    refine va_get (D := D) (ci := 7) (v := .ref (a 8)) (C := R_Re) (T := F_Re) (N := 11) hx hb hg i_Re hown hK hP 1 rfl rfl 4 (by decide) (hg _ g_212) (fun _ h9 => h9) rfl d_OL_undo_25 ?_
    refine va_get (D := D) (ci := 5) (v := .int (q_Pe_size (q_Re_people (q_OL_now (u_OL_now z v_2))))) (C := R_Pe) (T := F_Pe) (N := 7) hx hb hg i_Pe hown hK hP 8 rfl rfl 0 (by decide) (hg _ g_141) (fun _ h9 => h9) rfl d_OL_undo_28 ?_
    obtain rfl := Option.some.inj hd
    exact retI hx hb hr hlk hK hP hD hS d_OL_undo_31 rfl
  · have hd := ite_t hd h_1
    refine lv_bipush (v := (-3)) hx hb d_OL_undo_7 (by decide) ?_
    obtain rfl := Option.some.inj hd
    exact retI hx hb hr hlk hK hP hD hS d_OL_undo_9 rfl
-- OwnsLift.count(I)I
def d_OL_count (x1 : Int32) (z : T_OL) : Option (Int32) :=
  if x1 = 0 then (some ((q_Pe_size (q_Re_people (q_OL_now z))))) else (if x1 = 1 then (some ((q_Th_size (q_Re_things (q_OL_now z))))) else (if x1 = 2 then (some ((q_Re_lands (q_OL_now z)))) else (if x1 = 3 then (some ((q_Re_seen (q_OL_now z)))) else (if x1 = 4 then (some ((q_Re_signs (q_OL_now z)))) else (if x1 = 5 then (some ((q_Ac_ran (q_OL_acts z)))) else (some ((-1))))))))
theorem d_OL_count_0 : decode b_OL_count 0 = .ok (.iload_n 1, 1) := by decide +kernel
theorem d_OL_count_1 : decode b_OL_count 1 = .ok (.tableswitch 93 0 5 #[39, 50, 61, 69, 77, 85], 39) := by decide +kernel
theorem d_OL_count_40 : decode b_OL_count 40 = .ok (.aload_n 0, 1) := by decide +kernel
theorem d_OL_count_41 : decode b_OL_count 41 = .ok (.getfield 12, 3) := by decide +kernel
theorem d_OL_count_44 : decode b_OL_count 44 = .ok (.getfield 95, 3) := by decide +kernel
theorem d_OL_count_47 : decode b_OL_count 47 = .ok (.getfield 99, 3) := by decide +kernel
theorem d_OL_count_50 : decode b_OL_count 50 = .ok (.ireturn, 1) := by decide +kernel
theorem d_OL_count_51 : decode b_OL_count 51 = .ok (.aload_n 0, 1) := by decide +kernel
theorem d_OL_count_52 : decode b_OL_count 52 = .ok (.getfield 12, 3) := by decide +kernel
theorem d_OL_count_55 : decode b_OL_count 55 = .ok (.getfield 146, 3) := by decide +kernel
theorem d_OL_count_58 : decode b_OL_count 58 = .ok (.getfield 157, 3) := by decide +kernel
theorem d_OL_count_61 : decode b_OL_count 61 = .ok (.ireturn, 1) := by decide +kernel
theorem d_OL_count_62 : decode b_OL_count 62 = .ok (.aload_n 0, 1) := by decide +kernel
theorem d_OL_count_63 : decode b_OL_count 63 = .ok (.getfield 12, 3) := by decide +kernel
theorem d_OL_count_66 : decode b_OL_count 66 = .ok (.getfield 64, 3) := by decide +kernel
theorem d_OL_count_69 : decode b_OL_count 69 = .ok (.ireturn, 1) := by decide +kernel
theorem d_OL_count_70 : decode b_OL_count 70 = .ok (.aload_n 0, 1) := by decide +kernel
theorem d_OL_count_71 : decode b_OL_count 71 = .ok (.getfield 12, 3) := by decide +kernel
theorem d_OL_count_74 : decode b_OL_count 74 = .ok (.getfield 258, 3) := by decide +kernel
theorem d_OL_count_77 : decode b_OL_count 77 = .ok (.ireturn, 1) := by decide +kernel
theorem d_OL_count_78 : decode b_OL_count 78 = .ok (.aload_n 0, 1) := by decide +kernel
theorem d_OL_count_79 : decode b_OL_count 79 = .ok (.getfield 12, 3) := by decide +kernel
theorem d_OL_count_82 : decode b_OL_count 82 = .ok (.getfield 56, 3) := by decide +kernel
theorem d_OL_count_85 : decode b_OL_count 85 = .ok (.ireturn, 1) := by decide +kernel
theorem d_OL_count_86 : decode b_OL_count 86 = .ok (.aload_n 0, 1) := by decide +kernel
theorem d_OL_count_87 : decode b_OL_count 87 = .ok (.getfield 52, 3) := by decide +kernel
theorem d_OL_count_90 : decode b_OL_count 90 = .ok (.getfield 276, 3) := by decide +kernel
theorem d_OL_count_93 : decode b_OL_count 93 = .ok (.ireturn, 1) := by decide +kernel
theorem d_OL_count_94 : decode b_OL_count 94 = .ok (.iconst (-1), 1) := by decide +kernel
theorem d_OL_count_95 : decode b_OL_count 95 = .ok (.ireturn, 1) := by decide +kernel
theorem o_OL_count : OkV y_OL_count "OwnsLift" b_OL_count 2 (some .int) 1 := ⟨⟨rfl, by decide +kernel, by decide +kernel, by decide +kernel⟩, g_984, g_985, g_71, g_986⟩
set_option maxHeartbeats 4000000 in
set_option maxRecDepth 100000 in
theorem c_OL_count (l : Launch) (D : va_G) (g : Nat → ClassId) (a : Nat → Nat) (x1 : Int32) (z : T_OL) (v : Int32) (h : d_OL_count x1 z = some v) :
    MI l y_OL_count b_OL_count 2 .int ({ frames := 0, cells := 0, slots := 0, locals := 0 } : Room) D g [.ref (a 0), .int x1] (ws_OL g a z) (v) (ws_OL g a z) := by
  have hd := h
  unfold d_OL_count at hd
  refine enterI rfl (Nat.le_of_ble_eq_true rfl) (fun p e s m below meth c A ls hx hb hml hr hown hg hlk hK hA hP hD hS hCs hl => ?_)
  have hown : s.vm.findClass "OwnsLift" = some m.cls := hown
  have hl : lv_has ls 2 [(0, .ref (a 0)), (1, .int x1)] := hl
  show GI p l e s m ({ frames := 0, cells := 0, slots := 0, locals := 0 } : Room) ([.ref (a 0), .int x1] : List Value).toArray below meth c A D g (ws_OL g a z) (v) s.heap [] (F0 m 0 ls [])
  refine lv_iload_n hx hb d_OL_count_0 rfl (lv_at hl 1 rfl) ?_
  by_cases h_1 : x1 = 0
  · have hd := ite_t hd h_1
    refine lv_tableIn (tgt := 40) hx hb d_OL_count_1 (by rw [h_1]; decide) (by rw [h_1]; decide) (off := 39) (by rw [h_1]; decide) (by decide) ?_
    refine lv_aload_n hx hb d_OL_count_40 rfl (lv_at hl 0 rfl) ?_
    refine va_get (D := D) (ci := 0) (v := .ref (a 1)) (C := R_OL) (T := F_OL) (N := 8) hx hb hg i_OL hown hK hP 0 rfl rfl 0 (by decide) (hg _ g_396) (fun _ h9 => h9) rfl d_OL_count_41 ?_
    refine va_get (D := D) (ci := 7) (v := .ref (a 8)) (C := R_Re) (T := F_Re) (N := 11) hx hb hg i_Re hown hK hP 1 rfl rfl 4 (by decide) (hg _ g_212) (fun _ h9 => h9) rfl d_OL_count_44 ?_
    refine va_get (D := D) (ci := 5) (v := .int (q_Pe_size (q_Re_people (q_OL_now z)))) (C := R_Pe) (T := F_Pe) (N := 7) hx hb hg i_Pe hown hK hP 8 rfl rfl 0 (by decide) (hg _ g_141) (fun _ h9 => h9) rfl d_OL_count_47 ?_
    obtain rfl := Option.some.inj hd
    exact retI hx hb hr hlk hK hP hD hS d_OL_count_50 rfl
  have hd := ite_f hd h_1
  by_cases h_2 : x1 = 1
  · have hd := ite_t hd h_2
    refine lv_tableIn (tgt := 51) hx hb d_OL_count_1 (by rw [h_2]; decide) (by rw [h_2]; decide) (off := 50) (by rw [h_2]; decide) (by decide) ?_
    refine lv_aload_n hx hb d_OL_count_51 rfl (lv_at hl 0 rfl) ?_
    refine va_get (D := D) (ci := 0) (v := .ref (a 1)) (C := R_OL) (T := F_OL) (N := 8) hx hb hg i_OL hown hK hP 0 rfl rfl 0 (by decide) (hg _ g_396) (fun _ h9 => h9) rfl d_OL_count_52 ?_
    refine va_get (D := D) (ci := 7) (v := .ref (a 19)) (C := R_Re) (T := F_Re) (N := 11) hx hb hg i_Re hown hK hP 1 rfl rfl 5 (by decide) (hg _ g_215) (fun _ h9 => h9) rfl d_OL_count_55 ?_
    refine va_get (D := D) (ci := 10) (v := .int (q_Th_size (q_Re_things (q_OL_now z)))) (C := R_Th) (T := F_Th) (N := 3) hx hb hg i_Th hown hK hP 19 rfl rfl 0 (by decide) (hg _ g_187) (fun _ h9 => h9) rfl d_OL_count_58 ?_
    obtain rfl := Option.some.inj hd
    exact retI hx hb hr hlk hK hP hD hS d_OL_count_61 rfl
  have hd := ite_f hd h_2
  by_cases h_3 : x1 = 2
  · have hd := ite_t hd h_3
    refine lv_tableIn (tgt := 62) hx hb d_OL_count_1 (by rw [h_3]; decide) (by rw [h_3]; decide) (off := 61) (by rw [h_3]; decide) (by decide) ?_
    refine lv_aload_n hx hb d_OL_count_62 rfl (lv_at hl 0 rfl) ?_
    refine va_get (D := D) (ci := 0) (v := .ref (a 1)) (C := R_OL) (T := F_OL) (N := 8) hx hb hg i_OL hown hK hP 0 rfl rfl 0 (by decide) (hg _ g_396) (fun _ h9 => h9) rfl d_OL_count_63 ?_
    refine va_get (D := D) (ci := 7) (v := .int (q_Re_lands (q_OL_now z))) (C := R_Re) (T := F_Re) (N := 11) hx hb hg i_Re hown hK hP 1 rfl rfl 3 (by decide) (hg _ g_208) (fun _ h9 => h9) rfl d_OL_count_66 ?_
    obtain rfl := Option.some.inj hd
    exact retI hx hb hr hlk hK hP hD hS d_OL_count_69 rfl
  have hd := ite_f hd h_3
  by_cases h_4 : x1 = 3
  · have hd := ite_t hd h_4
    refine lv_tableIn (tgt := 70) hx hb d_OL_count_1 (by rw [h_4]; decide) (by rw [h_4]; decide) (off := 69) (by rw [h_4]; decide) (by decide) ?_
    refine lv_aload_n hx hb d_OL_count_70 rfl (lv_at hl 0 rfl) ?_
    refine va_get (D := D) (ci := 0) (v := .ref (a 1)) (C := R_OL) (T := F_OL) (N := 8) hx hb hg i_OL hown hK hP 0 rfl rfl 0 (by decide) (hg _ g_396) (fun _ h9 => h9) rfl d_OL_count_71 ?_
    refine va_get (D := D) (ci := 7) (v := .int (q_Re_seen (q_OL_now z))) (C := R_Re) (T := F_Re) (N := 11) hx hb hg i_Re hown hK hP 1 rfl rfl 9 (by decide) (hg _ g_223) (fun _ h9 => h9) rfl d_OL_count_74 ?_
    obtain rfl := Option.some.inj hd
    exact retI hx hb hr hlk hK hP hD hS d_OL_count_77 rfl
  have hd := ite_f hd h_4
  by_cases h_5 : x1 = 4
  · have hd := ite_t hd h_5
    refine lv_tableIn (tgt := 78) hx hb d_OL_count_1 (by rw [h_5]; decide) (by rw [h_5]; decide) (off := 77) (by rw [h_5]; decide) (by decide) ?_
    refine lv_aload_n hx hb d_OL_count_78 rfl (lv_at hl 0 rfl) ?_
    refine va_get (D := D) (ci := 0) (v := .ref (a 1)) (C := R_OL) (T := F_OL) (N := 8) hx hb hg i_OL hown hK hP 0 rfl rfl 0 (by decide) (hg _ g_396) (fun _ h9 => h9) rfl d_OL_count_79 ?_
    refine va_get (D := D) (ci := 7) (v := .int (q_Re_signs (q_OL_now z))) (C := R_Re) (T := F_Re) (N := 11) hx hb hg i_Re hown hK hP 1 rfl rfl 1 (by decide) (hg _ g_204) (fun _ h9 => h9) rfl d_OL_count_82 ?_
    obtain rfl := Option.some.inj hd
    exact retI hx hb hr hlk hK hP hD hS d_OL_count_85 rfl
  have hd := ite_f hd h_5
  by_cases h_6 : x1 = 5
  · have hd := ite_t hd h_6
    refine lv_tableIn (tgt := 86) hx hb d_OL_count_1 (by rw [h_6]; decide) (by rw [h_6]; decide) (off := 85) (by rw [h_6]; decide) (by decide) ?_
    refine lv_aload_n hx hb d_OL_count_86 rfl (lv_at hl 0 rfl) ?_
    refine va_get (D := D) (ci := 0) (v := .ref (a 81)) (C := R_OL) (T := F_OL) (N := 8) hx hb hg i_OL hown hK hP 0 rfl rfl 7 (by decide) (hg _ g_403) (fun _ h9 => h9) rfl d_OL_count_87 ?_
    refine va_get (D := D) (ci := 2) (v := .int (q_Ac_ran (q_OL_acts z))) (C := R_Ac) (T := F_Ac) (N := 5) hx hb hg i_Ac hown hK hP 81 rfl rfl 1 (by decide) (hg _ g_381) (fun _ h9 => h9) rfl d_OL_count_90 ?_
    obtain rfl := Option.some.inj hd
    exact retI hx hb hr hlk hK hP hD hS d_OL_count_93 rfl
  have hd := ite_f hd h_6
  have ho_7 : (x1).toInt < 0 ∨ 5 < (x1).toInt := by
    refine tab_out 0 5 ?_
    intro k h1 h2 q
    have hk : k = 0 ∨ k = 1 ∨ k = 2 ∨ k = 3 ∨ k = 4 ∨ k = 5 := by omega
    rcases hk with rfl | rfl | rfl | rfl | rfl | rfl
    · exact h_1 (Int32.toInt_inj.mp (q.trans (by decide)))
    · exact h_2 (Int32.toInt_inj.mp (q.trans (by decide)))
    · exact h_3 (Int32.toInt_inj.mp (q.trans (by decide)))
    · exact h_4 (Int32.toInt_inj.mp (q.trans (by decide)))
    · exact h_5 (Int32.toInt_inj.mp (q.trans (by decide)))
    · exact h_6 (Int32.toInt_inj.mp (q.trans (by decide)))
  refine lv_tableOut (tgt := 94) hx hb d_OL_count_1 ho_7 (by decide) ?_
  refine lv_iconst (v := (-1)) hx hb d_OL_count_94 (by decide) ?_
  obtain rfl := Option.some.inj hd
  exact retI hx hb hr hlk hK hP hD hS d_OL_count_95 rfl

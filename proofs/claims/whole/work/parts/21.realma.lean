-- OwnsLift$Realm.tellNoThing()V
def d_Re_tellNoThing (z : T_Re) : Option (T_Re) :=
  some ((u_Re_facts (u_Re_facts z (upd (q_Re_facts z) 3 99)) (upd (q_Re_facts (u_Re_facts z (upd (q_Re_facts z) 3 99))) 4 99)))
theorem d_Re_tellNoThing_0 : decode b_Re_tellNoThing 0 = .ok (.aload_n 0, 1) := by decide +kernel
theorem d_Re_tellNoThing_1 : decode b_Re_tellNoThing 1 = .ok (.getfield 42, 3) := by decide +kernel
theorem d_Re_tellNoThing_4 : decode b_Re_tellNoThing 4 = .ok (.iconst 3, 1) := by decide +kernel
theorem d_Re_tellNoThing_5 : decode b_Re_tellNoThing 5 = .ok (.bipush 99, 2) := by decide +kernel
theorem d_Re_tellNoThing_7 : decode b_Re_tellNoThing 7 = .ok (.iastore, 1) := by decide +kernel
theorem d_Re_tellNoThing_8 : decode b_Re_tellNoThing 8 = .ok (.aload_n 0, 1) := by decide +kernel
theorem d_Re_tellNoThing_9 : decode b_Re_tellNoThing 9 = .ok (.getfield 42, 3) := by decide +kernel
theorem d_Re_tellNoThing_12 : decode b_Re_tellNoThing 12 = .ok (.iconst 4, 1) := by decide +kernel
theorem d_Re_tellNoThing_13 : decode b_Re_tellNoThing 13 = .ok (.bipush 99, 2) := by decide +kernel
theorem d_Re_tellNoThing_15 : decode b_Re_tellNoThing 15 = .ok (.iastore, 1) := by decide +kernel
theorem d_Re_tellNoThing_16 : decode b_Re_tellNoThing 16 = .ok (.return_, 1) := by decide +kernel
theorem o_Re_tellNoThing : OkV y_Re_tellNoThing "OwnsLift$Realm" b_Re_tellNoThing 1 none 0 := ⟨⟨rfl, by decide +kernel, by decide +kernel, by decide +kernel⟩, g_648, g_11, g_72, g_649⟩
set_option maxHeartbeats 4000000 in
set_option maxRecDepth 100000 in
theorem c_Re_tellNoThing (l : Launch) (D : va_G) (g : Nat → ClassId) (a : Nat → Nat) (z : T_Re) (v : T_Re) (h : d_Re_tellNoThing z = some v) :
    MV l y_Re_tellNoThing b_Re_tellNoThing 1 ({ frames := 0, cells := 0, slots := 0, locals := 0 } : Room) D g [.ref (a 0)] (ws_Re g a z) (ws_Re g a v) := by
  have hd := h
  unfold d_Re_tellNoThing at hd
  refine enterV rfl (Nat.le_of_ble_eq_true rfl) (fun p e s m below meth c A ls hx hb hml hr hown hg hlk hK hA hP hD hS hCs hl => ?_)
  have hown : s.vm.findClass "OwnsLift$Realm" = some m.cls := hown
  have hl : lv_has ls 1 [(0, .ref (a 0))] := hl
  show GV p l e s m ({ frames := 0, cells := 0, slots := 0, locals := 0 } : Room) ([.ref (a 0)] : List Value).toArray below meth c A D g (ws_Re g a v) s.heap [] (F0 m 0 ls [])
  refine lv_aload_n hx hb d_Re_tellNoThing_0 rfl (lv_at hl 0 rfl) ?_
  refine va_get (D := D) (ci := 7) (v := .ref (a 23)) (C := R_Re) (T := F_Re) (N := 11) hx hb hg i_Re hown hK hP 0 rfl rfl 10 (by decide) (hg _ g_224) (fun _ h9 => h9) rfl d_Re_tellNoThing_1 ?_
  refine lv_iconst (v := 3) hx hb d_Re_tellNoThing_4 (by decide) ?_
  refine lv_bipush (v := 99) hx hb d_Re_tellNoThing_5 (by decide) ?_
  refine iastK hx hb hK hP hD hS 23 0 rfl rfl (inb_t (by decide +kernel)) (k := 3) (by decide +kernel) d_Re_tellNoThing_7 (fun H locs hP hD hS => ?_)
  have hP : va_P D classes (ws_Re g a (u_Re_facts z (upd (q_Re_facts z) 3 99))) H := hP
  have hD : va_D A (ws_Re g a (u_Re_facts z (upd (q_Re_facts z) 3 99))) := hD
  refine lv_aload_n hx hb d_Re_tellNoThing_8 rfl (lv_at hl 0 rfl) ?_
  refine va_get (D := D) (ci := 7) (v := .ref (a 23)) (C := R_Re) (T := F_Re) (N := 11) hx hb hg i_Re hown hK hP 0 rfl rfl 10 (by decide) (hg _ g_224) (fun _ h9 => h9) rfl d_Re_tellNoThing_9 ?_
  refine lv_iconst (v := 4) hx hb d_Re_tellNoThing_12 (by decide) ?_
  refine lv_bipush (v := 99) hx hb d_Re_tellNoThing_13 (by decide) ?_
  refine iastK hx hb hK hP hD hS 23 0 rfl rfl (inb_t (by decide +kernel)) (k := 4) (by decide +kernel) d_Re_tellNoThing_15 (fun H locs hP hD hS => ?_)
  have hP : va_P D classes (ws_Re g a (u_Re_facts (u_Re_facts z (upd (q_Re_facts z) 3 99)) (upd (q_Re_facts (u_Re_facts z (upd (q_Re_facts z) 3 99))) 4 99))) H := hP
  have hD : va_D A (ws_Re g a (u_Re_facts (u_Re_facts z (upd (q_Re_facts z) 3 99)) (upd (q_Re_facts (u_Re_facts z (upd (q_Re_facts z) 3 99))) 4 99))) := hD
  obtain rfl := Option.some.inj hd
  exact retV hx hb hr hlk hK hP hD hS d_Re_tellNoThing_16
-- OwnsLift$Realm.tellPerson(I)V
def d_Re_tellPerson (x1 : Int32) (z : T_Re) : Option (T_Re) :=
  if inb x1 4 = true then (if inb x1 4 = true then (some ((u_Re_facts (u_Re_facts (u_Re_facts (u_Re_facts z (upd (q_Re_facts z) 0 x1)) (upd (q_Re_facts (u_Re_facts z (upd (q_Re_facts z) 0 x1))) 1 ((q_Pe_kind (q_Re_people (u_Re_facts z (upd (q_Re_facts z) 0 x1)))) x1.toNatClampNeg))) (upd (q_Re_facts (u_Re_facts (u_Re_facts z (upd (q_Re_facts z) 0 x1)) (upd (q_Re_facts (u_Re_facts z (upd (q_Re_facts z) 0 x1))) 1 ((q_Pe_kind (q_Re_people (u_Re_facts z (upd (q_Re_facts z) 0 x1)))) x1.toNatClampNeg)))) 2 (((q_Pe_age (q_Re_people (u_Re_facts (u_Re_facts z (upd (q_Re_facts z) 0 x1)) (upd (q_Re_facts (u_Re_facts z (upd (q_Re_facts z) 0 x1))) 1 ((q_Pe_kind (q_Re_people (u_Re_facts z (upd (q_Re_facts z) 0 x1)))) x1.toNatClampNeg))))) x1.toNatClampNeg) / 10))) (upd (q_Re_facts (u_Re_facts (u_Re_facts (u_Re_facts z (upd (q_Re_facts z) 0 x1)) (upd (q_Re_facts (u_Re_facts z (upd (q_Re_facts z) 0 x1))) 1 ((q_Pe_kind (q_Re_people (u_Re_facts z (upd (q_Re_facts z) 0 x1)))) x1.toNatClampNeg))) (upd (q_Re_facts (u_Re_facts (u_Re_facts z (upd (q_Re_facts z) 0 x1)) (upd (q_Re_facts (u_Re_facts z (upd (q_Re_facts z) 0 x1))) 1 ((q_Pe_kind (q_Re_people (u_Re_facts z (upd (q_Re_facts z) 0 x1)))) x1.toNatClampNeg)))) 2 (((q_Pe_age (q_Re_people (u_Re_facts (u_Re_facts z (upd (q_Re_facts z) 0 x1)) (upd (q_Re_facts (u_Re_facts z (upd (q_Re_facts z) 0 x1))) 1 ((q_Pe_kind (q_Re_people (u_Re_facts z (upd (q_Re_facts z) 0 x1)))) x1.toNatClampNeg))))) x1.toNatClampNeg) / 10)))) 5 ((q_Re_year (u_Re_facts (u_Re_facts (u_Re_facts z (upd (q_Re_facts z) 0 x1)) (upd (q_Re_facts (u_Re_facts z (upd (q_Re_facts z) 0 x1))) 1 ((q_Pe_kind (q_Re_people (u_Re_facts z (upd (q_Re_facts z) 0 x1)))) x1.toNatClampNeg))) (upd (q_Re_facts (u_Re_facts (u_Re_facts z (upd (q_Re_facts z) 0 x1)) (upd (q_Re_facts (u_Re_facts z (upd (q_Re_facts z) 0 x1))) 1 ((q_Pe_kind (q_Re_people (u_Re_facts z (upd (q_Re_facts z) 0 x1)))) x1.toNatClampNeg)))) 2 (((q_Pe_age (q_Re_people (u_Re_facts (u_Re_facts z (upd (q_Re_facts z) 0 x1)) (upd (q_Re_facts (u_Re_facts z (upd (q_Re_facts z) 0 x1))) 1 ((q_Pe_kind (q_Re_people (u_Re_facts z (upd (q_Re_facts z) 0 x1)))) x1.toNatClampNeg))))) x1.toNatClampNeg) / 10)))) - (q_Re_year (u_Re_facts (u_Re_facts (u_Re_facts z (upd (q_Re_facts z) 0 x1)) (upd (q_Re_facts (u_Re_facts z (upd (q_Re_facts z) 0 x1))) 1 ((q_Pe_kind (q_Re_people (u_Re_facts z (upd (q_Re_facts z) 0 x1)))) x1.toNatClampNeg))) (upd (q_Re_facts (u_Re_facts (u_Re_facts z (upd (q_Re_facts z) 0 x1)) (upd (q_Re_facts (u_Re_facts z (upd (q_Re_facts z) 0 x1))) 1 ((q_Pe_kind (q_Re_people (u_Re_facts z (upd (q_Re_facts z) 0 x1)))) x1.toNatClampNeg)))) 2 (((q_Pe_age (q_Re_people (u_Re_facts (u_Re_facts z (upd (q_Re_facts z) 0 x1)) (upd (q_Re_facts (u_Re_facts z (upd (q_Re_facts z) 0 x1))) 1 ((q_Pe_kind (q_Re_people (u_Re_facts z (upd (q_Re_facts z) 0 x1)))) x1.toNatClampNeg))))) x1.toNatClampNeg) / 10)))) / 10 * 10))))) else none) else none
theorem d_Re_tellPerson_0 : decode b_Re_tellPerson 0 = .ok (.aload_n 0, 1) := by decide +kernel
theorem d_Re_tellPerson_1 : decode b_Re_tellPerson 1 = .ok (.getfield 42, 3) := by decide +kernel
theorem d_Re_tellPerson_4 : decode b_Re_tellPerson 4 = .ok (.iconst 0, 1) := by decide +kernel
theorem d_Re_tellPerson_5 : decode b_Re_tellPerson 5 = .ok (.iload_n 1, 1) := by decide +kernel
theorem d_Re_tellPerson_6 : decode b_Re_tellPerson 6 = .ok (.iastore, 1) := by decide +kernel
theorem d_Re_tellPerson_7 : decode b_Re_tellPerson 7 = .ok (.aload_n 0, 1) := by decide +kernel
theorem d_Re_tellPerson_8 : decode b_Re_tellPerson 8 = .ok (.getfield 42, 3) := by decide +kernel
theorem d_Re_tellPerson_11 : decode b_Re_tellPerson 11 = .ok (.iconst 1, 1) := by decide +kernel
theorem d_Re_tellPerson_12 : decode b_Re_tellPerson 12 = .ok (.aload_n 0, 1) := by decide +kernel
theorem d_Re_tellPerson_13 : decode b_Re_tellPerson 13 = .ok (.getfield 25, 3) := by decide +kernel
theorem d_Re_tellPerson_16 : decode b_Re_tellPerson 16 = .ok (.getfield 59, 3) := by decide +kernel
theorem d_Re_tellPerson_19 : decode b_Re_tellPerson 19 = .ok (.iload_n 1, 1) := by decide +kernel
theorem d_Re_tellPerson_20 : decode b_Re_tellPerson 20 = .ok (.iaload, 1) := by decide +kernel
theorem d_Re_tellPerson_21 : decode b_Re_tellPerson 21 = .ok (.iastore, 1) := by decide +kernel
theorem d_Re_tellPerson_22 : decode b_Re_tellPerson 22 = .ok (.aload_n 0, 1) := by decide +kernel
theorem d_Re_tellPerson_23 : decode b_Re_tellPerson 23 = .ok (.getfield 42, 3) := by decide +kernel
theorem d_Re_tellPerson_26 : decode b_Re_tellPerson 26 = .ok (.iconst 2, 1) := by decide +kernel
theorem d_Re_tellPerson_27 : decode b_Re_tellPerson 27 = .ok (.aload_n 0, 1) := by decide +kernel
theorem d_Re_tellPerson_28 : decode b_Re_tellPerson 28 = .ok (.getfield 25, 3) := by decide +kernel
theorem d_Re_tellPerson_31 : decode b_Re_tellPerson 31 = .ok (.getfield 84, 3) := by decide +kernel
theorem d_Re_tellPerson_34 : decode b_Re_tellPerson 34 = .ok (.iload_n 1, 1) := by decide +kernel
theorem d_Re_tellPerson_35 : decode b_Re_tellPerson 35 = .ok (.iaload, 1) := by decide +kernel
theorem d_Re_tellPerson_36 : decode b_Re_tellPerson 36 = .ok (.bipush 10, 2) := by decide +kernel
theorem d_Re_tellPerson_38 : decode b_Re_tellPerson 38 = .ok (.idiv, 1) := by decide +kernel
theorem d_Re_tellPerson_39 : decode b_Re_tellPerson 39 = .ok (.iastore, 1) := by decide +kernel
theorem d_Re_tellPerson_40 : decode b_Re_tellPerson 40 = .ok (.aload_n 0, 1) := by decide +kernel
theorem d_Re_tellPerson_41 : decode b_Re_tellPerson 41 = .ok (.getfield 42, 3) := by decide +kernel
theorem d_Re_tellPerson_44 : decode b_Re_tellPerson 44 = .ok (.iconst 5, 1) := by decide +kernel
theorem d_Re_tellPerson_45 : decode b_Re_tellPerson 45 = .ok (.aload_n 0, 1) := by decide +kernel
theorem d_Re_tellPerson_46 : decode b_Re_tellPerson 46 = .ok (.getfield 77, 3) := by decide +kernel
theorem d_Re_tellPerson_49 : decode b_Re_tellPerson 49 = .ok (.bipush 10, 2) := by decide +kernel
theorem d_Re_tellPerson_51 : decode b_Re_tellPerson 51 = .ok (.irem, 1) := by decide +kernel
theorem d_Re_tellPerson_52 : decode b_Re_tellPerson 52 = .ok (.iastore, 1) := by decide +kernel
theorem d_Re_tellPerson_53 : decode b_Re_tellPerson 53 = .ok (.return_, 1) := by decide +kernel
theorem o_Re_tellPerson : OkV y_Re_tellPerson "OwnsLift$Realm" b_Re_tellPerson 2 none 1 := ⟨⟨rfl, by decide +kernel, by decide +kernel, by decide +kernel⟩, g_644, g_10, g_72, g_645⟩
set_option maxHeartbeats 4000000 in
set_option maxRecDepth 100000 in
theorem c_Re_tellPerson (l : Launch) (D : va_G) (g : Nat → ClassId) (a : Nat → Nat) (x1 : Int32) (z : T_Re) (v : T_Re) (h : d_Re_tellPerson x1 z = some v) :
    MV l y_Re_tellPerson b_Re_tellPerson 2 ({ frames := 0, cells := 0, slots := 0, locals := 0 } : Room) D g [.ref (a 0), .int x1] (ws_Re g a z) (ws_Re g a v) := by
  have hd := h
  unfold d_Re_tellPerson at hd
  refine enterV rfl (Nat.le_of_ble_eq_true rfl) (fun p e s m below meth c A ls hx hb hml hr hown hg hlk hK hA hP hD hS hCs hl => ?_)
  have hown : s.vm.findClass "OwnsLift$Realm" = some m.cls := hown
  have hl : lv_has ls 2 [(0, .ref (a 0)), (1, .int x1)] := hl
  show GV p l e s m ({ frames := 0, cells := 0, slots := 0, locals := 0 } : Room) ([.ref (a 0), .int x1] : List Value).toArray below meth c A D g (ws_Re g a v) s.heap [] (F0 m 0 ls [])
  refine lv_aload_n hx hb d_Re_tellPerson_0 rfl (lv_at hl 0 rfl) ?_
  refine va_get (D := D) (ci := 7) (v := .ref (a 23)) (C := R_Re) (T := F_Re) (N := 11) hx hb hg i_Re hown hK hP 0 rfl rfl 10 (by decide) (hg _ g_224) (fun _ h9 => h9) rfl d_Re_tellPerson_1 ?_
  refine lv_iconst (v := 0) hx hb d_Re_tellPerson_4 (by decide) ?_
  refine lv_iload_n hx hb d_Re_tellPerson_5 rfl (lv_at hl 1 rfl) ?_
  refine iastK hx hb hK hP hD hS 23 0 rfl rfl (inb_t (by decide +kernel)) (k := 0) (by decide +kernel) d_Re_tellPerson_6 (fun H locs hP hD hS => ?_)
  have hP : va_P D classes (ws_Re g a (u_Re_facts z (upd (q_Re_facts z) 0 x1))) H := hP
  have hD : va_D A (ws_Re g a (u_Re_facts z (upd (q_Re_facts z) 0 x1))) := hD
  refine lv_aload_n hx hb d_Re_tellPerson_7 rfl (lv_at hl 0 rfl) ?_
  refine va_get (D := D) (ci := 7) (v := .ref (a 23)) (C := R_Re) (T := F_Re) (N := 11) hx hb hg i_Re hown hK hP 0 rfl rfl 10 (by decide) (hg _ g_224) (fun _ h9 => h9) rfl d_Re_tellPerson_8 ?_
  refine lv_iconst (v := 1) hx hb d_Re_tellPerson_11 (by decide) ?_
  refine lv_aload_n hx hb d_Re_tellPerson_12 rfl (lv_at hl 0 rfl) ?_
  refine va_get (D := D) (ci := 7) (v := .ref (a 7)) (C := R_Re) (T := F_Re) (N := 11) hx hb hg i_Re hown hK hP 0 rfl rfl 4 (by decide) (hg _ g_210) (fun _ h9 => h9) rfl d_Re_tellPerson_13 ?_
  refine va_get (D := D) (ci := 5) (v := .ref (a 8)) (C := R_Pe) (T := F_Pe) (N := 7) hx hb hg i_Pe hown hK hP 7 rfl rfl 1 (by decide) (hg _ g_144) (fun _ h9 => h9) rfl d_Re_tellPerson_16 ?_
  refine lv_iload_n hx hb d_Re_tellPerson_19 rfl (lv_at hl 1 rfl) ?_
  obtain ⟨h_2, hd⟩ := ite_s hd
  refine ialdK hx hb hK hP 8 0 rfl rfl (inb_t h_2) rfl d_Re_tellPerson_20 ?_
  refine iastK hx hb hK hP hD hS 23 0 rfl rfl (inb_t (by decide +kernel)) (k := 1) (by decide +kernel) d_Re_tellPerson_21 (fun H locs hP hD hS => ?_)
  have hP : va_P D classes (ws_Re g a (u_Re_facts (u_Re_facts z (upd (q_Re_facts z) 0 x1)) (upd (q_Re_facts (u_Re_facts z (upd (q_Re_facts z) 0 x1))) 1 ((q_Pe_kind (q_Re_people (u_Re_facts z (upd (q_Re_facts z) 0 x1)))) x1.toNatClampNeg)))) H := hP
  have hD : va_D A (ws_Re g a (u_Re_facts (u_Re_facts z (upd (q_Re_facts z) 0 x1)) (upd (q_Re_facts (u_Re_facts z (upd (q_Re_facts z) 0 x1))) 1 ((q_Pe_kind (q_Re_people (u_Re_facts z (upd (q_Re_facts z) 0 x1)))) x1.toNatClampNeg)))) := hD
  refine lv_aload_n hx hb d_Re_tellPerson_22 rfl (lv_at hl 0 rfl) ?_
  refine va_get (D := D) (ci := 7) (v := .ref (a 23)) (C := R_Re) (T := F_Re) (N := 11) hx hb hg i_Re hown hK hP 0 rfl rfl 10 (by decide) (hg _ g_224) (fun _ h9 => h9) rfl d_Re_tellPerson_23 ?_
  refine lv_iconst (v := 2) hx hb d_Re_tellPerson_26 (by decide) ?_
  refine lv_aload_n hx hb d_Re_tellPerson_27 rfl (lv_at hl 0 rfl) ?_
  refine va_get (D := D) (ci := 7) (v := .ref (a 7)) (C := R_Re) (T := F_Re) (N := 11) hx hb hg i_Re hown hK hP 0 rfl rfl 4 (by decide) (hg _ g_210) (fun _ h9 => h9) rfl d_Re_tellPerson_28 ?_
  refine va_get (D := D) (ci := 5) (v := .ref (a 11)) (C := R_Pe) (T := F_Pe) (N := 7) hx hb hg i_Pe hown hK hP 7 rfl rfl 4 (by decide) (hg _ g_157) (fun _ h9 => h9) rfl d_Re_tellPerson_31 ?_
  refine lv_iload_n hx hb d_Re_tellPerson_34 rfl (lv_at hl 1 rfl) ?_
  obtain ⟨h_1, hd⟩ := ite_s hd
  refine ialdK hx hb hK hP 11 0 rfl rfl (inb_t h_1) rfl d_Re_tellPerson_35 ?_
  refine lv_bipush (v := 10) hx hb d_Re_tellPerson_36 (by decide) ?_
  refine lv_idiv hx hb d_Re_tellPerson_38 (by decide) ?_
  refine iastK hx hb hK hP hD hS 23 0 rfl rfl (inb_t (by decide +kernel)) (k := 2) (by decide +kernel) d_Re_tellPerson_39 (fun H locs hP hD hS => ?_)
  have hP : va_P D classes (ws_Re g a (u_Re_facts (u_Re_facts (u_Re_facts z (upd (q_Re_facts z) 0 x1)) (upd (q_Re_facts (u_Re_facts z (upd (q_Re_facts z) 0 x1))) 1 ((q_Pe_kind (q_Re_people (u_Re_facts z (upd (q_Re_facts z) 0 x1)))) x1.toNatClampNeg))) (upd (q_Re_facts (u_Re_facts (u_Re_facts z (upd (q_Re_facts z) 0 x1)) (upd (q_Re_facts (u_Re_facts z (upd (q_Re_facts z) 0 x1))) 1 ((q_Pe_kind (q_Re_people (u_Re_facts z (upd (q_Re_facts z) 0 x1)))) x1.toNatClampNeg)))) 2 (((q_Pe_age (q_Re_people (u_Re_facts (u_Re_facts z (upd (q_Re_facts z) 0 x1)) (upd (q_Re_facts (u_Re_facts z (upd (q_Re_facts z) 0 x1))) 1 ((q_Pe_kind (q_Re_people (u_Re_facts z (upd (q_Re_facts z) 0 x1)))) x1.toNatClampNeg))))) x1.toNatClampNeg) / 10)))) H := hP
  have hD : va_D A (ws_Re g a (u_Re_facts (u_Re_facts (u_Re_facts z (upd (q_Re_facts z) 0 x1)) (upd (q_Re_facts (u_Re_facts z (upd (q_Re_facts z) 0 x1))) 1 ((q_Pe_kind (q_Re_people (u_Re_facts z (upd (q_Re_facts z) 0 x1)))) x1.toNatClampNeg))) (upd (q_Re_facts (u_Re_facts (u_Re_facts z (upd (q_Re_facts z) 0 x1)) (upd (q_Re_facts (u_Re_facts z (upd (q_Re_facts z) 0 x1))) 1 ((q_Pe_kind (q_Re_people (u_Re_facts z (upd (q_Re_facts z) 0 x1)))) x1.toNatClampNeg)))) 2 (((q_Pe_age (q_Re_people (u_Re_facts (u_Re_facts z (upd (q_Re_facts z) 0 x1)) (upd (q_Re_facts (u_Re_facts z (upd (q_Re_facts z) 0 x1))) 1 ((q_Pe_kind (q_Re_people (u_Re_facts z (upd (q_Re_facts z) 0 x1)))) x1.toNatClampNeg))))) x1.toNatClampNeg) / 10)))) := hD
  refine lv_aload_n hx hb d_Re_tellPerson_40 rfl (lv_at hl 0 rfl) ?_
  refine va_get (D := D) (ci := 7) (v := .ref (a 23)) (C := R_Re) (T := F_Re) (N := 11) hx hb hg i_Re hown hK hP 0 rfl rfl 10 (by decide) (hg _ g_224) (fun _ h9 => h9) rfl d_Re_tellPerson_41 ?_
  refine lv_iconst (v := 5) hx hb d_Re_tellPerson_44 (by decide) ?_
  refine lv_aload_n hx hb d_Re_tellPerson_45 rfl (lv_at hl 0 rfl) ?_
  refine va_get (D := D) (ci := 7) (v := .int (q_Re_year (u_Re_facts (u_Re_facts (u_Re_facts z (upd (q_Re_facts z) 0 x1)) (upd (q_Re_facts (u_Re_facts z (upd (q_Re_facts z) 0 x1))) 1 ((q_Pe_kind (q_Re_people (u_Re_facts z (upd (q_Re_facts z) 0 x1)))) x1.toNatClampNeg))) (upd (q_Re_facts (u_Re_facts (u_Re_facts z (upd (q_Re_facts z) 0 x1)) (upd (q_Re_facts (u_Re_facts z (upd (q_Re_facts z) 0 x1))) 1 ((q_Pe_kind (q_Re_people (u_Re_facts z (upd (q_Re_facts z) 0 x1)))) x1.toNatClampNeg)))) 2 (((q_Pe_age (q_Re_people (u_Re_facts (u_Re_facts z (upd (q_Re_facts z) 0 x1)) (upd (q_Re_facts (u_Re_facts z (upd (q_Re_facts z) 0 x1))) 1 ((q_Pe_kind (q_Re_people (u_Re_facts z (upd (q_Re_facts z) 0 x1)))) x1.toNatClampNeg))))) x1.toNatClampNeg) / 10))))) (C := R_Re) (T := F_Re) (N := 11) hx hb hg i_Re hown hK hP 0 rfl rfl 6 (by decide) (hg _ g_216) (fun _ h9 => h9) rfl d_Re_tellPerson_46 ?_
  refine lv_bipush (v := 10) hx hb d_Re_tellPerson_49 (by decide) ?_
  refine lv_irem hx hb d_Re_tellPerson_51 (by decide) ?_
  refine iastK hx hb hK hP hD hS 23 0 rfl rfl (inb_t (by decide +kernel)) (k := 5) (by decide +kernel) d_Re_tellPerson_52 (fun H locs hP hD hS => ?_)
  have hP : va_P D classes (ws_Re g a (u_Re_facts (u_Re_facts (u_Re_facts (u_Re_facts z (upd (q_Re_facts z) 0 x1)) (upd (q_Re_facts (u_Re_facts z (upd (q_Re_facts z) 0 x1))) 1 ((q_Pe_kind (q_Re_people (u_Re_facts z (upd (q_Re_facts z) 0 x1)))) x1.toNatClampNeg))) (upd (q_Re_facts (u_Re_facts (u_Re_facts z (upd (q_Re_facts z) 0 x1)) (upd (q_Re_facts (u_Re_facts z (upd (q_Re_facts z) 0 x1))) 1 ((q_Pe_kind (q_Re_people (u_Re_facts z (upd (q_Re_facts z) 0 x1)))) x1.toNatClampNeg)))) 2 (((q_Pe_age (q_Re_people (u_Re_facts (u_Re_facts z (upd (q_Re_facts z) 0 x1)) (upd (q_Re_facts (u_Re_facts z (upd (q_Re_facts z) 0 x1))) 1 ((q_Pe_kind (q_Re_people (u_Re_facts z (upd (q_Re_facts z) 0 x1)))) x1.toNatClampNeg))))) x1.toNatClampNeg) / 10))) (upd (q_Re_facts (u_Re_facts (u_Re_facts (u_Re_facts z (upd (q_Re_facts z) 0 x1)) (upd (q_Re_facts (u_Re_facts z (upd (q_Re_facts z) 0 x1))) 1 ((q_Pe_kind (q_Re_people (u_Re_facts z (upd (q_Re_facts z) 0 x1)))) x1.toNatClampNeg))) (upd (q_Re_facts (u_Re_facts (u_Re_facts z (upd (q_Re_facts z) 0 x1)) (upd (q_Re_facts (u_Re_facts z (upd (q_Re_facts z) 0 x1))) 1 ((q_Pe_kind (q_Re_people (u_Re_facts z (upd (q_Re_facts z) 0 x1)))) x1.toNatClampNeg)))) 2 (((q_Pe_age (q_Re_people (u_Re_facts (u_Re_facts z (upd (q_Re_facts z) 0 x1)) (upd (q_Re_facts (u_Re_facts z (upd (q_Re_facts z) 0 x1))) 1 ((q_Pe_kind (q_Re_people (u_Re_facts z (upd (q_Re_facts z) 0 x1)))) x1.toNatClampNeg))))) x1.toNatClampNeg) / 10)))) 5 ((q_Re_year (u_Re_facts (u_Re_facts (u_Re_facts z (upd (q_Re_facts z) 0 x1)) (upd (q_Re_facts (u_Re_facts z (upd (q_Re_facts z) 0 x1))) 1 ((q_Pe_kind (q_Re_people (u_Re_facts z (upd (q_Re_facts z) 0 x1)))) x1.toNatClampNeg))) (upd (q_Re_facts (u_Re_facts (u_Re_facts z (upd (q_Re_facts z) 0 x1)) (upd (q_Re_facts (u_Re_facts z (upd (q_Re_facts z) 0 x1))) 1 ((q_Pe_kind (q_Re_people (u_Re_facts z (upd (q_Re_facts z) 0 x1)))) x1.toNatClampNeg)))) 2 (((q_Pe_age (q_Re_people (u_Re_facts (u_Re_facts z (upd (q_Re_facts z) 0 x1)) (upd (q_Re_facts (u_Re_facts z (upd (q_Re_facts z) 0 x1))) 1 ((q_Pe_kind (q_Re_people (u_Re_facts z (upd (q_Re_facts z) 0 x1)))) x1.toNatClampNeg))))) x1.toNatClampNeg) / 10)))) - (q_Re_year (u_Re_facts (u_Re_facts (u_Re_facts z (upd (q_Re_facts z) 0 x1)) (upd (q_Re_facts (u_Re_facts z (upd (q_Re_facts z) 0 x1))) 1 ((q_Pe_kind (q_Re_people (u_Re_facts z (upd (q_Re_facts z) 0 x1)))) x1.toNatClampNeg))) (upd (q_Re_facts (u_Re_facts (u_Re_facts z (upd (q_Re_facts z) 0 x1)) (upd (q_Re_facts (u_Re_facts z (upd (q_Re_facts z) 0 x1))) 1 ((q_Pe_kind (q_Re_people (u_Re_facts z (upd (q_Re_facts z) 0 x1)))) x1.toNatClampNeg)))) 2 (((q_Pe_age (q_Re_people (u_Re_facts (u_Re_facts z (upd (q_Re_facts z) 0 x1)) (upd (q_Re_facts (u_Re_facts z (upd (q_Re_facts z) 0 x1))) 1 ((q_Pe_kind (q_Re_people (u_Re_facts z (upd (q_Re_facts z) 0 x1)))) x1.toNatClampNeg))))) x1.toNatClampNeg) / 10)))) / 10 * 10)))) H := hP
  have hD : va_D A (ws_Re g a (u_Re_facts (u_Re_facts (u_Re_facts (u_Re_facts z (upd (q_Re_facts z) 0 x1)) (upd (q_Re_facts (u_Re_facts z (upd (q_Re_facts z) 0 x1))) 1 ((q_Pe_kind (q_Re_people (u_Re_facts z (upd (q_Re_facts z) 0 x1)))) x1.toNatClampNeg))) (upd (q_Re_facts (u_Re_facts (u_Re_facts z (upd (q_Re_facts z) 0 x1)) (upd (q_Re_facts (u_Re_facts z (upd (q_Re_facts z) 0 x1))) 1 ((q_Pe_kind (q_Re_people (u_Re_facts z (upd (q_Re_facts z) 0 x1)))) x1.toNatClampNeg)))) 2 (((q_Pe_age (q_Re_people (u_Re_facts (u_Re_facts z (upd (q_Re_facts z) 0 x1)) (upd (q_Re_facts (u_Re_facts z (upd (q_Re_facts z) 0 x1))) 1 ((q_Pe_kind (q_Re_people (u_Re_facts z (upd (q_Re_facts z) 0 x1)))) x1.toNatClampNeg))))) x1.toNatClampNeg) / 10))) (upd (q_Re_facts (u_Re_facts (u_Re_facts (u_Re_facts z (upd (q_Re_facts z) 0 x1)) (upd (q_Re_facts (u_Re_facts z (upd (q_Re_facts z) 0 x1))) 1 ((q_Pe_kind (q_Re_people (u_Re_facts z (upd (q_Re_facts z) 0 x1)))) x1.toNatClampNeg))) (upd (q_Re_facts (u_Re_facts (u_Re_facts z (upd (q_Re_facts z) 0 x1)) (upd (q_Re_facts (u_Re_facts z (upd (q_Re_facts z) 0 x1))) 1 ((q_Pe_kind (q_Re_people (u_Re_facts z (upd (q_Re_facts z) 0 x1)))) x1.toNatClampNeg)))) 2 (((q_Pe_age (q_Re_people (u_Re_facts (u_Re_facts z (upd (q_Re_facts z) 0 x1)) (upd (q_Re_facts (u_Re_facts z (upd (q_Re_facts z) 0 x1))) 1 ((q_Pe_kind (q_Re_people (u_Re_facts z (upd (q_Re_facts z) 0 x1)))) x1.toNatClampNeg))))) x1.toNatClampNeg) / 10)))) 5 ((q_Re_year (u_Re_facts (u_Re_facts (u_Re_facts z (upd (q_Re_facts z) 0 x1)) (upd (q_Re_facts (u_Re_facts z (upd (q_Re_facts z) 0 x1))) 1 ((q_Pe_kind (q_Re_people (u_Re_facts z (upd (q_Re_facts z) 0 x1)))) x1.toNatClampNeg))) (upd (q_Re_facts (u_Re_facts (u_Re_facts z (upd (q_Re_facts z) 0 x1)) (upd (q_Re_facts (u_Re_facts z (upd (q_Re_facts z) 0 x1))) 1 ((q_Pe_kind (q_Re_people (u_Re_facts z (upd (q_Re_facts z) 0 x1)))) x1.toNatClampNeg)))) 2 (((q_Pe_age (q_Re_people (u_Re_facts (u_Re_facts z (upd (q_Re_facts z) 0 x1)) (upd (q_Re_facts (u_Re_facts z (upd (q_Re_facts z) 0 x1))) 1 ((q_Pe_kind (q_Re_people (u_Re_facts z (upd (q_Re_facts z) 0 x1)))) x1.toNatClampNeg))))) x1.toNatClampNeg) / 10)))) - (q_Re_year (u_Re_facts (u_Re_facts (u_Re_facts z (upd (q_Re_facts z) 0 x1)) (upd (q_Re_facts (u_Re_facts z (upd (q_Re_facts z) 0 x1))) 1 ((q_Pe_kind (q_Re_people (u_Re_facts z (upd (q_Re_facts z) 0 x1)))) x1.toNatClampNeg))) (upd (q_Re_facts (u_Re_facts (u_Re_facts z (upd (q_Re_facts z) 0 x1)) (upd (q_Re_facts (u_Re_facts z (upd (q_Re_facts z) 0 x1))) 1 ((q_Pe_kind (q_Re_people (u_Re_facts z (upd (q_Re_facts z) 0 x1)))) x1.toNatClampNeg)))) 2 (((q_Pe_age (q_Re_people (u_Re_facts (u_Re_facts z (upd (q_Re_facts z) 0 x1)) (upd (q_Re_facts (u_Re_facts z (upd (q_Re_facts z) 0 x1))) 1 ((q_Pe_kind (q_Re_people (u_Re_facts z (upd (q_Re_facts z) 0 x1)))) x1.toNatClampNeg))))) x1.toNatClampNeg) / 10)))) / 10 * 10)))) := hD
  obtain rfl := Option.some.inj hd
  exact retV hx hb hr hlk hK hP hD hS d_Re_tellPerson_53
-- OwnsLift$Realm.illOf(I)I
def d_Re_illOf (x1 : Int32) (z : T_Re) : Option (Int32 × T_Re) :=
  (d_Re_tellPerson x1 z).bind fun v_1 => (d_Re_tellNoThing v_1).bind fun v_3 => (d_La_together 3 (q_Re_land v_3) (q_Re_facts v_3)).bind fun v_5 => some ((if v_5 < 10 then v_5 else 10), v_3)
theorem d_Re_illOf_0 : decode b_Re_illOf 0 = .ok (.aload_n 0, 1) := by decide +kernel
theorem d_Re_illOf_1 : decode b_Re_illOf 1 = .ok (.iload_n 1, 1) := by decide +kernel
theorem d_Re_illOf_2 : decode b_Re_illOf 2 = .ok (.invokevirtual 45, 3) := by decide +kernel
theorem d_Re_illOf_5 : decode b_Re_illOf 5 = .ok (.aload_n 0, 1) := by decide +kernel
theorem d_Re_illOf_6 : decode b_Re_illOf 6 = .ok (.invokevirtual 56, 3) := by decide +kernel
theorem d_Re_illOf_9 : decode b_Re_illOf 9 = .ok (.bipush 10, 2) := by decide +kernel
theorem d_Re_illOf_11 : decode b_Re_illOf 11 = .ok (.aload_n 0, 1) := by decide +kernel
theorem d_Re_illOf_12 : decode b_Re_illOf 12 = .ok (.getfield 18, 3) := by decide +kernel
theorem d_Re_illOf_15 : decode b_Re_illOf 15 = .ok (.iconst 3, 1) := by decide +kernel
theorem d_Re_illOf_16 : decode b_Re_illOf 16 = .ok (.aload_n 0, 1) := by decide +kernel
theorem d_Re_illOf_17 : decode b_Re_illOf 17 = .ok (.getfield 42, 3) := by decide +kernel
theorem d_Re_illOf_20 : decode b_Re_illOf 20 = .ok (.invokevirtual 52, 3) := by decide +kernel
theorem d_Re_illOf_23 : decode b_Re_illOf 23 = .ok (.invokestatic 68, 3) := by decide +kernel
theorem d_Re_illOf_26 : decode b_Re_illOf 26 = .ok (.ireturn, 1) := by decide +kernel
theorem o_Re_illOf : OkV y_Re_illOf "OwnsLift$Realm" b_Re_illOf 2 (some .int) 1 := ⟨⟨rfl, by decide +kernel, by decide +kernel, by decide +kernel⟩, g_662, g_663, g_72, g_664⟩
set_option maxHeartbeats 4000000 in
set_option maxRecDepth 100000 in
theorem c_Re_illOf (l : Launch) (D : va_G) (g : Nat → ClassId) (a : Nat → Nat) (x1 : Int32) (z : T_Re) (v : Int32 × T_Re) (h : d_Re_illOf x1 z = some v) :
    MI l y_Re_illOf b_Re_illOf 2 .int ({ frames := 3, cells := 0, slots := 0, locals := 74 } : Room) D g [.ref (a 0), .int x1] (ws_Re g a z) (v.1) (ws_Re g a v.2) := by
  have hd := h
  unfold d_Re_illOf at hd
  refine enterI rfl (Nat.le_of_ble_eq_true rfl) (fun p e s m below meth c A ls hx hb hml hr hown hg hlk hK hA hP hD hS hCs hl => ?_)
  have hown : s.vm.findClass "OwnsLift$Realm" = some m.cls := hown
  have hl : lv_has ls 2 [(0, .ref (a 0)), (1, .int x1)] := hl
  show GI p l e s m ({ frames := 3, cells := 0, slots := 0, locals := 74 } : Room) ([.ref (a 0), .int x1] : List Value).toArray below meth c A D g (ws_Re g a v.2) (v.1) s.heap [] (F0 m 0 ls [])
  refine lv_aload_n hx hb d_Re_illOf_0 rfl (lv_at hl 0 rfl) ?_
  refine lv_iload_n hx hb d_Re_illOf_1 rfl (lv_at hl 1 rfl) ?_
  obtain ⟨v_1, e_2, hd⟩ := bind_s hd
  refine callVV (ws' := ws_Re g a v_1) (rest := []) (As := [.int x1]) hx hb hml hown hg hK hP hD hS hA hCs hl.1 (c_Re_tellPerson l D g a x1 z _ e_2) o_Re_tellPerson g_642 (ci := 7) (q0 := 0) rfl rfl (List.range' 0 24) (segC1 rfl rfl) (by decide) rfl (segP1 rfl rfl) rfl rfl (Nat.le_of_ble_eq_true rfl) ⟨rfl, rfl, Nat.le_of_ble_eq_true rfl, Nat.le_of_ble_eq_true rfl⟩ d_Re_illOf_2 (fun H locs hP hD hS => ?_)
  refine lv_aload_n hx hb d_Re_illOf_5 rfl (lv_at hl 0 rfl) ?_
  obtain ⟨v_3, e_4, hd⟩ := bind_s hd
  refine callVV (ws' := ws_Re g a v_3) (rest := []) (As := []) hx hb hml hown hg hK hP hD hS hA hCs hl.1 (c_Re_tellNoThing l D g a v_1 _ e_4) o_Re_tellNoThing g_646 (ci := 7) (q0 := 0) rfl rfl (List.range' 0 24) (segC1 rfl rfl) (by decide) rfl (segP1 rfl rfl) rfl rfl (Nat.le_of_ble_eq_true rfl) ⟨rfl, rfl, Nat.le_of_ble_eq_true rfl, Nat.le_of_ble_eq_true rfl⟩ d_Re_illOf_6 (fun H locs hP hD hS => ?_)
  refine lv_bipush (v := 10) hx hb d_Re_illOf_9 (by decide) ?_
  refine lv_aload_n hx hb d_Re_illOf_11 rfl (lv_at hl 0 rfl) ?_
  refine va_get (D := D) (ci := 7) (v := .ref (a 2)) (C := R_Re) (T := F_Re) (N := 11) hx hb hg i_Re hown hK hP 0 rfl rfl 2 (by decide) (hg _ g_206) (fun _ h9 => h9) rfl d_Re_illOf_12 ?_
  refine lv_iconst (v := 3) hx hb d_Re_illOf_15 (by decide) ?_
  refine lv_aload_n hx hb d_Re_illOf_16 rfl (lv_at hl 0 rfl) ?_
  refine va_get (D := D) (ci := 7) (v := .ref (a 23)) (C := R_Re) (T := F_Re) (N := 11) hx hb hg i_Re hown hK hP 0 rfl rfl 10 (by decide) (hg _ g_224) (fun _ h9 => h9) rfl d_Re_illOf_17 ?_
  obtain ⟨v_5, e_6, hd⟩ := bind_s hd
  refine callVI (ws' := ws_Re g a v_3) (rest := [.int 10]) (As := [.int 3, .ref ((sh a 23) 0)]) hx hb hml hown hg hK hP hD hS hA hCs hl.1 (c_La_together l D g (sh a 2) (sh a 23) 3 (q_Re_land v_3) (q_Re_facts v_3) _ e_6) o_La_together g_650 (ci := 4) (q0 := 2) rfl rfl (List.range' 2 5 ++ List.range' 23 1) (segC2 rfl rfl rfl rfl) (by decide) rfl (segP2 rfl rfl rfl) rfl rfl (Nat.le_of_ble_eq_true rfl) ⟨rfl, rfl, Nat.le_of_ble_eq_true rfl, Nat.le_of_ble_eq_true rfl⟩ d_Re_illOf_20 (fun H locs hP hD hS => ?_)
  refine va_mmin hx hb (hml.trans hl.1.symm) hown (hg _ g_665) (hg _ k_min_s) (hg _ k_math_i) (hg _ k_min_c) (Nat.le_of_ble_eq_true rfl) (Nat.le_of_ble_eq_true rfl) (Nat.zero_le _) (Nat.zero_le _) d_Re_illOf_23 ?_
  obtain rfl := Option.some.inj hd
  exact retI hx hb hr hlk hK hP hD hS d_Re_illOf_26 rfl
-- OwnsLift$Realm.liftsOf(I)I
def d_Re_liftsOf (x1 : Int32) (z : T_Re) : Option (Int32 × T_Re) :=
  (d_Re_tellPerson x1 z).bind fun v_1 => (d_Re_tellNoThing v_1).bind fun v_3 => if inb x1 4 = true then (if ((q_Pe_kind (q_Re_people v_3)) x1.toNatClampNeg) = 3 then (if inb x1 4 = true then (if inb x1 4 = true then ((d_La_together 1 (q_Re_land v_3) (q_Re_facts v_3)).bind fun v_6 => some ((((q_Pe_strength (q_Re_people v_3)) x1.toNatClampNeg) + v_6) + ((q_Pe_v (q_Re_people v_3)) x1.toNatClampNeg), v_3)) else none) else none) else (if inb x1 4 = true then (if ((q_Pe_kind (q_Re_people v_3)) x1.toNatClampNeg) = 6 then (if inb x1 4 = true then (if inb x1 4 = true then ((d_La_together 1 (q_Re_land v_3) (q_Re_facts v_3)).bind fun v_14 => some ((((q_Pe_strength (q_Re_people v_3)) x1.toNatClampNeg) + v_14) + ((q_Pe_v (q_Re_people v_3)) x1.toNatClampNeg), v_3)) else none) else none) else (if inb x1 4 = true then ((d_La_together 1 (q_Re_land v_3) (q_Re_facts v_3)).bind fun v_11 => some ((((q_Pe_strength (q_Re_people v_3)) x1.toNatClampNeg) + v_11) + 0, v_3)) else none)) else none)) else none
theorem d_Re_liftsOf_0 : decode b_Re_liftsOf 0 = .ok (.aload_n 0, 1) := by decide +kernel
theorem d_Re_liftsOf_1 : decode b_Re_liftsOf 1 = .ok (.iload_n 1, 1) := by decide +kernel
theorem d_Re_liftsOf_2 : decode b_Re_liftsOf 2 = .ok (.invokevirtual 45, 3) := by decide +kernel
theorem d_Re_liftsOf_5 : decode b_Re_liftsOf 5 = .ok (.aload_n 0, 1) := by decide +kernel
theorem d_Re_liftsOf_6 : decode b_Re_liftsOf 6 = .ok (.invokevirtual 56, 3) := by decide +kernel
theorem d_Re_liftsOf_9 : decode b_Re_liftsOf 9 = .ok (.aload_n 0, 1) := by decide +kernel
theorem d_Re_liftsOf_10 : decode b_Re_liftsOf 10 = .ok (.getfield 25, 3) := by decide +kernel
theorem d_Re_liftsOf_13 : decode b_Re_liftsOf 13 = .ok (.getfield 59, 3) := by decide +kernel
theorem d_Re_liftsOf_16 : decode b_Re_liftsOf 16 = .ok (.iload_n 1, 1) := by decide +kernel
theorem d_Re_liftsOf_17 : decode b_Re_liftsOf 17 = .ok (.iaload, 1) := by decide +kernel
theorem d_Re_liftsOf_18 : decode b_Re_liftsOf 18 = .ok (.iconst 3, 1) := by decide +kernel
theorem d_Re_liftsOf_19 : decode b_Re_liftsOf 19 = .ok (.if_icmp .eq 17, 3) := by decide +kernel
theorem d_Re_liftsOf_22 : decode b_Re_liftsOf 22 = .ok (.aload_n 0, 1) := by decide +kernel
theorem d_Re_liftsOf_23 : decode b_Re_liftsOf 23 = .ok (.getfield 25, 3) := by decide +kernel
theorem d_Re_liftsOf_26 : decode b_Re_liftsOf 26 = .ok (.getfield 59, 3) := by decide +kernel
theorem d_Re_liftsOf_29 : decode b_Re_liftsOf 29 = .ok (.iload_n 1, 1) := by decide +kernel
theorem d_Re_liftsOf_30 : decode b_Re_liftsOf 30 = .ok (.iaload, 1) := by decide +kernel
theorem d_Re_liftsOf_31 : decode b_Re_liftsOf 31 = .ok (.bipush 6, 2) := by decide +kernel
theorem d_Re_liftsOf_33 : decode b_Re_liftsOf 33 = .ok (.if_icmp .ne 15, 3) := by decide +kernel
theorem d_Re_liftsOf_36 : decode b_Re_liftsOf 36 = .ok (.aload_n 0, 1) := by decide +kernel
theorem d_Re_liftsOf_37 : decode b_Re_liftsOf 37 = .ok (.getfield 25, 3) := by decide +kernel
theorem d_Re_liftsOf_40 : decode b_Re_liftsOf 40 = .ok (.getfield 62, 3) := by decide +kernel
theorem d_Re_liftsOf_43 : decode b_Re_liftsOf 43 = .ok (.iload_n 1, 1) := by decide +kernel
theorem d_Re_liftsOf_44 : decode b_Re_liftsOf 44 = .ok (.iaload, 1) := by decide +kernel
theorem d_Re_liftsOf_45 : decode b_Re_liftsOf 45 = .ok (.goto 4, 3) := by decide +kernel
theorem d_Re_liftsOf_48 : decode b_Re_liftsOf 48 = .ok (.iconst 0, 1) := by decide +kernel
theorem d_Re_liftsOf_49 : decode b_Re_liftsOf 49 = .ok (.istore_n 2, 1) := by decide +kernel
theorem d_Re_liftsOf_50 : decode b_Re_liftsOf 50 = .ok (.aload_n 0, 1) := by decide +kernel
theorem d_Re_liftsOf_51 : decode b_Re_liftsOf 51 = .ok (.getfield 25, 3) := by decide +kernel
theorem d_Re_liftsOf_54 : decode b_Re_liftsOf 54 = .ok (.getfield 65, 3) := by decide +kernel
theorem d_Re_liftsOf_57 : decode b_Re_liftsOf 57 = .ok (.iload_n 1, 1) := by decide +kernel
theorem d_Re_liftsOf_58 : decode b_Re_liftsOf 58 = .ok (.iaload, 1) := by decide +kernel
theorem d_Re_liftsOf_59 : decode b_Re_liftsOf 59 = .ok (.aload_n 0, 1) := by decide +kernel
theorem d_Re_liftsOf_60 : decode b_Re_liftsOf 60 = .ok (.getfield 18, 3) := by decide +kernel
theorem d_Re_liftsOf_63 : decode b_Re_liftsOf 63 = .ok (.iconst 1, 1) := by decide +kernel
theorem d_Re_liftsOf_64 : decode b_Re_liftsOf 64 = .ok (.aload_n 0, 1) := by decide +kernel
theorem d_Re_liftsOf_65 : decode b_Re_liftsOf 65 = .ok (.getfield 42, 3) := by decide +kernel
theorem d_Re_liftsOf_68 : decode b_Re_liftsOf 68 = .ok (.invokevirtual 52, 3) := by decide +kernel
theorem d_Re_liftsOf_71 : decode b_Re_liftsOf 71 = .ok (.iadd, 1) := by decide +kernel
theorem d_Re_liftsOf_72 : decode b_Re_liftsOf 72 = .ok (.iload_n 2, 1) := by decide +kernel
theorem d_Re_liftsOf_73 : decode b_Re_liftsOf 73 = .ok (.iadd, 1) := by decide +kernel
theorem d_Re_liftsOf_74 : decode b_Re_liftsOf 74 = .ok (.ireturn, 1) := by decide +kernel
theorem o_Re_liftsOf : OkV y_Re_liftsOf "OwnsLift$Realm" b_Re_liftsOf 3 (some .int) 1 := ⟨⟨rfl, by decide +kernel, by decide +kernel, by decide +kernel⟩, g_639, g_640, g_72, g_641⟩
set_option maxHeartbeats 4000000 in
set_option maxRecDepth 100000 in
theorem c_Re_liftsOf (l : Launch) (D : va_G) (g : Nat → ClassId) (a : Nat → Nat) (x1 : Int32) (z : T_Re) (v : Int32 × T_Re) (h : d_Re_liftsOf x1 z = some v) :
    MI l y_Re_liftsOf b_Re_liftsOf 3 .int ({ frames := 3, cells := 0, slots := 0, locals := 74 } : Room) D g [.ref (a 0), .int x1] (ws_Re g a z) (v.1) (ws_Re g a v.2) := by
  have hd := h
  unfold d_Re_liftsOf at hd
  refine enterI rfl (Nat.le_of_ble_eq_true rfl) (fun p e s m below meth c A ls hx hb hml hr hown hg hlk hK hA hP hD hS hCs hl => ?_)
  have hown : s.vm.findClass "OwnsLift$Realm" = some m.cls := hown
  have hl : lv_has ls 3 [(0, .ref (a 0)), (1, .int x1)] := hl
  show GI p l e s m ({ frames := 3, cells := 0, slots := 0, locals := 74 } : Room) ([.ref (a 0), .int x1] : List Value).toArray below meth c A D g (ws_Re g a v.2) (v.1) s.heap [] (F0 m 0 ls [])
  refine lv_aload_n hx hb d_Re_liftsOf_0 rfl (lv_at hl 0 rfl) ?_
  refine lv_iload_n hx hb d_Re_liftsOf_1 rfl (lv_at hl 1 rfl) ?_
  obtain ⟨v_1, e_2, hd⟩ := bind_s hd
  refine callVV (ws' := ws_Re g a v_1) (rest := []) (As := [.int x1]) hx hb hml hown hg hK hP hD hS hA hCs hl.1 (c_Re_tellPerson l D g a x1 z _ e_2) o_Re_tellPerson g_642 (ci := 7) (q0 := 0) rfl rfl (List.range' 0 24) (segC1 rfl rfl) (by decide) rfl (segP1 rfl rfl) rfl rfl (Nat.le_of_ble_eq_true rfl) ⟨rfl, rfl, Nat.le_of_ble_eq_true rfl, Nat.le_of_ble_eq_true rfl⟩ d_Re_liftsOf_2 (fun H locs hP hD hS => ?_)
  refine lv_aload_n hx hb d_Re_liftsOf_5 rfl (lv_at hl 0 rfl) ?_
  obtain ⟨v_3, e_4, hd⟩ := bind_s hd
  refine callVV (ws' := ws_Re g a v_3) (rest := []) (As := []) hx hb hml hown hg hK hP hD hS hA hCs hl.1 (c_Re_tellNoThing l D g a v_1 _ e_4) o_Re_tellNoThing g_646 (ci := 7) (q0 := 0) rfl rfl (List.range' 0 24) (segC1 rfl rfl) (by decide) rfl (segP1 rfl rfl) rfl rfl (Nat.le_of_ble_eq_true rfl) ⟨rfl, rfl, Nat.le_of_ble_eq_true rfl, Nat.le_of_ble_eq_true rfl⟩ d_Re_liftsOf_6 (fun H locs hP hD hS => ?_)
  refine lv_aload_n hx hb d_Re_liftsOf_9 rfl (lv_at hl 0 rfl) ?_
  refine va_get (D := D) (ci := 7) (v := .ref (a 7)) (C := R_Re) (T := F_Re) (N := 11) hx hb hg i_Re hown hK hP 0 rfl rfl 4 (by decide) (hg _ g_210) (fun _ h9 => h9) rfl d_Re_liftsOf_10 ?_
  refine va_get (D := D) (ci := 5) (v := .ref (a 8)) (C := R_Pe) (T := F_Pe) (N := 7) hx hb hg i_Pe hown hK hP 7 rfl rfl 1 (by decide) (hg _ g_144) (fun _ h9 => h9) rfl d_Re_liftsOf_13 ?_
  refine lv_iload_n hx hb d_Re_liftsOf_16 rfl (lv_at hl 1 rfl) ?_
  obtain ⟨h_19, hd⟩ := ite_s hd
  refine ialdK hx hb hK hP 8 0 rfl rfl (inb_t h_19) rfl d_Re_liftsOf_17 ?_
  refine lv_iconst (v := 3) hx hb d_Re_liftsOf_18 (by decide) ?_
  refine lv_icmp_eq (tgt := 36) hx hb d_Re_liftsOf_19 (by decide) (fun h_5 => ?_) (fun h_5 => ?_)
  · have hd := ite_t hd h_5
    refine lv_aload_n hx hb d_Re_liftsOf_36 rfl (lv_at hl 0 rfl) ?_
    refine va_get (D := D) (ci := 7) (v := .ref (a 7)) (C := R_Re) (T := F_Re) (N := 11) hx hb hg i_Re hown hK hP 0 rfl rfl 4 (by decide) (hg _ g_210) (fun _ h9 => h9) rfl d_Re_liftsOf_37 ?_
    refine va_get (D := D) (ci := 5) (v := .ref (a 9)) (C := R_Pe) (T := F_Pe) (N := 7) hx hb hg i_Pe hown hK hP 7 rfl rfl 2 (by decide) (hg _ g_150) (fun _ h9 => h9) rfl d_Re_liftsOf_40 ?_
    refine lv_iload_n hx hb d_Re_liftsOf_43 rfl (lv_at hl 1 rfl) ?_
    obtain ⟨h_9, hd⟩ := ite_s hd
    refine ialdK hx hb hK hP 9 0 rfl rfl (inb_t h_9) rfl d_Re_liftsOf_44 ?_
    refine lv_goto (tgt := 49) hx hb d_Re_liftsOf_45 (by decide) ?_
    refine lv_istore_n (lv' := [(2, .int ((q_Pe_v (q_Re_people v_3)) x1.toNatClampNeg)), (0, .ref (a 0)), (1, .int x1)]) hx hb d_Re_liftsOf_49 rfl hl (by decide) rfl (fun ls hl => ?_)
    refine lv_aload_n hx hb d_Re_liftsOf_50 rfl (lv_at hl 1 rfl) ?_
    refine va_get (D := D) (ci := 7) (v := .ref (a 7)) (C := R_Re) (T := F_Re) (N := 11) hx hb hg i_Re hown hK hP 0 rfl rfl 4 (by decide) (hg _ g_210) (fun _ h9 => h9) rfl d_Re_liftsOf_51 ?_
    refine va_get (D := D) (ci := 5) (v := .ref (a 10)) (C := R_Pe) (T := F_Pe) (N := 7) hx hb hg i_Pe hown hK hP 7 rfl rfl 3 (by decide) (hg _ g_153) (fun _ h9 => h9) rfl d_Re_liftsOf_54 ?_
    refine lv_iload_n hx hb d_Re_liftsOf_57 rfl (lv_at hl 2 rfl) ?_
    obtain ⟨h_8, hd⟩ := ite_s hd
    refine ialdK hx hb hK hP 10 0 rfl rfl (inb_t h_8) rfl d_Re_liftsOf_58 ?_
    refine lv_aload_n hx hb d_Re_liftsOf_59 rfl (lv_at hl 1 rfl) ?_
    refine va_get (D := D) (ci := 7) (v := .ref (a 2)) (C := R_Re) (T := F_Re) (N := 11) hx hb hg i_Re hown hK hP 0 rfl rfl 2 (by decide) (hg _ g_206) (fun _ h9 => h9) rfl d_Re_liftsOf_60 ?_
    refine lv_iconst (v := 1) hx hb d_Re_liftsOf_63 (by decide) ?_
    refine lv_aload_n hx hb d_Re_liftsOf_64 rfl (lv_at hl 1 rfl) ?_
    refine va_get (D := D) (ci := 7) (v := .ref (a 23)) (C := R_Re) (T := F_Re) (N := 11) hx hb hg i_Re hown hK hP 0 rfl rfl 10 (by decide) (hg _ g_224) (fun _ h9 => h9) rfl d_Re_liftsOf_65 ?_
    obtain ⟨v_6, e_7, hd⟩ := bind_s hd
    refine callVI (ws' := ws_Re g a v_3) (rest := [.int ((q_Pe_strength (q_Re_people v_3)) x1.toNatClampNeg)]) (As := [.int 1, .ref ((sh a 23) 0)]) hx hb hml hown hg hK hP hD hS hA hCs hl.1 (c_La_together l D g (sh a 2) (sh a 23) 1 (q_Re_land v_3) (q_Re_facts v_3) _ e_7) o_La_together g_650 (ci := 4) (q0 := 2) rfl rfl (List.range' 2 5 ++ List.range' 23 1) (segC2 rfl rfl rfl rfl) (by decide) rfl (segP2 rfl rfl rfl) rfl rfl (Nat.le_of_ble_eq_true rfl) ⟨rfl, rfl, Nat.le_of_ble_eq_true rfl, Nat.le_of_ble_eq_true rfl⟩ d_Re_liftsOf_68 (fun H locs hP hD hS => ?_)
    refine lv_iadd hx hb d_Re_liftsOf_71 ?_
    refine lv_iload_n hx hb d_Re_liftsOf_72 rfl (lv_at hl 0 rfl) ?_
    refine lv_iadd hx hb d_Re_liftsOf_73 ?_
    obtain rfl := Option.some.inj hd
    exact retI hx hb hr hlk hK hP hD hS d_Re_liftsOf_74 rfl
  · have hd := ite_f hd h_5
    refine lv_aload_n hx hb d_Re_liftsOf_22 rfl (lv_at hl 0 rfl) ?_
    refine va_get (D := D) (ci := 7) (v := .ref (a 7)) (C := R_Re) (T := F_Re) (N := 11) hx hb hg i_Re hown hK hP 0 rfl rfl 4 (by decide) (hg _ g_210) (fun _ h9 => h9) rfl d_Re_liftsOf_23 ?_
    refine va_get (D := D) (ci := 5) (v := .ref (a 8)) (C := R_Pe) (T := F_Pe) (N := 7) hx hb hg i_Pe hown hK hP 7 rfl rfl 1 (by decide) (hg _ g_144) (fun _ h9 => h9) rfl d_Re_liftsOf_26 ?_
    refine lv_iload_n hx hb d_Re_liftsOf_29 rfl (lv_at hl 1 rfl) ?_
    obtain ⟨h_18, hd⟩ := ite_s hd
    refine ialdK hx hb hK hP 8 0 rfl rfl (inb_t h_18) rfl d_Re_liftsOf_30 ?_
    refine lv_bipush (v := 6) hx hb d_Re_liftsOf_31 (by decide) ?_
    refine lv_icmp_ne (tgt := 48) hx hb d_Re_liftsOf_33 (by decide) (fun h_10 => ?_) (fun h_10 => ?_)
    · have hd := ite_f hd h_10
      refine lv_iconst (v := 0) hx hb d_Re_liftsOf_48 (by decide) ?_
      refine lv_istore_n (lv' := [(2, .int 0), (0, .ref (a 0)), (1, .int x1)]) hx hb d_Re_liftsOf_49 rfl hl (by decide) rfl (fun ls hl => ?_)
      refine lv_aload_n hx hb d_Re_liftsOf_50 rfl (lv_at hl 1 rfl) ?_
      refine va_get (D := D) (ci := 7) (v := .ref (a 7)) (C := R_Re) (T := F_Re) (N := 11) hx hb hg i_Re hown hK hP 0 rfl rfl 4 (by decide) (hg _ g_210) (fun _ h9 => h9) rfl d_Re_liftsOf_51 ?_
      refine va_get (D := D) (ci := 5) (v := .ref (a 10)) (C := R_Pe) (T := F_Pe) (N := 7) hx hb hg i_Pe hown hK hP 7 rfl rfl 3 (by decide) (hg _ g_153) (fun _ h9 => h9) rfl d_Re_liftsOf_54 ?_
      refine lv_iload_n hx hb d_Re_liftsOf_57 rfl (lv_at hl 2 rfl) ?_
      obtain ⟨h_13, hd⟩ := ite_s hd
      refine ialdK hx hb hK hP 10 0 rfl rfl (inb_t h_13) rfl d_Re_liftsOf_58 ?_
      refine lv_aload_n hx hb d_Re_liftsOf_59 rfl (lv_at hl 1 rfl) ?_
      refine va_get (D := D) (ci := 7) (v := .ref (a 2)) (C := R_Re) (T := F_Re) (N := 11) hx hb hg i_Re hown hK hP 0 rfl rfl 2 (by decide) (hg _ g_206) (fun _ h9 => h9) rfl d_Re_liftsOf_60 ?_
      refine lv_iconst (v := 1) hx hb d_Re_liftsOf_63 (by decide) ?_
      refine lv_aload_n hx hb d_Re_liftsOf_64 rfl (lv_at hl 1 rfl) ?_
      refine va_get (D := D) (ci := 7) (v := .ref (a 23)) (C := R_Re) (T := F_Re) (N := 11) hx hb hg i_Re hown hK hP 0 rfl rfl 10 (by decide) (hg _ g_224) (fun _ h9 => h9) rfl d_Re_liftsOf_65 ?_
      obtain ⟨v_11, e_12, hd⟩ := bind_s hd
      refine callVI (ws' := ws_Re g a v_3) (rest := [.int ((q_Pe_strength (q_Re_people v_3)) x1.toNatClampNeg)]) (As := [.int 1, .ref ((sh a 23) 0)]) hx hb hml hown hg hK hP hD hS hA hCs hl.1 (c_La_together l D g (sh a 2) (sh a 23) 1 (q_Re_land v_3) (q_Re_facts v_3) _ e_12) o_La_together g_650 (ci := 4) (q0 := 2) rfl rfl (List.range' 2 5 ++ List.range' 23 1) (segC2 rfl rfl rfl rfl) (by decide) rfl (segP2 rfl rfl rfl) rfl rfl (Nat.le_of_ble_eq_true rfl) ⟨rfl, rfl, Nat.le_of_ble_eq_true rfl, Nat.le_of_ble_eq_true rfl⟩ d_Re_liftsOf_68 (fun H locs hP hD hS => ?_)
      refine lv_iadd hx hb d_Re_liftsOf_71 ?_
      refine lv_iload_n hx hb d_Re_liftsOf_72 rfl (lv_at hl 0 rfl) ?_
      refine lv_iadd hx hb d_Re_liftsOf_73 ?_
      obtain rfl := Option.some.inj hd
      exact retI hx hb hr hlk hK hP hD hS d_Re_liftsOf_74 rfl
    · have hd := ite_t hd h_10
      refine lv_aload_n hx hb d_Re_liftsOf_36 rfl (lv_at hl 0 rfl) ?_
      refine va_get (D := D) (ci := 7) (v := .ref (a 7)) (C := R_Re) (T := F_Re) (N := 11) hx hb hg i_Re hown hK hP 0 rfl rfl 4 (by decide) (hg _ g_210) (fun _ h9 => h9) rfl d_Re_liftsOf_37 ?_
      refine va_get (D := D) (ci := 5) (v := .ref (a 9)) (C := R_Pe) (T := F_Pe) (N := 7) hx hb hg i_Pe hown hK hP 7 rfl rfl 2 (by decide) (hg _ g_150) (fun _ h9 => h9) rfl d_Re_liftsOf_40 ?_
      refine lv_iload_n hx hb d_Re_liftsOf_43 rfl (lv_at hl 1 rfl) ?_
      obtain ⟨h_17, hd⟩ := ite_s hd
      refine ialdK hx hb hK hP 9 0 rfl rfl (inb_t h_17) rfl d_Re_liftsOf_44 ?_
      refine lv_goto (tgt := 49) hx hb d_Re_liftsOf_45 (by decide) ?_
      refine lv_istore_n (lv' := [(2, .int ((q_Pe_v (q_Re_people v_3)) x1.toNatClampNeg)), (0, .ref (a 0)), (1, .int x1)]) hx hb d_Re_liftsOf_49 rfl hl (by decide) rfl (fun ls hl => ?_)
      refine lv_aload_n hx hb d_Re_liftsOf_50 rfl (lv_at hl 1 rfl) ?_
      refine va_get (D := D) (ci := 7) (v := .ref (a 7)) (C := R_Re) (T := F_Re) (N := 11) hx hb hg i_Re hown hK hP 0 rfl rfl 4 (by decide) (hg _ g_210) (fun _ h9 => h9) rfl d_Re_liftsOf_51 ?_
      refine va_get (D := D) (ci := 5) (v := .ref (a 10)) (C := R_Pe) (T := F_Pe) (N := 7) hx hb hg i_Pe hown hK hP 7 rfl rfl 3 (by decide) (hg _ g_153) (fun _ h9 => h9) rfl d_Re_liftsOf_54 ?_
      refine lv_iload_n hx hb d_Re_liftsOf_57 rfl (lv_at hl 2 rfl) ?_
      obtain ⟨h_16, hd⟩ := ite_s hd
      refine ialdK hx hb hK hP 10 0 rfl rfl (inb_t h_16) rfl d_Re_liftsOf_58 ?_
      refine lv_aload_n hx hb d_Re_liftsOf_59 rfl (lv_at hl 1 rfl) ?_
      refine va_get (D := D) (ci := 7) (v := .ref (a 2)) (C := R_Re) (T := F_Re) (N := 11) hx hb hg i_Re hown hK hP 0 rfl rfl 2 (by decide) (hg _ g_206) (fun _ h9 => h9) rfl d_Re_liftsOf_60 ?_
      refine lv_iconst (v := 1) hx hb d_Re_liftsOf_63 (by decide) ?_
      refine lv_aload_n hx hb d_Re_liftsOf_64 rfl (lv_at hl 1 rfl) ?_
      refine va_get (D := D) (ci := 7) (v := .ref (a 23)) (C := R_Re) (T := F_Re) (N := 11) hx hb hg i_Re hown hK hP 0 rfl rfl 10 (by decide) (hg _ g_224) (fun _ h9 => h9) rfl d_Re_liftsOf_65 ?_
      obtain ⟨v_14, e_15, hd⟩ := bind_s hd
      refine callVI (ws' := ws_Re g a v_3) (rest := [.int ((q_Pe_strength (q_Re_people v_3)) x1.toNatClampNeg)]) (As := [.int 1, .ref ((sh a 23) 0)]) hx hb hml hown hg hK hP hD hS hA hCs hl.1 (c_La_together l D g (sh a 2) (sh a 23) 1 (q_Re_land v_3) (q_Re_facts v_3) _ e_15) o_La_together g_650 (ci := 4) (q0 := 2) rfl rfl (List.range' 2 5 ++ List.range' 23 1) (segC2 rfl rfl rfl rfl) (by decide) rfl (segP2 rfl rfl rfl) rfl rfl (Nat.le_of_ble_eq_true rfl) ⟨rfl, rfl, Nat.le_of_ble_eq_true rfl, Nat.le_of_ble_eq_true rfl⟩ d_Re_liftsOf_68 (fun H locs hP hD hS => ?_)
      refine lv_iadd hx hb d_Re_liftsOf_71 ?_
      refine lv_iload_n hx hb d_Re_liftsOf_72 rfl (lv_at hl 0 rfl) ?_
      refine lv_iadd hx hb d_Re_liftsOf_73 ?_
      obtain rfl := Option.some.inj hd
      exact retI hx hb hr hlk hK hP hD hS d_Re_liftsOf_74 rfl
-- OwnsLift$Realm.tellThing(I)V
def d_Re_tellThing (x1 : Int32) (z : T_Re) : Option (T_Re) :=
  if inb x1 7 = true then (some ((u_Re_facts (u_Re_facts z (upd (q_Re_facts z) 3 x1)) (upd (q_Re_facts (u_Re_facts z (upd (q_Re_facts z) 3 x1))) 4 (((q_Th_weight (q_Re_things (u_Re_facts z (upd (q_Re_facts z) 3 x1)))) x1.toNatClampNeg) / 10))))) else none
theorem d_Re_tellThing_0 : decode b_Re_tellThing 0 = .ok (.aload_n 0, 1) := by decide +kernel
theorem d_Re_tellThing_1 : decode b_Re_tellThing 1 = .ok (.getfield 42, 3) := by decide +kernel
theorem d_Re_tellThing_4 : decode b_Re_tellThing 4 = .ok (.iconst 3, 1) := by decide +kernel
theorem d_Re_tellThing_5 : decode b_Re_tellThing 5 = .ok (.iload_n 1, 1) := by decide +kernel
theorem d_Re_tellThing_6 : decode b_Re_tellThing 6 = .ok (.iastore, 1) := by decide +kernel
theorem d_Re_tellThing_7 : decode b_Re_tellThing 7 = .ok (.aload_n 0, 1) := by decide +kernel
theorem d_Re_tellThing_8 : decode b_Re_tellThing 8 = .ok (.getfield 42, 3) := by decide +kernel
theorem d_Re_tellThing_11 : decode b_Re_tellThing 11 = .ok (.iconst 4, 1) := by decide +kernel
theorem d_Re_tellThing_12 : decode b_Re_tellThing 12 = .ok (.aload_n 0, 1) := by decide +kernel
theorem d_Re_tellThing_13 : decode b_Re_tellThing 13 = .ok (.getfield 32, 3) := by decide +kernel
theorem d_Re_tellThing_16 : decode b_Re_tellThing 16 = .ok (.getfield 88, 3) := by decide +kernel
theorem d_Re_tellThing_19 : decode b_Re_tellThing 19 = .ok (.iload_n 1, 1) := by decide +kernel
theorem d_Re_tellThing_20 : decode b_Re_tellThing 20 = .ok (.iaload, 1) := by decide +kernel
theorem d_Re_tellThing_21 : decode b_Re_tellThing 21 = .ok (.bipush 10, 2) := by decide +kernel
theorem d_Re_tellThing_23 : decode b_Re_tellThing 23 = .ok (.idiv, 1) := by decide +kernel
theorem d_Re_tellThing_24 : decode b_Re_tellThing 24 = .ok (.iastore, 1) := by decide +kernel
theorem d_Re_tellThing_25 : decode b_Re_tellThing 25 = .ok (.return_, 1) := by decide +kernel
theorem o_Re_tellThing : OkV y_Re_tellThing "OwnsLift$Realm" b_Re_tellThing 2 none 1 := ⟨⟨rfl, by decide +kernel, by decide +kernel, by decide +kernel⟩, g_672, g_13, g_72, g_673⟩
set_option maxHeartbeats 4000000 in
set_option maxRecDepth 100000 in
theorem c_Re_tellThing (l : Launch) (D : va_G) (g : Nat → ClassId) (a : Nat → Nat) (x1 : Int32) (z : T_Re) (v : T_Re) (h : d_Re_tellThing x1 z = some v) :
    MV l y_Re_tellThing b_Re_tellThing 2 ({ frames := 0, cells := 0, slots := 0, locals := 0 } : Room) D g [.ref (a 0), .int x1] (ws_Re g a z) (ws_Re g a v) := by
  have hd := h
  unfold d_Re_tellThing at hd
  refine enterV rfl (Nat.le_of_ble_eq_true rfl) (fun p e s m below meth c A ls hx hb hml hr hown hg hlk hK hA hP hD hS hCs hl => ?_)
  have hown : s.vm.findClass "OwnsLift$Realm" = some m.cls := hown
  have hl : lv_has ls 2 [(0, .ref (a 0)), (1, .int x1)] := hl
  show GV p l e s m ({ frames := 0, cells := 0, slots := 0, locals := 0 } : Room) ([.ref (a 0), .int x1] : List Value).toArray below meth c A D g (ws_Re g a v) s.heap [] (F0 m 0 ls [])
  refine lv_aload_n hx hb d_Re_tellThing_0 rfl (lv_at hl 0 rfl) ?_
  refine va_get (D := D) (ci := 7) (v := .ref (a 23)) (C := R_Re) (T := F_Re) (N := 11) hx hb hg i_Re hown hK hP 0 rfl rfl 10 (by decide) (hg _ g_224) (fun _ h9 => h9) rfl d_Re_tellThing_1 ?_
  refine lv_iconst (v := 3) hx hb d_Re_tellThing_4 (by decide) ?_
  refine lv_iload_n hx hb d_Re_tellThing_5 rfl (lv_at hl 1 rfl) ?_
  refine iastK hx hb hK hP hD hS 23 0 rfl rfl (inb_t (by decide +kernel)) (k := 3) (by decide +kernel) d_Re_tellThing_6 (fun H locs hP hD hS => ?_)
  have hP : va_P D classes (ws_Re g a (u_Re_facts z (upd (q_Re_facts z) 3 x1))) H := hP
  have hD : va_D A (ws_Re g a (u_Re_facts z (upd (q_Re_facts z) 3 x1))) := hD
  refine lv_aload_n hx hb d_Re_tellThing_7 rfl (lv_at hl 0 rfl) ?_
  refine va_get (D := D) (ci := 7) (v := .ref (a 23)) (C := R_Re) (T := F_Re) (N := 11) hx hb hg i_Re hown hK hP 0 rfl rfl 10 (by decide) (hg _ g_224) (fun _ h9 => h9) rfl d_Re_tellThing_8 ?_
  refine lv_iconst (v := 4) hx hb d_Re_tellThing_11 (by decide) ?_
  refine lv_aload_n hx hb d_Re_tellThing_12 rfl (lv_at hl 0 rfl) ?_
  refine va_get (D := D) (ci := 7) (v := .ref (a 18)) (C := R_Re) (T := F_Re) (N := 11) hx hb hg i_Re hown hK hP 0 rfl rfl 5 (by decide) (hg _ g_213) (fun _ h9 => h9) rfl d_Re_tellThing_13 ?_
  refine va_get (D := D) (ci := 10) (v := .ref (a 19)) (C := R_Th) (T := F_Th) (N := 3) hx hb hg i_Th hown hK hP 18 rfl rfl 1 (by decide) (hg _ g_190) (fun _ h9 => h9) rfl d_Re_tellThing_16 ?_
  refine lv_iload_n hx hb d_Re_tellThing_19 rfl (lv_at hl 1 rfl) ?_
  obtain ⟨h_1, hd⟩ := ite_s hd
  refine ialdK hx hb hK hP 19 0 rfl rfl (inb_t h_1) rfl d_Re_tellThing_20 ?_
  refine lv_bipush (v := 10) hx hb d_Re_tellThing_21 (by decide) ?_
  refine lv_idiv hx hb d_Re_tellThing_23 (by decide) ?_
  refine iastK hx hb hK hP hD hS 23 0 rfl rfl (inb_t (by decide +kernel)) (k := 4) (by decide +kernel) d_Re_tellThing_24 (fun H locs hP hD hS => ?_)
  have hP : va_P D classes (ws_Re g a (u_Re_facts (u_Re_facts z (upd (q_Re_facts z) 3 x1)) (upd (q_Re_facts (u_Re_facts z (upd (q_Re_facts z) 3 x1))) 4 (((q_Th_weight (q_Re_things (u_Re_facts z (upd (q_Re_facts z) 3 x1)))) x1.toNatClampNeg) / 10)))) H := hP
  have hD : va_D A (ws_Re g a (u_Re_facts (u_Re_facts z (upd (q_Re_facts z) 3 x1)) (upd (q_Re_facts (u_Re_facts z (upd (q_Re_facts z) 3 x1))) 4 (((q_Th_weight (q_Re_things (u_Re_facts z (upd (q_Re_facts z) 3 x1)))) x1.toNatClampNeg) / 10)))) := hD
  obtain rfl := Option.some.inj hd
  exact retV hx hb hr hlk hK hP hD hS d_Re_tellThing_25
-- OwnsLift$Realm.likeOf(II)I
def d_Re_likeOf (x1 : Int32) (x2 : Int32) (z : T_Re) : Option (Int32 × T_Re) :=
  (d_Re_tellPerson x1 z).bind fun v_1 => (d_Re_tellThing x2 v_1).bind fun v_3 => (d_La_together 0 (q_Re_land v_3) (q_Re_facts v_3)).bind fun v_5 => some (1 + v_5, v_3)
theorem d_Re_likeOf_0 : decode b_Re_likeOf 0 = .ok (.aload_n 0, 1) := by decide +kernel
theorem d_Re_likeOf_1 : decode b_Re_likeOf 1 = .ok (.iload_n 1, 1) := by decide +kernel
theorem d_Re_likeOf_2 : decode b_Re_likeOf 2 = .ok (.invokevirtual 45, 3) := by decide +kernel
theorem d_Re_likeOf_5 : decode b_Re_likeOf 5 = .ok (.aload_n 0, 1) := by decide +kernel
theorem d_Re_likeOf_6 : decode b_Re_likeOf 6 = .ok (.iload_n 2, 1) := by decide +kernel
theorem d_Re_likeOf_7 : decode b_Re_likeOf 7 = .ok (.invokevirtual 49, 3) := by decide +kernel
theorem d_Re_likeOf_10 : decode b_Re_likeOf 10 = .ok (.iconst 1, 1) := by decide +kernel
theorem d_Re_likeOf_11 : decode b_Re_likeOf 11 = .ok (.aload_n 0, 1) := by decide +kernel
theorem d_Re_likeOf_12 : decode b_Re_likeOf 12 = .ok (.getfield 18, 3) := by decide +kernel
theorem d_Re_likeOf_15 : decode b_Re_likeOf 15 = .ok (.iconst 0, 1) := by decide +kernel
theorem d_Re_likeOf_16 : decode b_Re_likeOf 16 = .ok (.aload_n 0, 1) := by decide +kernel
theorem d_Re_likeOf_17 : decode b_Re_likeOf 17 = .ok (.getfield 42, 3) := by decide +kernel
theorem d_Re_likeOf_20 : decode b_Re_likeOf 20 = .ok (.invokevirtual 52, 3) := by decide +kernel
theorem d_Re_likeOf_23 : decode b_Re_likeOf 23 = .ok (.iadd, 1) := by decide +kernel
theorem d_Re_likeOf_24 : decode b_Re_likeOf 24 = .ok (.ireturn, 1) := by decide +kernel
theorem o_Re_likeOf : OkV y_Re_likeOf "OwnsLift$Realm" b_Re_likeOf 3 (some .int) 2 := ⟨⟨rfl, by decide +kernel, by decide +kernel, by decide +kernel⟩, g_667, g_668, g_72, g_669⟩
set_option maxHeartbeats 4000000 in
set_option maxRecDepth 100000 in
theorem c_Re_likeOf (l : Launch) (D : va_G) (g : Nat → ClassId) (a : Nat → Nat) (x1 : Int32) (x2 : Int32) (z : T_Re) (v : Int32 × T_Re) (h : d_Re_likeOf x1 x2 z = some v) :
    MI l y_Re_likeOf b_Re_likeOf 3 .int ({ frames := 3, cells := 0, slots := 0, locals := 74 } : Room) D g [.ref (a 0), .int x1, .int x2] (ws_Re g a z) (v.1) (ws_Re g a v.2) := by
  have hd := h
  unfold d_Re_likeOf at hd
  refine enterI rfl (Nat.le_of_ble_eq_true rfl) (fun p e s m below meth c A ls hx hb hml hr hown hg hlk hK hA hP hD hS hCs hl => ?_)
  have hown : s.vm.findClass "OwnsLift$Realm" = some m.cls := hown
  have hl : lv_has ls 3 [(0, .ref (a 0)), (1, .int x1), (2, .int x2)] := hl
  show GI p l e s m ({ frames := 3, cells := 0, slots := 0, locals := 74 } : Room) ([.ref (a 0), .int x1, .int x2] : List Value).toArray below meth c A D g (ws_Re g a v.2) (v.1) s.heap [] (F0 m 0 ls [])
  refine lv_aload_n hx hb d_Re_likeOf_0 rfl (lv_at hl 0 rfl) ?_
  refine lv_iload_n hx hb d_Re_likeOf_1 rfl (lv_at hl 1 rfl) ?_
  obtain ⟨v_1, e_2, hd⟩ := bind_s hd
  refine callVV (ws' := ws_Re g a v_1) (rest := []) (As := [.int x1]) hx hb hml hown hg hK hP hD hS hA hCs hl.1 (c_Re_tellPerson l D g a x1 z _ e_2) o_Re_tellPerson g_642 (ci := 7) (q0 := 0) rfl rfl (List.range' 0 24) (segC1 rfl rfl) (by decide) rfl (segP1 rfl rfl) rfl rfl (Nat.le_of_ble_eq_true rfl) ⟨rfl, rfl, Nat.le_of_ble_eq_true rfl, Nat.le_of_ble_eq_true rfl⟩ d_Re_likeOf_2 (fun H locs hP hD hS => ?_)
  refine lv_aload_n hx hb d_Re_likeOf_5 rfl (lv_at hl 0 rfl) ?_
  refine lv_iload_n hx hb d_Re_likeOf_6 rfl (lv_at hl 2 rfl) ?_
  obtain ⟨v_3, e_4, hd⟩ := bind_s hd
  refine callVV (ws' := ws_Re g a v_3) (rest := []) (As := [.int x2]) hx hb hml hown hg hK hP hD hS hA hCs hl.1 (c_Re_tellThing l D g a x2 v_1 _ e_4) o_Re_tellThing g_670 (ci := 7) (q0 := 0) rfl rfl (List.range' 0 24) (segC1 rfl rfl) (by decide) rfl (segP1 rfl rfl) rfl rfl (Nat.le_of_ble_eq_true rfl) ⟨rfl, rfl, Nat.le_of_ble_eq_true rfl, Nat.le_of_ble_eq_true rfl⟩ d_Re_likeOf_7 (fun H locs hP hD hS => ?_)
  refine lv_iconst (v := 1) hx hb d_Re_likeOf_10 (by decide) ?_
  refine lv_aload_n hx hb d_Re_likeOf_11 rfl (lv_at hl 0 rfl) ?_
  refine va_get (D := D) (ci := 7) (v := .ref (a 2)) (C := R_Re) (T := F_Re) (N := 11) hx hb hg i_Re hown hK hP 0 rfl rfl 2 (by decide) (hg _ g_206) (fun _ h9 => h9) rfl d_Re_likeOf_12 ?_
  refine lv_iconst (v := 0) hx hb d_Re_likeOf_15 (by decide) ?_
  refine lv_aload_n hx hb d_Re_likeOf_16 rfl (lv_at hl 0 rfl) ?_
  refine va_get (D := D) (ci := 7) (v := .ref (a 23)) (C := R_Re) (T := F_Re) (N := 11) hx hb hg i_Re hown hK hP 0 rfl rfl 10 (by decide) (hg _ g_224) (fun _ h9 => h9) rfl d_Re_likeOf_17 ?_
  obtain ⟨v_5, e_6, hd⟩ := bind_s hd
  refine callVI (ws' := ws_Re g a v_3) (rest := [.int 1]) (As := [.int 0, .ref ((sh a 23) 0)]) hx hb hml hown hg hK hP hD hS hA hCs hl.1 (c_La_together l D g (sh a 2) (sh a 23) 0 (q_Re_land v_3) (q_Re_facts v_3) _ e_6) o_La_together g_650 (ci := 4) (q0 := 2) rfl rfl (List.range' 2 5 ++ List.range' 23 1) (segC2 rfl rfl rfl rfl) (by decide) rfl (segP2 rfl rfl rfl) rfl rfl (Nat.le_of_ble_eq_true rfl) ⟨rfl, rfl, Nat.le_of_ble_eq_true rfl, Nat.le_of_ble_eq_true rfl⟩ d_Re_likeOf_20 (fun H locs hP hD hS => ?_)
  refine lv_iadd hx hb d_Re_likeOf_23 ?_
  obtain rfl := Option.some.inj hd
  exact retI hx hb hr hlk hK hP hD hS d_Re_likeOf_24 rfl
-- OwnsLift$Realm.tellNobody()V
def d_Re_tellNobody (z : T_Re) : Option (T_Re) :=
  some ((u_Re_facts (u_Re_facts (u_Re_facts (u_Re_facts z (upd (q_Re_facts z) 0 99)) (upd (q_Re_facts (u_Re_facts z (upd (q_Re_facts z) 0 99))) 1 99)) (upd (q_Re_facts (u_Re_facts (u_Re_facts z (upd (q_Re_facts z) 0 99)) (upd (q_Re_facts (u_Re_facts z (upd (q_Re_facts z) 0 99))) 1 99))) 2 99)) (upd (q_Re_facts (u_Re_facts (u_Re_facts (u_Re_facts z (upd (q_Re_facts z) 0 99)) (upd (q_Re_facts (u_Re_facts z (upd (q_Re_facts z) 0 99))) 1 99)) (upd (q_Re_facts (u_Re_facts (u_Re_facts z (upd (q_Re_facts z) 0 99)) (upd (q_Re_facts (u_Re_facts z (upd (q_Re_facts z) 0 99))) 1 99))) 2 99))) 5 ((q_Re_year (u_Re_facts (u_Re_facts (u_Re_facts z (upd (q_Re_facts z) 0 99)) (upd (q_Re_facts (u_Re_facts z (upd (q_Re_facts z) 0 99))) 1 99)) (upd (q_Re_facts (u_Re_facts (u_Re_facts z (upd (q_Re_facts z) 0 99)) (upd (q_Re_facts (u_Re_facts z (upd (q_Re_facts z) 0 99))) 1 99))) 2 99))) - (q_Re_year (u_Re_facts (u_Re_facts (u_Re_facts z (upd (q_Re_facts z) 0 99)) (upd (q_Re_facts (u_Re_facts z (upd (q_Re_facts z) 0 99))) 1 99)) (upd (q_Re_facts (u_Re_facts (u_Re_facts z (upd (q_Re_facts z) 0 99)) (upd (q_Re_facts (u_Re_facts z (upd (q_Re_facts z) 0 99))) 1 99))) 2 99))) / 10 * 10))))
theorem d_Re_tellNobody_0 : decode b_Re_tellNobody 0 = .ok (.aload_n 0, 1) := by decide +kernel
theorem d_Re_tellNobody_1 : decode b_Re_tellNobody 1 = .ok (.getfield 42, 3) := by decide +kernel
theorem d_Re_tellNobody_4 : decode b_Re_tellNobody 4 = .ok (.iconst 0, 1) := by decide +kernel
theorem d_Re_tellNobody_5 : decode b_Re_tellNobody 5 = .ok (.bipush 99, 2) := by decide +kernel
theorem d_Re_tellNobody_7 : decode b_Re_tellNobody 7 = .ok (.iastore, 1) := by decide +kernel
theorem d_Re_tellNobody_8 : decode b_Re_tellNobody 8 = .ok (.aload_n 0, 1) := by decide +kernel
theorem d_Re_tellNobody_9 : decode b_Re_tellNobody 9 = .ok (.getfield 42, 3) := by decide +kernel
theorem d_Re_tellNobody_12 : decode b_Re_tellNobody 12 = .ok (.iconst 1, 1) := by decide +kernel
theorem d_Re_tellNobody_13 : decode b_Re_tellNobody 13 = .ok (.bipush 99, 2) := by decide +kernel
theorem d_Re_tellNobody_15 : decode b_Re_tellNobody 15 = .ok (.iastore, 1) := by decide +kernel
theorem d_Re_tellNobody_16 : decode b_Re_tellNobody 16 = .ok (.aload_n 0, 1) := by decide +kernel
theorem d_Re_tellNobody_17 : decode b_Re_tellNobody 17 = .ok (.getfield 42, 3) := by decide +kernel
theorem d_Re_tellNobody_20 : decode b_Re_tellNobody 20 = .ok (.iconst 2, 1) := by decide +kernel
theorem d_Re_tellNobody_21 : decode b_Re_tellNobody 21 = .ok (.bipush 99, 2) := by decide +kernel
theorem d_Re_tellNobody_23 : decode b_Re_tellNobody 23 = .ok (.iastore, 1) := by decide +kernel
theorem d_Re_tellNobody_24 : decode b_Re_tellNobody 24 = .ok (.aload_n 0, 1) := by decide +kernel
theorem d_Re_tellNobody_25 : decode b_Re_tellNobody 25 = .ok (.getfield 42, 3) := by decide +kernel
theorem d_Re_tellNobody_28 : decode b_Re_tellNobody 28 = .ok (.iconst 5, 1) := by decide +kernel
theorem d_Re_tellNobody_29 : decode b_Re_tellNobody 29 = .ok (.aload_n 0, 1) := by decide +kernel
theorem d_Re_tellNobody_30 : decode b_Re_tellNobody 30 = .ok (.getfield 77, 3) := by decide +kernel
theorem d_Re_tellNobody_33 : decode b_Re_tellNobody 33 = .ok (.bipush 10, 2) := by decide +kernel
theorem d_Re_tellNobody_35 : decode b_Re_tellNobody 35 = .ok (.irem, 1) := by decide +kernel
theorem d_Re_tellNobody_36 : decode b_Re_tellNobody 36 = .ok (.iastore, 1) := by decide +kernel
theorem d_Re_tellNobody_37 : decode b_Re_tellNobody 37 = .ok (.return_, 1) := by decide +kernel
theorem o_Re_tellNobody : OkV y_Re_tellNobody "OwnsLift$Realm" b_Re_tellNobody 1 none 0 := ⟨⟨rfl, by decide +kernel, by decide +kernel, by decide +kernel⟩, g_777, g_20, g_72, g_778⟩
set_option maxHeartbeats 4000000 in
set_option maxRecDepth 100000 in
theorem c_Re_tellNobody (l : Launch) (D : va_G) (g : Nat → ClassId) (a : Nat → Nat) (z : T_Re) (v : T_Re) (h : d_Re_tellNobody z = some v) :
    MV l y_Re_tellNobody b_Re_tellNobody 1 ({ frames := 0, cells := 0, slots := 0, locals := 0 } : Room) D g [.ref (a 0)] (ws_Re g a z) (ws_Re g a v) := by
  have hd := h
  unfold d_Re_tellNobody at hd
  refine enterV rfl (Nat.le_of_ble_eq_true rfl) (fun p e s m below meth c A ls hx hb hml hr hown hg hlk hK hA hP hD hS hCs hl => ?_)
  have hown : s.vm.findClass "OwnsLift$Realm" = some m.cls := hown
  have hl : lv_has ls 1 [(0, .ref (a 0))] := hl
  show GV p l e s m ({ frames := 0, cells := 0, slots := 0, locals := 0 } : Room) ([.ref (a 0)] : List Value).toArray below meth c A D g (ws_Re g a v) s.heap [] (F0 m 0 ls [])
  refine lv_aload_n hx hb d_Re_tellNobody_0 rfl (lv_at hl 0 rfl) ?_
  refine va_get (D := D) (ci := 7) (v := .ref (a 23)) (C := R_Re) (T := F_Re) (N := 11) hx hb hg i_Re hown hK hP 0 rfl rfl 10 (by decide) (hg _ g_224) (fun _ h9 => h9) rfl d_Re_tellNobody_1 ?_
  refine lv_iconst (v := 0) hx hb d_Re_tellNobody_4 (by decide) ?_
  refine lv_bipush (v := 99) hx hb d_Re_tellNobody_5 (by decide) ?_
  refine iastK hx hb hK hP hD hS 23 0 rfl rfl (inb_t (by decide +kernel)) (k := 0) (by decide +kernel) d_Re_tellNobody_7 (fun H locs hP hD hS => ?_)
  have hP : va_P D classes (ws_Re g a (u_Re_facts z (upd (q_Re_facts z) 0 99))) H := hP
  have hD : va_D A (ws_Re g a (u_Re_facts z (upd (q_Re_facts z) 0 99))) := hD
  refine lv_aload_n hx hb d_Re_tellNobody_8 rfl (lv_at hl 0 rfl) ?_
  refine va_get (D := D) (ci := 7) (v := .ref (a 23)) (C := R_Re) (T := F_Re) (N := 11) hx hb hg i_Re hown hK hP 0 rfl rfl 10 (by decide) (hg _ g_224) (fun _ h9 => h9) rfl d_Re_tellNobody_9 ?_
  refine lv_iconst (v := 1) hx hb d_Re_tellNobody_12 (by decide) ?_
  refine lv_bipush (v := 99) hx hb d_Re_tellNobody_13 (by decide) ?_
  refine iastK hx hb hK hP hD hS 23 0 rfl rfl (inb_t (by decide +kernel)) (k := 1) (by decide +kernel) d_Re_tellNobody_15 (fun H locs hP hD hS => ?_)
  have hP : va_P D classes (ws_Re g a (u_Re_facts (u_Re_facts z (upd (q_Re_facts z) 0 99)) (upd (q_Re_facts (u_Re_facts z (upd (q_Re_facts z) 0 99))) 1 99))) H := hP
  have hD : va_D A (ws_Re g a (u_Re_facts (u_Re_facts z (upd (q_Re_facts z) 0 99)) (upd (q_Re_facts (u_Re_facts z (upd (q_Re_facts z) 0 99))) 1 99))) := hD
  refine lv_aload_n hx hb d_Re_tellNobody_16 rfl (lv_at hl 0 rfl) ?_
  refine va_get (D := D) (ci := 7) (v := .ref (a 23)) (C := R_Re) (T := F_Re) (N := 11) hx hb hg i_Re hown hK hP 0 rfl rfl 10 (by decide) (hg _ g_224) (fun _ h9 => h9) rfl d_Re_tellNobody_17 ?_
  refine lv_iconst (v := 2) hx hb d_Re_tellNobody_20 (by decide) ?_
  refine lv_bipush (v := 99) hx hb d_Re_tellNobody_21 (by decide) ?_
  refine iastK hx hb hK hP hD hS 23 0 rfl rfl (inb_t (by decide +kernel)) (k := 2) (by decide +kernel) d_Re_tellNobody_23 (fun H locs hP hD hS => ?_)
  have hP : va_P D classes (ws_Re g a (u_Re_facts (u_Re_facts (u_Re_facts z (upd (q_Re_facts z) 0 99)) (upd (q_Re_facts (u_Re_facts z (upd (q_Re_facts z) 0 99))) 1 99)) (upd (q_Re_facts (u_Re_facts (u_Re_facts z (upd (q_Re_facts z) 0 99)) (upd (q_Re_facts (u_Re_facts z (upd (q_Re_facts z) 0 99))) 1 99))) 2 99))) H := hP
  have hD : va_D A (ws_Re g a (u_Re_facts (u_Re_facts (u_Re_facts z (upd (q_Re_facts z) 0 99)) (upd (q_Re_facts (u_Re_facts z (upd (q_Re_facts z) 0 99))) 1 99)) (upd (q_Re_facts (u_Re_facts (u_Re_facts z (upd (q_Re_facts z) 0 99)) (upd (q_Re_facts (u_Re_facts z (upd (q_Re_facts z) 0 99))) 1 99))) 2 99))) := hD
  refine lv_aload_n hx hb d_Re_tellNobody_24 rfl (lv_at hl 0 rfl) ?_
  refine va_get (D := D) (ci := 7) (v := .ref (a 23)) (C := R_Re) (T := F_Re) (N := 11) hx hb hg i_Re hown hK hP 0 rfl rfl 10 (by decide) (hg _ g_224) (fun _ h9 => h9) rfl d_Re_tellNobody_25 ?_
  refine lv_iconst (v := 5) hx hb d_Re_tellNobody_28 (by decide) ?_
  refine lv_aload_n hx hb d_Re_tellNobody_29 rfl (lv_at hl 0 rfl) ?_
  refine va_get (D := D) (ci := 7) (v := .int (q_Re_year (u_Re_facts (u_Re_facts (u_Re_facts z (upd (q_Re_facts z) 0 99)) (upd (q_Re_facts (u_Re_facts z (upd (q_Re_facts z) 0 99))) 1 99)) (upd (q_Re_facts (u_Re_facts (u_Re_facts z (upd (q_Re_facts z) 0 99)) (upd (q_Re_facts (u_Re_facts z (upd (q_Re_facts z) 0 99))) 1 99))) 2 99)))) (C := R_Re) (T := F_Re) (N := 11) hx hb hg i_Re hown hK hP 0 rfl rfl 6 (by decide) (hg _ g_216) (fun _ h9 => h9) rfl d_Re_tellNobody_30 ?_
  refine lv_bipush (v := 10) hx hb d_Re_tellNobody_33 (by decide) ?_
  refine lv_irem hx hb d_Re_tellNobody_35 (by decide) ?_
  refine iastK hx hb hK hP hD hS 23 0 rfl rfl (inb_t (by decide +kernel)) (k := 5) (by decide +kernel) d_Re_tellNobody_36 (fun H locs hP hD hS => ?_)
  have hP : va_P D classes (ws_Re g a (u_Re_facts (u_Re_facts (u_Re_facts (u_Re_facts z (upd (q_Re_facts z) 0 99)) (upd (q_Re_facts (u_Re_facts z (upd (q_Re_facts z) 0 99))) 1 99)) (upd (q_Re_facts (u_Re_facts (u_Re_facts z (upd (q_Re_facts z) 0 99)) (upd (q_Re_facts (u_Re_facts z (upd (q_Re_facts z) 0 99))) 1 99))) 2 99)) (upd (q_Re_facts (u_Re_facts (u_Re_facts (u_Re_facts z (upd (q_Re_facts z) 0 99)) (upd (q_Re_facts (u_Re_facts z (upd (q_Re_facts z) 0 99))) 1 99)) (upd (q_Re_facts (u_Re_facts (u_Re_facts z (upd (q_Re_facts z) 0 99)) (upd (q_Re_facts (u_Re_facts z (upd (q_Re_facts z) 0 99))) 1 99))) 2 99))) 5 ((q_Re_year (u_Re_facts (u_Re_facts (u_Re_facts z (upd (q_Re_facts z) 0 99)) (upd (q_Re_facts (u_Re_facts z (upd (q_Re_facts z) 0 99))) 1 99)) (upd (q_Re_facts (u_Re_facts (u_Re_facts z (upd (q_Re_facts z) 0 99)) (upd (q_Re_facts (u_Re_facts z (upd (q_Re_facts z) 0 99))) 1 99))) 2 99))) - (q_Re_year (u_Re_facts (u_Re_facts (u_Re_facts z (upd (q_Re_facts z) 0 99)) (upd (q_Re_facts (u_Re_facts z (upd (q_Re_facts z) 0 99))) 1 99)) (upd (q_Re_facts (u_Re_facts (u_Re_facts z (upd (q_Re_facts z) 0 99)) (upd (q_Re_facts (u_Re_facts z (upd (q_Re_facts z) 0 99))) 1 99))) 2 99))) / 10 * 10)))) H := hP
  have hD : va_D A (ws_Re g a (u_Re_facts (u_Re_facts (u_Re_facts (u_Re_facts z (upd (q_Re_facts z) 0 99)) (upd (q_Re_facts (u_Re_facts z (upd (q_Re_facts z) 0 99))) 1 99)) (upd (q_Re_facts (u_Re_facts (u_Re_facts z (upd (q_Re_facts z) 0 99)) (upd (q_Re_facts (u_Re_facts z (upd (q_Re_facts z) 0 99))) 1 99))) 2 99)) (upd (q_Re_facts (u_Re_facts (u_Re_facts (u_Re_facts z (upd (q_Re_facts z) 0 99)) (upd (q_Re_facts (u_Re_facts z (upd (q_Re_facts z) 0 99))) 1 99)) (upd (q_Re_facts (u_Re_facts (u_Re_facts z (upd (q_Re_facts z) 0 99)) (upd (q_Re_facts (u_Re_facts z (upd (q_Re_facts z) 0 99))) 1 99))) 2 99))) 5 ((q_Re_year (u_Re_facts (u_Re_facts (u_Re_facts z (upd (q_Re_facts z) 0 99)) (upd (q_Re_facts (u_Re_facts z (upd (q_Re_facts z) 0 99))) 1 99)) (upd (q_Re_facts (u_Re_facts (u_Re_facts z (upd (q_Re_facts z) 0 99)) (upd (q_Re_facts (u_Re_facts z (upd (q_Re_facts z) 0 99))) 1 99))) 2 99))) - (q_Re_year (u_Re_facts (u_Re_facts (u_Re_facts z (upd (q_Re_facts z) 0 99)) (upd (q_Re_facts (u_Re_facts z (upd (q_Re_facts z) 0 99))) 1 99)) (upd (q_Re_facts (u_Re_facts (u_Re_facts z (upd (q_Re_facts z) 0 99)) (upd (q_Re_facts (u_Re_facts z (upd (q_Re_facts z) 0 99))) 1 99))) 2 99))) / 10 * 10)))) := hD
  obtain rfl := Option.some.inj hd
  exact retV hx hb hr hlk hK hP hD hS d_Re_tellNobody_37
-- OwnsLift$Realm.wearOf(I)I
def d_Re_wearOf (x1 : Int32) (z : T_Re) : Option (Int32 × T_Re) :=
  (d_Re_tellNobody z).bind fun v_1 => (d_Re_tellThing x1 v_1).bind fun v_3 => (d_La_together 2 (q_Re_land v_3) (q_Re_facts v_3)).bind fun v_5 => some (v_5, v_3)
theorem d_Re_wearOf_0 : decode b_Re_wearOf 0 = .ok (.aload_n 0, 1) := by decide +kernel
theorem d_Re_wearOf_1 : decode b_Re_wearOf 1 = .ok (.invokevirtual 74, 3) := by decide +kernel
theorem d_Re_wearOf_4 : decode b_Re_wearOf 4 = .ok (.aload_n 0, 1) := by decide +kernel
theorem d_Re_wearOf_5 : decode b_Re_wearOf 5 = .ok (.iload_n 1, 1) := by decide +kernel
theorem d_Re_wearOf_6 : decode b_Re_wearOf 6 = .ok (.invokevirtual 49, 3) := by decide +kernel
theorem d_Re_wearOf_9 : decode b_Re_wearOf 9 = .ok (.aload_n 0, 1) := by decide +kernel
theorem d_Re_wearOf_10 : decode b_Re_wearOf 10 = .ok (.getfield 18, 3) := by decide +kernel
theorem d_Re_wearOf_13 : decode b_Re_wearOf 13 = .ok (.iconst 2, 1) := by decide +kernel
theorem d_Re_wearOf_14 : decode b_Re_wearOf 14 = .ok (.aload_n 0, 1) := by decide +kernel
theorem d_Re_wearOf_15 : decode b_Re_wearOf 15 = .ok (.getfield 42, 3) := by decide +kernel
theorem d_Re_wearOf_18 : decode b_Re_wearOf 18 = .ok (.invokevirtual 52, 3) := by decide +kernel
theorem d_Re_wearOf_21 : decode b_Re_wearOf 21 = .ok (.ireturn, 1) := by decide +kernel
theorem o_Re_wearOf : OkV y_Re_wearOf "OwnsLift$Realm" b_Re_wearOf 2 (some .int) 1 := ⟨⟨rfl, by decide +kernel, by decide +kernel, by decide +kernel⟩, g_773, g_19, g_72, g_774⟩
set_option maxHeartbeats 4000000 in
set_option maxRecDepth 100000 in
theorem c_Re_wearOf (l : Launch) (D : va_G) (g : Nat → ClassId) (a : Nat → Nat) (x1 : Int32) (z : T_Re) (v : Int32 × T_Re) (h : d_Re_wearOf x1 z = some v) :
    MI l y_Re_wearOf b_Re_wearOf 2 .int ({ frames := 3, cells := 0, slots := 0, locals := 74 } : Room) D g [.ref (a 0), .int x1] (ws_Re g a z) (v.1) (ws_Re g a v.2) := by
  have hd := h
  unfold d_Re_wearOf at hd
  refine enterI rfl (Nat.le_of_ble_eq_true rfl) (fun p e s m below meth c A ls hx hb hml hr hown hg hlk hK hA hP hD hS hCs hl => ?_)
  have hown : s.vm.findClass "OwnsLift$Realm" = some m.cls := hown
  have hl : lv_has ls 2 [(0, .ref (a 0)), (1, .int x1)] := hl
  show GI p l e s m ({ frames := 3, cells := 0, slots := 0, locals := 74 } : Room) ([.ref (a 0), .int x1] : List Value).toArray below meth c A D g (ws_Re g a v.2) (v.1) s.heap [] (F0 m 0 ls [])
  refine lv_aload_n hx hb d_Re_wearOf_0 rfl (lv_at hl 0 rfl) ?_
  obtain ⟨v_1, e_2, hd⟩ := bind_s hd
  refine callVV (ws' := ws_Re g a v_1) (rest := []) (As := []) hx hb hml hown hg hK hP hD hS hA hCs hl.1 (c_Re_tellNobody l D g a z _ e_2) o_Re_tellNobody g_775 (ci := 7) (q0 := 0) rfl rfl (List.range' 0 24) (segC1 rfl rfl) (by decide) rfl (segP1 rfl rfl) rfl rfl (Nat.le_of_ble_eq_true rfl) ⟨rfl, rfl, Nat.le_of_ble_eq_true rfl, Nat.le_of_ble_eq_true rfl⟩ d_Re_wearOf_1 (fun H locs hP hD hS => ?_)
  refine lv_aload_n hx hb d_Re_wearOf_4 rfl (lv_at hl 0 rfl) ?_
  refine lv_iload_n hx hb d_Re_wearOf_5 rfl (lv_at hl 1 rfl) ?_
  obtain ⟨v_3, e_4, hd⟩ := bind_s hd
  refine callVV (ws' := ws_Re g a v_3) (rest := []) (As := [.int x1]) hx hb hml hown hg hK hP hD hS hA hCs hl.1 (c_Re_tellThing l D g a x1 v_1 _ e_4) o_Re_tellThing g_670 (ci := 7) (q0 := 0) rfl rfl (List.range' 0 24) (segC1 rfl rfl) (by decide) rfl (segP1 rfl rfl) rfl rfl (Nat.le_of_ble_eq_true rfl) ⟨rfl, rfl, Nat.le_of_ble_eq_true rfl, Nat.le_of_ble_eq_true rfl⟩ d_Re_wearOf_6 (fun H locs hP hD hS => ?_)
  refine lv_aload_n hx hb d_Re_wearOf_9 rfl (lv_at hl 0 rfl) ?_
  refine va_get (D := D) (ci := 7) (v := .ref (a 2)) (C := R_Re) (T := F_Re) (N := 11) hx hb hg i_Re hown hK hP 0 rfl rfl 2 (by decide) (hg _ g_206) (fun _ h9 => h9) rfl d_Re_wearOf_10 ?_
  refine lv_iconst (v := 2) hx hb d_Re_wearOf_13 (by decide) ?_
  refine lv_aload_n hx hb d_Re_wearOf_14 rfl (lv_at hl 0 rfl) ?_
  refine va_get (D := D) (ci := 7) (v := .ref (a 23)) (C := R_Re) (T := F_Re) (N := 11) hx hb hg i_Re hown hK hP 0 rfl rfl 10 (by decide) (hg _ g_224) (fun _ h9 => h9) rfl d_Re_wearOf_15 ?_
  obtain ⟨v_5, e_6, hd⟩ := bind_s hd
  refine callVI (ws' := ws_Re g a v_3) (rest := []) (As := [.int 2, .ref ((sh a 23) 0)]) hx hb hml hown hg hK hP hD hS hA hCs hl.1 (c_La_together l D g (sh a 2) (sh a 23) 2 (q_Re_land v_3) (q_Re_facts v_3) _ e_6) o_La_together g_650 (ci := 4) (q0 := 2) rfl rfl (List.range' 2 5 ++ List.range' 23 1) (segC2 rfl rfl rfl rfl) (by decide) rfl (segP2 rfl rfl rfl) rfl rfl (Nat.le_of_ble_eq_true rfl) ⟨rfl, rfl, Nat.le_of_ble_eq_true rfl, Nat.le_of_ble_eq_true rfl⟩ d_Re_wearOf_18 (fun H locs hP hD hS => ?_)
  obtain rfl := Option.some.inj hd
  exact retI hx hb hr hlk hK hP hD hS d_Re_wearOf_21 rfl
-- OwnsLift$Realm.pass()V
def B_Re_pass_L12 (k12_54 : T_Re → Option (T_Re)) (self12 : Int32 → T_Re → Option (T_Re)) (x1_12 : Int32) (z_12 : T_Re) : Option (T_Re) :=
  if (q_Pe_size (q_Re_people z_12)) ≤ x1_12 then (k12_54 z_12) else (if inb x1_12 4 = true then (if inb x1_12 4 = true then (self12 (x1_12 + 1) (u_Re_people z_12 (u_Pe_age (q_Re_people z_12) (upd (q_Pe_age (q_Re_people z_12)) x1_12.toNatClampNeg (if (((q_Pe_age (q_Re_people z_12)) x1_12.toNatClampNeg) + 1) < 99 then (((q_Pe_age (q_Re_people z_12)) x1_12.toNatClampNeg) + 1) else 99))))) else none) else none)
def d_Re_pass_L12 (k12_54 : T_Re → Option (T_Re)) (n : Nat) : Int32 → T_Re → Option (T_Re) := recN (fun _ _ => none) (fun self => B_Re_pass_L12 k12_54 self) n
def B_Re_pass_L56 (self56 : Int32 → T_Re → Option (T_Re)) (x1_56 : Int32) (z_56 : T_Re) : Option (T_Re) :=
  if (q_Th_size (q_Re_things z_56)) ≤ x1_56 then (some (z_56)) else (if inb x1_56 7 = true then ((d_Re_wearOf x1_56 z_56).bind fun v_5 => if inb x1_56 7 = true then (self56 (x1_56 + 1) (u_Re_things v_5.2 (u_Th_weight (q_Re_things v_5.2) (upd (q_Th_weight (q_Re_things v_5.2)) x1_56.toNatClampNeg (if 0 < (((q_Th_weight (q_Re_things z_56)) x1_56.toNatClampNeg) - v_5.1) then (((q_Th_weight (q_Re_things z_56)) x1_56.toNatClampNeg) - v_5.1) else 0))))) else none) else none)
def d_Re_pass_L56 (n : Nat) : Int32 → T_Re → Option (T_Re) := recN (fun _ _ => none) (fun self => B_Re_pass_L56 self) n
def d_Re_pass (z : T_Re) : Option (T_Re) :=
  d_Re_pass_L12 (fun z_12 => d_Re_pass_L56  1000 0 z_12) 1000 0 (u_Re_year z ((q_Re_year z) + 1))
theorem d_Re_pass_0 : decode b_Re_pass 0 = .ok (.aload_n 0, 1) := by decide +kernel
theorem d_Re_pass_1 : decode b_Re_pass 1 = .ok (.dup, 1) := by decide +kernel
theorem d_Re_pass_2 : decode b_Re_pass 2 = .ok (.getfield 77, 3) := by decide +kernel
theorem d_Re_pass_5 : decode b_Re_pass 5 = .ok (.iconst 1, 1) := by decide +kernel
theorem d_Re_pass_6 : decode b_Re_pass 6 = .ok (.iadd, 1) := by decide +kernel
theorem d_Re_pass_7 : decode b_Re_pass 7 = .ok (.putfield 77, 3) := by decide +kernel
theorem d_Re_pass_10 : decode b_Re_pass 10 = .ok (.iconst 0, 1) := by decide +kernel
theorem d_Re_pass_11 : decode b_Re_pass 11 = .ok (.istore_n 1, 1) := by decide +kernel
theorem d_Re_pass_12 : decode b_Re_pass 12 = .ok (.iload_n 1, 1) := by decide +kernel
theorem d_Re_pass_13 : decode b_Re_pass 13 = .ok (.aload_n 0, 1) := by decide +kernel
theorem d_Re_pass_14 : decode b_Re_pass 14 = .ok (.getfield 25, 3) := by decide +kernel
theorem d_Re_pass_17 : decode b_Re_pass 17 = .ok (.getfield 81, 3) := by decide +kernel
theorem d_Re_pass_20 : decode b_Re_pass 20 = .ok (.if_icmp .ge 34, 3) := by decide +kernel
theorem d_Re_pass_23 : decode b_Re_pass 23 = .ok (.aload_n 0, 1) := by decide +kernel
theorem d_Re_pass_24 : decode b_Re_pass 24 = .ok (.getfield 25, 3) := by decide +kernel
theorem d_Re_pass_27 : decode b_Re_pass 27 = .ok (.getfield 84, 3) := by decide +kernel
theorem d_Re_pass_30 : decode b_Re_pass 30 = .ok (.iload_n 1, 1) := by decide +kernel
theorem d_Re_pass_31 : decode b_Re_pass 31 = .ok (.bipush 99, 2) := by decide +kernel
theorem d_Re_pass_33 : decode b_Re_pass 33 = .ok (.aload_n 0, 1) := by decide +kernel
theorem d_Re_pass_34 : decode b_Re_pass 34 = .ok (.getfield 25, 3) := by decide +kernel
theorem d_Re_pass_37 : decode b_Re_pass 37 = .ok (.getfield 84, 3) := by decide +kernel
theorem d_Re_pass_40 : decode b_Re_pass 40 = .ok (.iload_n 1, 1) := by decide +kernel
theorem d_Re_pass_41 : decode b_Re_pass 41 = .ok (.iaload, 1) := by decide +kernel
theorem d_Re_pass_42 : decode b_Re_pass 42 = .ok (.iconst 1, 1) := by decide +kernel
theorem d_Re_pass_43 : decode b_Re_pass 43 = .ok (.iadd, 1) := by decide +kernel
theorem d_Re_pass_44 : decode b_Re_pass 44 = .ok (.invokestatic 68, 3) := by decide +kernel
theorem d_Re_pass_47 : decode b_Re_pass 47 = .ok (.iastore, 1) := by decide +kernel
theorem d_Re_pass_48 : decode b_Re_pass 48 = .ok (.iinc 1 1, 3) := by decide +kernel
theorem d_Re_pass_51 : decode b_Re_pass 51 = .ok (.goto (-39), 3) := by decide +kernel
theorem d_Re_pass_54 : decode b_Re_pass 54 = .ok (.iconst 0, 1) := by decide +kernel
theorem d_Re_pass_55 : decode b_Re_pass 55 = .ok (.istore_n 1, 1) := by decide +kernel
theorem d_Re_pass_56 : decode b_Re_pass 56 = .ok (.iload_n 1, 1) := by decide +kernel
theorem d_Re_pass_57 : decode b_Re_pass 57 = .ok (.aload_n 0, 1) := by decide +kernel
theorem d_Re_pass_58 : decode b_Re_pass 58 = .ok (.getfield 32, 3) := by decide +kernel
theorem d_Re_pass_61 : decode b_Re_pass 61 = .ok (.getfield 87, 3) := by decide +kernel
theorem d_Re_pass_64 : decode b_Re_pass 64 = .ok (.if_icmp .ge 37, 3) := by decide +kernel
theorem d_Re_pass_67 : decode b_Re_pass 67 = .ok (.aload_n 0, 1) := by decide +kernel
theorem d_Re_pass_68 : decode b_Re_pass 68 = .ok (.getfield 32, 3) := by decide +kernel
theorem d_Re_pass_71 : decode b_Re_pass 71 = .ok (.getfield 88, 3) := by decide +kernel
theorem d_Re_pass_74 : decode b_Re_pass 74 = .ok (.iload_n 1, 1) := by decide +kernel
theorem d_Re_pass_75 : decode b_Re_pass 75 = .ok (.iconst 0, 1) := by decide +kernel
theorem d_Re_pass_76 : decode b_Re_pass 76 = .ok (.aload_n 0, 1) := by decide +kernel
theorem d_Re_pass_77 : decode b_Re_pass 77 = .ok (.getfield 32, 3) := by decide +kernel
theorem d_Re_pass_80 : decode b_Re_pass 80 = .ok (.getfield 88, 3) := by decide +kernel
theorem d_Re_pass_83 : decode b_Re_pass 83 = .ok (.iload_n 1, 1) := by decide +kernel
theorem d_Re_pass_84 : decode b_Re_pass 84 = .ok (.iaload, 1) := by decide +kernel
theorem d_Re_pass_85 : decode b_Re_pass 85 = .ok (.aload_n 0, 1) := by decide +kernel
theorem d_Re_pass_86 : decode b_Re_pass 86 = .ok (.iload_n 1, 1) := by decide +kernel
theorem d_Re_pass_87 : decode b_Re_pass 87 = .ok (.invokevirtual 91, 3) := by decide +kernel
theorem d_Re_pass_90 : decode b_Re_pass 90 = .ok (.isub, 1) := by decide +kernel
theorem d_Re_pass_91 : decode b_Re_pass 91 = .ok (.invokestatic 95, 3) := by decide +kernel
theorem d_Re_pass_94 : decode b_Re_pass 94 = .ok (.iastore, 1) := by decide +kernel
theorem d_Re_pass_95 : decode b_Re_pass 95 = .ok (.iinc 1 1, 3) := by decide +kernel
theorem d_Re_pass_98 : decode b_Re_pass 98 = .ok (.goto (-42), 3) := by decide +kernel
theorem d_Re_pass_101 : decode b_Re_pass 101 = .ok (.return_, 1) := by decide +kernel
theorem o_Re_pass : OkV y_Re_pass "OwnsLift$Realm" b_Re_pass 2 none 0 := ⟨⟨rfl, by decide +kernel, by decide +kernel, by decide +kernel⟩, g_768, g_769, g_72, g_770⟩
set_option maxHeartbeats 4000000 in
set_option maxRecDepth 100000 in
theorem c_Re_pass (l : Launch) (D : va_G) (g : Nat → ClassId) (a : Nat → Nat) (z : T_Re) (v : T_Re) (h : d_Re_pass z = some v) :
    MV l y_Re_pass b_Re_pass 2 ({ frames := 4, cells := 0, slots := 0, locals := 95 } : Room) D g [.ref (a 0)] (ws_Re g a z) (ws_Re g a v) := by
  have hd := h
  unfold d_Re_pass at hd
  refine enterV rfl (Nat.le_of_ble_eq_true rfl) (fun p e s m below meth c A ls hx hb hml hr hown hg hlk hK hA hP hD hS hCs hl => ?_)
  have hown : s.vm.findClass "OwnsLift$Realm" = some m.cls := hown
  have hl : lv_has ls 2 [(0, .ref (a 0))] := hl
  show GV p l e s m ({ frames := 4, cells := 0, slots := 0, locals := 95 } : Room) ([.ref (a 0)] : List Value).toArray below meth c A D g (ws_Re g a v) s.heap [] (F0 m 0 ls [])
  refine lv_aload_n hx hb d_Re_pass_0 rfl (lv_at hl 0 rfl) ?_
  refine lv_dup hx hb d_Re_pass_1 rfl ?_
  refine va_get (D := D) (ci := 7) (v := .int (q_Re_year z)) (C := R_Re) (T := F_Re) (N := 11) hx hb hg i_Re hown hK hP 0 rfl rfl 6 (by decide) (hg _ g_216) (fun _ h9 => h9) rfl d_Re_pass_2 ?_
  refine lv_iconst (v := 1) hx hb d_Re_pass_5 (by decide) ?_
  refine lv_iadd hx hb d_Re_pass_6 ?_
  refine va_put (D := D) (ci := 7) (v := .int ((q_Re_year z) + 1)) (ty := .int) (C := R_Re) (T := F_Re) (N := 11) hx hb hg i_Re t_Re t_Re_ok n_Re hown hK hP hD hS 0 rfl rfl 6 (by decide) (hg _ g_216) (fun _ h9 => h9) rfl (by decide +kernel) rfl rfl (Nat.le_of_ble_eq_true rfl) d_Re_pass_7 (fun H locs hP hD hS => ?_)
  have hP : va_P D classes (ws_Re g a (u_Re_year z ((q_Re_year z) + 1))) H := hP
  have hD : va_D A (ws_Re g a (u_Re_year z ((q_Re_year z) + 1))) := hD
  refine lv_iconst (v := 0) hx hb d_Re_pass_10 (by decide) ?_
  refine lv_istore_n (lv' := [(1, .int 0), (0, .ref (a 0))]) hx hb d_Re_pass_11 rfl hl (by decide) rfl (fun ls hl => ?_)
  have ex12_54 : ∀ (z_12 : T_Re) (H : Heap) (locs : List Loc) (ls : Array Slot), va_P D classes (ws_Re g a z_12) H → va_D A (ws_Re g a z_12) → va_S A s.heap H locs → lv_has ls 2 [(0, .ref (a 0))] → (d_Re_pass_L56  1000 0 z_12) = some v → GV p l e s m ({ frames := 4, cells := 0, slots := 0, locals := 95 } : Room) ([.ref (a 0)] : List Value).toArray below meth c A D g (ws_Re g a v) H locs (F0 m 54 ls []) := by
    intro z_12 H locs ls hP hD hS hl hd
    refine lv_iconst (v := 0) hx hb d_Re_pass_54 (by decide) ?_
    refine lv_istore_n (lv' := [(1, .int 0), (0, .ref (a 0))]) hx hb d_Re_pass_55 rfl hl (by decide) rfl (fun ls hl => ?_)
    have lp56 : ∀ (n : Nat) (x1_56 : Int32) (z_56 : T_Re) (H : Heap) (locs : List Loc) (ls : Array Slot), va_P D classes (ws_Re g a z_56) H → va_D A (ws_Re g a z_56) → va_S A s.heap H locs → lv_has ls 2 [(0, .ref (a 0)), (1, .int x1_56)] → d_Re_pass_L56 n x1_56 z_56 = some v → GV p l e s m ({ frames := 4, cells := 0, slots := 0, locals := 95 } : Room) ([.ref (a 0)] : List Value).toArray below meth c A D g (ws_Re g a v) H locs (F0 m 56 ls []) := by
      intro n
      induction n with
      | zero =>
        intro  x1_56 z_56 H locs ls hP hD hS hl hd
        have hd : none = some v := hd
        cases hd
      | succ n ih56 =>
        intro  x1_56 z_56 H locs ls hP hD hS hl hd
        have hd : B_Re_pass_L56 (d_Re_pass_L56 n) x1_56 z_56 = some v := hd
        generalize d_Re_pass_L56 n = self56 at ih56 hd
        unfold B_Re_pass_L56 at hd
        refine lv_iload_n hx hb d_Re_pass_56 rfl (lv_at hl 1 rfl) ?_
        refine lv_aload_n hx hb d_Re_pass_57 rfl (lv_at hl 0 rfl) ?_
        refine va_get (D := D) (ci := 7) (v := .ref (a 18)) (C := R_Re) (T := F_Re) (N := 11) hx hb hg i_Re hown hK hP 0 rfl rfl 5 (by decide) (hg _ g_213) (fun _ h9 => h9) rfl d_Re_pass_58 ?_
        refine va_get (D := D) (ci := 10) (v := .int (q_Th_size (q_Re_things z_56))) (C := R_Th) (T := F_Th) (N := 3) hx hb hg i_Th hown hK hP 18 rfl rfl 0 (by decide) (hg _ g_186) (fun _ h9 => h9) rfl d_Re_pass_61 ?_
        refine lv_icmp_ge (tgt := 101) hx hb d_Re_pass_64 (by decide) (fun h_4 => ?_) (fun h_4 => ?_)
        · have hd := ite_t hd h_4
          obtain rfl := Option.some.inj hd
          exact retV hx hb hr hlk hK hP hD hS d_Re_pass_101
        · have hd := ite_f hd h_4
          refine lv_aload_n hx hb d_Re_pass_67 rfl (lv_at hl 0 rfl) ?_
          refine va_get (D := D) (ci := 7) (v := .ref (a 18)) (C := R_Re) (T := F_Re) (N := 11) hx hb hg i_Re hown hK hP 0 rfl rfl 5 (by decide) (hg _ g_213) (fun _ h9 => h9) rfl d_Re_pass_68 ?_
          refine va_get (D := D) (ci := 10) (v := .ref (a 19)) (C := R_Th) (T := F_Th) (N := 3) hx hb hg i_Th hown hK hP 18 rfl rfl 1 (by decide) (hg _ g_190) (fun _ h9 => h9) rfl d_Re_pass_71 ?_
          refine lv_iload_n hx hb d_Re_pass_74 rfl (lv_at hl 1 rfl) ?_
          refine lv_iconst (v := 0) hx hb d_Re_pass_75 (by decide) ?_
          refine lv_aload_n hx hb d_Re_pass_76 rfl (lv_at hl 0 rfl) ?_
          refine va_get (D := D) (ci := 7) (v := .ref (a 18)) (C := R_Re) (T := F_Re) (N := 11) hx hb hg i_Re hown hK hP 0 rfl rfl 5 (by decide) (hg _ g_213) (fun _ h9 => h9) rfl d_Re_pass_77 ?_
          refine va_get (D := D) (ci := 10) (v := .ref (a 19)) (C := R_Th) (T := F_Th) (N := 3) hx hb hg i_Th hown hK hP 18 rfl rfl 1 (by decide) (hg _ g_190) (fun _ h9 => h9) rfl d_Re_pass_80 ?_
          refine lv_iload_n hx hb d_Re_pass_83 rfl (lv_at hl 1 rfl) ?_
          obtain ⟨h_8, hd⟩ := ite_s hd
          refine ialdK hx hb hK hP 19 0 rfl rfl (inb_t h_8) rfl d_Re_pass_84 ?_
          refine lv_aload_n hx hb d_Re_pass_85 rfl (lv_at hl 0 rfl) ?_
          refine lv_iload_n hx hb d_Re_pass_86 rfl (lv_at hl 1 rfl) ?_
          obtain ⟨v_5, e_6, hd⟩ := bind_s hd
          refine callVI (ws' := ws_Re g a v_5.2) (rest := [.int ((q_Th_weight (q_Re_things z_56)) x1_56.toNatClampNeg), .int 0, .int x1_56, .ref (a 19)]) (As := [.int x1_56]) hx hb hml hown hg hK hP hD hS hA hCs hl.1 (c_Re_wearOf l D g a x1_56 z_56 _ e_6) o_Re_wearOf g_771 (ci := 7) (q0 := 0) rfl rfl (List.range' 0 24) (segC1 rfl rfl) (by decide) rfl (segP1 rfl rfl) rfl rfl (Nat.le_of_ble_eq_true rfl) ⟨rfl, rfl, Nat.le_of_ble_eq_true rfl, Nat.le_of_ble_eq_true rfl⟩ d_Re_pass_87 (fun H locs hP hD hS => ?_)
          refine lv_isub hx hb d_Re_pass_90 ?_
          refine va_mmax hx hb (hml.trans hl.1.symm) hown (hg _ g_779) (hg _ k_max_s) (hg _ k_math_i) (hg _ k_max_c) (Nat.le_of_ble_eq_true rfl) (Nat.le_of_ble_eq_true rfl) (Nat.zero_le _) (Nat.zero_le _) d_Re_pass_91 ?_
          obtain ⟨h_7, hd⟩ := ite_s hd
          refine iastK hx hb hK hP hD hS 19 0 rfl rfl (inb_t h_7) rfl d_Re_pass_94 (fun H locs hP hD hS => ?_)
          have hP : va_P D classes (ws_Re g a (u_Re_things v_5.2 (u_Th_weight (q_Re_things v_5.2) (upd (q_Th_weight (q_Re_things v_5.2)) x1_56.toNatClampNeg (if 0 < (((q_Th_weight (q_Re_things z_56)) x1_56.toNatClampNeg) - v_5.1) then (((q_Th_weight (q_Re_things z_56)) x1_56.toNatClampNeg) - v_5.1) else 0))))) H := hP
          have hD : va_D A (ws_Re g a (u_Re_things v_5.2 (u_Th_weight (q_Re_things v_5.2) (upd (q_Th_weight (q_Re_things v_5.2)) x1_56.toNatClampNeg (if 0 < (((q_Th_weight (q_Re_things z_56)) x1_56.toNatClampNeg) - v_5.1) then (((q_Th_weight (q_Re_things z_56)) x1_56.toNatClampNeg) - v_5.1) else 0))))) := hD
          refine lv_iinc (v := x1_56 + 1) (lv' := [(1, .int (x1_56 + 1)), (0, .ref (a 0))]) hx hb d_Re_pass_95 hl (k := 1) rfl (by rfl) (by decide) rfl (fun ls hl => ?_)
          refine lv_goto (tgt := 56) hx hb d_Re_pass_98 (by decide) ?_
          exact ih56 (x1_56 + 1) (u_Re_things v_5.2 (u_Th_weight (q_Re_things v_5.2) (upd (q_Th_weight (q_Re_things v_5.2)) x1_56.toNatClampNeg (if 0 < (((q_Th_weight (q_Re_things z_56)) x1_56.toNatClampNeg) - v_5.1) then (((q_Th_weight (q_Re_things z_56)) x1_56.toNatClampNeg) - v_5.1) else 0)))) _ _ _ hP hD hS (lv_sub hl [1, 0] rfl) hd
    exact lp56 1000 0 z_12 _ _ _ hP hD hS (lv_sub hl [1, 0] rfl) hd
  have lp12 : ∀ (k12_54 : T_Re → Option (T_Re)) (hk12_54 : ∀ (z_12 : T_Re) (H : Heap) (locs : List Loc) (ls : Array Slot), va_P D classes (ws_Re g a z_12) H → va_D A (ws_Re g a z_12) → va_S A s.heap H locs → lv_has ls 2 [(0, .ref (a 0))] → k12_54 z_12 = some v → GV p l e s m ({ frames := 4, cells := 0, slots := 0, locals := 95 } : Room) ([.ref (a 0)] : List Value).toArray below meth c A D g (ws_Re g a v) H locs (F0 m 54 ls [])) (n : Nat) (x1_12 : Int32) (z_12 : T_Re) (H : Heap) (locs : List Loc) (ls : Array Slot), va_P D classes (ws_Re g a z_12) H → va_D A (ws_Re g a z_12) → va_S A s.heap H locs → lv_has ls 2 [(0, .ref (a 0)), (1, .int x1_12)] → d_Re_pass_L12 k12_54 n x1_12 z_12 = some v → GV p l e s m ({ frames := 4, cells := 0, slots := 0, locals := 95 } : Room) ([.ref (a 0)] : List Value).toArray below meth c A D g (ws_Re g a v) H locs (F0 m 12 ls []) := by
    intro k12_54 hk12_54 n
    induction n with
    | zero =>
      intro  x1_12 z_12 H locs ls hP hD hS hl hd
      have hd : none = some v := hd
      cases hd
    | succ n ih12 =>
      intro  x1_12 z_12 H locs ls hP hD hS hl hd
      have hd : B_Re_pass_L12 k12_54 (d_Re_pass_L12 k12_54 n) x1_12 z_12 = some v := hd
      generalize d_Re_pass_L12 k12_54 n = self12 at ih12 hd
      unfold B_Re_pass_L12 at hd
      refine lv_iload_n hx hb d_Re_pass_12 rfl (lv_at hl 1 rfl) ?_
      refine lv_aload_n hx hb d_Re_pass_13 rfl (lv_at hl 0 rfl) ?_
      refine va_get (D := D) (ci := 7) (v := .ref (a 7)) (C := R_Re) (T := F_Re) (N := 11) hx hb hg i_Re hown hK hP 0 rfl rfl 4 (by decide) (hg _ g_210) (fun _ h9 => h9) rfl d_Re_pass_14 ?_
      refine va_get (D := D) (ci := 5) (v := .int (q_Pe_size (q_Re_people z_12))) (C := R_Pe) (T := F_Pe) (N := 7) hx hb hg i_Pe hown hK hP 7 rfl rfl 0 (by decide) (hg _ g_142) (fun _ h9 => h9) rfl d_Re_pass_17 ?_
      refine lv_icmp_ge (tgt := 54) hx hb d_Re_pass_20 (by decide) (fun h_1 => ?_) (fun h_1 => ?_)
      · have hd := ite_t hd h_1
        exact hk12_54 z_12 _ _ _ hP hD hS (lv_sub hl [0] rfl) hd
      · have hd := ite_f hd h_1
        refine lv_aload_n hx hb d_Re_pass_23 rfl (lv_at hl 0 rfl) ?_
        refine va_get (D := D) (ci := 7) (v := .ref (a 7)) (C := R_Re) (T := F_Re) (N := 11) hx hb hg i_Re hown hK hP 0 rfl rfl 4 (by decide) (hg _ g_210) (fun _ h9 => h9) rfl d_Re_pass_24 ?_
        refine va_get (D := D) (ci := 5) (v := .ref (a 11)) (C := R_Pe) (T := F_Pe) (N := 7) hx hb hg i_Pe hown hK hP 7 rfl rfl 4 (by decide) (hg _ g_157) (fun _ h9 => h9) rfl d_Re_pass_27 ?_
        refine lv_iload_n hx hb d_Re_pass_30 rfl (lv_at hl 1 rfl) ?_
        refine lv_bipush (v := 99) hx hb d_Re_pass_31 (by decide) ?_
        refine lv_aload_n hx hb d_Re_pass_33 rfl (lv_at hl 0 rfl) ?_
        refine va_get (D := D) (ci := 7) (v := .ref (a 7)) (C := R_Re) (T := F_Re) (N := 11) hx hb hg i_Re hown hK hP 0 rfl rfl 4 (by decide) (hg _ g_210) (fun _ h9 => h9) rfl d_Re_pass_34 ?_
        refine va_get (D := D) (ci := 5) (v := .ref (a 11)) (C := R_Pe) (T := F_Pe) (N := 7) hx hb hg i_Pe hown hK hP 7 rfl rfl 4 (by decide) (hg _ g_157) (fun _ h9 => h9) rfl d_Re_pass_37 ?_
        refine lv_iload_n hx hb d_Re_pass_40 rfl (lv_at hl 1 rfl) ?_
        obtain ⟨h_3, hd⟩ := ite_s hd
        refine ialdK hx hb hK hP 11 0 rfl rfl (inb_t h_3) rfl d_Re_pass_41 ?_
        refine lv_iconst (v := 1) hx hb d_Re_pass_42 (by decide) ?_
        refine lv_iadd hx hb d_Re_pass_43 ?_
        refine va_mmin hx hb (hml.trans hl.1.symm) hown (hg _ g_665) (hg _ k_min_s) (hg _ k_math_i) (hg _ k_min_c) (Nat.le_of_ble_eq_true rfl) (Nat.le_of_ble_eq_true rfl) (Nat.zero_le _) (Nat.zero_le _) d_Re_pass_44 ?_
        obtain ⟨h_2, hd⟩ := ite_s hd
        refine iastK hx hb hK hP hD hS 11 0 rfl rfl (inb_t h_2) rfl d_Re_pass_47 (fun H locs hP hD hS => ?_)
        have hP : va_P D classes (ws_Re g a (u_Re_people z_12 (u_Pe_age (q_Re_people z_12) (upd (q_Pe_age (q_Re_people z_12)) x1_12.toNatClampNeg (if (((q_Pe_age (q_Re_people z_12)) x1_12.toNatClampNeg) + 1) < 99 then (((q_Pe_age (q_Re_people z_12)) x1_12.toNatClampNeg) + 1) else 99))))) H := hP
        have hD : va_D A (ws_Re g a (u_Re_people z_12 (u_Pe_age (q_Re_people z_12) (upd (q_Pe_age (q_Re_people z_12)) x1_12.toNatClampNeg (if (((q_Pe_age (q_Re_people z_12)) x1_12.toNatClampNeg) + 1) < 99 then (((q_Pe_age (q_Re_people z_12)) x1_12.toNatClampNeg) + 1) else 99))))) := hD
        refine lv_iinc (v := x1_12 + 1) (lv' := [(1, .int (x1_12 + 1)), (0, .ref (a 0))]) hx hb d_Re_pass_48 hl (k := 1) rfl (by rfl) (by decide) rfl (fun ls hl => ?_)
        refine lv_goto (tgt := 12) hx hb d_Re_pass_51 (by decide) ?_
        exact ih12 (x1_12 + 1) (u_Re_people z_12 (u_Pe_age (q_Re_people z_12) (upd (q_Pe_age (q_Re_people z_12)) x1_12.toNatClampNeg (if (((q_Pe_age (q_Re_people z_12)) x1_12.toNatClampNeg) + 1) < 99 then (((q_Pe_age (q_Re_people z_12)) x1_12.toNatClampNeg) + 1) else 99)))) _ _ _ hP hD hS (lv_sub hl [1, 0] rfl) hd
  exact lp12 _ ex12_54 1000 0 (u_Re_year z ((q_Re_year z) + 1)) _ _ _ hP hD hS (lv_sub hl [1, 0] rfl) hd
-- OwnsLift$Realm.copyFrom(LOwnsLift$Realm;)V
def d_Re_copyFrom (z : T_Re) (w : T_Re) : Option (T_Re) :=
  (d_La_copyFrom (q_Re_land (u_Re_signs (u_Re_tape z (va_cpy (q_Re_tape w) (q_Re_tape z) 0 0 100)) (q_Re_signs w))) (q_Re_land w)).bind fun v_1 => (d_Pe_copyFrom (q_Re_people (u_Re_lands (u_Re_land (u_Re_signs (u_Re_tape z (va_cpy (q_Re_tape w) (q_Re_tape z) 0 0 100)) (q_Re_signs w)) v_1) (q_Re_lands w))) (q_Re_people w)).bind fun v_3 => (d_Th_copyFrom (q_Re_things (u_Re_people (u_Re_lands (u_Re_land (u_Re_signs (u_Re_tape z (va_cpy (q_Re_tape w) (q_Re_tape z) 0 0 100)) (q_Re_signs w)) v_1) (q_Re_lands w)) v_3)) (q_Re_things w)).bind fun v_5 => some ((u_Re_seen (u_Re_seenCould (u_Re_seenWho (u_Re_year (u_Re_things (u_Re_people (u_Re_lands (u_Re_land (u_Re_signs (u_Re_tape z (va_cpy (q_Re_tape w) (q_Re_tape z) 0 0 100)) (q_Re_signs w)) v_1) (q_Re_lands w)) v_3) v_5) (q_Re_year w)) (va_cpy (q_Re_seenWho w) (q_Re_seenWho (u_Re_year (u_Re_things (u_Re_people (u_Re_lands (u_Re_land (u_Re_signs (u_Re_tape z (va_cpy (q_Re_tape w) (q_Re_tape z) 0 0 100)) (q_Re_signs w)) v_1) (q_Re_lands w)) v_3) v_5) (q_Re_year w))) 0 0 12)) (va_cpy (q_Re_seenCould w) (q_Re_seenCould (u_Re_seenWho (u_Re_year (u_Re_things (u_Re_people (u_Re_lands (u_Re_land (u_Re_signs (u_Re_tape z (va_cpy (q_Re_tape w) (q_Re_tape z) 0 0 100)) (q_Re_signs w)) v_1) (q_Re_lands w)) v_3) v_5) (q_Re_year w)) (va_cpy (q_Re_seenWho w) (q_Re_seenWho (u_Re_year (u_Re_things (u_Re_people (u_Re_lands (u_Re_land (u_Re_signs (u_Re_tape z (va_cpy (q_Re_tape w) (q_Re_tape z) 0 0 100)) (q_Re_signs w)) v_1) (q_Re_lands w)) v_3) v_5) (q_Re_year w))) 0 0 12))) 0 0 12)) (q_Re_seen w)))
theorem d_Re_copyFrom_0 : decode b_Re_copyFrom 0 = .ok (.aload_n 1, 1) := by decide +kernel
theorem d_Re_copyFrom_1 : decode b_Re_copyFrom 1 = .ok (.getfield 9, 3) := by decide +kernel
theorem d_Re_copyFrom_4 : decode b_Re_copyFrom 4 = .ok (.iconst 0, 1) := by decide +kernel
theorem d_Re_copyFrom_5 : decode b_Re_copyFrom 5 = .ok (.aload_n 0, 1) := by decide +kernel
theorem d_Re_copyFrom_6 : decode b_Re_copyFrom 6 = .ok (.getfield 9, 3) := by decide +kernel
theorem d_Re_copyFrom_9 : decode b_Re_copyFrom 9 = .ok (.iconst 0, 1) := by decide +kernel
theorem d_Re_copyFrom_10 : decode b_Re_copyFrom 10 = .ok (.bipush 100, 2) := by decide +kernel
theorem d_Re_copyFrom_12 : decode b_Re_copyFrom 12 = .ok (.invokestatic 98, 3) := by decide +kernel
theorem d_Re_copyFrom_15 : decode b_Re_copyFrom 15 = .ok (.aload_n 0, 1) := by decide +kernel
theorem d_Re_copyFrom_16 : decode b_Re_copyFrom 16 = .ok (.aload_n 1, 1) := by decide +kernel
theorem d_Re_copyFrom_17 : decode b_Re_copyFrom 17 = .ok (.getfield 104, 3) := by decide +kernel
theorem d_Re_copyFrom_20 : decode b_Re_copyFrom 20 = .ok (.putfield 104, 3) := by decide +kernel
theorem d_Re_copyFrom_23 : decode b_Re_copyFrom 23 = .ok (.aload_n 0, 1) := by decide +kernel
theorem d_Re_copyFrom_24 : decode b_Re_copyFrom 24 = .ok (.getfield 18, 3) := by decide +kernel
theorem d_Re_copyFrom_27 : decode b_Re_copyFrom 27 = .ok (.aload_n 1, 1) := by decide +kernel
theorem d_Re_copyFrom_28 : decode b_Re_copyFrom 28 = .ok (.getfield 18, 3) := by decide +kernel
theorem d_Re_copyFrom_31 : decode b_Re_copyFrom 31 = .ok (.invokevirtual 107, 3) := by decide +kernel
theorem d_Re_copyFrom_34 : decode b_Re_copyFrom 34 = .ok (.aload_n 0, 1) := by decide +kernel
theorem d_Re_copyFrom_35 : decode b_Re_copyFrom 35 = .ok (.aload_n 1, 1) := by decide +kernel
theorem d_Re_copyFrom_36 : decode b_Re_copyFrom 36 = .ok (.getfield 111, 3) := by decide +kernel
theorem d_Re_copyFrom_39 : decode b_Re_copyFrom 39 = .ok (.putfield 111, 3) := by decide +kernel
theorem d_Re_copyFrom_42 : decode b_Re_copyFrom 42 = .ok (.aload_n 0, 1) := by decide +kernel
theorem d_Re_copyFrom_43 : decode b_Re_copyFrom 43 = .ok (.getfield 25, 3) := by decide +kernel
theorem d_Re_copyFrom_46 : decode b_Re_copyFrom 46 = .ok (.aload_n 1, 1) := by decide +kernel
theorem d_Re_copyFrom_47 : decode b_Re_copyFrom 47 = .ok (.getfield 25, 3) := by decide +kernel
theorem d_Re_copyFrom_50 : decode b_Re_copyFrom 50 = .ok (.invokevirtual 114, 3) := by decide +kernel
theorem d_Re_copyFrom_53 : decode b_Re_copyFrom 53 = .ok (.aload_n 0, 1) := by decide +kernel
theorem d_Re_copyFrom_54 : decode b_Re_copyFrom 54 = .ok (.getfield 32, 3) := by decide +kernel
theorem d_Re_copyFrom_57 : decode b_Re_copyFrom 57 = .ok (.aload_n 1, 1) := by decide +kernel
theorem d_Re_copyFrom_58 : decode b_Re_copyFrom 58 = .ok (.getfield 32, 3) := by decide +kernel
theorem d_Re_copyFrom_61 : decode b_Re_copyFrom 61 = .ok (.invokevirtual 117, 3) := by decide +kernel
theorem d_Re_copyFrom_64 : decode b_Re_copyFrom 64 = .ok (.aload_n 0, 1) := by decide +kernel
theorem d_Re_copyFrom_65 : decode b_Re_copyFrom 65 = .ok (.aload_n 1, 1) := by decide +kernel
theorem d_Re_copyFrom_66 : decode b_Re_copyFrom 66 = .ok (.getfield 77, 3) := by decide +kernel
theorem d_Re_copyFrom_69 : decode b_Re_copyFrom 69 = .ok (.putfield 77, 3) := by decide +kernel
theorem d_Re_copyFrom_72 : decode b_Re_copyFrom 72 = .ok (.aload_n 1, 1) := by decide +kernel
theorem d_Re_copyFrom_73 : decode b_Re_copyFrom 73 = .ok (.getfield 36, 3) := by decide +kernel
theorem d_Re_copyFrom_76 : decode b_Re_copyFrom 76 = .ok (.iconst 0, 1) := by decide +kernel
theorem d_Re_copyFrom_77 : decode b_Re_copyFrom 77 = .ok (.aload_n 0, 1) := by decide +kernel
theorem d_Re_copyFrom_78 : decode b_Re_copyFrom 78 = .ok (.getfield 36, 3) := by decide +kernel
theorem d_Re_copyFrom_81 : decode b_Re_copyFrom 81 = .ok (.iconst 0, 1) := by decide +kernel
theorem d_Re_copyFrom_82 : decode b_Re_copyFrom 82 = .ok (.bipush 12, 2) := by decide +kernel
theorem d_Re_copyFrom_84 : decode b_Re_copyFrom 84 = .ok (.invokestatic 98, 3) := by decide +kernel
theorem d_Re_copyFrom_87 : decode b_Re_copyFrom 87 = .ok (.aload_n 1, 1) := by decide +kernel
theorem d_Re_copyFrom_88 : decode b_Re_copyFrom 88 = .ok (.getfield 39, 3) := by decide +kernel
theorem d_Re_copyFrom_91 : decode b_Re_copyFrom 91 = .ok (.iconst 0, 1) := by decide +kernel
theorem d_Re_copyFrom_92 : decode b_Re_copyFrom 92 = .ok (.aload_n 0, 1) := by decide +kernel
theorem d_Re_copyFrom_93 : decode b_Re_copyFrom 93 = .ok (.getfield 39, 3) := by decide +kernel
theorem d_Re_copyFrom_96 : decode b_Re_copyFrom 96 = .ok (.iconst 0, 1) := by decide +kernel
theorem d_Re_copyFrom_97 : decode b_Re_copyFrom 97 = .ok (.bipush 12, 2) := by decide +kernel
theorem d_Re_copyFrom_99 : decode b_Re_copyFrom 99 = .ok (.invokestatic 98, 3) := by decide +kernel
theorem d_Re_copyFrom_102 : decode b_Re_copyFrom 102 = .ok (.aload_n 0, 1) := by decide +kernel
theorem d_Re_copyFrom_103 : decode b_Re_copyFrom 103 = .ok (.aload_n 1, 1) := by decide +kernel
theorem d_Re_copyFrom_104 : decode b_Re_copyFrom 104 = .ok (.getfield 120, 3) := by decide +kernel
theorem d_Re_copyFrom_107 : decode b_Re_copyFrom 107 = .ok (.putfield 120, 3) := by decide +kernel
theorem d_Re_copyFrom_110 : decode b_Re_copyFrom 110 = .ok (.return_, 1) := by decide +kernel
theorem o_Re_copyFrom : OkV y_Re_copyFrom "OwnsLift$Realm" b_Re_copyFrom 2 none 1 := ⟨⟨rfl, by decide +kernel, by decide +kernel, by decide +kernel⟩, g_964, g_965, g_72, g_966⟩
set_option maxHeartbeats 4000000 in
set_option maxRecDepth 100000 in
theorem c_Re_copyFrom (l : Launch) (D : va_G) (g : Nat → ClassId) (a : Nat → Nat) (b : Nat → Nat) (z : T_Re) (w : T_Re) (v : T_Re) (h : d_Re_copyFrom z w = some v) :
    MV l y_Re_copyFrom b_Re_copyFrom 2 ({ frames := 2, cells := 0, slots := 0, locals := 92 } : Room) D g [.ref (a 0), .ref (b 0)] (ws_Re g a z ++ ws_Re g b w) (ws_Re g a v ++ ws_Re g b w) := by
  have hd := h
  unfold d_Re_copyFrom at hd
  refine enterV rfl (Nat.le_of_ble_eq_true rfl) (fun p e s m below meth c A ls hx hb hml hr hown hg hlk hK hA hP hD hS hCs hl => ?_)
  have hown : s.vm.findClass "OwnsLift$Realm" = some m.cls := hown
  have hl : lv_has ls 2 [(0, .ref (a 0)), (1, .ref (b 0))] := hl
  show GV p l e s m ({ frames := 2, cells := 0, slots := 0, locals := 92 } : Room) ([.ref (a 0), .ref (b 0)] : List Value).toArray below meth c A D g (ws_Re g a v ++ ws_Re g b w) s.heap [] (F0 m 0 ls [])
  refine lv_aload_n hx hb d_Re_copyFrom_0 rfl (lv_at hl 1 rfl) ?_
  refine va_get (D := D) (ci := 7) (v := .ref (b 1)) (C := R_Re) (T := F_Re) (N := 11) hx hb hg i_Re hown hK hP 24 rfl rfl 0 (by decide) (hg _ g_202) (fun _ h9 => h9) rfl d_Re_copyFrom_1 ?_
  refine lv_iconst (v := 0) hx hb d_Re_copyFrom_4 (by decide) ?_
  refine lv_aload_n hx hb d_Re_copyFrom_5 rfl (lv_at hl 0 rfl) ?_
  refine va_get (D := D) (ci := 7) (v := .ref (a 1)) (C := R_Re) (T := F_Re) (N := 11) hx hb hg i_Re hown hK hP 0 rfl rfl 0 (by decide) (hg _ g_202) (fun _ h9 => h9) rfl d_Re_copyFrom_6 ?_
  refine lv_iconst (v := 0) hx hb d_Re_copyFrom_9 (by decide) ?_
  refine lv_bipush (v := 100) hx hb d_Re_copyFrom_10 (by decide) ?_
  refine copyK (N := 100) hx hb (hml.trans hl.1.symm) hown (hg _ g_967) hg hK hP hD hS 25 1 rfl rfl (by decide +kernel) (by decide +kernel) (by decide) (by decide) (Nat.le_of_ble_eq_true rfl) (Nat.le_of_ble_eq_true (by decide +kernel)) d_Re_copyFrom_12 (fun H locs hP hD hS => ?_)
  have hP : va_P D classes (ws_Re g a (u_Re_tape z (va_cpy (q_Re_tape w) (q_Re_tape z) 0 0 100)) ++ ws_Re g b w) H := hP
  have hD : va_D A (ws_Re g a (u_Re_tape z (va_cpy (q_Re_tape w) (q_Re_tape z) 0 0 100)) ++ ws_Re g b w) := hD
  refine lv_aload_n hx hb d_Re_copyFrom_15 rfl (lv_at hl 0 rfl) ?_
  refine lv_aload_n hx hb d_Re_copyFrom_16 rfl (lv_at hl 1 rfl) ?_
  refine va_get (D := D) (ci := 7) (v := .int (q_Re_signs w)) (C := R_Re) (T := F_Re) (N := 11) hx hb hg i_Re hown hK hP 24 rfl rfl 1 (by decide) (hg _ g_205) (fun _ h9 => h9) rfl d_Re_copyFrom_17 ?_
  refine va_put (D := D) (ci := 7) (v := .int (q_Re_signs w)) (ty := .int) (C := R_Re) (T := F_Re) (N := 11) hx hb hg i_Re t_Re t_Re_ok n_Re hown hK hP hD hS 0 rfl rfl 1 (by decide) (hg _ g_205) (fun _ h9 => h9) rfl (by decide +kernel) rfl rfl (Nat.le_of_ble_eq_true rfl) d_Re_copyFrom_20 (fun H locs hP hD hS => ?_)
  have hP : va_P D classes (ws_Re g a (u_Re_signs (u_Re_tape z (va_cpy (q_Re_tape w) (q_Re_tape z) 0 0 100)) (q_Re_signs w)) ++ ws_Re g b w) H := hP
  have hD : va_D A (ws_Re g a (u_Re_signs (u_Re_tape z (va_cpy (q_Re_tape w) (q_Re_tape z) 0 0 100)) (q_Re_signs w)) ++ ws_Re g b w) := hD
  refine lv_aload_n hx hb d_Re_copyFrom_23 rfl (lv_at hl 0 rfl) ?_
  refine va_get (D := D) (ci := 7) (v := .ref (a 2)) (C := R_Re) (T := F_Re) (N := 11) hx hb hg i_Re hown hK hP 0 rfl rfl 2 (by decide) (hg _ g_206) (fun _ h9 => h9) rfl d_Re_copyFrom_24 ?_
  refine lv_aload_n hx hb d_Re_copyFrom_27 rfl (lv_at hl 1 rfl) ?_
  refine va_get (D := D) (ci := 7) (v := .ref (b 2)) (C := R_Re) (T := F_Re) (N := 11) hx hb hg i_Re hown hK hP 24 rfl rfl 2 (by decide) (hg _ g_206) (fun _ h9 => h9) rfl d_Re_copyFrom_28 ?_
  obtain ⟨v_1, e_2, hd⟩ := bind_s hd
  refine callVV (ws' := ws_Re g a (u_Re_land (u_Re_signs (u_Re_tape z (va_cpy (q_Re_tape w) (q_Re_tape z) 0 0 100)) (q_Re_signs w)) v_1) ++ ws_Re g b w) (rest := []) (As := [.ref ((sh b 2) 0)]) hx hb hml hown hg hK hP hD hS hA hCs hl.1 (c_La_copyFrom l D g (sh a 2) (sh b 2) (q_Re_land (u_Re_signs (u_Re_tape z (va_cpy (q_Re_tape w) (q_Re_tape z) 0 0 100)) (q_Re_signs w))) (q_Re_land w) _ e_2) o_La_copyFrom g_968 (ci := 4) (q0 := 2) rfl rfl (List.range' 2 5 ++ List.range' 26 5) (segC2 rfl rfl rfl rfl) (by decide) rfl (segP2 rfl rfl rfl) rfl rfl (Nat.le_of_ble_eq_true rfl) ⟨rfl, rfl, Nat.le_of_ble_eq_true rfl, Nat.le_of_ble_eq_true rfl⟩ d_Re_copyFrom_31 (fun H locs hP hD hS => ?_)
  refine lv_aload_n hx hb d_Re_copyFrom_34 rfl (lv_at hl 0 rfl) ?_
  refine lv_aload_n hx hb d_Re_copyFrom_35 rfl (lv_at hl 1 rfl) ?_
  refine va_get (D := D) (ci := 7) (v := .int (q_Re_lands w)) (C := R_Re) (T := F_Re) (N := 11) hx hb hg i_Re hown hK hP 24 rfl rfl 3 (by decide) (hg _ g_209) (fun _ h9 => h9) rfl d_Re_copyFrom_36 ?_
  refine va_put (D := D) (ci := 7) (v := .int (q_Re_lands w)) (ty := .int) (C := R_Re) (T := F_Re) (N := 11) hx hb hg i_Re t_Re t_Re_ok n_Re hown hK hP hD hS 0 rfl rfl 3 (by decide) (hg _ g_209) (fun _ h9 => h9) rfl (by decide +kernel) rfl rfl (Nat.le_of_ble_eq_true rfl) d_Re_copyFrom_39 (fun H locs hP hD hS => ?_)
  have hP : va_P D classes (ws_Re g a (u_Re_lands (u_Re_land (u_Re_signs (u_Re_tape z (va_cpy (q_Re_tape w) (q_Re_tape z) 0 0 100)) (q_Re_signs w)) v_1) (q_Re_lands w)) ++ ws_Re g b w) H := hP
  have hD : va_D A (ws_Re g a (u_Re_lands (u_Re_land (u_Re_signs (u_Re_tape z (va_cpy (q_Re_tape w) (q_Re_tape z) 0 0 100)) (q_Re_signs w)) v_1) (q_Re_lands w)) ++ ws_Re g b w) := hD
  refine lv_aload_n hx hb d_Re_copyFrom_42 rfl (lv_at hl 0 rfl) ?_
  refine va_get (D := D) (ci := 7) (v := .ref (a 7)) (C := R_Re) (T := F_Re) (N := 11) hx hb hg i_Re hown hK hP 0 rfl rfl 4 (by decide) (hg _ g_210) (fun _ h9 => h9) rfl d_Re_copyFrom_43 ?_
  refine lv_aload_n hx hb d_Re_copyFrom_46 rfl (lv_at hl 1 rfl) ?_
  refine va_get (D := D) (ci := 7) (v := .ref (b 7)) (C := R_Re) (T := F_Re) (N := 11) hx hb hg i_Re hown hK hP 24 rfl rfl 4 (by decide) (hg _ g_210) (fun _ h9 => h9) rfl d_Re_copyFrom_47 ?_
  obtain ⟨v_3, e_4, hd⟩ := bind_s hd
  refine callVV (ws' := ws_Re g a (u_Re_people (u_Re_lands (u_Re_land (u_Re_signs (u_Re_tape z (va_cpy (q_Re_tape w) (q_Re_tape z) 0 0 100)) (q_Re_signs w)) v_1) (q_Re_lands w)) v_3) ++ ws_Re g b w) (rest := []) (As := [.ref ((sh b 7) 0)]) hx hb hml hown hg hK hP hD hS hA hCs hl.1 (c_Pe_copyFrom l D g (sh a 7) (sh b 7) (q_Re_people (u_Re_lands (u_Re_land (u_Re_signs (u_Re_tape z (va_cpy (q_Re_tape w) (q_Re_tape z) 0 0 100)) (q_Re_signs w)) v_1) (q_Re_lands w))) (q_Re_people w) _ e_4) o_Pe_copyFrom g_969 (ci := 5) (q0 := 7) rfl rfl (List.range' 7 11 ++ List.range' 31 11) (segC2 rfl rfl rfl rfl) (by decide) rfl (segP2 rfl rfl rfl) rfl rfl (Nat.le_of_ble_eq_true rfl) ⟨rfl, rfl, Nat.le_of_ble_eq_true rfl, Nat.le_of_ble_eq_true rfl⟩ d_Re_copyFrom_50 (fun H locs hP hD hS => ?_)
  refine lv_aload_n hx hb d_Re_copyFrom_53 rfl (lv_at hl 0 rfl) ?_
  refine va_get (D := D) (ci := 7) (v := .ref (a 18)) (C := R_Re) (T := F_Re) (N := 11) hx hb hg i_Re hown hK hP 0 rfl rfl 5 (by decide) (hg _ g_213) (fun _ h9 => h9) rfl d_Re_copyFrom_54 ?_
  refine lv_aload_n hx hb d_Re_copyFrom_57 rfl (lv_at hl 1 rfl) ?_
  refine va_get (D := D) (ci := 7) (v := .ref (b 18)) (C := R_Re) (T := F_Re) (N := 11) hx hb hg i_Re hown hK hP 24 rfl rfl 5 (by decide) (hg _ g_213) (fun _ h9 => h9) rfl d_Re_copyFrom_58 ?_
  obtain ⟨v_5, e_6, hd⟩ := bind_s hd
  refine callVV (ws' := ws_Re g a (u_Re_things (u_Re_people (u_Re_lands (u_Re_land (u_Re_signs (u_Re_tape z (va_cpy (q_Re_tape w) (q_Re_tape z) 0 0 100)) (q_Re_signs w)) v_1) (q_Re_lands w)) v_3) v_5) ++ ws_Re g b w) (rest := []) (As := [.ref ((sh b 18) 0)]) hx hb hml hown hg hK hP hD hS hA hCs hl.1 (c_Th_copyFrom l D g (sh a 18) (sh b 18) (q_Re_things (u_Re_people (u_Re_lands (u_Re_land (u_Re_signs (u_Re_tape z (va_cpy (q_Re_tape w) (q_Re_tape z) 0 0 100)) (q_Re_signs w)) v_1) (q_Re_lands w)) v_3)) (q_Re_things w) _ e_6) o_Th_copyFrom g_974 (ci := 10) (q0 := 18) rfl rfl (List.range' 18 3 ++ List.range' 42 3) (segC2 rfl rfl rfl rfl) (by decide) rfl (segP2 rfl rfl rfl) rfl rfl (Nat.le_of_ble_eq_true rfl) ⟨rfl, rfl, Nat.le_of_ble_eq_true rfl, Nat.le_of_ble_eq_true rfl⟩ d_Re_copyFrom_61 (fun H locs hP hD hS => ?_)
  refine lv_aload_n hx hb d_Re_copyFrom_64 rfl (lv_at hl 0 rfl) ?_
  refine lv_aload_n hx hb d_Re_copyFrom_65 rfl (lv_at hl 1 rfl) ?_
  refine va_get (D := D) (ci := 7) (v := .int (q_Re_year w)) (C := R_Re) (T := F_Re) (N := 11) hx hb hg i_Re hown hK hP 24 rfl rfl 6 (by decide) (hg _ g_216) (fun _ h9 => h9) rfl d_Re_copyFrom_66 ?_
  refine va_put (D := D) (ci := 7) (v := .int (q_Re_year w)) (ty := .int) (C := R_Re) (T := F_Re) (N := 11) hx hb hg i_Re t_Re t_Re_ok n_Re hown hK hP hD hS 0 rfl rfl 6 (by decide) (hg _ g_216) (fun _ h9 => h9) rfl (by decide +kernel) rfl rfl (Nat.le_of_ble_eq_true rfl) d_Re_copyFrom_69 (fun H locs hP hD hS => ?_)
  have hP : va_P D classes (ws_Re g a (u_Re_year (u_Re_things (u_Re_people (u_Re_lands (u_Re_land (u_Re_signs (u_Re_tape z (va_cpy (q_Re_tape w) (q_Re_tape z) 0 0 100)) (q_Re_signs w)) v_1) (q_Re_lands w)) v_3) v_5) (q_Re_year w)) ++ ws_Re g b w) H := hP
  have hD : va_D A (ws_Re g a (u_Re_year (u_Re_things (u_Re_people (u_Re_lands (u_Re_land (u_Re_signs (u_Re_tape z (va_cpy (q_Re_tape w) (q_Re_tape z) 0 0 100)) (q_Re_signs w)) v_1) (q_Re_lands w)) v_3) v_5) (q_Re_year w)) ++ ws_Re g b w) := hD
  refine lv_aload_n hx hb d_Re_copyFrom_72 rfl (lv_at hl 1 rfl) ?_
  refine va_get (D := D) (ci := 7) (v := .ref (b 21)) (C := R_Re) (T := F_Re) (N := 11) hx hb hg i_Re hown hK hP 24 rfl rfl 7 (by decide) (hg _ g_218) (fun _ h9 => h9) rfl d_Re_copyFrom_73 ?_
  refine lv_iconst (v := 0) hx hb d_Re_copyFrom_76 (by decide) ?_
  refine lv_aload_n hx hb d_Re_copyFrom_77 rfl (lv_at hl 0 rfl) ?_
  refine va_get (D := D) (ci := 7) (v := .ref (a 21)) (C := R_Re) (T := F_Re) (N := 11) hx hb hg i_Re hown hK hP 0 rfl rfl 7 (by decide) (hg _ g_218) (fun _ h9 => h9) rfl d_Re_copyFrom_78 ?_
  refine lv_iconst (v := 0) hx hb d_Re_copyFrom_81 (by decide) ?_
  refine lv_bipush (v := 12) hx hb d_Re_copyFrom_82 (by decide) ?_
  refine copyK (N := 12) hx hb (hml.trans hl.1.symm) hown (hg _ g_967) hg hK hP hD hS 45 21 rfl rfl (by decide +kernel) (by decide +kernel) (by decide) (by decide) (Nat.le_of_ble_eq_true rfl) (Nat.le_of_ble_eq_true (by decide +kernel)) d_Re_copyFrom_84 (fun H locs hP hD hS => ?_)
  have hP : va_P D classes (ws_Re g a (u_Re_seenWho (u_Re_year (u_Re_things (u_Re_people (u_Re_lands (u_Re_land (u_Re_signs (u_Re_tape z (va_cpy (q_Re_tape w) (q_Re_tape z) 0 0 100)) (q_Re_signs w)) v_1) (q_Re_lands w)) v_3) v_5) (q_Re_year w)) (va_cpy (q_Re_seenWho w) (q_Re_seenWho (u_Re_year (u_Re_things (u_Re_people (u_Re_lands (u_Re_land (u_Re_signs (u_Re_tape z (va_cpy (q_Re_tape w) (q_Re_tape z) 0 0 100)) (q_Re_signs w)) v_1) (q_Re_lands w)) v_3) v_5) (q_Re_year w))) 0 0 12)) ++ ws_Re g b w) H := hP
  have hD : va_D A (ws_Re g a (u_Re_seenWho (u_Re_year (u_Re_things (u_Re_people (u_Re_lands (u_Re_land (u_Re_signs (u_Re_tape z (va_cpy (q_Re_tape w) (q_Re_tape z) 0 0 100)) (q_Re_signs w)) v_1) (q_Re_lands w)) v_3) v_5) (q_Re_year w)) (va_cpy (q_Re_seenWho w) (q_Re_seenWho (u_Re_year (u_Re_things (u_Re_people (u_Re_lands (u_Re_land (u_Re_signs (u_Re_tape z (va_cpy (q_Re_tape w) (q_Re_tape z) 0 0 100)) (q_Re_signs w)) v_1) (q_Re_lands w)) v_3) v_5) (q_Re_year w))) 0 0 12)) ++ ws_Re g b w) := hD
  refine lv_aload_n hx hb d_Re_copyFrom_87 rfl (lv_at hl 1 rfl) ?_
  refine va_get (D := D) (ci := 7) (v := .ref (b 22)) (C := R_Re) (T := F_Re) (N := 11) hx hb hg i_Re hown hK hP 24 rfl rfl 8 (by decide) (hg _ g_220) (fun _ h9 => h9) rfl d_Re_copyFrom_88 ?_
  refine lv_iconst (v := 0) hx hb d_Re_copyFrom_91 (by decide) ?_
  refine lv_aload_n hx hb d_Re_copyFrom_92 rfl (lv_at hl 0 rfl) ?_
  refine va_get (D := D) (ci := 7) (v := .ref (a 22)) (C := R_Re) (T := F_Re) (N := 11) hx hb hg i_Re hown hK hP 0 rfl rfl 8 (by decide) (hg _ g_220) (fun _ h9 => h9) rfl d_Re_copyFrom_93 ?_
  refine lv_iconst (v := 0) hx hb d_Re_copyFrom_96 (by decide) ?_
  refine lv_bipush (v := 12) hx hb d_Re_copyFrom_97 (by decide) ?_
  refine copyK (N := 12) hx hb (hml.trans hl.1.symm) hown (hg _ g_967) hg hK hP hD hS 46 22 rfl rfl (by decide +kernel) (by decide +kernel) (by decide) (by decide) (Nat.le_of_ble_eq_true rfl) (Nat.le_of_ble_eq_true (by decide +kernel)) d_Re_copyFrom_99 (fun H locs hP hD hS => ?_)
  have hP : va_P D classes (ws_Re g a (u_Re_seenCould (u_Re_seenWho (u_Re_year (u_Re_things (u_Re_people (u_Re_lands (u_Re_land (u_Re_signs (u_Re_tape z (va_cpy (q_Re_tape w) (q_Re_tape z) 0 0 100)) (q_Re_signs w)) v_1) (q_Re_lands w)) v_3) v_5) (q_Re_year w)) (va_cpy (q_Re_seenWho w) (q_Re_seenWho (u_Re_year (u_Re_things (u_Re_people (u_Re_lands (u_Re_land (u_Re_signs (u_Re_tape z (va_cpy (q_Re_tape w) (q_Re_tape z) 0 0 100)) (q_Re_signs w)) v_1) (q_Re_lands w)) v_3) v_5) (q_Re_year w))) 0 0 12)) (va_cpy (q_Re_seenCould w) (q_Re_seenCould (u_Re_seenWho (u_Re_year (u_Re_things (u_Re_people (u_Re_lands (u_Re_land (u_Re_signs (u_Re_tape z (va_cpy (q_Re_tape w) (q_Re_tape z) 0 0 100)) (q_Re_signs w)) v_1) (q_Re_lands w)) v_3) v_5) (q_Re_year w)) (va_cpy (q_Re_seenWho w) (q_Re_seenWho (u_Re_year (u_Re_things (u_Re_people (u_Re_lands (u_Re_land (u_Re_signs (u_Re_tape z (va_cpy (q_Re_tape w) (q_Re_tape z) 0 0 100)) (q_Re_signs w)) v_1) (q_Re_lands w)) v_3) v_5) (q_Re_year w))) 0 0 12))) 0 0 12)) ++ ws_Re g b w) H := hP
  have hD : va_D A (ws_Re g a (u_Re_seenCould (u_Re_seenWho (u_Re_year (u_Re_things (u_Re_people (u_Re_lands (u_Re_land (u_Re_signs (u_Re_tape z (va_cpy (q_Re_tape w) (q_Re_tape z) 0 0 100)) (q_Re_signs w)) v_1) (q_Re_lands w)) v_3) v_5) (q_Re_year w)) (va_cpy (q_Re_seenWho w) (q_Re_seenWho (u_Re_year (u_Re_things (u_Re_people (u_Re_lands (u_Re_land (u_Re_signs (u_Re_tape z (va_cpy (q_Re_tape w) (q_Re_tape z) 0 0 100)) (q_Re_signs w)) v_1) (q_Re_lands w)) v_3) v_5) (q_Re_year w))) 0 0 12)) (va_cpy (q_Re_seenCould w) (q_Re_seenCould (u_Re_seenWho (u_Re_year (u_Re_things (u_Re_people (u_Re_lands (u_Re_land (u_Re_signs (u_Re_tape z (va_cpy (q_Re_tape w) (q_Re_tape z) 0 0 100)) (q_Re_signs w)) v_1) (q_Re_lands w)) v_3) v_5) (q_Re_year w)) (va_cpy (q_Re_seenWho w) (q_Re_seenWho (u_Re_year (u_Re_things (u_Re_people (u_Re_lands (u_Re_land (u_Re_signs (u_Re_tape z (va_cpy (q_Re_tape w) (q_Re_tape z) 0 0 100)) (q_Re_signs w)) v_1) (q_Re_lands w)) v_3) v_5) (q_Re_year w))) 0 0 12))) 0 0 12)) ++ ws_Re g b w) := hD
  refine lv_aload_n hx hb d_Re_copyFrom_102 rfl (lv_at hl 0 rfl) ?_
  refine lv_aload_n hx hb d_Re_copyFrom_103 rfl (lv_at hl 1 rfl) ?_
  refine va_get (D := D) (ci := 7) (v := .int (q_Re_seen w)) (C := R_Re) (T := F_Re) (N := 11) hx hb hg i_Re hown hK hP 24 rfl rfl 9 (by decide) (hg _ g_222) (fun _ h9 => h9) rfl d_Re_copyFrom_104 ?_
  refine va_put (D := D) (ci := 7) (v := .int (q_Re_seen w)) (ty := .int) (C := R_Re) (T := F_Re) (N := 11) hx hb hg i_Re t_Re t_Re_ok n_Re hown hK hP hD hS 0 rfl rfl 9 (by decide) (hg _ g_222) (fun _ h9 => h9) rfl (by decide +kernel) rfl rfl (Nat.le_of_ble_eq_true rfl) d_Re_copyFrom_107 (fun H locs hP hD hS => ?_)
  have hP : va_P D classes (ws_Re g a (u_Re_seen (u_Re_seenCould (u_Re_seenWho (u_Re_year (u_Re_things (u_Re_people (u_Re_lands (u_Re_land (u_Re_signs (u_Re_tape z (va_cpy (q_Re_tape w) (q_Re_tape z) 0 0 100)) (q_Re_signs w)) v_1) (q_Re_lands w)) v_3) v_5) (q_Re_year w)) (va_cpy (q_Re_seenWho w) (q_Re_seenWho (u_Re_year (u_Re_things (u_Re_people (u_Re_lands (u_Re_land (u_Re_signs (u_Re_tape z (va_cpy (q_Re_tape w) (q_Re_tape z) 0 0 100)) (q_Re_signs w)) v_1) (q_Re_lands w)) v_3) v_5) (q_Re_year w))) 0 0 12)) (va_cpy (q_Re_seenCould w) (q_Re_seenCould (u_Re_seenWho (u_Re_year (u_Re_things (u_Re_people (u_Re_lands (u_Re_land (u_Re_signs (u_Re_tape z (va_cpy (q_Re_tape w) (q_Re_tape z) 0 0 100)) (q_Re_signs w)) v_1) (q_Re_lands w)) v_3) v_5) (q_Re_year w)) (va_cpy (q_Re_seenWho w) (q_Re_seenWho (u_Re_year (u_Re_things (u_Re_people (u_Re_lands (u_Re_land (u_Re_signs (u_Re_tape z (va_cpy (q_Re_tape w) (q_Re_tape z) 0 0 100)) (q_Re_signs w)) v_1) (q_Re_lands w)) v_3) v_5) (q_Re_year w))) 0 0 12))) 0 0 12)) (q_Re_seen w)) ++ ws_Re g b w) H := hP
  have hD : va_D A (ws_Re g a (u_Re_seen (u_Re_seenCould (u_Re_seenWho (u_Re_year (u_Re_things (u_Re_people (u_Re_lands (u_Re_land (u_Re_signs (u_Re_tape z (va_cpy (q_Re_tape w) (q_Re_tape z) 0 0 100)) (q_Re_signs w)) v_1) (q_Re_lands w)) v_3) v_5) (q_Re_year w)) (va_cpy (q_Re_seenWho w) (q_Re_seenWho (u_Re_year (u_Re_things (u_Re_people (u_Re_lands (u_Re_land (u_Re_signs (u_Re_tape z (va_cpy (q_Re_tape w) (q_Re_tape z) 0 0 100)) (q_Re_signs w)) v_1) (q_Re_lands w)) v_3) v_5) (q_Re_year w))) 0 0 12)) (va_cpy (q_Re_seenCould w) (q_Re_seenCould (u_Re_seenWho (u_Re_year (u_Re_things (u_Re_people (u_Re_lands (u_Re_land (u_Re_signs (u_Re_tape z (va_cpy (q_Re_tape w) (q_Re_tape z) 0 0 100)) (q_Re_signs w)) v_1) (q_Re_lands w)) v_3) v_5) (q_Re_year w)) (va_cpy (q_Re_seenWho w) (q_Re_seenWho (u_Re_year (u_Re_things (u_Re_people (u_Re_lands (u_Re_land (u_Re_signs (u_Re_tape z (va_cpy (q_Re_tape w) (q_Re_tape z) 0 0 100)) (q_Re_signs w)) v_1) (q_Re_lands w)) v_3) v_5) (q_Re_year w))) 0 0 12))) 0 0 12)) (q_Re_seen w)) ++ ws_Re g b w) := hD
  obtain rfl := Option.some.inj hd
  exact retV hx hb hr hlk hK hP hD hS d_Re_copyFrom_110

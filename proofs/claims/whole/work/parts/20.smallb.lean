-- OwnsLift$Acts.take(LOwnsLift$People;I)V
def d_Ac_take (x2 : Int32) (z : T_Ac) (w : T_Pe) : Option (T_Ac) :=
  if inb x2 4 = true then (if inb x2 4 = true then (some ((u_Ac_kind (u_Ac_v (u_Ac_number z x2) ((q_Pe_v w) x2.toNatClampNeg)) ((q_Pe_kind w) x2.toNatClampNeg)))) else none) else none
theorem d_Ac_take_0 : decode b_Ac_take 0 = .ok (.aload_n 0, 1) := by decide +kernel
theorem d_Ac_take_1 : decode b_Ac_take 1 = .ok (.iload_n 2, 1) := by decide +kernel
theorem d_Ac_take_2 : decode b_Ac_take 2 = .ok (.putfield 19, 3) := by decide +kernel
theorem d_Ac_take_5 : decode b_Ac_take 5 = .ok (.aload_n 0, 1) := by decide +kernel
theorem d_Ac_take_6 : decode b_Ac_take 6 = .ok (.aload_n 1, 1) := by decide +kernel
theorem d_Ac_take_7 : decode b_Ac_take 7 = .ok (.getfield 22, 3) := by decide +kernel
theorem d_Ac_take_10 : decode b_Ac_take 10 = .ok (.iload_n 2, 1) := by decide +kernel
theorem d_Ac_take_11 : decode b_Ac_take 11 = .ok (.iaload, 1) := by decide +kernel
theorem d_Ac_take_12 : decode b_Ac_take 12 = .ok (.putfield 27, 3) := by decide +kernel
theorem d_Ac_take_15 : decode b_Ac_take 15 = .ok (.aload_n 0, 1) := by decide +kernel
theorem d_Ac_take_16 : decode b_Ac_take 16 = .ok (.aload_n 1, 1) := by decide +kernel
theorem d_Ac_take_17 : decode b_Ac_take 17 = .ok (.getfield 29, 3) := by decide +kernel
theorem d_Ac_take_20 : decode b_Ac_take 20 = .ok (.iload_n 2, 1) := by decide +kernel
theorem d_Ac_take_21 : decode b_Ac_take 21 = .ok (.iaload, 1) := by decide +kernel
theorem d_Ac_take_22 : decode b_Ac_take 22 = .ok (.putfield 32, 3) := by decide +kernel
theorem d_Ac_take_25 : decode b_Ac_take 25 = .ok (.return_, 1) := by decide +kernel
theorem o_Ac_take : OkV y_Ac_take "OwnsLift$Acts" b_Ac_take 3 none 2 := ⟨⟨rfl, by decide +kernel, by decide +kernel, by decide +kernel⟩, g_931, g_932, g_80, g_933⟩
set_option maxHeartbeats 4000000 in
set_option maxRecDepth 100000 in
theorem c_Ac_take (l : Launch) (D : va_G) (g : Nat → ClassId) (a : Nat → Nat) (b : Nat → Nat) (x2 : Int32) (z : T_Ac) (w : T_Pe) (v : T_Ac) (h : d_Ac_take x2 z w = some v) :
    MV l y_Ac_take b_Ac_take 3 ({ frames := 0, cells := 0, slots := 0, locals := 0 } : Room) D g [.ref (a 0), .ref (b 0), .int x2] (ws_Ac g a z ++ ws_Pe g b w) (ws_Ac g a v ++ ws_Pe g b w) := by
  have hd := h
  unfold d_Ac_take at hd
  refine enterV rfl (Nat.le_of_ble_eq_true rfl) (fun p e s m below meth c A ls hx hb hml hr hown hg hlk hK hA hP hD hS hCs hl => ?_)
  have hown : s.vm.findClass "OwnsLift$Acts" = some m.cls := hown
  have hl : lv_has ls 3 [(0, .ref (a 0)), (1, .ref (b 0)), (2, .int x2)] := hl
  show GV p l e s m ({ frames := 0, cells := 0, slots := 0, locals := 0 } : Room) ([.ref (a 0), .ref (b 0), .int x2] : List Value).toArray below meth c A D g (ws_Ac g a v ++ ws_Pe g b w) s.heap [] (F0 m 0 ls [])
  refine lv_aload_n hx hb d_Ac_take_0 rfl (lv_at hl 0 rfl) ?_
  refine lv_iload_n hx hb d_Ac_take_1 rfl (lv_at hl 2 rfl) ?_
  refine va_put (D := D) (ci := 2) (v := .int x2) (ty := .int) (C := R_Ac) (T := F_Ac) (N := 5) hx hb hg i_Ac t_Ac t_Ac_ok n_Ac hown hK hP hD hS 0 rfl rfl 2 (by decide) (hg _ g_382) (fun _ h9 => h9) rfl (by decide +kernel) rfl rfl (Nat.le_of_ble_eq_true rfl) d_Ac_take_2 (fun H locs hP hD hS => ?_)
  have hP : va_P D classes (ws_Ac g a (u_Ac_number z x2) ++ ws_Pe g b w) H := hP
  have hD : va_D A (ws_Ac g a (u_Ac_number z x2) ++ ws_Pe g b w) := hD
  refine lv_aload_n hx hb d_Ac_take_5 rfl (lv_at hl 0 rfl) ?_
  refine lv_aload_n hx hb d_Ac_take_6 rfl (lv_at hl 1 rfl) ?_
  refine va_get (D := D) (ci := 5) (v := .ref (b 2)) (C := R_Pe) (T := F_Pe) (N := 7) hx hb hg i_Pe hown hK hP 2 rfl rfl 2 (by decide) (hg _ g_149) (fun _ h9 => h9) rfl d_Ac_take_7 ?_
  refine lv_iload_n hx hb d_Ac_take_10 rfl (lv_at hl 2 rfl) ?_
  obtain ⟨h_2, hd⟩ := ite_s hd
  refine ialdK hx hb hK hP 4 0 rfl rfl (inb_t h_2) rfl d_Ac_take_11 ?_
  refine va_put (D := D) (ci := 2) (v := .int ((q_Pe_v w) x2.toNatClampNeg)) (ty := .int) (C := R_Ac) (T := F_Ac) (N := 5) hx hb hg i_Ac t_Ac t_Ac_ok n_Ac hown hK hP hD hS 0 rfl rfl 3 (by decide) (hg _ g_383) (fun _ h9 => h9) rfl (by decide +kernel) rfl rfl (Nat.le_of_ble_eq_true rfl) d_Ac_take_12 (fun H locs hP hD hS => ?_)
  have hP : va_P D classes (ws_Ac g a (u_Ac_v (u_Ac_number z x2) ((q_Pe_v w) x2.toNatClampNeg)) ++ ws_Pe g b w) H := hP
  have hD : va_D A (ws_Ac g a (u_Ac_v (u_Ac_number z x2) ((q_Pe_v w) x2.toNatClampNeg)) ++ ws_Pe g b w) := hD
  refine lv_aload_n hx hb d_Ac_take_15 rfl (lv_at hl 0 rfl) ?_
  refine lv_aload_n hx hb d_Ac_take_16 rfl (lv_at hl 1 rfl) ?_
  refine va_get (D := D) (ci := 5) (v := .ref (b 1)) (C := R_Pe) (T := F_Pe) (N := 7) hx hb hg i_Pe hown hK hP 2 rfl rfl 1 (by decide) (hg _ g_145) (fun _ h9 => h9) rfl d_Ac_take_17 ?_
  refine lv_iload_n hx hb d_Ac_take_20 rfl (lv_at hl 2 rfl) ?_
  obtain ⟨h_1, hd⟩ := ite_s hd
  refine ialdK hx hb hK hP 3 0 rfl rfl (inb_t h_1) rfl d_Ac_take_21 ?_
  refine va_put (D := D) (ci := 2) (v := .int ((q_Pe_kind w) x2.toNatClampNeg)) (ty := .int) (C := R_Ac) (T := F_Ac) (N := 5) hx hb hg i_Ac t_Ac t_Ac_ok n_Ac hown hK hP hD hS 0 rfl rfl 4 (by decide) (hg _ g_384) (fun _ h9 => h9) rfl (by decide +kernel) rfl rfl (Nat.le_of_ble_eq_true rfl) d_Ac_take_22 (fun H locs hP hD hS => ?_)
  have hP : va_P D classes (ws_Ac g a (u_Ac_kind (u_Ac_v (u_Ac_number z x2) ((q_Pe_v w) x2.toNatClampNeg)) ((q_Pe_kind w) x2.toNatClampNeg)) ++ ws_Pe g b w) H := hP
  have hD : va_D A (ws_Ac g a (u_Ac_kind (u_Ac_v (u_Ac_number z x2) ((q_Pe_v w) x2.toNatClampNeg)) ((q_Pe_kind w) x2.toNatClampNeg)) ++ ws_Pe g b w) := hD
  obtain rfl := Option.some.inj hd
  exact retV hx hb hr hlk hK hP hD hS d_Ac_take_25
-- OwnsLift$People.copyFrom(LOwnsLift$People;)V
def B_Pe_copyFrom_L80 (w : T_Pe) (self80 : Int32 → T_Pe → Option (T_Pe)) (x2_80 : Int32) (z_80 : T_Pe) : Option (T_Pe) :=
  if 4 ≤ x2_80 then (some (z_80)) else (if inb x2_80 4 = true then (if inb x2_80 4 = true then (self80 (x2_80 + 1) (u_Pe_rows z_80 (updR (q_Pe_rows z_80) x2_80.toNatClampNeg (va_cpy ((q_Pe_rows w) x2_80.toNatClampNeg) ((q_Pe_rows z_80) x2_80.toNatClampNeg) 0 0 7)))) else none) else none)
def d_Pe_copyFrom_L80 (w : T_Pe) (n : Nat) : Int32 → T_Pe → Option (T_Pe) := recN (fun _ _ => none) (fun self => B_Pe_copyFrom_L80 w self) n
def d_Pe_copyFrom (z : T_Pe) (w : T_Pe) : Option (T_Pe) :=
  d_Pe_copyFrom_L80 w  1000 0 (u_Pe_rowSize (u_Pe_age (u_Pe_strength (u_Pe_v (u_Pe_kind (u_Pe_size z (q_Pe_size w)) (va_cpy (q_Pe_kind w) (q_Pe_kind (u_Pe_size z (q_Pe_size w))) 0 0 4)) (va_cpy (q_Pe_v w) (q_Pe_v (u_Pe_kind (u_Pe_size z (q_Pe_size w)) (va_cpy (q_Pe_kind w) (q_Pe_kind (u_Pe_size z (q_Pe_size w))) 0 0 4))) 0 0 4)) (va_cpy (q_Pe_strength w) (q_Pe_strength (u_Pe_v (u_Pe_kind (u_Pe_size z (q_Pe_size w)) (va_cpy (q_Pe_kind w) (q_Pe_kind (u_Pe_size z (q_Pe_size w))) 0 0 4)) (va_cpy (q_Pe_v w) (q_Pe_v (u_Pe_kind (u_Pe_size z (q_Pe_size w)) (va_cpy (q_Pe_kind w) (q_Pe_kind (u_Pe_size z (q_Pe_size w))) 0 0 4))) 0 0 4))) 0 0 4)) (va_cpy (q_Pe_age w) (q_Pe_age (u_Pe_strength (u_Pe_v (u_Pe_kind (u_Pe_size z (q_Pe_size w)) (va_cpy (q_Pe_kind w) (q_Pe_kind (u_Pe_size z (q_Pe_size w))) 0 0 4)) (va_cpy (q_Pe_v w) (q_Pe_v (u_Pe_kind (u_Pe_size z (q_Pe_size w)) (va_cpy (q_Pe_kind w) (q_Pe_kind (u_Pe_size z (q_Pe_size w))) 0 0 4))) 0 0 4)) (va_cpy (q_Pe_strength w) (q_Pe_strength (u_Pe_v (u_Pe_kind (u_Pe_size z (q_Pe_size w)) (va_cpy (q_Pe_kind w) (q_Pe_kind (u_Pe_size z (q_Pe_size w))) 0 0 4)) (va_cpy (q_Pe_v w) (q_Pe_v (u_Pe_kind (u_Pe_size z (q_Pe_size w)) (va_cpy (q_Pe_kind w) (q_Pe_kind (u_Pe_size z (q_Pe_size w))) 0 0 4))) 0 0 4))) 0 0 4))) 0 0 4)) (va_cpy (q_Pe_rowSize w) (q_Pe_rowSize (u_Pe_age (u_Pe_strength (u_Pe_v (u_Pe_kind (u_Pe_size z (q_Pe_size w)) (va_cpy (q_Pe_kind w) (q_Pe_kind (u_Pe_size z (q_Pe_size w))) 0 0 4)) (va_cpy (q_Pe_v w) (q_Pe_v (u_Pe_kind (u_Pe_size z (q_Pe_size w)) (va_cpy (q_Pe_kind w) (q_Pe_kind (u_Pe_size z (q_Pe_size w))) 0 0 4))) 0 0 4)) (va_cpy (q_Pe_strength w) (q_Pe_strength (u_Pe_v (u_Pe_kind (u_Pe_size z (q_Pe_size w)) (va_cpy (q_Pe_kind w) (q_Pe_kind (u_Pe_size z (q_Pe_size w))) 0 0 4)) (va_cpy (q_Pe_v w) (q_Pe_v (u_Pe_kind (u_Pe_size z (q_Pe_size w)) (va_cpy (q_Pe_kind w) (q_Pe_kind (u_Pe_size z (q_Pe_size w))) 0 0 4))) 0 0 4))) 0 0 4)) (va_cpy (q_Pe_age w) (q_Pe_age (u_Pe_strength (u_Pe_v (u_Pe_kind (u_Pe_size z (q_Pe_size w)) (va_cpy (q_Pe_kind w) (q_Pe_kind (u_Pe_size z (q_Pe_size w))) 0 0 4)) (va_cpy (q_Pe_v w) (q_Pe_v (u_Pe_kind (u_Pe_size z (q_Pe_size w)) (va_cpy (q_Pe_kind w) (q_Pe_kind (u_Pe_size z (q_Pe_size w))) 0 0 4))) 0 0 4)) (va_cpy (q_Pe_strength w) (q_Pe_strength (u_Pe_v (u_Pe_kind (u_Pe_size z (q_Pe_size w)) (va_cpy (q_Pe_kind w) (q_Pe_kind (u_Pe_size z (q_Pe_size w))) 0 0 4)) (va_cpy (q_Pe_v w) (q_Pe_v (u_Pe_kind (u_Pe_size z (q_Pe_size w)) (va_cpy (q_Pe_kind w) (q_Pe_kind (u_Pe_size z (q_Pe_size w))) 0 0 4))) 0 0 4))) 0 0 4))) 0 0 4))) 0 0 4))
theorem d_Pe_copyFrom_0 : decode b_Pe_copyFrom 0 = .ok (.aload_n 0, 1) := by decide +kernel
theorem d_Pe_copyFrom_1 : decode b_Pe_copyFrom 1 = .ok (.aload_n 1, 1) := by decide +kernel
theorem d_Pe_copyFrom_2 : decode b_Pe_copyFrom 2 = .ok (.getfield 32, 3) := by decide +kernel
theorem d_Pe_copyFrom_5 : decode b_Pe_copyFrom 5 = .ok (.putfield 32, 3) := by decide +kernel
theorem d_Pe_copyFrom_8 : decode b_Pe_copyFrom 8 = .ok (.aload_n 1, 1) := by decide +kernel
theorem d_Pe_copyFrom_9 : decode b_Pe_copyFrom 9 = .ok (.getfield 9, 3) := by decide +kernel
theorem d_Pe_copyFrom_12 : decode b_Pe_copyFrom 12 = .ok (.iconst 0, 1) := by decide +kernel
theorem d_Pe_copyFrom_13 : decode b_Pe_copyFrom 13 = .ok (.aload_n 0, 1) := by decide +kernel
theorem d_Pe_copyFrom_14 : decode b_Pe_copyFrom 14 = .ok (.getfield 9, 3) := by decide +kernel
theorem d_Pe_copyFrom_17 : decode b_Pe_copyFrom 17 = .ok (.iconst 0, 1) := by decide +kernel
theorem d_Pe_copyFrom_18 : decode b_Pe_copyFrom 18 = .ok (.iconst 4, 1) := by decide +kernel
theorem d_Pe_copyFrom_19 : decode b_Pe_copyFrom 19 = .ok (.invokestatic 36, 3) := by decide +kernel
theorem d_Pe_copyFrom_22 : decode b_Pe_copyFrom 22 = .ok (.aload_n 1, 1) := by decide +kernel
theorem d_Pe_copyFrom_23 : decode b_Pe_copyFrom 23 = .ok (.getfield 15, 3) := by decide +kernel
theorem d_Pe_copyFrom_26 : decode b_Pe_copyFrom 26 = .ok (.iconst 0, 1) := by decide +kernel
theorem d_Pe_copyFrom_27 : decode b_Pe_copyFrom 27 = .ok (.aload_n 0, 1) := by decide +kernel
theorem d_Pe_copyFrom_28 : decode b_Pe_copyFrom 28 = .ok (.getfield 15, 3) := by decide +kernel
theorem d_Pe_copyFrom_31 : decode b_Pe_copyFrom 31 = .ok (.iconst 0, 1) := by decide +kernel
theorem d_Pe_copyFrom_32 : decode b_Pe_copyFrom 32 = .ok (.iconst 4, 1) := by decide +kernel
theorem d_Pe_copyFrom_33 : decode b_Pe_copyFrom 33 = .ok (.invokestatic 36, 3) := by decide +kernel
theorem d_Pe_copyFrom_36 : decode b_Pe_copyFrom 36 = .ok (.aload_n 1, 1) := by decide +kernel
theorem d_Pe_copyFrom_37 : decode b_Pe_copyFrom 37 = .ok (.getfield 18, 3) := by decide +kernel
theorem d_Pe_copyFrom_40 : decode b_Pe_copyFrom 40 = .ok (.iconst 0, 1) := by decide +kernel
theorem d_Pe_copyFrom_41 : decode b_Pe_copyFrom 41 = .ok (.aload_n 0, 1) := by decide +kernel
theorem d_Pe_copyFrom_42 : decode b_Pe_copyFrom 42 = .ok (.getfield 18, 3) := by decide +kernel
theorem d_Pe_copyFrom_45 : decode b_Pe_copyFrom 45 = .ok (.iconst 0, 1) := by decide +kernel
theorem d_Pe_copyFrom_46 : decode b_Pe_copyFrom 46 = .ok (.iconst 4, 1) := by decide +kernel
theorem d_Pe_copyFrom_47 : decode b_Pe_copyFrom 47 = .ok (.invokestatic 36, 3) := by decide +kernel
theorem d_Pe_copyFrom_50 : decode b_Pe_copyFrom 50 = .ok (.aload_n 1, 1) := by decide +kernel
theorem d_Pe_copyFrom_51 : decode b_Pe_copyFrom 51 = .ok (.getfield 21, 3) := by decide +kernel
theorem d_Pe_copyFrom_54 : decode b_Pe_copyFrom 54 = .ok (.iconst 0, 1) := by decide +kernel
theorem d_Pe_copyFrom_55 : decode b_Pe_copyFrom 55 = .ok (.aload_n 0, 1) := by decide +kernel
theorem d_Pe_copyFrom_56 : decode b_Pe_copyFrom 56 = .ok (.getfield 21, 3) := by decide +kernel
theorem d_Pe_copyFrom_59 : decode b_Pe_copyFrom 59 = .ok (.iconst 0, 1) := by decide +kernel
theorem d_Pe_copyFrom_60 : decode b_Pe_copyFrom 60 = .ok (.iconst 4, 1) := by decide +kernel
theorem d_Pe_copyFrom_61 : decode b_Pe_copyFrom 61 = .ok (.invokestatic 36, 3) := by decide +kernel
theorem d_Pe_copyFrom_64 : decode b_Pe_copyFrom 64 = .ok (.aload_n 1, 1) := by decide +kernel
theorem d_Pe_copyFrom_65 : decode b_Pe_copyFrom 65 = .ok (.getfield 24, 3) := by decide +kernel
theorem d_Pe_copyFrom_68 : decode b_Pe_copyFrom 68 = .ok (.iconst 0, 1) := by decide +kernel
theorem d_Pe_copyFrom_69 : decode b_Pe_copyFrom 69 = .ok (.aload_n 0, 1) := by decide +kernel
theorem d_Pe_copyFrom_70 : decode b_Pe_copyFrom 70 = .ok (.getfield 24, 3) := by decide +kernel
theorem d_Pe_copyFrom_73 : decode b_Pe_copyFrom 73 = .ok (.iconst 0, 1) := by decide +kernel
theorem d_Pe_copyFrom_74 : decode b_Pe_copyFrom 74 = .ok (.iconst 4, 1) := by decide +kernel
theorem d_Pe_copyFrom_75 : decode b_Pe_copyFrom 75 = .ok (.invokestatic 36, 3) := by decide +kernel
theorem d_Pe_copyFrom_78 : decode b_Pe_copyFrom 78 = .ok (.iconst 0, 1) := by decide +kernel
theorem d_Pe_copyFrom_79 : decode b_Pe_copyFrom 79 = .ok (.istore_n 2, 1) := by decide +kernel
theorem d_Pe_copyFrom_80 : decode b_Pe_copyFrom 80 = .ok (.iload_n 2, 1) := by decide +kernel
theorem d_Pe_copyFrom_81 : decode b_Pe_copyFrom 81 = .ok (.iconst 4, 1) := by decide +kernel
theorem d_Pe_copyFrom_82 : decode b_Pe_copyFrom 82 = .ok (.if_icmp .ge 28, 3) := by decide +kernel
theorem d_Pe_copyFrom_85 : decode b_Pe_copyFrom 85 = .ok (.aload_n 1, 1) := by decide +kernel
theorem d_Pe_copyFrom_86 : decode b_Pe_copyFrom 86 = .ok (.getfield 29, 3) := by decide +kernel
theorem d_Pe_copyFrom_89 : decode b_Pe_copyFrom 89 = .ok (.iload_n 2, 1) := by decide +kernel
theorem d_Pe_copyFrom_90 : decode b_Pe_copyFrom 90 = .ok (.aaload, 1) := by decide +kernel
theorem d_Pe_copyFrom_91 : decode b_Pe_copyFrom 91 = .ok (.iconst 0, 1) := by decide +kernel
theorem d_Pe_copyFrom_92 : decode b_Pe_copyFrom 92 = .ok (.aload_n 0, 1) := by decide +kernel
theorem d_Pe_copyFrom_93 : decode b_Pe_copyFrom 93 = .ok (.getfield 29, 3) := by decide +kernel
theorem d_Pe_copyFrom_96 : decode b_Pe_copyFrom 96 = .ok (.iload_n 2, 1) := by decide +kernel
theorem d_Pe_copyFrom_97 : decode b_Pe_copyFrom 97 = .ok (.aaload, 1) := by decide +kernel
theorem d_Pe_copyFrom_98 : decode b_Pe_copyFrom 98 = .ok (.iconst 0, 1) := by decide +kernel
theorem d_Pe_copyFrom_99 : decode b_Pe_copyFrom 99 = .ok (.bipush 7, 2) := by decide +kernel
theorem d_Pe_copyFrom_101 : decode b_Pe_copyFrom 101 = .ok (.invokestatic 36, 3) := by decide +kernel
theorem d_Pe_copyFrom_104 : decode b_Pe_copyFrom 104 = .ok (.iinc 2 1, 3) := by decide +kernel
theorem d_Pe_copyFrom_107 : decode b_Pe_copyFrom 107 = .ok (.goto (-27), 3) := by decide +kernel
theorem d_Pe_copyFrom_110 : decode b_Pe_copyFrom 110 = .ok (.return_, 1) := by decide +kernel
theorem o_Pe_copyFrom : OkV y_Pe_copyFrom "OwnsLift$People" b_Pe_copyFrom 3 none 1 := ⟨⟨rfl, by decide +kernel, by decide +kernel, by decide +kernel⟩, g_970, g_971, g_74, g_972⟩
set_option maxHeartbeats 4000000 in
set_option maxRecDepth 100000 in
theorem c_Pe_copyFrom (l : Launch) (D : va_G) (g : Nat → ClassId) (a : Nat → Nat) (b : Nat → Nat) (z : T_Pe) (w : T_Pe) (v : T_Pe) (h : d_Pe_copyFrom z w = some v) :
    MV l y_Pe_copyFrom b_Pe_copyFrom 3 ({ frames := 1, cells := 0, slots := 0, locals := 70 } : Room) D g [.ref (a 0), .ref (b 0)] (ws_Pe g a z ++ ws_Pe g b w) (ws_Pe g a v ++ ws_Pe g b w) := by
  have hd := h
  unfold d_Pe_copyFrom at hd
  refine enterV rfl (Nat.le_of_ble_eq_true rfl) (fun p e s m below meth c A ls hx hb hml hr hown hg hlk hK hA hP hD hS hCs hl => ?_)
  have hown : s.vm.findClass "OwnsLift$People" = some m.cls := hown
  have hl : lv_has ls 3 [(0, .ref (a 0)), (1, .ref (b 0))] := hl
  show GV p l e s m ({ frames := 1, cells := 0, slots := 0, locals := 70 } : Room) ([.ref (a 0), .ref (b 0)] : List Value).toArray below meth c A D g (ws_Pe g a v ++ ws_Pe g b w) s.heap [] (F0 m 0 ls [])
  refine lv_aload_n hx hb d_Pe_copyFrom_0 rfl (lv_at hl 0 rfl) ?_
  refine lv_aload_n hx hb d_Pe_copyFrom_1 rfl (lv_at hl 1 rfl) ?_
  refine va_get (D := D) (ci := 5) (v := .int (q_Pe_size w)) (C := R_Pe) (T := F_Pe) (N := 7) hx hb hg i_Pe hown hK hP 11 rfl rfl 0 (by decide) (hg _ g_140) (fun _ h9 => h9) rfl d_Pe_copyFrom_2 ?_
  refine va_put (D := D) (ci := 5) (v := .int (q_Pe_size w)) (ty := .int) (C := R_Pe) (T := F_Pe) (N := 7) hx hb hg i_Pe t_Pe t_Pe_ok n_Pe hown hK hP hD hS 0 rfl rfl 0 (by decide) (hg _ g_140) (fun _ h9 => h9) rfl (by decide +kernel) rfl rfl (Nat.le_of_ble_eq_true rfl) d_Pe_copyFrom_5 (fun H locs hP hD hS => ?_)
  have hP : va_P D classes (ws_Pe g a (u_Pe_size z (q_Pe_size w)) ++ ws_Pe g b w) H := hP
  have hD : va_D A (ws_Pe g a (u_Pe_size z (q_Pe_size w)) ++ ws_Pe g b w) := hD
  refine lv_aload_n hx hb d_Pe_copyFrom_8 rfl (lv_at hl 1 rfl) ?_
  refine va_get (D := D) (ci := 5) (v := .ref (b 1)) (C := R_Pe) (T := F_Pe) (N := 7) hx hb hg i_Pe hown hK hP 11 rfl rfl 1 (by decide) (hg _ g_143) (fun _ h9 => h9) rfl d_Pe_copyFrom_9 ?_
  refine lv_iconst (v := 0) hx hb d_Pe_copyFrom_12 (by decide) ?_
  refine lv_aload_n hx hb d_Pe_copyFrom_13 rfl (lv_at hl 0 rfl) ?_
  refine va_get (D := D) (ci := 5) (v := .ref (a 1)) (C := R_Pe) (T := F_Pe) (N := 7) hx hb hg i_Pe hown hK hP 0 rfl rfl 1 (by decide) (hg _ g_143) (fun _ h9 => h9) rfl d_Pe_copyFrom_14 ?_
  refine lv_iconst (v := 0) hx hb d_Pe_copyFrom_17 (by decide) ?_
  refine lv_iconst (v := 4) hx hb d_Pe_copyFrom_18 (by decide) ?_
  refine copyK (N := 4) hx hb (hml.trans hl.1.symm) hown (hg _ g_973) hg hK hP hD hS 12 1 rfl rfl (by decide +kernel) (by decide +kernel) (by decide) (by decide) (Nat.le_of_ble_eq_true rfl) (Nat.le_of_ble_eq_true (by decide +kernel)) d_Pe_copyFrom_19 (fun H locs hP hD hS => ?_)
  have hP : va_P D classes (ws_Pe g a (u_Pe_kind (u_Pe_size z (q_Pe_size w)) (va_cpy (q_Pe_kind w) (q_Pe_kind (u_Pe_size z (q_Pe_size w))) 0 0 4)) ++ ws_Pe g b w) H := hP
  have hD : va_D A (ws_Pe g a (u_Pe_kind (u_Pe_size z (q_Pe_size w)) (va_cpy (q_Pe_kind w) (q_Pe_kind (u_Pe_size z (q_Pe_size w))) 0 0 4)) ++ ws_Pe g b w) := hD
  refine lv_aload_n hx hb d_Pe_copyFrom_22 rfl (lv_at hl 1 rfl) ?_
  refine va_get (D := D) (ci := 5) (v := .ref (b 2)) (C := R_Pe) (T := F_Pe) (N := 7) hx hb hg i_Pe hown hK hP 11 rfl rfl 2 (by decide) (hg _ g_148) (fun _ h9 => h9) rfl d_Pe_copyFrom_23 ?_
  refine lv_iconst (v := 0) hx hb d_Pe_copyFrom_26 (by decide) ?_
  refine lv_aload_n hx hb d_Pe_copyFrom_27 rfl (lv_at hl 0 rfl) ?_
  refine va_get (D := D) (ci := 5) (v := .ref (a 2)) (C := R_Pe) (T := F_Pe) (N := 7) hx hb hg i_Pe hown hK hP 0 rfl rfl 2 (by decide) (hg _ g_148) (fun _ h9 => h9) rfl d_Pe_copyFrom_28 ?_
  refine lv_iconst (v := 0) hx hb d_Pe_copyFrom_31 (by decide) ?_
  refine lv_iconst (v := 4) hx hb d_Pe_copyFrom_32 (by decide) ?_
  refine copyK (N := 4) hx hb (hml.trans hl.1.symm) hown (hg _ g_973) hg hK hP hD hS 13 2 rfl rfl (by decide +kernel) (by decide +kernel) (by decide) (by decide) (Nat.le_of_ble_eq_true rfl) (Nat.le_of_ble_eq_true (by decide +kernel)) d_Pe_copyFrom_33 (fun H locs hP hD hS => ?_)
  have hP : va_P D classes (ws_Pe g a (u_Pe_v (u_Pe_kind (u_Pe_size z (q_Pe_size w)) (va_cpy (q_Pe_kind w) (q_Pe_kind (u_Pe_size z (q_Pe_size w))) 0 0 4)) (va_cpy (q_Pe_v w) (q_Pe_v (u_Pe_kind (u_Pe_size z (q_Pe_size w)) (va_cpy (q_Pe_kind w) (q_Pe_kind (u_Pe_size z (q_Pe_size w))) 0 0 4))) 0 0 4)) ++ ws_Pe g b w) H := hP
  have hD : va_D A (ws_Pe g a (u_Pe_v (u_Pe_kind (u_Pe_size z (q_Pe_size w)) (va_cpy (q_Pe_kind w) (q_Pe_kind (u_Pe_size z (q_Pe_size w))) 0 0 4)) (va_cpy (q_Pe_v w) (q_Pe_v (u_Pe_kind (u_Pe_size z (q_Pe_size w)) (va_cpy (q_Pe_kind w) (q_Pe_kind (u_Pe_size z (q_Pe_size w))) 0 0 4))) 0 0 4)) ++ ws_Pe g b w) := hD
  refine lv_aload_n hx hb d_Pe_copyFrom_36 rfl (lv_at hl 1 rfl) ?_
  refine va_get (D := D) (ci := 5) (v := .ref (b 3)) (C := R_Pe) (T := F_Pe) (N := 7) hx hb hg i_Pe hown hK hP 11 rfl rfl 3 (by decide) (hg _ g_152) (fun _ h9 => h9) rfl d_Pe_copyFrom_37 ?_
  refine lv_iconst (v := 0) hx hb d_Pe_copyFrom_40 (by decide) ?_
  refine lv_aload_n hx hb d_Pe_copyFrom_41 rfl (lv_at hl 0 rfl) ?_
  refine va_get (D := D) (ci := 5) (v := .ref (a 3)) (C := R_Pe) (T := F_Pe) (N := 7) hx hb hg i_Pe hown hK hP 0 rfl rfl 3 (by decide) (hg _ g_152) (fun _ h9 => h9) rfl d_Pe_copyFrom_42 ?_
  refine lv_iconst (v := 0) hx hb d_Pe_copyFrom_45 (by decide) ?_
  refine lv_iconst (v := 4) hx hb d_Pe_copyFrom_46 (by decide) ?_
  refine copyK (N := 4) hx hb (hml.trans hl.1.symm) hown (hg _ g_973) hg hK hP hD hS 14 3 rfl rfl (by decide +kernel) (by decide +kernel) (by decide) (by decide) (Nat.le_of_ble_eq_true rfl) (Nat.le_of_ble_eq_true (by decide +kernel)) d_Pe_copyFrom_47 (fun H locs hP hD hS => ?_)
  have hP : va_P D classes (ws_Pe g a (u_Pe_strength (u_Pe_v (u_Pe_kind (u_Pe_size z (q_Pe_size w)) (va_cpy (q_Pe_kind w) (q_Pe_kind (u_Pe_size z (q_Pe_size w))) 0 0 4)) (va_cpy (q_Pe_v w) (q_Pe_v (u_Pe_kind (u_Pe_size z (q_Pe_size w)) (va_cpy (q_Pe_kind w) (q_Pe_kind (u_Pe_size z (q_Pe_size w))) 0 0 4))) 0 0 4)) (va_cpy (q_Pe_strength w) (q_Pe_strength (u_Pe_v (u_Pe_kind (u_Pe_size z (q_Pe_size w)) (va_cpy (q_Pe_kind w) (q_Pe_kind (u_Pe_size z (q_Pe_size w))) 0 0 4)) (va_cpy (q_Pe_v w) (q_Pe_v (u_Pe_kind (u_Pe_size z (q_Pe_size w)) (va_cpy (q_Pe_kind w) (q_Pe_kind (u_Pe_size z (q_Pe_size w))) 0 0 4))) 0 0 4))) 0 0 4)) ++ ws_Pe g b w) H := hP
  have hD : va_D A (ws_Pe g a (u_Pe_strength (u_Pe_v (u_Pe_kind (u_Pe_size z (q_Pe_size w)) (va_cpy (q_Pe_kind w) (q_Pe_kind (u_Pe_size z (q_Pe_size w))) 0 0 4)) (va_cpy (q_Pe_v w) (q_Pe_v (u_Pe_kind (u_Pe_size z (q_Pe_size w)) (va_cpy (q_Pe_kind w) (q_Pe_kind (u_Pe_size z (q_Pe_size w))) 0 0 4))) 0 0 4)) (va_cpy (q_Pe_strength w) (q_Pe_strength (u_Pe_v (u_Pe_kind (u_Pe_size z (q_Pe_size w)) (va_cpy (q_Pe_kind w) (q_Pe_kind (u_Pe_size z (q_Pe_size w))) 0 0 4)) (va_cpy (q_Pe_v w) (q_Pe_v (u_Pe_kind (u_Pe_size z (q_Pe_size w)) (va_cpy (q_Pe_kind w) (q_Pe_kind (u_Pe_size z (q_Pe_size w))) 0 0 4))) 0 0 4))) 0 0 4)) ++ ws_Pe g b w) := hD
  refine lv_aload_n hx hb d_Pe_copyFrom_50 rfl (lv_at hl 1 rfl) ?_
  refine va_get (D := D) (ci := 5) (v := .ref (b 4)) (C := R_Pe) (T := F_Pe) (N := 7) hx hb hg i_Pe hown hK hP 11 rfl rfl 4 (by decide) (hg _ g_155) (fun _ h9 => h9) rfl d_Pe_copyFrom_51 ?_
  refine lv_iconst (v := 0) hx hb d_Pe_copyFrom_54 (by decide) ?_
  refine lv_aload_n hx hb d_Pe_copyFrom_55 rfl (lv_at hl 0 rfl) ?_
  refine va_get (D := D) (ci := 5) (v := .ref (a 4)) (C := R_Pe) (T := F_Pe) (N := 7) hx hb hg i_Pe hown hK hP 0 rfl rfl 4 (by decide) (hg _ g_155) (fun _ h9 => h9) rfl d_Pe_copyFrom_56 ?_
  refine lv_iconst (v := 0) hx hb d_Pe_copyFrom_59 (by decide) ?_
  refine lv_iconst (v := 4) hx hb d_Pe_copyFrom_60 (by decide) ?_
  refine copyK (N := 4) hx hb (hml.trans hl.1.symm) hown (hg _ g_973) hg hK hP hD hS 15 4 rfl rfl (by decide +kernel) (by decide +kernel) (by decide) (by decide) (Nat.le_of_ble_eq_true rfl) (Nat.le_of_ble_eq_true (by decide +kernel)) d_Pe_copyFrom_61 (fun H locs hP hD hS => ?_)
  have hP : va_P D classes (ws_Pe g a (u_Pe_age (u_Pe_strength (u_Pe_v (u_Pe_kind (u_Pe_size z (q_Pe_size w)) (va_cpy (q_Pe_kind w) (q_Pe_kind (u_Pe_size z (q_Pe_size w))) 0 0 4)) (va_cpy (q_Pe_v w) (q_Pe_v (u_Pe_kind (u_Pe_size z (q_Pe_size w)) (va_cpy (q_Pe_kind w) (q_Pe_kind (u_Pe_size z (q_Pe_size w))) 0 0 4))) 0 0 4)) (va_cpy (q_Pe_strength w) (q_Pe_strength (u_Pe_v (u_Pe_kind (u_Pe_size z (q_Pe_size w)) (va_cpy (q_Pe_kind w) (q_Pe_kind (u_Pe_size z (q_Pe_size w))) 0 0 4)) (va_cpy (q_Pe_v w) (q_Pe_v (u_Pe_kind (u_Pe_size z (q_Pe_size w)) (va_cpy (q_Pe_kind w) (q_Pe_kind (u_Pe_size z (q_Pe_size w))) 0 0 4))) 0 0 4))) 0 0 4)) (va_cpy (q_Pe_age w) (q_Pe_age (u_Pe_strength (u_Pe_v (u_Pe_kind (u_Pe_size z (q_Pe_size w)) (va_cpy (q_Pe_kind w) (q_Pe_kind (u_Pe_size z (q_Pe_size w))) 0 0 4)) (va_cpy (q_Pe_v w) (q_Pe_v (u_Pe_kind (u_Pe_size z (q_Pe_size w)) (va_cpy (q_Pe_kind w) (q_Pe_kind (u_Pe_size z (q_Pe_size w))) 0 0 4))) 0 0 4)) (va_cpy (q_Pe_strength w) (q_Pe_strength (u_Pe_v (u_Pe_kind (u_Pe_size z (q_Pe_size w)) (va_cpy (q_Pe_kind w) (q_Pe_kind (u_Pe_size z (q_Pe_size w))) 0 0 4)) (va_cpy (q_Pe_v w) (q_Pe_v (u_Pe_kind (u_Pe_size z (q_Pe_size w)) (va_cpy (q_Pe_kind w) (q_Pe_kind (u_Pe_size z (q_Pe_size w))) 0 0 4))) 0 0 4))) 0 0 4))) 0 0 4)) ++ ws_Pe g b w) H := hP
  have hD : va_D A (ws_Pe g a (u_Pe_age (u_Pe_strength (u_Pe_v (u_Pe_kind (u_Pe_size z (q_Pe_size w)) (va_cpy (q_Pe_kind w) (q_Pe_kind (u_Pe_size z (q_Pe_size w))) 0 0 4)) (va_cpy (q_Pe_v w) (q_Pe_v (u_Pe_kind (u_Pe_size z (q_Pe_size w)) (va_cpy (q_Pe_kind w) (q_Pe_kind (u_Pe_size z (q_Pe_size w))) 0 0 4))) 0 0 4)) (va_cpy (q_Pe_strength w) (q_Pe_strength (u_Pe_v (u_Pe_kind (u_Pe_size z (q_Pe_size w)) (va_cpy (q_Pe_kind w) (q_Pe_kind (u_Pe_size z (q_Pe_size w))) 0 0 4)) (va_cpy (q_Pe_v w) (q_Pe_v (u_Pe_kind (u_Pe_size z (q_Pe_size w)) (va_cpy (q_Pe_kind w) (q_Pe_kind (u_Pe_size z (q_Pe_size w))) 0 0 4))) 0 0 4))) 0 0 4)) (va_cpy (q_Pe_age w) (q_Pe_age (u_Pe_strength (u_Pe_v (u_Pe_kind (u_Pe_size z (q_Pe_size w)) (va_cpy (q_Pe_kind w) (q_Pe_kind (u_Pe_size z (q_Pe_size w))) 0 0 4)) (va_cpy (q_Pe_v w) (q_Pe_v (u_Pe_kind (u_Pe_size z (q_Pe_size w)) (va_cpy (q_Pe_kind w) (q_Pe_kind (u_Pe_size z (q_Pe_size w))) 0 0 4))) 0 0 4)) (va_cpy (q_Pe_strength w) (q_Pe_strength (u_Pe_v (u_Pe_kind (u_Pe_size z (q_Pe_size w)) (va_cpy (q_Pe_kind w) (q_Pe_kind (u_Pe_size z (q_Pe_size w))) 0 0 4)) (va_cpy (q_Pe_v w) (q_Pe_v (u_Pe_kind (u_Pe_size z (q_Pe_size w)) (va_cpy (q_Pe_kind w) (q_Pe_kind (u_Pe_size z (q_Pe_size w))) 0 0 4))) 0 0 4))) 0 0 4))) 0 0 4)) ++ ws_Pe g b w) := hD
  refine lv_aload_n hx hb d_Pe_copyFrom_64 rfl (lv_at hl 1 rfl) ?_
  refine va_get (D := D) (ci := 5) (v := .ref (b 5)) (C := R_Pe) (T := F_Pe) (N := 7) hx hb hg i_Pe hown hK hP 11 rfl rfl 5 (by decide) (hg _ g_158) (fun _ h9 => h9) rfl d_Pe_copyFrom_65 ?_
  refine lv_iconst (v := 0) hx hb d_Pe_copyFrom_68 (by decide) ?_
  refine lv_aload_n hx hb d_Pe_copyFrom_69 rfl (lv_at hl 0 rfl) ?_
  refine va_get (D := D) (ci := 5) (v := .ref (a 5)) (C := R_Pe) (T := F_Pe) (N := 7) hx hb hg i_Pe hown hK hP 0 rfl rfl 5 (by decide) (hg _ g_158) (fun _ h9 => h9) rfl d_Pe_copyFrom_70 ?_
  refine lv_iconst (v := 0) hx hb d_Pe_copyFrom_73 (by decide) ?_
  refine lv_iconst (v := 4) hx hb d_Pe_copyFrom_74 (by decide) ?_
  refine copyK (N := 4) hx hb (hml.trans hl.1.symm) hown (hg _ g_973) hg hK hP hD hS 16 5 rfl rfl (by decide +kernel) (by decide +kernel) (by decide) (by decide) (Nat.le_of_ble_eq_true rfl) (Nat.le_of_ble_eq_true (by decide +kernel)) d_Pe_copyFrom_75 (fun H locs hP hD hS => ?_)
  have hP : va_P D classes (ws_Pe g a (u_Pe_rowSize (u_Pe_age (u_Pe_strength (u_Pe_v (u_Pe_kind (u_Pe_size z (q_Pe_size w)) (va_cpy (q_Pe_kind w) (q_Pe_kind (u_Pe_size z (q_Pe_size w))) 0 0 4)) (va_cpy (q_Pe_v w) (q_Pe_v (u_Pe_kind (u_Pe_size z (q_Pe_size w)) (va_cpy (q_Pe_kind w) (q_Pe_kind (u_Pe_size z (q_Pe_size w))) 0 0 4))) 0 0 4)) (va_cpy (q_Pe_strength w) (q_Pe_strength (u_Pe_v (u_Pe_kind (u_Pe_size z (q_Pe_size w)) (va_cpy (q_Pe_kind w) (q_Pe_kind (u_Pe_size z (q_Pe_size w))) 0 0 4)) (va_cpy (q_Pe_v w) (q_Pe_v (u_Pe_kind (u_Pe_size z (q_Pe_size w)) (va_cpy (q_Pe_kind w) (q_Pe_kind (u_Pe_size z (q_Pe_size w))) 0 0 4))) 0 0 4))) 0 0 4)) (va_cpy (q_Pe_age w) (q_Pe_age (u_Pe_strength (u_Pe_v (u_Pe_kind (u_Pe_size z (q_Pe_size w)) (va_cpy (q_Pe_kind w) (q_Pe_kind (u_Pe_size z (q_Pe_size w))) 0 0 4)) (va_cpy (q_Pe_v w) (q_Pe_v (u_Pe_kind (u_Pe_size z (q_Pe_size w)) (va_cpy (q_Pe_kind w) (q_Pe_kind (u_Pe_size z (q_Pe_size w))) 0 0 4))) 0 0 4)) (va_cpy (q_Pe_strength w) (q_Pe_strength (u_Pe_v (u_Pe_kind (u_Pe_size z (q_Pe_size w)) (va_cpy (q_Pe_kind w) (q_Pe_kind (u_Pe_size z (q_Pe_size w))) 0 0 4)) (va_cpy (q_Pe_v w) (q_Pe_v (u_Pe_kind (u_Pe_size z (q_Pe_size w)) (va_cpy (q_Pe_kind w) (q_Pe_kind (u_Pe_size z (q_Pe_size w))) 0 0 4))) 0 0 4))) 0 0 4))) 0 0 4)) (va_cpy (q_Pe_rowSize w) (q_Pe_rowSize (u_Pe_age (u_Pe_strength (u_Pe_v (u_Pe_kind (u_Pe_size z (q_Pe_size w)) (va_cpy (q_Pe_kind w) (q_Pe_kind (u_Pe_size z (q_Pe_size w))) 0 0 4)) (va_cpy (q_Pe_v w) (q_Pe_v (u_Pe_kind (u_Pe_size z (q_Pe_size w)) (va_cpy (q_Pe_kind w) (q_Pe_kind (u_Pe_size z (q_Pe_size w))) 0 0 4))) 0 0 4)) (va_cpy (q_Pe_strength w) (q_Pe_strength (u_Pe_v (u_Pe_kind (u_Pe_size z (q_Pe_size w)) (va_cpy (q_Pe_kind w) (q_Pe_kind (u_Pe_size z (q_Pe_size w))) 0 0 4)) (va_cpy (q_Pe_v w) (q_Pe_v (u_Pe_kind (u_Pe_size z (q_Pe_size w)) (va_cpy (q_Pe_kind w) (q_Pe_kind (u_Pe_size z (q_Pe_size w))) 0 0 4))) 0 0 4))) 0 0 4)) (va_cpy (q_Pe_age w) (q_Pe_age (u_Pe_strength (u_Pe_v (u_Pe_kind (u_Pe_size z (q_Pe_size w)) (va_cpy (q_Pe_kind w) (q_Pe_kind (u_Pe_size z (q_Pe_size w))) 0 0 4)) (va_cpy (q_Pe_v w) (q_Pe_v (u_Pe_kind (u_Pe_size z (q_Pe_size w)) (va_cpy (q_Pe_kind w) (q_Pe_kind (u_Pe_size z (q_Pe_size w))) 0 0 4))) 0 0 4)) (va_cpy (q_Pe_strength w) (q_Pe_strength (u_Pe_v (u_Pe_kind (u_Pe_size z (q_Pe_size w)) (va_cpy (q_Pe_kind w) (q_Pe_kind (u_Pe_size z (q_Pe_size w))) 0 0 4)) (va_cpy (q_Pe_v w) (q_Pe_v (u_Pe_kind (u_Pe_size z (q_Pe_size w)) (va_cpy (q_Pe_kind w) (q_Pe_kind (u_Pe_size z (q_Pe_size w))) 0 0 4))) 0 0 4))) 0 0 4))) 0 0 4))) 0 0 4)) ++ ws_Pe g b w) H := hP
  have hD : va_D A (ws_Pe g a (u_Pe_rowSize (u_Pe_age (u_Pe_strength (u_Pe_v (u_Pe_kind (u_Pe_size z (q_Pe_size w)) (va_cpy (q_Pe_kind w) (q_Pe_kind (u_Pe_size z (q_Pe_size w))) 0 0 4)) (va_cpy (q_Pe_v w) (q_Pe_v (u_Pe_kind (u_Pe_size z (q_Pe_size w)) (va_cpy (q_Pe_kind w) (q_Pe_kind (u_Pe_size z (q_Pe_size w))) 0 0 4))) 0 0 4)) (va_cpy (q_Pe_strength w) (q_Pe_strength (u_Pe_v (u_Pe_kind (u_Pe_size z (q_Pe_size w)) (va_cpy (q_Pe_kind w) (q_Pe_kind (u_Pe_size z (q_Pe_size w))) 0 0 4)) (va_cpy (q_Pe_v w) (q_Pe_v (u_Pe_kind (u_Pe_size z (q_Pe_size w)) (va_cpy (q_Pe_kind w) (q_Pe_kind (u_Pe_size z (q_Pe_size w))) 0 0 4))) 0 0 4))) 0 0 4)) (va_cpy (q_Pe_age w) (q_Pe_age (u_Pe_strength (u_Pe_v (u_Pe_kind (u_Pe_size z (q_Pe_size w)) (va_cpy (q_Pe_kind w) (q_Pe_kind (u_Pe_size z (q_Pe_size w))) 0 0 4)) (va_cpy (q_Pe_v w) (q_Pe_v (u_Pe_kind (u_Pe_size z (q_Pe_size w)) (va_cpy (q_Pe_kind w) (q_Pe_kind (u_Pe_size z (q_Pe_size w))) 0 0 4))) 0 0 4)) (va_cpy (q_Pe_strength w) (q_Pe_strength (u_Pe_v (u_Pe_kind (u_Pe_size z (q_Pe_size w)) (va_cpy (q_Pe_kind w) (q_Pe_kind (u_Pe_size z (q_Pe_size w))) 0 0 4)) (va_cpy (q_Pe_v w) (q_Pe_v (u_Pe_kind (u_Pe_size z (q_Pe_size w)) (va_cpy (q_Pe_kind w) (q_Pe_kind (u_Pe_size z (q_Pe_size w))) 0 0 4))) 0 0 4))) 0 0 4))) 0 0 4)) (va_cpy (q_Pe_rowSize w) (q_Pe_rowSize (u_Pe_age (u_Pe_strength (u_Pe_v (u_Pe_kind (u_Pe_size z (q_Pe_size w)) (va_cpy (q_Pe_kind w) (q_Pe_kind (u_Pe_size z (q_Pe_size w))) 0 0 4)) (va_cpy (q_Pe_v w) (q_Pe_v (u_Pe_kind (u_Pe_size z (q_Pe_size w)) (va_cpy (q_Pe_kind w) (q_Pe_kind (u_Pe_size z (q_Pe_size w))) 0 0 4))) 0 0 4)) (va_cpy (q_Pe_strength w) (q_Pe_strength (u_Pe_v (u_Pe_kind (u_Pe_size z (q_Pe_size w)) (va_cpy (q_Pe_kind w) (q_Pe_kind (u_Pe_size z (q_Pe_size w))) 0 0 4)) (va_cpy (q_Pe_v w) (q_Pe_v (u_Pe_kind (u_Pe_size z (q_Pe_size w)) (va_cpy (q_Pe_kind w) (q_Pe_kind (u_Pe_size z (q_Pe_size w))) 0 0 4))) 0 0 4))) 0 0 4)) (va_cpy (q_Pe_age w) (q_Pe_age (u_Pe_strength (u_Pe_v (u_Pe_kind (u_Pe_size z (q_Pe_size w)) (va_cpy (q_Pe_kind w) (q_Pe_kind (u_Pe_size z (q_Pe_size w))) 0 0 4)) (va_cpy (q_Pe_v w) (q_Pe_v (u_Pe_kind (u_Pe_size z (q_Pe_size w)) (va_cpy (q_Pe_kind w) (q_Pe_kind (u_Pe_size z (q_Pe_size w))) 0 0 4))) 0 0 4)) (va_cpy (q_Pe_strength w) (q_Pe_strength (u_Pe_v (u_Pe_kind (u_Pe_size z (q_Pe_size w)) (va_cpy (q_Pe_kind w) (q_Pe_kind (u_Pe_size z (q_Pe_size w))) 0 0 4)) (va_cpy (q_Pe_v w) (q_Pe_v (u_Pe_kind (u_Pe_size z (q_Pe_size w)) (va_cpy (q_Pe_kind w) (q_Pe_kind (u_Pe_size z (q_Pe_size w))) 0 0 4))) 0 0 4))) 0 0 4))) 0 0 4))) 0 0 4)) ++ ws_Pe g b w) := hD
  refine lv_iconst (v := 0) hx hb d_Pe_copyFrom_78 (by decide) ?_
  refine lv_istore_n (lv' := [(2, .int 0), (0, .ref (a 0)), (1, .ref (b 0))]) hx hb d_Pe_copyFrom_79 rfl hl (by decide) rfl (fun ls hl => ?_)
  have lp80 : ∀ (n : Nat) (x2_80 : Int32) (z_80 : T_Pe) (H : Heap) (locs : List Loc) (ls : Array Slot), va_P D classes (ws_Pe g a z_80 ++ ws_Pe g b w) H → va_D A (ws_Pe g a z_80 ++ ws_Pe g b w) → va_S A s.heap H locs → lv_has ls 3 [(0, .ref (a 0)), (1, .ref (b 0)), (2, .int x2_80)] → d_Pe_copyFrom_L80 w n x2_80 z_80 = some v → GV p l e s m ({ frames := 1, cells := 0, slots := 0, locals := 70 } : Room) ([.ref (a 0), .ref (b 0)] : List Value).toArray below meth c A D g (ws_Pe g a v ++ ws_Pe g b w) H locs (F0 m 80 ls []) := by
    intro n
    induction n with
    | zero =>
      intro  x2_80 z_80 H locs ls hP hD hS hl hd
      have hd : none = some v := hd
      cases hd
    | succ n ih80 =>
      intro  x2_80 z_80 H locs ls hP hD hS hl hd
      have hd : B_Pe_copyFrom_L80 w (d_Pe_copyFrom_L80 w n) x2_80 z_80 = some v := hd
      generalize d_Pe_copyFrom_L80 w n = self80 at ih80 hd
      unfold B_Pe_copyFrom_L80 at hd
      refine lv_iload_n hx hb d_Pe_copyFrom_80 rfl (lv_at hl 2 rfl) ?_
      refine lv_iconst (v := 4) hx hb d_Pe_copyFrom_81 (by decide) ?_
      refine lv_icmp_ge (tgt := 110) hx hb d_Pe_copyFrom_82 (by decide) (fun h_1 => ?_) (fun h_1 => ?_)
      · have hd := ite_t hd h_1
        obtain rfl := Option.some.inj hd
        exact retV hx hb hr hlk hK hP hD hS d_Pe_copyFrom_110
      · have hd := ite_f hd h_1
        refine lv_aload_n hx hb d_Pe_copyFrom_85 rfl (lv_at hl 1 rfl) ?_
        refine va_get (D := D) (ci := 5) (v := .ref (b 6)) (C := R_Pe) (T := F_Pe) (N := 7) hx hb hg i_Pe hown hK hP 11 rfl rfl 6 (by decide) (hg _ g_161) (fun _ h9 => h9) rfl d_Pe_copyFrom_86 ?_
        refine lv_iload_n hx hb d_Pe_copyFrom_89 rfl (lv_at hl 2 rfl) ?_
        obtain ⟨h_2, hd⟩ := ite_s hd
        refine aldA hx hb hK hP 17 rfl (inb_t h_2) d_Pe_copyFrom_90 ?_
        refine lv_iconst (v := 0) hx hb d_Pe_copyFrom_91 (by decide) ?_
        refine lv_aload_n hx hb d_Pe_copyFrom_92 rfl (lv_at hl 0 rfl) ?_
        refine va_get (D := D) (ci := 5) (v := .ref (a 6)) (C := R_Pe) (T := F_Pe) (N := 7) hx hb hg i_Pe hown hK hP 0 rfl rfl 6 (by decide) (hg _ g_161) (fun _ h9 => h9) rfl d_Pe_copyFrom_93 ?_
        refine lv_iload_n hx hb d_Pe_copyFrom_96 rfl (lv_at hl 2 rfl) ?_
        obtain ⟨h_3, hd⟩ := ite_s hd
        refine aldA hx hb hK hP 6 rfl (inb_t h_3) d_Pe_copyFrom_97 ?_
        refine lv_iconst (v := 0) hx hb d_Pe_copyFrom_98 (by decide) ?_
        refine lv_bipush (v := 7) hx hb d_Pe_copyFrom_99 (by decide) ?_
        have hset_4 := (show ∀ k, k < 4 → (ws_Pe g a z_80 ++ ws_Pe g b w).set (7 + k) (a (k + 7), .inl (g 0, 7, .inl (va_cpy ((q_Pe_rows w) x2_80.toNatClampNeg) ((q_Pe_rows z_80) x2_80.toNatClampNeg) 0 0 7))) = ws_Pe g a (u_Pe_rows z_80 (updR (q_Pe_rows z_80) k (va_cpy ((q_Pe_rows w) x2_80.toNatClampNeg) ((q_Pe_rows z_80) x2_80.toNatClampNeg) 0 0 7))) ++ ws_Pe g b w from fun k hk => match k, hk with | 0, _ => rfl | 1, _ => rfl | 2, _ => rfl | 3, _ => rfl | k + 4, hk => absurd hk (by omega)) _ (vp_lt (inb_t h_3))
        refine copyK (N := 7) hx hb (hml.trans hl.1.symm) hown (hg _ g_973) hg hK hP hD hS (18 + x2_80.toNatClampNeg) (7 + x2_80.toNatClampNeg) ((show ∀ k, k < 4 → (ws_Pe g a z_80 ++ ws_Pe g b w)[18 + k]? = some (b (k + 7), .inl (g 0, 7, .inl ((q_Pe_rows w) k))) from fun k hk => match k, hk with | 0, _ => rfl | 1, _ => rfl | 2, _ => rfl | 3, _ => rfl | k + 4, hk => absurd hk (by omega)) _ (vp_lt (inb_t h_2))) ((show ∀ k, k < 4 → (ws_Pe g a z_80 ++ ws_Pe g b w)[7 + k]? = some (a (k + 7), .inl (g 0, 7, .inl ((q_Pe_rows z_80) k))) from fun k hk => match k, hk with | 0, _ => rfl | 1, _ => rfl | 2, _ => rfl | 3, _ => rfl | k + 4, hk => absurd hk (by omega)) _ (vp_lt (inb_t h_3))) (by decide +kernel) (by decide) (by decide) (by decide) (Nat.le_of_ble_eq_true rfl) (Nat.le_of_ble_eq_true (by decide +kernel)) d_Pe_copyFrom_101 (fun H locs hP hD hS => ?_)
        rw [hset_4] at hP hD
        refine lv_iinc (v := x2_80 + 1) (lv' := [(2, .int (x2_80 + 1)), (0, .ref (a 0)), (1, .ref (b 0))]) hx hb d_Pe_copyFrom_104 hl (k := 2) rfl (by rfl) (by decide) rfl (fun ls hl => ?_)
        refine lv_goto (tgt := 80) hx hb d_Pe_copyFrom_107 (by decide) ?_
        exact ih80 (x2_80 + 1) (u_Pe_rows z_80 (updR (q_Pe_rows z_80) x2_80.toNatClampNeg (va_cpy ((q_Pe_rows w) x2_80.toNatClampNeg) ((q_Pe_rows z_80) x2_80.toNatClampNeg) 0 0 7))) _ _ _ hP hD hS (lv_sub hl [1, 2, 0] rfl) hd
  exact lp80 1000 0 (u_Pe_rowSize (u_Pe_age (u_Pe_strength (u_Pe_v (u_Pe_kind (u_Pe_size z (q_Pe_size w)) (va_cpy (q_Pe_kind w) (q_Pe_kind (u_Pe_size z (q_Pe_size w))) 0 0 4)) (va_cpy (q_Pe_v w) (q_Pe_v (u_Pe_kind (u_Pe_size z (q_Pe_size w)) (va_cpy (q_Pe_kind w) (q_Pe_kind (u_Pe_size z (q_Pe_size w))) 0 0 4))) 0 0 4)) (va_cpy (q_Pe_strength w) (q_Pe_strength (u_Pe_v (u_Pe_kind (u_Pe_size z (q_Pe_size w)) (va_cpy (q_Pe_kind w) (q_Pe_kind (u_Pe_size z (q_Pe_size w))) 0 0 4)) (va_cpy (q_Pe_v w) (q_Pe_v (u_Pe_kind (u_Pe_size z (q_Pe_size w)) (va_cpy (q_Pe_kind w) (q_Pe_kind (u_Pe_size z (q_Pe_size w))) 0 0 4))) 0 0 4))) 0 0 4)) (va_cpy (q_Pe_age w) (q_Pe_age (u_Pe_strength (u_Pe_v (u_Pe_kind (u_Pe_size z (q_Pe_size w)) (va_cpy (q_Pe_kind w) (q_Pe_kind (u_Pe_size z (q_Pe_size w))) 0 0 4)) (va_cpy (q_Pe_v w) (q_Pe_v (u_Pe_kind (u_Pe_size z (q_Pe_size w)) (va_cpy (q_Pe_kind w) (q_Pe_kind (u_Pe_size z (q_Pe_size w))) 0 0 4))) 0 0 4)) (va_cpy (q_Pe_strength w) (q_Pe_strength (u_Pe_v (u_Pe_kind (u_Pe_size z (q_Pe_size w)) (va_cpy (q_Pe_kind w) (q_Pe_kind (u_Pe_size z (q_Pe_size w))) 0 0 4)) (va_cpy (q_Pe_v w) (q_Pe_v (u_Pe_kind (u_Pe_size z (q_Pe_size w)) (va_cpy (q_Pe_kind w) (q_Pe_kind (u_Pe_size z (q_Pe_size w))) 0 0 4))) 0 0 4))) 0 0 4))) 0 0 4)) (va_cpy (q_Pe_rowSize w) (q_Pe_rowSize (u_Pe_age (u_Pe_strength (u_Pe_v (u_Pe_kind (u_Pe_size z (q_Pe_size w)) (va_cpy (q_Pe_kind w) (q_Pe_kind (u_Pe_size z (q_Pe_size w))) 0 0 4)) (va_cpy (q_Pe_v w) (q_Pe_v (u_Pe_kind (u_Pe_size z (q_Pe_size w)) (va_cpy (q_Pe_kind w) (q_Pe_kind (u_Pe_size z (q_Pe_size w))) 0 0 4))) 0 0 4)) (va_cpy (q_Pe_strength w) (q_Pe_strength (u_Pe_v (u_Pe_kind (u_Pe_size z (q_Pe_size w)) (va_cpy (q_Pe_kind w) (q_Pe_kind (u_Pe_size z (q_Pe_size w))) 0 0 4)) (va_cpy (q_Pe_v w) (q_Pe_v (u_Pe_kind (u_Pe_size z (q_Pe_size w)) (va_cpy (q_Pe_kind w) (q_Pe_kind (u_Pe_size z (q_Pe_size w))) 0 0 4))) 0 0 4))) 0 0 4)) (va_cpy (q_Pe_age w) (q_Pe_age (u_Pe_strength (u_Pe_v (u_Pe_kind (u_Pe_size z (q_Pe_size w)) (va_cpy (q_Pe_kind w) (q_Pe_kind (u_Pe_size z (q_Pe_size w))) 0 0 4)) (va_cpy (q_Pe_v w) (q_Pe_v (u_Pe_kind (u_Pe_size z (q_Pe_size w)) (va_cpy (q_Pe_kind w) (q_Pe_kind (u_Pe_size z (q_Pe_size w))) 0 0 4))) 0 0 4)) (va_cpy (q_Pe_strength w) (q_Pe_strength (u_Pe_v (u_Pe_kind (u_Pe_size z (q_Pe_size w)) (va_cpy (q_Pe_kind w) (q_Pe_kind (u_Pe_size z (q_Pe_size w))) 0 0 4)) (va_cpy (q_Pe_v w) (q_Pe_v (u_Pe_kind (u_Pe_size z (q_Pe_size w)) (va_cpy (q_Pe_kind w) (q_Pe_kind (u_Pe_size z (q_Pe_size w))) 0 0 4))) 0 0 4))) 0 0 4))) 0 0 4))) 0 0 4)) _ _ _ hP hD hS (lv_sub hl [1, 2, 0] rfl) hd
-- OwnsLift$Things.copyFrom(LOwnsLift$Things;)V
def d_Th_copyFrom (z : T_Th) (w : T_Th) : Option (T_Th) :=
  some ((u_Th_owner (u_Th_weight (u_Th_size z (q_Th_size w)) (va_cpy (q_Th_weight w) (q_Th_weight (u_Th_size z (q_Th_size w))) 0 0 7)) (va_cpy (q_Th_owner w) (q_Th_owner (u_Th_weight (u_Th_size z (q_Th_size w)) (va_cpy (q_Th_weight w) (q_Th_weight (u_Th_size z (q_Th_size w))) 0 0 7))) 0 0 7)))
theorem d_Th_copyFrom_0 : decode b_Th_copyFrom 0 = .ok (.aload_n 0, 1) := by decide +kernel
theorem d_Th_copyFrom_1 : decode b_Th_copyFrom 1 = .ok (.aload_n 1, 1) := by decide +kernel
theorem d_Th_copyFrom_2 : decode b_Th_copyFrom 2 = .ok (.getfield 18, 3) := by decide +kernel
theorem d_Th_copyFrom_5 : decode b_Th_copyFrom 5 = .ok (.putfield 18, 3) := by decide +kernel
theorem d_Th_copyFrom_8 : decode b_Th_copyFrom 8 = .ok (.aload_n 1, 1) := by decide +kernel
theorem d_Th_copyFrom_9 : decode b_Th_copyFrom 9 = .ok (.getfield 9, 3) := by decide +kernel
theorem d_Th_copyFrom_12 : decode b_Th_copyFrom 12 = .ok (.iconst 0, 1) := by decide +kernel
theorem d_Th_copyFrom_13 : decode b_Th_copyFrom 13 = .ok (.aload_n 0, 1) := by decide +kernel
theorem d_Th_copyFrom_14 : decode b_Th_copyFrom 14 = .ok (.getfield 9, 3) := by decide +kernel
theorem d_Th_copyFrom_17 : decode b_Th_copyFrom 17 = .ok (.iconst 0, 1) := by decide +kernel
theorem d_Th_copyFrom_18 : decode b_Th_copyFrom 18 = .ok (.bipush 7, 2) := by decide +kernel
theorem d_Th_copyFrom_20 : decode b_Th_copyFrom 20 = .ok (.invokestatic 22, 3) := by decide +kernel
theorem d_Th_copyFrom_23 : decode b_Th_copyFrom 23 = .ok (.aload_n 1, 1) := by decide +kernel
theorem d_Th_copyFrom_24 : decode b_Th_copyFrom 24 = .ok (.getfield 15, 3) := by decide +kernel
theorem d_Th_copyFrom_27 : decode b_Th_copyFrom 27 = .ok (.iconst 0, 1) := by decide +kernel
theorem d_Th_copyFrom_28 : decode b_Th_copyFrom 28 = .ok (.aload_n 0, 1) := by decide +kernel
theorem d_Th_copyFrom_29 : decode b_Th_copyFrom 29 = .ok (.getfield 15, 3) := by decide +kernel
theorem d_Th_copyFrom_32 : decode b_Th_copyFrom 32 = .ok (.iconst 0, 1) := by decide +kernel
theorem d_Th_copyFrom_33 : decode b_Th_copyFrom 33 = .ok (.bipush 7, 2) := by decide +kernel
theorem d_Th_copyFrom_35 : decode b_Th_copyFrom 35 = .ok (.invokestatic 22, 3) := by decide +kernel
theorem d_Th_copyFrom_38 : decode b_Th_copyFrom 38 = .ok (.return_, 1) := by decide +kernel
theorem o_Th_copyFrom : OkV y_Th_copyFrom "OwnsLift$Things" b_Th_copyFrom 2 none 1 := ⟨⟨rfl, by decide +kernel, by decide +kernel, by decide +kernel⟩, g_975, g_976, g_75, g_977⟩
set_option maxHeartbeats 4000000 in
set_option maxRecDepth 100000 in
theorem c_Th_copyFrom (l : Launch) (D : va_G) (g : Nat → ClassId) (a : Nat → Nat) (b : Nat → Nat) (z : T_Th) (w : T_Th) (v : T_Th) (h : d_Th_copyFrom z w = some v) :
    MV l y_Th_copyFrom b_Th_copyFrom 2 ({ frames := 1, cells := 0, slots := 0, locals := 70 } : Room) D g [.ref (a 0), .ref (b 0)] (ws_Th g a z ++ ws_Th g b w) (ws_Th g a v ++ ws_Th g b w) := by
  have hd := h
  unfold d_Th_copyFrom at hd
  refine enterV rfl (Nat.le_of_ble_eq_true rfl) (fun p e s m below meth c A ls hx hb hml hr hown hg hlk hK hA hP hD hS hCs hl => ?_)
  have hown : s.vm.findClass "OwnsLift$Things" = some m.cls := hown
  have hl : lv_has ls 2 [(0, .ref (a 0)), (1, .ref (b 0))] := hl
  show GV p l e s m ({ frames := 1, cells := 0, slots := 0, locals := 70 } : Room) ([.ref (a 0), .ref (b 0)] : List Value).toArray below meth c A D g (ws_Th g a v ++ ws_Th g b w) s.heap [] (F0 m 0 ls [])
  refine lv_aload_n hx hb d_Th_copyFrom_0 rfl (lv_at hl 0 rfl) ?_
  refine lv_aload_n hx hb d_Th_copyFrom_1 rfl (lv_at hl 1 rfl) ?_
  refine va_get (D := D) (ci := 10) (v := .int (q_Th_size w)) (C := R_Th) (T := F_Th) (N := 3) hx hb hg i_Th hown hK hP 3 rfl rfl 0 (by decide) (hg _ g_184) (fun _ h9 => h9) rfl d_Th_copyFrom_2 ?_
  refine va_put (D := D) (ci := 10) (v := .int (q_Th_size w)) (ty := .int) (C := R_Th) (T := F_Th) (N := 3) hx hb hg i_Th t_Th t_Th_ok n_Th hown hK hP hD hS 0 rfl rfl 0 (by decide) (hg _ g_184) (fun _ h9 => h9) rfl (by decide +kernel) rfl rfl (Nat.le_of_ble_eq_true rfl) d_Th_copyFrom_5 (fun H locs hP hD hS => ?_)
  have hP : va_P D classes (ws_Th g a (u_Th_size z (q_Th_size w)) ++ ws_Th g b w) H := hP
  have hD : va_D A (ws_Th g a (u_Th_size z (q_Th_size w)) ++ ws_Th g b w) := hD
  refine lv_aload_n hx hb d_Th_copyFrom_8 rfl (lv_at hl 1 rfl) ?_
  refine va_get (D := D) (ci := 10) (v := .ref (b 1)) (C := R_Th) (T := F_Th) (N := 3) hx hb hg i_Th hown hK hP 3 rfl rfl 1 (by decide) (hg _ g_188) (fun _ h9 => h9) rfl d_Th_copyFrom_9 ?_
  refine lv_iconst (v := 0) hx hb d_Th_copyFrom_12 (by decide) ?_
  refine lv_aload_n hx hb d_Th_copyFrom_13 rfl (lv_at hl 0 rfl) ?_
  refine va_get (D := D) (ci := 10) (v := .ref (a 1)) (C := R_Th) (T := F_Th) (N := 3) hx hb hg i_Th hown hK hP 0 rfl rfl 1 (by decide) (hg _ g_188) (fun _ h9 => h9) rfl d_Th_copyFrom_14 ?_
  refine lv_iconst (v := 0) hx hb d_Th_copyFrom_17 (by decide) ?_
  refine lv_bipush (v := 7) hx hb d_Th_copyFrom_18 (by decide) ?_
  refine copyK (N := 7) hx hb (hml.trans hl.1.symm) hown (hg _ g_978) hg hK hP hD hS 4 1 rfl rfl (by decide +kernel) (by decide +kernel) (by decide) (by decide) (Nat.le_of_ble_eq_true rfl) (Nat.le_of_ble_eq_true (by decide +kernel)) d_Th_copyFrom_20 (fun H locs hP hD hS => ?_)
  have hP : va_P D classes (ws_Th g a (u_Th_weight (u_Th_size z (q_Th_size w)) (va_cpy (q_Th_weight w) (q_Th_weight (u_Th_size z (q_Th_size w))) 0 0 7)) ++ ws_Th g b w) H := hP
  have hD : va_D A (ws_Th g a (u_Th_weight (u_Th_size z (q_Th_size w)) (va_cpy (q_Th_weight w) (q_Th_weight (u_Th_size z (q_Th_size w))) 0 0 7)) ++ ws_Th g b w) := hD
  refine lv_aload_n hx hb d_Th_copyFrom_23 rfl (lv_at hl 1 rfl) ?_
  refine va_get (D := D) (ci := 10) (v := .ref (b 2)) (C := R_Th) (T := F_Th) (N := 3) hx hb hg i_Th hown hK hP 3 rfl rfl 2 (by decide) (hg _ g_192) (fun _ h9 => h9) rfl d_Th_copyFrom_24 ?_
  refine lv_iconst (v := 0) hx hb d_Th_copyFrom_27 (by decide) ?_
  refine lv_aload_n hx hb d_Th_copyFrom_28 rfl (lv_at hl 0 rfl) ?_
  refine va_get (D := D) (ci := 10) (v := .ref (a 2)) (C := R_Th) (T := F_Th) (N := 3) hx hb hg i_Th hown hK hP 0 rfl rfl 2 (by decide) (hg _ g_192) (fun _ h9 => h9) rfl d_Th_copyFrom_29 ?_
  refine lv_iconst (v := 0) hx hb d_Th_copyFrom_32 (by decide) ?_
  refine lv_bipush (v := 7) hx hb d_Th_copyFrom_33 (by decide) ?_
  refine copyK (N := 7) hx hb (hml.trans hl.1.symm) hown (hg _ g_978) hg hK hP hD hS 5 2 rfl rfl (by decide +kernel) (by decide +kernel) (by decide) (by decide) (Nat.le_of_ble_eq_true rfl) (Nat.le_of_ble_eq_true (by decide +kernel)) d_Th_copyFrom_35 (fun H locs hP hD hS => ?_)
  have hP : va_P D classes (ws_Th g a (u_Th_owner (u_Th_weight (u_Th_size z (q_Th_size w)) (va_cpy (q_Th_weight w) (q_Th_weight (u_Th_size z (q_Th_size w))) 0 0 7)) (va_cpy (q_Th_owner w) (q_Th_owner (u_Th_weight (u_Th_size z (q_Th_size w)) (va_cpy (q_Th_weight w) (q_Th_weight (u_Th_size z (q_Th_size w))) 0 0 7))) 0 0 7)) ++ ws_Th g b w) H := hP
  have hD : va_D A (ws_Th g a (u_Th_owner (u_Th_weight (u_Th_size z (q_Th_size w)) (va_cpy (q_Th_weight w) (q_Th_weight (u_Th_size z (q_Th_size w))) 0 0 7)) (va_cpy (q_Th_owner w) (q_Th_owner (u_Th_weight (u_Th_size z (q_Th_size w)) (va_cpy (q_Th_weight w) (q_Th_weight (u_Th_size z (q_Th_size w))) 0 0 7))) 0 0 7)) ++ ws_Th g b w) := hD
  obtain rfl := Option.some.inj hd
  exact retV hx hb hr hlk hK hP hD hS d_Th_copyFrom_38

-- OwnsLift$Land.copyFrom(LOwnsLift$Land;)V
def d_La_copyFrom (z : T_La) (w : T_La) : Option (T_La) :=
  some ((u_La_code (u_La_end (u_La_n (u_La_word (u_La_codes (u_La_clauses z (q_La_clauses w)) (q_La_codes w)) (va_cpy (q_La_word w) (q_La_word (u_La_codes (u_La_clauses z (q_La_clauses w)) (q_La_codes w))) 0 0 10)) (va_cpy (q_La_n w) (q_La_n (u_La_word (u_La_codes (u_La_clauses z (q_La_clauses w)) (q_La_codes w)) (va_cpy (q_La_word w) (q_La_word (u_La_codes (u_La_clauses z (q_La_clauses w)) (q_La_codes w))) 0 0 10))) 0 0 10)) (va_cpy (q_La_end w) (q_La_end (u_La_n (u_La_word (u_La_codes (u_La_clauses z (q_La_clauses w)) (q_La_codes w)) (va_cpy (q_La_word w) (q_La_word (u_La_codes (u_La_clauses z (q_La_clauses w)) (q_La_codes w))) 0 0 10)) (va_cpy (q_La_n w) (q_La_n (u_La_word (u_La_codes (u_La_clauses z (q_La_clauses w)) (q_La_codes w)) (va_cpy (q_La_word w) (q_La_word (u_La_codes (u_La_clauses z (q_La_clauses w)) (q_La_codes w))) 0 0 10))) 0 0 10))) 0 0 10)) (va_cpy (q_La_code w) (q_La_code (u_La_end (u_La_n (u_La_word (u_La_codes (u_La_clauses z (q_La_clauses w)) (q_La_codes w)) (va_cpy (q_La_word w) (q_La_word (u_La_codes (u_La_clauses z (q_La_clauses w)) (q_La_codes w))) 0 0 10)) (va_cpy (q_La_n w) (q_La_n (u_La_word (u_La_codes (u_La_clauses z (q_La_clauses w)) (q_La_codes w)) (va_cpy (q_La_word w) (q_La_word (u_La_codes (u_La_clauses z (q_La_clauses w)) (q_La_codes w))) 0 0 10))) 0 0 10)) (va_cpy (q_La_end w) (q_La_end (u_La_n (u_La_word (u_La_codes (u_La_clauses z (q_La_clauses w)) (q_La_codes w)) (va_cpy (q_La_word w) (q_La_word (u_La_codes (u_La_clauses z (q_La_clauses w)) (q_La_codes w))) 0 0 10)) (va_cpy (q_La_n w) (q_La_n (u_La_word (u_La_codes (u_La_clauses z (q_La_clauses w)) (q_La_codes w)) (va_cpy (q_La_word w) (q_La_word (u_La_codes (u_La_clauses z (q_La_clauses w)) (q_La_codes w))) 0 0 10))) 0 0 10))) 0 0 10))) 0 0 100)))
theorem d_La_copyFrom_0 : decode b_La_copyFrom 0 = .ok (.aload_n 0, 1) := by decide +kernel
theorem d_La_copyFrom_1 : decode b_La_copyFrom 1 = .ok (.aload_n 1, 1) := by decide +kernel
theorem d_La_copyFrom_2 : decode b_La_copyFrom 2 = .ok (.getfield 24, 3) := by decide +kernel
theorem d_La_copyFrom_5 : decode b_La_copyFrom 5 = .ok (.putfield 24, 3) := by decide +kernel
theorem d_La_copyFrom_8 : decode b_La_copyFrom 8 = .ok (.aload_n 0, 1) := by decide +kernel
theorem d_La_copyFrom_9 : decode b_La_copyFrom 9 = .ok (.aload_n 1, 1) := by decide +kernel
theorem d_La_copyFrom_10 : decode b_La_copyFrom 10 = .ok (.getfield 28, 3) := by decide +kernel
theorem d_La_copyFrom_13 : decode b_La_copyFrom 13 = .ok (.putfield 28, 3) := by decide +kernel
theorem d_La_copyFrom_16 : decode b_La_copyFrom 16 = .ok (.aload_n 1, 1) := by decide +kernel
theorem d_La_copyFrom_17 : decode b_La_copyFrom 17 = .ok (.getfield 9, 3) := by decide +kernel
theorem d_La_copyFrom_20 : decode b_La_copyFrom 20 = .ok (.iconst 0, 1) := by decide +kernel
theorem d_La_copyFrom_21 : decode b_La_copyFrom 21 = .ok (.aload_n 0, 1) := by decide +kernel
theorem d_La_copyFrom_22 : decode b_La_copyFrom 22 = .ok (.getfield 9, 3) := by decide +kernel
theorem d_La_copyFrom_25 : decode b_La_copyFrom 25 = .ok (.iconst 0, 1) := by decide +kernel
theorem d_La_copyFrom_26 : decode b_La_copyFrom 26 = .ok (.bipush 10, 2) := by decide +kernel
theorem d_La_copyFrom_28 : decode b_La_copyFrom 28 = .ok (.invokestatic 39, 3) := by decide +kernel
theorem d_La_copyFrom_31 : decode b_La_copyFrom 31 = .ok (.aload_n 1, 1) := by decide +kernel
theorem d_La_copyFrom_32 : decode b_La_copyFrom 32 = .ok (.getfield 15, 3) := by decide +kernel
theorem d_La_copyFrom_35 : decode b_La_copyFrom 35 = .ok (.iconst 0, 1) := by decide +kernel
theorem d_La_copyFrom_36 : decode b_La_copyFrom 36 = .ok (.aload_n 0, 1) := by decide +kernel
theorem d_La_copyFrom_37 : decode b_La_copyFrom 37 = .ok (.getfield 15, 3) := by decide +kernel
theorem d_La_copyFrom_40 : decode b_La_copyFrom 40 = .ok (.iconst 0, 1) := by decide +kernel
theorem d_La_copyFrom_41 : decode b_La_copyFrom 41 = .ok (.bipush 10, 2) := by decide +kernel
theorem d_La_copyFrom_43 : decode b_La_copyFrom 43 = .ok (.invokestatic 39, 3) := by decide +kernel
theorem d_La_copyFrom_46 : decode b_La_copyFrom 46 = .ok (.aload_n 1, 1) := by decide +kernel
theorem d_La_copyFrom_47 : decode b_La_copyFrom 47 = .ok (.getfield 18, 3) := by decide +kernel
theorem d_La_copyFrom_50 : decode b_La_copyFrom 50 = .ok (.iconst 0, 1) := by decide +kernel
theorem d_La_copyFrom_51 : decode b_La_copyFrom 51 = .ok (.aload_n 0, 1) := by decide +kernel
theorem d_La_copyFrom_52 : decode b_La_copyFrom 52 = .ok (.getfield 18, 3) := by decide +kernel
theorem d_La_copyFrom_55 : decode b_La_copyFrom 55 = .ok (.iconst 0, 1) := by decide +kernel
theorem d_La_copyFrom_56 : decode b_La_copyFrom 56 = .ok (.bipush 10, 2) := by decide +kernel
theorem d_La_copyFrom_58 : decode b_La_copyFrom 58 = .ok (.invokestatic 39, 3) := by decide +kernel
theorem d_La_copyFrom_61 : decode b_La_copyFrom 61 = .ok (.aload_n 1, 1) := by decide +kernel
theorem d_La_copyFrom_62 : decode b_La_copyFrom 62 = .ok (.getfield 21, 3) := by decide +kernel
theorem d_La_copyFrom_65 : decode b_La_copyFrom 65 = .ok (.iconst 0, 1) := by decide +kernel
theorem d_La_copyFrom_66 : decode b_La_copyFrom 66 = .ok (.aload_n 0, 1) := by decide +kernel
theorem d_La_copyFrom_67 : decode b_La_copyFrom 67 = .ok (.getfield 21, 3) := by decide +kernel
theorem d_La_copyFrom_70 : decode b_La_copyFrom 70 = .ok (.iconst 0, 1) := by decide +kernel
theorem d_La_copyFrom_71 : decode b_La_copyFrom 71 = .ok (.bipush 100, 2) := by decide +kernel
theorem d_La_copyFrom_73 : decode b_La_copyFrom 73 = .ok (.invokestatic 39, 3) := by decide +kernel
theorem d_La_copyFrom_76 : decode b_La_copyFrom 76 = .ok (.return_, 1) := by decide +kernel
theorem o_La_copyFrom : OkV y_La_copyFrom "OwnsLift$Land" b_La_copyFrom 2 none 1 := ⟨⟨rfl, by decide +kernel, by decide +kernel, by decide +kernel⟩, g_606, g_607, g_73, g_608⟩
set_option maxHeartbeats 4000000 in
set_option maxRecDepth 100000 in
theorem c_La_copyFrom (l : Launch) (D : va_G) (g : Nat → ClassId) (a : Nat → Nat) (b : Nat → Nat) (z : T_La) (w : T_La) (v : T_La) (h : d_La_copyFrom z w = some v) :
    MV l y_La_copyFrom b_La_copyFrom 2 ({ frames := 1, cells := 0, slots := 0, locals := 70 } : Room) D g [.ref (a 0), .ref (b 0)] (ws_La g a z ++ ws_La g b w) (ws_La g a v ++ ws_La g b w) := by
  have hd := h
  unfold d_La_copyFrom at hd
  refine enterV rfl (Nat.le_of_ble_eq_true rfl) (fun p e s m below meth c A ls hx hb hml hr hown hg hlk hK hA hP hD hS hCs hl => ?_)
  have hown : s.vm.findClass "OwnsLift$Land" = some m.cls := hown
  have hl : lv_has ls 2 [(0, .ref (a 0)), (1, .ref (b 0))] := hl
  show GV p l e s m ({ frames := 1, cells := 0, slots := 0, locals := 70 } : Room) ([.ref (a 0), .ref (b 0)] : List Value).toArray below meth c A D g (ws_La g a v ++ ws_La g b w) s.heap [] (F0 m 0 ls [])
  refine lv_aload_n hx hb d_La_copyFrom_0 rfl (lv_at hl 0 rfl) ?_
  refine lv_aload_n hx hb d_La_copyFrom_1 rfl (lv_at hl 1 rfl) ?_
  refine va_get (D := D) (ci := 4) (v := .int (q_La_clauses w)) (C := R_La) (T := F_La) (N := 6) hx hb hg i_La hown hK hP 5 rfl rfl 0 (by decide) (hg _ g_111) (fun _ h9 => h9) rfl d_La_copyFrom_2 ?_
  refine va_put (D := D) (ci := 4) (v := .int (q_La_clauses w)) (ty := .int) (C := R_La) (T := F_La) (N := 6) hx hb hg i_La t_La t_La_ok n_La hown hK hP hD hS 0 rfl rfl 0 (by decide) (hg _ g_111) (fun _ h9 => h9) rfl (by decide +kernel) rfl rfl (Nat.le_of_ble_eq_true rfl) d_La_copyFrom_5 (fun H locs hP hD hS => ?_)
  have hP : va_P D classes (ws_La g a (u_La_clauses z (q_La_clauses w)) ++ ws_La g b w) H := hP
  have hD : va_D A (ws_La g a (u_La_clauses z (q_La_clauses w)) ++ ws_La g b w) := hD
  refine lv_aload_n hx hb d_La_copyFrom_8 rfl (lv_at hl 0 rfl) ?_
  refine lv_aload_n hx hb d_La_copyFrom_9 rfl (lv_at hl 1 rfl) ?_
  refine va_get (D := D) (ci := 4) (v := .int (q_La_codes w)) (C := R_La) (T := F_La) (N := 6) hx hb hg i_La hown hK hP 5 rfl rfl 5 (by decide) (hg _ g_116) (fun _ h9 => h9) rfl d_La_copyFrom_10 ?_
  refine va_put (D := D) (ci := 4) (v := .int (q_La_codes w)) (ty := .int) (C := R_La) (T := F_La) (N := 6) hx hb hg i_La t_La t_La_ok n_La hown hK hP hD hS 0 rfl rfl 5 (by decide) (hg _ g_116) (fun _ h9 => h9) rfl (by decide +kernel) rfl rfl (Nat.le_of_ble_eq_true rfl) d_La_copyFrom_13 (fun H locs hP hD hS => ?_)
  have hP : va_P D classes (ws_La g a (u_La_codes (u_La_clauses z (q_La_clauses w)) (q_La_codes w)) ++ ws_La g b w) H := hP
  have hD : va_D A (ws_La g a (u_La_codes (u_La_clauses z (q_La_clauses w)) (q_La_codes w)) ++ ws_La g b w) := hD
  refine lv_aload_n hx hb d_La_copyFrom_16 rfl (lv_at hl 1 rfl) ?_
  refine va_get (D := D) (ci := 4) (v := .ref (b 1)) (C := R_La) (T := F_La) (N := 6) hx hb hg i_La hown hK hP 5 rfl rfl 1 (by decide) (hg _ g_112) (fun _ h9 => h9) rfl d_La_copyFrom_17 ?_
  refine lv_iconst (v := 0) hx hb d_La_copyFrom_20 (by decide) ?_
  refine lv_aload_n hx hb d_La_copyFrom_21 rfl (lv_at hl 0 rfl) ?_
  refine va_get (D := D) (ci := 4) (v := .ref (a 1)) (C := R_La) (T := F_La) (N := 6) hx hb hg i_La hown hK hP 0 rfl rfl 1 (by decide) (hg _ g_112) (fun _ h9 => h9) rfl d_La_copyFrom_22 ?_
  refine lv_iconst (v := 0) hx hb d_La_copyFrom_25 (by decide) ?_
  refine lv_bipush (v := 10) hx hb d_La_copyFrom_26 (by decide) ?_
  refine copyK (N := 10) hx hb (hml.trans hl.1.symm) hown (hg _ g_609) hg hK hP hD hS 6 1 rfl rfl (by decide +kernel) (by decide +kernel) (by decide) (by decide) (Nat.le_of_ble_eq_true rfl) (Nat.le_of_ble_eq_true (by decide +kernel)) d_La_copyFrom_28 (fun H locs hP hD hS => ?_)
  have hP : va_P D classes (ws_La g a (u_La_word (u_La_codes (u_La_clauses z (q_La_clauses w)) (q_La_codes w)) (va_cpy (q_La_word w) (q_La_word (u_La_codes (u_La_clauses z (q_La_clauses w)) (q_La_codes w))) 0 0 10)) ++ ws_La g b w) H := hP
  have hD : va_D A (ws_La g a (u_La_word (u_La_codes (u_La_clauses z (q_La_clauses w)) (q_La_codes w)) (va_cpy (q_La_word w) (q_La_word (u_La_codes (u_La_clauses z (q_La_clauses w)) (q_La_codes w))) 0 0 10)) ++ ws_La g b w) := hD
  refine lv_aload_n hx hb d_La_copyFrom_31 rfl (lv_at hl 1 rfl) ?_
  refine va_get (D := D) (ci := 4) (v := .ref (b 2)) (C := R_La) (T := F_La) (N := 6) hx hb hg i_La hown hK hP 5 rfl rfl 2 (by decide) (hg _ g_113) (fun _ h9 => h9) rfl d_La_copyFrom_32 ?_
  refine lv_iconst (v := 0) hx hb d_La_copyFrom_35 (by decide) ?_
  refine lv_aload_n hx hb d_La_copyFrom_36 rfl (lv_at hl 0 rfl) ?_
  refine va_get (D := D) (ci := 4) (v := .ref (a 2)) (C := R_La) (T := F_La) (N := 6) hx hb hg i_La hown hK hP 0 rfl rfl 2 (by decide) (hg _ g_113) (fun _ h9 => h9) rfl d_La_copyFrom_37 ?_
  refine lv_iconst (v := 0) hx hb d_La_copyFrom_40 (by decide) ?_
  refine lv_bipush (v := 10) hx hb d_La_copyFrom_41 (by decide) ?_
  refine copyK (N := 10) hx hb (hml.trans hl.1.symm) hown (hg _ g_609) hg hK hP hD hS 7 2 rfl rfl (by decide +kernel) (by decide +kernel) (by decide) (by decide) (Nat.le_of_ble_eq_true rfl) (Nat.le_of_ble_eq_true (by decide +kernel)) d_La_copyFrom_43 (fun H locs hP hD hS => ?_)
  have hP : va_P D classes (ws_La g a (u_La_n (u_La_word (u_La_codes (u_La_clauses z (q_La_clauses w)) (q_La_codes w)) (va_cpy (q_La_word w) (q_La_word (u_La_codes (u_La_clauses z (q_La_clauses w)) (q_La_codes w))) 0 0 10)) (va_cpy (q_La_n w) (q_La_n (u_La_word (u_La_codes (u_La_clauses z (q_La_clauses w)) (q_La_codes w)) (va_cpy (q_La_word w) (q_La_word (u_La_codes (u_La_clauses z (q_La_clauses w)) (q_La_codes w))) 0 0 10))) 0 0 10)) ++ ws_La g b w) H := hP
  have hD : va_D A (ws_La g a (u_La_n (u_La_word (u_La_codes (u_La_clauses z (q_La_clauses w)) (q_La_codes w)) (va_cpy (q_La_word w) (q_La_word (u_La_codes (u_La_clauses z (q_La_clauses w)) (q_La_codes w))) 0 0 10)) (va_cpy (q_La_n w) (q_La_n (u_La_word (u_La_codes (u_La_clauses z (q_La_clauses w)) (q_La_codes w)) (va_cpy (q_La_word w) (q_La_word (u_La_codes (u_La_clauses z (q_La_clauses w)) (q_La_codes w))) 0 0 10))) 0 0 10)) ++ ws_La g b w) := hD
  refine lv_aload_n hx hb d_La_copyFrom_46 rfl (lv_at hl 1 rfl) ?_
  refine va_get (D := D) (ci := 4) (v := .ref (b 3)) (C := R_La) (T := F_La) (N := 6) hx hb hg i_La hown hK hP 5 rfl rfl 3 (by decide) (hg _ g_114) (fun _ h9 => h9) rfl d_La_copyFrom_47 ?_
  refine lv_iconst (v := 0) hx hb d_La_copyFrom_50 (by decide) ?_
  refine lv_aload_n hx hb d_La_copyFrom_51 rfl (lv_at hl 0 rfl) ?_
  refine va_get (D := D) (ci := 4) (v := .ref (a 3)) (C := R_La) (T := F_La) (N := 6) hx hb hg i_La hown hK hP 0 rfl rfl 3 (by decide) (hg _ g_114) (fun _ h9 => h9) rfl d_La_copyFrom_52 ?_
  refine lv_iconst (v := 0) hx hb d_La_copyFrom_55 (by decide) ?_
  refine lv_bipush (v := 10) hx hb d_La_copyFrom_56 (by decide) ?_
  refine copyK (N := 10) hx hb (hml.trans hl.1.symm) hown (hg _ g_609) hg hK hP hD hS 8 3 rfl rfl (by decide +kernel) (by decide +kernel) (by decide) (by decide) (Nat.le_of_ble_eq_true rfl) (Nat.le_of_ble_eq_true (by decide +kernel)) d_La_copyFrom_58 (fun H locs hP hD hS => ?_)
  have hP : va_P D classes (ws_La g a (u_La_end (u_La_n (u_La_word (u_La_codes (u_La_clauses z (q_La_clauses w)) (q_La_codes w)) (va_cpy (q_La_word w) (q_La_word (u_La_codes (u_La_clauses z (q_La_clauses w)) (q_La_codes w))) 0 0 10)) (va_cpy (q_La_n w) (q_La_n (u_La_word (u_La_codes (u_La_clauses z (q_La_clauses w)) (q_La_codes w)) (va_cpy (q_La_word w) (q_La_word (u_La_codes (u_La_clauses z (q_La_clauses w)) (q_La_codes w))) 0 0 10))) 0 0 10)) (va_cpy (q_La_end w) (q_La_end (u_La_n (u_La_word (u_La_codes (u_La_clauses z (q_La_clauses w)) (q_La_codes w)) (va_cpy (q_La_word w) (q_La_word (u_La_codes (u_La_clauses z (q_La_clauses w)) (q_La_codes w))) 0 0 10)) (va_cpy (q_La_n w) (q_La_n (u_La_word (u_La_codes (u_La_clauses z (q_La_clauses w)) (q_La_codes w)) (va_cpy (q_La_word w) (q_La_word (u_La_codes (u_La_clauses z (q_La_clauses w)) (q_La_codes w))) 0 0 10))) 0 0 10))) 0 0 10)) ++ ws_La g b w) H := hP
  have hD : va_D A (ws_La g a (u_La_end (u_La_n (u_La_word (u_La_codes (u_La_clauses z (q_La_clauses w)) (q_La_codes w)) (va_cpy (q_La_word w) (q_La_word (u_La_codes (u_La_clauses z (q_La_clauses w)) (q_La_codes w))) 0 0 10)) (va_cpy (q_La_n w) (q_La_n (u_La_word (u_La_codes (u_La_clauses z (q_La_clauses w)) (q_La_codes w)) (va_cpy (q_La_word w) (q_La_word (u_La_codes (u_La_clauses z (q_La_clauses w)) (q_La_codes w))) 0 0 10))) 0 0 10)) (va_cpy (q_La_end w) (q_La_end (u_La_n (u_La_word (u_La_codes (u_La_clauses z (q_La_clauses w)) (q_La_codes w)) (va_cpy (q_La_word w) (q_La_word (u_La_codes (u_La_clauses z (q_La_clauses w)) (q_La_codes w))) 0 0 10)) (va_cpy (q_La_n w) (q_La_n (u_La_word (u_La_codes (u_La_clauses z (q_La_clauses w)) (q_La_codes w)) (va_cpy (q_La_word w) (q_La_word (u_La_codes (u_La_clauses z (q_La_clauses w)) (q_La_codes w))) 0 0 10))) 0 0 10))) 0 0 10)) ++ ws_La g b w) := hD
  refine lv_aload_n hx hb d_La_copyFrom_61 rfl (lv_at hl 1 rfl) ?_
  refine va_get (D := D) (ci := 4) (v := .ref (b 4)) (C := R_La) (T := F_La) (N := 6) hx hb hg i_La hown hK hP 5 rfl rfl 4 (by decide) (hg _ g_115) (fun _ h9 => h9) rfl d_La_copyFrom_62 ?_
  refine lv_iconst (v := 0) hx hb d_La_copyFrom_65 (by decide) ?_
  refine lv_aload_n hx hb d_La_copyFrom_66 rfl (lv_at hl 0 rfl) ?_
  refine va_get (D := D) (ci := 4) (v := .ref (a 4)) (C := R_La) (T := F_La) (N := 6) hx hb hg i_La hown hK hP 0 rfl rfl 4 (by decide) (hg _ g_115) (fun _ h9 => h9) rfl d_La_copyFrom_67 ?_
  refine lv_iconst (v := 0) hx hb d_La_copyFrom_70 (by decide) ?_
  refine lv_bipush (v := 100) hx hb d_La_copyFrom_71 (by decide) ?_
  refine copyK (N := 100) hx hb (hml.trans hl.1.symm) hown (hg _ g_609) hg hK hP hD hS 9 4 rfl rfl (by decide +kernel) (by decide +kernel) (by decide) (by decide) (Nat.le_of_ble_eq_true rfl) (Nat.le_of_ble_eq_true (by decide +kernel)) d_La_copyFrom_73 (fun H locs hP hD hS => ?_)
  have hP : va_P D classes (ws_La g a (u_La_code (u_La_end (u_La_n (u_La_word (u_La_codes (u_La_clauses z (q_La_clauses w)) (q_La_codes w)) (va_cpy (q_La_word w) (q_La_word (u_La_codes (u_La_clauses z (q_La_clauses w)) (q_La_codes w))) 0 0 10)) (va_cpy (q_La_n w) (q_La_n (u_La_word (u_La_codes (u_La_clauses z (q_La_clauses w)) (q_La_codes w)) (va_cpy (q_La_word w) (q_La_word (u_La_codes (u_La_clauses z (q_La_clauses w)) (q_La_codes w))) 0 0 10))) 0 0 10)) (va_cpy (q_La_end w) (q_La_end (u_La_n (u_La_word (u_La_codes (u_La_clauses z (q_La_clauses w)) (q_La_codes w)) (va_cpy (q_La_word w) (q_La_word (u_La_codes (u_La_clauses z (q_La_clauses w)) (q_La_codes w))) 0 0 10)) (va_cpy (q_La_n w) (q_La_n (u_La_word (u_La_codes (u_La_clauses z (q_La_clauses w)) (q_La_codes w)) (va_cpy (q_La_word w) (q_La_word (u_La_codes (u_La_clauses z (q_La_clauses w)) (q_La_codes w))) 0 0 10))) 0 0 10))) 0 0 10)) (va_cpy (q_La_code w) (q_La_code (u_La_end (u_La_n (u_La_word (u_La_codes (u_La_clauses z (q_La_clauses w)) (q_La_codes w)) (va_cpy (q_La_word w) (q_La_word (u_La_codes (u_La_clauses z (q_La_clauses w)) (q_La_codes w))) 0 0 10)) (va_cpy (q_La_n w) (q_La_n (u_La_word (u_La_codes (u_La_clauses z (q_La_clauses w)) (q_La_codes w)) (va_cpy (q_La_word w) (q_La_word (u_La_codes (u_La_clauses z (q_La_clauses w)) (q_La_codes w))) 0 0 10))) 0 0 10)) (va_cpy (q_La_end w) (q_La_end (u_La_n (u_La_word (u_La_codes (u_La_clauses z (q_La_clauses w)) (q_La_codes w)) (va_cpy (q_La_word w) (q_La_word (u_La_codes (u_La_clauses z (q_La_clauses w)) (q_La_codes w))) 0 0 10)) (va_cpy (q_La_n w) (q_La_n (u_La_word (u_La_codes (u_La_clauses z (q_La_clauses w)) (q_La_codes w)) (va_cpy (q_La_word w) (q_La_word (u_La_codes (u_La_clauses z (q_La_clauses w)) (q_La_codes w))) 0 0 10))) 0 0 10))) 0 0 10))) 0 0 100)) ++ ws_La g b w) H := hP
  have hD : va_D A (ws_La g a (u_La_code (u_La_end (u_La_n (u_La_word (u_La_codes (u_La_clauses z (q_La_clauses w)) (q_La_codes w)) (va_cpy (q_La_word w) (q_La_word (u_La_codes (u_La_clauses z (q_La_clauses w)) (q_La_codes w))) 0 0 10)) (va_cpy (q_La_n w) (q_La_n (u_La_word (u_La_codes (u_La_clauses z (q_La_clauses w)) (q_La_codes w)) (va_cpy (q_La_word w) (q_La_word (u_La_codes (u_La_clauses z (q_La_clauses w)) (q_La_codes w))) 0 0 10))) 0 0 10)) (va_cpy (q_La_end w) (q_La_end (u_La_n (u_La_word (u_La_codes (u_La_clauses z (q_La_clauses w)) (q_La_codes w)) (va_cpy (q_La_word w) (q_La_word (u_La_codes (u_La_clauses z (q_La_clauses w)) (q_La_codes w))) 0 0 10)) (va_cpy (q_La_n w) (q_La_n (u_La_word (u_La_codes (u_La_clauses z (q_La_clauses w)) (q_La_codes w)) (va_cpy (q_La_word w) (q_La_word (u_La_codes (u_La_clauses z (q_La_clauses w)) (q_La_codes w))) 0 0 10))) 0 0 10))) 0 0 10)) (va_cpy (q_La_code w) (q_La_code (u_La_end (u_La_n (u_La_word (u_La_codes (u_La_clauses z (q_La_clauses w)) (q_La_codes w)) (va_cpy (q_La_word w) (q_La_word (u_La_codes (u_La_clauses z (q_La_clauses w)) (q_La_codes w))) 0 0 10)) (va_cpy (q_La_n w) (q_La_n (u_La_word (u_La_codes (u_La_clauses z (q_La_clauses w)) (q_La_codes w)) (va_cpy (q_La_word w) (q_La_word (u_La_codes (u_La_clauses z (q_La_clauses w)) (q_La_codes w))) 0 0 10))) 0 0 10)) (va_cpy (q_La_end w) (q_La_end (u_La_n (u_La_word (u_La_codes (u_La_clauses z (q_La_clauses w)) (q_La_codes w)) (va_cpy (q_La_word w) (q_La_word (u_La_codes (u_La_clauses z (q_La_clauses w)) (q_La_codes w))) 0 0 10)) (va_cpy (q_La_n w) (q_La_n (u_La_word (u_La_codes (u_La_clauses z (q_La_clauses w)) (q_La_codes w)) (va_cpy (q_La_word w) (q_La_word (u_La_codes (u_La_clauses z (q_La_clauses w)) (q_La_codes w))) 0 0 10))) 0 0 10))) 0 0 10))) 0 0 100)) ++ ws_La g b w) := hD
  obtain rfl := Option.some.inj hd
  exact retV hx hb hr hlk hK hP hD hS d_La_copyFrom_76
-- OwnsLift$Land.clear()V
def d_La_clear (z : T_La) : Option (T_La) :=
  some ((u_La_codes (u_La_clauses z 0) 0))
theorem d_La_clear_0 : decode b_La_clear 0 = .ok (.aload_n 0, 1) := by decide +kernel
theorem d_La_clear_1 : decode b_La_clear 1 = .ok (.iconst 0, 1) := by decide +kernel
theorem d_La_clear_2 : decode b_La_clear 2 = .ok (.putfield 24, 3) := by decide +kernel
theorem d_La_clear_5 : decode b_La_clear 5 = .ok (.aload_n 0, 1) := by decide +kernel
theorem d_La_clear_6 : decode b_La_clear 6 = .ok (.iconst 0, 1) := by decide +kernel
theorem d_La_clear_7 : decode b_La_clear 7 = .ok (.putfield 28, 3) := by decide +kernel
theorem d_La_clear_10 : decode b_La_clear 10 = .ok (.return_, 1) := by decide +kernel
theorem o_La_clear : OkV y_La_clear "OwnsLift$Land" b_La_clear 1 none 0 := ⟨⟨rfl, by decide +kernel, by decide +kernel, by decide +kernel⟩, g_437, g_438, g_73, g_439⟩
set_option maxHeartbeats 4000000 in
set_option maxRecDepth 100000 in
theorem c_La_clear (l : Launch) (D : va_G) (g : Nat → ClassId) (a : Nat → Nat) (z : T_La) (v : T_La) (h : d_La_clear z = some v) :
    MV l y_La_clear b_La_clear 1 ({ frames := 0, cells := 0, slots := 0, locals := 0 } : Room) D g [.ref (a 0)] (ws_La g a z) (ws_La g a v) := by
  have hd := h
  unfold d_La_clear at hd
  refine enterV rfl (Nat.le_of_ble_eq_true rfl) (fun p e s m below meth c A ls hx hb hml hr hown hg hlk hK hA hP hD hS hCs hl => ?_)
  have hown : s.vm.findClass "OwnsLift$Land" = some m.cls := hown
  have hl : lv_has ls 1 [(0, .ref (a 0))] := hl
  show GV p l e s m ({ frames := 0, cells := 0, slots := 0, locals := 0 } : Room) ([.ref (a 0)] : List Value).toArray below meth c A D g (ws_La g a v) s.heap [] (F0 m 0 ls [])
  refine lv_aload_n hx hb d_La_clear_0 rfl (lv_at hl 0 rfl) ?_
  refine lv_iconst (v := 0) hx hb d_La_clear_1 (by decide) ?_
  refine va_put (D := D) (ci := 4) (v := .int 0) (ty := .int) (C := R_La) (T := F_La) (N := 6) hx hb hg i_La t_La t_La_ok n_La hown hK hP hD hS 0 rfl rfl 0 (by decide) (hg _ g_111) (fun _ h9 => h9) rfl (by decide +kernel) rfl rfl (Nat.le_of_ble_eq_true rfl) d_La_clear_2 (fun H locs hP hD hS => ?_)
  have hP : va_P D classes (ws_La g a (u_La_clauses z 0)) H := hP
  have hD : va_D A (ws_La g a (u_La_clauses z 0)) := hD
  refine lv_aload_n hx hb d_La_clear_5 rfl (lv_at hl 0 rfl) ?_
  refine lv_iconst (v := 0) hx hb d_La_clear_6 (by decide) ?_
  refine va_put (D := D) (ci := 4) (v := .int 0) (ty := .int) (C := R_La) (T := F_La) (N := 6) hx hb hg i_La t_La t_La_ok n_La hown hK hP hD hS 0 rfl rfl 5 (by decide) (hg _ g_116) (fun _ h9 => h9) rfl (by decide +kernel) rfl rfl (Nat.le_of_ble_eq_true rfl) d_La_clear_7 (fun H locs hP hD hS => ?_)
  have hP : va_P D classes (ws_La g a (u_La_codes (u_La_clauses z 0) 0)) H := hP
  have hD : va_D A (ws_La g a (u_La_codes (u_La_clauses z 0) 0)) := hD
  obtain rfl := Option.some.inj hd
  exact retV hx hb hr hlk hK hP hD hS d_La_clear_10
-- OwnsLift$Land.close(II)V
def d_La_close (x1 : Int32) (x2 : Int32) (z : T_La) : Option (T_La) :=
  if 10 ≤ (q_La_clauses z) then (some (z)) else (if inb (q_La_clauses z) 10 = true then (if inb (q_La_clauses (u_La_word z (upd (q_La_word z) (q_La_clauses z).toNatClampNeg x1))) 10 = true then (if inb (q_La_clauses (u_La_n (u_La_word z (upd (q_La_word z) (q_La_clauses z).toNatClampNeg x1)) (upd (q_La_n (u_La_word z (upd (q_La_word z) (q_La_clauses z).toNatClampNeg x1))) (q_La_clauses (u_La_word z (upd (q_La_word z) (q_La_clauses z).toNatClampNeg x1))).toNatClampNeg x2))) 10 = true then (some ((u_La_clauses (u_La_end (u_La_n (u_La_word z (upd (q_La_word z) (q_La_clauses z).toNatClampNeg x1)) (upd (q_La_n (u_La_word z (upd (q_La_word z) (q_La_clauses z).toNatClampNeg x1))) (q_La_clauses (u_La_word z (upd (q_La_word z) (q_La_clauses z).toNatClampNeg x1))).toNatClampNeg x2)) (upd (q_La_end (u_La_n (u_La_word z (upd (q_La_word z) (q_La_clauses z).toNatClampNeg x1)) (upd (q_La_n (u_La_word z (upd (q_La_word z) (q_La_clauses z).toNatClampNeg x1))) (q_La_clauses (u_La_word z (upd (q_La_word z) (q_La_clauses z).toNatClampNeg x1))).toNatClampNeg x2))) (q_La_clauses (u_La_n (u_La_word z (upd (q_La_word z) (q_La_clauses z).toNatClampNeg x1)) (upd (q_La_n (u_La_word z (upd (q_La_word z) (q_La_clauses z).toNatClampNeg x1))) (q_La_clauses (u_La_word z (upd (q_La_word z) (q_La_clauses z).toNatClampNeg x1))).toNatClampNeg x2))).toNatClampNeg (q_La_codes (u_La_n (u_La_word z (upd (q_La_word z) (q_La_clauses z).toNatClampNeg x1)) (upd (q_La_n (u_La_word z (upd (q_La_word z) (q_La_clauses z).toNatClampNeg x1))) (q_La_clauses (u_La_word z (upd (q_La_word z) (q_La_clauses z).toNatClampNeg x1))).toNatClampNeg x2))))) ((q_La_clauses (u_La_end (u_La_n (u_La_word z (upd (q_La_word z) (q_La_clauses z).toNatClampNeg x1)) (upd (q_La_n (u_La_word z (upd (q_La_word z) (q_La_clauses z).toNatClampNeg x1))) (q_La_clauses (u_La_word z (upd (q_La_word z) (q_La_clauses z).toNatClampNeg x1))).toNatClampNeg x2)) (upd (q_La_end (u_La_n (u_La_word z (upd (q_La_word z) (q_La_clauses z).toNatClampNeg x1)) (upd (q_La_n (u_La_word z (upd (q_La_word z) (q_La_clauses z).toNatClampNeg x1))) (q_La_clauses (u_La_word z (upd (q_La_word z) (q_La_clauses z).toNatClampNeg x1))).toNatClampNeg x2))) (q_La_clauses (u_La_n (u_La_word z (upd (q_La_word z) (q_La_clauses z).toNatClampNeg x1)) (upd (q_La_n (u_La_word z (upd (q_La_word z) (q_La_clauses z).toNatClampNeg x1))) (q_La_clauses (u_La_word z (upd (q_La_word z) (q_La_clauses z).toNatClampNeg x1))).toNatClampNeg x2))).toNatClampNeg (q_La_codes (u_La_n (u_La_word z (upd (q_La_word z) (q_La_clauses z).toNatClampNeg x1)) (upd (q_La_n (u_La_word z (upd (q_La_word z) (q_La_clauses z).toNatClampNeg x1))) (q_La_clauses (u_La_word z (upd (q_La_word z) (q_La_clauses z).toNatClampNeg x1))).toNatClampNeg x2)))))) + 1)))) else none) else none) else none)
theorem d_La_close_0 : decode b_La_close 0 = .ok (.aload_n 0, 1) := by decide +kernel
theorem d_La_close_1 : decode b_La_close 1 = .ok (.getfield 24, 3) := by decide +kernel
theorem d_La_close_4 : decode b_La_close 4 = .ok (.bipush 10, 2) := by decide +kernel
theorem d_La_close_6 : decode b_La_close 6 = .ok (.if_icmp .ge 46, 3) := by decide +kernel
theorem d_La_close_9 : decode b_La_close 9 = .ok (.aload_n 0, 1) := by decide +kernel
theorem d_La_close_10 : decode b_La_close 10 = .ok (.getfield 9, 3) := by decide +kernel
theorem d_La_close_13 : decode b_La_close 13 = .ok (.aload_n 0, 1) := by decide +kernel
theorem d_La_close_14 : decode b_La_close 14 = .ok (.getfield 24, 3) := by decide +kernel
theorem d_La_close_17 : decode b_La_close 17 = .ok (.iload_n 1, 1) := by decide +kernel
theorem d_La_close_18 : decode b_La_close 18 = .ok (.iastore, 1) := by decide +kernel
theorem d_La_close_19 : decode b_La_close 19 = .ok (.aload_n 0, 1) := by decide +kernel
theorem d_La_close_20 : decode b_La_close 20 = .ok (.getfield 15, 3) := by decide +kernel
theorem d_La_close_23 : decode b_La_close 23 = .ok (.aload_n 0, 1) := by decide +kernel
theorem d_La_close_24 : decode b_La_close 24 = .ok (.getfield 24, 3) := by decide +kernel
theorem d_La_close_27 : decode b_La_close 27 = .ok (.iload_n 2, 1) := by decide +kernel
theorem d_La_close_28 : decode b_La_close 28 = .ok (.iastore, 1) := by decide +kernel
theorem d_La_close_29 : decode b_La_close 29 = .ok (.aload_n 0, 1) := by decide +kernel
theorem d_La_close_30 : decode b_La_close 30 = .ok (.getfield 18, 3) := by decide +kernel
theorem d_La_close_33 : decode b_La_close 33 = .ok (.aload_n 0, 1) := by decide +kernel
theorem d_La_close_34 : decode b_La_close 34 = .ok (.getfield 24, 3) := by decide +kernel
theorem d_La_close_37 : decode b_La_close 37 = .ok (.aload_n 0, 1) := by decide +kernel
theorem d_La_close_38 : decode b_La_close 38 = .ok (.getfield 28, 3) := by decide +kernel
theorem d_La_close_41 : decode b_La_close 41 = .ok (.iastore, 1) := by decide +kernel
theorem d_La_close_42 : decode b_La_close 42 = .ok (.aload_n 0, 1) := by decide +kernel
theorem d_La_close_43 : decode b_La_close 43 = .ok (.dup, 1) := by decide +kernel
theorem d_La_close_44 : decode b_La_close 44 = .ok (.getfield 24, 3) := by decide +kernel
theorem d_La_close_47 : decode b_La_close 47 = .ok (.iconst 1, 1) := by decide +kernel
theorem d_La_close_48 : decode b_La_close 48 = .ok (.iadd, 1) := by decide +kernel
theorem d_La_close_49 : decode b_La_close 49 = .ok (.putfield 24, 3) := by decide +kernel
theorem d_La_close_52 : decode b_La_close 52 = .ok (.return_, 1) := by decide +kernel
theorem o_La_close : OkV y_La_close "OwnsLift$Land" b_La_close 3 none 2 := ⟨⟨rfl, by decide +kernel, by decide +kernel, by decide +kernel⟩, g_602, g_603, g_73, g_604⟩
set_option maxHeartbeats 4000000 in
set_option maxRecDepth 100000 in
theorem c_La_close (l : Launch) (D : va_G) (g : Nat → ClassId) (a : Nat → Nat) (x1 : Int32) (x2 : Int32) (z : T_La) (v : T_La) (h : d_La_close x1 x2 z = some v) :
    MV l y_La_close b_La_close 3 ({ frames := 0, cells := 0, slots := 0, locals := 0 } : Room) D g [.ref (a 0), .int x1, .int x2] (ws_La g a z) (ws_La g a v) := by
  have hd := h
  unfold d_La_close at hd
  refine enterV rfl (Nat.le_of_ble_eq_true rfl) (fun p e s m below meth c A ls hx hb hml hr hown hg hlk hK hA hP hD hS hCs hl => ?_)
  have hown : s.vm.findClass "OwnsLift$Land" = some m.cls := hown
  have hl : lv_has ls 3 [(0, .ref (a 0)), (1, .int x1), (2, .int x2)] := hl
  show GV p l e s m ({ frames := 0, cells := 0, slots := 0, locals := 0 } : Room) ([.ref (a 0), .int x1, .int x2] : List Value).toArray below meth c A D g (ws_La g a v) s.heap [] (F0 m 0 ls [])
  refine lv_aload_n hx hb d_La_close_0 rfl (lv_at hl 0 rfl) ?_
  refine va_get (D := D) (ci := 4) (v := .int (q_La_clauses z)) (C := R_La) (T := F_La) (N := 6) hx hb hg i_La hown hK hP 0 rfl rfl 0 (by decide) (hg _ g_111) (fun _ h9 => h9) rfl d_La_close_1 ?_
  refine lv_bipush (v := 10) hx hb d_La_close_4 (by decide) ?_
  refine lv_icmp_ge (tgt := 52) hx hb d_La_close_6 (by decide) (fun h_1 => ?_) (fun h_1 => ?_)
  · have hd := ite_t hd h_1
    obtain rfl := Option.some.inj hd
    exact retV hx hb hr hlk hK hP hD hS d_La_close_52
  · have hd := ite_f hd h_1
    refine lv_aload_n hx hb d_La_close_9 rfl (lv_at hl 0 rfl) ?_
    refine va_get (D := D) (ci := 4) (v := .ref (a 1)) (C := R_La) (T := F_La) (N := 6) hx hb hg i_La hown hK hP 0 rfl rfl 1 (by decide) (hg _ g_112) (fun _ h9 => h9) rfl d_La_close_10 ?_
    refine lv_aload_n hx hb d_La_close_13 rfl (lv_at hl 0 rfl) ?_
    refine va_get (D := D) (ci := 4) (v := .int (q_La_clauses z)) (C := R_La) (T := F_La) (N := 6) hx hb hg i_La hown hK hP 0 rfl rfl 0 (by decide) (hg _ g_111) (fun _ h9 => h9) rfl d_La_close_14 ?_
    refine lv_iload_n hx hb d_La_close_17 rfl (lv_at hl 1 rfl) ?_
    obtain ⟨h_4, hd⟩ := ite_s hd
    refine iastK hx hb hK hP hD hS 1 0 rfl rfl (inb_t h_4) rfl d_La_close_18 (fun H locs hP hD hS => ?_)
    have hP : va_P D classes (ws_La g a (u_La_word z (upd (q_La_word z) (q_La_clauses z).toNatClampNeg x1))) H := hP
    have hD : va_D A (ws_La g a (u_La_word z (upd (q_La_word z) (q_La_clauses z).toNatClampNeg x1))) := hD
    refine lv_aload_n hx hb d_La_close_19 rfl (lv_at hl 0 rfl) ?_
    refine va_get (D := D) (ci := 4) (v := .ref (a 2)) (C := R_La) (T := F_La) (N := 6) hx hb hg i_La hown hK hP 0 rfl rfl 2 (by decide) (hg _ g_113) (fun _ h9 => h9) rfl d_La_close_20 ?_
    refine lv_aload_n hx hb d_La_close_23 rfl (lv_at hl 0 rfl) ?_
    refine va_get (D := D) (ci := 4) (v := .int (q_La_clauses (u_La_word z (upd (q_La_word z) (q_La_clauses z).toNatClampNeg x1)))) (C := R_La) (T := F_La) (N := 6) hx hb hg i_La hown hK hP 0 rfl rfl 0 (by decide) (hg _ g_111) (fun _ h9 => h9) rfl d_La_close_24 ?_
    refine lv_iload_n hx hb d_La_close_27 rfl (lv_at hl 2 rfl) ?_
    obtain ⟨h_3, hd⟩ := ite_s hd
    refine iastK hx hb hK hP hD hS 2 0 rfl rfl (inb_t h_3) rfl d_La_close_28 (fun H locs hP hD hS => ?_)
    have hP : va_P D classes (ws_La g a (u_La_n (u_La_word z (upd (q_La_word z) (q_La_clauses z).toNatClampNeg x1)) (upd (q_La_n (u_La_word z (upd (q_La_word z) (q_La_clauses z).toNatClampNeg x1))) (q_La_clauses (u_La_word z (upd (q_La_word z) (q_La_clauses z).toNatClampNeg x1))).toNatClampNeg x2))) H := hP
    have hD : va_D A (ws_La g a (u_La_n (u_La_word z (upd (q_La_word z) (q_La_clauses z).toNatClampNeg x1)) (upd (q_La_n (u_La_word z (upd (q_La_word z) (q_La_clauses z).toNatClampNeg x1))) (q_La_clauses (u_La_word z (upd (q_La_word z) (q_La_clauses z).toNatClampNeg x1))).toNatClampNeg x2))) := hD
    refine lv_aload_n hx hb d_La_close_29 rfl (lv_at hl 0 rfl) ?_
    refine va_get (D := D) (ci := 4) (v := .ref (a 3)) (C := R_La) (T := F_La) (N := 6) hx hb hg i_La hown hK hP 0 rfl rfl 3 (by decide) (hg _ g_114) (fun _ h9 => h9) rfl d_La_close_30 ?_
    refine lv_aload_n hx hb d_La_close_33 rfl (lv_at hl 0 rfl) ?_
    refine va_get (D := D) (ci := 4) (v := .int (q_La_clauses (u_La_n (u_La_word z (upd (q_La_word z) (q_La_clauses z).toNatClampNeg x1)) (upd (q_La_n (u_La_word z (upd (q_La_word z) (q_La_clauses z).toNatClampNeg x1))) (q_La_clauses (u_La_word z (upd (q_La_word z) (q_La_clauses z).toNatClampNeg x1))).toNatClampNeg x2)))) (C := R_La) (T := F_La) (N := 6) hx hb hg i_La hown hK hP 0 rfl rfl 0 (by decide) (hg _ g_111) (fun _ h9 => h9) rfl d_La_close_34 ?_
    refine lv_aload_n hx hb d_La_close_37 rfl (lv_at hl 0 rfl) ?_
    refine va_get (D := D) (ci := 4) (v := .int (q_La_codes (u_La_n (u_La_word z (upd (q_La_word z) (q_La_clauses z).toNatClampNeg x1)) (upd (q_La_n (u_La_word z (upd (q_La_word z) (q_La_clauses z).toNatClampNeg x1))) (q_La_clauses (u_La_word z (upd (q_La_word z) (q_La_clauses z).toNatClampNeg x1))).toNatClampNeg x2)))) (C := R_La) (T := F_La) (N := 6) hx hb hg i_La hown hK hP 0 rfl rfl 5 (by decide) (hg _ g_116) (fun _ h9 => h9) rfl d_La_close_38 ?_
    obtain ⟨h_2, hd⟩ := ite_s hd
    refine iastK hx hb hK hP hD hS 3 0 rfl rfl (inb_t h_2) rfl d_La_close_41 (fun H locs hP hD hS => ?_)
    have hP : va_P D classes (ws_La g a (u_La_end (u_La_n (u_La_word z (upd (q_La_word z) (q_La_clauses z).toNatClampNeg x1)) (upd (q_La_n (u_La_word z (upd (q_La_word z) (q_La_clauses z).toNatClampNeg x1))) (q_La_clauses (u_La_word z (upd (q_La_word z) (q_La_clauses z).toNatClampNeg x1))).toNatClampNeg x2)) (upd (q_La_end (u_La_n (u_La_word z (upd (q_La_word z) (q_La_clauses z).toNatClampNeg x1)) (upd (q_La_n (u_La_word z (upd (q_La_word z) (q_La_clauses z).toNatClampNeg x1))) (q_La_clauses (u_La_word z (upd (q_La_word z) (q_La_clauses z).toNatClampNeg x1))).toNatClampNeg x2))) (q_La_clauses (u_La_n (u_La_word z (upd (q_La_word z) (q_La_clauses z).toNatClampNeg x1)) (upd (q_La_n (u_La_word z (upd (q_La_word z) (q_La_clauses z).toNatClampNeg x1))) (q_La_clauses (u_La_word z (upd (q_La_word z) (q_La_clauses z).toNatClampNeg x1))).toNatClampNeg x2))).toNatClampNeg (q_La_codes (u_La_n (u_La_word z (upd (q_La_word z) (q_La_clauses z).toNatClampNeg x1)) (upd (q_La_n (u_La_word z (upd (q_La_word z) (q_La_clauses z).toNatClampNeg x1))) (q_La_clauses (u_La_word z (upd (q_La_word z) (q_La_clauses z).toNatClampNeg x1))).toNatClampNeg x2)))))) H := hP
    have hD : va_D A (ws_La g a (u_La_end (u_La_n (u_La_word z (upd (q_La_word z) (q_La_clauses z).toNatClampNeg x1)) (upd (q_La_n (u_La_word z (upd (q_La_word z) (q_La_clauses z).toNatClampNeg x1))) (q_La_clauses (u_La_word z (upd (q_La_word z) (q_La_clauses z).toNatClampNeg x1))).toNatClampNeg x2)) (upd (q_La_end (u_La_n (u_La_word z (upd (q_La_word z) (q_La_clauses z).toNatClampNeg x1)) (upd (q_La_n (u_La_word z (upd (q_La_word z) (q_La_clauses z).toNatClampNeg x1))) (q_La_clauses (u_La_word z (upd (q_La_word z) (q_La_clauses z).toNatClampNeg x1))).toNatClampNeg x2))) (q_La_clauses (u_La_n (u_La_word z (upd (q_La_word z) (q_La_clauses z).toNatClampNeg x1)) (upd (q_La_n (u_La_word z (upd (q_La_word z) (q_La_clauses z).toNatClampNeg x1))) (q_La_clauses (u_La_word z (upd (q_La_word z) (q_La_clauses z).toNatClampNeg x1))).toNatClampNeg x2))).toNatClampNeg (q_La_codes (u_La_n (u_La_word z (upd (q_La_word z) (q_La_clauses z).toNatClampNeg x1)) (upd (q_La_n (u_La_word z (upd (q_La_word z) (q_La_clauses z).toNatClampNeg x1))) (q_La_clauses (u_La_word z (upd (q_La_word z) (q_La_clauses z).toNatClampNeg x1))).toNatClampNeg x2)))))) := hD
    refine lv_aload_n hx hb d_La_close_42 rfl (lv_at hl 0 rfl) ?_
    refine lv_dup hx hb d_La_close_43 rfl ?_
    refine va_get (D := D) (ci := 4) (v := .int (q_La_clauses (u_La_end (u_La_n (u_La_word z (upd (q_La_word z) (q_La_clauses z).toNatClampNeg x1)) (upd (q_La_n (u_La_word z (upd (q_La_word z) (q_La_clauses z).toNatClampNeg x1))) (q_La_clauses (u_La_word z (upd (q_La_word z) (q_La_clauses z).toNatClampNeg x1))).toNatClampNeg x2)) (upd (q_La_end (u_La_n (u_La_word z (upd (q_La_word z) (q_La_clauses z).toNatClampNeg x1)) (upd (q_La_n (u_La_word z (upd (q_La_word z) (q_La_clauses z).toNatClampNeg x1))) (q_La_clauses (u_La_word z (upd (q_La_word z) (q_La_clauses z).toNatClampNeg x1))).toNatClampNeg x2))) (q_La_clauses (u_La_n (u_La_word z (upd (q_La_word z) (q_La_clauses z).toNatClampNeg x1)) (upd (q_La_n (u_La_word z (upd (q_La_word z) (q_La_clauses z).toNatClampNeg x1))) (q_La_clauses (u_La_word z (upd (q_La_word z) (q_La_clauses z).toNatClampNeg x1))).toNatClampNeg x2))).toNatClampNeg (q_La_codes (u_La_n (u_La_word z (upd (q_La_word z) (q_La_clauses z).toNatClampNeg x1)) (upd (q_La_n (u_La_word z (upd (q_La_word z) (q_La_clauses z).toNatClampNeg x1))) (q_La_clauses (u_La_word z (upd (q_La_word z) (q_La_clauses z).toNatClampNeg x1))).toNatClampNeg x2))))))) (C := R_La) (T := F_La) (N := 6) hx hb hg i_La hown hK hP 0 rfl rfl 0 (by decide) (hg _ g_111) (fun _ h9 => h9) rfl d_La_close_44 ?_
    refine lv_iconst (v := 1) hx hb d_La_close_47 (by decide) ?_
    refine lv_iadd hx hb d_La_close_48 ?_
    refine va_put (D := D) (ci := 4) (v := .int ((q_La_clauses (u_La_end (u_La_n (u_La_word z (upd (q_La_word z) (q_La_clauses z).toNatClampNeg x1)) (upd (q_La_n (u_La_word z (upd (q_La_word z) (q_La_clauses z).toNatClampNeg x1))) (q_La_clauses (u_La_word z (upd (q_La_word z) (q_La_clauses z).toNatClampNeg x1))).toNatClampNeg x2)) (upd (q_La_end (u_La_n (u_La_word z (upd (q_La_word z) (q_La_clauses z).toNatClampNeg x1)) (upd (q_La_n (u_La_word z (upd (q_La_word z) (q_La_clauses z).toNatClampNeg x1))) (q_La_clauses (u_La_word z (upd (q_La_word z) (q_La_clauses z).toNatClampNeg x1))).toNatClampNeg x2))) (q_La_clauses (u_La_n (u_La_word z (upd (q_La_word z) (q_La_clauses z).toNatClampNeg x1)) (upd (q_La_n (u_La_word z (upd (q_La_word z) (q_La_clauses z).toNatClampNeg x1))) (q_La_clauses (u_La_word z (upd (q_La_word z) (q_La_clauses z).toNatClampNeg x1))).toNatClampNeg x2))).toNatClampNeg (q_La_codes (u_La_n (u_La_word z (upd (q_La_word z) (q_La_clauses z).toNatClampNeg x1)) (upd (q_La_n (u_La_word z (upd (q_La_word z) (q_La_clauses z).toNatClampNeg x1))) (q_La_clauses (u_La_word z (upd (q_La_word z) (q_La_clauses z).toNatClampNeg x1))).toNatClampNeg x2)))))) + 1)) (ty := .int) (C := R_La) (T := F_La) (N := 6) hx hb hg i_La t_La t_La_ok n_La hown hK hP hD hS 0 rfl rfl 0 (by decide) (hg _ g_111) (fun _ h9 => h9) rfl (by decide +kernel) rfl rfl (Nat.le_of_ble_eq_true rfl) d_La_close_49 (fun H locs hP hD hS => ?_)
    have hP : va_P D classes (ws_La g a (u_La_clauses (u_La_end (u_La_n (u_La_word z (upd (q_La_word z) (q_La_clauses z).toNatClampNeg x1)) (upd (q_La_n (u_La_word z (upd (q_La_word z) (q_La_clauses z).toNatClampNeg x1))) (q_La_clauses (u_La_word z (upd (q_La_word z) (q_La_clauses z).toNatClampNeg x1))).toNatClampNeg x2)) (upd (q_La_end (u_La_n (u_La_word z (upd (q_La_word z) (q_La_clauses z).toNatClampNeg x1)) (upd (q_La_n (u_La_word z (upd (q_La_word z) (q_La_clauses z).toNatClampNeg x1))) (q_La_clauses (u_La_word z (upd (q_La_word z) (q_La_clauses z).toNatClampNeg x1))).toNatClampNeg x2))) (q_La_clauses (u_La_n (u_La_word z (upd (q_La_word z) (q_La_clauses z).toNatClampNeg x1)) (upd (q_La_n (u_La_word z (upd (q_La_word z) (q_La_clauses z).toNatClampNeg x1))) (q_La_clauses (u_La_word z (upd (q_La_word z) (q_La_clauses z).toNatClampNeg x1))).toNatClampNeg x2))).toNatClampNeg (q_La_codes (u_La_n (u_La_word z (upd (q_La_word z) (q_La_clauses z).toNatClampNeg x1)) (upd (q_La_n (u_La_word z (upd (q_La_word z) (q_La_clauses z).toNatClampNeg x1))) (q_La_clauses (u_La_word z (upd (q_La_word z) (q_La_clauses z).toNatClampNeg x1))).toNatClampNeg x2))))) ((q_La_clauses (u_La_end (u_La_n (u_La_word z (upd (q_La_word z) (q_La_clauses z).toNatClampNeg x1)) (upd (q_La_n (u_La_word z (upd (q_La_word z) (q_La_clauses z).toNatClampNeg x1))) (q_La_clauses (u_La_word z (upd (q_La_word z) (q_La_clauses z).toNatClampNeg x1))).toNatClampNeg x2)) (upd (q_La_end (u_La_n (u_La_word z (upd (q_La_word z) (q_La_clauses z).toNatClampNeg x1)) (upd (q_La_n (u_La_word z (upd (q_La_word z) (q_La_clauses z).toNatClampNeg x1))) (q_La_clauses (u_La_word z (upd (q_La_word z) (q_La_clauses z).toNatClampNeg x1))).toNatClampNeg x2))) (q_La_clauses (u_La_n (u_La_word z (upd (q_La_word z) (q_La_clauses z).toNatClampNeg x1)) (upd (q_La_n (u_La_word z (upd (q_La_word z) (q_La_clauses z).toNatClampNeg x1))) (q_La_clauses (u_La_word z (upd (q_La_word z) (q_La_clauses z).toNatClampNeg x1))).toNatClampNeg x2))).toNatClampNeg (q_La_codes (u_La_n (u_La_word z (upd (q_La_word z) (q_La_clauses z).toNatClampNeg x1)) (upd (q_La_n (u_La_word z (upd (q_La_word z) (q_La_clauses z).toNatClampNeg x1))) (q_La_clauses (u_La_word z (upd (q_La_word z) (q_La_clauses z).toNatClampNeg x1))).toNatClampNeg x2)))))) + 1))) H := hP
    have hD : va_D A (ws_La g a (u_La_clauses (u_La_end (u_La_n (u_La_word z (upd (q_La_word z) (q_La_clauses z).toNatClampNeg x1)) (upd (q_La_n (u_La_word z (upd (q_La_word z) (q_La_clauses z).toNatClampNeg x1))) (q_La_clauses (u_La_word z (upd (q_La_word z) (q_La_clauses z).toNatClampNeg x1))).toNatClampNeg x2)) (upd (q_La_end (u_La_n (u_La_word z (upd (q_La_word z) (q_La_clauses z).toNatClampNeg x1)) (upd (q_La_n (u_La_word z (upd (q_La_word z) (q_La_clauses z).toNatClampNeg x1))) (q_La_clauses (u_La_word z (upd (q_La_word z) (q_La_clauses z).toNatClampNeg x1))).toNatClampNeg x2))) (q_La_clauses (u_La_n (u_La_word z (upd (q_La_word z) (q_La_clauses z).toNatClampNeg x1)) (upd (q_La_n (u_La_word z (upd (q_La_word z) (q_La_clauses z).toNatClampNeg x1))) (q_La_clauses (u_La_word z (upd (q_La_word z) (q_La_clauses z).toNatClampNeg x1))).toNatClampNeg x2))).toNatClampNeg (q_La_codes (u_La_n (u_La_word z (upd (q_La_word z) (q_La_clauses z).toNatClampNeg x1)) (upd (q_La_n (u_La_word z (upd (q_La_word z) (q_La_clauses z).toNatClampNeg x1))) (q_La_clauses (u_La_word z (upd (q_La_word z) (q_La_clauses z).toNatClampNeg x1))).toNatClampNeg x2))))) ((q_La_clauses (u_La_end (u_La_n (u_La_word z (upd (q_La_word z) (q_La_clauses z).toNatClampNeg x1)) (upd (q_La_n (u_La_word z (upd (q_La_word z) (q_La_clauses z).toNatClampNeg x1))) (q_La_clauses (u_La_word z (upd (q_La_word z) (q_La_clauses z).toNatClampNeg x1))).toNatClampNeg x2)) (upd (q_La_end (u_La_n (u_La_word z (upd (q_La_word z) (q_La_clauses z).toNatClampNeg x1)) (upd (q_La_n (u_La_word z (upd (q_La_word z) (q_La_clauses z).toNatClampNeg x1))) (q_La_clauses (u_La_word z (upd (q_La_word z) (q_La_clauses z).toNatClampNeg x1))).toNatClampNeg x2))) (q_La_clauses (u_La_n (u_La_word z (upd (q_La_word z) (q_La_clauses z).toNatClampNeg x1)) (upd (q_La_n (u_La_word z (upd (q_La_word z) (q_La_clauses z).toNatClampNeg x1))) (q_La_clauses (u_La_word z (upd (q_La_word z) (q_La_clauses z).toNatClampNeg x1))).toNatClampNeg x2))).toNatClampNeg (q_La_codes (u_La_n (u_La_word z (upd (q_La_word z) (q_La_clauses z).toNatClampNeg x1)) (upd (q_La_n (u_La_word z (upd (q_La_word z) (q_La_clauses z).toNatClampNeg x1))) (q_La_clauses (u_La_word z (upd (q_La_word z) (q_La_clauses z).toNatClampNeg x1))).toNatClampNeg x2)))))) + 1))) := hD
    obtain rfl := Option.some.inj hd
    exact retV hx hb hr hlk hK hP hD hS d_La_close_52
-- OwnsLift$Land.emit(I)V
def d_La_emit (x1 : Int32) (z : T_La) : Option (T_La) :=
  if 100 ≤ (q_La_codes z) then (some (z)) else (if inb (q_La_codes z) 100 = true then (some ((u_La_codes (u_La_code z (upd (q_La_code z) (q_La_codes z).toNatClampNeg x1)) ((q_La_codes (u_La_code z (upd (q_La_code z) (q_La_codes z).toNatClampNeg x1))) + 1)))) else none)
theorem d_La_emit_0 : decode b_La_emit 0 = .ok (.aload_n 0, 1) := by decide +kernel
theorem d_La_emit_1 : decode b_La_emit 1 = .ok (.getfield 28, 3) := by decide +kernel
theorem d_La_emit_4 : decode b_La_emit 4 = .ok (.bipush 100, 2) := by decide +kernel
theorem d_La_emit_6 : decode b_La_emit 6 = .ok (.if_icmp .ge 23, 3) := by decide +kernel
theorem d_La_emit_9 : decode b_La_emit 9 = .ok (.aload_n 0, 1) := by decide +kernel
theorem d_La_emit_10 : decode b_La_emit 10 = .ok (.getfield 21, 3) := by decide +kernel
theorem d_La_emit_13 : decode b_La_emit 13 = .ok (.aload_n 0, 1) := by decide +kernel
theorem d_La_emit_14 : decode b_La_emit 14 = .ok (.getfield 28, 3) := by decide +kernel
theorem d_La_emit_17 : decode b_La_emit 17 = .ok (.iload_n 1, 1) := by decide +kernel
theorem d_La_emit_18 : decode b_La_emit 18 = .ok (.iastore, 1) := by decide +kernel
theorem d_La_emit_19 : decode b_La_emit 19 = .ok (.aload_n 0, 1) := by decide +kernel
theorem d_La_emit_20 : decode b_La_emit 20 = .ok (.dup, 1) := by decide +kernel
theorem d_La_emit_21 : decode b_La_emit 21 = .ok (.getfield 28, 3) := by decide +kernel
theorem d_La_emit_24 : decode b_La_emit 24 = .ok (.iconst 1, 1) := by decide +kernel
theorem d_La_emit_25 : decode b_La_emit 25 = .ok (.iadd, 1) := by decide +kernel
theorem d_La_emit_26 : decode b_La_emit 26 = .ok (.putfield 28, 3) := by decide +kernel
theorem d_La_emit_29 : decode b_La_emit 29 = .ok (.return_, 1) := by decide +kernel
theorem o_La_emit : OkV y_La_emit "OwnsLift$Land" b_La_emit 2 none 1 := ⟨⟨rfl, by decide +kernel, by decide +kernel, by decide +kernel⟩, g_531, g_532, g_73, g_533⟩
set_option maxHeartbeats 4000000 in
set_option maxRecDepth 100000 in
theorem c_La_emit (l : Launch) (D : va_G) (g : Nat → ClassId) (a : Nat → Nat) (x1 : Int32) (z : T_La) (v : T_La) (h : d_La_emit x1 z = some v) :
    MV l y_La_emit b_La_emit 2 ({ frames := 0, cells := 0, slots := 0, locals := 0 } : Room) D g [.ref (a 0), .int x1] (ws_La g a z) (ws_La g a v) := by
  have hd := h
  unfold d_La_emit at hd
  refine enterV rfl (Nat.le_of_ble_eq_true rfl) (fun p e s m below meth c A ls hx hb hml hr hown hg hlk hK hA hP hD hS hCs hl => ?_)
  have hown : s.vm.findClass "OwnsLift$Land" = some m.cls := hown
  have hl : lv_has ls 2 [(0, .ref (a 0)), (1, .int x1)] := hl
  show GV p l e s m ({ frames := 0, cells := 0, slots := 0, locals := 0 } : Room) ([.ref (a 0), .int x1] : List Value).toArray below meth c A D g (ws_La g a v) s.heap [] (F0 m 0 ls [])
  refine lv_aload_n hx hb d_La_emit_0 rfl (lv_at hl 0 rfl) ?_
  refine va_get (D := D) (ci := 4) (v := .int (q_La_codes z)) (C := R_La) (T := F_La) (N := 6) hx hb hg i_La hown hK hP 0 rfl rfl 5 (by decide) (hg _ g_116) (fun _ h9 => h9) rfl d_La_emit_1 ?_
  refine lv_bipush (v := 100) hx hb d_La_emit_4 (by decide) ?_
  refine lv_icmp_ge (tgt := 29) hx hb d_La_emit_6 (by decide) (fun h_1 => ?_) (fun h_1 => ?_)
  · have hd := ite_t hd h_1
    obtain rfl := Option.some.inj hd
    exact retV hx hb hr hlk hK hP hD hS d_La_emit_29
  · have hd := ite_f hd h_1
    refine lv_aload_n hx hb d_La_emit_9 rfl (lv_at hl 0 rfl) ?_
    refine va_get (D := D) (ci := 4) (v := .ref (a 4)) (C := R_La) (T := F_La) (N := 6) hx hb hg i_La hown hK hP 0 rfl rfl 4 (by decide) (hg _ g_115) (fun _ h9 => h9) rfl d_La_emit_10 ?_
    refine lv_aload_n hx hb d_La_emit_13 rfl (lv_at hl 0 rfl) ?_
    refine va_get (D := D) (ci := 4) (v := .int (q_La_codes z)) (C := R_La) (T := F_La) (N := 6) hx hb hg i_La hown hK hP 0 rfl rfl 5 (by decide) (hg _ g_116) (fun _ h9 => h9) rfl d_La_emit_14 ?_
    refine lv_iload_n hx hb d_La_emit_17 rfl (lv_at hl 1 rfl) ?_
    obtain ⟨h_2, hd⟩ := ite_s hd
    refine iastK hx hb hK hP hD hS 4 0 rfl rfl (inb_t h_2) rfl d_La_emit_18 (fun H locs hP hD hS => ?_)
    have hP : va_P D classes (ws_La g a (u_La_code z (upd (q_La_code z) (q_La_codes z).toNatClampNeg x1))) H := hP
    have hD : va_D A (ws_La g a (u_La_code z (upd (q_La_code z) (q_La_codes z).toNatClampNeg x1))) := hD
    refine lv_aload_n hx hb d_La_emit_19 rfl (lv_at hl 0 rfl) ?_
    refine lv_dup hx hb d_La_emit_20 rfl ?_
    refine va_get (D := D) (ci := 4) (v := .int (q_La_codes (u_La_code z (upd (q_La_code z) (q_La_codes z).toNatClampNeg x1)))) (C := R_La) (T := F_La) (N := 6) hx hb hg i_La hown hK hP 0 rfl rfl 5 (by decide) (hg _ g_116) (fun _ h9 => h9) rfl d_La_emit_21 ?_
    refine lv_iconst (v := 1) hx hb d_La_emit_24 (by decide) ?_
    refine lv_iadd hx hb d_La_emit_25 ?_
    refine va_put (D := D) (ci := 4) (v := .int ((q_La_codes (u_La_code z (upd (q_La_code z) (q_La_codes z).toNatClampNeg x1))) + 1)) (ty := .int) (C := R_La) (T := F_La) (N := 6) hx hb hg i_La t_La t_La_ok n_La hown hK hP hD hS 0 rfl rfl 5 (by decide) (hg _ g_116) (fun _ h9 => h9) rfl (by decide +kernel) rfl rfl (Nat.le_of_ble_eq_true rfl) d_La_emit_26 (fun H locs hP hD hS => ?_)
    have hP : va_P D classes (ws_La g a (u_La_codes (u_La_code z (upd (q_La_code z) (q_La_codes z).toNatClampNeg x1)) ((q_La_codes (u_La_code z (upd (q_La_code z) (q_La_codes z).toNatClampNeg x1))) + 1))) H := hP
    have hD : va_D A (ws_La g a (u_La_codes (u_La_code z (upd (q_La_code z) (q_La_codes z).toNatClampNeg x1)) ((q_La_codes (u_La_code z (upd (q_La_code z) (q_La_codes z).toNatClampNeg x1))) + 1))) := hD
    obtain rfl := Option.some.inj hd
    exact retV hx hb hr hlk hK hP hD hS d_La_emit_29
-- OwnsLift$People.add(IIII)I
def d_Pe_add (x1 : Int32) (x2 : Int32) (x3 : Int32) (x4 : Int32) (z : T_Pe) : Option (Int32 × T_Pe) :=
  if inb (q_Pe_size z) 4 = true then (if inb (q_Pe_size z) 4 = true then (if inb (q_Pe_size z) 4 = true then (if inb (q_Pe_size z) 4 = true then (if inb (q_Pe_size z) 4 = true then (some ((q_Pe_size z), (u_Pe_size (u_Pe_rowSize (u_Pe_age (u_Pe_strength (u_Pe_v (u_Pe_kind z (upd (q_Pe_kind z) (q_Pe_size z).toNatClampNeg x1)) (upd (q_Pe_v (u_Pe_kind z (upd (q_Pe_kind z) (q_Pe_size z).toNatClampNeg x1))) (q_Pe_size z).toNatClampNeg x2)) (upd (q_Pe_strength (u_Pe_v (u_Pe_kind z (upd (q_Pe_kind z) (q_Pe_size z).toNatClampNeg x1)) (upd (q_Pe_v (u_Pe_kind z (upd (q_Pe_kind z) (q_Pe_size z).toNatClampNeg x1))) (q_Pe_size z).toNatClampNeg x2))) (q_Pe_size z).toNatClampNeg x3)) (upd (q_Pe_age (u_Pe_strength (u_Pe_v (u_Pe_kind z (upd (q_Pe_kind z) (q_Pe_size z).toNatClampNeg x1)) (upd (q_Pe_v (u_Pe_kind z (upd (q_Pe_kind z) (q_Pe_size z).toNatClampNeg x1))) (q_Pe_size z).toNatClampNeg x2)) (upd (q_Pe_strength (u_Pe_v (u_Pe_kind z (upd (q_Pe_kind z) (q_Pe_size z).toNatClampNeg x1)) (upd (q_Pe_v (u_Pe_kind z (upd (q_Pe_kind z) (q_Pe_size z).toNatClampNeg x1))) (q_Pe_size z).toNatClampNeg x2))) (q_Pe_size z).toNatClampNeg x3))) (q_Pe_size z).toNatClampNeg x4)) (upd (q_Pe_rowSize (u_Pe_age (u_Pe_strength (u_Pe_v (u_Pe_kind z (upd (q_Pe_kind z) (q_Pe_size z).toNatClampNeg x1)) (upd (q_Pe_v (u_Pe_kind z (upd (q_Pe_kind z) (q_Pe_size z).toNatClampNeg x1))) (q_Pe_size z).toNatClampNeg x2)) (upd (q_Pe_strength (u_Pe_v (u_Pe_kind z (upd (q_Pe_kind z) (q_Pe_size z).toNatClampNeg x1)) (upd (q_Pe_v (u_Pe_kind z (upd (q_Pe_kind z) (q_Pe_size z).toNatClampNeg x1))) (q_Pe_size z).toNatClampNeg x2))) (q_Pe_size z).toNatClampNeg x3)) (upd (q_Pe_age (u_Pe_strength (u_Pe_v (u_Pe_kind z (upd (q_Pe_kind z) (q_Pe_size z).toNatClampNeg x1)) (upd (q_Pe_v (u_Pe_kind z (upd (q_Pe_kind z) (q_Pe_size z).toNatClampNeg x1))) (q_Pe_size z).toNatClampNeg x2)) (upd (q_Pe_strength (u_Pe_v (u_Pe_kind z (upd (q_Pe_kind z) (q_Pe_size z).toNatClampNeg x1)) (upd (q_Pe_v (u_Pe_kind z (upd (q_Pe_kind z) (q_Pe_size z).toNatClampNeg x1))) (q_Pe_size z).toNatClampNeg x2))) (q_Pe_size z).toNatClampNeg x3))) (q_Pe_size z).toNatClampNeg x4))) (q_Pe_size z).toNatClampNeg 0)) ((q_Pe_size (u_Pe_rowSize (u_Pe_age (u_Pe_strength (u_Pe_v (u_Pe_kind z (upd (q_Pe_kind z) (q_Pe_size z).toNatClampNeg x1)) (upd (q_Pe_v (u_Pe_kind z (upd (q_Pe_kind z) (q_Pe_size z).toNatClampNeg x1))) (q_Pe_size z).toNatClampNeg x2)) (upd (q_Pe_strength (u_Pe_v (u_Pe_kind z (upd (q_Pe_kind z) (q_Pe_size z).toNatClampNeg x1)) (upd (q_Pe_v (u_Pe_kind z (upd (q_Pe_kind z) (q_Pe_size z).toNatClampNeg x1))) (q_Pe_size z).toNatClampNeg x2))) (q_Pe_size z).toNatClampNeg x3)) (upd (q_Pe_age (u_Pe_strength (u_Pe_v (u_Pe_kind z (upd (q_Pe_kind z) (q_Pe_size z).toNatClampNeg x1)) (upd (q_Pe_v (u_Pe_kind z (upd (q_Pe_kind z) (q_Pe_size z).toNatClampNeg x1))) (q_Pe_size z).toNatClampNeg x2)) (upd (q_Pe_strength (u_Pe_v (u_Pe_kind z (upd (q_Pe_kind z) (q_Pe_size z).toNatClampNeg x1)) (upd (q_Pe_v (u_Pe_kind z (upd (q_Pe_kind z) (q_Pe_size z).toNatClampNeg x1))) (q_Pe_size z).toNatClampNeg x2))) (q_Pe_size z).toNatClampNeg x3))) (q_Pe_size z).toNatClampNeg x4)) (upd (q_Pe_rowSize (u_Pe_age (u_Pe_strength (u_Pe_v (u_Pe_kind z (upd (q_Pe_kind z) (q_Pe_size z).toNatClampNeg x1)) (upd (q_Pe_v (u_Pe_kind z (upd (q_Pe_kind z) (q_Pe_size z).toNatClampNeg x1))) (q_Pe_size z).toNatClampNeg x2)) (upd (q_Pe_strength (u_Pe_v (u_Pe_kind z (upd (q_Pe_kind z) (q_Pe_size z).toNatClampNeg x1)) (upd (q_Pe_v (u_Pe_kind z (upd (q_Pe_kind z) (q_Pe_size z).toNatClampNeg x1))) (q_Pe_size z).toNatClampNeg x2))) (q_Pe_size z).toNatClampNeg x3)) (upd (q_Pe_age (u_Pe_strength (u_Pe_v (u_Pe_kind z (upd (q_Pe_kind z) (q_Pe_size z).toNatClampNeg x1)) (upd (q_Pe_v (u_Pe_kind z (upd (q_Pe_kind z) (q_Pe_size z).toNatClampNeg x1))) (q_Pe_size z).toNatClampNeg x2)) (upd (q_Pe_strength (u_Pe_v (u_Pe_kind z (upd (q_Pe_kind z) (q_Pe_size z).toNatClampNeg x1)) (upd (q_Pe_v (u_Pe_kind z (upd (q_Pe_kind z) (q_Pe_size z).toNatClampNeg x1))) (q_Pe_size z).toNatClampNeg x2))) (q_Pe_size z).toNatClampNeg x3))) (q_Pe_size z).toNatClampNeg x4))) (q_Pe_size z).toNatClampNeg 0))) + 1)))) else none) else none) else none) else none) else none
theorem d_Pe_add_0 : decode b_Pe_add 0 = .ok (.aload_n 0, 1) := by decide +kernel
theorem d_Pe_add_1 : decode b_Pe_add 1 = .ok (.getfield 32, 3) := by decide +kernel
theorem d_Pe_add_4 : decode b_Pe_add 4 = .ok (.istore 5, 2) := by decide +kernel
theorem d_Pe_add_6 : decode b_Pe_add 6 = .ok (.aload_n 0, 1) := by decide +kernel
theorem d_Pe_add_7 : decode b_Pe_add 7 = .ok (.getfield 9, 3) := by decide +kernel
theorem d_Pe_add_10 : decode b_Pe_add 10 = .ok (.iload 5, 2) := by decide +kernel
theorem d_Pe_add_12 : decode b_Pe_add 12 = .ok (.iload_n 1, 1) := by decide +kernel
theorem d_Pe_add_13 : decode b_Pe_add 13 = .ok (.iastore, 1) := by decide +kernel
theorem d_Pe_add_14 : decode b_Pe_add 14 = .ok (.aload_n 0, 1) := by decide +kernel
theorem d_Pe_add_15 : decode b_Pe_add 15 = .ok (.getfield 15, 3) := by decide +kernel
theorem d_Pe_add_18 : decode b_Pe_add 18 = .ok (.iload 5, 2) := by decide +kernel
theorem d_Pe_add_20 : decode b_Pe_add 20 = .ok (.iload_n 2, 1) := by decide +kernel
theorem d_Pe_add_21 : decode b_Pe_add 21 = .ok (.iastore, 1) := by decide +kernel
theorem d_Pe_add_22 : decode b_Pe_add 22 = .ok (.aload_n 0, 1) := by decide +kernel
theorem d_Pe_add_23 : decode b_Pe_add 23 = .ok (.getfield 18, 3) := by decide +kernel
theorem d_Pe_add_26 : decode b_Pe_add 26 = .ok (.iload 5, 2) := by decide +kernel
theorem d_Pe_add_28 : decode b_Pe_add 28 = .ok (.iload_n 3, 1) := by decide +kernel
theorem d_Pe_add_29 : decode b_Pe_add 29 = .ok (.iastore, 1) := by decide +kernel
theorem d_Pe_add_30 : decode b_Pe_add 30 = .ok (.aload_n 0, 1) := by decide +kernel
theorem d_Pe_add_31 : decode b_Pe_add 31 = .ok (.getfield 21, 3) := by decide +kernel
theorem d_Pe_add_34 : decode b_Pe_add 34 = .ok (.iload 5, 2) := by decide +kernel
theorem d_Pe_add_36 : decode b_Pe_add 36 = .ok (.iload 4, 2) := by decide +kernel
theorem d_Pe_add_38 : decode b_Pe_add 38 = .ok (.iastore, 1) := by decide +kernel
theorem d_Pe_add_39 : decode b_Pe_add 39 = .ok (.aload_n 0, 1) := by decide +kernel
theorem d_Pe_add_40 : decode b_Pe_add 40 = .ok (.getfield 24, 3) := by decide +kernel
theorem d_Pe_add_43 : decode b_Pe_add 43 = .ok (.iload 5, 2) := by decide +kernel
theorem d_Pe_add_45 : decode b_Pe_add 45 = .ok (.iconst 0, 1) := by decide +kernel
theorem d_Pe_add_46 : decode b_Pe_add 46 = .ok (.iastore, 1) := by decide +kernel
theorem d_Pe_add_47 : decode b_Pe_add 47 = .ok (.aload_n 0, 1) := by decide +kernel
theorem d_Pe_add_48 : decode b_Pe_add 48 = .ok (.dup, 1) := by decide +kernel
theorem d_Pe_add_49 : decode b_Pe_add 49 = .ok (.getfield 32, 3) := by decide +kernel
theorem d_Pe_add_52 : decode b_Pe_add 52 = .ok (.iconst 1, 1) := by decide +kernel
theorem d_Pe_add_53 : decode b_Pe_add 53 = .ok (.iadd, 1) := by decide +kernel
theorem d_Pe_add_54 : decode b_Pe_add 54 = .ok (.putfield 32, 3) := by decide +kernel
theorem d_Pe_add_57 : decode b_Pe_add 57 = .ok (.iload 5, 2) := by decide +kernel
theorem d_Pe_add_59 : decode b_Pe_add 59 = .ok (.ireturn, 1) := by decide +kernel
theorem o_Pe_add : OkV y_Pe_add "OwnsLift$People" b_Pe_add 6 (some .int) 4 := ⟨⟨rfl, by decide +kernel, by decide +kernel, by decide +kernel⟩, g_622, g_623, g_74, g_624⟩
set_option maxHeartbeats 4000000 in
set_option maxRecDepth 100000 in
theorem c_Pe_add (l : Launch) (D : va_G) (g : Nat → ClassId) (a : Nat → Nat) (x1 : Int32) (x2 : Int32) (x3 : Int32) (x4 : Int32) (z : T_Pe) (v : Int32 × T_Pe) (h : d_Pe_add x1 x2 x3 x4 z = some v) :
    MI l y_Pe_add b_Pe_add 6 .int ({ frames := 0, cells := 0, slots := 0, locals := 0 } : Room) D g [.ref (a 0), .int x1, .int x2, .int x3, .int x4] (ws_Pe g a z) (v.1) (ws_Pe g a v.2) := by
  have hd := h
  unfold d_Pe_add at hd
  refine enterI rfl (Nat.le_of_ble_eq_true rfl) (fun p e s m below meth c A ls hx hb hml hr hown hg hlk hK hA hP hD hS hCs hl => ?_)
  have hown : s.vm.findClass "OwnsLift$People" = some m.cls := hown
  have hl : lv_has ls 6 [(0, .ref (a 0)), (1, .int x1), (2, .int x2), (3, .int x3), (4, .int x4)] := hl
  show GI p l e s m ({ frames := 0, cells := 0, slots := 0, locals := 0 } : Room) ([.ref (a 0), .int x1, .int x2, .int x3, .int x4] : List Value).toArray below meth c A D g (ws_Pe g a v.2) (v.1) s.heap [] (F0 m 0 ls [])
  refine lv_aload_n hx hb d_Pe_add_0 rfl (lv_at hl 0 rfl) ?_
  refine va_get (D := D) (ci := 5) (v := .int (q_Pe_size z)) (C := R_Pe) (T := F_Pe) (N := 7) hx hb hg i_Pe hown hK hP 0 rfl rfl 0 (by decide) (hg _ g_140) (fun _ h9 => h9) rfl d_Pe_add_1 ?_
  refine lv_istore (lv' := [(5, .int (q_Pe_size z)), (0, .ref (a 0)), (1, .int x1), (2, .int x2), (3, .int x3), (4, .int x4)]) hx hb d_Pe_add_4 hl (by decide) rfl (fun ls hl => ?_)
  refine lv_aload_n hx hb d_Pe_add_6 rfl (lv_at hl 1 rfl) ?_
  refine va_get (D := D) (ci := 5) (v := .ref (a 1)) (C := R_Pe) (T := F_Pe) (N := 7) hx hb hg i_Pe hown hK hP 0 rfl rfl 1 (by decide) (hg _ g_143) (fun _ h9 => h9) rfl d_Pe_add_7 ?_
  refine lv_iload hx hb d_Pe_add_10 (lv_at hl 0 rfl) ?_
  refine lv_iload_n hx hb d_Pe_add_12 rfl (lv_at hl 2 rfl) ?_
  obtain ⟨h_5, hd⟩ := ite_s hd
  refine iastK hx hb hK hP hD hS 1 0 rfl rfl (inb_t h_5) rfl d_Pe_add_13 (fun H locs hP hD hS => ?_)
  have hP : va_P D classes (ws_Pe g a (u_Pe_kind z (upd (q_Pe_kind z) (q_Pe_size z).toNatClampNeg x1))) H := hP
  have hD : va_D A (ws_Pe g a (u_Pe_kind z (upd (q_Pe_kind z) (q_Pe_size z).toNatClampNeg x1))) := hD
  refine lv_aload_n hx hb d_Pe_add_14 rfl (lv_at hl 1 rfl) ?_
  refine va_get (D := D) (ci := 5) (v := .ref (a 2)) (C := R_Pe) (T := F_Pe) (N := 7) hx hb hg i_Pe hown hK hP 0 rfl rfl 2 (by decide) (hg _ g_148) (fun _ h9 => h9) rfl d_Pe_add_15 ?_
  refine lv_iload hx hb d_Pe_add_18 (lv_at hl 0 rfl) ?_
  refine lv_iload_n hx hb d_Pe_add_20 rfl (lv_at hl 3 rfl) ?_
  obtain ⟨h_4, hd⟩ := ite_s hd
  refine iastK hx hb hK hP hD hS 2 0 rfl rfl (inb_t h_4) rfl d_Pe_add_21 (fun H locs hP hD hS => ?_)
  have hP : va_P D classes (ws_Pe g a (u_Pe_v (u_Pe_kind z (upd (q_Pe_kind z) (q_Pe_size z).toNatClampNeg x1)) (upd (q_Pe_v (u_Pe_kind z (upd (q_Pe_kind z) (q_Pe_size z).toNatClampNeg x1))) (q_Pe_size z).toNatClampNeg x2))) H := hP
  have hD : va_D A (ws_Pe g a (u_Pe_v (u_Pe_kind z (upd (q_Pe_kind z) (q_Pe_size z).toNatClampNeg x1)) (upd (q_Pe_v (u_Pe_kind z (upd (q_Pe_kind z) (q_Pe_size z).toNatClampNeg x1))) (q_Pe_size z).toNatClampNeg x2))) := hD
  refine lv_aload_n hx hb d_Pe_add_22 rfl (lv_at hl 1 rfl) ?_
  refine va_get (D := D) (ci := 5) (v := .ref (a 3)) (C := R_Pe) (T := F_Pe) (N := 7) hx hb hg i_Pe hown hK hP 0 rfl rfl 3 (by decide) (hg _ g_152) (fun _ h9 => h9) rfl d_Pe_add_23 ?_
  refine lv_iload hx hb d_Pe_add_26 (lv_at hl 0 rfl) ?_
  refine lv_iload_n hx hb d_Pe_add_28 rfl (lv_at hl 4 rfl) ?_
  obtain ⟨h_3, hd⟩ := ite_s hd
  refine iastK hx hb hK hP hD hS 3 0 rfl rfl (inb_t h_3) rfl d_Pe_add_29 (fun H locs hP hD hS => ?_)
  have hP : va_P D classes (ws_Pe g a (u_Pe_strength (u_Pe_v (u_Pe_kind z (upd (q_Pe_kind z) (q_Pe_size z).toNatClampNeg x1)) (upd (q_Pe_v (u_Pe_kind z (upd (q_Pe_kind z) (q_Pe_size z).toNatClampNeg x1))) (q_Pe_size z).toNatClampNeg x2)) (upd (q_Pe_strength (u_Pe_v (u_Pe_kind z (upd (q_Pe_kind z) (q_Pe_size z).toNatClampNeg x1)) (upd (q_Pe_v (u_Pe_kind z (upd (q_Pe_kind z) (q_Pe_size z).toNatClampNeg x1))) (q_Pe_size z).toNatClampNeg x2))) (q_Pe_size z).toNatClampNeg x3))) H := hP
  have hD : va_D A (ws_Pe g a (u_Pe_strength (u_Pe_v (u_Pe_kind z (upd (q_Pe_kind z) (q_Pe_size z).toNatClampNeg x1)) (upd (q_Pe_v (u_Pe_kind z (upd (q_Pe_kind z) (q_Pe_size z).toNatClampNeg x1))) (q_Pe_size z).toNatClampNeg x2)) (upd (q_Pe_strength (u_Pe_v (u_Pe_kind z (upd (q_Pe_kind z) (q_Pe_size z).toNatClampNeg x1)) (upd (q_Pe_v (u_Pe_kind z (upd (q_Pe_kind z) (q_Pe_size z).toNatClampNeg x1))) (q_Pe_size z).toNatClampNeg x2))) (q_Pe_size z).toNatClampNeg x3))) := hD
  refine lv_aload_n hx hb d_Pe_add_30 rfl (lv_at hl 1 rfl) ?_
  refine va_get (D := D) (ci := 5) (v := .ref (a 4)) (C := R_Pe) (T := F_Pe) (N := 7) hx hb hg i_Pe hown hK hP 0 rfl rfl 4 (by decide) (hg _ g_155) (fun _ h9 => h9) rfl d_Pe_add_31 ?_
  refine lv_iload hx hb d_Pe_add_34 (lv_at hl 0 rfl) ?_
  refine lv_iload hx hb d_Pe_add_36 (lv_at hl 5 rfl) ?_
  obtain ⟨h_2, hd⟩ := ite_s hd
  refine iastK hx hb hK hP hD hS 4 0 rfl rfl (inb_t h_2) rfl d_Pe_add_38 (fun H locs hP hD hS => ?_)
  have hP : va_P D classes (ws_Pe g a (u_Pe_age (u_Pe_strength (u_Pe_v (u_Pe_kind z (upd (q_Pe_kind z) (q_Pe_size z).toNatClampNeg x1)) (upd (q_Pe_v (u_Pe_kind z (upd (q_Pe_kind z) (q_Pe_size z).toNatClampNeg x1))) (q_Pe_size z).toNatClampNeg x2)) (upd (q_Pe_strength (u_Pe_v (u_Pe_kind z (upd (q_Pe_kind z) (q_Pe_size z).toNatClampNeg x1)) (upd (q_Pe_v (u_Pe_kind z (upd (q_Pe_kind z) (q_Pe_size z).toNatClampNeg x1))) (q_Pe_size z).toNatClampNeg x2))) (q_Pe_size z).toNatClampNeg x3)) (upd (q_Pe_age (u_Pe_strength (u_Pe_v (u_Pe_kind z (upd (q_Pe_kind z) (q_Pe_size z).toNatClampNeg x1)) (upd (q_Pe_v (u_Pe_kind z (upd (q_Pe_kind z) (q_Pe_size z).toNatClampNeg x1))) (q_Pe_size z).toNatClampNeg x2)) (upd (q_Pe_strength (u_Pe_v (u_Pe_kind z (upd (q_Pe_kind z) (q_Pe_size z).toNatClampNeg x1)) (upd (q_Pe_v (u_Pe_kind z (upd (q_Pe_kind z) (q_Pe_size z).toNatClampNeg x1))) (q_Pe_size z).toNatClampNeg x2))) (q_Pe_size z).toNatClampNeg x3))) (q_Pe_size z).toNatClampNeg x4))) H := hP
  have hD : va_D A (ws_Pe g a (u_Pe_age (u_Pe_strength (u_Pe_v (u_Pe_kind z (upd (q_Pe_kind z) (q_Pe_size z).toNatClampNeg x1)) (upd (q_Pe_v (u_Pe_kind z (upd (q_Pe_kind z) (q_Pe_size z).toNatClampNeg x1))) (q_Pe_size z).toNatClampNeg x2)) (upd (q_Pe_strength (u_Pe_v (u_Pe_kind z (upd (q_Pe_kind z) (q_Pe_size z).toNatClampNeg x1)) (upd (q_Pe_v (u_Pe_kind z (upd (q_Pe_kind z) (q_Pe_size z).toNatClampNeg x1))) (q_Pe_size z).toNatClampNeg x2))) (q_Pe_size z).toNatClampNeg x3)) (upd (q_Pe_age (u_Pe_strength (u_Pe_v (u_Pe_kind z (upd (q_Pe_kind z) (q_Pe_size z).toNatClampNeg x1)) (upd (q_Pe_v (u_Pe_kind z (upd (q_Pe_kind z) (q_Pe_size z).toNatClampNeg x1))) (q_Pe_size z).toNatClampNeg x2)) (upd (q_Pe_strength (u_Pe_v (u_Pe_kind z (upd (q_Pe_kind z) (q_Pe_size z).toNatClampNeg x1)) (upd (q_Pe_v (u_Pe_kind z (upd (q_Pe_kind z) (q_Pe_size z).toNatClampNeg x1))) (q_Pe_size z).toNatClampNeg x2))) (q_Pe_size z).toNatClampNeg x3))) (q_Pe_size z).toNatClampNeg x4))) := hD
  refine lv_aload_n hx hb d_Pe_add_39 rfl (lv_at hl 1 rfl) ?_
  refine va_get (D := D) (ci := 5) (v := .ref (a 5)) (C := R_Pe) (T := F_Pe) (N := 7) hx hb hg i_Pe hown hK hP 0 rfl rfl 5 (by decide) (hg _ g_158) (fun _ h9 => h9) rfl d_Pe_add_40 ?_
  refine lv_iload hx hb d_Pe_add_43 (lv_at hl 0 rfl) ?_
  refine lv_iconst (v := 0) hx hb d_Pe_add_45 (by decide) ?_
  obtain ⟨h_1, hd⟩ := ite_s hd
  refine iastK hx hb hK hP hD hS 5 0 rfl rfl (inb_t h_1) rfl d_Pe_add_46 (fun H locs hP hD hS => ?_)
  have hP : va_P D classes (ws_Pe g a (u_Pe_rowSize (u_Pe_age (u_Pe_strength (u_Pe_v (u_Pe_kind z (upd (q_Pe_kind z) (q_Pe_size z).toNatClampNeg x1)) (upd (q_Pe_v (u_Pe_kind z (upd (q_Pe_kind z) (q_Pe_size z).toNatClampNeg x1))) (q_Pe_size z).toNatClampNeg x2)) (upd (q_Pe_strength (u_Pe_v (u_Pe_kind z (upd (q_Pe_kind z) (q_Pe_size z).toNatClampNeg x1)) (upd (q_Pe_v (u_Pe_kind z (upd (q_Pe_kind z) (q_Pe_size z).toNatClampNeg x1))) (q_Pe_size z).toNatClampNeg x2))) (q_Pe_size z).toNatClampNeg x3)) (upd (q_Pe_age (u_Pe_strength (u_Pe_v (u_Pe_kind z (upd (q_Pe_kind z) (q_Pe_size z).toNatClampNeg x1)) (upd (q_Pe_v (u_Pe_kind z (upd (q_Pe_kind z) (q_Pe_size z).toNatClampNeg x1))) (q_Pe_size z).toNatClampNeg x2)) (upd (q_Pe_strength (u_Pe_v (u_Pe_kind z (upd (q_Pe_kind z) (q_Pe_size z).toNatClampNeg x1)) (upd (q_Pe_v (u_Pe_kind z (upd (q_Pe_kind z) (q_Pe_size z).toNatClampNeg x1))) (q_Pe_size z).toNatClampNeg x2))) (q_Pe_size z).toNatClampNeg x3))) (q_Pe_size z).toNatClampNeg x4)) (upd (q_Pe_rowSize (u_Pe_age (u_Pe_strength (u_Pe_v (u_Pe_kind z (upd (q_Pe_kind z) (q_Pe_size z).toNatClampNeg x1)) (upd (q_Pe_v (u_Pe_kind z (upd (q_Pe_kind z) (q_Pe_size z).toNatClampNeg x1))) (q_Pe_size z).toNatClampNeg x2)) (upd (q_Pe_strength (u_Pe_v (u_Pe_kind z (upd (q_Pe_kind z) (q_Pe_size z).toNatClampNeg x1)) (upd (q_Pe_v (u_Pe_kind z (upd (q_Pe_kind z) (q_Pe_size z).toNatClampNeg x1))) (q_Pe_size z).toNatClampNeg x2))) (q_Pe_size z).toNatClampNeg x3)) (upd (q_Pe_age (u_Pe_strength (u_Pe_v (u_Pe_kind z (upd (q_Pe_kind z) (q_Pe_size z).toNatClampNeg x1)) (upd (q_Pe_v (u_Pe_kind z (upd (q_Pe_kind z) (q_Pe_size z).toNatClampNeg x1))) (q_Pe_size z).toNatClampNeg x2)) (upd (q_Pe_strength (u_Pe_v (u_Pe_kind z (upd (q_Pe_kind z) (q_Pe_size z).toNatClampNeg x1)) (upd (q_Pe_v (u_Pe_kind z (upd (q_Pe_kind z) (q_Pe_size z).toNatClampNeg x1))) (q_Pe_size z).toNatClampNeg x2))) (q_Pe_size z).toNatClampNeg x3))) (q_Pe_size z).toNatClampNeg x4))) (q_Pe_size z).toNatClampNeg 0))) H := hP
  have hD : va_D A (ws_Pe g a (u_Pe_rowSize (u_Pe_age (u_Pe_strength (u_Pe_v (u_Pe_kind z (upd (q_Pe_kind z) (q_Pe_size z).toNatClampNeg x1)) (upd (q_Pe_v (u_Pe_kind z (upd (q_Pe_kind z) (q_Pe_size z).toNatClampNeg x1))) (q_Pe_size z).toNatClampNeg x2)) (upd (q_Pe_strength (u_Pe_v (u_Pe_kind z (upd (q_Pe_kind z) (q_Pe_size z).toNatClampNeg x1)) (upd (q_Pe_v (u_Pe_kind z (upd (q_Pe_kind z) (q_Pe_size z).toNatClampNeg x1))) (q_Pe_size z).toNatClampNeg x2))) (q_Pe_size z).toNatClampNeg x3)) (upd (q_Pe_age (u_Pe_strength (u_Pe_v (u_Pe_kind z (upd (q_Pe_kind z) (q_Pe_size z).toNatClampNeg x1)) (upd (q_Pe_v (u_Pe_kind z (upd (q_Pe_kind z) (q_Pe_size z).toNatClampNeg x1))) (q_Pe_size z).toNatClampNeg x2)) (upd (q_Pe_strength (u_Pe_v (u_Pe_kind z (upd (q_Pe_kind z) (q_Pe_size z).toNatClampNeg x1)) (upd (q_Pe_v (u_Pe_kind z (upd (q_Pe_kind z) (q_Pe_size z).toNatClampNeg x1))) (q_Pe_size z).toNatClampNeg x2))) (q_Pe_size z).toNatClampNeg x3))) (q_Pe_size z).toNatClampNeg x4)) (upd (q_Pe_rowSize (u_Pe_age (u_Pe_strength (u_Pe_v (u_Pe_kind z (upd (q_Pe_kind z) (q_Pe_size z).toNatClampNeg x1)) (upd (q_Pe_v (u_Pe_kind z (upd (q_Pe_kind z) (q_Pe_size z).toNatClampNeg x1))) (q_Pe_size z).toNatClampNeg x2)) (upd (q_Pe_strength (u_Pe_v (u_Pe_kind z (upd (q_Pe_kind z) (q_Pe_size z).toNatClampNeg x1)) (upd (q_Pe_v (u_Pe_kind z (upd (q_Pe_kind z) (q_Pe_size z).toNatClampNeg x1))) (q_Pe_size z).toNatClampNeg x2))) (q_Pe_size z).toNatClampNeg x3)) (upd (q_Pe_age (u_Pe_strength (u_Pe_v (u_Pe_kind z (upd (q_Pe_kind z) (q_Pe_size z).toNatClampNeg x1)) (upd (q_Pe_v (u_Pe_kind z (upd (q_Pe_kind z) (q_Pe_size z).toNatClampNeg x1))) (q_Pe_size z).toNatClampNeg x2)) (upd (q_Pe_strength (u_Pe_v (u_Pe_kind z (upd (q_Pe_kind z) (q_Pe_size z).toNatClampNeg x1)) (upd (q_Pe_v (u_Pe_kind z (upd (q_Pe_kind z) (q_Pe_size z).toNatClampNeg x1))) (q_Pe_size z).toNatClampNeg x2))) (q_Pe_size z).toNatClampNeg x3))) (q_Pe_size z).toNatClampNeg x4))) (q_Pe_size z).toNatClampNeg 0))) := hD
  refine lv_aload_n hx hb d_Pe_add_47 rfl (lv_at hl 1 rfl) ?_
  refine lv_dup hx hb d_Pe_add_48 rfl ?_
  refine va_get (D := D) (ci := 5) (v := .int (q_Pe_size (u_Pe_rowSize (u_Pe_age (u_Pe_strength (u_Pe_v (u_Pe_kind z (upd (q_Pe_kind z) (q_Pe_size z).toNatClampNeg x1)) (upd (q_Pe_v (u_Pe_kind z (upd (q_Pe_kind z) (q_Pe_size z).toNatClampNeg x1))) (q_Pe_size z).toNatClampNeg x2)) (upd (q_Pe_strength (u_Pe_v (u_Pe_kind z (upd (q_Pe_kind z) (q_Pe_size z).toNatClampNeg x1)) (upd (q_Pe_v (u_Pe_kind z (upd (q_Pe_kind z) (q_Pe_size z).toNatClampNeg x1))) (q_Pe_size z).toNatClampNeg x2))) (q_Pe_size z).toNatClampNeg x3)) (upd (q_Pe_age (u_Pe_strength (u_Pe_v (u_Pe_kind z (upd (q_Pe_kind z) (q_Pe_size z).toNatClampNeg x1)) (upd (q_Pe_v (u_Pe_kind z (upd (q_Pe_kind z) (q_Pe_size z).toNatClampNeg x1))) (q_Pe_size z).toNatClampNeg x2)) (upd (q_Pe_strength (u_Pe_v (u_Pe_kind z (upd (q_Pe_kind z) (q_Pe_size z).toNatClampNeg x1)) (upd (q_Pe_v (u_Pe_kind z (upd (q_Pe_kind z) (q_Pe_size z).toNatClampNeg x1))) (q_Pe_size z).toNatClampNeg x2))) (q_Pe_size z).toNatClampNeg x3))) (q_Pe_size z).toNatClampNeg x4)) (upd (q_Pe_rowSize (u_Pe_age (u_Pe_strength (u_Pe_v (u_Pe_kind z (upd (q_Pe_kind z) (q_Pe_size z).toNatClampNeg x1)) (upd (q_Pe_v (u_Pe_kind z (upd (q_Pe_kind z) (q_Pe_size z).toNatClampNeg x1))) (q_Pe_size z).toNatClampNeg x2)) (upd (q_Pe_strength (u_Pe_v (u_Pe_kind z (upd (q_Pe_kind z) (q_Pe_size z).toNatClampNeg x1)) (upd (q_Pe_v (u_Pe_kind z (upd (q_Pe_kind z) (q_Pe_size z).toNatClampNeg x1))) (q_Pe_size z).toNatClampNeg x2))) (q_Pe_size z).toNatClampNeg x3)) (upd (q_Pe_age (u_Pe_strength (u_Pe_v (u_Pe_kind z (upd (q_Pe_kind z) (q_Pe_size z).toNatClampNeg x1)) (upd (q_Pe_v (u_Pe_kind z (upd (q_Pe_kind z) (q_Pe_size z).toNatClampNeg x1))) (q_Pe_size z).toNatClampNeg x2)) (upd (q_Pe_strength (u_Pe_v (u_Pe_kind z (upd (q_Pe_kind z) (q_Pe_size z).toNatClampNeg x1)) (upd (q_Pe_v (u_Pe_kind z (upd (q_Pe_kind z) (q_Pe_size z).toNatClampNeg x1))) (q_Pe_size z).toNatClampNeg x2))) (q_Pe_size z).toNatClampNeg x3))) (q_Pe_size z).toNatClampNeg x4))) (q_Pe_size z).toNatClampNeg 0)))) (C := R_Pe) (T := F_Pe) (N := 7) hx hb hg i_Pe hown hK hP 0 rfl rfl 0 (by decide) (hg _ g_140) (fun _ h9 => h9) rfl d_Pe_add_49 ?_
  refine lv_iconst (v := 1) hx hb d_Pe_add_52 (by decide) ?_
  refine lv_iadd hx hb d_Pe_add_53 ?_
  refine va_put (D := D) (ci := 5) (v := .int ((q_Pe_size (u_Pe_rowSize (u_Pe_age (u_Pe_strength (u_Pe_v (u_Pe_kind z (upd (q_Pe_kind z) (q_Pe_size z).toNatClampNeg x1)) (upd (q_Pe_v (u_Pe_kind z (upd (q_Pe_kind z) (q_Pe_size z).toNatClampNeg x1))) (q_Pe_size z).toNatClampNeg x2)) (upd (q_Pe_strength (u_Pe_v (u_Pe_kind z (upd (q_Pe_kind z) (q_Pe_size z).toNatClampNeg x1)) (upd (q_Pe_v (u_Pe_kind z (upd (q_Pe_kind z) (q_Pe_size z).toNatClampNeg x1))) (q_Pe_size z).toNatClampNeg x2))) (q_Pe_size z).toNatClampNeg x3)) (upd (q_Pe_age (u_Pe_strength (u_Pe_v (u_Pe_kind z (upd (q_Pe_kind z) (q_Pe_size z).toNatClampNeg x1)) (upd (q_Pe_v (u_Pe_kind z (upd (q_Pe_kind z) (q_Pe_size z).toNatClampNeg x1))) (q_Pe_size z).toNatClampNeg x2)) (upd (q_Pe_strength (u_Pe_v (u_Pe_kind z (upd (q_Pe_kind z) (q_Pe_size z).toNatClampNeg x1)) (upd (q_Pe_v (u_Pe_kind z (upd (q_Pe_kind z) (q_Pe_size z).toNatClampNeg x1))) (q_Pe_size z).toNatClampNeg x2))) (q_Pe_size z).toNatClampNeg x3))) (q_Pe_size z).toNatClampNeg x4)) (upd (q_Pe_rowSize (u_Pe_age (u_Pe_strength (u_Pe_v (u_Pe_kind z (upd (q_Pe_kind z) (q_Pe_size z).toNatClampNeg x1)) (upd (q_Pe_v (u_Pe_kind z (upd (q_Pe_kind z) (q_Pe_size z).toNatClampNeg x1))) (q_Pe_size z).toNatClampNeg x2)) (upd (q_Pe_strength (u_Pe_v (u_Pe_kind z (upd (q_Pe_kind z) (q_Pe_size z).toNatClampNeg x1)) (upd (q_Pe_v (u_Pe_kind z (upd (q_Pe_kind z) (q_Pe_size z).toNatClampNeg x1))) (q_Pe_size z).toNatClampNeg x2))) (q_Pe_size z).toNatClampNeg x3)) (upd (q_Pe_age (u_Pe_strength (u_Pe_v (u_Pe_kind z (upd (q_Pe_kind z) (q_Pe_size z).toNatClampNeg x1)) (upd (q_Pe_v (u_Pe_kind z (upd (q_Pe_kind z) (q_Pe_size z).toNatClampNeg x1))) (q_Pe_size z).toNatClampNeg x2)) (upd (q_Pe_strength (u_Pe_v (u_Pe_kind z (upd (q_Pe_kind z) (q_Pe_size z).toNatClampNeg x1)) (upd (q_Pe_v (u_Pe_kind z (upd (q_Pe_kind z) (q_Pe_size z).toNatClampNeg x1))) (q_Pe_size z).toNatClampNeg x2))) (q_Pe_size z).toNatClampNeg x3))) (q_Pe_size z).toNatClampNeg x4))) (q_Pe_size z).toNatClampNeg 0))) + 1)) (ty := .int) (C := R_Pe) (T := F_Pe) (N := 7) hx hb hg i_Pe t_Pe t_Pe_ok n_Pe hown hK hP hD hS 0 rfl rfl 0 (by decide) (hg _ g_140) (fun _ h9 => h9) rfl (by decide +kernel) rfl rfl (Nat.le_of_ble_eq_true rfl) d_Pe_add_54 (fun H locs hP hD hS => ?_)
  have hP : va_P D classes (ws_Pe g a (u_Pe_size (u_Pe_rowSize (u_Pe_age (u_Pe_strength (u_Pe_v (u_Pe_kind z (upd (q_Pe_kind z) (q_Pe_size z).toNatClampNeg x1)) (upd (q_Pe_v (u_Pe_kind z (upd (q_Pe_kind z) (q_Pe_size z).toNatClampNeg x1))) (q_Pe_size z).toNatClampNeg x2)) (upd (q_Pe_strength (u_Pe_v (u_Pe_kind z (upd (q_Pe_kind z) (q_Pe_size z).toNatClampNeg x1)) (upd (q_Pe_v (u_Pe_kind z (upd (q_Pe_kind z) (q_Pe_size z).toNatClampNeg x1))) (q_Pe_size z).toNatClampNeg x2))) (q_Pe_size z).toNatClampNeg x3)) (upd (q_Pe_age (u_Pe_strength (u_Pe_v (u_Pe_kind z (upd (q_Pe_kind z) (q_Pe_size z).toNatClampNeg x1)) (upd (q_Pe_v (u_Pe_kind z (upd (q_Pe_kind z) (q_Pe_size z).toNatClampNeg x1))) (q_Pe_size z).toNatClampNeg x2)) (upd (q_Pe_strength (u_Pe_v (u_Pe_kind z (upd (q_Pe_kind z) (q_Pe_size z).toNatClampNeg x1)) (upd (q_Pe_v (u_Pe_kind z (upd (q_Pe_kind z) (q_Pe_size z).toNatClampNeg x1))) (q_Pe_size z).toNatClampNeg x2))) (q_Pe_size z).toNatClampNeg x3))) (q_Pe_size z).toNatClampNeg x4)) (upd (q_Pe_rowSize (u_Pe_age (u_Pe_strength (u_Pe_v (u_Pe_kind z (upd (q_Pe_kind z) (q_Pe_size z).toNatClampNeg x1)) (upd (q_Pe_v (u_Pe_kind z (upd (q_Pe_kind z) (q_Pe_size z).toNatClampNeg x1))) (q_Pe_size z).toNatClampNeg x2)) (upd (q_Pe_strength (u_Pe_v (u_Pe_kind z (upd (q_Pe_kind z) (q_Pe_size z).toNatClampNeg x1)) (upd (q_Pe_v (u_Pe_kind z (upd (q_Pe_kind z) (q_Pe_size z).toNatClampNeg x1))) (q_Pe_size z).toNatClampNeg x2))) (q_Pe_size z).toNatClampNeg x3)) (upd (q_Pe_age (u_Pe_strength (u_Pe_v (u_Pe_kind z (upd (q_Pe_kind z) (q_Pe_size z).toNatClampNeg x1)) (upd (q_Pe_v (u_Pe_kind z (upd (q_Pe_kind z) (q_Pe_size z).toNatClampNeg x1))) (q_Pe_size z).toNatClampNeg x2)) (upd (q_Pe_strength (u_Pe_v (u_Pe_kind z (upd (q_Pe_kind z) (q_Pe_size z).toNatClampNeg x1)) (upd (q_Pe_v (u_Pe_kind z (upd (q_Pe_kind z) (q_Pe_size z).toNatClampNeg x1))) (q_Pe_size z).toNatClampNeg x2))) (q_Pe_size z).toNatClampNeg x3))) (q_Pe_size z).toNatClampNeg x4))) (q_Pe_size z).toNatClampNeg 0)) ((q_Pe_size (u_Pe_rowSize (u_Pe_age (u_Pe_strength (u_Pe_v (u_Pe_kind z (upd (q_Pe_kind z) (q_Pe_size z).toNatClampNeg x1)) (upd (q_Pe_v (u_Pe_kind z (upd (q_Pe_kind z) (q_Pe_size z).toNatClampNeg x1))) (q_Pe_size z).toNatClampNeg x2)) (upd (q_Pe_strength (u_Pe_v (u_Pe_kind z (upd (q_Pe_kind z) (q_Pe_size z).toNatClampNeg x1)) (upd (q_Pe_v (u_Pe_kind z (upd (q_Pe_kind z) (q_Pe_size z).toNatClampNeg x1))) (q_Pe_size z).toNatClampNeg x2))) (q_Pe_size z).toNatClampNeg x3)) (upd (q_Pe_age (u_Pe_strength (u_Pe_v (u_Pe_kind z (upd (q_Pe_kind z) (q_Pe_size z).toNatClampNeg x1)) (upd (q_Pe_v (u_Pe_kind z (upd (q_Pe_kind z) (q_Pe_size z).toNatClampNeg x1))) (q_Pe_size z).toNatClampNeg x2)) (upd (q_Pe_strength (u_Pe_v (u_Pe_kind z (upd (q_Pe_kind z) (q_Pe_size z).toNatClampNeg x1)) (upd (q_Pe_v (u_Pe_kind z (upd (q_Pe_kind z) (q_Pe_size z).toNatClampNeg x1))) (q_Pe_size z).toNatClampNeg x2))) (q_Pe_size z).toNatClampNeg x3))) (q_Pe_size z).toNatClampNeg x4)) (upd (q_Pe_rowSize (u_Pe_age (u_Pe_strength (u_Pe_v (u_Pe_kind z (upd (q_Pe_kind z) (q_Pe_size z).toNatClampNeg x1)) (upd (q_Pe_v (u_Pe_kind z (upd (q_Pe_kind z) (q_Pe_size z).toNatClampNeg x1))) (q_Pe_size z).toNatClampNeg x2)) (upd (q_Pe_strength (u_Pe_v (u_Pe_kind z (upd (q_Pe_kind z) (q_Pe_size z).toNatClampNeg x1)) (upd (q_Pe_v (u_Pe_kind z (upd (q_Pe_kind z) (q_Pe_size z).toNatClampNeg x1))) (q_Pe_size z).toNatClampNeg x2))) (q_Pe_size z).toNatClampNeg x3)) (upd (q_Pe_age (u_Pe_strength (u_Pe_v (u_Pe_kind z (upd (q_Pe_kind z) (q_Pe_size z).toNatClampNeg x1)) (upd (q_Pe_v (u_Pe_kind z (upd (q_Pe_kind z) (q_Pe_size z).toNatClampNeg x1))) (q_Pe_size z).toNatClampNeg x2)) (upd (q_Pe_strength (u_Pe_v (u_Pe_kind z (upd (q_Pe_kind z) (q_Pe_size z).toNatClampNeg x1)) (upd (q_Pe_v (u_Pe_kind z (upd (q_Pe_kind z) (q_Pe_size z).toNatClampNeg x1))) (q_Pe_size z).toNatClampNeg x2))) (q_Pe_size z).toNatClampNeg x3))) (q_Pe_size z).toNatClampNeg x4))) (q_Pe_size z).toNatClampNeg 0))) + 1))) H := hP
  have hD : va_D A (ws_Pe g a (u_Pe_size (u_Pe_rowSize (u_Pe_age (u_Pe_strength (u_Pe_v (u_Pe_kind z (upd (q_Pe_kind z) (q_Pe_size z).toNatClampNeg x1)) (upd (q_Pe_v (u_Pe_kind z (upd (q_Pe_kind z) (q_Pe_size z).toNatClampNeg x1))) (q_Pe_size z).toNatClampNeg x2)) (upd (q_Pe_strength (u_Pe_v (u_Pe_kind z (upd (q_Pe_kind z) (q_Pe_size z).toNatClampNeg x1)) (upd (q_Pe_v (u_Pe_kind z (upd (q_Pe_kind z) (q_Pe_size z).toNatClampNeg x1))) (q_Pe_size z).toNatClampNeg x2))) (q_Pe_size z).toNatClampNeg x3)) (upd (q_Pe_age (u_Pe_strength (u_Pe_v (u_Pe_kind z (upd (q_Pe_kind z) (q_Pe_size z).toNatClampNeg x1)) (upd (q_Pe_v (u_Pe_kind z (upd (q_Pe_kind z) (q_Pe_size z).toNatClampNeg x1))) (q_Pe_size z).toNatClampNeg x2)) (upd (q_Pe_strength (u_Pe_v (u_Pe_kind z (upd (q_Pe_kind z) (q_Pe_size z).toNatClampNeg x1)) (upd (q_Pe_v (u_Pe_kind z (upd (q_Pe_kind z) (q_Pe_size z).toNatClampNeg x1))) (q_Pe_size z).toNatClampNeg x2))) (q_Pe_size z).toNatClampNeg x3))) (q_Pe_size z).toNatClampNeg x4)) (upd (q_Pe_rowSize (u_Pe_age (u_Pe_strength (u_Pe_v (u_Pe_kind z (upd (q_Pe_kind z) (q_Pe_size z).toNatClampNeg x1)) (upd (q_Pe_v (u_Pe_kind z (upd (q_Pe_kind z) (q_Pe_size z).toNatClampNeg x1))) (q_Pe_size z).toNatClampNeg x2)) (upd (q_Pe_strength (u_Pe_v (u_Pe_kind z (upd (q_Pe_kind z) (q_Pe_size z).toNatClampNeg x1)) (upd (q_Pe_v (u_Pe_kind z (upd (q_Pe_kind z) (q_Pe_size z).toNatClampNeg x1))) (q_Pe_size z).toNatClampNeg x2))) (q_Pe_size z).toNatClampNeg x3)) (upd (q_Pe_age (u_Pe_strength (u_Pe_v (u_Pe_kind z (upd (q_Pe_kind z) (q_Pe_size z).toNatClampNeg x1)) (upd (q_Pe_v (u_Pe_kind z (upd (q_Pe_kind z) (q_Pe_size z).toNatClampNeg x1))) (q_Pe_size z).toNatClampNeg x2)) (upd (q_Pe_strength (u_Pe_v (u_Pe_kind z (upd (q_Pe_kind z) (q_Pe_size z).toNatClampNeg x1)) (upd (q_Pe_v (u_Pe_kind z (upd (q_Pe_kind z) (q_Pe_size z).toNatClampNeg x1))) (q_Pe_size z).toNatClampNeg x2))) (q_Pe_size z).toNatClampNeg x3))) (q_Pe_size z).toNatClampNeg x4))) (q_Pe_size z).toNatClampNeg 0)) ((q_Pe_size (u_Pe_rowSize (u_Pe_age (u_Pe_strength (u_Pe_v (u_Pe_kind z (upd (q_Pe_kind z) (q_Pe_size z).toNatClampNeg x1)) (upd (q_Pe_v (u_Pe_kind z (upd (q_Pe_kind z) (q_Pe_size z).toNatClampNeg x1))) (q_Pe_size z).toNatClampNeg x2)) (upd (q_Pe_strength (u_Pe_v (u_Pe_kind z (upd (q_Pe_kind z) (q_Pe_size z).toNatClampNeg x1)) (upd (q_Pe_v (u_Pe_kind z (upd (q_Pe_kind z) (q_Pe_size z).toNatClampNeg x1))) (q_Pe_size z).toNatClampNeg x2))) (q_Pe_size z).toNatClampNeg x3)) (upd (q_Pe_age (u_Pe_strength (u_Pe_v (u_Pe_kind z (upd (q_Pe_kind z) (q_Pe_size z).toNatClampNeg x1)) (upd (q_Pe_v (u_Pe_kind z (upd (q_Pe_kind z) (q_Pe_size z).toNatClampNeg x1))) (q_Pe_size z).toNatClampNeg x2)) (upd (q_Pe_strength (u_Pe_v (u_Pe_kind z (upd (q_Pe_kind z) (q_Pe_size z).toNatClampNeg x1)) (upd (q_Pe_v (u_Pe_kind z (upd (q_Pe_kind z) (q_Pe_size z).toNatClampNeg x1))) (q_Pe_size z).toNatClampNeg x2))) (q_Pe_size z).toNatClampNeg x3))) (q_Pe_size z).toNatClampNeg x4)) (upd (q_Pe_rowSize (u_Pe_age (u_Pe_strength (u_Pe_v (u_Pe_kind z (upd (q_Pe_kind z) (q_Pe_size z).toNatClampNeg x1)) (upd (q_Pe_v (u_Pe_kind z (upd (q_Pe_kind z) (q_Pe_size z).toNatClampNeg x1))) (q_Pe_size z).toNatClampNeg x2)) (upd (q_Pe_strength (u_Pe_v (u_Pe_kind z (upd (q_Pe_kind z) (q_Pe_size z).toNatClampNeg x1)) (upd (q_Pe_v (u_Pe_kind z (upd (q_Pe_kind z) (q_Pe_size z).toNatClampNeg x1))) (q_Pe_size z).toNatClampNeg x2))) (q_Pe_size z).toNatClampNeg x3)) (upd (q_Pe_age (u_Pe_strength (u_Pe_v (u_Pe_kind z (upd (q_Pe_kind z) (q_Pe_size z).toNatClampNeg x1)) (upd (q_Pe_v (u_Pe_kind z (upd (q_Pe_kind z) (q_Pe_size z).toNatClampNeg x1))) (q_Pe_size z).toNatClampNeg x2)) (upd (q_Pe_strength (u_Pe_v (u_Pe_kind z (upd (q_Pe_kind z) (q_Pe_size z).toNatClampNeg x1)) (upd (q_Pe_v (u_Pe_kind z (upd (q_Pe_kind z) (q_Pe_size z).toNatClampNeg x1))) (q_Pe_size z).toNatClampNeg x2))) (q_Pe_size z).toNatClampNeg x3))) (q_Pe_size z).toNatClampNeg x4))) (q_Pe_size z).toNatClampNeg 0))) + 1))) := hD
  refine lv_iload hx hb d_Pe_add_57 (lv_at hl 0 rfl) ?_
  obtain rfl := Option.some.inj hd
  exact retI hx hb hr hlk hK hP hD hS d_Pe_add_59 rfl
-- OwnsLift$People.has(I)Z
def d_Pe_has (x1 : Int32) (z : T_Pe) : Option (Int32) :=
  if x1 < 0 then (some (0)) else (if (q_Pe_size z) ≤ x1 then (some (0)) else (some (1)))
theorem d_Pe_has_0 : decode b_Pe_has 0 = .ok (.iload_n 1, 1) := by decide +kernel
theorem d_Pe_has_1 : decode b_Pe_has 1 = .ok (.ifCond .lt 15, 3) := by decide +kernel
theorem d_Pe_has_4 : decode b_Pe_has 4 = .ok (.iload_n 1, 1) := by decide +kernel
theorem d_Pe_has_5 : decode b_Pe_has 5 = .ok (.aload_n 0, 1) := by decide +kernel
theorem d_Pe_has_6 : decode b_Pe_has 6 = .ok (.getfield 32, 3) := by decide +kernel
theorem d_Pe_has_9 : decode b_Pe_has 9 = .ok (.if_icmp .ge 7, 3) := by decide +kernel
theorem d_Pe_has_12 : decode b_Pe_has 12 = .ok (.iconst 1, 1) := by decide +kernel
theorem d_Pe_has_13 : decode b_Pe_has 13 = .ok (.goto 4, 3) := by decide +kernel
theorem d_Pe_has_16 : decode b_Pe_has 16 = .ok (.iconst 0, 1) := by decide +kernel
theorem d_Pe_has_17 : decode b_Pe_has 17 = .ok (.ireturn, 1) := by decide +kernel
theorem o_Pe_has : OkV y_Pe_has "OwnsLift$People" b_Pe_has 2 (some .boolean) 1 := ⟨⟨rfl, by decide +kernel, by decide +kernel, by decide +kernel⟩, g_630, g_631, g_74, g_632⟩
set_option maxHeartbeats 4000000 in
set_option maxRecDepth 100000 in
theorem c_Pe_has (l : Launch) (D : va_G) (g : Nat → ClassId) (a : Nat → Nat) (x1 : Int32) (z : T_Pe) (v : Int32) (h : d_Pe_has x1 z = some v) :
    MI l y_Pe_has b_Pe_has 2 .boolean ({ frames := 0, cells := 0, slots := 0, locals := 0 } : Room) D g [.ref (a 0), .int x1] (ws_Pe g a z) (v) (ws_Pe g a z) := by
  have hd := h
  unfold d_Pe_has at hd
  refine enterI rfl (Nat.le_of_ble_eq_true rfl) (fun p e s m below meth c A ls hx hb hml hr hown hg hlk hK hA hP hD hS hCs hl => ?_)
  have hown : s.vm.findClass "OwnsLift$People" = some m.cls := hown
  have hl : lv_has ls 2 [(0, .ref (a 0)), (1, .int x1)] := hl
  show GI p l e s m ({ frames := 0, cells := 0, slots := 0, locals := 0 } : Room) ([.ref (a 0), .int x1] : List Value).toArray below meth c A D g (ws_Pe g a z) (v) s.heap [] (F0 m 0 ls [])
  refine lv_iload_n hx hb d_Pe_has_0 rfl (lv_at hl 1 rfl) ?_
  refine lv_if_lt (tgt := 16) hx hb d_Pe_has_1 (by decide) (fun h_1 => ?_) (fun h_1 => ?_)
  · have hd := ite_t hd h_1
    refine lv_iconst (v := 0) hx hb d_Pe_has_16 (by decide) ?_
    obtain rfl := Option.some.inj hd
    exact retZ hx hb hr hlk hK hP hD hS d_Pe_has_17 rfl (by decide +kernel)
  · have hd := ite_f hd h_1
    refine lv_iload_n hx hb d_Pe_has_4 rfl (lv_at hl 1 rfl) ?_
    refine lv_aload_n hx hb d_Pe_has_5 rfl (lv_at hl 0 rfl) ?_
    refine va_get (D := D) (ci := 5) (v := .int (q_Pe_size z)) (C := R_Pe) (T := F_Pe) (N := 7) hx hb hg i_Pe hown hK hP 0 rfl rfl 0 (by decide) (hg _ g_140) (fun _ h9 => h9) rfl d_Pe_has_6 ?_
    refine lv_icmp_ge (tgt := 16) hx hb d_Pe_has_9 (by decide) (fun h_2 => ?_) (fun h_2 => ?_)
    · have hd := ite_t hd h_2
      refine lv_iconst (v := 0) hx hb d_Pe_has_16 (by decide) ?_
      obtain rfl := Option.some.inj hd
      exact retZ hx hb hr hlk hK hP hD hS d_Pe_has_17 rfl (by decide +kernel)
    · have hd := ite_f hd h_2
      refine lv_iconst (v := 1) hx hb d_Pe_has_12 (by decide) ?_
      refine lv_goto (tgt := 17) hx hb d_Pe_has_13 (by decide) ?_
      obtain rfl := Option.some.inj hd
      exact retZ hx hb hr hlk hK hP hD hS d_Pe_has_17 rfl (by decide +kernel)
-- OwnsLift$Land.passes(I[I)Z
def d_La_passes (x0 : Int32) (z : (Nat → Int32)) : Option (Int32) :=
  if inb (x0 / 1000) 6 = true then (if ((x0 / 100) - (x0 / 100) / 10 * 10) = 0 then (if (x0 - x0 / 100 * 100) ≤ (z (x0 / 1000).toNatClampNeg) then (some (0)) else (some (1))) else (if ((x0 / 100) - (x0 / 100) / 10 * 10) = 1 then (if (z (x0 / 1000).toNatClampNeg) = (x0 - x0 / 100 * 100) then (some (1)) else (some (0))) else (if (z (x0 / 1000).toNatClampNeg) ≤ (x0 - x0 / 100 * 100) then (some (0)) else (some (1))))) else none
theorem d_La_passes_0 : decode b_La_passes 0 = .ok (.aload_n 1, 1) := by decide +kernel
theorem d_La_passes_1 : decode b_La_passes 1 = .ok (.iload_n 0, 1) := by decide +kernel
theorem d_La_passes_2 : decode b_La_passes 2 = .ok (.sipush 1000, 3) := by decide +kernel
theorem d_La_passes_5 : decode b_La_passes 5 = .ok (.idiv, 1) := by decide +kernel
theorem d_La_passes_6 : decode b_La_passes 6 = .ok (.iaload, 1) := by decide +kernel
theorem d_La_passes_7 : decode b_La_passes 7 = .ok (.istore_n 2, 1) := by decide +kernel
theorem d_La_passes_8 : decode b_La_passes 8 = .ok (.iload_n 0, 1) := by decide +kernel
theorem d_La_passes_9 : decode b_La_passes 9 = .ok (.bipush 100, 2) := by decide +kernel
theorem d_La_passes_11 : decode b_La_passes 11 = .ok (.irem, 1) := by decide +kernel
theorem d_La_passes_12 : decode b_La_passes 12 = .ok (.istore_n 3, 1) := by decide +kernel
theorem d_La_passes_13 : decode b_La_passes 13 = .ok (.iload_n 0, 1) := by decide +kernel
theorem d_La_passes_14 : decode b_La_passes 14 = .ok (.bipush 100, 2) := by decide +kernel
theorem d_La_passes_16 : decode b_La_passes 16 = .ok (.idiv, 1) := by decide +kernel
theorem d_La_passes_17 : decode b_La_passes 17 = .ok (.bipush 10, 2) := by decide +kernel
theorem d_La_passes_19 : decode b_La_passes 19 = .ok (.irem, 1) := by decide +kernel
theorem d_La_passes_20 : decode b_La_passes 20 = .ok (.lookupswitch 50 #[(0, 28), (1, 39)], 28) := by decide +kernel
theorem d_La_passes_48 : decode b_La_passes 48 = .ok (.iload_n 2, 1) := by decide +kernel
theorem d_La_passes_49 : decode b_La_passes 49 = .ok (.iload_n 3, 1) := by decide +kernel
theorem d_La_passes_50 : decode b_La_passes 50 = .ok (.if_icmp .ge 7, 3) := by decide +kernel
theorem d_La_passes_53 : decode b_La_passes 53 = .ok (.iconst 1, 1) := by decide +kernel
theorem d_La_passes_54 : decode b_La_passes 54 = .ok (.goto 4, 3) := by decide +kernel
theorem d_La_passes_57 : decode b_La_passes 57 = .ok (.iconst 0, 1) := by decide +kernel
theorem d_La_passes_58 : decode b_La_passes 58 = .ok (.ireturn, 1) := by decide +kernel
theorem d_La_passes_59 : decode b_La_passes 59 = .ok (.iload_n 2, 1) := by decide +kernel
theorem d_La_passes_60 : decode b_La_passes 60 = .ok (.iload_n 3, 1) := by decide +kernel
theorem d_La_passes_61 : decode b_La_passes 61 = .ok (.if_icmp .ne 7, 3) := by decide +kernel
theorem d_La_passes_64 : decode b_La_passes 64 = .ok (.iconst 1, 1) := by decide +kernel
theorem d_La_passes_65 : decode b_La_passes 65 = .ok (.goto 4, 3) := by decide +kernel
theorem d_La_passes_68 : decode b_La_passes 68 = .ok (.iconst 0, 1) := by decide +kernel
theorem d_La_passes_69 : decode b_La_passes 69 = .ok (.ireturn, 1) := by decide +kernel
theorem d_La_passes_70 : decode b_La_passes 70 = .ok (.iload_n 2, 1) := by decide +kernel
theorem d_La_passes_71 : decode b_La_passes 71 = .ok (.iload_n 3, 1) := by decide +kernel
theorem d_La_passes_72 : decode b_La_passes 72 = .ok (.if_icmp .le 7, 3) := by decide +kernel
theorem d_La_passes_75 : decode b_La_passes 75 = .ok (.iconst 1, 1) := by decide +kernel
theorem d_La_passes_76 : decode b_La_passes 76 = .ok (.goto 4, 3) := by decide +kernel
theorem d_La_passes_79 : decode b_La_passes 79 = .ok (.iconst 0, 1) := by decide +kernel
theorem d_La_passes_80 : decode b_La_passes 80 = .ok (.ireturn, 1) := by decide +kernel
theorem o_La_passes : OkS y_La_passes b_La_passes 4 (some .boolean) 2 := ⟨⟨by decide +kernel, by decide +kernel, by decide +kernel⟩, g_659, g_73, g_660⟩
set_option maxHeartbeats 4000000 in
set_option maxRecDepth 100000 in
theorem c_La_passes (l : Launch) (D : va_G) (g : Nat → ClassId) (a : Nat → Nat) (x0 : Int32) (z : (Nat → Int32)) (v : Int32) (h : d_La_passes x0 z = some v) :
    MI l y_La_passes b_La_passes 4 .boolean ({ frames := 0, cells := 0, slots := 0, locals := 0 } : Room) D g [.int x0, .ref (a 0)] ([(a 0, .inl (g 0, 6, .inl z))]) (v) ([(a 0, .inl (g 0, 6, .inl z))]) := by
  have hd := h
  unfold d_La_passes at hd
  refine enterI rfl (Nat.le_of_ble_eq_true rfl) (fun p e s m below meth c A ls hx hb hml hr hown hg hlk hK hA hP hD hS hCs hl => ?_)
  have hown : s.vm.findClass "OwnsLift$Land" = some m.cls := hown
  have hl : lv_has ls 4 [(0, .int x0), (1, .ref (a 0))] := hl
  show GI p l e s m ({ frames := 0, cells := 0, slots := 0, locals := 0 } : Room) ([.int x0, .ref (a 0)] : List Value).toArray below meth c A D g ([(a 0, .inl (g 0, 6, .inl z))]) (v) s.heap [] (F0 m 0 ls [])
  refine lv_aload_n hx hb d_La_passes_0 rfl (lv_at hl 1 rfl) ?_
  refine lv_iload_n hx hb d_La_passes_1 rfl (lv_at hl 0 rfl) ?_
  refine lv_sipush (v := 1000) hx hb d_La_passes_2 (by decide) ?_
  refine lv_idiv hx hb d_La_passes_5 (by decide) ?_
  obtain ⟨h_7, hd⟩ := ite_s hd
  refine ialdK hx hb hK hP 0 0 rfl rfl (inb_t h_7) rfl d_La_passes_6 ?_
  refine lv_istore_n (lv' := [(2, .int (z (x0 / 1000).toNatClampNeg)), (0, .int x0), (1, .ref (a 0))]) hx hb d_La_passes_7 rfl hl (by decide) rfl (fun ls hl => ?_)
  refine lv_iload_n hx hb d_La_passes_8 rfl (lv_at hl 1 rfl) ?_
  refine lv_bipush (v := 100) hx hb d_La_passes_9 (by decide) ?_
  refine lv_irem hx hb d_La_passes_11 (by decide) ?_
  refine lv_istore_n (lv' := [(3, .int (x0 - x0 / 100 * 100)), (2, .int (z (x0 / 1000).toNatClampNeg)), (0, .int x0), (1, .ref (a 0))]) hx hb d_La_passes_12 rfl hl (by decide) rfl (fun ls hl => ?_)
  refine lv_iload_n hx hb d_La_passes_13 rfl (lv_at hl 2 rfl) ?_
  refine lv_bipush (v := 100) hx hb d_La_passes_14 (by decide) ?_
  refine lv_idiv hx hb d_La_passes_16 (by decide) ?_
  refine lv_bipush (v := 10) hx hb d_La_passes_17 (by decide) ?_
  refine lv_irem hx hb d_La_passes_19 (by decide) ?_
  by_cases h_1 : ((x0 / 100) - (x0 / 100) / 10 * 10) = 0
  · have hd := ite_t hd h_1
    refine lv_lookup (tgt := 48) hx hb d_La_passes_20 (by decide) (off := 28) (by rw [h_1]; decide) (by decide) ?_
    refine lv_iload_n hx hb d_La_passes_48 rfl (lv_at hl 1 rfl) ?_
    refine lv_iload_n hx hb d_La_passes_49 rfl (lv_at hl 0 rfl) ?_
    refine lv_icmp_ge (tgt := 57) hx hb d_La_passes_50 (by decide) (fun h_2 => ?_) (fun h_2 => ?_)
    · have hd := ite_t hd h_2
      refine lv_iconst (v := 0) hx hb d_La_passes_57 (by decide) ?_
      obtain rfl := Option.some.inj hd
      exact retZ hx hb hr hlk hK hP hD hS d_La_passes_58 rfl (by decide +kernel)
    · have hd := ite_f hd h_2
      refine lv_iconst (v := 1) hx hb d_La_passes_53 (by decide) ?_
      refine lv_goto (tgt := 58) hx hb d_La_passes_54 (by decide) ?_
      obtain rfl := Option.some.inj hd
      exact retZ hx hb hr hlk hK hP hD hS d_La_passes_58 rfl (by decide +kernel)
  have hd := ite_f hd h_1
  by_cases h_3 : ((x0 / 100) - (x0 / 100) / 10 * 10) = 1
  · have hd := ite_t hd h_3
    refine lv_lookup (tgt := 59) hx hb d_La_passes_20 (by decide) (off := 39) (by rw [h_3]; decide) (by decide) ?_
    refine lv_iload_n hx hb d_La_passes_59 rfl (lv_at hl 1 rfl) ?_
    refine lv_iload_n hx hb d_La_passes_60 rfl (lv_at hl 0 rfl) ?_
    refine lv_icmp_ne (tgt := 68) hx hb d_La_passes_61 (by decide) (fun h_4 => ?_) (fun h_4 => ?_)
    · have hd := ite_f hd h_4
      refine lv_iconst (v := 0) hx hb d_La_passes_68 (by decide) ?_
      obtain rfl := Option.some.inj hd
      exact retZ hx hb hr hlk hK hP hD hS d_La_passes_69 rfl (by decide +kernel)
    · have hd := ite_t hd h_4
      refine lv_iconst (v := 1) hx hb d_La_passes_64 (by decide) ?_
      refine lv_goto (tgt := 69) hx hb d_La_passes_65 (by decide) ?_
      obtain rfl := Option.some.inj hd
      exact retZ hx hb hr hlk hK hP hD hS d_La_passes_69 rfl (by decide +kernel)
  have hd := ite_f hd h_3
  have ho_6 : Op.lookupswitch.offset [(0, 28), (1, 39)] 50 (((x0 / 100) - (x0 / 100) / 10 * 10)).toInt = 50 := by
    have q_h_1 : ¬ (0 : Int) = (((x0 / 100) - (x0 / 100) / 10 * 10)).toInt := fun q => h_1 (Int32.toInt_inj.mp (q.symm.trans (by decide)))
    have q_h_3 : ¬ (1 : Int) = (((x0 / 100) - (x0 / 100) / 10 * 10)).toInt := fun q => h_3 (Int32.toInt_inj.mp (q.symm.trans (by decide)))
    rw [Op.lookupswitch.offset_cons, if_neg q_h_1, Op.lookupswitch.offset_cons, if_neg q_h_3, Op.lookupswitch.offset_nil]
  refine lv_lookup (tgt := 70) hx hb d_La_passes_20 (by decide) (off := 50) ho_6 (by decide) ?_
  refine lv_iload_n hx hb d_La_passes_70 rfl (lv_at hl 1 rfl) ?_
  refine lv_iload_n hx hb d_La_passes_71 rfl (lv_at hl 0 rfl) ?_
  refine lv_icmp_le (tgt := 79) hx hb d_La_passes_72 (by decide) (fun h_5 => ?_) (fun h_5 => ?_)
  · have hd := ite_t hd h_5
    refine lv_iconst (v := 0) hx hb d_La_passes_79 (by decide) ?_
    obtain rfl := Option.some.inj hd
    exact retZ hx hb hr hlk hK hP hD hS d_La_passes_80 rfl (by decide +kernel)
  · have hd := ite_f hd h_5
    refine lv_iconst (v := 1) hx hb d_La_passes_75 (by decide) ?_
    refine lv_goto (tgt := 80) hx hb d_La_passes_76 (by decide) ?_
    obtain rfl := Option.some.inj hd
    exact retZ hx hb hr hlk hK hP hD hS d_La_passes_80 rfl (by decide +kernel)
-- OwnsLift$Land.holds(II[I)Z
def B_La_holds_L6 (x2_f6 : Int32) (z : T_La) (w : (Nat → Int32)) (k6_106 : Int32 → Option (Int32)) (self6 : Int32 → Int32 → Option (Int32)) (x4_6 : Int32) (x5_6 : Int32) : Option (Int32) :=
  if x2_f6 ≤ x5_6 then (k6_106 x4_6) else (if inb x5_6 100 = true then (if ((q_La_code z) x5_6.toNatClampNeg) = (-1) then (self6 (x4_6 ^^^ 1) (x5_6 + 1)) else (if ((q_La_code z) x5_6.toNatClampNeg) = (-2) then (self6 ((x4_6 >>> (1 &&& 31)) &&& (x4_6 ||| (-2))) (x5_6 + 1)) else (if ((q_La_code z) x5_6.toNatClampNeg) = (-3) then (self6 ((x4_6 >>> (1 &&& 31)) ||| (x4_6 &&& 1)) (x5_6 + 1)) else ((d_La_passes ((q_La_code z) x5_6.toNatClampNeg) w).bind fun v_5 => if v_5 = 0 then (self6 ((x4_6 <<< (1 &&& 31)) ||| 0) (x5_6 + 1)) else (self6 ((x4_6 <<< (1 &&& 31)) ||| 1) (x5_6 + 1)))))) else none)
def d_La_holds_L6 (x2_f6 : Int32) (z : T_La) (w : (Nat → Int32)) (k6_106 : Int32 → Option (Int32)) (n : Nat) : Int32 → Int32 → Option (Int32) := recN (fun _ _ => none) (fun self => B_La_holds_L6 x2_f6 z w k6_106 self) n
def d_La_holds (x1 : Int32) (x2 : Int32) (z : T_La) (w : (Nat → Int32)) : Option (Int32) :=
  d_La_holds_L6 x2 z w (fun x4_6 => if (x4_6 &&& 1) = 1 then (some (1)) else (some (0))) 1000 0 x1
theorem d_La_holds_0 : decode b_La_holds 0 = .ok (.iconst 0, 1) := by decide +kernel
theorem d_La_holds_1 : decode b_La_holds 1 = .ok (.istore 4, 2) := by decide +kernel
theorem d_La_holds_3 : decode b_La_holds 3 = .ok (.iload_n 1, 1) := by decide +kernel
theorem d_La_holds_4 : decode b_La_holds 4 = .ok (.istore 5, 2) := by decide +kernel
theorem d_La_holds_6 : decode b_La_holds 6 = .ok (.iload 5, 2) := by decide +kernel
theorem d_La_holds_8 : decode b_La_holds 8 = .ok (.iload_n 2, 1) := by decide +kernel
theorem d_La_holds_9 : decode b_La_holds 9 = .ok (.if_icmp .ge 97, 3) := by decide +kernel
theorem d_La_holds_12 : decode b_La_holds 12 = .ok (.aload_n 0, 1) := by decide +kernel
theorem d_La_holds_13 : decode b_La_holds 13 = .ok (.getfield 21, 3) := by decide +kernel
theorem d_La_holds_16 : decode b_La_holds 16 = .ok (.iload 5, 2) := by decide +kernel
theorem d_La_holds_18 : decode b_La_holds 18 = .ok (.iaload, 1) := by decide +kernel
theorem d_La_holds_19 : decode b_La_holds 19 = .ok (.istore 6, 2) := by decide +kernel
theorem d_La_holds_21 : decode b_La_holds 21 = .ok (.iload 6, 2) := by decide +kernel
theorem d_La_holds_23 : decode b_La_holds 23 = .ok (.iconst (-1), 1) := by decide +kernel
theorem d_La_holds_24 : decode b_La_holds 24 = .ok (.if_icmp .ne 12, 3) := by decide +kernel
theorem d_La_holds_27 : decode b_La_holds 27 = .ok (.iload 4, 2) := by decide +kernel
theorem d_La_holds_29 : decode b_La_holds 29 = .ok (.iconst 1, 1) := by decide +kernel
theorem d_La_holds_30 : decode b_La_holds 30 = .ok (.ixor, 1) := by decide +kernel
theorem d_La_holds_31 : decode b_La_holds 31 = .ok (.istore 4, 2) := by decide +kernel
theorem d_La_holds_33 : decode b_La_holds 33 = .ok (.goto 67, 3) := by decide +kernel
theorem d_La_holds_36 : decode b_La_holds 36 = .ok (.iload 6, 2) := by decide +kernel
theorem d_La_holds_38 : decode b_La_holds 38 = .ok (.bipush (-2), 2) := by decide +kernel
theorem d_La_holds_40 : decode b_La_holds 40 = .ok (.if_icmp .ne 18, 3) := by decide +kernel
theorem d_La_holds_43 : decode b_La_holds 43 = .ok (.iload 4, 2) := by decide +kernel
theorem d_La_holds_45 : decode b_La_holds 45 = .ok (.iconst 1, 1) := by decide +kernel
theorem d_La_holds_46 : decode b_La_holds 46 = .ok (.ishr, 1) := by decide +kernel
theorem d_La_holds_47 : decode b_La_holds 47 = .ok (.iload 4, 2) := by decide +kernel
theorem d_La_holds_49 : decode b_La_holds 49 = .ok (.bipush (-2), 2) := by decide +kernel
theorem d_La_holds_51 : decode b_La_holds 51 = .ok (.ior, 1) := by decide +kernel
theorem d_La_holds_52 : decode b_La_holds 52 = .ok (.iand, 1) := by decide +kernel
theorem d_La_holds_53 : decode b_La_holds 53 = .ok (.istore 4, 2) := by decide +kernel
theorem d_La_holds_55 : decode b_La_holds 55 = .ok (.goto 45, 3) := by decide +kernel
theorem d_La_holds_58 : decode b_La_holds 58 = .ok (.iload 6, 2) := by decide +kernel
theorem d_La_holds_60 : decode b_La_holds 60 = .ok (.bipush (-3), 2) := by decide +kernel
theorem d_La_holds_62 : decode b_La_holds 62 = .ok (.if_icmp .ne 17, 3) := by decide +kernel
theorem d_La_holds_65 : decode b_La_holds 65 = .ok (.iload 4, 2) := by decide +kernel
theorem d_La_holds_67 : decode b_La_holds 67 = .ok (.iconst 1, 1) := by decide +kernel
theorem d_La_holds_68 : decode b_La_holds 68 = .ok (.ishr, 1) := by decide +kernel
theorem d_La_holds_69 : decode b_La_holds 69 = .ok (.iload 4, 2) := by decide +kernel
theorem d_La_holds_71 : decode b_La_holds 71 = .ok (.iconst 1, 1) := by decide +kernel
theorem d_La_holds_72 : decode b_La_holds 72 = .ok (.iand, 1) := by decide +kernel
theorem d_La_holds_73 : decode b_La_holds 73 = .ok (.ior, 1) := by decide +kernel
theorem d_La_holds_74 : decode b_La_holds 74 = .ok (.istore 4, 2) := by decide +kernel
theorem d_La_holds_76 : decode b_La_holds 76 = .ok (.goto 24, 3) := by decide +kernel
theorem d_La_holds_79 : decode b_La_holds 79 = .ok (.iload 4, 2) := by decide +kernel
theorem d_La_holds_81 : decode b_La_holds 81 = .ok (.iconst 1, 1) := by decide +kernel
theorem d_La_holds_82 : decode b_La_holds 82 = .ok (.ishl, 1) := by decide +kernel
theorem d_La_holds_83 : decode b_La_holds 83 = .ok (.iload 6, 2) := by decide +kernel
theorem d_La_holds_85 : decode b_La_holds 85 = .ok (.aload_n 3, 1) := by decide +kernel
theorem d_La_holds_86 : decode b_La_holds 86 = .ok (.invokestatic 35, 3) := by decide +kernel
theorem d_La_holds_89 : decode b_La_holds 89 = .ok (.ifCond .eq 7, 3) := by decide +kernel
theorem d_La_holds_92 : decode b_La_holds 92 = .ok (.iconst 1, 1) := by decide +kernel
theorem d_La_holds_93 : decode b_La_holds 93 = .ok (.goto 4, 3) := by decide +kernel
theorem d_La_holds_96 : decode b_La_holds 96 = .ok (.iconst 0, 1) := by decide +kernel
theorem d_La_holds_97 : decode b_La_holds 97 = .ok (.ior, 1) := by decide +kernel
theorem d_La_holds_98 : decode b_La_holds 98 = .ok (.istore 4, 2) := by decide +kernel
theorem d_La_holds_100 : decode b_La_holds 100 = .ok (.iinc 5 1, 3) := by decide +kernel
theorem d_La_holds_103 : decode b_La_holds 103 = .ok (.goto (-97), 3) := by decide +kernel
theorem d_La_holds_106 : decode b_La_holds 106 = .ok (.iload 4, 2) := by decide +kernel
theorem d_La_holds_108 : decode b_La_holds 108 = .ok (.iconst 1, 1) := by decide +kernel
theorem d_La_holds_109 : decode b_La_holds 109 = .ok (.iand, 1) := by decide +kernel
theorem d_La_holds_110 : decode b_La_holds 110 = .ok (.iconst 1, 1) := by decide +kernel
theorem d_La_holds_111 : decode b_La_holds 111 = .ok (.if_icmp .ne 7, 3) := by decide +kernel
theorem d_La_holds_114 : decode b_La_holds 114 = .ok (.iconst 1, 1) := by decide +kernel
theorem d_La_holds_115 : decode b_La_holds 115 = .ok (.goto 4, 3) := by decide +kernel
theorem d_La_holds_118 : decode b_La_holds 118 = .ok (.iconst 0, 1) := by decide +kernel
theorem d_La_holds_119 : decode b_La_holds 119 = .ok (.ireturn, 1) := by decide +kernel
theorem o_La_holds : OkV y_La_holds "OwnsLift$Land" b_La_holds 7 (some .boolean) 3 := ⟨⟨rfl, by decide +kernel, by decide +kernel, by decide +kernel⟩, g_656, g_12, g_73, g_657⟩
set_option maxHeartbeats 4000000 in
set_option maxRecDepth 100000 in
theorem c_La_holds (l : Launch) (D : va_G) (g : Nat → ClassId) (a : Nat → Nat) (b : Nat → Nat) (x1 : Int32) (x2 : Int32) (z : T_La) (w : (Nat → Int32)) (v : Int32) (h : d_La_holds x1 x2 z w = some v) :
    MI l y_La_holds b_La_holds 7 .boolean ({ frames := 1, cells := 0, slots := 0, locals := 23 } : Room) D g [.ref (a 0), .int x1, .int x2, .ref (b 0)] (ws_La g a z ++ [(b 0, .inl (g 0, 6, .inl w))]) (v) (ws_La g a z ++ [(b 0, .inl (g 0, 6, .inl w))]) := by
  have hd := h
  unfold d_La_holds at hd
  refine enterI rfl (Nat.le_of_ble_eq_true rfl) (fun p e s m below meth c A ls hx hb hml hr hown hg hlk hK hA hP hD hS hCs hl => ?_)
  have hown : s.vm.findClass "OwnsLift$Land" = some m.cls := hown
  have hl : lv_has ls 7 [(0, .ref (a 0)), (1, .int x1), (2, .int x2), (3, .ref (b 0))] := hl
  show GI p l e s m ({ frames := 1, cells := 0, slots := 0, locals := 23 } : Room) ([.ref (a 0), .int x1, .int x2, .ref (b 0)] : List Value).toArray below meth c A D g (ws_La g a z ++ [(b 0, .inl (g 0, 6, .inl w))]) (v) s.heap [] (F0 m 0 ls [])
  refine lv_iconst (v := 0) hx hb d_La_holds_0 (by decide) ?_
  refine lv_istore (lv' := [(4, .int 0), (0, .ref (a 0)), (1, .int x1), (2, .int x2), (3, .ref (b 0))]) hx hb d_La_holds_1 hl (by decide) rfl (fun ls hl => ?_)
  refine lv_iload_n hx hb d_La_holds_3 rfl (lv_at hl 2 rfl) ?_
  refine lv_istore (lv' := [(5, .int x1), (4, .int 0), (0, .ref (a 0)), (1, .int x1), (2, .int x2), (3, .ref (b 0))]) hx hb d_La_holds_4 hl (by decide) rfl (fun ls hl => ?_)
  have ex6_106 : ∀ (x4_6 : Int32) (H : Heap) (locs : List Loc) (ls : Array Slot), va_P D classes (ws_La g a z ++ [(b 0, .inl (g 0, 6, .inl w))]) H → va_D A (ws_La g a z ++ [(b 0, .inl (g 0, 6, .inl w))]) → va_S A s.heap H locs → lv_has ls 7 [(4, .int x4_6)] → (if (x4_6 &&& 1) = 1 then (some (1)) else (some (0))) = some v → GI p l e s m ({ frames := 1, cells := 0, slots := 0, locals := 23 } : Room) ([.ref (a 0), .int x1, .int x2, .ref (b 0)] : List Value).toArray below meth c A D g (ws_La g a z ++ [(b 0, .inl (g 0, 6, .inl w))]) (v) H locs (F0 m 106 ls []) := by
    intro x4_6 H locs ls hP hD hS hl hd
    refine lv_iload hx hb d_La_holds_106 (lv_at hl 0 rfl) ?_
    refine lv_iconst (v := 1) hx hb d_La_holds_108 (by decide) ?_
    refine lv_iand hx hb d_La_holds_109 ?_
    refine lv_iconst (v := 1) hx hb d_La_holds_110 (by decide) ?_
    refine lv_icmp_ne (tgt := 118) hx hb d_La_holds_111 (by decide) (fun h_9 => ?_) (fun h_9 => ?_)
    · have hd := ite_f hd h_9
      refine lv_iconst (v := 0) hx hb d_La_holds_118 (by decide) ?_
      obtain rfl := Option.some.inj hd
      exact retZ hx hb hr hlk hK hP hD hS d_La_holds_119 rfl (by decide +kernel)
    · have hd := ite_t hd h_9
      refine lv_iconst (v := 1) hx hb d_La_holds_114 (by decide) ?_
      refine lv_goto (tgt := 119) hx hb d_La_holds_115 (by decide) ?_
      obtain rfl := Option.some.inj hd
      exact retZ hx hb hr hlk hK hP hD hS d_La_holds_119 rfl (by decide +kernel)
  have lp6 : ∀ (x2_f6 : Int32) (k6_106 : Int32 → Option (Int32)) (hk6_106 : ∀ (x4_6 : Int32) (H : Heap) (locs : List Loc) (ls : Array Slot), va_P D classes (ws_La g a z ++ [(b 0, .inl (g 0, 6, .inl w))]) H → va_D A (ws_La g a z ++ [(b 0, .inl (g 0, 6, .inl w))]) → va_S A s.heap H locs → lv_has ls 7 [(4, .int x4_6)] → k6_106 x4_6 = some v → GI p l e s m ({ frames := 1, cells := 0, slots := 0, locals := 23 } : Room) ([.ref (a 0), .int x1, .int x2, .ref (b 0)] : List Value).toArray below meth c A D g (ws_La g a z ++ [(b 0, .inl (g 0, 6, .inl w))]) (v) H locs (F0 m 106 ls [])) (n : Nat) (x4_6 : Int32) (x5_6 : Int32) (H : Heap) (locs : List Loc) (ls : Array Slot), va_P D classes (ws_La g a z ++ [(b 0, .inl (g 0, 6, .inl w))]) H → va_D A (ws_La g a z ++ [(b 0, .inl (g 0, 6, .inl w))]) → va_S A s.heap H locs → lv_has ls 7 [(0, .ref (a 0)), (2, .int x2_f6), (3, .ref (b 0)), (4, .int x4_6), (5, .int x5_6)] → d_La_holds_L6 x2_f6 z w k6_106 n x4_6 x5_6 = some v → GI p l e s m ({ frames := 1, cells := 0, slots := 0, locals := 23 } : Room) ([.ref (a 0), .int x1, .int x2, .ref (b 0)] : List Value).toArray below meth c A D g (ws_La g a z ++ [(b 0, .inl (g 0, 6, .inl w))]) (v) H locs (F0 m 6 ls []) := by
    intro x2_f6 k6_106 hk6_106 n
    induction n with
    | zero =>
      intro  x4_6 x5_6 H locs ls hP hD hS hl hd
      have hd : none = some v := hd
      cases hd
    | succ n ih6 =>
      intro  x4_6 x5_6 H locs ls hP hD hS hl hd
      have hd : B_La_holds_L6 x2_f6 z w k6_106 (d_La_holds_L6 x2_f6 z w k6_106 n) x4_6 x5_6 = some v := hd
      generalize d_La_holds_L6 x2_f6 z w k6_106 n = self6 at ih6 hd
      unfold B_La_holds_L6 at hd
      refine lv_iload hx hb d_La_holds_6 (lv_at hl 4 rfl) ?_
      refine lv_iload_n hx hb d_La_holds_8 rfl (lv_at hl 1 rfl) ?_
      refine lv_icmp_ge (tgt := 106) hx hb d_La_holds_9 (by decide) (fun h_1 => ?_) (fun h_1 => ?_)
      · have hd := ite_t hd h_1
        exact hk6_106 x4_6 _ _ _ hP hD hS (lv_sub hl [3] rfl) hd
      · have hd := ite_f hd h_1
        refine lv_aload_n hx hb d_La_holds_12 rfl (lv_at hl 0 rfl) ?_
        refine va_get (D := D) (ci := 4) (v := .ref (a 4)) (C := R_La) (T := F_La) (N := 6) hx hb hg i_La hown hK hP 0 rfl rfl 4 (by decide) (hg _ g_115) (fun _ h9 => h9) rfl d_La_holds_13 ?_
        refine lv_iload hx hb d_La_holds_16 (lv_at hl 4 rfl) ?_
        obtain ⟨h_8, hd⟩ := ite_s hd
        refine ialdK hx hb hK hP 4 0 rfl rfl (inb_t h_8) rfl d_La_holds_18 ?_
        refine lv_istore (lv' := [(6, .int ((q_La_code z) x5_6.toNatClampNeg)), (0, .ref (a 0)), (2, .int x2_f6), (3, .ref (b 0)), (4, .int x4_6), (5, .int x5_6)]) hx hb d_La_holds_19 hl (by decide) rfl (fun ls hl => ?_)
        refine lv_iload hx hb d_La_holds_21 (lv_at hl 0 rfl) ?_
        refine lv_iconst (v := (-1)) hx hb d_La_holds_23 (by decide) ?_
        refine lv_icmp_ne (tgt := 36) hx hb d_La_holds_24 (by decide) (fun h_2 => ?_) (fun h_2 => ?_)
        · have hd := ite_f hd h_2
          refine lv_iload hx hb d_La_holds_36 (lv_at hl 0 rfl) ?_
          refine lv_bipush (v := (-2)) hx hb d_La_holds_38 (by decide) ?_
          refine lv_icmp_ne (tgt := 58) hx hb d_La_holds_40 (by decide) (fun h_3 => ?_) (fun h_3 => ?_)
          · have hd := ite_f hd h_3
            refine lv_iload hx hb d_La_holds_58 (lv_at hl 0 rfl) ?_
            refine lv_bipush (v := (-3)) hx hb d_La_holds_60 (by decide) ?_
            refine lv_icmp_ne (tgt := 79) hx hb d_La_holds_62 (by decide) (fun h_4 => ?_) (fun h_4 => ?_)
            · have hd := ite_f hd h_4
              refine lv_iload hx hb d_La_holds_79 (lv_at hl 4 rfl) ?_
              refine lv_iconst (v := 1) hx hb d_La_holds_81 (by decide) ?_
              refine lv_ishl hx hb d_La_holds_82 ?_
              refine lv_iload hx hb d_La_holds_83 (lv_at hl 0 rfl) ?_
              refine lv_aload_n hx hb d_La_holds_85 rfl (lv_at hl 3 rfl) ?_
              obtain ⟨v_5, e_6, hd⟩ := bind_s hd
              refine callSI (ws' := ws_La g a z ++ [(b 0, .inl (g 0, 6, .inl w))]) (rest := [.int (x4_6 <<< (1 &&& 31))]) (As := [.int ((q_La_code z) x5_6.toNatClampNeg), .ref (b 0)]) hx hb hml hown hg hK hP hD hS hA hCs hl.1 (c_La_passes l D g b ((q_La_code z) x5_6.toNatClampNeg) w _ e_6) o_La_passes g_658 (List.range' 5 1) (segC1 rfl rfl) (by decide) rfl (segP1 rfl rfl) rfl rfl (Nat.le_of_ble_eq_true rfl) ⟨rfl, rfl, Nat.le_of_ble_eq_true rfl, Nat.le_of_ble_eq_true rfl⟩ d_La_holds_86 (fun H locs hP hD hS => ?_)
              refine lv_if_eq (tgt := 96) hx hb d_La_holds_89 (by decide) (fun h_7 => ?_) (fun h_7 => ?_)
              · have hd := ite_t hd h_7
                refine lv_iconst (v := 0) hx hb d_La_holds_96 (by decide) ?_
                refine lv_ior hx hb d_La_holds_97 ?_
                refine lv_istore (lv' := [(4, .int ((x4_6 <<< (1 &&& 31)) ||| 0)), (6, .int ((q_La_code z) x5_6.toNatClampNeg)), (0, .ref (a 0)), (2, .int x2_f6), (3, .ref (b 0)), (5, .int x5_6)]) hx hb d_La_holds_98 hl (by decide) rfl (fun ls hl => ?_)
                refine lv_iinc (v := x5_6 + 1) (lv' := [(5, .int (x5_6 + 1)), (4, .int ((x4_6 <<< (1 &&& 31)) ||| 0)), (6, .int ((q_La_code z) x5_6.toNatClampNeg)), (0, .ref (a 0)), (2, .int x2_f6), (3, .ref (b 0))]) hx hb d_La_holds_100 hl (k := 5) rfl (by rfl) (by decide) rfl (fun ls hl => ?_)
                refine lv_goto (tgt := 6) hx hb d_La_holds_103 (by decide) ?_
                exact ih6 ((x4_6 <<< (1 &&& 31)) ||| 0) (x5_6 + 1) _ _ _ hP hD hS (lv_sub hl [3, 4, 5, 1, 0] rfl) hd
              · have hd := ite_f hd h_7
                refine lv_iconst (v := 1) hx hb d_La_holds_92 (by decide) ?_
                refine lv_goto (tgt := 97) hx hb d_La_holds_93 (by decide) ?_
                refine lv_ior hx hb d_La_holds_97 ?_
                refine lv_istore (lv' := [(4, .int ((x4_6 <<< (1 &&& 31)) ||| 1)), (6, .int ((q_La_code z) x5_6.toNatClampNeg)), (0, .ref (a 0)), (2, .int x2_f6), (3, .ref (b 0)), (5, .int x5_6)]) hx hb d_La_holds_98 hl (by decide) rfl (fun ls hl => ?_)
                refine lv_iinc (v := x5_6 + 1) (lv' := [(5, .int (x5_6 + 1)), (4, .int ((x4_6 <<< (1 &&& 31)) ||| 1)), (6, .int ((q_La_code z) x5_6.toNatClampNeg)), (0, .ref (a 0)), (2, .int x2_f6), (3, .ref (b 0))]) hx hb d_La_holds_100 hl (k := 5) rfl (by rfl) (by decide) rfl (fun ls hl => ?_)
                refine lv_goto (tgt := 6) hx hb d_La_holds_103 (by decide) ?_
                exact ih6 ((x4_6 <<< (1 &&& 31)) ||| 1) (x5_6 + 1) _ _ _ hP hD hS (lv_sub hl [3, 4, 5, 1, 0] rfl) hd
            · have hd := ite_t hd h_4
              refine lv_iload hx hb d_La_holds_65 (lv_at hl 4 rfl) ?_
              refine lv_iconst (v := 1) hx hb d_La_holds_67 (by decide) ?_
              refine lv_ishr hx hb d_La_holds_68 ?_
              refine lv_iload hx hb d_La_holds_69 (lv_at hl 4 rfl) ?_
              refine lv_iconst (v := 1) hx hb d_La_holds_71 (by decide) ?_
              refine lv_iand hx hb d_La_holds_72 ?_
              refine lv_ior hx hb d_La_holds_73 ?_
              refine lv_istore (lv' := [(4, .int ((x4_6 >>> (1 &&& 31)) ||| (x4_6 &&& 1))), (6, .int ((q_La_code z) x5_6.toNatClampNeg)), (0, .ref (a 0)), (2, .int x2_f6), (3, .ref (b 0)), (5, .int x5_6)]) hx hb d_La_holds_74 hl (by decide) rfl (fun ls hl => ?_)
              refine lv_goto (tgt := 100) hx hb d_La_holds_76 (by decide) ?_
              refine lv_iinc (v := x5_6 + 1) (lv' := [(5, .int (x5_6 + 1)), (4, .int ((x4_6 >>> (1 &&& 31)) ||| (x4_6 &&& 1))), (6, .int ((q_La_code z) x5_6.toNatClampNeg)), (0, .ref (a 0)), (2, .int x2_f6), (3, .ref (b 0))]) hx hb d_La_holds_100 hl (k := 5) rfl (by rfl) (by decide) rfl (fun ls hl => ?_)
              refine lv_goto (tgt := 6) hx hb d_La_holds_103 (by decide) ?_
              exact ih6 ((x4_6 >>> (1 &&& 31)) ||| (x4_6 &&& 1)) (x5_6 + 1) _ _ _ hP hD hS (lv_sub hl [3, 4, 5, 1, 0] rfl) hd
          · have hd := ite_t hd h_3
            refine lv_iload hx hb d_La_holds_43 (lv_at hl 4 rfl) ?_
            refine lv_iconst (v := 1) hx hb d_La_holds_45 (by decide) ?_
            refine lv_ishr hx hb d_La_holds_46 ?_
            refine lv_iload hx hb d_La_holds_47 (lv_at hl 4 rfl) ?_
            refine lv_bipush (v := (-2)) hx hb d_La_holds_49 (by decide) ?_
            refine lv_ior hx hb d_La_holds_51 ?_
            refine lv_iand hx hb d_La_holds_52 ?_
            refine lv_istore (lv' := [(4, .int ((x4_6 >>> (1 &&& 31)) &&& (x4_6 ||| (-2)))), (6, .int ((q_La_code z) x5_6.toNatClampNeg)), (0, .ref (a 0)), (2, .int x2_f6), (3, .ref (b 0)), (5, .int x5_6)]) hx hb d_La_holds_53 hl (by decide) rfl (fun ls hl => ?_)
            refine lv_goto (tgt := 100) hx hb d_La_holds_55 (by decide) ?_
            refine lv_iinc (v := x5_6 + 1) (lv' := [(5, .int (x5_6 + 1)), (4, .int ((x4_6 >>> (1 &&& 31)) &&& (x4_6 ||| (-2)))), (6, .int ((q_La_code z) x5_6.toNatClampNeg)), (0, .ref (a 0)), (2, .int x2_f6), (3, .ref (b 0))]) hx hb d_La_holds_100 hl (k := 5) rfl (by rfl) (by decide) rfl (fun ls hl => ?_)
            refine lv_goto (tgt := 6) hx hb d_La_holds_103 (by decide) ?_
            exact ih6 ((x4_6 >>> (1 &&& 31)) &&& (x4_6 ||| (-2))) (x5_6 + 1) _ _ _ hP hD hS (lv_sub hl [3, 4, 5, 1, 0] rfl) hd
        · have hd := ite_t hd h_2
          refine lv_iload hx hb d_La_holds_27 (lv_at hl 4 rfl) ?_
          refine lv_iconst (v := 1) hx hb d_La_holds_29 (by decide) ?_
          refine lv_ixor hx hb d_La_holds_30 ?_
          refine lv_istore (lv' := [(4, .int (x4_6 ^^^ 1)), (6, .int ((q_La_code z) x5_6.toNatClampNeg)), (0, .ref (a 0)), (2, .int x2_f6), (3, .ref (b 0)), (5, .int x5_6)]) hx hb d_La_holds_31 hl (by decide) rfl (fun ls hl => ?_)
          refine lv_goto (tgt := 100) hx hb d_La_holds_33 (by decide) ?_
          refine lv_iinc (v := x5_6 + 1) (lv' := [(5, .int (x5_6 + 1)), (4, .int (x4_6 ^^^ 1)), (6, .int ((q_La_code z) x5_6.toNatClampNeg)), (0, .ref (a 0)), (2, .int x2_f6), (3, .ref (b 0))]) hx hb d_La_holds_100 hl (k := 5) rfl (by rfl) (by decide) rfl (fun ls hl => ?_)
          refine lv_goto (tgt := 6) hx hb d_La_holds_103 (by decide) ?_
          exact ih6 (x4_6 ^^^ 1) (x5_6 + 1) _ _ _ hP hD hS (lv_sub hl [3, 4, 5, 1, 0] rfl) hd
  exact lp6 x2 _ ex6_106 1000 0 x1 _ _ _ hP hD hS (lv_sub hl [2, 4, 5, 1, 0] rfl) hd
-- OwnsLift$Land.together(I[I)I
def B_La_together_L8 (x1_f8 : Int32) (z : T_La) (w : (Nat → Int32)) (self8 : Int32 → Int32 → Int32 → Option (Int32)) (x3_8 : Int32) (x4_8 : Int32) (x5_8 : Int32) : Option (Int32) :=
  if (q_La_clauses z) ≤ x5_8 then (some (x3_8)) else (if inb x5_8 10 = true then (if ((q_La_word z) x5_8.toNatClampNeg) = x1_f8 then (if inb x5_8 10 = true then ((d_La_holds x4_8 ((q_La_end z) x5_8.toNatClampNeg) z w).bind fun v_4 => if v_4 = 0 then (if inb x5_8 10 = true then (self8 x3_8 ((q_La_end z) x5_8.toNatClampNeg) (x5_8 + 1)) else none) else (if inb x5_8 10 = true then (if inb x5_8 10 = true then (self8 (x3_8 + ((q_La_n z) x5_8.toNatClampNeg)) ((q_La_end z) x5_8.toNatClampNeg) (x5_8 + 1)) else none) else none)) else none) else (if inb x5_8 10 = true then (self8 x3_8 ((q_La_end z) x5_8.toNatClampNeg) (x5_8 + 1)) else none)) else none)
def d_La_together_L8 (x1_f8 : Int32) (z : T_La) (w : (Nat → Int32)) (n : Nat) : Int32 → Int32 → Int32 → Option (Int32) := recN (fun _ _ _ => none) (fun self => B_La_together_L8 x1_f8 z w self) n
def d_La_together (x1 : Int32) (z : T_La) (w : (Nat → Int32)) : Option (Int32) :=
  d_La_together_L8 x1 z w  1000 0 0 0
theorem d_La_together_0 : decode b_La_together 0 = .ok (.iconst 0, 1) := by decide +kernel
theorem d_La_together_1 : decode b_La_together 1 = .ok (.istore_n 3, 1) := by decide +kernel
theorem d_La_together_2 : decode b_La_together 2 = .ok (.iconst 0, 1) := by decide +kernel
theorem d_La_together_3 : decode b_La_together 3 = .ok (.istore 4, 2) := by decide +kernel
theorem d_La_together_5 : decode b_La_together 5 = .ok (.iconst 0, 1) := by decide +kernel
theorem d_La_together_6 : decode b_La_together 6 = .ok (.istore 5, 2) := by decide +kernel
theorem d_La_together_8 : decode b_La_together 8 = .ok (.iload 5, 2) := by decide +kernel
theorem d_La_together_10 : decode b_La_together 10 = .ok (.aload_n 0, 1) := by decide +kernel
theorem d_La_together_11 : decode b_La_together 11 = .ok (.getfield 24, 3) := by decide +kernel
theorem d_La_together_14 : decode b_La_together 14 = .ok (.if_icmp .ge 56, 3) := by decide +kernel
theorem d_La_together_17 : decode b_La_together 17 = .ok (.aload_n 0, 1) := by decide +kernel
theorem d_La_together_18 : decode b_La_together 18 = .ok (.getfield 9, 3) := by decide +kernel
theorem d_La_together_21 : decode b_La_together 21 = .ok (.iload 5, 2) := by decide +kernel
theorem d_La_together_23 : decode b_La_together 23 = .ok (.iaload, 1) := by decide +kernel
theorem d_La_together_24 : decode b_La_together 24 = .ok (.iload_n 1, 1) := by decide +kernel
theorem d_La_together_25 : decode b_La_together 25 = .ok (.if_icmp .ne 30, 3) := by decide +kernel
theorem d_La_together_28 : decode b_La_together 28 = .ok (.aload_n 0, 1) := by decide +kernel
theorem d_La_together_29 : decode b_La_together 29 = .ok (.iload 4, 2) := by decide +kernel
theorem d_La_together_31 : decode b_La_together 31 = .ok (.aload_n 0, 1) := by decide +kernel
theorem d_La_together_32 : decode b_La_together 32 = .ok (.getfield 18, 3) := by decide +kernel
theorem d_La_together_35 : decode b_La_together 35 = .ok (.iload 5, 2) := by decide +kernel
theorem d_La_together_37 : decode b_La_together 37 = .ok (.iaload, 1) := by decide +kernel
theorem d_La_together_38 : decode b_La_together 38 = .ok (.aload_n 2, 1) := by decide +kernel
theorem d_La_together_39 : decode b_La_together 39 = .ok (.invokevirtual 31, 3) := by decide +kernel
theorem d_La_together_42 : decode b_La_together 42 = .ok (.ifCond .eq 13, 3) := by decide +kernel
theorem d_La_together_45 : decode b_La_together 45 = .ok (.iload_n 3, 1) := by decide +kernel
theorem d_La_together_46 : decode b_La_together 46 = .ok (.aload_n 0, 1) := by decide +kernel
theorem d_La_together_47 : decode b_La_together 47 = .ok (.getfield 15, 3) := by decide +kernel
theorem d_La_together_50 : decode b_La_together 50 = .ok (.iload 5, 2) := by decide +kernel
theorem d_La_together_52 : decode b_La_together 52 = .ok (.iaload, 1) := by decide +kernel
theorem d_La_together_53 : decode b_La_together 53 = .ok (.iadd, 1) := by decide +kernel
theorem d_La_together_54 : decode b_La_together 54 = .ok (.istore_n 3, 1) := by decide +kernel
theorem d_La_together_55 : decode b_La_together 55 = .ok (.aload_n 0, 1) := by decide +kernel
theorem d_La_together_56 : decode b_La_together 56 = .ok (.getfield 18, 3) := by decide +kernel
theorem d_La_together_59 : decode b_La_together 59 = .ok (.iload 5, 2) := by decide +kernel
theorem d_La_together_61 : decode b_La_together 61 = .ok (.iaload, 1) := by decide +kernel
theorem d_La_together_62 : decode b_La_together 62 = .ok (.istore 4, 2) := by decide +kernel
theorem d_La_together_64 : decode b_La_together 64 = .ok (.iinc 5 1, 3) := by decide +kernel
theorem d_La_together_67 : decode b_La_together 67 = .ok (.goto (-59), 3) := by decide +kernel
theorem d_La_together_70 : decode b_La_together 70 = .ok (.iload_n 3, 1) := by decide +kernel
theorem d_La_together_71 : decode b_La_together 71 = .ok (.ireturn, 1) := by decide +kernel
theorem o_La_together : OkV y_La_together "OwnsLift$Land" b_La_together 6 (some .int) 2 := ⟨⟨rfl, by decide +kernel, by decide +kernel, by decide +kernel⟩, g_651, g_652, g_73, g_653⟩
set_option maxHeartbeats 4000000 in
set_option maxRecDepth 100000 in
theorem c_La_together (l : Launch) (D : va_G) (g : Nat → ClassId) (a : Nat → Nat) (b : Nat → Nat) (x1 : Int32) (z : T_La) (w : (Nat → Int32)) (v : Int32) (h : d_La_together x1 z w = some v) :
    MI l y_La_together b_La_together 6 .int ({ frames := 2, cells := 0, slots := 0, locals := 49 } : Room) D g [.ref (a 0), .int x1, .ref (b 0)] (ws_La g a z ++ [(b 0, .inl (g 0, 6, .inl w))]) (v) (ws_La g a z ++ [(b 0, .inl (g 0, 6, .inl w))]) := by
  have hd := h
  unfold d_La_together at hd
  refine enterI rfl (Nat.le_of_ble_eq_true rfl) (fun p e s m below meth c A ls hx hb hml hr hown hg hlk hK hA hP hD hS hCs hl => ?_)
  have hown : s.vm.findClass "OwnsLift$Land" = some m.cls := hown
  have hl : lv_has ls 6 [(0, .ref (a 0)), (1, .int x1), (2, .ref (b 0))] := hl
  show GI p l e s m ({ frames := 2, cells := 0, slots := 0, locals := 49 } : Room) ([.ref (a 0), .int x1, .ref (b 0)] : List Value).toArray below meth c A D g (ws_La g a z ++ [(b 0, .inl (g 0, 6, .inl w))]) (v) s.heap [] (F0 m 0 ls [])
  refine lv_iconst (v := 0) hx hb d_La_together_0 (by decide) ?_
  refine lv_istore_n (lv' := [(3, .int 0), (0, .ref (a 0)), (1, .int x1), (2, .ref (b 0))]) hx hb d_La_together_1 rfl hl (by decide) rfl (fun ls hl => ?_)
  refine lv_iconst (v := 0) hx hb d_La_together_2 (by decide) ?_
  refine lv_istore (lv' := [(4, .int 0), (3, .int 0), (0, .ref (a 0)), (1, .int x1), (2, .ref (b 0))]) hx hb d_La_together_3 hl (by decide) rfl (fun ls hl => ?_)
  refine lv_iconst (v := 0) hx hb d_La_together_5 (by decide) ?_
  refine lv_istore (lv' := [(5, .int 0), (4, .int 0), (3, .int 0), (0, .ref (a 0)), (1, .int x1), (2, .ref (b 0))]) hx hb d_La_together_6 hl (by decide) rfl (fun ls hl => ?_)
  have lp8 : ∀ (x1_f8 : Int32) (n : Nat) (x3_8 : Int32) (x4_8 : Int32) (x5_8 : Int32) (H : Heap) (locs : List Loc) (ls : Array Slot), va_P D classes (ws_La g a z ++ [(b 0, .inl (g 0, 6, .inl w))]) H → va_D A (ws_La g a z ++ [(b 0, .inl (g 0, 6, .inl w))]) → va_S A s.heap H locs → lv_has ls 6 [(0, .ref (a 0)), (1, .int x1_f8), (2, .ref (b 0)), (3, .int x3_8), (4, .int x4_8), (5, .int x5_8)] → d_La_together_L8 x1_f8 z w n x3_8 x4_8 x5_8 = some v → GI p l e s m ({ frames := 2, cells := 0, slots := 0, locals := 49 } : Room) ([.ref (a 0), .int x1, .ref (b 0)] : List Value).toArray below meth c A D g (ws_La g a z ++ [(b 0, .inl (g 0, 6, .inl w))]) (v) H locs (F0 m 8 ls []) := by
    intro x1_f8 n
    induction n with
    | zero =>
      intro  x3_8 x4_8 x5_8 H locs ls hP hD hS hl hd
      have hd : none = some v := hd
      cases hd
    | succ n ih8 =>
      intro  x3_8 x4_8 x5_8 H locs ls hP hD hS hl hd
      have hd : B_La_together_L8 x1_f8 z w (d_La_together_L8 x1_f8 z w n) x3_8 x4_8 x5_8 = some v := hd
      generalize d_La_together_L8 x1_f8 z w n = self8 at ih8 hd
      unfold B_La_together_L8 at hd
      refine lv_iload hx hb d_La_together_8 (lv_at hl 5 rfl) ?_
      refine lv_aload_n hx hb d_La_together_10 rfl (lv_at hl 0 rfl) ?_
      refine va_get (D := D) (ci := 4) (v := .int (q_La_clauses z)) (C := R_La) (T := F_La) (N := 6) hx hb hg i_La hown hK hP 0 rfl rfl 0 (by decide) (hg _ g_111) (fun _ h9 => h9) rfl d_La_together_11 ?_
      refine lv_icmp_ge (tgt := 70) hx hb d_La_together_14 (by decide) (fun h_1 => ?_) (fun h_1 => ?_)
      · have hd := ite_t hd h_1
        refine lv_iload_n hx hb d_La_together_70 rfl (lv_at hl 3 rfl) ?_
        obtain rfl := Option.some.inj hd
        exact retI hx hb hr hlk hK hP hD hS d_La_together_71 rfl
      · have hd := ite_f hd h_1
        refine lv_aload_n hx hb d_La_together_17 rfl (lv_at hl 0 rfl) ?_
        refine va_get (D := D) (ci := 4) (v := .ref (a 1)) (C := R_La) (T := F_La) (N := 6) hx hb hg i_La hown hK hP 0 rfl rfl 1 (by decide) (hg _ g_112) (fun _ h9 => h9) rfl d_La_together_18 ?_
        refine lv_iload hx hb d_La_together_21 (lv_at hl 5 rfl) ?_
        obtain ⟨h_11, hd⟩ := ite_s hd
        refine ialdK hx hb hK hP 1 0 rfl rfl (inb_t h_11) rfl d_La_together_23 ?_
        refine lv_iload_n hx hb d_La_together_24 rfl (lv_at hl 1 rfl) ?_
        refine lv_icmp_ne (tgt := 55) hx hb d_La_together_25 (by decide) (fun h_2 => ?_) (fun h_2 => ?_)
        · have hd := ite_f hd h_2
          refine lv_aload_n hx hb d_La_together_55 rfl (lv_at hl 0 rfl) ?_
          refine va_get (D := D) (ci := 4) (v := .ref (a 3)) (C := R_La) (T := F_La) (N := 6) hx hb hg i_La hown hK hP 0 rfl rfl 3 (by decide) (hg _ g_114) (fun _ h9 => h9) rfl d_La_together_56 ?_
          refine lv_iload hx hb d_La_together_59 (lv_at hl 5 rfl) ?_
          obtain ⟨h_3, hd⟩ := ite_s hd
          refine ialdK hx hb hK hP 3 0 rfl rfl (inb_t h_3) rfl d_La_together_61 ?_
          refine lv_istore (lv' := [(4, .int ((q_La_end z) x5_8.toNatClampNeg)), (0, .ref (a 0)), (1, .int x1_f8), (2, .ref (b 0)), (3, .int x3_8), (5, .int x5_8)]) hx hb d_La_together_62 hl (by decide) rfl (fun ls hl => ?_)
          refine lv_iinc (v := x5_8 + 1) (lv' := [(5, .int (x5_8 + 1)), (4, .int ((q_La_end z) x5_8.toNatClampNeg)), (0, .ref (a 0)), (1, .int x1_f8), (2, .ref (b 0)), (3, .int x3_8)]) hx hb d_La_together_64 hl (k := 5) rfl (by rfl) (by decide) rfl (fun ls hl => ?_)
          refine lv_goto (tgt := 8) hx hb d_La_together_67 (by decide) ?_
          exact ih8 x3_8 ((q_La_end z) x5_8.toNatClampNeg) (x5_8 + 1) _ _ _ hP hD hS (lv_sub hl [2, 3, 4, 5, 1, 0] rfl) hd
        · have hd := ite_t hd h_2
          refine lv_aload_n hx hb d_La_together_28 rfl (lv_at hl 0 rfl) ?_
          refine lv_iload hx hb d_La_together_29 (lv_at hl 4 rfl) ?_
          refine lv_aload_n hx hb d_La_together_31 rfl (lv_at hl 0 rfl) ?_
          refine va_get (D := D) (ci := 4) (v := .ref (a 3)) (C := R_La) (T := F_La) (N := 6) hx hb hg i_La hown hK hP 0 rfl rfl 3 (by decide) (hg _ g_114) (fun _ h9 => h9) rfl d_La_together_32 ?_
          refine lv_iload hx hb d_La_together_35 (lv_at hl 5 rfl) ?_
          obtain ⟨h_10, hd⟩ := ite_s hd
          refine ialdK hx hb hK hP 3 0 rfl rfl (inb_t h_10) rfl d_La_together_37 ?_
          refine lv_aload_n hx hb d_La_together_38 rfl (lv_at hl 2 rfl) ?_
          obtain ⟨v_4, e_5, hd⟩ := bind_s hd
          refine callVI (ws' := ws_La g a z ++ [(b 0, .inl (g 0, 6, .inl w))]) (rest := []) (As := [.int x4_8, .int ((q_La_end z) x5_8.toNatClampNeg), .ref (b 0)]) hx hb hml hown hg hK hP hD hS hA hCs hl.1 (c_La_holds l D g a b x4_8 ((q_La_end z) x5_8.toNatClampNeg) z w _ e_5) o_La_holds g_654 (ci := 4) (q0 := 0) rfl rfl (List.range' 0 5 ++ List.range' 5 1) (segC2 rfl rfl rfl rfl) (by decide) rfl (segP2 rfl rfl rfl) rfl rfl (Nat.le_of_ble_eq_true rfl) ⟨rfl, rfl, Nat.le_of_ble_eq_true rfl, Nat.le_of_ble_eq_true rfl⟩ d_La_together_39 (fun H locs hP hD hS => ?_)
          refine lv_if_eq (tgt := 55) hx hb d_La_together_42 (by decide) (fun h_6 => ?_) (fun h_6 => ?_)
          · have hd := ite_t hd h_6
            refine lv_aload_n hx hb d_La_together_55 rfl (lv_at hl 0 rfl) ?_
            refine va_get (D := D) (ci := 4) (v := .ref (a 3)) (C := R_La) (T := F_La) (N := 6) hx hb hg i_La hown hK hP 0 rfl rfl 3 (by decide) (hg _ g_114) (fun _ h9 => h9) rfl d_La_together_56 ?_
            refine lv_iload hx hb d_La_together_59 (lv_at hl 5 rfl) ?_
            obtain ⟨h_7, hd⟩ := ite_s hd
            refine ialdK hx hb hK hP 3 0 rfl rfl (inb_t h_7) rfl d_La_together_61 ?_
            refine lv_istore (lv' := [(4, .int ((q_La_end z) x5_8.toNatClampNeg)), (0, .ref (a 0)), (1, .int x1_f8), (2, .ref (b 0)), (3, .int x3_8), (5, .int x5_8)]) hx hb d_La_together_62 hl (by decide) rfl (fun ls hl => ?_)
            refine lv_iinc (v := x5_8 + 1) (lv' := [(5, .int (x5_8 + 1)), (4, .int ((q_La_end z) x5_8.toNatClampNeg)), (0, .ref (a 0)), (1, .int x1_f8), (2, .ref (b 0)), (3, .int x3_8)]) hx hb d_La_together_64 hl (k := 5) rfl (by rfl) (by decide) rfl (fun ls hl => ?_)
            refine lv_goto (tgt := 8) hx hb d_La_together_67 (by decide) ?_
            exact ih8 x3_8 ((q_La_end z) x5_8.toNatClampNeg) (x5_8 + 1) _ _ _ hP hD hS (lv_sub hl [2, 3, 4, 5, 1, 0] rfl) hd
          · have hd := ite_f hd h_6
            refine lv_iload_n hx hb d_La_together_45 rfl (lv_at hl 3 rfl) ?_
            refine lv_aload_n hx hb d_La_together_46 rfl (lv_at hl 0 rfl) ?_
            refine va_get (D := D) (ci := 4) (v := .ref (a 2)) (C := R_La) (T := F_La) (N := 6) hx hb hg i_La hown hK hP 0 rfl rfl 2 (by decide) (hg _ g_113) (fun _ h9 => h9) rfl d_La_together_47 ?_
            refine lv_iload hx hb d_La_together_50 (lv_at hl 5 rfl) ?_
            obtain ⟨h_9, hd⟩ := ite_s hd
            refine ialdK hx hb hK hP 2 0 rfl rfl (inb_t h_9) rfl d_La_together_52 ?_
            refine lv_iadd hx hb d_La_together_53 ?_
            refine lv_istore_n (lv' := [(3, .int (x3_8 + ((q_La_n z) x5_8.toNatClampNeg))), (0, .ref (a 0)), (1, .int x1_f8), (2, .ref (b 0)), (4, .int x4_8), (5, .int x5_8)]) hx hb d_La_together_54 rfl hl (by decide) rfl (fun ls hl => ?_)
            refine lv_aload_n hx hb d_La_together_55 rfl (lv_at hl 1 rfl) ?_
            refine va_get (D := D) (ci := 4) (v := .ref (a 3)) (C := R_La) (T := F_La) (N := 6) hx hb hg i_La hown hK hP 0 rfl rfl 3 (by decide) (hg _ g_114) (fun _ h9 => h9) rfl d_La_together_56 ?_
            refine lv_iload hx hb d_La_together_59 (lv_at hl 5 rfl) ?_
            obtain ⟨h_8, hd⟩ := ite_s hd
            refine ialdK hx hb hK hP 3 0 rfl rfl (inb_t h_8) rfl d_La_together_61 ?_
            refine lv_istore (lv' := [(4, .int ((q_La_end z) x5_8.toNatClampNeg)), (3, .int (x3_8 + ((q_La_n z) x5_8.toNatClampNeg))), (0, .ref (a 0)), (1, .int x1_f8), (2, .ref (b 0)), (5, .int x5_8)]) hx hb d_La_together_62 hl (by decide) rfl (fun ls hl => ?_)
            refine lv_iinc (v := x5_8 + 1) (lv' := [(5, .int (x5_8 + 1)), (4, .int ((q_La_end z) x5_8.toNatClampNeg)), (3, .int (x3_8 + ((q_La_n z) x5_8.toNatClampNeg))), (0, .ref (a 0)), (1, .int x1_f8), (2, .ref (b 0))]) hx hb d_La_together_64 hl (k := 5) rfl (by rfl) (by decide) rfl (fun ls hl => ?_)
            refine lv_goto (tgt := 8) hx hb d_La_together_67 (by decide) ?_
            exact ih8 (x3_8 + ((q_La_n z) x5_8.toNatClampNeg)) ((q_La_end z) x5_8.toNatClampNeg) (x5_8 + 1) _ _ _ hP hD hS (lv_sub hl [3, 4, 5, 2, 1, 0] rfl) hd
  exact lp8 x1 1000 0 0 0 _ _ _ hP hD hS (lv_sub hl [3, 4, 5, 2, 1, 0] rfl) hd
-- OwnsLift$People.addToRow(II)I
def d_Pe_addToRow (x1 : Int32) (x2 : Int32) (z : T_Pe) : Option (Int32 × T_Pe) :=
  if inb x1 4 = true then (if inb x1 4 = true then (if inb ((q_Pe_rowSize z) x1.toNatClampNeg) 7 = true then (if inb x1 4 = true then (if inb x1 4 = true then (if inb x1 4 = true then (some ((q_Pe_rowSize (u_Pe_rowSize (u_Pe_rows z (upd2 (q_Pe_rows z) x1.toNatClampNeg ((q_Pe_rowSize z) x1.toNatClampNeg).toNatClampNeg x2)) (upd (q_Pe_rowSize (u_Pe_rows z (upd2 (q_Pe_rows z) x1.toNatClampNeg ((q_Pe_rowSize z) x1.toNatClampNeg).toNatClampNeg x2))) x1.toNatClampNeg (((q_Pe_rowSize (u_Pe_rows z (upd2 (q_Pe_rows z) x1.toNatClampNeg ((q_Pe_rowSize z) x1.toNatClampNeg).toNatClampNeg x2))) x1.toNatClampNeg) + 1)))) x1.toNatClampNeg, (u_Pe_rowSize (u_Pe_rows z (upd2 (q_Pe_rows z) x1.toNatClampNeg ((q_Pe_rowSize z) x1.toNatClampNeg).toNatClampNeg x2)) (upd (q_Pe_rowSize (u_Pe_rows z (upd2 (q_Pe_rows z) x1.toNatClampNeg ((q_Pe_rowSize z) x1.toNatClampNeg).toNatClampNeg x2))) x1.toNatClampNeg (((q_Pe_rowSize (u_Pe_rows z (upd2 (q_Pe_rows z) x1.toNatClampNeg ((q_Pe_rowSize z) x1.toNatClampNeg).toNatClampNeg x2))) x1.toNatClampNeg) + 1))))) else none) else none) else none) else none) else none) else none
theorem d_Pe_addToRow_0 : decode b_Pe_addToRow 0 = .ok (.aload_n 0, 1) := by decide +kernel
theorem d_Pe_addToRow_1 : decode b_Pe_addToRow 1 = .ok (.getfield 29, 3) := by decide +kernel
theorem d_Pe_addToRow_4 : decode b_Pe_addToRow 4 = .ok (.iload_n 1, 1) := by decide +kernel
theorem d_Pe_addToRow_5 : decode b_Pe_addToRow 5 = .ok (.aaload, 1) := by decide +kernel
theorem d_Pe_addToRow_6 : decode b_Pe_addToRow 6 = .ok (.aload_n 0, 1) := by decide +kernel
theorem d_Pe_addToRow_7 : decode b_Pe_addToRow 7 = .ok (.getfield 24, 3) := by decide +kernel
theorem d_Pe_addToRow_10 : decode b_Pe_addToRow 10 = .ok (.iload_n 1, 1) := by decide +kernel
theorem d_Pe_addToRow_11 : decode b_Pe_addToRow 11 = .ok (.iaload, 1) := by decide +kernel
theorem d_Pe_addToRow_12 : decode b_Pe_addToRow 12 = .ok (.iload_n 2, 1) := by decide +kernel
theorem d_Pe_addToRow_13 : decode b_Pe_addToRow 13 = .ok (.iastore, 1) := by decide +kernel
theorem d_Pe_addToRow_14 : decode b_Pe_addToRow 14 = .ok (.aload_n 0, 1) := by decide +kernel
theorem d_Pe_addToRow_15 : decode b_Pe_addToRow 15 = .ok (.getfield 24, 3) := by decide +kernel
theorem d_Pe_addToRow_18 : decode b_Pe_addToRow 18 = .ok (.iload_n 1, 1) := by decide +kernel
theorem d_Pe_addToRow_19 : decode b_Pe_addToRow 19 = .ok (.dup2, 1) := by decide +kernel
theorem d_Pe_addToRow_20 : decode b_Pe_addToRow 20 = .ok (.iaload, 1) := by decide +kernel
theorem d_Pe_addToRow_21 : decode b_Pe_addToRow 21 = .ok (.iconst 1, 1) := by decide +kernel
theorem d_Pe_addToRow_22 : decode b_Pe_addToRow 22 = .ok (.iadd, 1) := by decide +kernel
theorem d_Pe_addToRow_23 : decode b_Pe_addToRow 23 = .ok (.iastore, 1) := by decide +kernel
theorem d_Pe_addToRow_24 : decode b_Pe_addToRow 24 = .ok (.aload_n 0, 1) := by decide +kernel
theorem d_Pe_addToRow_25 : decode b_Pe_addToRow 25 = .ok (.getfield 24, 3) := by decide +kernel
theorem d_Pe_addToRow_28 : decode b_Pe_addToRow 28 = .ok (.iload_n 1, 1) := by decide +kernel
theorem d_Pe_addToRow_29 : decode b_Pe_addToRow 29 = .ok (.iaload, 1) := by decide +kernel
theorem d_Pe_addToRow_30 : decode b_Pe_addToRow 30 = .ok (.ireturn, 1) := by decide +kernel
theorem o_Pe_addToRow : OkV y_Pe_addToRow "OwnsLift$People" b_Pe_addToRow 3 (some .int) 2 := ⟨⟨rfl, by decide +kernel, by decide +kernel, by decide +kernel⟩, g_705, g_706, g_74, g_707⟩
set_option maxHeartbeats 4000000 in
set_option maxRecDepth 100000 in
theorem c_Pe_addToRow (l : Launch) (D : va_G) (g : Nat → ClassId) (a : Nat → Nat) (x1 : Int32) (x2 : Int32) (z : T_Pe) (v : Int32 × T_Pe) (h : d_Pe_addToRow x1 x2 z = some v) :
    MI l y_Pe_addToRow b_Pe_addToRow 3 .int ({ frames := 0, cells := 0, slots := 0, locals := 0 } : Room) D g [.ref (a 0), .int x1, .int x2] (ws_Pe g a z) (v.1) (ws_Pe g a v.2) := by
  have hd := h
  unfold d_Pe_addToRow at hd
  refine enterI rfl (Nat.le_of_ble_eq_true rfl) (fun p e s m below meth c A ls hx hb hml hr hown hg hlk hK hA hP hD hS hCs hl => ?_)
  have hown : s.vm.findClass "OwnsLift$People" = some m.cls := hown
  have hl : lv_has ls 3 [(0, .ref (a 0)), (1, .int x1), (2, .int x2)] := hl
  show GI p l e s m ({ frames := 0, cells := 0, slots := 0, locals := 0 } : Room) ([.ref (a 0), .int x1, .int x2] : List Value).toArray below meth c A D g (ws_Pe g a v.2) (v.1) s.heap [] (F0 m 0 ls [])
  refine lv_aload_n hx hb d_Pe_addToRow_0 rfl (lv_at hl 0 rfl) ?_
  refine va_get (D := D) (ci := 5) (v := .ref (a 6)) (C := R_Pe) (T := F_Pe) (N := 7) hx hb hg i_Pe hown hK hP 0 rfl rfl 6 (by decide) (hg _ g_161) (fun _ h9 => h9) rfl d_Pe_addToRow_1 ?_
  refine lv_iload_n hx hb d_Pe_addToRow_4 rfl (lv_at hl 1 rfl) ?_
  obtain ⟨h_1, hd⟩ := ite_s hd
  refine aldA hx hb hK hP 6 rfl (inb_t h_1) d_Pe_addToRow_5 ?_
  refine lv_aload_n hx hb d_Pe_addToRow_6 rfl (lv_at hl 0 rfl) ?_
  refine va_get (D := D) (ci := 5) (v := .ref (a 5)) (C := R_Pe) (T := F_Pe) (N := 7) hx hb hg i_Pe hown hK hP 0 rfl rfl 5 (by decide) (hg _ g_158) (fun _ h9 => h9) rfl d_Pe_addToRow_7 ?_
  refine lv_iload_n hx hb d_Pe_addToRow_10 rfl (lv_at hl 1 rfl) ?_
  obtain ⟨h_7, hd⟩ := ite_s hd
  refine ialdK hx hb hK hP 5 0 rfl rfl (inb_t h_7) rfl d_Pe_addToRow_11 ?_
  refine lv_iload_n hx hb d_Pe_addToRow_12 rfl (lv_at hl 2 rfl) ?_
  obtain ⟨h_2, hd⟩ := ite_s hd
  have hset_6 := (show ∀ k, k < 4 → (ws_Pe g a z).set (7 + k) (a (k + 7), .inl (g 0, 7, .inl (upd ((q_Pe_rows z) k) ((q_Pe_rowSize z) x1.toNatClampNeg).toNatClampNeg x2))) = ws_Pe g a (u_Pe_rows z (upd2 (q_Pe_rows z) k ((q_Pe_rowSize z) x1.toNatClampNeg).toNatClampNeg x2)) from fun k hk => match k, hk with | 0, _ => rfl | 1, _ => rfl | 2, _ => rfl | 3, _ => rfl | k + 4, hk => absurd hk (by omega)) _ (vp_lt (inb_t h_1))
  refine iastK hx hb hK hP hD hS (7 + x1.toNatClampNeg) 0 ((show ∀ k, k < 4 → (ws_Pe g a z)[7 + k]? = some (a (k + 7), .inl (g 0, 7, .inl ((q_Pe_rows z) k))) from fun k hk => match k, hk with | 0, _ => rfl | 1, _ => rfl | 2, _ => rfl | 3, _ => rfl | k + 4, hk => absurd hk (by omega)) _ (vp_lt (inb_t h_1))) rfl (inb_t h_2) rfl d_Pe_addToRow_13 (fun H locs hP hD hS => ?_)
  rw [hset_6] at hP hD
  refine lv_aload_n hx hb d_Pe_addToRow_14 rfl (lv_at hl 0 rfl) ?_
  refine va_get (D := D) (ci := 5) (v := .ref (a 5)) (C := R_Pe) (T := F_Pe) (N := 7) hx hb hg i_Pe hown hK hP 0 rfl rfl 5 (by decide) (hg _ g_158) (fun _ h9 => h9) rfl d_Pe_addToRow_15 ?_
  refine lv_iload_n hx hb d_Pe_addToRow_18 rfl (lv_at hl 1 rfl) ?_
  refine lv_dup2_11 hx hb d_Pe_addToRow_19 rfl rfl ?_
  obtain ⟨h_5, hd⟩ := ite_s hd
  refine ialdK hx hb hK hP 5 0 rfl rfl (inb_t h_5) rfl d_Pe_addToRow_20 ?_
  refine lv_iconst (v := 1) hx hb d_Pe_addToRow_21 (by decide) ?_
  refine lv_iadd hx hb d_Pe_addToRow_22 ?_
  obtain ⟨h_4, hd⟩ := ite_s hd
  refine iastK hx hb hK hP hD hS 5 0 rfl rfl (inb_t h_4) rfl d_Pe_addToRow_23 (fun H locs hP hD hS => ?_)
  have hP : va_P D classes (ws_Pe g a (u_Pe_rowSize (u_Pe_rows z (upd2 (q_Pe_rows z) x1.toNatClampNeg ((q_Pe_rowSize z) x1.toNatClampNeg).toNatClampNeg x2)) (upd (q_Pe_rowSize (u_Pe_rows z (upd2 (q_Pe_rows z) x1.toNatClampNeg ((q_Pe_rowSize z) x1.toNatClampNeg).toNatClampNeg x2))) x1.toNatClampNeg (((q_Pe_rowSize (u_Pe_rows z (upd2 (q_Pe_rows z) x1.toNatClampNeg ((q_Pe_rowSize z) x1.toNatClampNeg).toNatClampNeg x2))) x1.toNatClampNeg) + 1)))) H := hP
  have hD : va_D A (ws_Pe g a (u_Pe_rowSize (u_Pe_rows z (upd2 (q_Pe_rows z) x1.toNatClampNeg ((q_Pe_rowSize z) x1.toNatClampNeg).toNatClampNeg x2)) (upd (q_Pe_rowSize (u_Pe_rows z (upd2 (q_Pe_rows z) x1.toNatClampNeg ((q_Pe_rowSize z) x1.toNatClampNeg).toNatClampNeg x2))) x1.toNatClampNeg (((q_Pe_rowSize (u_Pe_rows z (upd2 (q_Pe_rows z) x1.toNatClampNeg ((q_Pe_rowSize z) x1.toNatClampNeg).toNatClampNeg x2))) x1.toNatClampNeg) + 1)))) := hD
  refine lv_aload_n hx hb d_Pe_addToRow_24 rfl (lv_at hl 0 rfl) ?_
  refine va_get (D := D) (ci := 5) (v := .ref (a 5)) (C := R_Pe) (T := F_Pe) (N := 7) hx hb hg i_Pe hown hK hP 0 rfl rfl 5 (by decide) (hg _ g_158) (fun _ h9 => h9) rfl d_Pe_addToRow_25 ?_
  refine lv_iload_n hx hb d_Pe_addToRow_28 rfl (lv_at hl 1 rfl) ?_
  obtain ⟨h_3, hd⟩ := ite_s hd
  refine ialdK hx hb hK hP 5 0 rfl rfl (inb_t h_3) rfl d_Pe_addToRow_29 ?_
  obtain rfl := Option.some.inj hd
  exact retI hx hb hr hlk hK hP hD hS d_Pe_addToRow_30 rfl
-- OwnsLift$Things.has(I)Z
def d_Th_has (x1 : Int32) (z : T_Th) : Option (Int32) :=
  if x1 < 0 then (some (0)) else (if (q_Th_size z) ≤ x1 then (some (0)) else (some (1)))
theorem d_Th_has_0 : decode b_Th_has 0 = .ok (.iload_n 1, 1) := by decide +kernel
theorem d_Th_has_1 : decode b_Th_has 1 = .ok (.ifCond .lt 15, 3) := by decide +kernel
theorem d_Th_has_4 : decode b_Th_has 4 = .ok (.iload_n 1, 1) := by decide +kernel
theorem d_Th_has_5 : decode b_Th_has 5 = .ok (.aload_n 0, 1) := by decide +kernel
theorem d_Th_has_6 : decode b_Th_has 6 = .ok (.getfield 18, 3) := by decide +kernel
theorem d_Th_has_9 : decode b_Th_has 9 = .ok (.if_icmp .ge 7, 3) := by decide +kernel
theorem d_Th_has_12 : decode b_Th_has 12 = .ok (.iconst 1, 1) := by decide +kernel
theorem d_Th_has_13 : decode b_Th_has 13 = .ok (.goto 4, 3) := by decide +kernel
theorem d_Th_has_16 : decode b_Th_has 16 = .ok (.iconst 0, 1) := by decide +kernel
theorem d_Th_has_17 : decode b_Th_has 17 = .ok (.ireturn, 1) := by decide +kernel
theorem o_Th_has : OkV y_Th_has "OwnsLift$Things" b_Th_has 2 (some .boolean) 1 := ⟨⟨rfl, by decide +kernel, by decide +kernel, by decide +kernel⟩, g_701, g_702, g_75, g_703⟩
set_option maxHeartbeats 4000000 in
set_option maxRecDepth 100000 in
theorem c_Th_has (l : Launch) (D : va_G) (g : Nat → ClassId) (a : Nat → Nat) (x1 : Int32) (z : T_Th) (v : Int32) (h : d_Th_has x1 z = some v) :
    MI l y_Th_has b_Th_has 2 .boolean ({ frames := 0, cells := 0, slots := 0, locals := 0 } : Room) D g [.ref (a 0), .int x1] (ws_Th g a z) (v) (ws_Th g a z) := by
  have hd := h
  unfold d_Th_has at hd
  refine enterI rfl (Nat.le_of_ble_eq_true rfl) (fun p e s m below meth c A ls hx hb hml hr hown hg hlk hK hA hP hD hS hCs hl => ?_)
  have hown : s.vm.findClass "OwnsLift$Things" = some m.cls := hown
  have hl : lv_has ls 2 [(0, .ref (a 0)), (1, .int x1)] := hl
  show GI p l e s m ({ frames := 0, cells := 0, slots := 0, locals := 0 } : Room) ([.ref (a 0), .int x1] : List Value).toArray below meth c A D g (ws_Th g a z) (v) s.heap [] (F0 m 0 ls [])
  refine lv_iload_n hx hb d_Th_has_0 rfl (lv_at hl 1 rfl) ?_
  refine lv_if_lt (tgt := 16) hx hb d_Th_has_1 (by decide) (fun h_1 => ?_) (fun h_1 => ?_)
  · have hd := ite_t hd h_1
    refine lv_iconst (v := 0) hx hb d_Th_has_16 (by decide) ?_
    obtain rfl := Option.some.inj hd
    exact retZ hx hb hr hlk hK hP hD hS d_Th_has_17 rfl (by decide +kernel)
  · have hd := ite_f hd h_1
    refine lv_iload_n hx hb d_Th_has_4 rfl (lv_at hl 1 rfl) ?_
    refine lv_aload_n hx hb d_Th_has_5 rfl (lv_at hl 0 rfl) ?_
    refine va_get (D := D) (ci := 10) (v := .int (q_Th_size z)) (C := R_Th) (T := F_Th) (N := 3) hx hb hg i_Th hown hK hP 0 rfl rfl 0 (by decide) (hg _ g_184) (fun _ h9 => h9) rfl d_Th_has_6 ?_
    refine lv_icmp_ge (tgt := 16) hx hb d_Th_has_9 (by decide) (fun h_2 => ?_) (fun h_2 => ?_)
    · have hd := ite_t hd h_2
      refine lv_iconst (v := 0) hx hb d_Th_has_16 (by decide) ?_
      obtain rfl := Option.some.inj hd
      exact retZ hx hb hr hlk hK hP hD hS d_Th_has_17 rfl (by decide +kernel)
    · have hd := ite_f hd h_2
      refine lv_iconst (v := 1) hx hb d_Th_has_12 (by decide) ?_
      refine lv_goto (tgt := 17) hx hb d_Th_has_13 (by decide) ?_
      obtain rfl := Option.some.inj hd
      exact retZ hx hb hr hlk hK hP hD hS d_Th_has_17 rfl (by decide +kernel)
-- OwnsLift$Things.add(I)I
def d_Th_add (x1 : Int32) (z : T_Th) : Option (Int32 × T_Th) :=
  if inb (q_Th_size z) 7 = true then (if inb (q_Th_size z) 7 = true then (some ((q_Th_size z), (u_Th_size (u_Th_owner (u_Th_weight z (upd (q_Th_weight z) (q_Th_size z).toNatClampNeg x1)) (upd (q_Th_owner (u_Th_weight z (upd (q_Th_weight z) (q_Th_size z).toNatClampNeg x1))) (q_Th_size z).toNatClampNeg (-5))) ((q_Th_size (u_Th_owner (u_Th_weight z (upd (q_Th_weight z) (q_Th_size z).toNatClampNeg x1)) (upd (q_Th_owner (u_Th_weight z (upd (q_Th_weight z) (q_Th_size z).toNatClampNeg x1))) (q_Th_size z).toNatClampNeg (-5)))) + 1)))) else none) else none
theorem d_Th_add_0 : decode b_Th_add 0 = .ok (.aload_n 0, 1) := by decide +kernel
theorem d_Th_add_1 : decode b_Th_add 1 = .ok (.getfield 18, 3) := by decide +kernel
theorem d_Th_add_4 : decode b_Th_add 4 = .ok (.istore_n 2, 1) := by decide +kernel
theorem d_Th_add_5 : decode b_Th_add 5 = .ok (.aload_n 0, 1) := by decide +kernel
theorem d_Th_add_6 : decode b_Th_add 6 = .ok (.getfield 9, 3) := by decide +kernel
theorem d_Th_add_9 : decode b_Th_add 9 = .ok (.iload_n 2, 1) := by decide +kernel
theorem d_Th_add_10 : decode b_Th_add 10 = .ok (.iload_n 1, 1) := by decide +kernel
theorem d_Th_add_11 : decode b_Th_add 11 = .ok (.iastore, 1) := by decide +kernel
theorem d_Th_add_12 : decode b_Th_add 12 = .ok (.aload_n 0, 1) := by decide +kernel
theorem d_Th_add_13 : decode b_Th_add 13 = .ok (.getfield 15, 3) := by decide +kernel
theorem d_Th_add_16 : decode b_Th_add 16 = .ok (.iload_n 2, 1) := by decide +kernel
theorem d_Th_add_17 : decode b_Th_add 17 = .ok (.bipush (-5), 2) := by decide +kernel
theorem d_Th_add_19 : decode b_Th_add 19 = .ok (.iastore, 1) := by decide +kernel
theorem d_Th_add_20 : decode b_Th_add 20 = .ok (.aload_n 0, 1) := by decide +kernel
theorem d_Th_add_21 : decode b_Th_add 21 = .ok (.dup, 1) := by decide +kernel
theorem d_Th_add_22 : decode b_Th_add 22 = .ok (.getfield 18, 3) := by decide +kernel
theorem d_Th_add_25 : decode b_Th_add 25 = .ok (.iconst 1, 1) := by decide +kernel
theorem d_Th_add_26 : decode b_Th_add 26 = .ok (.iadd, 1) := by decide +kernel
theorem d_Th_add_27 : decode b_Th_add 27 = .ok (.putfield 18, 3) := by decide +kernel
theorem d_Th_add_30 : decode b_Th_add 30 = .ok (.iload_n 2, 1) := by decide +kernel
theorem d_Th_add_31 : decode b_Th_add 31 = .ok (.ireturn, 1) := by decide +kernel
theorem o_Th_add : OkV y_Th_add "OwnsLift$Things" b_Th_add 3 (some .int) 1 := ⟨⟨rfl, by decide +kernel, by decide +kernel, by decide +kernel⟩, g_713, g_714, g_75, g_715⟩
set_option maxHeartbeats 4000000 in
set_option maxRecDepth 100000 in
theorem c_Th_add (l : Launch) (D : va_G) (g : Nat → ClassId) (a : Nat → Nat) (x1 : Int32) (z : T_Th) (v : Int32 × T_Th) (h : d_Th_add x1 z = some v) :
    MI l y_Th_add b_Th_add 3 .int ({ frames := 0, cells := 0, slots := 0, locals := 0 } : Room) D g [.ref (a 0), .int x1] (ws_Th g a z) (v.1) (ws_Th g a v.2) := by
  have hd := h
  unfold d_Th_add at hd
  refine enterI rfl (Nat.le_of_ble_eq_true rfl) (fun p e s m below meth c A ls hx hb hml hr hown hg hlk hK hA hP hD hS hCs hl => ?_)
  have hown : s.vm.findClass "OwnsLift$Things" = some m.cls := hown
  have hl : lv_has ls 3 [(0, .ref (a 0)), (1, .int x1)] := hl
  show GI p l e s m ({ frames := 0, cells := 0, slots := 0, locals := 0 } : Room) ([.ref (a 0), .int x1] : List Value).toArray below meth c A D g (ws_Th g a v.2) (v.1) s.heap [] (F0 m 0 ls [])
  refine lv_aload_n hx hb d_Th_add_0 rfl (lv_at hl 0 rfl) ?_
  refine va_get (D := D) (ci := 10) (v := .int (q_Th_size z)) (C := R_Th) (T := F_Th) (N := 3) hx hb hg i_Th hown hK hP 0 rfl rfl 0 (by decide) (hg _ g_184) (fun _ h9 => h9) rfl d_Th_add_1 ?_
  refine lv_istore_n (lv' := [(2, .int (q_Th_size z)), (0, .ref (a 0)), (1, .int x1)]) hx hb d_Th_add_4 rfl hl (by decide) rfl (fun ls hl => ?_)
  refine lv_aload_n hx hb d_Th_add_5 rfl (lv_at hl 1 rfl) ?_
  refine va_get (D := D) (ci := 10) (v := .ref (a 1)) (C := R_Th) (T := F_Th) (N := 3) hx hb hg i_Th hown hK hP 0 rfl rfl 1 (by decide) (hg _ g_188) (fun _ h9 => h9) rfl d_Th_add_6 ?_
  refine lv_iload_n hx hb d_Th_add_9 rfl (lv_at hl 0 rfl) ?_
  refine lv_iload_n hx hb d_Th_add_10 rfl (lv_at hl 2 rfl) ?_
  obtain ⟨h_2, hd⟩ := ite_s hd
  refine iastK hx hb hK hP hD hS 1 0 rfl rfl (inb_t h_2) rfl d_Th_add_11 (fun H locs hP hD hS => ?_)
  have hP : va_P D classes (ws_Th g a (u_Th_weight z (upd (q_Th_weight z) (q_Th_size z).toNatClampNeg x1))) H := hP
  have hD : va_D A (ws_Th g a (u_Th_weight z (upd (q_Th_weight z) (q_Th_size z).toNatClampNeg x1))) := hD
  refine lv_aload_n hx hb d_Th_add_12 rfl (lv_at hl 1 rfl) ?_
  refine va_get (D := D) (ci := 10) (v := .ref (a 2)) (C := R_Th) (T := F_Th) (N := 3) hx hb hg i_Th hown hK hP 0 rfl rfl 2 (by decide) (hg _ g_192) (fun _ h9 => h9) rfl d_Th_add_13 ?_
  refine lv_iload_n hx hb d_Th_add_16 rfl (lv_at hl 0 rfl) ?_
  refine lv_bipush (v := (-5)) hx hb d_Th_add_17 (by decide) ?_
  obtain ⟨h_1, hd⟩ := ite_s hd
  refine iastK hx hb hK hP hD hS 2 0 rfl rfl (inb_t h_1) rfl d_Th_add_19 (fun H locs hP hD hS => ?_)
  have hP : va_P D classes (ws_Th g a (u_Th_owner (u_Th_weight z (upd (q_Th_weight z) (q_Th_size z).toNatClampNeg x1)) (upd (q_Th_owner (u_Th_weight z (upd (q_Th_weight z) (q_Th_size z).toNatClampNeg x1))) (q_Th_size z).toNatClampNeg (-5)))) H := hP
  have hD : va_D A (ws_Th g a (u_Th_owner (u_Th_weight z (upd (q_Th_weight z) (q_Th_size z).toNatClampNeg x1)) (upd (q_Th_owner (u_Th_weight z (upd (q_Th_weight z) (q_Th_size z).toNatClampNeg x1))) (q_Th_size z).toNatClampNeg (-5)))) := hD
  refine lv_aload_n hx hb d_Th_add_20 rfl (lv_at hl 1 rfl) ?_
  refine lv_dup hx hb d_Th_add_21 rfl ?_
  refine va_get (D := D) (ci := 10) (v := .int (q_Th_size (u_Th_owner (u_Th_weight z (upd (q_Th_weight z) (q_Th_size z).toNatClampNeg x1)) (upd (q_Th_owner (u_Th_weight z (upd (q_Th_weight z) (q_Th_size z).toNatClampNeg x1))) (q_Th_size z).toNatClampNeg (-5))))) (C := R_Th) (T := F_Th) (N := 3) hx hb hg i_Th hown hK hP 0 rfl rfl 0 (by decide) (hg _ g_184) (fun _ h9 => h9) rfl d_Th_add_22 ?_
  refine lv_iconst (v := 1) hx hb d_Th_add_25 (by decide) ?_
  refine lv_iadd hx hb d_Th_add_26 ?_
  refine va_put (D := D) (ci := 10) (v := .int ((q_Th_size (u_Th_owner (u_Th_weight z (upd (q_Th_weight z) (q_Th_size z).toNatClampNeg x1)) (upd (q_Th_owner (u_Th_weight z (upd (q_Th_weight z) (q_Th_size z).toNatClampNeg x1))) (q_Th_size z).toNatClampNeg (-5)))) + 1)) (ty := .int) (C := R_Th) (T := F_Th) (N := 3) hx hb hg i_Th t_Th t_Th_ok n_Th hown hK hP hD hS 0 rfl rfl 0 (by decide) (hg _ g_184) (fun _ h9 => h9) rfl (by decide +kernel) rfl rfl (Nat.le_of_ble_eq_true rfl) d_Th_add_27 (fun H locs hP hD hS => ?_)
  have hP : va_P D classes (ws_Th g a (u_Th_size (u_Th_owner (u_Th_weight z (upd (q_Th_weight z) (q_Th_size z).toNatClampNeg x1)) (upd (q_Th_owner (u_Th_weight z (upd (q_Th_weight z) (q_Th_size z).toNatClampNeg x1))) (q_Th_size z).toNatClampNeg (-5))) ((q_Th_size (u_Th_owner (u_Th_weight z (upd (q_Th_weight z) (q_Th_size z).toNatClampNeg x1)) (upd (q_Th_owner (u_Th_weight z (upd (q_Th_weight z) (q_Th_size z).toNatClampNeg x1))) (q_Th_size z).toNatClampNeg (-5)))) + 1))) H := hP
  have hD : va_D A (ws_Th g a (u_Th_size (u_Th_owner (u_Th_weight z (upd (q_Th_weight z) (q_Th_size z).toNatClampNeg x1)) (upd (q_Th_owner (u_Th_weight z (upd (q_Th_weight z) (q_Th_size z).toNatClampNeg x1))) (q_Th_size z).toNatClampNeg (-5))) ((q_Th_size (u_Th_owner (u_Th_weight z (upd (q_Th_weight z) (q_Th_size z).toNatClampNeg x1)) (upd (q_Th_owner (u_Th_weight z (upd (q_Th_weight z) (q_Th_size z).toNatClampNeg x1))) (q_Th_size z).toNatClampNeg (-5)))) + 1))) := hD
  refine lv_iload_n hx hb d_Th_add_30 rfl (lv_at hl 0 rfl) ?_
  obtain rfl := Option.some.inj hd
  exact retI hx hb hr hlk hK hP hD hS d_Th_add_31 rfl
-- OwnsLift$Fraction.common(JJ)J
def B_Fr_common_L9 (self9 : Int64 → Int64 → Int32 → Option (Int64)) (x4_9 : Int64) (x6_9 : Int64) (x8_9 : Int32) : Option (Int64) :=
  if 100 ≤ x8_9 then (some (x4_9)) else (if (lg_cmp x6_9 0) = 0 then (some (x4_9)) else (if x6_9 = 0 then none else (self9 x6_9 (x4_9 - x4_9 / x6_9 * x6_9) (x8_9 + 1))))
def d_Fr_common_L9 (n : Nat) : Int64 → Int64 → Int32 → Option (Int64) := recN (fun _ _ _ => none) (fun self => B_Fr_common_L9 self) n
def d_Fr_common (x0 : Int64) (x2 : Int64) : Option (Int64) :=
  d_Fr_common_L9  1000 x0 x2 0
theorem d_Fr_common_0 : decode b_Fr_common 0 = .ok (.lload_n 0, 1) := by decide +kernel
theorem d_Fr_common_1 : decode b_Fr_common 1 = .ok (.lstore 4, 2) := by decide +kernel
theorem d_Fr_common_3 : decode b_Fr_common 3 = .ok (.lload_n 2, 1) := by decide +kernel
theorem d_Fr_common_4 : decode b_Fr_common 4 = .ok (.lstore 6, 2) := by decide +kernel
theorem d_Fr_common_6 : decode b_Fr_common 6 = .ok (.iconst 0, 1) := by decide +kernel
theorem d_Fr_common_7 : decode b_Fr_common 7 = .ok (.istore 8, 2) := by decide +kernel
theorem d_Fr_common_9 : decode b_Fr_common 9 = .ok (.iload 8, 2) := by decide +kernel
theorem d_Fr_common_11 : decode b_Fr_common 11 = .ok (.bipush 100, 2) := by decide +kernel
theorem d_Fr_common_13 : decode b_Fr_common 13 = .ok (.if_icmp .ge 31, 3) := by decide +kernel
theorem d_Fr_common_16 : decode b_Fr_common 16 = .ok (.lload 6, 2) := by decide +kernel
theorem d_Fr_common_18 : decode b_Fr_common 18 = .ok (.lconst 0, 1) := by decide +kernel
theorem d_Fr_common_19 : decode b_Fr_common 19 = .ok (.lcmp, 1) := by decide +kernel
theorem d_Fr_common_20 : decode b_Fr_common 20 = .ok (.ifCond .eq 24, 3) := by decide +kernel
theorem d_Fr_common_23 : decode b_Fr_common 23 = .ok (.lload 4, 2) := by decide +kernel
theorem d_Fr_common_25 : decode b_Fr_common 25 = .ok (.lload 6, 2) := by decide +kernel
theorem d_Fr_common_27 : decode b_Fr_common 27 = .ok (.lrem, 1) := by decide +kernel
theorem d_Fr_common_28 : decode b_Fr_common 28 = .ok (.lstore 9, 2) := by decide +kernel
theorem d_Fr_common_30 : decode b_Fr_common 30 = .ok (.lload 6, 2) := by decide +kernel
theorem d_Fr_common_32 : decode b_Fr_common 32 = .ok (.lstore 4, 2) := by decide +kernel
theorem d_Fr_common_34 : decode b_Fr_common 34 = .ok (.lload 9, 2) := by decide +kernel
theorem d_Fr_common_36 : decode b_Fr_common 36 = .ok (.lstore 6, 2) := by decide +kernel
theorem d_Fr_common_38 : decode b_Fr_common 38 = .ok (.iinc 8 1, 3) := by decide +kernel
theorem d_Fr_common_41 : decode b_Fr_common 41 = .ok (.goto (-32), 3) := by decide +kernel
theorem d_Fr_common_44 : decode b_Fr_common 44 = .ok (.lload 4, 2) := by decide +kernel
theorem d_Fr_common_46 : decode b_Fr_common 46 = .ok (.lreturn, 1) := by decide +kernel
theorem o_Fr_common : OkS y_Fr_common b_Fr_common 11 (some .long) 2 := ⟨⟨by decide +kernel, by decide +kernel, by decide +kernel⟩, g_855, g_79, g_856⟩
set_option maxHeartbeats 4000000 in
set_option maxRecDepth 100000 in
theorem c_Fr_common (l : Launch) (D : va_G) (g : Nat → ClassId) (x0 : Int64) (x2 : Int64) (v : Int64) (h : d_Fr_common x0 x2 = some v) :
    ML l y_Fr_common b_Fr_common 11 ({ frames := 0, cells := 0, slots := 0, locals := 0 } : Room) D g [.long x0, .long x2] (([] : va_W)) (v) (([] : va_W)) := by
  have hd := h
  unfold d_Fr_common at hd
  refine enterL rfl (Nat.le_of_ble_eq_true rfl) (fun p e s m below meth c A ls hx hb hml hr hown hg hlk hK hA hP hD hS hCs hl => ?_)
  have hown : s.vm.findClass "OwnsLift$Fraction" = some m.cls := hown
  have hl : lv_has ls 11 [(0, .long x0), (2, .long x2)] := hl
  show GL p l e s m ({ frames := 0, cells := 0, slots := 0, locals := 0 } : Room) ([.long x0, .long x2] : List Value).toArray below meth c A D g (([] : va_W)) (v) s.heap [] (F0 m 0 ls [])
  refine lv_lload_n hx hb d_Fr_common_0 rfl (lv_at hl 0 rfl) ?_
  refine lv_lstore (lv' := [(4, .long x0), (0, .long x0), (2, .long x2)]) hx hb d_Fr_common_1 hl (by decide) rfl (fun ls hl => ?_)
  refine lv_lload_n hx hb d_Fr_common_3 rfl (lv_at hl 2 rfl) ?_
  refine lv_lstore (lv' := [(6, .long x2), (4, .long x0), (0, .long x0), (2, .long x2)]) hx hb d_Fr_common_4 hl (by decide) rfl (fun ls hl => ?_)
  refine lv_iconst (v := 0) hx hb d_Fr_common_6 (by decide) ?_
  refine lv_istore (lv' := [(8, .int 0), (6, .long x2), (4, .long x0), (0, .long x0), (2, .long x2)]) hx hb d_Fr_common_7 hl (by decide) rfl (fun ls hl => ?_)
  have lp9 : ∀ (n : Nat) (x4_9 : Int64) (x6_9 : Int64) (x8_9 : Int32) (H : Heap) (locs : List Loc) (ls : Array Slot), va_P D classes (([] : va_W)) H → va_D A (([] : va_W)) → va_S A s.heap H locs → lv_has ls 11 [(4, .long x4_9), (6, .long x6_9), (8, .int x8_9)] → d_Fr_common_L9 n x4_9 x6_9 x8_9 = some v → GL p l e s m ({ frames := 0, cells := 0, slots := 0, locals := 0 } : Room) ([.long x0, .long x2] : List Value).toArray below meth c A D g (([] : va_W)) (v) H locs (F0 m 9 ls []) := by
    intro n
    induction n with
    | zero =>
      intro  x4_9 x6_9 x8_9 H locs ls hP hD hS hl hd
      have hd : none = some v := hd
      cases hd
    | succ n ih9 =>
      intro  x4_9 x6_9 x8_9 H locs ls hP hD hS hl hd
      have hd : B_Fr_common_L9 (d_Fr_common_L9 n) x4_9 x6_9 x8_9 = some v := hd
      generalize d_Fr_common_L9 n = self9 at ih9 hd
      unfold B_Fr_common_L9 at hd
      refine lv_iload hx hb d_Fr_common_9 (lv_at hl 2 rfl) ?_
      refine lv_bipush (v := 100) hx hb d_Fr_common_11 (by decide) ?_
      refine lv_icmp_ge (tgt := 44) hx hb d_Fr_common_13 (by decide) (fun h_1 => ?_) (fun h_1 => ?_)
      · have hd := ite_t hd h_1
        refine lv_lload hx hb d_Fr_common_44 (lv_at hl 0 rfl) ?_
        obtain rfl := Option.some.inj hd
        exact retL hx hb hr hlk hK hP hD hS d_Fr_common_46 rfl
      · have hd := ite_f hd h_1
        refine lv_lload hx hb d_Fr_common_16 (lv_at hl 1 rfl) ?_
        refine lv_lconst (v := 0) hx hb d_Fr_common_18 (by decide) ?_
        refine W.lcmp hx hb d_Fr_common_19 ?_
        refine lv_if_eq (tgt := 44) hx hb d_Fr_common_20 (by decide) (fun h_2 => ?_) (fun h_2 => ?_)
        · have hd := ite_t hd h_2
          refine lv_lload hx hb d_Fr_common_44 (lv_at hl 0 rfl) ?_
          obtain rfl := Option.some.inj hd
          exact retL hx hb hr hlk hK hP hD hS d_Fr_common_46 rfl
        · have hd := ite_f hd h_2
          refine lv_lload hx hb d_Fr_common_23 (lv_at hl 0 rfl) ?_
          refine lv_lload hx hb d_Fr_common_25 (lv_at hl 1 rfl) ?_
          obtain ⟨h_3, hd⟩ := ite_n hd
          refine lv_lrem hx hb d_Fr_common_27 h_3 ?_
          refine lv_lstore (lv' := [(9, .long (x4_9 - x4_9 / x6_9 * x6_9)), (4, .long x4_9), (6, .long x6_9), (8, .int x8_9)]) hx hb d_Fr_common_28 hl (by decide) rfl (fun ls hl => ?_)
          refine lv_lload hx hb d_Fr_common_30 (lv_at hl 2 rfl) ?_
          refine lv_lstore (lv' := [(4, .long x6_9), (9, .long (x4_9 - x4_9 / x6_9 * x6_9)), (6, .long x6_9), (8, .int x8_9)]) hx hb d_Fr_common_32 hl (by decide) rfl (fun ls hl => ?_)
          refine lv_lload hx hb d_Fr_common_34 (lv_at hl 1 rfl) ?_
          refine lv_lstore (lv' := [(6, .long (x4_9 - x4_9 / x6_9 * x6_9)), (4, .long x6_9), (9, .long (x4_9 - x4_9 / x6_9 * x6_9)), (8, .int x8_9)]) hx hb d_Fr_common_36 hl (by decide) rfl (fun ls hl => ?_)
          refine lv_iinc (v := x8_9 + 1) (lv' := [(8, .int (x8_9 + 1)), (6, .long (x4_9 - x4_9 / x6_9 * x6_9)), (4, .long x6_9), (9, .long (x4_9 - x4_9 / x6_9 * x6_9))]) hx hb d_Fr_common_38 hl (k := 3) rfl (by rfl) (by decide) rfl (fun ls hl => ?_)
          refine lv_goto (tgt := 9) hx hb d_Fr_common_41 (by decide) ?_
          exact ih9 x6_9 (x4_9 - x4_9 / x6_9 * x6_9) (x8_9 + 1) _ _ _ hP hD hS (lv_sub hl [2, 1, 0] rfl) hd
  exact lp9 1000 x0 x2 0 _ _ _ hP hD hS (lv_sub hl [2, 1, 0] rfl) hd
-- OwnsLift$Fraction.put(JJ)V
def d_Fr_put (x1 : Int64) (x3 : Int64) (z : T_Fr) : Option (T_Fr) :=
  (d_Fr_common x1 x3).bind fun v_1 => if (lg_cmp v_1 0) ≤ 0 then (some (z)) else (if v_1 = 0 then none else (if v_1 = 0 then none else (some ((u_Fr_below (u_Fr_above z (x1 / v_1)) (x3 / v_1))))))
theorem d_Fr_put_0 : decode b_Fr_put 0 = .ok (.lload_n 1, 1) := by decide +kernel
theorem d_Fr_put_1 : decode b_Fr_put 1 = .ok (.lload_n 3, 1) := by decide +kernel
theorem d_Fr_put_2 : decode b_Fr_put 2 = .ok (.invokestatic 13, 3) := by decide +kernel
theorem d_Fr_put_5 : decode b_Fr_put 5 = .ok (.lstore 5, 2) := by decide +kernel
theorem d_Fr_put_7 : decode b_Fr_put 7 = .ok (.lload 5, 2) := by decide +kernel
theorem d_Fr_put_9 : decode b_Fr_put 9 = .ok (.lconst 0, 1) := by decide +kernel
theorem d_Fr_put_10 : decode b_Fr_put 10 = .ok (.lcmp, 1) := by decide +kernel
theorem d_Fr_put_11 : decode b_Fr_put 11 = .ok (.ifCond .le 19, 3) := by decide +kernel
theorem d_Fr_put_14 : decode b_Fr_put 14 = .ok (.aload_n 0, 1) := by decide +kernel
theorem d_Fr_put_15 : decode b_Fr_put 15 = .ok (.lload_n 1, 1) := by decide +kernel
theorem d_Fr_put_16 : decode b_Fr_put 16 = .ok (.lload 5, 2) := by decide +kernel
theorem d_Fr_put_18 : decode b_Fr_put 18 = .ok (.ldiv, 1) := by decide +kernel
theorem d_Fr_put_19 : decode b_Fr_put 19 = .ok (.putfield 17, 3) := by decide +kernel
theorem d_Fr_put_22 : decode b_Fr_put 22 = .ok (.aload_n 0, 1) := by decide +kernel
theorem d_Fr_put_23 : decode b_Fr_put 23 = .ok (.lload_n 3, 1) := by decide +kernel
theorem d_Fr_put_24 : decode b_Fr_put 24 = .ok (.lload 5, 2) := by decide +kernel
theorem d_Fr_put_26 : decode b_Fr_put 26 = .ok (.ldiv, 1) := by decide +kernel
theorem d_Fr_put_27 : decode b_Fr_put 27 = .ok (.putfield 7, 3) := by decide +kernel
theorem d_Fr_put_30 : decode b_Fr_put 30 = .ok (.return_, 1) := by decide +kernel
theorem o_Fr_put : OkV y_Fr_put "OwnsLift$Fraction" b_Fr_put 7 none 2 := ⟨⟨rfl, by decide +kernel, by decide +kernel, by decide +kernel⟩, g_851, g_852, g_79, g_853⟩
set_option maxHeartbeats 4000000 in
set_option maxRecDepth 100000 in
theorem c_Fr_put (l : Launch) (D : va_G) (g : Nat → ClassId) (a : Nat → Nat) (x1 : Int64) (x3 : Int64) (z : T_Fr) (v : T_Fr) (h : d_Fr_put x1 x3 z = some v) :
    MV l y_Fr_put b_Fr_put 7 ({ frames := 1, cells := 0, slots := 0, locals := 30 } : Room) D g [.ref (a 0), .long x1, .long x3] (ws_Fr g a z) (ws_Fr g a v) := by
  have hd := h
  unfold d_Fr_put at hd
  refine enterV rfl (Nat.le_of_ble_eq_true rfl) (fun p e s m below meth c A ls hx hb hml hr hown hg hlk hK hA hP hD hS hCs hl => ?_)
  have hown : s.vm.findClass "OwnsLift$Fraction" = some m.cls := hown
  have hl : lv_has ls 7 [(0, .ref (a 0)), (1, .long x1), (3, .long x3)] := hl
  show GV p l e s m ({ frames := 1, cells := 0, slots := 0, locals := 30 } : Room) ([.ref (a 0), .long x1, .long x3] : List Value).toArray below meth c A D g (ws_Fr g a v) s.heap [] (F0 m 0 ls [])
  refine lv_lload_n hx hb d_Fr_put_0 rfl (lv_at hl 1 rfl) ?_
  refine lv_lload_n hx hb d_Fr_put_1 rfl (lv_at hl 2 rfl) ?_
  obtain ⟨v_1, e_2, hd⟩ := bind_s hd
  refine callSL (ws' := ws_Fr g a z) (rest := []) (As := [.long x1, .long x3]) hx hb hml hown hg hK hP hD hS hA hCs hl.1 (c_Fr_common l D g  x1 x3 _ e_2) o_Fr_common g_854 [] segC0 rfl rfl segP0 rfl rfl (Nat.le_of_ble_eq_true rfl) ⟨rfl, rfl, Nat.le_of_ble_eq_true rfl, Nat.le_of_ble_eq_true rfl⟩ d_Fr_put_2 (fun H locs hP hD hS => ?_)
  refine lv_lstore (lv' := [(5, .long v_1), (0, .ref (a 0)), (1, .long x1), (3, .long x3)]) hx hb d_Fr_put_5 hl (by decide) rfl (fun ls hl => ?_)
  refine lv_lload hx hb d_Fr_put_7 (lv_at hl 0 rfl) ?_
  refine lv_lconst (v := 0) hx hb d_Fr_put_9 (by decide) ?_
  refine W.lcmp hx hb d_Fr_put_10 ?_
  refine lv_if_le (tgt := 30) hx hb d_Fr_put_11 (by decide) (fun h_3 => ?_) (fun h_3 => ?_)
  · have hd := ite_t hd h_3
    obtain rfl := Option.some.inj hd
    exact retV hx hb hr hlk hK hP hD hS d_Fr_put_30
  · have hd := ite_f hd h_3
    refine lv_aload_n hx hb d_Fr_put_14 rfl (lv_at hl 1 rfl) ?_
    refine lv_lload_n hx hb d_Fr_put_15 rfl (lv_at hl 2 rfl) ?_
    refine lv_lload hx hb d_Fr_put_16 (lv_at hl 0 rfl) ?_
    obtain ⟨h_4, hd⟩ := ite_n hd
    refine lv_ldiv hx hb d_Fr_put_18 h_4 ?_
    refine va_put (D := D) (ci := 3) (v := .long (x1 / v_1)) (ty := .long) (C := R_Fr) (T := F_Fr) (N := 2) hx hb hg i_Fr t_Fr t_Fr_ok n_Fr hown hK hP hD hS 0 rfl rfl 0 (by decide) (hg _ g_363) (fun _ h9 => h9) rfl (by decide +kernel) rfl rfl (Nat.le_of_ble_eq_true rfl) d_Fr_put_19 (fun H locs hP hD hS => ?_)
    have hP : va_P D classes (ws_Fr g a (u_Fr_above z (x1 / v_1))) H := hP
    have hD : va_D A (ws_Fr g a (u_Fr_above z (x1 / v_1))) := hD
    refine lv_aload_n hx hb d_Fr_put_22 rfl (lv_at hl 1 rfl) ?_
    refine lv_lload_n hx hb d_Fr_put_23 rfl (lv_at hl 3 rfl) ?_
    refine lv_lload hx hb d_Fr_put_24 (lv_at hl 0 rfl) ?_
    obtain ⟨h_5, hd⟩ := ite_n hd
    refine lv_ldiv hx hb d_Fr_put_26 h_5 ?_
    refine va_put (D := D) (ci := 3) (v := .long (x3 / v_1)) (ty := .long) (C := R_Fr) (T := F_Fr) (N := 2) hx hb hg i_Fr t_Fr t_Fr_ok n_Fr hown hK hP hD hS 0 rfl rfl 1 (by decide) (hg _ g_365) (fun _ h9 => h9) rfl (by decide +kernel) rfl rfl (Nat.le_of_ble_eq_true rfl) d_Fr_put_27 (fun H locs hP hD hS => ?_)
    have hP : va_P D classes (ws_Fr g a (u_Fr_below (u_Fr_above z (x1 / v_1)) (x3 / v_1))) H := hP
    have hD : va_D A (ws_Fr g a (u_Fr_below (u_Fr_above z (x1 / v_1)) (x3 / v_1))) := hD
    obtain rfl := Option.some.inj hd
    exact retV hx hb hr hlk hK hP hD hS d_Fr_put_30
-- OwnsLift$Acts.forget()V
def d_Ac_forget (z : T_Ac) : Option (T_Ac) :=
  some ((u_Ac_ran z 0))
theorem d_Ac_forget_0 : decode b_Ac_forget 0 = .ok (.aload_n 0, 1) := by decide +kernel
theorem d_Ac_forget_1 : decode b_Ac_forget 1 = .ok (.iconst 0, 1) := by decide +kernel
theorem d_Ac_forget_2 : decode b_Ac_forget 2 = .ok (.putfield 15, 3) := by decide +kernel
theorem d_Ac_forget_5 : decode b_Ac_forget 5 = .ok (.return_, 1) := by decide +kernel
theorem o_Ac_forget : OkV y_Ac_forget "OwnsLift$Acts" b_Ac_forget 1 none 0 := ⟨⟨rfl, by decide +kernel, by decide +kernel, by decide +kernel⟩, g_927, g_928, g_80, g_929⟩
set_option maxHeartbeats 4000000 in
set_option maxRecDepth 100000 in
theorem c_Ac_forget (l : Launch) (D : va_G) (g : Nat → ClassId) (a : Nat → Nat) (z : T_Ac) (v : T_Ac) (h : d_Ac_forget z = some v) :
    MV l y_Ac_forget b_Ac_forget 1 ({ frames := 0, cells := 0, slots := 0, locals := 0 } : Room) D g [.ref (a 0)] (ws_Ac g a z) (ws_Ac g a v) := by
  have hd := h
  unfold d_Ac_forget at hd
  refine enterV rfl (Nat.le_of_ble_eq_true rfl) (fun p e s m below meth c A ls hx hb hml hr hown hg hlk hK hA hP hD hS hCs hl => ?_)
  have hown : s.vm.findClass "OwnsLift$Acts" = some m.cls := hown
  have hl : lv_has ls 1 [(0, .ref (a 0))] := hl
  show GV p l e s m ({ frames := 0, cells := 0, slots := 0, locals := 0 } : Room) ([.ref (a 0)] : List Value).toArray below meth c A D g (ws_Ac g a v) s.heap [] (F0 m 0 ls [])
  refine lv_aload_n hx hb d_Ac_forget_0 rfl (lv_at hl 0 rfl) ?_
  refine lv_iconst (v := 0) hx hb d_Ac_forget_1 (by decide) ?_
  refine va_put (D := D) (ci := 2) (v := .int 0) (ty := .int) (C := R_Ac) (T := F_Ac) (N := 5) hx hb hg i_Ac t_Ac t_Ac_ok n_Ac hown hK hP hD hS 0 rfl rfl 1 (by decide) (hg _ g_380) (fun _ h9 => h9) rfl (by decide +kernel) rfl rfl (Nat.le_of_ble_eq_true rfl) d_Ac_forget_2 (fun H locs hP hD hS => ?_)
  have hP : va_P D classes (ws_Ac g a (u_Ac_ran z 0)) H := hP
  have hD : va_D A (ws_Ac g a (u_Ac_ran z 0)) := hD
  obtain rfl := Option.some.inj hd
  exact retV hx hb hr hlk hK hP hD hS d_Ac_forget_5
-- OwnsLift$Acts.bodyOf(II)I
def B_Ac_bodyOf_L4 (x1_f4 : Int32) (k4_38 : Int32 → Option (Int32)) (self4 : Int32 → Int32 → Option (Int32)) (x2_4 : Int32) (x3_4 : Int32) : Option (Int32) :=
  if 7 ≤ x3_4 then (k4_38 x2_4) else (if x2_4 ≤ 0 then (k4_38 x2_4) else (if inb ((x2_4 * 3) + x1_f4) 21 = true then (if (bodiesC ((x2_4 * 3) + x1_f4).toNatClampNeg) = 0 then (if inb x2_4 7 = true then (self4 (aboveC x2_4.toNatClampNeg) (x3_4 + 1)) else none) else (k4_38 x2_4)) else none))
def d_Ac_bodyOf_L4 (x1_f4 : Int32) (k4_38 : Int32 → Option (Int32)) (n : Nat) : Int32 → Int32 → Option (Int32) := recN (fun _ _ => none) (fun self => B_Ac_bodyOf_L4 x1_f4 k4_38 self) n
def d_Ac_bodyOf (x0 : Int32) (x1 : Int32) : Option (Int32) :=
  d_Ac_bodyOf_L4 x1 (fun x2_4 => if inb ((x2_4 * 3) + x1) 21 = true then (some (bodiesC ((x2_4 * 3) + x1).toNatClampNeg)) else none) 1000 x0 0
theorem d_Ac_bodyOf_0 : decode b_Ac_bodyOf 0 = .ok (.iload_n 0, 1) := by decide +kernel
theorem d_Ac_bodyOf_1 : decode b_Ac_bodyOf 1 = .ok (.istore_n 2, 1) := by decide +kernel
theorem d_Ac_bodyOf_2 : decode b_Ac_bodyOf 2 = .ok (.iconst 0, 1) := by decide +kernel
theorem d_Ac_bodyOf_3 : decode b_Ac_bodyOf 3 = .ok (.istore_n 3, 1) := by decide +kernel
theorem d_Ac_bodyOf_4 : decode b_Ac_bodyOf 4 = .ok (.iload_n 3, 1) := by decide +kernel
theorem d_Ac_bodyOf_5 : decode b_Ac_bodyOf 5 = .ok (.bipush 7, 2) := by decide +kernel
theorem d_Ac_bodyOf_7 : decode b_Ac_bodyOf 7 = .ok (.if_icmp .ge 31, 3) := by decide +kernel
theorem d_Ac_bodyOf_10 : decode b_Ac_bodyOf 10 = .ok (.iload_n 2, 1) := by decide +kernel
theorem d_Ac_bodyOf_11 : decode b_Ac_bodyOf 11 = .ok (.ifCond .le 27, 3) := by decide +kernel
theorem d_Ac_bodyOf_14 : decode b_Ac_bodyOf 14 = .ok (.getstatic 49, 3) := by decide +kernel
theorem d_Ac_bodyOf_17 : decode b_Ac_bodyOf 17 = .ok (.iload_n 2, 1) := by decide +kernel
theorem d_Ac_bodyOf_18 : decode b_Ac_bodyOf 18 = .ok (.iconst 3, 1) := by decide +kernel
theorem d_Ac_bodyOf_19 : decode b_Ac_bodyOf 19 = .ok (.imul, 1) := by decide +kernel
theorem d_Ac_bodyOf_20 : decode b_Ac_bodyOf 20 = .ok (.iload_n 1, 1) := by decide +kernel
theorem d_Ac_bodyOf_21 : decode b_Ac_bodyOf 21 = .ok (.iadd, 1) := by decide +kernel
theorem d_Ac_bodyOf_22 : decode b_Ac_bodyOf 22 = .ok (.iaload, 1) := by decide +kernel
theorem d_Ac_bodyOf_23 : decode b_Ac_bodyOf 23 = .ok (.ifCond .ne 15, 3) := by decide +kernel
theorem d_Ac_bodyOf_26 : decode b_Ac_bodyOf 26 = .ok (.getstatic 46, 3) := by decide +kernel
theorem d_Ac_bodyOf_29 : decode b_Ac_bodyOf 29 = .ok (.iload_n 2, 1) := by decide +kernel
theorem d_Ac_bodyOf_30 : decode b_Ac_bodyOf 30 = .ok (.iaload, 1) := by decide +kernel
theorem d_Ac_bodyOf_31 : decode b_Ac_bodyOf 31 = .ok (.istore_n 2, 1) := by decide +kernel
theorem d_Ac_bodyOf_32 : decode b_Ac_bodyOf 32 = .ok (.iinc 3 1, 3) := by decide +kernel
theorem d_Ac_bodyOf_35 : decode b_Ac_bodyOf 35 = .ok (.goto (-31), 3) := by decide +kernel
theorem d_Ac_bodyOf_38 : decode b_Ac_bodyOf 38 = .ok (.getstatic 49, 3) := by decide +kernel
theorem d_Ac_bodyOf_41 : decode b_Ac_bodyOf 41 = .ok (.iload_n 2, 1) := by decide +kernel
theorem d_Ac_bodyOf_42 : decode b_Ac_bodyOf 42 = .ok (.iconst 3, 1) := by decide +kernel
theorem d_Ac_bodyOf_43 : decode b_Ac_bodyOf 43 = .ok (.imul, 1) := by decide +kernel
theorem d_Ac_bodyOf_44 : decode b_Ac_bodyOf 44 = .ok (.iload_n 1, 1) := by decide +kernel
theorem d_Ac_bodyOf_45 : decode b_Ac_bodyOf 45 = .ok (.iadd, 1) := by decide +kernel
theorem d_Ac_bodyOf_46 : decode b_Ac_bodyOf 46 = .ok (.iaload, 1) := by decide +kernel
theorem d_Ac_bodyOf_47 : decode b_Ac_bodyOf 47 = .ok (.ireturn, 1) := by decide +kernel
theorem o_Ac_bodyOf : OkS y_Ac_bodyOf b_Ac_bodyOf 4 (some .int) 2 := ⟨⟨by decide +kernel, by decide +kernel, by decide +kernel⟩, g_939, g_80, g_940⟩
set_option maxHeartbeats 4000000 in
set_option maxRecDepth 100000 in
theorem c_Ac_bodyOf (l : Launch) (D : va_G) (g : Nat → ClassId) (x0 : Int32) (x1 : Int32) (v : Int32) (h : d_Ac_bodyOf x0 x1 = some v) :
    MI l y_Ac_bodyOf b_Ac_bodyOf 4 .int ({ frames := 0, cells := 0, slots := 0, locals := 0 } : Room) D g [.int x0, .int x1] (([] : va_W)) (v) (([] : va_W)) := by
  have hd := h
  unfold d_Ac_bodyOf at hd
  refine enterI rfl (Nat.le_of_ble_eq_true rfl) (fun p e s m below meth c A ls hx hb hml hr hown hg hlk hK hA hP hD hS hCs hl => ?_)
  have hown : s.vm.findClass "OwnsLift$Acts" = some m.cls := hown
  have hl : lv_has ls 4 [(0, .int x0), (1, .int x1)] := hl
  show GI p l e s m ({ frames := 0, cells := 0, slots := 0, locals := 0 } : Room) ([.int x0, .int x1] : List Value).toArray below meth c A D g (([] : va_W)) (v) s.heap [] (F0 m 0 ls [])
  refine lv_iload_n hx hb d_Ac_bodyOf_0 rfl (lv_at hl 0 rfl) ?_
  refine lv_istore_n (lv' := [(2, .int x0), (0, .int x0), (1, .int x1)]) hx hb d_Ac_bodyOf_1 rfl hl (by decide) rfl (fun ls hl => ?_)
  refine lv_iconst (v := 0) hx hb d_Ac_bodyOf_2 (by decide) ?_
  refine lv_istore_n (lv' := [(3, .int 0), (2, .int x0), (0, .int x0), (1, .int x1)]) hx hb d_Ac_bodyOf_3 rfl hl (by decide) rfl (fun ls hl => ?_)
  have ex4_38 : ∀ (x2_4 : Int32) (H : Heap) (locs : List Loc) (ls : Array Slot), va_P D classes (([] : va_W)) H → va_D A (([] : va_W)) → va_S A s.heap H locs → lv_has ls 4 [(1, .int x1), (2, .int x2_4)] → (if inb ((x2_4 * 3) + x1) 21 = true then (some (bodiesC ((x2_4 * 3) + x1).toNatClampNeg)) else none) = some v → GI p l e s m ({ frames := 0, cells := 0, slots := 0, locals := 0 } : Room) ([.int x0, .int x1] : List Value).toArray below meth c A D g (([] : va_W)) (v) H locs (F0 m 38 ls []) := by
    intro x2_4 H locs ls hP hD hS hl hd
    refine va_getsN (v := .ref (g 51)) hx hb hCs.1.2.2.2.2.2.1 hS hown (va_Nw.use rfl hCs.2.2.1) (fun _ h9 => h9) d_Ac_bodyOf_38 ?_
    refine lv_iload_n hx hb d_Ac_bodyOf_41 rfl (lv_at hl 1 rfl) ?_
    refine lv_iconst (v := 3) hx hb d_Ac_bodyOf_42 (by decide) ?_
    refine lv_imul hx hb d_Ac_bodyOf_43 ?_
    refine lv_iload_n hx hb d_Ac_bodyOf_44 rfl (lv_at hl 0 rfl) ?_
    refine lv_iadd hx hb d_Ac_bodyOf_45 ?_
    obtain ⟨h_6, hd⟩ := ite_s hd
    refine va_ti (v := .int (bodiesC ((x2_4 * 3) + x1).toNatClampNeg)) hx hb hCs.1.2.2.2.2.2.2 hS (inb_t h_6) rfl d_Ac_bodyOf_46 ?_
    obtain rfl := Option.some.inj hd
    exact retI hx hb hr hlk hK hP hD hS d_Ac_bodyOf_47 rfl
  have lp4 : ∀ (x1_f4 : Int32) (k4_38 : Int32 → Option (Int32)) (hk4_38 : ∀ (x2_4 : Int32) (H : Heap) (locs : List Loc) (ls : Array Slot), va_P D classes (([] : va_W)) H → va_D A (([] : va_W)) → va_S A s.heap H locs → lv_has ls 4 [(1, .int x1_f4), (2, .int x2_4)] → k4_38 x2_4 = some v → GI p l e s m ({ frames := 0, cells := 0, slots := 0, locals := 0 } : Room) ([.int x0, .int x1] : List Value).toArray below meth c A D g (([] : va_W)) (v) H locs (F0 m 38 ls [])) (n : Nat) (x2_4 : Int32) (x3_4 : Int32) (H : Heap) (locs : List Loc) (ls : Array Slot), va_P D classes (([] : va_W)) H → va_D A (([] : va_W)) → va_S A s.heap H locs → lv_has ls 4 [(1, .int x1_f4), (2, .int x2_4), (3, .int x3_4)] → d_Ac_bodyOf_L4 x1_f4 k4_38 n x2_4 x3_4 = some v → GI p l e s m ({ frames := 0, cells := 0, slots := 0, locals := 0 } : Room) ([.int x0, .int x1] : List Value).toArray below meth c A D g (([] : va_W)) (v) H locs (F0 m 4 ls []) := by
    intro x1_f4 k4_38 hk4_38 n
    induction n with
    | zero =>
      intro  x2_4 x3_4 H locs ls hP hD hS hl hd
      have hd : none = some v := hd
      cases hd
    | succ n ih4 =>
      intro  x2_4 x3_4 H locs ls hP hD hS hl hd
      have hd : B_Ac_bodyOf_L4 x1_f4 k4_38 (d_Ac_bodyOf_L4 x1_f4 k4_38 n) x2_4 x3_4 = some v := hd
      generalize d_Ac_bodyOf_L4 x1_f4 k4_38 n = self4 at ih4 hd
      unfold B_Ac_bodyOf_L4 at hd
      refine lv_iload_n hx hb d_Ac_bodyOf_4 rfl (lv_at hl 2 rfl) ?_
      refine lv_bipush (v := 7) hx hb d_Ac_bodyOf_5 (by decide) ?_
      refine lv_icmp_ge (tgt := 38) hx hb d_Ac_bodyOf_7 (by decide) (fun h_1 => ?_) (fun h_1 => ?_)
      · have hd := ite_t hd h_1
        exact hk4_38 x2_4 _ _ _ hP hD hS (lv_sub hl [0, 1] rfl) hd
      · have hd := ite_f hd h_1
        refine lv_iload_n hx hb d_Ac_bodyOf_10 rfl (lv_at hl 1 rfl) ?_
        refine lv_if_le (tgt := 38) hx hb d_Ac_bodyOf_11 (by decide) (fun h_2 => ?_) (fun h_2 => ?_)
        · have hd := ite_t hd h_2
          exact hk4_38 x2_4 _ _ _ hP hD hS (lv_sub hl [0, 1] rfl) hd
        · have hd := ite_f hd h_2
          refine va_getsN (v := .ref (g 51)) hx hb hCs.1.2.2.2.2.2.1 hS hown (va_Nw.use rfl hCs.2.2.1) (fun _ h9 => h9) d_Ac_bodyOf_14 ?_
          refine lv_iload_n hx hb d_Ac_bodyOf_17 rfl (lv_at hl 1 rfl) ?_
          refine lv_iconst (v := 3) hx hb d_Ac_bodyOf_18 (by decide) ?_
          refine lv_imul hx hb d_Ac_bodyOf_19 ?_
          refine lv_iload_n hx hb d_Ac_bodyOf_20 rfl (lv_at hl 0 rfl) ?_
          refine lv_iadd hx hb d_Ac_bodyOf_21 ?_
          obtain ⟨h_3, hd⟩ := ite_s hd
          refine va_ti (v := .int (bodiesC ((x2_4 * 3) + x1_f4).toNatClampNeg)) hx hb hCs.1.2.2.2.2.2.2 hS (inb_t h_3) rfl d_Ac_bodyOf_22 ?_
          refine lv_if_ne (tgt := 38) hx hb d_Ac_bodyOf_23 (by decide) (fun h_4 => ?_) (fun h_4 => ?_)
          · have hd := ite_f hd h_4
            exact hk4_38 x2_4 _ _ _ hP hD hS (lv_sub hl [0, 1] rfl) hd
          · have hd := ite_t hd h_4
            refine va_getsN (v := .ref (g 50)) hx hb hCs.1.2.2.2.1 hS hown (va_Nw.use rfl hCs.2.2.2.1) (fun _ h9 => h9) d_Ac_bodyOf_26 ?_
            refine lv_iload_n hx hb d_Ac_bodyOf_29 rfl (lv_at hl 1 rfl) ?_
            obtain ⟨h_5, hd⟩ := ite_s hd
            refine va_ti (v := .int (aboveC x2_4.toNatClampNeg)) hx hb hCs.1.2.2.2.2.1 hS (inb_t h_5) rfl d_Ac_bodyOf_30 ?_
            refine lv_istore_n (lv' := [(2, .int (aboveC x2_4.toNatClampNeg)), (1, .int x1_f4), (3, .int x3_4)]) hx hb d_Ac_bodyOf_31 rfl hl (by decide) rfl (fun ls hl => ?_)
            refine lv_iinc (v := x3_4 + 1) (lv' := [(3, .int (x3_4 + 1)), (2, .int (aboveC x2_4.toNatClampNeg)), (1, .int x1_f4)]) hx hb d_Ac_bodyOf_32 hl (k := 2) rfl (by rfl) (by decide) rfl (fun ls hl => ?_)
            refine lv_goto (tgt := 4) hx hb d_Ac_bodyOf_35 (by decide) ?_
            exact ih4 (aboveC x2_4.toNatClampNeg) (x3_4 + 1) _ _ _ hP hD hS (lv_sub hl [2, 1, 0] rfl) hd
  exact lp4 x1 _ ex4_38 1000 x0 0 _ _ _ hP hD hS (lv_sub hl [3, 1, 0] rfl) hd
-- OwnsLift$Acts.note(I)V
def d_Ac_note (x1 : Int32) (z : T_Ac) : Option (T_Ac) :=
  if 20 ≤ (q_Ac_ran z) then (some ((u_Ac_ran z ((q_Ac_ran z) + 1)))) else (if inb (q_Ac_ran z) 20 = true then (some ((u_Ac_ran (u_Ac_bodies z (upd (q_Ac_bodies z) (q_Ac_ran z).toNatClampNeg x1)) ((q_Ac_ran (u_Ac_bodies z (upd (q_Ac_bodies z) (q_Ac_ran z).toNatClampNeg x1))) + 1)))) else none)
theorem d_Ac_note_0 : decode b_Ac_note 0 = .ok (.aload_n 0, 1) := by decide +kernel
theorem d_Ac_note_1 : decode b_Ac_note 1 = .ok (.getfield 15, 3) := by decide +kernel
theorem d_Ac_note_4 : decode b_Ac_note 4 = .ok (.bipush 20, 2) := by decide +kernel
theorem d_Ac_note_6 : decode b_Ac_note 6 = .ok (.if_icmp .ge 13, 3) := by decide +kernel
theorem d_Ac_note_9 : decode b_Ac_note 9 = .ok (.aload_n 0, 1) := by decide +kernel
theorem d_Ac_note_10 : decode b_Ac_note 10 = .ok (.getfield 9, 3) := by decide +kernel
theorem d_Ac_note_13 : decode b_Ac_note 13 = .ok (.aload_n 0, 1) := by decide +kernel
theorem d_Ac_note_14 : decode b_Ac_note 14 = .ok (.getfield 15, 3) := by decide +kernel
theorem d_Ac_note_17 : decode b_Ac_note 17 = .ok (.iload_n 1, 1) := by decide +kernel
theorem d_Ac_note_18 : decode b_Ac_note 18 = .ok (.iastore, 1) := by decide +kernel
theorem d_Ac_note_19 : decode b_Ac_note 19 = .ok (.aload_n 0, 1) := by decide +kernel
theorem d_Ac_note_20 : decode b_Ac_note 20 = .ok (.dup, 1) := by decide +kernel
theorem d_Ac_note_21 : decode b_Ac_note 21 = .ok (.getfield 15, 3) := by decide +kernel
theorem d_Ac_note_24 : decode b_Ac_note 24 = .ok (.iconst 1, 1) := by decide +kernel
theorem d_Ac_note_25 : decode b_Ac_note 25 = .ok (.iadd, 1) := by decide +kernel
theorem d_Ac_note_26 : decode b_Ac_note 26 = .ok (.putfield 15, 3) := by decide +kernel
theorem d_Ac_note_29 : decode b_Ac_note 29 = .ok (.return_, 1) := by decide +kernel
theorem o_Ac_note : OkV y_Ac_note "OwnsLift$Acts" b_Ac_note 2 none 1 := ⟨⟨rfl, by decide +kernel, by decide +kernel, by decide +kernel⟩, g_947, g_25, g_80, g_948⟩
set_option maxHeartbeats 4000000 in
set_option maxRecDepth 100000 in
theorem c_Ac_note (l : Launch) (D : va_G) (g : Nat → ClassId) (a : Nat → Nat) (x1 : Int32) (z : T_Ac) (v : T_Ac) (h : d_Ac_note x1 z = some v) :
    MV l y_Ac_note b_Ac_note 2 ({ frames := 0, cells := 0, slots := 0, locals := 0 } : Room) D g [.ref (a 0), .int x1] (ws_Ac g a z) (ws_Ac g a v) := by
  have hd := h
  unfold d_Ac_note at hd
  refine enterV rfl (Nat.le_of_ble_eq_true rfl) (fun p e s m below meth c A ls hx hb hml hr hown hg hlk hK hA hP hD hS hCs hl => ?_)
  have hown : s.vm.findClass "OwnsLift$Acts" = some m.cls := hown
  have hl : lv_has ls 2 [(0, .ref (a 0)), (1, .int x1)] := hl
  show GV p l e s m ({ frames := 0, cells := 0, slots := 0, locals := 0 } : Room) ([.ref (a 0), .int x1] : List Value).toArray below meth c A D g (ws_Ac g a v) s.heap [] (F0 m 0 ls [])
  refine lv_aload_n hx hb d_Ac_note_0 rfl (lv_at hl 0 rfl) ?_
  refine va_get (D := D) (ci := 2) (v := .int (q_Ac_ran z)) (C := R_Ac) (T := F_Ac) (N := 5) hx hb hg i_Ac hown hK hP 0 rfl rfl 1 (by decide) (hg _ g_380) (fun _ h9 => h9) rfl d_Ac_note_1 ?_
  refine lv_bipush (v := 20) hx hb d_Ac_note_4 (by decide) ?_
  refine lv_icmp_ge (tgt := 19) hx hb d_Ac_note_6 (by decide) (fun h_1 => ?_) (fun h_1 => ?_)
  · have hd := ite_t hd h_1
    refine lv_aload_n hx hb d_Ac_note_19 rfl (lv_at hl 0 rfl) ?_
    refine lv_dup hx hb d_Ac_note_20 rfl ?_
    refine va_get (D := D) (ci := 2) (v := .int (q_Ac_ran z)) (C := R_Ac) (T := F_Ac) (N := 5) hx hb hg i_Ac hown hK hP 0 rfl rfl 1 (by decide) (hg _ g_380) (fun _ h9 => h9) rfl d_Ac_note_21 ?_
    refine lv_iconst (v := 1) hx hb d_Ac_note_24 (by decide) ?_
    refine lv_iadd hx hb d_Ac_note_25 ?_
    refine va_put (D := D) (ci := 2) (v := .int ((q_Ac_ran z) + 1)) (ty := .int) (C := R_Ac) (T := F_Ac) (N := 5) hx hb hg i_Ac t_Ac t_Ac_ok n_Ac hown hK hP hD hS 0 rfl rfl 1 (by decide) (hg _ g_380) (fun _ h9 => h9) rfl (by decide +kernel) rfl rfl (Nat.le_of_ble_eq_true rfl) d_Ac_note_26 (fun H locs hP hD hS => ?_)
    have hP : va_P D classes (ws_Ac g a (u_Ac_ran z ((q_Ac_ran z) + 1))) H := hP
    have hD : va_D A (ws_Ac g a (u_Ac_ran z ((q_Ac_ran z) + 1))) := hD
    obtain rfl := Option.some.inj hd
    exact retV hx hb hr hlk hK hP hD hS d_Ac_note_29
  · have hd := ite_f hd h_1
    refine lv_aload_n hx hb d_Ac_note_9 rfl (lv_at hl 0 rfl) ?_
    refine va_get (D := D) (ci := 2) (v := .ref (a 1)) (C := R_Ac) (T := F_Ac) (N := 5) hx hb hg i_Ac hown hK hP 0 rfl rfl 0 (by decide) (hg _ g_378) (fun _ h9 => h9) rfl d_Ac_note_10 ?_
    refine lv_aload_n hx hb d_Ac_note_13 rfl (lv_at hl 0 rfl) ?_
    refine va_get (D := D) (ci := 2) (v := .int (q_Ac_ran z)) (C := R_Ac) (T := F_Ac) (N := 5) hx hb hg i_Ac hown hK hP 0 rfl rfl 1 (by decide) (hg _ g_380) (fun _ h9 => h9) rfl d_Ac_note_14 ?_
    refine lv_iload_n hx hb d_Ac_note_17 rfl (lv_at hl 1 rfl) ?_
    obtain ⟨h_2, hd⟩ := ite_s hd
    refine iastK hx hb hK hP hD hS 1 0 rfl rfl (inb_t h_2) rfl d_Ac_note_18 (fun H locs hP hD hS => ?_)
    have hP : va_P D classes (ws_Ac g a (u_Ac_bodies z (upd (q_Ac_bodies z) (q_Ac_ran z).toNatClampNeg x1))) H := hP
    have hD : va_D A (ws_Ac g a (u_Ac_bodies z (upd (q_Ac_bodies z) (q_Ac_ran z).toNatClampNeg x1))) := hD
    refine lv_aload_n hx hb d_Ac_note_19 rfl (lv_at hl 0 rfl) ?_
    refine lv_dup hx hb d_Ac_note_20 rfl ?_
    refine va_get (D := D) (ci := 2) (v := .int (q_Ac_ran (u_Ac_bodies z (upd (q_Ac_bodies z) (q_Ac_ran z).toNatClampNeg x1)))) (C := R_Ac) (T := F_Ac) (N := 5) hx hb hg i_Ac hown hK hP 0 rfl rfl 1 (by decide) (hg _ g_380) (fun _ h9 => h9) rfl d_Ac_note_21 ?_
    refine lv_iconst (v := 1) hx hb d_Ac_note_24 (by decide) ?_
    refine lv_iadd hx hb d_Ac_note_25 ?_
    refine va_put (D := D) (ci := 2) (v := .int ((q_Ac_ran (u_Ac_bodies z (upd (q_Ac_bodies z) (q_Ac_ran z).toNatClampNeg x1))) + 1)) (ty := .int) (C := R_Ac) (T := F_Ac) (N := 5) hx hb hg i_Ac t_Ac t_Ac_ok n_Ac hown hK hP hD hS 0 rfl rfl 1 (by decide) (hg _ g_380) (fun _ h9 => h9) rfl (by decide +kernel) rfl rfl (Nat.le_of_ble_eq_true rfl) d_Ac_note_26 (fun H locs hP hD hS => ?_)
    have hP : va_P D classes (ws_Ac g a (u_Ac_ran (u_Ac_bodies z (upd (q_Ac_bodies z) (q_Ac_ran z).toNatClampNeg x1)) ((q_Ac_ran (u_Ac_bodies z (upd (q_Ac_bodies z) (q_Ac_ran z).toNatClampNeg x1))) + 1))) H := hP
    have hD : va_D A (ws_Ac g a (u_Ac_ran (u_Ac_bodies z (upd (q_Ac_bodies z) (q_Ac_ran z).toNatClampNeg x1)) ((q_Ac_ran (u_Ac_bodies z (upd (q_Ac_bodies z) (q_Ac_ran z).toNatClampNeg x1))) + 1))) := hD
    obtain rfl := Option.some.inj hd
    exact retV hx hb hr hlk hK hP hD hS d_Ac_note_29
-- recursion: Ac_run
def B_Ac_run (rc : Int32 → Int32 → Int32 → Int32 → T_Ac → Option (Int32 × T_Ac)) (x1 : Int32) (x2 : Int32) (x3 : Int32) (x4 : Int32) (z : T_Ac) : Option (Int32 × T_Ac) :=
  if x4 < 20 then ((d_Ac_bodyOf x1 x2).bind fun v_2 => (d_Ac_note v_2 z).bind fun v_4 => if v_2 = 1 then (some (x3 + (q_Ac_number v_4), v_4)) else (if v_2 = 2 then ((rc (q_Ac_kind v_4) 0 x3 (x4 + 1) v_4).bind fun v_8 => some (v_8.1 - (q_Ac_v v_8.2), v_8.2)) else (if v_2 = 3 then ((rc (q_Ac_kind v_4) 1 x3 (x4 + 1) v_4).bind fun v_11 => some (v_11.1 * 2, v_11.2)) else (if v_2 = 11 then (if inb 1 7 = true then ((rc (aboveC 1) 0 (x3 * 3) (x4 + 1) v_4).bind fun v_15 => some (v_15.1, v_15.2)) else none) else (if v_2 = 21 then (if inb 2 7 = true then ((rc (aboveC 2) 1 x3 (x4 + 1) v_4).bind fun v_19 => some (-v_19.1, v_19.2)) else none) else (if v_2 = 31 then (if inb 3 7 = true then ((rc (aboveC 3) 2 x3 (x4 + 1) v_4).bind fun v_23 => some (v_23.1 ^^^ 7, v_23.2)) else none) else (if v_2 = 41 then (if inb 4 7 = true then ((rc (aboveC 4) 2 (x3 - 1) (x4 + 1) v_4).bind fun v_27 => (rc (q_Ac_kind v_27.2) 0 2 (x4 + 1) v_27.2).bind fun v_29 => some (v_27.1 + v_29.1, v_29.2)) else none) else (if v_2 = 51 then (if inb 5 7 = true then ((rc (aboveC 5) 0 x3 (x4 + 1) v_4).bind fun v_33 => some (v_33.1 ^^^ (q_Ac_number v_33.2), v_33.2)) else none) else (if v_2 = 61 then (if inb 6 7 = true then ((rc (aboveC 6) 1 x3 (x4 + 1) v_4).bind fun v_37 => some (v_37.1 + (q_Ac_v v_37.2), v_37.2)) else none) else (some (0, v_4))))))))))) else (some (0, z))
def d_Ac_run (n : Nat) : Int32 → Int32 → Int32 → Int32 → T_Ac → Option (Int32 × T_Ac) := recN (fun _ _ _ _ _ => none) (fun rc => B_Ac_run rc) n
theorem d_Ac_run_0 : decode b_Ac_run 0 = .ok (.iload 4, 2) := by decide +kernel
theorem d_Ac_run_2 : decode b_Ac_run 2 = .ok (.bipush 20, 2) := by decide +kernel
theorem d_Ac_run_4 : decode b_Ac_run 4 = .ok (.if_icmp .lt 5, 3) := by decide +kernel
theorem d_Ac_run_7 : decode b_Ac_run 7 = .ok (.iconst 0, 1) := by decide +kernel
theorem d_Ac_run_8 : decode b_Ac_run 8 = .ok (.ireturn, 1) := by decide +kernel
theorem d_Ac_run_9 : decode b_Ac_run 9 = .ok (.iload_n 1, 1) := by decide +kernel
theorem d_Ac_run_10 : decode b_Ac_run 10 = .ok (.iload_n 2, 1) := by decide +kernel
theorem d_Ac_run_11 : decode b_Ac_run 11 = .ok (.invokestatic 34, 3) := by decide +kernel
theorem d_Ac_run_14 : decode b_Ac_run 14 = .ok (.istore 5, 2) := by decide +kernel
theorem d_Ac_run_16 : decode b_Ac_run 16 = .ok (.aload_n 0, 1) := by decide +kernel
theorem d_Ac_run_17 : decode b_Ac_run 17 = .ok (.iload 5, 2) := by decide +kernel
theorem d_Ac_run_19 : decode b_Ac_run 19 = .ok (.invokevirtual 38, 3) := by decide +kernel
theorem d_Ac_run_22 : decode b_Ac_run 22 = .ok (.iload 4, 2) := by decide +kernel
theorem d_Ac_run_24 : decode b_Ac_run 24 = .ok (.iconst 1, 1) := by decide +kernel
theorem d_Ac_run_25 : decode b_Ac_run 25 = .ok (.iadd, 1) := by decide +kernel
theorem d_Ac_run_26 : decode b_Ac_run 26 = .ok (.istore 6, 2) := by decide +kernel
theorem d_Ac_run_28 : decode b_Ac_run 28 = .ok (.iload 5, 2) := by decide +kernel
theorem d_Ac_run_30 : decode b_Ac_run 30 = .ok (.lookupswitch 238 #[(1, 82), (2, 89), (3, 107), (11, 122), (21, 138), (31, 153), (41, 170), (51, 199), (61, 218)], 82) := by decide +kernel
theorem d_Ac_run_112 : decode b_Ac_run 112 = .ok (.iload_n 3, 1) := by decide +kernel
theorem d_Ac_run_113 : decode b_Ac_run 113 = .ok (.aload_n 0, 1) := by decide +kernel
theorem d_Ac_run_114 : decode b_Ac_run 114 = .ok (.getfield 19, 3) := by decide +kernel
theorem d_Ac_run_117 : decode b_Ac_run 117 = .ok (.iadd, 1) := by decide +kernel
theorem d_Ac_run_118 : decode b_Ac_run 118 = .ok (.ireturn, 1) := by decide +kernel
theorem d_Ac_run_119 : decode b_Ac_run 119 = .ok (.aload_n 0, 1) := by decide +kernel
theorem d_Ac_run_120 : decode b_Ac_run 120 = .ok (.aload_n 0, 1) := by decide +kernel
theorem d_Ac_run_121 : decode b_Ac_run 121 = .ok (.getfield 32, 3) := by decide +kernel
theorem d_Ac_run_124 : decode b_Ac_run 124 = .ok (.iconst 0, 1) := by decide +kernel
theorem d_Ac_run_125 : decode b_Ac_run 125 = .ok (.iload_n 3, 1) := by decide +kernel
theorem d_Ac_run_126 : decode b_Ac_run 126 = .ok (.iload 6, 2) := by decide +kernel
theorem d_Ac_run_128 : decode b_Ac_run 128 = .ok (.invokevirtual 42, 3) := by decide +kernel
theorem d_Ac_run_131 : decode b_Ac_run 131 = .ok (.aload_n 0, 1) := by decide +kernel
theorem d_Ac_run_132 : decode b_Ac_run 132 = .ok (.getfield 27, 3) := by decide +kernel
theorem d_Ac_run_135 : decode b_Ac_run 135 = .ok (.isub, 1) := by decide +kernel
theorem d_Ac_run_136 : decode b_Ac_run 136 = .ok (.ireturn, 1) := by decide +kernel
theorem d_Ac_run_137 : decode b_Ac_run 137 = .ok (.aload_n 0, 1) := by decide +kernel
theorem d_Ac_run_138 : decode b_Ac_run 138 = .ok (.aload_n 0, 1) := by decide +kernel
theorem d_Ac_run_139 : decode b_Ac_run 139 = .ok (.getfield 32, 3) := by decide +kernel
theorem d_Ac_run_142 : decode b_Ac_run 142 = .ok (.iconst 1, 1) := by decide +kernel
theorem d_Ac_run_143 : decode b_Ac_run 143 = .ok (.iload_n 3, 1) := by decide +kernel
theorem d_Ac_run_144 : decode b_Ac_run 144 = .ok (.iload 6, 2) := by decide +kernel
theorem d_Ac_run_146 : decode b_Ac_run 146 = .ok (.invokevirtual 42, 3) := by decide +kernel
theorem d_Ac_run_149 : decode b_Ac_run 149 = .ok (.iconst 2, 1) := by decide +kernel
theorem d_Ac_run_150 : decode b_Ac_run 150 = .ok (.imul, 1) := by decide +kernel
theorem d_Ac_run_151 : decode b_Ac_run 151 = .ok (.ireturn, 1) := by decide +kernel
theorem d_Ac_run_152 : decode b_Ac_run 152 = .ok (.aload_n 0, 1) := by decide +kernel
theorem d_Ac_run_153 : decode b_Ac_run 153 = .ok (.getstatic 46, 3) := by decide +kernel
theorem d_Ac_run_156 : decode b_Ac_run 156 = .ok (.iconst 1, 1) := by decide +kernel
theorem d_Ac_run_157 : decode b_Ac_run 157 = .ok (.iaload, 1) := by decide +kernel
theorem d_Ac_run_158 : decode b_Ac_run 158 = .ok (.iconst 0, 1) := by decide +kernel
theorem d_Ac_run_159 : decode b_Ac_run 159 = .ok (.iload_n 3, 1) := by decide +kernel
theorem d_Ac_run_160 : decode b_Ac_run 160 = .ok (.iconst 3, 1) := by decide +kernel
theorem d_Ac_run_161 : decode b_Ac_run 161 = .ok (.imul, 1) := by decide +kernel
theorem d_Ac_run_162 : decode b_Ac_run 162 = .ok (.iload 6, 2) := by decide +kernel
theorem d_Ac_run_164 : decode b_Ac_run 164 = .ok (.invokevirtual 42, 3) := by decide +kernel
theorem d_Ac_run_167 : decode b_Ac_run 167 = .ok (.ireturn, 1) := by decide +kernel
theorem d_Ac_run_168 : decode b_Ac_run 168 = .ok (.aload_n 0, 1) := by decide +kernel
theorem d_Ac_run_169 : decode b_Ac_run 169 = .ok (.getstatic 46, 3) := by decide +kernel
theorem d_Ac_run_172 : decode b_Ac_run 172 = .ok (.iconst 2, 1) := by decide +kernel
theorem d_Ac_run_173 : decode b_Ac_run 173 = .ok (.iaload, 1) := by decide +kernel
theorem d_Ac_run_174 : decode b_Ac_run 174 = .ok (.iconst 1, 1) := by decide +kernel
theorem d_Ac_run_175 : decode b_Ac_run 175 = .ok (.iload_n 3, 1) := by decide +kernel
theorem d_Ac_run_176 : decode b_Ac_run 176 = .ok (.iload 6, 2) := by decide +kernel
theorem d_Ac_run_178 : decode b_Ac_run 178 = .ok (.invokevirtual 42, 3) := by decide +kernel
theorem d_Ac_run_181 : decode b_Ac_run 181 = .ok (.ineg, 1) := by decide +kernel
theorem d_Ac_run_182 : decode b_Ac_run 182 = .ok (.ireturn, 1) := by decide +kernel
theorem d_Ac_run_183 : decode b_Ac_run 183 = .ok (.aload_n 0, 1) := by decide +kernel
theorem d_Ac_run_184 : decode b_Ac_run 184 = .ok (.getstatic 46, 3) := by decide +kernel
theorem d_Ac_run_187 : decode b_Ac_run 187 = .ok (.iconst 3, 1) := by decide +kernel
theorem d_Ac_run_188 : decode b_Ac_run 188 = .ok (.iaload, 1) := by decide +kernel
theorem d_Ac_run_189 : decode b_Ac_run 189 = .ok (.iconst 2, 1) := by decide +kernel
theorem d_Ac_run_190 : decode b_Ac_run 190 = .ok (.iload_n 3, 1) := by decide +kernel
theorem d_Ac_run_191 : decode b_Ac_run 191 = .ok (.iload 6, 2) := by decide +kernel
theorem d_Ac_run_193 : decode b_Ac_run 193 = .ok (.invokevirtual 42, 3) := by decide +kernel
theorem d_Ac_run_196 : decode b_Ac_run 196 = .ok (.bipush 7, 2) := by decide +kernel
theorem d_Ac_run_198 : decode b_Ac_run 198 = .ok (.ixor, 1) := by decide +kernel
theorem d_Ac_run_199 : decode b_Ac_run 199 = .ok (.ireturn, 1) := by decide +kernel
theorem d_Ac_run_200 : decode b_Ac_run 200 = .ok (.aload_n 0, 1) := by decide +kernel
theorem d_Ac_run_201 : decode b_Ac_run 201 = .ok (.getstatic 46, 3) := by decide +kernel
theorem d_Ac_run_204 : decode b_Ac_run 204 = .ok (.iconst 4, 1) := by decide +kernel
theorem d_Ac_run_205 : decode b_Ac_run 205 = .ok (.iaload, 1) := by decide +kernel
theorem d_Ac_run_206 : decode b_Ac_run 206 = .ok (.iconst 2, 1) := by decide +kernel
theorem d_Ac_run_207 : decode b_Ac_run 207 = .ok (.iload_n 3, 1) := by decide +kernel
theorem d_Ac_run_208 : decode b_Ac_run 208 = .ok (.iconst 1, 1) := by decide +kernel
theorem d_Ac_run_209 : decode b_Ac_run 209 = .ok (.isub, 1) := by decide +kernel
theorem d_Ac_run_210 : decode b_Ac_run 210 = .ok (.iload 6, 2) := by decide +kernel
theorem d_Ac_run_212 : decode b_Ac_run 212 = .ok (.invokevirtual 42, 3) := by decide +kernel
theorem d_Ac_run_215 : decode b_Ac_run 215 = .ok (.aload_n 0, 1) := by decide +kernel
theorem d_Ac_run_216 : decode b_Ac_run 216 = .ok (.aload_n 0, 1) := by decide +kernel
theorem d_Ac_run_217 : decode b_Ac_run 217 = .ok (.getfield 32, 3) := by decide +kernel
theorem d_Ac_run_220 : decode b_Ac_run 220 = .ok (.iconst 0, 1) := by decide +kernel
theorem d_Ac_run_221 : decode b_Ac_run 221 = .ok (.iconst 2, 1) := by decide +kernel
theorem d_Ac_run_222 : decode b_Ac_run 222 = .ok (.iload 6, 2) := by decide +kernel
theorem d_Ac_run_224 : decode b_Ac_run 224 = .ok (.invokevirtual 42, 3) := by decide +kernel
theorem d_Ac_run_227 : decode b_Ac_run 227 = .ok (.iadd, 1) := by decide +kernel
theorem d_Ac_run_228 : decode b_Ac_run 228 = .ok (.ireturn, 1) := by decide +kernel
theorem d_Ac_run_229 : decode b_Ac_run 229 = .ok (.aload_n 0, 1) := by decide +kernel
theorem d_Ac_run_230 : decode b_Ac_run 230 = .ok (.getstatic 46, 3) := by decide +kernel
theorem d_Ac_run_233 : decode b_Ac_run 233 = .ok (.iconst 5, 1) := by decide +kernel
theorem d_Ac_run_234 : decode b_Ac_run 234 = .ok (.iaload, 1) := by decide +kernel
theorem d_Ac_run_235 : decode b_Ac_run 235 = .ok (.iconst 0, 1) := by decide +kernel
theorem d_Ac_run_236 : decode b_Ac_run 236 = .ok (.iload_n 3, 1) := by decide +kernel
theorem d_Ac_run_237 : decode b_Ac_run 237 = .ok (.iload 6, 2) := by decide +kernel
theorem d_Ac_run_239 : decode b_Ac_run 239 = .ok (.invokevirtual 42, 3) := by decide +kernel
theorem d_Ac_run_242 : decode b_Ac_run 242 = .ok (.aload_n 0, 1) := by decide +kernel
theorem d_Ac_run_243 : decode b_Ac_run 243 = .ok (.getfield 19, 3) := by decide +kernel
theorem d_Ac_run_246 : decode b_Ac_run 246 = .ok (.ixor, 1) := by decide +kernel
theorem d_Ac_run_247 : decode b_Ac_run 247 = .ok (.ireturn, 1) := by decide +kernel
theorem d_Ac_run_248 : decode b_Ac_run 248 = .ok (.aload_n 0, 1) := by decide +kernel
theorem d_Ac_run_249 : decode b_Ac_run 249 = .ok (.getstatic 46, 3) := by decide +kernel
theorem d_Ac_run_252 : decode b_Ac_run 252 = .ok (.bipush 6, 2) := by decide +kernel
theorem d_Ac_run_254 : decode b_Ac_run 254 = .ok (.iaload, 1) := by decide +kernel
theorem d_Ac_run_255 : decode b_Ac_run 255 = .ok (.iconst 1, 1) := by decide +kernel
theorem d_Ac_run_256 : decode b_Ac_run 256 = .ok (.iload_n 3, 1) := by decide +kernel
theorem d_Ac_run_257 : decode b_Ac_run 257 = .ok (.iload 6, 2) := by decide +kernel
theorem d_Ac_run_259 : decode b_Ac_run 259 = .ok (.invokevirtual 42, 3) := by decide +kernel
theorem d_Ac_run_262 : decode b_Ac_run 262 = .ok (.aload_n 0, 1) := by decide +kernel
theorem d_Ac_run_263 : decode b_Ac_run 263 = .ok (.getfield 27, 3) := by decide +kernel
theorem d_Ac_run_266 : decode b_Ac_run 266 = .ok (.iadd, 1) := by decide +kernel
theorem d_Ac_run_267 : decode b_Ac_run 267 = .ok (.ireturn, 1) := by decide +kernel
theorem d_Ac_run_268 : decode b_Ac_run 268 = .ok (.iconst 0, 1) := by decide +kernel
theorem d_Ac_run_269 : decode b_Ac_run 269 = .ok (.ireturn, 1) := by decide +kernel
theorem o_Ac_run : OkV y_Ac_run "OwnsLift$Acts" b_Ac_run 7 (some .int) 4 := ⟨⟨rfl, by decide +kernel, by decide +kernel, by decide +kernel⟩, g_936, g_24, g_80, g_937⟩

set_option maxHeartbeats 8000000 in
set_option maxRecDepth 100000 in
theorem cg_Ac_run : ∀ nr : Nat, (∀ (l : Launch) (D : va_G) (g : Nat → ClassId) (a : Nat → Nat) (x1 : Int32) (x2 : Int32) (x3 : Int32) (x4 : Int32) (z : T_Ac) (v : Int32 × T_Ac) (h : d_Ac_run nr x1 x2 x3 x4 z = some v), MI l y_Ac_run b_Ac_run 7 .int ({ frames := 2 + 2 * nr, cells := 0, slots := 0, locals := 24 + 60 * nr } : Room) D g [.ref (a 0), .int x1, .int x2, .int x3, .int x4] (ws_Ac g a z) (v.1) (ws_Ac g a v.2)) := by
  intro nr
  induction nr with
  | zero =>
    exact (by intro l D g a x1 x2 x3 x4 z v h; have h : none = some v := h; cases h)
  | succ nr ih =>
    refine ?_
    · intro l D g a x1 x2 x3 x4 z v h
      have hd : B_Ac_run (d_Ac_run nr) x1 x2 x3 x4 z = some v := h
      have ihc := ih
      generalize hrc : (d_Ac_run nr) = rc at hd
      have ih : ∀ (l : Launch) (D : va_G) (g : Nat → ClassId) (a : Nat → Nat) (x1 : Int32) (x2 : Int32) (x3 : Int32) (x4 : Int32) (z : T_Ac) (v : Int32 × T_Ac) (h : rc x1 x2 x3 x4 z = some v), MI l y_Ac_run b_Ac_run 7 .int ({ frames := 2 + 2 * nr, cells := 0, slots := 0, locals := 24 + 60 * nr } : Room) D g [.ref (a 0), .int x1, .int x2, .int x3, .int x4] (ws_Ac g a z) (v.1) (ws_Ac g a v.2) := fun l D g a x1 x2 x3 x4 z v h => ih l D g a x1 x2 x3 x4 z v (by rw [hrc]; exact h)
      clear ihc hrc
      unfold B_Ac_run at hd
      refine enterI rfl (Nat.le_of_ble_eq_true rfl) (fun p e s m below meth c A ls hx hb hml hr hown hg hlk hK hA hP hD hS hCs hl => ?_)
      have hown : s.vm.findClass "OwnsLift$Acts" = some m.cls := hown
      have hl : lv_has ls 7 [(0, .ref (a 0)), (1, .int x1), (2, .int x2), (3, .int x3), (4, .int x4)] := hl
      show GI p l e s m ({ frames := 2 + 2 * (nr + 1), cells := 0, slots := 0, locals := 24 + 60 * (nr + 1) } : Room) ([.ref (a 0), .int x1, .int x2, .int x3, .int x4] : List Value).toArray below meth c A D g (ws_Ac g a v.2) (v.1) s.heap [] (F0 m 0 ls [])
      refine lv_iload hx hb d_Ac_run_0 (lv_at hl 4 rfl) ?_
      refine lv_bipush (v := 20) hx hb d_Ac_run_2 (by decide) ?_
      refine lv_icmp_lt (tgt := 9) hx hb d_Ac_run_4 (by decide) (fun h_1 => ?_) (fun h_1 => ?_)
      · have hd := ite_t hd h_1
        refine lv_iload_n hx hb d_Ac_run_9 rfl (lv_at hl 1 rfl) ?_
        refine lv_iload_n hx hb d_Ac_run_10 rfl (lv_at hl 2 rfl) ?_
        obtain ⟨v_2, e_3, hd⟩ := bind_s hd
        refine callSI (ws' := ws_Ac g a z) (rest := []) (As := [.int x1, .int x2]) hx hb hml hown hg hK hP hD hS hA hCs hl.1 (c_Ac_bodyOf l D g  x1 x2 _ e_3) o_Ac_bodyOf g_938 [] segC0 rfl rfl segP0 rfl rfl (Nat.le_of_ble_eq_true rfl) ⟨rfl, rfl, by show _ ≤ _; (try dsimp only); omega, by show _ ≤ _; (try dsimp only); omega⟩ d_Ac_run_11 (fun H locs hP hD hS => ?_)
        refine lv_istore (lv' := [(5, .int v_2), (0, .ref (a 0)), (1, .int x1), (2, .int x2), (3, .int x3), (4, .int x4)]) hx hb d_Ac_run_14 hl (by decide) rfl (fun ls hl => ?_)
        refine lv_aload_n hx hb d_Ac_run_16 rfl (lv_at hl 1 rfl) ?_
        refine lv_iload hx hb d_Ac_run_17 (lv_at hl 0 rfl) ?_
        obtain ⟨v_4, e_5, hd⟩ := bind_s hd
        refine callVV (ws' := ws_Ac g a v_4) (rest := []) (As := [.int v_2]) hx hb hml hown hg hK hP hD hS hA hCs hl.1 (c_Ac_note l D g a v_2 z _ e_5) o_Ac_note g_945 (ci := 2) (q0 := 0) rfl rfl (List.range' 0 2) (segC1 rfl rfl) (by decide) rfl (segP1 rfl rfl) rfl rfl (Nat.le_of_ble_eq_true rfl) ⟨rfl, rfl, by show _ ≤ _; (try dsimp only); omega, by show _ ≤ _; (try dsimp only); omega⟩ d_Ac_run_19 (fun H locs hP hD hS => ?_)
        refine lv_iload hx hb d_Ac_run_22 (lv_at hl 5 rfl) ?_
        refine lv_iconst (v := 1) hx hb d_Ac_run_24 (by decide) ?_
        refine lv_iadd hx hb d_Ac_run_25 ?_
        refine lv_istore (lv' := [(6, .int (x4 + 1)), (5, .int v_2), (0, .ref (a 0)), (1, .int x1), (2, .int x2), (3, .int x3), (4, .int x4)]) hx hb d_Ac_run_26 hl (by decide) rfl (fun ls hl => ?_)
        refine lv_iload hx hb d_Ac_run_28 (lv_at hl 1 rfl) ?_
        by_cases h_6 : v_2 = 1
        · have hd := ite_t hd h_6
          refine lv_lookup (tgt := 112) hx hb d_Ac_run_30 (by decide) (off := 82) (by rw [h_6]; decide) (by decide) ?_
          refine lv_iload_n hx hb d_Ac_run_112 rfl (lv_at hl 5 rfl) ?_
          refine lv_aload_n hx hb d_Ac_run_113 rfl (lv_at hl 2 rfl) ?_
          refine va_get (D := D) (ci := 2) (v := .int (q_Ac_number v_4)) (C := R_Ac) (T := F_Ac) (N := 5) hx hb hg i_Ac hown hK hP 0 rfl rfl 2 (by decide) (hg _ g_382) (fun _ h9 => h9) rfl d_Ac_run_114 ?_
          refine lv_iadd hx hb d_Ac_run_117 ?_
          obtain rfl := Option.some.inj hd
          exact retI hx hb hr hlk hK hP hD hS d_Ac_run_118 rfl
        have hd := ite_f hd h_6
        by_cases h_7 : v_2 = 2
        · have hd := ite_t hd h_7
          refine lv_lookup (tgt := 119) hx hb d_Ac_run_30 (by decide) (off := 89) (by rw [h_7]; decide) (by decide) ?_
          refine lv_aload_n hx hb d_Ac_run_119 rfl (lv_at hl 2 rfl) ?_
          refine lv_aload_n hx hb d_Ac_run_120 rfl (lv_at hl 2 rfl) ?_
          refine va_get (D := D) (ci := 2) (v := .int (q_Ac_kind v_4)) (C := R_Ac) (T := F_Ac) (N := 5) hx hb hg i_Ac hown hK hP 0 rfl rfl 4 (by decide) (hg _ g_384) (fun _ h9 => h9) rfl d_Ac_run_121 ?_
          refine lv_iconst (v := 0) hx hb d_Ac_run_124 (by decide) ?_
          refine lv_iload_n hx hb d_Ac_run_125 rfl (lv_at hl 5 rfl) ?_
          refine lv_iload hx hb d_Ac_run_126 (lv_at hl 0 rfl) ?_
          obtain ⟨v_8, e_9, hd⟩ := bind_s hd
          refine callVI (ws' := ws_Ac g a v_8.2) (rest := []) (As := [.int (q_Ac_kind v_4), .int 0, .int x3, .int (x4 + 1)]) hx hb hml hown hg hK hP hD hS hA hCs hl.1 (ih l D g a (q_Ac_kind v_4) 0 x3 (x4 + 1) v_4 _ e_9) o_Ac_run g_949 (ci := 2) (q0 := 0) rfl rfl (List.range' 0 2) (segC1 rfl rfl) (by decide) rfl (segP1 rfl rfl) rfl rfl (Nat.le_of_ble_eq_true rfl) ⟨rfl, rfl, by show _ ≤ _; (try dsimp only); omega, by show _ ≤ _; (try dsimp only); omega⟩ d_Ac_run_128 (fun H locs hP hD hS => ?_)
          refine lv_aload_n hx hb d_Ac_run_131 rfl (lv_at hl 2 rfl) ?_
          refine va_get (D := D) (ci := 2) (v := .int (q_Ac_v v_8.2)) (C := R_Ac) (T := F_Ac) (N := 5) hx hb hg i_Ac hown hK hP 0 rfl rfl 3 (by decide) (hg _ g_383) (fun _ h9 => h9) rfl d_Ac_run_132 ?_
          refine lv_isub hx hb d_Ac_run_135 ?_
          obtain rfl := Option.some.inj hd
          exact retI hx hb hr hlk hK hP hD hS d_Ac_run_136 rfl
        have hd := ite_f hd h_7
        by_cases h_10 : v_2 = 3
        · have hd := ite_t hd h_10
          refine lv_lookup (tgt := 137) hx hb d_Ac_run_30 (by decide) (off := 107) (by rw [h_10]; decide) (by decide) ?_
          refine lv_aload_n hx hb d_Ac_run_137 rfl (lv_at hl 2 rfl) ?_
          refine lv_aload_n hx hb d_Ac_run_138 rfl (lv_at hl 2 rfl) ?_
          refine va_get (D := D) (ci := 2) (v := .int (q_Ac_kind v_4)) (C := R_Ac) (T := F_Ac) (N := 5) hx hb hg i_Ac hown hK hP 0 rfl rfl 4 (by decide) (hg _ g_384) (fun _ h9 => h9) rfl d_Ac_run_139 ?_
          refine lv_iconst (v := 1) hx hb d_Ac_run_142 (by decide) ?_
          refine lv_iload_n hx hb d_Ac_run_143 rfl (lv_at hl 5 rfl) ?_
          refine lv_iload hx hb d_Ac_run_144 (lv_at hl 0 rfl) ?_
          obtain ⟨v_11, e_12, hd⟩ := bind_s hd
          refine callVI (ws' := ws_Ac g a v_11.2) (rest := []) (As := [.int (q_Ac_kind v_4), .int 1, .int x3, .int (x4 + 1)]) hx hb hml hown hg hK hP hD hS hA hCs hl.1 (ih l D g a (q_Ac_kind v_4) 1 x3 (x4 + 1) v_4 _ e_12) o_Ac_run g_949 (ci := 2) (q0 := 0) rfl rfl (List.range' 0 2) (segC1 rfl rfl) (by decide) rfl (segP1 rfl rfl) rfl rfl (Nat.le_of_ble_eq_true rfl) ⟨rfl, rfl, by show _ ≤ _; (try dsimp only); omega, by show _ ≤ _; (try dsimp only); omega⟩ d_Ac_run_146 (fun H locs hP hD hS => ?_)
          refine lv_iconst (v := 2) hx hb d_Ac_run_149 (by decide) ?_
          refine lv_imul hx hb d_Ac_run_150 ?_
          obtain rfl := Option.some.inj hd
          exact retI hx hb hr hlk hK hP hD hS d_Ac_run_151 rfl
        have hd := ite_f hd h_10
        by_cases h_13 : v_2 = 11
        · have hd := ite_t hd h_13
          refine lv_lookup (tgt := 152) hx hb d_Ac_run_30 (by decide) (off := 122) (by rw [h_13]; decide) (by decide) ?_
          refine lv_aload_n hx hb d_Ac_run_152 rfl (lv_at hl 2 rfl) ?_
          refine va_getsN (v := .ref (g 50)) hx hb hCs.1.2.2.2.1 hS hown (va_Nw.use rfl hCs.2.2.2.1) (fun _ h9 => h9) d_Ac_run_153 ?_
          refine lv_iconst (v := 1) hx hb d_Ac_run_156 (by decide) ?_
          obtain ⟨h_14, hd⟩ := ite_s hd
          refine va_ti (v := .int (aboveC 1)) hx hb hCs.1.2.2.2.2.1 hS (inb_t h_14) (by rfl) d_Ac_run_157 ?_
          refine lv_iconst (v := 0) hx hb d_Ac_run_158 (by decide) ?_
          refine lv_iload_n hx hb d_Ac_run_159 rfl (lv_at hl 5 rfl) ?_
          refine lv_iconst (v := 3) hx hb d_Ac_run_160 (by decide) ?_
          refine lv_imul hx hb d_Ac_run_161 ?_
          refine lv_iload hx hb d_Ac_run_162 (lv_at hl 0 rfl) ?_
          obtain ⟨v_15, e_16, hd⟩ := bind_s hd
          refine callVI (ws' := ws_Ac g a v_15.2) (rest := []) (As := [.int (aboveC 1), .int 0, .int (x3 * 3), .int (x4 + 1)]) hx hb hml hown hg hK hP hD hS hA hCs hl.1 (ih l D g a (aboveC 1) 0 (x3 * 3) (x4 + 1) v_4 _ e_16) o_Ac_run g_949 (ci := 2) (q0 := 0) rfl rfl (List.range' 0 2) (segC1 rfl rfl) (by decide) rfl (segP1 rfl rfl) rfl rfl (Nat.le_of_ble_eq_true rfl) ⟨rfl, rfl, by show _ ≤ _; (try dsimp only); omega, by show _ ≤ _; (try dsimp only); omega⟩ d_Ac_run_164 (fun H locs hP hD hS => ?_)
          obtain rfl := Option.some.inj hd
          exact retI hx hb hr hlk hK hP hD hS d_Ac_run_167 rfl
        have hd := ite_f hd h_13
        by_cases h_17 : v_2 = 21
        · have hd := ite_t hd h_17
          refine lv_lookup (tgt := 168) hx hb d_Ac_run_30 (by decide) (off := 138) (by rw [h_17]; decide) (by decide) ?_
          refine lv_aload_n hx hb d_Ac_run_168 rfl (lv_at hl 2 rfl) ?_
          refine va_getsN (v := .ref (g 50)) hx hb hCs.1.2.2.2.1 hS hown (va_Nw.use rfl hCs.2.2.2.1) (fun _ h9 => h9) d_Ac_run_169 ?_
          refine lv_iconst (v := 2) hx hb d_Ac_run_172 (by decide) ?_
          obtain ⟨h_18, hd⟩ := ite_s hd
          refine va_ti (v := .int (aboveC 2)) hx hb hCs.1.2.2.2.2.1 hS (inb_t h_18) (by rfl) d_Ac_run_173 ?_
          refine lv_iconst (v := 1) hx hb d_Ac_run_174 (by decide) ?_
          refine lv_iload_n hx hb d_Ac_run_175 rfl (lv_at hl 5 rfl) ?_
          refine lv_iload hx hb d_Ac_run_176 (lv_at hl 0 rfl) ?_
          obtain ⟨v_19, e_20, hd⟩ := bind_s hd
          refine callVI (ws' := ws_Ac g a v_19.2) (rest := []) (As := [.int (aboveC 2), .int 1, .int x3, .int (x4 + 1)]) hx hb hml hown hg hK hP hD hS hA hCs hl.1 (ih l D g a (aboveC 2) 1 x3 (x4 + 1) v_4 _ e_20) o_Ac_run g_949 (ci := 2) (q0 := 0) rfl rfl (List.range' 0 2) (segC1 rfl rfl) (by decide) rfl (segP1 rfl rfl) rfl rfl (Nat.le_of_ble_eq_true rfl) ⟨rfl, rfl, by show _ ≤ _; (try dsimp only); omega, by show _ ≤ _; (try dsimp only); omega⟩ d_Ac_run_178 (fun H locs hP hD hS => ?_)
          refine lv_ineg hx hb d_Ac_run_181 ?_
          obtain rfl := Option.some.inj hd
          exact retI hx hb hr hlk hK hP hD hS d_Ac_run_182 rfl
        have hd := ite_f hd h_17
        by_cases h_21 : v_2 = 31
        · have hd := ite_t hd h_21
          refine lv_lookup (tgt := 183) hx hb d_Ac_run_30 (by decide) (off := 153) (by rw [h_21]; decide) (by decide) ?_
          refine lv_aload_n hx hb d_Ac_run_183 rfl (lv_at hl 2 rfl) ?_
          refine va_getsN (v := .ref (g 50)) hx hb hCs.1.2.2.2.1 hS hown (va_Nw.use rfl hCs.2.2.2.1) (fun _ h9 => h9) d_Ac_run_184 ?_
          refine lv_iconst (v := 3) hx hb d_Ac_run_187 (by decide) ?_
          obtain ⟨h_22, hd⟩ := ite_s hd
          refine va_ti (v := .int (aboveC 3)) hx hb hCs.1.2.2.2.2.1 hS (inb_t h_22) (by rfl) d_Ac_run_188 ?_
          refine lv_iconst (v := 2) hx hb d_Ac_run_189 (by decide) ?_
          refine lv_iload_n hx hb d_Ac_run_190 rfl (lv_at hl 5 rfl) ?_
          refine lv_iload hx hb d_Ac_run_191 (lv_at hl 0 rfl) ?_
          obtain ⟨v_23, e_24, hd⟩ := bind_s hd
          refine callVI (ws' := ws_Ac g a v_23.2) (rest := []) (As := [.int (aboveC 3), .int 2, .int x3, .int (x4 + 1)]) hx hb hml hown hg hK hP hD hS hA hCs hl.1 (ih l D g a (aboveC 3) 2 x3 (x4 + 1) v_4 _ e_24) o_Ac_run g_949 (ci := 2) (q0 := 0) rfl rfl (List.range' 0 2) (segC1 rfl rfl) (by decide) rfl (segP1 rfl rfl) rfl rfl (Nat.le_of_ble_eq_true rfl) ⟨rfl, rfl, by show _ ≤ _; (try dsimp only); omega, by show _ ≤ _; (try dsimp only); omega⟩ d_Ac_run_193 (fun H locs hP hD hS => ?_)
          refine lv_bipush (v := 7) hx hb d_Ac_run_196 (by decide) ?_
          refine lv_ixor hx hb d_Ac_run_198 ?_
          obtain rfl := Option.some.inj hd
          exact retI hx hb hr hlk hK hP hD hS d_Ac_run_199 rfl
        have hd := ite_f hd h_21
        by_cases h_25 : v_2 = 41
        · have hd := ite_t hd h_25
          refine lv_lookup (tgt := 200) hx hb d_Ac_run_30 (by decide) (off := 170) (by rw [h_25]; decide) (by decide) ?_
          refine lv_aload_n hx hb d_Ac_run_200 rfl (lv_at hl 2 rfl) ?_
          refine va_getsN (v := .ref (g 50)) hx hb hCs.1.2.2.2.1 hS hown (va_Nw.use rfl hCs.2.2.2.1) (fun _ h9 => h9) d_Ac_run_201 ?_
          refine lv_iconst (v := 4) hx hb d_Ac_run_204 (by decide) ?_
          obtain ⟨h_26, hd⟩ := ite_s hd
          refine va_ti (v := .int (aboveC 4)) hx hb hCs.1.2.2.2.2.1 hS (inb_t h_26) (by rfl) d_Ac_run_205 ?_
          refine lv_iconst (v := 2) hx hb d_Ac_run_206 (by decide) ?_
          refine lv_iload_n hx hb d_Ac_run_207 rfl (lv_at hl 5 rfl) ?_
          refine lv_iconst (v := 1) hx hb d_Ac_run_208 (by decide) ?_
          refine lv_isub hx hb d_Ac_run_209 ?_
          refine lv_iload hx hb d_Ac_run_210 (lv_at hl 0 rfl) ?_
          obtain ⟨v_27, e_28, hd⟩ := bind_s hd
          refine callVI (ws' := ws_Ac g a v_27.2) (rest := []) (As := [.int (aboveC 4), .int 2, .int (x3 - 1), .int (x4 + 1)]) hx hb hml hown hg hK hP hD hS hA hCs hl.1 (ih l D g a (aboveC 4) 2 (x3 - 1) (x4 + 1) v_4 _ e_28) o_Ac_run g_949 (ci := 2) (q0 := 0) rfl rfl (List.range' 0 2) (segC1 rfl rfl) (by decide) rfl (segP1 rfl rfl) rfl rfl (Nat.le_of_ble_eq_true rfl) ⟨rfl, rfl, by show _ ≤ _; (try dsimp only); omega, by show _ ≤ _; (try dsimp only); omega⟩ d_Ac_run_212 (fun H locs hP hD hS => ?_)
          refine lv_aload_n hx hb d_Ac_run_215 rfl (lv_at hl 2 rfl) ?_
          refine lv_aload_n hx hb d_Ac_run_216 rfl (lv_at hl 2 rfl) ?_
          refine va_get (D := D) (ci := 2) (v := .int (q_Ac_kind v_27.2)) (C := R_Ac) (T := F_Ac) (N := 5) hx hb hg i_Ac hown hK hP 0 rfl rfl 4 (by decide) (hg _ g_384) (fun _ h9 => h9) rfl d_Ac_run_217 ?_
          refine lv_iconst (v := 0) hx hb d_Ac_run_220 (by decide) ?_
          refine lv_iconst (v := 2) hx hb d_Ac_run_221 (by decide) ?_
          refine lv_iload hx hb d_Ac_run_222 (lv_at hl 0 rfl) ?_
          obtain ⟨v_29, e_30, hd⟩ := bind_s hd
          refine callVI (ws' := ws_Ac g a v_29.2) (rest := [.int v_27.1]) (As := [.int (q_Ac_kind v_27.2), .int 0, .int 2, .int (x4 + 1)]) hx hb hml hown hg hK hP hD hS hA hCs hl.1 (ih l D g a (q_Ac_kind v_27.2) 0 2 (x4 + 1) v_27.2 _ e_30) o_Ac_run g_949 (ci := 2) (q0 := 0) rfl rfl (List.range' 0 2) (segC1 rfl rfl) (by decide) rfl (segP1 rfl rfl) rfl rfl (Nat.le_of_ble_eq_true rfl) ⟨rfl, rfl, by show _ ≤ _; (try dsimp only); omega, by show _ ≤ _; (try dsimp only); omega⟩ d_Ac_run_224 (fun H locs hP hD hS => ?_)
          refine lv_iadd hx hb d_Ac_run_227 ?_
          obtain rfl := Option.some.inj hd
          exact retI hx hb hr hlk hK hP hD hS d_Ac_run_228 rfl
        have hd := ite_f hd h_25
        by_cases h_31 : v_2 = 51
        · have hd := ite_t hd h_31
          refine lv_lookup (tgt := 229) hx hb d_Ac_run_30 (by decide) (off := 199) (by rw [h_31]; decide) (by decide) ?_
          refine lv_aload_n hx hb d_Ac_run_229 rfl (lv_at hl 2 rfl) ?_
          refine va_getsN (v := .ref (g 50)) hx hb hCs.1.2.2.2.1 hS hown (va_Nw.use rfl hCs.2.2.2.1) (fun _ h9 => h9) d_Ac_run_230 ?_
          refine lv_iconst (v := 5) hx hb d_Ac_run_233 (by decide) ?_
          obtain ⟨h_32, hd⟩ := ite_s hd
          refine va_ti (v := .int (aboveC 5)) hx hb hCs.1.2.2.2.2.1 hS (inb_t h_32) (by rfl) d_Ac_run_234 ?_
          refine lv_iconst (v := 0) hx hb d_Ac_run_235 (by decide) ?_
          refine lv_iload_n hx hb d_Ac_run_236 rfl (lv_at hl 5 rfl) ?_
          refine lv_iload hx hb d_Ac_run_237 (lv_at hl 0 rfl) ?_
          obtain ⟨v_33, e_34, hd⟩ := bind_s hd
          refine callVI (ws' := ws_Ac g a v_33.2) (rest := []) (As := [.int (aboveC 5), .int 0, .int x3, .int (x4 + 1)]) hx hb hml hown hg hK hP hD hS hA hCs hl.1 (ih l D g a (aboveC 5) 0 x3 (x4 + 1) v_4 _ e_34) o_Ac_run g_949 (ci := 2) (q0 := 0) rfl rfl (List.range' 0 2) (segC1 rfl rfl) (by decide) rfl (segP1 rfl rfl) rfl rfl (Nat.le_of_ble_eq_true rfl) ⟨rfl, rfl, by show _ ≤ _; (try dsimp only); omega, by show _ ≤ _; (try dsimp only); omega⟩ d_Ac_run_239 (fun H locs hP hD hS => ?_)
          refine lv_aload_n hx hb d_Ac_run_242 rfl (lv_at hl 2 rfl) ?_
          refine va_get (D := D) (ci := 2) (v := .int (q_Ac_number v_33.2)) (C := R_Ac) (T := F_Ac) (N := 5) hx hb hg i_Ac hown hK hP 0 rfl rfl 2 (by decide) (hg _ g_382) (fun _ h9 => h9) rfl d_Ac_run_243 ?_
          refine lv_ixor hx hb d_Ac_run_246 ?_
          obtain rfl := Option.some.inj hd
          exact retI hx hb hr hlk hK hP hD hS d_Ac_run_247 rfl
        have hd := ite_f hd h_31
        by_cases h_35 : v_2 = 61
        · have hd := ite_t hd h_35
          refine lv_lookup (tgt := 248) hx hb d_Ac_run_30 (by decide) (off := 218) (by rw [h_35]; decide) (by decide) ?_
          refine lv_aload_n hx hb d_Ac_run_248 rfl (lv_at hl 2 rfl) ?_
          refine va_getsN (v := .ref (g 50)) hx hb hCs.1.2.2.2.1 hS hown (va_Nw.use rfl hCs.2.2.2.1) (fun _ h9 => h9) d_Ac_run_249 ?_
          refine lv_bipush (v := 6) hx hb d_Ac_run_252 (by decide) ?_
          obtain ⟨h_36, hd⟩ := ite_s hd
          refine va_ti (v := .int (aboveC 6)) hx hb hCs.1.2.2.2.2.1 hS (inb_t h_36) (by rfl) d_Ac_run_254 ?_
          refine lv_iconst (v := 1) hx hb d_Ac_run_255 (by decide) ?_
          refine lv_iload_n hx hb d_Ac_run_256 rfl (lv_at hl 5 rfl) ?_
          refine lv_iload hx hb d_Ac_run_257 (lv_at hl 0 rfl) ?_
          obtain ⟨v_37, e_38, hd⟩ := bind_s hd
          refine callVI (ws' := ws_Ac g a v_37.2) (rest := []) (As := [.int (aboveC 6), .int 1, .int x3, .int (x4 + 1)]) hx hb hml hown hg hK hP hD hS hA hCs hl.1 (ih l D g a (aboveC 6) 1 x3 (x4 + 1) v_4 _ e_38) o_Ac_run g_949 (ci := 2) (q0 := 0) rfl rfl (List.range' 0 2) (segC1 rfl rfl) (by decide) rfl (segP1 rfl rfl) rfl rfl (Nat.le_of_ble_eq_true rfl) ⟨rfl, rfl, by show _ ≤ _; (try dsimp only); omega, by show _ ≤ _; (try dsimp only); omega⟩ d_Ac_run_259 (fun H locs hP hD hS => ?_)
          refine lv_aload_n hx hb d_Ac_run_262 rfl (lv_at hl 2 rfl) ?_
          refine va_get (D := D) (ci := 2) (v := .int (q_Ac_v v_37.2)) (C := R_Ac) (T := F_Ac) (N := 5) hx hb hg i_Ac hown hK hP 0 rfl rfl 3 (by decide) (hg _ g_383) (fun _ h9 => h9) rfl d_Ac_run_263 ?_
          refine lv_iadd hx hb d_Ac_run_266 ?_
          obtain rfl := Option.some.inj hd
          exact retI hx hb hr hlk hK hP hD hS d_Ac_run_267 rfl
        have hd := ite_f hd h_35
        have ho_39 : Op.lookupswitch.offset [(1, 82), (2, 89), (3, 107), (11, 122), (21, 138), (31, 153), (41, 170), (51, 199), (61, 218)] 238 (v_2).toInt = 238 := by
          have q_h_6 : ¬ (1 : Int) = (v_2).toInt := fun q => h_6 (Int32.toInt_inj.mp (q.symm.trans (by decide)))
          have q_h_7 : ¬ (2 : Int) = (v_2).toInt := fun q => h_7 (Int32.toInt_inj.mp (q.symm.trans (by decide)))
          have q_h_10 : ¬ (3 : Int) = (v_2).toInt := fun q => h_10 (Int32.toInt_inj.mp (q.symm.trans (by decide)))
          have q_h_13 : ¬ (11 : Int) = (v_2).toInt := fun q => h_13 (Int32.toInt_inj.mp (q.symm.trans (by decide)))
          have q_h_17 : ¬ (21 : Int) = (v_2).toInt := fun q => h_17 (Int32.toInt_inj.mp (q.symm.trans (by decide)))
          have q_h_21 : ¬ (31 : Int) = (v_2).toInt := fun q => h_21 (Int32.toInt_inj.mp (q.symm.trans (by decide)))
          have q_h_25 : ¬ (41 : Int) = (v_2).toInt := fun q => h_25 (Int32.toInt_inj.mp (q.symm.trans (by decide)))
          have q_h_31 : ¬ (51 : Int) = (v_2).toInt := fun q => h_31 (Int32.toInt_inj.mp (q.symm.trans (by decide)))
          have q_h_35 : ¬ (61 : Int) = (v_2).toInt := fun q => h_35 (Int32.toInt_inj.mp (q.symm.trans (by decide)))
          rw [Op.lookupswitch.offset_cons, if_neg q_h_6, Op.lookupswitch.offset_cons, if_neg q_h_7, Op.lookupswitch.offset_cons, if_neg q_h_10, Op.lookupswitch.offset_cons, if_neg q_h_13, Op.lookupswitch.offset_cons, if_neg q_h_17, Op.lookupswitch.offset_cons, if_neg q_h_21, Op.lookupswitch.offset_cons, if_neg q_h_25, Op.lookupswitch.offset_cons, if_neg q_h_31, Op.lookupswitch.offset_cons, if_neg q_h_35, Op.lookupswitch.offset_nil]
        refine lv_lookup (tgt := 268) hx hb d_Ac_run_30 (by decide) (off := 238) ho_39 (by decide) ?_
        refine lv_iconst (v := 0) hx hb d_Ac_run_268 (by decide) ?_
        obtain rfl := Option.some.inj hd
        exact retI hx hb hr hlk hK hP hD hS d_Ac_run_269 rfl
      · have hd := ite_f hd h_1
        refine lv_iconst (v := 0) hx hb d_Ac_run_7 (by decide) ?_
        obtain rfl := Option.some.inj hd
        exact retI hx hb hr hlk hK hP hD hS d_Ac_run_8 rfl
theorem c_Ac_run (n : Nat) (l : Launch) (D : va_G) (g : Nat → ClassId) (a : Nat → Nat) (x1 : Int32) (x2 : Int32) (x3 : Int32) (x4 : Int32) (z : T_Ac) (v : Int32 × T_Ac) (h : d_Ac_run n x1 x2 x3 x4 z = some v) :
    MI l y_Ac_run b_Ac_run 7 .int ({ frames := 2 + 2 * n, cells := 0, slots := 0, locals := 24 + 60 * n } : Room) D g [.ref (a 0), .int x1, .int x2, .int x3, .int x4] (ws_Ac g a z) (v.1) (ws_Ac g a v.2) := (cg_Ac_run n) l D g a x1 x2 x3 x4 z v h

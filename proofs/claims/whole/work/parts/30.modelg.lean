-- OwnsLiftModel.looked()I
def B_Mo_looked_L13 (self13 : Int32 → Int32 → T_Mo → Option (Int32 × T_Mo)) (x1_13 : Int32) (x2_13 : Int32) (z_13 : T_Mo) : Option (Int32 × T_Mo) :=
  if ((q_Mo_s z_13) 3) ≤ x2_13 then ((d_Mo_goesBack z_13).bind fun v_6 => some (x1_13, v_6)) else (if x1_13 = (-5) then (if inb (72 + x2_13) 901 = true then ((d_Mo_benches ((q_Mo_s z_13) (72 + x2_13).toNatClampNeg) z_13).bind fun v_11 => if v_11.1 = 0 then (if inb (84 + x2_13) 901 = true then (if ((q_Mo_s v_11.2) (84 + x2_13).toNatClampNeg) = 1 then (self13 x1_13 (x2_13 + 1) v_11.2) else (self13 x2_13 (x2_13 + 1) v_11.2)) else none) else (if inb (84 + x2_13) 901 = true then (if ((q_Mo_s v_11.2) (84 + x2_13).toNatClampNeg) = 1 then (self13 x2_13 (x2_13 + 1) v_11.2) else (self13 x1_13 (x2_13 + 1) v_11.2)) else none)) else none) else ((d_Mo_goesBack z_13).bind fun v_9 => some (x1_13, v_9)))
def d_Mo_looked_L13 (n : Nat) : Int32 → Int32 → T_Mo → Option (Int32 × T_Mo) := recN (fun _ _ _ => none) (fun self => B_Mo_looked_L13 self) n
def d_Mo_looked (z : T_Mo) : Option (Int32 × T_Mo) :=
  (d_Mo_looksForAll z).bind fun v_1 => (d_Mo_keeps v_1).bind fun v_3 => d_Mo_looked_L13  1000 (-5) 0 v_3
theorem d_Mo_looked_0 : decode b_Mo_looked 0 = .ok (.aload_n 0, 1) := by decide +kernel
theorem d_Mo_looked_1 : decode b_Mo_looked 1 = .ok (.invokevirtual 178, 3) := by decide +kernel
theorem d_Mo_looked_4 : decode b_Mo_looked 4 = .ok (.aload_n 0, 1) := by decide +kernel
theorem d_Mo_looked_5 : decode b_Mo_looked 5 = .ok (.invokevirtual 229, 3) := by decide +kernel
theorem d_Mo_looked_8 : decode b_Mo_looked 8 = .ok (.bipush (-5), 2) := by decide +kernel
theorem d_Mo_looked_10 : decode b_Mo_looked 10 = .ok (.istore_n 1, 1) := by decide +kernel
theorem d_Mo_looked_11 : decode b_Mo_looked 11 = .ok (.iconst 0, 1) := by decide +kernel
theorem d_Mo_looked_12 : decode b_Mo_looked 12 = .ok (.istore_n 2, 1) := by decide +kernel
theorem d_Mo_looked_13 : decode b_Mo_looked 13 = .ok (.iload_n 2, 1) := by decide +kernel
theorem d_Mo_looked_14 : decode b_Mo_looked 14 = .ok (.aload_n 0, 1) := by decide +kernel
theorem d_Mo_looked_15 : decode b_Mo_looked 15 = .ok (.getfield 9, 3) := by decide +kernel
theorem d_Mo_looked_18 : decode b_Mo_looked 18 = .ok (.iconst 3, 1) := by decide +kernel
theorem d_Mo_looked_19 : decode b_Mo_looked 19 = .ok (.iaload, 1) := by decide +kernel
theorem d_Mo_looked_20 : decode b_Mo_looked 20 = .ok (.if_icmp .ge 65, 3) := by decide +kernel
theorem d_Mo_looked_23 : decode b_Mo_looked 23 = .ok (.iload_n 1, 1) := by decide +kernel
theorem d_Mo_looked_24 : decode b_Mo_looked 24 = .ok (.bipush (-5), 2) := by decide +kernel
theorem d_Mo_looked_26 : decode b_Mo_looked 26 = .ok (.if_icmp .ne 59, 3) := by decide +kernel
theorem d_Mo_looked_29 : decode b_Mo_looked 29 = .ok (.aload_n 0, 1) := by decide +kernel
theorem d_Mo_looked_30 : decode b_Mo_looked 30 = .ok (.aload_n 0, 1) := by decide +kernel
theorem d_Mo_looked_31 : decode b_Mo_looked 31 = .ok (.getfield 9, 3) := by decide +kernel
theorem d_Mo_looked_34 : decode b_Mo_looked 34 = .ok (.bipush 72, 2) := by decide +kernel
theorem d_Mo_looked_36 : decode b_Mo_looked 36 = .ok (.iload_n 2, 1) := by decide +kernel
theorem d_Mo_looked_37 : decode b_Mo_looked 37 = .ok (.iadd, 1) := by decide +kernel
theorem d_Mo_looked_38 : decode b_Mo_looked 38 = .ok (.iaload, 1) := by decide +kernel
theorem d_Mo_looked_39 : decode b_Mo_looked 39 = .ok (.invokevirtual 181, 3) := by decide +kernel
theorem d_Mo_looked_42 : decode b_Mo_looked 42 = .ok (.ifCond .ne 7, 3) := by decide +kernel
theorem d_Mo_looked_45 : decode b_Mo_looked 45 = .ok (.iconst 1, 1) := by decide +kernel
theorem d_Mo_looked_46 : decode b_Mo_looked 46 = .ok (.goto 4, 3) := by decide +kernel
theorem d_Mo_looked_49 : decode b_Mo_looked 49 = .ok (.iconst 0, 1) := by decide +kernel
theorem d_Mo_looked_50 : decode b_Mo_looked 50 = .ok (.istore_n 3, 1) := by decide +kernel
theorem d_Mo_looked_51 : decode b_Mo_looked 51 = .ok (.iload_n 3, 1) := by decide +kernel
theorem d_Mo_looked_52 : decode b_Mo_looked 52 = .ok (.aload_n 0, 1) := by decide +kernel
theorem d_Mo_looked_53 : decode b_Mo_looked 53 = .ok (.getfield 9, 3) := by decide +kernel
theorem d_Mo_looked_56 : decode b_Mo_looked 56 = .ok (.bipush 84, 2) := by decide +kernel
theorem d_Mo_looked_58 : decode b_Mo_looked 58 = .ok (.iload_n 2, 1) := by decide +kernel
theorem d_Mo_looked_59 : decode b_Mo_looked 59 = .ok (.iadd, 1) := by decide +kernel
theorem d_Mo_looked_60 : decode b_Mo_looked 60 = .ok (.iaload, 1) := by decide +kernel
theorem d_Mo_looked_61 : decode b_Mo_looked 61 = .ok (.iconst 1, 1) := by decide +kernel
theorem d_Mo_looked_62 : decode b_Mo_looked 62 = .ok (.if_icmp .ne 7, 3) := by decide +kernel
theorem d_Mo_looked_65 : decode b_Mo_looked 65 = .ok (.iconst 1, 1) := by decide +kernel
theorem d_Mo_looked_66 : decode b_Mo_looked 66 = .ok (.goto 4, 3) := by decide +kernel
theorem d_Mo_looked_69 : decode b_Mo_looked 69 = .ok (.iconst 0, 1) := by decide +kernel
theorem d_Mo_looked_70 : decode b_Mo_looked 70 = .ok (.if_icmp .eq 7, 3) := by decide +kernel
theorem d_Mo_looked_73 : decode b_Mo_looked 73 = .ok (.iload_n 2, 1) := by decide +kernel
theorem d_Mo_looked_74 : decode b_Mo_looked 74 = .ok (.goto 4, 3) := by decide +kernel
theorem d_Mo_looked_77 : decode b_Mo_looked 77 = .ok (.iload_n 1, 1) := by decide +kernel
theorem d_Mo_looked_78 : decode b_Mo_looked 78 = .ok (.istore_n 1, 1) := by decide +kernel
theorem d_Mo_looked_79 : decode b_Mo_looked 79 = .ok (.iinc 2 1, 3) := by decide +kernel
theorem d_Mo_looked_82 : decode b_Mo_looked 82 = .ok (.goto (-69), 3) := by decide +kernel
theorem d_Mo_looked_85 : decode b_Mo_looked 85 = .ok (.aload_n 0, 1) := by decide +kernel
theorem d_Mo_looked_86 : decode b_Mo_looked 86 = .ok (.invokevirtual 232, 3) := by decide +kernel
theorem d_Mo_looked_89 : decode b_Mo_looked 89 = .ok (.iload_n 1, 1) := by decide +kernel
theorem d_Mo_looked_90 : decode b_Mo_looked 90 = .ok (.ireturn, 1) := by decide +kernel
theorem o_Mo_looked : OkV y_Mo_looked "OwnsLiftModel" b_Mo_looked 4 (some .int) 0 := ⟨⟨rfl, by decide +kernel, by decide +kernel, by decide +kernel⟩, g_1340, g_1341, g_81, g_1342⟩
set_option maxHeartbeats 4000000 in
set_option maxRecDepth 100000 in
theorem c_Mo_looked (l : Launch) (D : va_G) (g : Nat → ClassId) (a : Nat → Nat) (z : T_Mo) (v : Int32 × T_Mo) (h : d_Mo_looked z = some v) :
    MI l y_Mo_looked b_Mo_looked 4 .int ({ frames := 4, cells := 0, slots := 0, locals := 97 } : Room) D g [.ref (a 0)] (ws_Mo g a z) (v.1) (ws_Mo g a v.2) := by
  have hd := h
  unfold d_Mo_looked at hd
  refine enterI rfl (Nat.le_of_ble_eq_true rfl) (fun p e s m below meth c A ls hx hb hml hr hown hg hlk hK hA hP hD hS hCs hl => ?_)
  have hown : s.vm.findClass "OwnsLiftModel" = some m.cls := hown
  have hl : lv_has ls 4 [(0, .ref (a 0))] := hl
  show GI p l e s m ({ frames := 4, cells := 0, slots := 0, locals := 97 } : Room) ([.ref (a 0)] : List Value).toArray below meth c A D g (ws_Mo g a v.2) (v.1) s.heap [] (F0 m 0 ls [])
  refine lv_aload_n hx hb d_Mo_looked_0 rfl (lv_at hl 0 rfl) ?_
  obtain ⟨v_1, e_2, hd⟩ := bind_s hd
  refine callVV (ws' := ws_Mo g a v_1) (rest := []) (As := []) hx hb hml hown hg hK hP hD hS hA hCs hl.1 (c_Mo_looksForAll l D g a z _ e_2) o_Mo_looksForAll g_1218 (ci := 1) (q0 := 0) rfl rfl (List.range' 0 12) (segC1 rfl rfl) (by decide) rfl (segP1 rfl rfl) rfl rfl (Nat.le_of_ble_eq_true rfl) ⟨rfl, rfl, Nat.le_of_ble_eq_true rfl, Nat.le_of_ble_eq_true rfl⟩ d_Mo_looked_1 (fun H locs hP hD hS => ?_)
  refine lv_aload_n hx hb d_Mo_looked_4 rfl (lv_at hl 0 rfl) ?_
  obtain ⟨v_3, e_4, hd⟩ := bind_s hd
  refine callVV (ws' := ws_Mo g a v_3) (rest := []) (As := []) hx hb hml hown hg hK hP hD hS hA hCs hl.1 (c_Mo_keeps l D g a v_1 _ e_4) o_Mo_keeps g_1314 (ci := 1) (q0 := 0) rfl rfl (List.range' 0 12) (segC1 rfl rfl) (by decide) rfl (segP1 rfl rfl) rfl rfl (Nat.le_of_ble_eq_true rfl) ⟨rfl, rfl, Nat.le_of_ble_eq_true rfl, Nat.le_of_ble_eq_true rfl⟩ d_Mo_looked_5 (fun H locs hP hD hS => ?_)
  refine lv_bipush (v := (-5)) hx hb d_Mo_looked_8 (by decide) ?_
  refine lv_istore_n (lv' := [(1, .int (-5)), (0, .ref (a 0))]) hx hb d_Mo_looked_10 rfl hl (by decide) rfl (fun ls hl => ?_)
  refine lv_iconst (v := 0) hx hb d_Mo_looked_11 (by decide) ?_
  refine lv_istore_n (lv' := [(2, .int 0), (1, .int (-5)), (0, .ref (a 0))]) hx hb d_Mo_looked_12 rfl hl (by decide) rfl (fun ls hl => ?_)
  have lp13 : ∀ (n : Nat) (x1_13 : Int32) (x2_13 : Int32) (z_13 : T_Mo) (H : Heap) (locs : List Loc) (ls : Array Slot), va_P D classes (ws_Mo g a z_13) H → va_D A (ws_Mo g a z_13) → va_S A s.heap H locs → lv_has ls 4 [(0, .ref (a 0)), (1, .int x1_13), (2, .int x2_13)] → d_Mo_looked_L13 n x1_13 x2_13 z_13 = some v → GI p l e s m ({ frames := 4, cells := 0, slots := 0, locals := 97 } : Room) ([.ref (a 0)] : List Value).toArray below meth c A D g (ws_Mo g a v.2) (v.1) H locs (F0 m 13 ls []) := by
    intro n
    induction n with
    | zero =>
      intro  x1_13 x2_13 z_13 H locs ls hP hD hS hl hd
      have hd : none = some v := hd
      cases hd
    | succ n ih13 =>
      intro  x1_13 x2_13 z_13 H locs ls hP hD hS hl hd
      have hd : B_Mo_looked_L13 (d_Mo_looked_L13 n) x1_13 x2_13 z_13 = some v := hd
      generalize d_Mo_looked_L13 n = self13 at ih13 hd
      unfold B_Mo_looked_L13 at hd
      refine lv_iload_n hx hb d_Mo_looked_13 rfl (lv_at hl 2 rfl) ?_
      refine lv_aload_n hx hb d_Mo_looked_14 rfl (lv_at hl 0 rfl) ?_
      refine va_get (D := D) (ci := 1) (v := .ref (a 1)) (C := R_Mo) (T := F_Mo) (N := 26) hx hb hg i_Mo hown hK hP 0 rfl rfl 1 (by decide) (hg _ g_993) (fun _ h9 => h9) rfl d_Mo_looked_15 ?_
      refine lv_iconst (v := 3) hx hb d_Mo_looked_18 (by decide) ?_
      refine ialdK hx hb hK hP 1 0 rfl rfl (inb_t (by decide +kernel)) (k := 3) (by decide +kernel) d_Mo_looked_19 ?_
      refine lv_icmp_ge (tgt := 85) hx hb d_Mo_looked_20 (by decide) (fun h_5 => ?_) (fun h_5 => ?_)
      · have hd := ite_t hd h_5
        refine lv_aload_n hx hb d_Mo_looked_85 rfl (lv_at hl 0 rfl) ?_
        obtain ⟨v_6, e_7, hd⟩ := bind_s hd
        refine callVV (ws' := ws_Mo g a v_6) (rest := []) (As := []) hx hb hml hown hg hK hP hD hS hA hCs hl.1 (c_Mo_goesBack l D g a z_13 _ e_7) o_Mo_goesBack g_1318 (ci := 1) (q0 := 0) rfl rfl (List.range' 0 12) (segC1 rfl rfl) (by decide) rfl (segP1 rfl rfl) rfl rfl (Nat.le_of_ble_eq_true rfl) ⟨rfl, rfl, Nat.le_of_ble_eq_true rfl, Nat.le_of_ble_eq_true rfl⟩ d_Mo_looked_86 (fun H locs hP hD hS => ?_)
        refine lv_iload_n hx hb d_Mo_looked_89 rfl (lv_at hl 1 rfl) ?_
        obtain rfl := Option.some.inj hd
        exact retI hx hb hr hlk hK hP hD hS d_Mo_looked_90 rfl
      · have hd := ite_f hd h_5
        refine lv_iload_n hx hb d_Mo_looked_23 rfl (lv_at hl 1 rfl) ?_
        refine lv_bipush (v := (-5)) hx hb d_Mo_looked_24 (by decide) ?_
        refine lv_icmp_ne (tgt := 85) hx hb d_Mo_looked_26 (by decide) (fun h_8 => ?_) (fun h_8 => ?_)
        · have hd := ite_f hd h_8
          refine lv_aload_n hx hb d_Mo_looked_85 rfl (lv_at hl 0 rfl) ?_
          obtain ⟨v_9, e_10, hd⟩ := bind_s hd
          refine callVV (ws' := ws_Mo g a v_9) (rest := []) (As := []) hx hb hml hown hg hK hP hD hS hA hCs hl.1 (c_Mo_goesBack l D g a z_13 _ e_10) o_Mo_goesBack g_1318 (ci := 1) (q0 := 0) rfl rfl (List.range' 0 12) (segC1 rfl rfl) (by decide) rfl (segP1 rfl rfl) rfl rfl (Nat.le_of_ble_eq_true rfl) ⟨rfl, rfl, Nat.le_of_ble_eq_true rfl, Nat.le_of_ble_eq_true rfl⟩ d_Mo_looked_86 (fun H locs hP hD hS => ?_)
          refine lv_iload_n hx hb d_Mo_looked_89 rfl (lv_at hl 1 rfl) ?_
          obtain rfl := Option.some.inj hd
          exact retI hx hb hr hlk hK hP hD hS d_Mo_looked_90 rfl
        · have hd := ite_t hd h_8
          refine lv_aload_n hx hb d_Mo_looked_29 rfl (lv_at hl 0 rfl) ?_
          refine lv_aload_n hx hb d_Mo_looked_30 rfl (lv_at hl 0 rfl) ?_
          refine va_get (D := D) (ci := 1) (v := .ref (a 1)) (C := R_Mo) (T := F_Mo) (N := 26) hx hb hg i_Mo hown hK hP 0 rfl rfl 1 (by decide) (hg _ g_993) (fun _ h9 => h9) rfl d_Mo_looked_31 ?_
          refine lv_bipush (v := 72) hx hb d_Mo_looked_34 (by decide) ?_
          refine lv_iload_n hx hb d_Mo_looked_36 rfl (lv_at hl 2 rfl) ?_
          refine lv_iadd hx hb d_Mo_looked_37 ?_
          obtain ⟨h_18, hd⟩ := ite_s hd
          refine ialdK hx hb hK hP 1 0 rfl rfl (inb_t h_18) rfl d_Mo_looked_38 ?_
          obtain ⟨v_11, e_12, hd⟩ := bind_s hd
          refine callVI (ws' := ws_Mo g a v_11.2) (rest := []) (As := [.int ((q_Mo_s z_13) (72 + x2_13).toNatClampNeg)]) hx hb hml hown hg hK hP hD hS hA hCs hl.1 (c_Mo_benches l D g a ((q_Mo_s z_13) (72 + x2_13).toNatClampNeg) z_13 _ e_12) o_Mo_benches g_1222 (ci := 1) (q0 := 0) rfl rfl (List.range' 0 12) (segC1 rfl rfl) (by decide) rfl (segP1 rfl rfl) rfl rfl (Nat.le_of_ble_eq_true rfl) ⟨rfl, rfl, Nat.le_of_ble_eq_true rfl, Nat.le_of_ble_eq_true rfl⟩ d_Mo_looked_39 (fun H locs hP hD hS => ?_)
          refine lv_if_ne (tgt := 49) hx hb d_Mo_looked_42 (by decide) (fun h_13 => ?_) (fun h_13 => ?_)
          · have hd := ite_f hd h_13
            refine lv_iconst (v := 0) hx hb d_Mo_looked_49 (by decide) ?_
            refine lv_istore_n (lv' := [(3, .int 0), (0, .ref (a 0)), (1, .int x1_13), (2, .int x2_13)]) hx hb d_Mo_looked_50 rfl hl (by decide) rfl (fun ls hl => ?_)
            refine lv_iload_n hx hb d_Mo_looked_51 rfl (lv_at hl 0 rfl) ?_
            refine lv_aload_n hx hb d_Mo_looked_52 rfl (lv_at hl 1 rfl) ?_
            refine va_get (D := D) (ci := 1) (v := .ref (a 1)) (C := R_Mo) (T := F_Mo) (N := 26) hx hb hg i_Mo hown hK hP 0 rfl rfl 1 (by decide) (hg _ g_993) (fun _ h9 => h9) rfl d_Mo_looked_53 ?_
            refine lv_bipush (v := 84) hx hb d_Mo_looked_56 (by decide) ?_
            refine lv_iload_n hx hb d_Mo_looked_58 rfl (lv_at hl 3 rfl) ?_
            refine lv_iadd hx hb d_Mo_looked_59 ?_
            obtain ⟨h_15, hd⟩ := ite_s hd
            refine ialdK hx hb hK hP 1 0 rfl rfl (inb_t h_15) rfl d_Mo_looked_60 ?_
            refine lv_iconst (v := 1) hx hb d_Mo_looked_61 (by decide) ?_
            refine lv_icmp_ne (tgt := 69) hx hb d_Mo_looked_62 (by decide) (fun h_14 => ?_) (fun h_14 => ?_)
            · have hd := ite_f hd h_14
              refine lv_iconst (v := 0) hx hb d_Mo_looked_69 (by decide) ?_
              refine lv_icmp_eq (tgt := 77) hx hb d_Mo_looked_70 (by decide) (fun _ => ?_) (fun h9 => absurd (by decide) h9)
              refine lv_iload_n hx hb d_Mo_looked_77 rfl (lv_at hl 2 rfl) ?_
              refine lv_istore_n (lv' := [(1, .int x1_13), (3, .int 0), (0, .ref (a 0)), (2, .int x2_13)]) hx hb d_Mo_looked_78 rfl hl (by decide) rfl (fun ls hl => ?_)
              refine lv_iinc (v := x2_13 + 1) (lv' := [(2, .int (x2_13 + 1)), (1, .int x1_13), (3, .int 0), (0, .ref (a 0))]) hx hb d_Mo_looked_79 hl (k := 3) rfl (by rfl) (by decide) rfl (fun ls hl => ?_)
              refine lv_goto (tgt := 13) hx hb d_Mo_looked_82 (by decide) ?_
              exact ih13 x1_13 (x2_13 + 1) v_11.2 _ _ _ hP hD hS (lv_sub hl [3, 1, 0] rfl) hd
            · have hd := ite_t hd h_14
              refine lv_iconst (v := 1) hx hb d_Mo_looked_65 (by decide) ?_
              refine lv_goto (tgt := 70) hx hb d_Mo_looked_66 (by decide) ?_
              refine lv_icmp_eq (tgt := 77) hx hb d_Mo_looked_70 (by decide) (fun h9 => absurd h9 (by decide)) (fun _ => ?_)
              refine lv_iload_n hx hb d_Mo_looked_73 rfl (lv_at hl 3 rfl) ?_
              refine lv_goto (tgt := 78) hx hb d_Mo_looked_74 (by decide) ?_
              refine lv_istore_n (lv' := [(1, .int x2_13), (3, .int 0), (0, .ref (a 0)), (2, .int x2_13)]) hx hb d_Mo_looked_78 rfl hl (by decide) rfl (fun ls hl => ?_)
              refine lv_iinc (v := x2_13 + 1) (lv' := [(2, .int (x2_13 + 1)), (1, .int x2_13), (3, .int 0), (0, .ref (a 0))]) hx hb d_Mo_looked_79 hl (k := 3) rfl (by rfl) (by decide) rfl (fun ls hl => ?_)
              refine lv_goto (tgt := 13) hx hb d_Mo_looked_82 (by decide) ?_
              exact ih13 x2_13 (x2_13 + 1) v_11.2 _ _ _ hP hD hS (lv_sub hl [3, 1, 0] rfl) hd
          · have hd := ite_t hd h_13
            refine lv_iconst (v := 1) hx hb d_Mo_looked_45 (by decide) ?_
            refine lv_goto (tgt := 50) hx hb d_Mo_looked_46 (by decide) ?_
            refine lv_istore_n (lv' := [(3, .int 1), (0, .ref (a 0)), (1, .int x1_13), (2, .int x2_13)]) hx hb d_Mo_looked_50 rfl hl (by decide) rfl (fun ls hl => ?_)
            refine lv_iload_n hx hb d_Mo_looked_51 rfl (lv_at hl 0 rfl) ?_
            refine lv_aload_n hx hb d_Mo_looked_52 rfl (lv_at hl 1 rfl) ?_
            refine va_get (D := D) (ci := 1) (v := .ref (a 1)) (C := R_Mo) (T := F_Mo) (N := 26) hx hb hg i_Mo hown hK hP 0 rfl rfl 1 (by decide) (hg _ g_993) (fun _ h9 => h9) rfl d_Mo_looked_53 ?_
            refine lv_bipush (v := 84) hx hb d_Mo_looked_56 (by decide) ?_
            refine lv_iload_n hx hb d_Mo_looked_58 rfl (lv_at hl 3 rfl) ?_
            refine lv_iadd hx hb d_Mo_looked_59 ?_
            obtain ⟨h_17, hd⟩ := ite_s hd
            refine ialdK hx hb hK hP 1 0 rfl rfl (inb_t h_17) rfl d_Mo_looked_60 ?_
            refine lv_iconst (v := 1) hx hb d_Mo_looked_61 (by decide) ?_
            refine lv_icmp_ne (tgt := 69) hx hb d_Mo_looked_62 (by decide) (fun h_16 => ?_) (fun h_16 => ?_)
            · have hd := ite_f hd h_16
              refine lv_iconst (v := 0) hx hb d_Mo_looked_69 (by decide) ?_
              refine lv_icmp_eq (tgt := 77) hx hb d_Mo_looked_70 (by decide) (fun h9 => absurd h9 (by decide)) (fun _ => ?_)
              refine lv_iload_n hx hb d_Mo_looked_73 rfl (lv_at hl 3 rfl) ?_
              refine lv_goto (tgt := 78) hx hb d_Mo_looked_74 (by decide) ?_
              refine lv_istore_n (lv' := [(1, .int x2_13), (3, .int 1), (0, .ref (a 0)), (2, .int x2_13)]) hx hb d_Mo_looked_78 rfl hl (by decide) rfl (fun ls hl => ?_)
              refine lv_iinc (v := x2_13 + 1) (lv' := [(2, .int (x2_13 + 1)), (1, .int x2_13), (3, .int 1), (0, .ref (a 0))]) hx hb d_Mo_looked_79 hl (k := 3) rfl (by rfl) (by decide) rfl (fun ls hl => ?_)
              refine lv_goto (tgt := 13) hx hb d_Mo_looked_82 (by decide) ?_
              exact ih13 x2_13 (x2_13 + 1) v_11.2 _ _ _ hP hD hS (lv_sub hl [3, 1, 0] rfl) hd
            · have hd := ite_t hd h_16
              refine lv_iconst (v := 1) hx hb d_Mo_looked_65 (by decide) ?_
              refine lv_goto (tgt := 70) hx hb d_Mo_looked_66 (by decide) ?_
              refine lv_icmp_eq (tgt := 77) hx hb d_Mo_looked_70 (by decide) (fun _ => ?_) (fun h9 => absurd (by decide) h9)
              refine lv_iload_n hx hb d_Mo_looked_77 rfl (lv_at hl 2 rfl) ?_
              refine lv_istore_n (lv' := [(1, .int x1_13), (3, .int 1), (0, .ref (a 0)), (2, .int x2_13)]) hx hb d_Mo_looked_78 rfl hl (by decide) rfl (fun ls hl => ?_)
              refine lv_iinc (v := x2_13 + 1) (lv' := [(2, .int (x2_13 + 1)), (1, .int x1_13), (3, .int 1), (0, .ref (a 0))]) hx hb d_Mo_looked_79 hl (k := 3) rfl (by rfl) (by decide) rfl (fun ls hl => ?_)
              refine lv_goto (tgt := 13) hx hb d_Mo_looked_82 (by decide) ?_
              exact ih13 x1_13 (x2_13 + 1) v_11.2 _ _ _ hP hD hS (lv_sub hl [3, 1, 0] rfl) hd
  exact lp13 1000 (-5) 0 v_3 _ _ _ hP hD hS (lv_sub hl [2, 1, 0] rfl) hd
-- OwnsLiftModel.ranBody(I)V
def d_Mo_ranBody (x1 : Int32) (z : T_Mo) : Option (T_Mo) :=
  if 20 ≤ (q_Mo_ran z) then (some ((u_Mo_ran z ((q_Mo_ran z) + 1)))) else (if inb (q_Mo_ran z) 20 = true then (some ((u_Mo_ran (u_Mo_bodies z (upd (q_Mo_bodies z) (q_Mo_ran z).toNatClampNeg x1)) ((q_Mo_ran (u_Mo_bodies z (upd (q_Mo_bodies z) (q_Mo_ran z).toNatClampNeg x1))) + 1)))) else none)
theorem d_Mo_ranBody_0 : decode b_Mo_ranBody 0 = .ok (.aload_n 0, 1) := by decide +kernel
theorem d_Mo_ranBody_1 : decode b_Mo_ranBody 1 = .ok (.getfield 237, 3) := by decide +kernel
theorem d_Mo_ranBody_4 : decode b_Mo_ranBody 4 = .ok (.bipush 20, 2) := by decide +kernel
theorem d_Mo_ranBody_6 : decode b_Mo_ranBody 6 = .ok (.if_icmp .ge 13, 3) := by decide +kernel
theorem d_Mo_ranBody_9 : decode b_Mo_ranBody 9 = .ok (.aload_n 0, 1) := by decide +kernel
theorem d_Mo_ranBody_10 : decode b_Mo_ranBody 10 = .ok (.getfield 43, 3) := by decide +kernel
theorem d_Mo_ranBody_13 : decode b_Mo_ranBody 13 = .ok (.aload_n 0, 1) := by decide +kernel
theorem d_Mo_ranBody_14 : decode b_Mo_ranBody 14 = .ok (.getfield 237, 3) := by decide +kernel
theorem d_Mo_ranBody_17 : decode b_Mo_ranBody 17 = .ok (.iload_n 1, 1) := by decide +kernel
theorem d_Mo_ranBody_18 : decode b_Mo_ranBody 18 = .ok (.iastore, 1) := by decide +kernel
theorem d_Mo_ranBody_19 : decode b_Mo_ranBody 19 = .ok (.aload_n 0, 1) := by decide +kernel
theorem d_Mo_ranBody_20 : decode b_Mo_ranBody 20 = .ok (.dup, 1) := by decide +kernel
theorem d_Mo_ranBody_21 : decode b_Mo_ranBody 21 = .ok (.getfield 237, 3) := by decide +kernel
theorem d_Mo_ranBody_24 : decode b_Mo_ranBody 24 = .ok (.iconst 1, 1) := by decide +kernel
theorem d_Mo_ranBody_25 : decode b_Mo_ranBody 25 = .ok (.iadd, 1) := by decide +kernel
theorem d_Mo_ranBody_26 : decode b_Mo_ranBody 26 = .ok (.putfield 237, 3) := by decide +kernel
theorem d_Mo_ranBody_29 : decode b_Mo_ranBody 29 = .ok (.return_, 1) := by decide +kernel
theorem o_Mo_ranBody : OkV y_Mo_ranBody "OwnsLiftModel" b_Mo_ranBody 2 none 1 := ⟨⟨rfl, by decide +kernel, by decide +kernel, by decide +kernel⟩, g_1356, g_64, g_81, g_1357⟩
set_option maxHeartbeats 4000000 in
set_option maxRecDepth 100000 in
theorem c_Mo_ranBody (l : Launch) (D : va_G) (g : Nat → ClassId) (a : Nat → Nat) (x1 : Int32) (z : T_Mo) (v : T_Mo) (h : d_Mo_ranBody x1 z = some v) :
    MV l y_Mo_ranBody b_Mo_ranBody 2 ({ frames := 0, cells := 0, slots := 0, locals := 0 } : Room) D g [.ref (a 0), .int x1] (ws_Mo g a z) (ws_Mo g a v) := by
  have hd := h
  unfold d_Mo_ranBody at hd
  refine enterV rfl (Nat.le_of_ble_eq_true rfl) (fun p e s m below meth c A ls hx hb hml hr hown hg hlk hK hA hP hD hS hCs hl => ?_)
  have hown : s.vm.findClass "OwnsLiftModel" = some m.cls := hown
  have hl : lv_has ls 2 [(0, .ref (a 0)), (1, .int x1)] := hl
  show GV p l e s m ({ frames := 0, cells := 0, slots := 0, locals := 0 } : Room) ([.ref (a 0), .int x1] : List Value).toArray below meth c A D g (ws_Mo g a v) s.heap [] (F0 m 0 ls [])
  refine lv_aload_n hx hb d_Mo_ranBody_0 rfl (lv_at hl 0 rfl) ?_
  refine va_get (D := D) (ci := 1) (v := .int (q_Mo_ran z)) (C := R_Mo) (T := F_Mo) (N := 26) hx hb hg i_Mo hown hK hP 0 rfl rfl 22 (by decide) (hg _ g_1014) (fun _ h9 => h9) rfl d_Mo_ranBody_1 ?_
  refine lv_bipush (v := 20) hx hb d_Mo_ranBody_4 (by decide) ?_
  refine lv_icmp_ge (tgt := 19) hx hb d_Mo_ranBody_6 (by decide) (fun h_1 => ?_) (fun h_1 => ?_)
  · have hd := ite_t hd h_1
    refine lv_aload_n hx hb d_Mo_ranBody_19 rfl (lv_at hl 0 rfl) ?_
    refine lv_dup hx hb d_Mo_ranBody_20 rfl ?_
    refine va_get (D := D) (ci := 1) (v := .int (q_Mo_ran z)) (C := R_Mo) (T := F_Mo) (N := 26) hx hb hg i_Mo hown hK hP 0 rfl rfl 22 (by decide) (hg _ g_1014) (fun _ h9 => h9) rfl d_Mo_ranBody_21 ?_
    refine lv_iconst (v := 1) hx hb d_Mo_ranBody_24 (by decide) ?_
    refine lv_iadd hx hb d_Mo_ranBody_25 ?_
    refine va_put (D := D) (ci := 1) (v := .int ((q_Mo_ran z) + 1)) (ty := .int) (C := R_Mo) (T := F_Mo) (N := 26) hx hb hg i_Mo t_Mo t_Mo_ok n_Mo hown hK hP hD hS 0 rfl rfl 22 (by decide) (hg _ g_1014) (fun _ h9 => h9) rfl (by decide +kernel) rfl rfl (Nat.le_of_ble_eq_true rfl) d_Mo_ranBody_26 (fun H locs hP hD hS => ?_)
    have hP : va_P D classes (ws_Mo g a (u_Mo_ran z ((q_Mo_ran z) + 1))) H := hP
    have hD : va_D A (ws_Mo g a (u_Mo_ran z ((q_Mo_ran z) + 1))) := hD
    obtain rfl := Option.some.inj hd
    exact retV hx hb hr hlk hK hP hD hS d_Mo_ranBody_29
  · have hd := ite_f hd h_1
    refine lv_aload_n hx hb d_Mo_ranBody_9 rfl (lv_at hl 0 rfl) ?_
    refine va_get (D := D) (ci := 1) (v := .ref (a 11)) (C := R_Mo) (T := F_Mo) (N := 26) hx hb hg i_Mo hown hK hP 0 rfl rfl 21 (by decide) (hg _ g_1013) (fun _ h9 => h9) rfl d_Mo_ranBody_10 ?_
    refine lv_aload_n hx hb d_Mo_ranBody_13 rfl (lv_at hl 0 rfl) ?_
    refine va_get (D := D) (ci := 1) (v := .int (q_Mo_ran z)) (C := R_Mo) (T := F_Mo) (N := 26) hx hb hg i_Mo hown hK hP 0 rfl rfl 22 (by decide) (hg _ g_1014) (fun _ h9 => h9) rfl d_Mo_ranBody_14 ?_
    refine lv_iload_n hx hb d_Mo_ranBody_17 rfl (lv_at hl 1 rfl) ?_
    obtain ⟨h_2, hd⟩ := ite_s hd
    refine iastK hx hb hK hP hD hS 11 0 rfl rfl (inb_t h_2) rfl d_Mo_ranBody_18 (fun H locs hP hD hS => ?_)
    have hP : va_P D classes (ws_Mo g a (u_Mo_bodies z (upd (q_Mo_bodies z) (q_Mo_ran z).toNatClampNeg x1))) H := hP
    have hD : va_D A (ws_Mo g a (u_Mo_bodies z (upd (q_Mo_bodies z) (q_Mo_ran z).toNatClampNeg x1))) := hD
    refine lv_aload_n hx hb d_Mo_ranBody_19 rfl (lv_at hl 0 rfl) ?_
    refine lv_dup hx hb d_Mo_ranBody_20 rfl ?_
    refine va_get (D := D) (ci := 1) (v := .int (q_Mo_ran (u_Mo_bodies z (upd (q_Mo_bodies z) (q_Mo_ran z).toNatClampNeg x1)))) (C := R_Mo) (T := F_Mo) (N := 26) hx hb hg i_Mo hown hK hP 0 rfl rfl 22 (by decide) (hg _ g_1014) (fun _ h9 => h9) rfl d_Mo_ranBody_21 ?_
    refine lv_iconst (v := 1) hx hb d_Mo_ranBody_24 (by decide) ?_
    refine lv_iadd hx hb d_Mo_ranBody_25 ?_
    refine va_put (D := D) (ci := 1) (v := .int ((q_Mo_ran (u_Mo_bodies z (upd (q_Mo_bodies z) (q_Mo_ran z).toNatClampNeg x1))) + 1)) (ty := .int) (C := R_Mo) (T := F_Mo) (N := 26) hx hb hg i_Mo t_Mo t_Mo_ok n_Mo hown hK hP hD hS 0 rfl rfl 22 (by decide) (hg _ g_1014) (fun _ h9 => h9) rfl (by decide +kernel) rfl rfl (Nat.le_of_ble_eq_true rfl) d_Mo_ranBody_26 (fun H locs hP hD hS => ?_)
    have hP : va_P D classes (ws_Mo g a (u_Mo_ran (u_Mo_bodies z (upd (q_Mo_bodies z) (q_Mo_ran z).toNatClampNeg x1)) ((q_Mo_ran (u_Mo_bodies z (upd (q_Mo_bodies z) (q_Mo_ran z).toNatClampNeg x1))) + 1))) H := hP
    have hD : va_D A (ws_Mo g a (u_Mo_ran (u_Mo_bodies z (upd (q_Mo_bodies z) (q_Mo_ran z).toNatClampNeg x1)) ((q_Mo_ran (u_Mo_bodies z (upd (q_Mo_bodies z) (q_Mo_ran z).toNatClampNeg x1))) + 1))) := hD
    obtain rfl := Option.some.inj hd
    exact retV hx hb hr hlk hK hP hD hS d_Mo_ranBody_29
-- OwnsLiftModel.isUnder(II)Z
def d_Mo_isUnder (x0 : Int32) (x1 : Int32) : Option (Int32) :=
  if x1 = 0 then (some (1)) else (if x1 = x0 then (some (1)) else (if x1 ≤ 0 then (some (0)) else (if 4 ≤ x1 then (some (0)) else (if x0 = (x1 + 3) then (some (1)) else (some (0))))))
theorem d_Mo_isUnder_0 : decode b_Mo_isUnder 0 = .ok (.iload_n 1, 1) := by decide +kernel
theorem d_Mo_isUnder_1 : decode b_Mo_isUnder 1 = .ok (.ifCond .eq 24, 3) := by decide +kernel
theorem d_Mo_isUnder_4 : decode b_Mo_isUnder 4 = .ok (.iload_n 1, 1) := by decide +kernel
theorem d_Mo_isUnder_5 : decode b_Mo_isUnder 5 = .ok (.iload_n 0, 1) := by decide +kernel
theorem d_Mo_isUnder_6 : decode b_Mo_isUnder 6 = .ok (.if_icmp .eq 19, 3) := by decide +kernel
theorem d_Mo_isUnder_9 : decode b_Mo_isUnder 9 = .ok (.iload_n 1, 1) := by decide +kernel
theorem d_Mo_isUnder_10 : decode b_Mo_isUnder 10 = .ok (.ifCond .le 19, 3) := by decide +kernel
theorem d_Mo_isUnder_13 : decode b_Mo_isUnder 13 = .ok (.iload_n 1, 1) := by decide +kernel
theorem d_Mo_isUnder_14 : decode b_Mo_isUnder 14 = .ok (.iconst 4, 1) := by decide +kernel
theorem d_Mo_isUnder_15 : decode b_Mo_isUnder 15 = .ok (.if_icmp .ge 14, 3) := by decide +kernel
theorem d_Mo_isUnder_18 : decode b_Mo_isUnder 18 = .ok (.iload_n 0, 1) := by decide +kernel
theorem d_Mo_isUnder_19 : decode b_Mo_isUnder 19 = .ok (.iload_n 1, 1) := by decide +kernel
theorem d_Mo_isUnder_20 : decode b_Mo_isUnder 20 = .ok (.iconst 3, 1) := by decide +kernel
theorem d_Mo_isUnder_21 : decode b_Mo_isUnder 21 = .ok (.iadd, 1) := by decide +kernel
theorem d_Mo_isUnder_22 : decode b_Mo_isUnder 22 = .ok (.if_icmp .ne 7, 3) := by decide +kernel
theorem d_Mo_isUnder_25 : decode b_Mo_isUnder 25 = .ok (.iconst 1, 1) := by decide +kernel
theorem d_Mo_isUnder_26 : decode b_Mo_isUnder 26 = .ok (.goto 4, 3) := by decide +kernel
theorem d_Mo_isUnder_29 : decode b_Mo_isUnder 29 = .ok (.iconst 0, 1) := by decide +kernel
theorem d_Mo_isUnder_30 : decode b_Mo_isUnder 30 = .ok (.ireturn, 1) := by decide +kernel
theorem o_Mo_isUnder : OkS y_Mo_isUnder b_Mo_isUnder 2 (some .boolean) 2 := ⟨⟨by decide +kernel, by decide +kernel, by decide +kernel⟩, g_1352, g_81, g_1353⟩
set_option maxHeartbeats 4000000 in
set_option maxRecDepth 100000 in
theorem c_Mo_isUnder (l : Launch) (D : va_G) (g : Nat → ClassId) (x0 : Int32) (x1 : Int32) (v : Int32) (h : d_Mo_isUnder x0 x1 = some v) :
    MI l y_Mo_isUnder b_Mo_isUnder 2 .boolean ({ frames := 0, cells := 0, slots := 0, locals := 0 } : Room) D g [.int x0, .int x1] (([] : va_W)) (v) (([] : va_W)) := by
  have hd := h
  unfold d_Mo_isUnder at hd
  refine enterI rfl (Nat.le_of_ble_eq_true rfl) (fun p e s m below meth c A ls hx hb hml hr hown hg hlk hK hA hP hD hS hCs hl => ?_)
  have hown : s.vm.findClass "OwnsLiftModel" = some m.cls := hown
  have hl : lv_has ls 2 [(0, .int x0), (1, .int x1)] := hl
  show GI p l e s m ({ frames := 0, cells := 0, slots := 0, locals := 0 } : Room) ([.int x0, .int x1] : List Value).toArray below meth c A D g (([] : va_W)) (v) s.heap [] (F0 m 0 ls [])
  refine lv_iload_n hx hb d_Mo_isUnder_0 rfl (lv_at hl 1 rfl) ?_
  refine lv_if_eq (tgt := 25) hx hb d_Mo_isUnder_1 (by decide) (fun h_1 => ?_) (fun h_1 => ?_)
  · have hd := ite_t hd h_1
    refine lv_iconst (v := 1) hx hb d_Mo_isUnder_25 (by decide) ?_
    refine lv_goto (tgt := 30) hx hb d_Mo_isUnder_26 (by decide) ?_
    obtain rfl := Option.some.inj hd
    exact retZ hx hb hr hlk hK hP hD hS d_Mo_isUnder_30 rfl (by decide +kernel)
  · have hd := ite_f hd h_1
    refine lv_iload_n hx hb d_Mo_isUnder_4 rfl (lv_at hl 1 rfl) ?_
    refine lv_iload_n hx hb d_Mo_isUnder_5 rfl (lv_at hl 0 rfl) ?_
    refine lv_icmp_eq (tgt := 25) hx hb d_Mo_isUnder_6 (by decide) (fun h_2 => ?_) (fun h_2 => ?_)
    · have hd := ite_t hd h_2
      refine lv_iconst (v := 1) hx hb d_Mo_isUnder_25 (by decide) ?_
      refine lv_goto (tgt := 30) hx hb d_Mo_isUnder_26 (by decide) ?_
      obtain rfl := Option.some.inj hd
      exact retZ hx hb hr hlk hK hP hD hS d_Mo_isUnder_30 rfl (by decide +kernel)
    · have hd := ite_f hd h_2
      refine lv_iload_n hx hb d_Mo_isUnder_9 rfl (lv_at hl 1 rfl) ?_
      refine lv_if_le (tgt := 29) hx hb d_Mo_isUnder_10 (by decide) (fun h_3 => ?_) (fun h_3 => ?_)
      · have hd := ite_t hd h_3
        refine lv_iconst (v := 0) hx hb d_Mo_isUnder_29 (by decide) ?_
        obtain rfl := Option.some.inj hd
        exact retZ hx hb hr hlk hK hP hD hS d_Mo_isUnder_30 rfl (by decide +kernel)
      · have hd := ite_f hd h_3
        refine lv_iload_n hx hb d_Mo_isUnder_13 rfl (lv_at hl 1 rfl) ?_
        refine lv_iconst (v := 4) hx hb d_Mo_isUnder_14 (by decide) ?_
        refine lv_icmp_ge (tgt := 29) hx hb d_Mo_isUnder_15 (by decide) (fun h_4 => ?_) (fun h_4 => ?_)
        · have hd := ite_t hd h_4
          refine lv_iconst (v := 0) hx hb d_Mo_isUnder_29 (by decide) ?_
          obtain rfl := Option.some.inj hd
          exact retZ hx hb hr hlk hK hP hD hS d_Mo_isUnder_30 rfl (by decide +kernel)
        · have hd := ite_f hd h_4
          refine lv_iload_n hx hb d_Mo_isUnder_18 rfl (lv_at hl 0 rfl) ?_
          refine lv_iload_n hx hb d_Mo_isUnder_19 rfl (lv_at hl 1 rfl) ?_
          refine lv_iconst (v := 3) hx hb d_Mo_isUnder_20 (by decide) ?_
          refine lv_iadd hx hb d_Mo_isUnder_21 ?_
          refine lv_icmp_ne (tgt := 29) hx hb d_Mo_isUnder_22 (by decide) (fun h_5 => ?_) (fun h_5 => ?_)
          · have hd := ite_f hd h_5
            refine lv_iconst (v := 0) hx hb d_Mo_isUnder_29 (by decide) ?_
            obtain rfl := Option.some.inj hd
            exact retZ hx hb hr hlk hK hP hD hS d_Mo_isUnder_30 rfl (by decide +kernel)
          · have hd := ite_t hd h_5
            refine lv_iconst (v := 1) hx hb d_Mo_isUnder_25 (by decide) ?_
            refine lv_goto (tgt := 30) hx hb d_Mo_isUnder_26 (by decide) ?_
            obtain rfl := Option.some.inj hd
            exact retZ hx hb hr hlk hK hP hD hS d_Mo_isUnder_30 rfl (by decide +kernel)
-- OwnsLiftModel.plainLifts(I)I
def d_Mo_plainLifts (x1 : Int32) (z : T_Mo) : Option (Int32 × T_Mo) :=
  (d_Mo_ranBody 1 z).bind fun v_1 => some (x1 + (q_Mo_number v_1), v_1)
theorem d_Mo_plainLifts_0 : decode b_Mo_plainLifts 0 = .ok (.aload_n 0, 1) := by decide +kernel
theorem d_Mo_plainLifts_1 : decode b_Mo_plainLifts 1 = .ok (.iconst 1, 1) := by decide +kernel
theorem d_Mo_plainLifts_2 : decode b_Mo_plainLifts 2 = .ok (.invokevirtual 240, 3) := by decide +kernel
theorem d_Mo_plainLifts_5 : decode b_Mo_plainLifts 5 = .ok (.iload_n 1, 1) := by decide +kernel
theorem d_Mo_plainLifts_6 : decode b_Mo_plainLifts 6 = .ok (.aload_n 0, 1) := by decide +kernel
theorem d_Mo_plainLifts_7 : decode b_Mo_plainLifts 7 = .ok (.getfield 243, 3) := by decide +kernel
theorem d_Mo_plainLifts_10 : decode b_Mo_plainLifts 10 = .ok (.iadd, 1) := by decide +kernel
theorem d_Mo_plainLifts_11 : decode b_Mo_plainLifts 11 = .ok (.ireturn, 1) := by decide +kernel
theorem o_Mo_plainLifts : OkV y_Mo_plainLifts "OwnsLiftModel" b_Mo_plainLifts 2 (some .int) 1 := ⟨⟨rfl, by decide +kernel, by decide +kernel, by decide +kernel⟩, g_1360, g_65, g_81, g_1361⟩
set_option maxHeartbeats 4000000 in
set_option maxRecDepth 100000 in
theorem c_Mo_plainLifts (l : Launch) (D : va_G) (g : Nat → ClassId) (a : Nat → Nat) (x1 : Int32) (z : T_Mo) (v : Int32 × T_Mo) (h : d_Mo_plainLifts x1 z = some v) :
    MI l y_Mo_plainLifts b_Mo_plainLifts 2 .int ({ frames := 1, cells := 0, slots := 0, locals := 21 } : Room) D g [.ref (a 0), .int x1] (ws_Mo g a z) (v.1) (ws_Mo g a v.2) := by
  have hd := h
  unfold d_Mo_plainLifts at hd
  refine enterI rfl (Nat.le_of_ble_eq_true rfl) (fun p e s m below meth c A ls hx hb hml hr hown hg hlk hK hA hP hD hS hCs hl => ?_)
  have hown : s.vm.findClass "OwnsLiftModel" = some m.cls := hown
  have hl : lv_has ls 2 [(0, .ref (a 0)), (1, .int x1)] := hl
  show GI p l e s m ({ frames := 1, cells := 0, slots := 0, locals := 21 } : Room) ([.ref (a 0), .int x1] : List Value).toArray below meth c A D g (ws_Mo g a v.2) (v.1) s.heap [] (F0 m 0 ls [])
  refine lv_aload_n hx hb d_Mo_plainLifts_0 rfl (lv_at hl 0 rfl) ?_
  refine lv_iconst (v := 1) hx hb d_Mo_plainLifts_1 (by decide) ?_
  obtain ⟨v_1, e_2, hd⟩ := bind_s hd
  refine callVV (ws' := ws_Mo g a v_1) (rest := []) (As := [.int 1]) hx hb hml hown hg hK hP hD hS hA hCs hl.1 (c_Mo_ranBody l D g a 1 z _ e_2) o_Mo_ranBody g_1354 (ci := 1) (q0 := 0) rfl rfl (List.range' 0 12) (segC1 rfl rfl) (by decide) rfl (segP1 rfl rfl) rfl rfl (Nat.le_of_ble_eq_true rfl) ⟨rfl, rfl, Nat.le_of_ble_eq_true rfl, Nat.le_of_ble_eq_true rfl⟩ d_Mo_plainLifts_2 (fun H locs hP hD hS => ?_)
  refine lv_iload_n hx hb d_Mo_plainLifts_5 rfl (lv_at hl 1 rfl) ?_
  refine lv_aload_n hx hb d_Mo_plainLifts_6 rfl (lv_at hl 0 rfl) ?_
  refine va_get (D := D) (ci := 1) (v := .int (q_Mo_number v_1)) (C := R_Mo) (T := F_Mo) (N := 26) hx hb hg i_Mo hown hK hP 0 rfl rfl 24 (by decide) (hg _ g_1016) (fun _ h9 => h9) rfl d_Mo_plainLifts_7 ?_
  refine lv_iadd hx hb d_Mo_plainLifts_10 ?_
  obtain rfl := Option.some.inj hd
  exact retI hx hb hr hlk hK hP hD hS d_Mo_plainLifts_11 rfl
-- OwnsLiftModel.liftsActs(I)I
def d_Mo_liftsActs (x1 : Int32) (z : T_Mo) : Option (Int32 × T_Mo) :=
  (d_Mo_isUnder (q_Mo_kind z) 1).bind fun v_1 => if v_1 = 0 then (if (q_Mo_kind z) = 5 then ((d_Mo_ranBody 51 z).bind fun v_7 => (d_Mo_plainLifts x1 v_7).bind fun v_9 => some (v_9.1 ^^^ (q_Mo_number v_9.2), v_9.2)) else ((d_Mo_plainLifts x1 z).bind fun v_5 => some (v_5.1, v_5.2))) else ((d_Mo_ranBody 11 z).bind fun v_11 => (d_Mo_plainLifts (x1 * 3) v_11).bind fun v_13 => some (v_13.1, v_13.2))
theorem d_Mo_liftsActs_0 : decode b_Mo_liftsActs 0 = .ok (.aload_n 0, 1) := by decide +kernel
theorem d_Mo_liftsActs_1 : decode b_Mo_liftsActs 1 = .ok (.getfield 246, 3) := by decide +kernel
theorem d_Mo_liftsActs_4 : decode b_Mo_liftsActs 4 = .ok (.iconst 1, 1) := by decide +kernel
theorem d_Mo_liftsActs_5 : decode b_Mo_liftsActs 5 = .ok (.invokestatic 249, 3) := by decide +kernel
theorem d_Mo_liftsActs_8 : decode b_Mo_liftsActs 8 = .ok (.ifCond .eq 17, 3) := by decide +kernel
theorem d_Mo_liftsActs_11 : decode b_Mo_liftsActs 11 = .ok (.aload_n 0, 1) := by decide +kernel
theorem d_Mo_liftsActs_12 : decode b_Mo_liftsActs 12 = .ok (.bipush 11, 2) := by decide +kernel
theorem d_Mo_liftsActs_14 : decode b_Mo_liftsActs 14 = .ok (.invokevirtual 240, 3) := by decide +kernel
theorem d_Mo_liftsActs_17 : decode b_Mo_liftsActs 17 = .ok (.aload_n 0, 1) := by decide +kernel
theorem d_Mo_liftsActs_18 : decode b_Mo_liftsActs 18 = .ok (.iload_n 1, 1) := by decide +kernel
theorem d_Mo_liftsActs_19 : decode b_Mo_liftsActs 19 = .ok (.iconst 3, 1) := by decide +kernel
theorem d_Mo_liftsActs_20 : decode b_Mo_liftsActs 20 = .ok (.imul, 1) := by decide +kernel
theorem d_Mo_liftsActs_21 : decode b_Mo_liftsActs 21 = .ok (.invokevirtual 252, 3) := by decide +kernel
theorem d_Mo_liftsActs_24 : decode b_Mo_liftsActs 24 = .ok (.ireturn, 1) := by decide +kernel
theorem d_Mo_liftsActs_25 : decode b_Mo_liftsActs 25 = .ok (.aload_n 0, 1) := by decide +kernel
theorem d_Mo_liftsActs_26 : decode b_Mo_liftsActs 26 = .ok (.getfield 246, 3) := by decide +kernel
theorem d_Mo_liftsActs_29 : decode b_Mo_liftsActs 29 = .ok (.iconst 5, 1) := by decide +kernel
theorem d_Mo_liftsActs_30 : decode b_Mo_liftsActs 30 = .ok (.if_icmp .ne 20, 3) := by decide +kernel
theorem d_Mo_liftsActs_33 : decode b_Mo_liftsActs 33 = .ok (.aload_n 0, 1) := by decide +kernel
theorem d_Mo_liftsActs_34 : decode b_Mo_liftsActs 34 = .ok (.bipush 51, 2) := by decide +kernel
theorem d_Mo_liftsActs_36 : decode b_Mo_liftsActs 36 = .ok (.invokevirtual 240, 3) := by decide +kernel
theorem d_Mo_liftsActs_39 : decode b_Mo_liftsActs 39 = .ok (.aload_n 0, 1) := by decide +kernel
theorem d_Mo_liftsActs_40 : decode b_Mo_liftsActs 40 = .ok (.iload_n 1, 1) := by decide +kernel
theorem d_Mo_liftsActs_41 : decode b_Mo_liftsActs 41 = .ok (.invokevirtual 252, 3) := by decide +kernel
theorem d_Mo_liftsActs_44 : decode b_Mo_liftsActs 44 = .ok (.aload_n 0, 1) := by decide +kernel
theorem d_Mo_liftsActs_45 : decode b_Mo_liftsActs 45 = .ok (.getfield 243, 3) := by decide +kernel
theorem d_Mo_liftsActs_48 : decode b_Mo_liftsActs 48 = .ok (.ixor, 1) := by decide +kernel
theorem d_Mo_liftsActs_49 : decode b_Mo_liftsActs 49 = .ok (.ireturn, 1) := by decide +kernel
theorem d_Mo_liftsActs_50 : decode b_Mo_liftsActs 50 = .ok (.aload_n 0, 1) := by decide +kernel
theorem d_Mo_liftsActs_51 : decode b_Mo_liftsActs 51 = .ok (.iload_n 1, 1) := by decide +kernel
theorem d_Mo_liftsActs_52 : decode b_Mo_liftsActs 52 = .ok (.invokevirtual 252, 3) := by decide +kernel
theorem d_Mo_liftsActs_55 : decode b_Mo_liftsActs 55 = .ok (.ireturn, 1) := by decide +kernel
theorem o_Mo_liftsActs : OkV y_Mo_liftsActs "OwnsLiftModel" b_Mo_liftsActs 2 (some .int) 1 := ⟨⟨rfl, by decide +kernel, by decide +kernel, by decide +kernel⟩, g_1349, g_63, g_81, g_1350⟩
set_option maxHeartbeats 4000000 in
set_option maxRecDepth 100000 in
theorem c_Mo_liftsActs (l : Launch) (D : va_G) (g : Nat → ClassId) (a : Nat → Nat) (x1 : Int32) (z : T_Mo) (v : Int32 × T_Mo) (h : d_Mo_liftsActs x1 z = some v) :
    MI l y_Mo_liftsActs b_Mo_liftsActs 2 .int ({ frames := 2, cells := 0, slots := 0, locals := 42 } : Room) D g [.ref (a 0), .int x1] (ws_Mo g a z) (v.1) (ws_Mo g a v.2) := by
  have hd := h
  unfold d_Mo_liftsActs at hd
  refine enterI rfl (Nat.le_of_ble_eq_true rfl) (fun p e s m below meth c A ls hx hb hml hr hown hg hlk hK hA hP hD hS hCs hl => ?_)
  have hown : s.vm.findClass "OwnsLiftModel" = some m.cls := hown
  have hl : lv_has ls 2 [(0, .ref (a 0)), (1, .int x1)] := hl
  show GI p l e s m ({ frames := 2, cells := 0, slots := 0, locals := 42 } : Room) ([.ref (a 0), .int x1] : List Value).toArray below meth c A D g (ws_Mo g a v.2) (v.1) s.heap [] (F0 m 0 ls [])
  refine lv_aload_n hx hb d_Mo_liftsActs_0 rfl (lv_at hl 0 rfl) ?_
  refine va_get (D := D) (ci := 1) (v := .int (q_Mo_kind z)) (C := R_Mo) (T := F_Mo) (N := 26) hx hb hg i_Mo hown hK hP 0 rfl rfl 23 (by decide) (hg _ g_1015) (fun _ h9 => h9) rfl d_Mo_liftsActs_1 ?_
  refine lv_iconst (v := 1) hx hb d_Mo_liftsActs_4 (by decide) ?_
  obtain ⟨v_1, e_2, hd⟩ := bind_s hd
  refine callSI (ws' := ws_Mo g a z) (rest := []) (As := [.int (q_Mo_kind z), .int 1]) hx hb hml hown hg hK hP hD hS hA hCs hl.1 (c_Mo_isUnder l D g  (q_Mo_kind z) 1 _ e_2) o_Mo_isUnder g_1351 [] segC0 rfl rfl segP0 rfl rfl (Nat.le_of_ble_eq_true rfl) ⟨rfl, rfl, Nat.le_of_ble_eq_true rfl, Nat.le_of_ble_eq_true rfl⟩ d_Mo_liftsActs_5 (fun H locs hP hD hS => ?_)
  refine lv_if_eq (tgt := 25) hx hb d_Mo_liftsActs_8 (by decide) (fun h_3 => ?_) (fun h_3 => ?_)
  · have hd := ite_t hd h_3
    refine lv_aload_n hx hb d_Mo_liftsActs_25 rfl (lv_at hl 0 rfl) ?_
    refine va_get (D := D) (ci := 1) (v := .int (q_Mo_kind z)) (C := R_Mo) (T := F_Mo) (N := 26) hx hb hg i_Mo hown hK hP 0 rfl rfl 23 (by decide) (hg _ g_1015) (fun _ h9 => h9) rfl d_Mo_liftsActs_26 ?_
    refine lv_iconst (v := 5) hx hb d_Mo_liftsActs_29 (by decide) ?_
    refine lv_icmp_ne (tgt := 50) hx hb d_Mo_liftsActs_30 (by decide) (fun h_4 => ?_) (fun h_4 => ?_)
    · have hd := ite_f hd h_4
      refine lv_aload_n hx hb d_Mo_liftsActs_50 rfl (lv_at hl 0 rfl) ?_
      refine lv_iload_n hx hb d_Mo_liftsActs_51 rfl (lv_at hl 1 rfl) ?_
      obtain ⟨v_5, e_6, hd⟩ := bind_s hd
      refine callVI (ws' := ws_Mo g a v_5.2) (rest := []) (As := [.int x1]) hx hb hml hown hg hK hP hD hS hA hCs hl.1 (c_Mo_plainLifts l D g a x1 z _ e_6) o_Mo_plainLifts g_1358 (ci := 1) (q0 := 0) rfl rfl (List.range' 0 12) (segC1 rfl rfl) (by decide) rfl (segP1 rfl rfl) rfl rfl (Nat.le_of_ble_eq_true rfl) ⟨rfl, rfl, Nat.le_of_ble_eq_true rfl, Nat.le_of_ble_eq_true rfl⟩ d_Mo_liftsActs_52 (fun H locs hP hD hS => ?_)
      obtain rfl := Option.some.inj hd
      exact retI hx hb hr hlk hK hP hD hS d_Mo_liftsActs_55 rfl
    · have hd := ite_t hd h_4
      refine lv_aload_n hx hb d_Mo_liftsActs_33 rfl (lv_at hl 0 rfl) ?_
      refine lv_bipush (v := 51) hx hb d_Mo_liftsActs_34 (by decide) ?_
      obtain ⟨v_7, e_8, hd⟩ := bind_s hd
      refine callVV (ws' := ws_Mo g a v_7) (rest := []) (As := [.int 51]) hx hb hml hown hg hK hP hD hS hA hCs hl.1 (c_Mo_ranBody l D g a 51 z _ e_8) o_Mo_ranBody g_1354 (ci := 1) (q0 := 0) rfl rfl (List.range' 0 12) (segC1 rfl rfl) (by decide) rfl (segP1 rfl rfl) rfl rfl (Nat.le_of_ble_eq_true rfl) ⟨rfl, rfl, Nat.le_of_ble_eq_true rfl, Nat.le_of_ble_eq_true rfl⟩ d_Mo_liftsActs_36 (fun H locs hP hD hS => ?_)
      refine lv_aload_n hx hb d_Mo_liftsActs_39 rfl (lv_at hl 0 rfl) ?_
      refine lv_iload_n hx hb d_Mo_liftsActs_40 rfl (lv_at hl 1 rfl) ?_
      obtain ⟨v_9, e_10, hd⟩ := bind_s hd
      refine callVI (ws' := ws_Mo g a v_9.2) (rest := []) (As := [.int x1]) hx hb hml hown hg hK hP hD hS hA hCs hl.1 (c_Mo_plainLifts l D g a x1 v_7 _ e_10) o_Mo_plainLifts g_1358 (ci := 1) (q0 := 0) rfl rfl (List.range' 0 12) (segC1 rfl rfl) (by decide) rfl (segP1 rfl rfl) rfl rfl (Nat.le_of_ble_eq_true rfl) ⟨rfl, rfl, Nat.le_of_ble_eq_true rfl, Nat.le_of_ble_eq_true rfl⟩ d_Mo_liftsActs_41 (fun H locs hP hD hS => ?_)
      refine lv_aload_n hx hb d_Mo_liftsActs_44 rfl (lv_at hl 0 rfl) ?_
      refine va_get (D := D) (ci := 1) (v := .int (q_Mo_number v_9.2)) (C := R_Mo) (T := F_Mo) (N := 26) hx hb hg i_Mo hown hK hP 0 rfl rfl 24 (by decide) (hg _ g_1016) (fun _ h9 => h9) rfl d_Mo_liftsActs_45 ?_
      refine lv_ixor hx hb d_Mo_liftsActs_48 ?_
      obtain rfl := Option.some.inj hd
      exact retI hx hb hr hlk hK hP hD hS d_Mo_liftsActs_49 rfl
  · have hd := ite_f hd h_3
    refine lv_aload_n hx hb d_Mo_liftsActs_11 rfl (lv_at hl 0 rfl) ?_
    refine lv_bipush (v := 11) hx hb d_Mo_liftsActs_12 (by decide) ?_
    obtain ⟨v_11, e_12, hd⟩ := bind_s hd
    refine callVV (ws' := ws_Mo g a v_11) (rest := []) (As := [.int 11]) hx hb hml hown hg hK hP hD hS hA hCs hl.1 (c_Mo_ranBody l D g a 11 z _ e_12) o_Mo_ranBody g_1354 (ci := 1) (q0 := 0) rfl rfl (List.range' 0 12) (segC1 rfl rfl) (by decide) rfl (segP1 rfl rfl) rfl rfl (Nat.le_of_ble_eq_true rfl) ⟨rfl, rfl, Nat.le_of_ble_eq_true rfl, Nat.le_of_ble_eq_true rfl⟩ d_Mo_liftsActs_14 (fun H locs hP hD hS => ?_)
    refine lv_aload_n hx hb d_Mo_liftsActs_17 rfl (lv_at hl 0 rfl) ?_
    refine lv_iload_n hx hb d_Mo_liftsActs_18 rfl (lv_at hl 1 rfl) ?_
    refine lv_iconst (v := 3) hx hb d_Mo_liftsActs_19 (by decide) ?_
    refine lv_imul hx hb d_Mo_liftsActs_20 ?_
    obtain ⟨v_13, e_14, hd⟩ := bind_s hd
    refine callVI (ws' := ws_Mo g a v_13.2) (rest := []) (As := [.int (x1 * 3)]) hx hb hml hown hg hK hP hD hS hA hCs hl.1 (c_Mo_plainLifts l D g a (x1 * 3) v_11 _ e_14) o_Mo_plainLifts g_1358 (ci := 1) (q0 := 0) rfl rfl (List.range' 0 12) (segC1 rfl rfl) (by decide) rfl (segP1 rfl rfl) rfl rfl (Nat.le_of_ble_eq_true rfl) ⟨rfl, rfl, Nat.le_of_ble_eq_true rfl, Nat.le_of_ble_eq_true rfl⟩ d_Mo_liftsActs_21 (fun H locs hP hD hS => ?_)
    obtain rfl := Option.some.inj hd
    exact retI hx hb hr hlk hK hP hD hS d_Mo_liftsActs_24 rfl
-- OwnsLiftModel.plainDrops(I)I
def d_Mo_plainDrops (x1 : Int32) (z : T_Mo) : Option (Int32 × T_Mo) :=
  (d_Mo_ranBody 2 z).bind fun v_1 => (d_Mo_liftsActs x1 v_1).bind fun v_3 => some (v_3.1 - (q_Mo_tellsV v_3.2), v_3.2)
theorem d_Mo_plainDrops_0 : decode b_Mo_plainDrops 0 = .ok (.aload_n 0, 1) := by decide +kernel
theorem d_Mo_plainDrops_1 : decode b_Mo_plainDrops 1 = .ok (.iconst 2, 1) := by decide +kernel
theorem d_Mo_plainDrops_2 : decode b_Mo_plainDrops 2 = .ok (.invokevirtual 240, 3) := by decide +kernel
theorem d_Mo_plainDrops_5 : decode b_Mo_plainDrops 5 = .ok (.aload_n 0, 1) := by decide +kernel
theorem d_Mo_plainDrops_6 : decode b_Mo_plainDrops 6 = .ok (.iload_n 1, 1) := by decide +kernel
theorem d_Mo_plainDrops_7 : decode b_Mo_plainDrops 7 = .ok (.invokevirtual 255, 3) := by decide +kernel
theorem d_Mo_plainDrops_10 : decode b_Mo_plainDrops 10 = .ok (.aload_n 0, 1) := by decide +kernel
theorem d_Mo_plainDrops_11 : decode b_Mo_plainDrops 11 = .ok (.getfield 258, 3) := by decide +kernel
theorem d_Mo_plainDrops_14 : decode b_Mo_plainDrops 14 = .ok (.isub, 1) := by decide +kernel
theorem d_Mo_plainDrops_15 : decode b_Mo_plainDrops 15 = .ok (.ireturn, 1) := by decide +kernel
theorem o_Mo_plainDrops : OkV y_Mo_plainDrops "OwnsLiftModel" b_Mo_plainDrops 2 (some .int) 1 := ⟨⟨rfl, by decide +kernel, by decide +kernel, by decide +kernel⟩, g_1368, g_67, g_81, g_1369⟩
set_option maxHeartbeats 4000000 in
set_option maxRecDepth 100000 in
theorem c_Mo_plainDrops (l : Launch) (D : va_G) (g : Nat → ClassId) (a : Nat → Nat) (x1 : Int32) (z : T_Mo) (v : Int32 × T_Mo) (h : d_Mo_plainDrops x1 z = some v) :
    MI l y_Mo_plainDrops b_Mo_plainDrops 2 .int ({ frames := 3, cells := 0, slots := 0, locals := 63 } : Room) D g [.ref (a 0), .int x1] (ws_Mo g a z) (v.1) (ws_Mo g a v.2) := by
  have hd := h
  unfold d_Mo_plainDrops at hd
  refine enterI rfl (Nat.le_of_ble_eq_true rfl) (fun p e s m below meth c A ls hx hb hml hr hown hg hlk hK hA hP hD hS hCs hl => ?_)
  have hown : s.vm.findClass "OwnsLiftModel" = some m.cls := hown
  have hl : lv_has ls 2 [(0, .ref (a 0)), (1, .int x1)] := hl
  show GI p l e s m ({ frames := 3, cells := 0, slots := 0, locals := 63 } : Room) ([.ref (a 0), .int x1] : List Value).toArray below meth c A D g (ws_Mo g a v.2) (v.1) s.heap [] (F0 m 0 ls [])
  refine lv_aload_n hx hb d_Mo_plainDrops_0 rfl (lv_at hl 0 rfl) ?_
  refine lv_iconst (v := 2) hx hb d_Mo_plainDrops_1 (by decide) ?_
  obtain ⟨v_1, e_2, hd⟩ := bind_s hd
  refine callVV (ws' := ws_Mo g a v_1) (rest := []) (As := [.int 2]) hx hb hml hown hg hK hP hD hS hA hCs hl.1 (c_Mo_ranBody l D g a 2 z _ e_2) o_Mo_ranBody g_1354 (ci := 1) (q0 := 0) rfl rfl (List.range' 0 12) (segC1 rfl rfl) (by decide) rfl (segP1 rfl rfl) rfl rfl (Nat.le_of_ble_eq_true rfl) ⟨rfl, rfl, Nat.le_of_ble_eq_true rfl, Nat.le_of_ble_eq_true rfl⟩ d_Mo_plainDrops_2 (fun H locs hP hD hS => ?_)
  refine lv_aload_n hx hb d_Mo_plainDrops_5 rfl (lv_at hl 0 rfl) ?_
  refine lv_iload_n hx hb d_Mo_plainDrops_6 rfl (lv_at hl 1 rfl) ?_
  obtain ⟨v_3, e_4, hd⟩ := bind_s hd
  refine callVI (ws' := ws_Mo g a v_3.2) (rest := []) (As := [.int x1]) hx hb hml hown hg hK hP hD hS hA hCs hl.1 (c_Mo_liftsActs l D g a x1 v_1 _ e_4) o_Mo_liftsActs g_1347 (ci := 1) (q0 := 0) rfl rfl (List.range' 0 12) (segC1 rfl rfl) (by decide) rfl (segP1 rfl rfl) rfl rfl (Nat.le_of_ble_eq_true rfl) ⟨rfl, rfl, Nat.le_of_ble_eq_true rfl, Nat.le_of_ble_eq_true rfl⟩ d_Mo_plainDrops_7 (fun H locs hP hD hS => ?_)
  refine lv_aload_n hx hb d_Mo_plainDrops_10 rfl (lv_at hl 0 rfl) ?_
  refine va_get (D := D) (ci := 1) (v := .int (q_Mo_tellsV v_3.2)) (C := R_Mo) (T := F_Mo) (N := 26) hx hb hg i_Mo hown hK hP 0 rfl rfl 25 (by decide) (hg _ g_1017) (fun _ h9 => h9) rfl d_Mo_plainDrops_11 ?_
  refine lv_isub hx hb d_Mo_plainDrops_14 ?_
  obtain rfl := Option.some.inj hd
  exact retI hx hb hr hlk hK hP hD hS d_Mo_plainDrops_15 rfl
-- OwnsLiftModel.dropsActs(I)I
def d_Mo_dropsActs (x1 : Int32) (z : T_Mo) : Option (Int32 × T_Mo) :=
  (d_Mo_isUnder (q_Mo_kind z) 2).bind fun v_1 => if v_1 = 0 then (if (q_Mo_kind z) = 6 then ((d_Mo_ranBody 61 z).bind fun v_7 => (d_Mo_plainDrops x1 v_7).bind fun v_9 => some (v_9.1 + (q_Mo_tellsV v_9.2), v_9.2)) else ((d_Mo_plainDrops x1 z).bind fun v_5 => some (v_5.1, v_5.2))) else ((d_Mo_ranBody 21 z).bind fun v_11 => (d_Mo_plainDrops x1 v_11).bind fun v_13 => some (-v_13.1, v_13.2))
theorem d_Mo_dropsActs_0 : decode b_Mo_dropsActs 0 = .ok (.aload_n 0, 1) := by decide +kernel
theorem d_Mo_dropsActs_1 : decode b_Mo_dropsActs 1 = .ok (.getfield 246, 3) := by decide +kernel
theorem d_Mo_dropsActs_4 : decode b_Mo_dropsActs 4 = .ok (.iconst 2, 1) := by decide +kernel
theorem d_Mo_dropsActs_5 : decode b_Mo_dropsActs 5 = .ok (.invokestatic 249, 3) := by decide +kernel
theorem d_Mo_dropsActs_8 : decode b_Mo_dropsActs 8 = .ok (.ifCond .eq 16, 3) := by decide +kernel
theorem d_Mo_dropsActs_11 : decode b_Mo_dropsActs 11 = .ok (.aload_n 0, 1) := by decide +kernel
theorem d_Mo_dropsActs_12 : decode b_Mo_dropsActs 12 = .ok (.bipush 21, 2) := by decide +kernel
theorem d_Mo_dropsActs_14 : decode b_Mo_dropsActs 14 = .ok (.invokevirtual 240, 3) := by decide +kernel
theorem d_Mo_dropsActs_17 : decode b_Mo_dropsActs 17 = .ok (.aload_n 0, 1) := by decide +kernel
theorem d_Mo_dropsActs_18 : decode b_Mo_dropsActs 18 = .ok (.iload_n 1, 1) := by decide +kernel
theorem d_Mo_dropsActs_19 : decode b_Mo_dropsActs 19 = .ok (.invokevirtual 261, 3) := by decide +kernel
theorem d_Mo_dropsActs_22 : decode b_Mo_dropsActs 22 = .ok (.ineg, 1) := by decide +kernel
theorem d_Mo_dropsActs_23 : decode b_Mo_dropsActs 23 = .ok (.ireturn, 1) := by decide +kernel
theorem d_Mo_dropsActs_24 : decode b_Mo_dropsActs 24 = .ok (.aload_n 0, 1) := by decide +kernel
theorem d_Mo_dropsActs_25 : decode b_Mo_dropsActs 25 = .ok (.getfield 246, 3) := by decide +kernel
theorem d_Mo_dropsActs_28 : decode b_Mo_dropsActs 28 = .ok (.bipush 6, 2) := by decide +kernel
theorem d_Mo_dropsActs_30 : decode b_Mo_dropsActs 30 = .ok (.if_icmp .ne 20, 3) := by decide +kernel
theorem d_Mo_dropsActs_33 : decode b_Mo_dropsActs 33 = .ok (.aload_n 0, 1) := by decide +kernel
theorem d_Mo_dropsActs_34 : decode b_Mo_dropsActs 34 = .ok (.bipush 61, 2) := by decide +kernel
theorem d_Mo_dropsActs_36 : decode b_Mo_dropsActs 36 = .ok (.invokevirtual 240, 3) := by decide +kernel
theorem d_Mo_dropsActs_39 : decode b_Mo_dropsActs 39 = .ok (.aload_n 0, 1) := by decide +kernel
theorem d_Mo_dropsActs_40 : decode b_Mo_dropsActs 40 = .ok (.iload_n 1, 1) := by decide +kernel
theorem d_Mo_dropsActs_41 : decode b_Mo_dropsActs 41 = .ok (.invokevirtual 261, 3) := by decide +kernel
theorem d_Mo_dropsActs_44 : decode b_Mo_dropsActs 44 = .ok (.aload_n 0, 1) := by decide +kernel
theorem d_Mo_dropsActs_45 : decode b_Mo_dropsActs 45 = .ok (.getfield 258, 3) := by decide +kernel
theorem d_Mo_dropsActs_48 : decode b_Mo_dropsActs 48 = .ok (.iadd, 1) := by decide +kernel
theorem d_Mo_dropsActs_49 : decode b_Mo_dropsActs 49 = .ok (.ireturn, 1) := by decide +kernel
theorem d_Mo_dropsActs_50 : decode b_Mo_dropsActs 50 = .ok (.aload_n 0, 1) := by decide +kernel
theorem d_Mo_dropsActs_51 : decode b_Mo_dropsActs 51 = .ok (.iload_n 1, 1) := by decide +kernel
theorem d_Mo_dropsActs_52 : decode b_Mo_dropsActs 52 = .ok (.invokevirtual 261, 3) := by decide +kernel
theorem d_Mo_dropsActs_55 : decode b_Mo_dropsActs 55 = .ok (.ireturn, 1) := by decide +kernel
theorem o_Mo_dropsActs : OkV y_Mo_dropsActs "OwnsLiftModel" b_Mo_dropsActs 2 (some .int) 1 := ⟨⟨rfl, by decide +kernel, by decide +kernel, by decide +kernel⟩, g_1364, g_66, g_81, g_1365⟩
set_option maxHeartbeats 4000000 in
set_option maxRecDepth 100000 in
theorem c_Mo_dropsActs (l : Launch) (D : va_G) (g : Nat → ClassId) (a : Nat → Nat) (x1 : Int32) (z : T_Mo) (v : Int32 × T_Mo) (h : d_Mo_dropsActs x1 z = some v) :
    MI l y_Mo_dropsActs b_Mo_dropsActs 2 .int ({ frames := 4, cells := 0, slots := 0, locals := 84 } : Room) D g [.ref (a 0), .int x1] (ws_Mo g a z) (v.1) (ws_Mo g a v.2) := by
  have hd := h
  unfold d_Mo_dropsActs at hd
  refine enterI rfl (Nat.le_of_ble_eq_true rfl) (fun p e s m below meth c A ls hx hb hml hr hown hg hlk hK hA hP hD hS hCs hl => ?_)
  have hown : s.vm.findClass "OwnsLiftModel" = some m.cls := hown
  have hl : lv_has ls 2 [(0, .ref (a 0)), (1, .int x1)] := hl
  show GI p l e s m ({ frames := 4, cells := 0, slots := 0, locals := 84 } : Room) ([.ref (a 0), .int x1] : List Value).toArray below meth c A D g (ws_Mo g a v.2) (v.1) s.heap [] (F0 m 0 ls [])
  refine lv_aload_n hx hb d_Mo_dropsActs_0 rfl (lv_at hl 0 rfl) ?_
  refine va_get (D := D) (ci := 1) (v := .int (q_Mo_kind z)) (C := R_Mo) (T := F_Mo) (N := 26) hx hb hg i_Mo hown hK hP 0 rfl rfl 23 (by decide) (hg _ g_1015) (fun _ h9 => h9) rfl d_Mo_dropsActs_1 ?_
  refine lv_iconst (v := 2) hx hb d_Mo_dropsActs_4 (by decide) ?_
  obtain ⟨v_1, e_2, hd⟩ := bind_s hd
  refine callSI (ws' := ws_Mo g a z) (rest := []) (As := [.int (q_Mo_kind z), .int 2]) hx hb hml hown hg hK hP hD hS hA hCs hl.1 (c_Mo_isUnder l D g  (q_Mo_kind z) 2 _ e_2) o_Mo_isUnder g_1351 [] segC0 rfl rfl segP0 rfl rfl (Nat.le_of_ble_eq_true rfl) ⟨rfl, rfl, Nat.le_of_ble_eq_true rfl, Nat.le_of_ble_eq_true rfl⟩ d_Mo_dropsActs_5 (fun H locs hP hD hS => ?_)
  refine lv_if_eq (tgt := 24) hx hb d_Mo_dropsActs_8 (by decide) (fun h_3 => ?_) (fun h_3 => ?_)
  · have hd := ite_t hd h_3
    refine lv_aload_n hx hb d_Mo_dropsActs_24 rfl (lv_at hl 0 rfl) ?_
    refine va_get (D := D) (ci := 1) (v := .int (q_Mo_kind z)) (C := R_Mo) (T := F_Mo) (N := 26) hx hb hg i_Mo hown hK hP 0 rfl rfl 23 (by decide) (hg _ g_1015) (fun _ h9 => h9) rfl d_Mo_dropsActs_25 ?_
    refine lv_bipush (v := 6) hx hb d_Mo_dropsActs_28 (by decide) ?_
    refine lv_icmp_ne (tgt := 50) hx hb d_Mo_dropsActs_30 (by decide) (fun h_4 => ?_) (fun h_4 => ?_)
    · have hd := ite_f hd h_4
      refine lv_aload_n hx hb d_Mo_dropsActs_50 rfl (lv_at hl 0 rfl) ?_
      refine lv_iload_n hx hb d_Mo_dropsActs_51 rfl (lv_at hl 1 rfl) ?_
      obtain ⟨v_5, e_6, hd⟩ := bind_s hd
      refine callVI (ws' := ws_Mo g a v_5.2) (rest := []) (As := [.int x1]) hx hb hml hown hg hK hP hD hS hA hCs hl.1 (c_Mo_plainDrops l D g a x1 z _ e_6) o_Mo_plainDrops g_1366 (ci := 1) (q0 := 0) rfl rfl (List.range' 0 12) (segC1 rfl rfl) (by decide) rfl (segP1 rfl rfl) rfl rfl (Nat.le_of_ble_eq_true rfl) ⟨rfl, rfl, Nat.le_of_ble_eq_true rfl, Nat.le_of_ble_eq_true rfl⟩ d_Mo_dropsActs_52 (fun H locs hP hD hS => ?_)
      obtain rfl := Option.some.inj hd
      exact retI hx hb hr hlk hK hP hD hS d_Mo_dropsActs_55 rfl
    · have hd := ite_t hd h_4
      refine lv_aload_n hx hb d_Mo_dropsActs_33 rfl (lv_at hl 0 rfl) ?_
      refine lv_bipush (v := 61) hx hb d_Mo_dropsActs_34 (by decide) ?_
      obtain ⟨v_7, e_8, hd⟩ := bind_s hd
      refine callVV (ws' := ws_Mo g a v_7) (rest := []) (As := [.int 61]) hx hb hml hown hg hK hP hD hS hA hCs hl.1 (c_Mo_ranBody l D g a 61 z _ e_8) o_Mo_ranBody g_1354 (ci := 1) (q0 := 0) rfl rfl (List.range' 0 12) (segC1 rfl rfl) (by decide) rfl (segP1 rfl rfl) rfl rfl (Nat.le_of_ble_eq_true rfl) ⟨rfl, rfl, Nat.le_of_ble_eq_true rfl, Nat.le_of_ble_eq_true rfl⟩ d_Mo_dropsActs_36 (fun H locs hP hD hS => ?_)
      refine lv_aload_n hx hb d_Mo_dropsActs_39 rfl (lv_at hl 0 rfl) ?_
      refine lv_iload_n hx hb d_Mo_dropsActs_40 rfl (lv_at hl 1 rfl) ?_
      obtain ⟨v_9, e_10, hd⟩ := bind_s hd
      refine callVI (ws' := ws_Mo g a v_9.2) (rest := []) (As := [.int x1]) hx hb hml hown hg hK hP hD hS hA hCs hl.1 (c_Mo_plainDrops l D g a x1 v_7 _ e_10) o_Mo_plainDrops g_1366 (ci := 1) (q0 := 0) rfl rfl (List.range' 0 12) (segC1 rfl rfl) (by decide) rfl (segP1 rfl rfl) rfl rfl (Nat.le_of_ble_eq_true rfl) ⟨rfl, rfl, Nat.le_of_ble_eq_true rfl, Nat.le_of_ble_eq_true rfl⟩ d_Mo_dropsActs_41 (fun H locs hP hD hS => ?_)
      refine lv_aload_n hx hb d_Mo_dropsActs_44 rfl (lv_at hl 0 rfl) ?_
      refine va_get (D := D) (ci := 1) (v := .int (q_Mo_tellsV v_9.2)) (C := R_Mo) (T := F_Mo) (N := 26) hx hb hg i_Mo hown hK hP 0 rfl rfl 25 (by decide) (hg _ g_1017) (fun _ h9 => h9) rfl d_Mo_dropsActs_45 ?_
      refine lv_iadd hx hb d_Mo_dropsActs_48 ?_
      obtain rfl := Option.some.inj hd
      exact retI hx hb hr hlk hK hP hD hS d_Mo_dropsActs_49 rfl
  · have hd := ite_f hd h_3
    refine lv_aload_n hx hb d_Mo_dropsActs_11 rfl (lv_at hl 0 rfl) ?_
    refine lv_bipush (v := 21) hx hb d_Mo_dropsActs_12 (by decide) ?_
    obtain ⟨v_11, e_12, hd⟩ := bind_s hd
    refine callVV (ws' := ws_Mo g a v_11) (rest := []) (As := [.int 21]) hx hb hml hown hg hK hP hD hS hA hCs hl.1 (c_Mo_ranBody l D g a 21 z _ e_12) o_Mo_ranBody g_1354 (ci := 1) (q0 := 0) rfl rfl (List.range' 0 12) (segC1 rfl rfl) (by decide) rfl (segP1 rfl rfl) rfl rfl (Nat.le_of_ble_eq_true rfl) ⟨rfl, rfl, Nat.le_of_ble_eq_true rfl, Nat.le_of_ble_eq_true rfl⟩ d_Mo_dropsActs_14 (fun H locs hP hD hS => ?_)
    refine lv_aload_n hx hb d_Mo_dropsActs_17 rfl (lv_at hl 0 rfl) ?_
    refine lv_iload_n hx hb d_Mo_dropsActs_18 rfl (lv_at hl 1 rfl) ?_
    obtain ⟨v_13, e_14, hd⟩ := bind_s hd
    refine callVI (ws' := ws_Mo g a v_13.2) (rest := []) (As := [.int x1]) hx hb hml hown hg hK hP hD hS hA hCs hl.1 (c_Mo_plainDrops l D g a x1 v_11 _ e_14) o_Mo_plainDrops g_1366 (ci := 1) (q0 := 0) rfl rfl (List.range' 0 12) (segC1 rfl rfl) (by decide) rfl (segP1 rfl rfl) rfl rfl (Nat.le_of_ble_eq_true rfl) ⟨rfl, rfl, Nat.le_of_ble_eq_true rfl, Nat.le_of_ble_eq_true rfl⟩ d_Mo_dropsActs_19 (fun H locs hP hD hS => ?_)
    refine lv_ineg hx hb d_Mo_dropsActs_22 ?_
    obtain rfl := Option.some.inj hd
    exact retI hx hb hr hlk hK hP hD hS d_Mo_dropsActs_23 rfl
-- OwnsLiftModel.plainTells(I)I
def d_Mo_plainTells (x1 : Int32) (z : T_Mo) : Option (Int32 × T_Mo) :=
  (d_Mo_ranBody 3 z).bind fun v_1 => (d_Mo_dropsActs x1 v_1).bind fun v_3 => some (v_3.1 * 2, v_3.2)
theorem d_Mo_plainTells_0 : decode b_Mo_plainTells 0 = .ok (.aload_n 0, 1) := by decide +kernel
theorem d_Mo_plainTells_1 : decode b_Mo_plainTells 1 = .ok (.iconst 3, 1) := by decide +kernel
theorem d_Mo_plainTells_2 : decode b_Mo_plainTells 2 = .ok (.invokevirtual 240, 3) := by decide +kernel
theorem d_Mo_plainTells_5 : decode b_Mo_plainTells 5 = .ok (.aload_n 0, 1) := by decide +kernel
theorem d_Mo_plainTells_6 : decode b_Mo_plainTells 6 = .ok (.iload_n 1, 1) := by decide +kernel
theorem d_Mo_plainTells_7 : decode b_Mo_plainTells 7 = .ok (.invokevirtual 264, 3) := by decide +kernel
theorem d_Mo_plainTells_10 : decode b_Mo_plainTells 10 = .ok (.iconst 2, 1) := by decide +kernel
theorem d_Mo_plainTells_11 : decode b_Mo_plainTells 11 = .ok (.imul, 1) := by decide +kernel
theorem d_Mo_plainTells_12 : decode b_Mo_plainTells 12 = .ok (.ireturn, 1) := by decide +kernel
theorem o_Mo_plainTells : OkV y_Mo_plainTells "OwnsLiftModel" b_Mo_plainTells 2 (some .int) 1 := ⟨⟨rfl, by decide +kernel, by decide +kernel, by decide +kernel⟩, g_1376, g_69, g_81, g_1377⟩
set_option maxHeartbeats 4000000 in
set_option maxRecDepth 100000 in
theorem c_Mo_plainTells (l : Launch) (D : va_G) (g : Nat → ClassId) (a : Nat → Nat) (x1 : Int32) (z : T_Mo) (v : Int32 × T_Mo) (h : d_Mo_plainTells x1 z = some v) :
    MI l y_Mo_plainTells b_Mo_plainTells 2 .int ({ frames := 5, cells := 0, slots := 0, locals := 105 } : Room) D g [.ref (a 0), .int x1] (ws_Mo g a z) (v.1) (ws_Mo g a v.2) := by
  have hd := h
  unfold d_Mo_plainTells at hd
  refine enterI rfl (Nat.le_of_ble_eq_true rfl) (fun p e s m below meth c A ls hx hb hml hr hown hg hlk hK hA hP hD hS hCs hl => ?_)
  have hown : s.vm.findClass "OwnsLiftModel" = some m.cls := hown
  have hl : lv_has ls 2 [(0, .ref (a 0)), (1, .int x1)] := hl
  show GI p l e s m ({ frames := 5, cells := 0, slots := 0, locals := 105 } : Room) ([.ref (a 0), .int x1] : List Value).toArray below meth c A D g (ws_Mo g a v.2) (v.1) s.heap [] (F0 m 0 ls [])
  refine lv_aload_n hx hb d_Mo_plainTells_0 rfl (lv_at hl 0 rfl) ?_
  refine lv_iconst (v := 3) hx hb d_Mo_plainTells_1 (by decide) ?_
  obtain ⟨v_1, e_2, hd⟩ := bind_s hd
  refine callVV (ws' := ws_Mo g a v_1) (rest := []) (As := [.int 3]) hx hb hml hown hg hK hP hD hS hA hCs hl.1 (c_Mo_ranBody l D g a 3 z _ e_2) o_Mo_ranBody g_1354 (ci := 1) (q0 := 0) rfl rfl (List.range' 0 12) (segC1 rfl rfl) (by decide) rfl (segP1 rfl rfl) rfl rfl (Nat.le_of_ble_eq_true rfl) ⟨rfl, rfl, Nat.le_of_ble_eq_true rfl, Nat.le_of_ble_eq_true rfl⟩ d_Mo_plainTells_2 (fun H locs hP hD hS => ?_)
  refine lv_aload_n hx hb d_Mo_plainTells_5 rfl (lv_at hl 0 rfl) ?_
  refine lv_iload_n hx hb d_Mo_plainTells_6 rfl (lv_at hl 1 rfl) ?_
  obtain ⟨v_3, e_4, hd⟩ := bind_s hd
  refine callVI (ws' := ws_Mo g a v_3.2) (rest := []) (As := [.int x1]) hx hb hml hown hg hK hP hD hS hA hCs hl.1 (c_Mo_dropsActs l D g a x1 v_1 _ e_4) o_Mo_dropsActs g_1362 (ci := 1) (q0 := 0) rfl rfl (List.range' 0 12) (segC1 rfl rfl) (by decide) rfl (segP1 rfl rfl) rfl rfl (Nat.le_of_ble_eq_true rfl) ⟨rfl, rfl, Nat.le_of_ble_eq_true rfl, Nat.le_of_ble_eq_true rfl⟩ d_Mo_plainTells_7 (fun H locs hP hD hS => ?_)
  refine lv_iconst (v := 2) hx hb d_Mo_plainTells_10 (by decide) ?_
  refine lv_imul hx hb d_Mo_plainTells_11 ?_
  obtain rfl := Option.some.inj hd
  exact retI hx hb hr hlk hK hP hD hS d_Mo_plainTells_12 rfl
-- OwnsLiftModel.tellsActs(I)I
def d_Mo_tellsActs (x1 : Int32) (z : T_Mo) : Option (Int32 × T_Mo) :=
  (d_Mo_isUnder (q_Mo_kind z) 3).bind fun v_1 => if v_1 = 0 then (if (q_Mo_kind z) = 4 then ((d_Mo_ranBody 41 z).bind fun v_7 => (d_Mo_plainTells (x1 - 1) v_7).bind fun v_9 => (d_Mo_liftsActs 2 v_9.2).bind fun v_11 => some (v_9.1 + v_11.1, v_11.2)) else ((d_Mo_plainTells x1 z).bind fun v_5 => some (v_5.1, v_5.2))) else ((d_Mo_ranBody 31 z).bind fun v_13 => (d_Mo_plainTells x1 v_13).bind fun v_15 => some (v_15.1 ^^^ 7, v_15.2))
theorem d_Mo_tellsActs_0 : decode b_Mo_tellsActs 0 = .ok (.aload_n 0, 1) := by decide +kernel
theorem d_Mo_tellsActs_1 : decode b_Mo_tellsActs 1 = .ok (.getfield 246, 3) := by decide +kernel
theorem d_Mo_tellsActs_4 : decode b_Mo_tellsActs 4 = .ok (.iconst 3, 1) := by decide +kernel
theorem d_Mo_tellsActs_5 : decode b_Mo_tellsActs 5 = .ok (.invokestatic 249, 3) := by decide +kernel
theorem d_Mo_tellsActs_8 : decode b_Mo_tellsActs 8 = .ok (.ifCond .eq 18, 3) := by decide +kernel
theorem d_Mo_tellsActs_11 : decode b_Mo_tellsActs 11 = .ok (.aload_n 0, 1) := by decide +kernel
theorem d_Mo_tellsActs_12 : decode b_Mo_tellsActs 12 = .ok (.bipush 31, 2) := by decide +kernel
theorem d_Mo_tellsActs_14 : decode b_Mo_tellsActs 14 = .ok (.invokevirtual 240, 3) := by decide +kernel
theorem d_Mo_tellsActs_17 : decode b_Mo_tellsActs 17 = .ok (.aload_n 0, 1) := by decide +kernel
theorem d_Mo_tellsActs_18 : decode b_Mo_tellsActs 18 = .ok (.iload_n 1, 1) := by decide +kernel
theorem d_Mo_tellsActs_19 : decode b_Mo_tellsActs 19 = .ok (.invokevirtual 267, 3) := by decide +kernel
theorem d_Mo_tellsActs_22 : decode b_Mo_tellsActs 22 = .ok (.bipush 7, 2) := by decide +kernel
theorem d_Mo_tellsActs_24 : decode b_Mo_tellsActs 24 = .ok (.ixor, 1) := by decide +kernel
theorem d_Mo_tellsActs_25 : decode b_Mo_tellsActs 25 = .ok (.ireturn, 1) := by decide +kernel
theorem d_Mo_tellsActs_26 : decode b_Mo_tellsActs 26 = .ok (.aload_n 0, 1) := by decide +kernel
theorem d_Mo_tellsActs_27 : decode b_Mo_tellsActs 27 = .ok (.getfield 246, 3) := by decide +kernel
theorem d_Mo_tellsActs_30 : decode b_Mo_tellsActs 30 = .ok (.iconst 4, 1) := by decide +kernel
theorem d_Mo_tellsActs_31 : decode b_Mo_tellsActs 31 = .ok (.if_icmp .ne 25, 3) := by decide +kernel
theorem d_Mo_tellsActs_34 : decode b_Mo_tellsActs 34 = .ok (.aload_n 0, 1) := by decide +kernel
theorem d_Mo_tellsActs_35 : decode b_Mo_tellsActs 35 = .ok (.bipush 41, 2) := by decide +kernel
theorem d_Mo_tellsActs_37 : decode b_Mo_tellsActs 37 = .ok (.invokevirtual 240, 3) := by decide +kernel
theorem d_Mo_tellsActs_40 : decode b_Mo_tellsActs 40 = .ok (.aload_n 0, 1) := by decide +kernel
theorem d_Mo_tellsActs_41 : decode b_Mo_tellsActs 41 = .ok (.iload_n 1, 1) := by decide +kernel
theorem d_Mo_tellsActs_42 : decode b_Mo_tellsActs 42 = .ok (.iconst 1, 1) := by decide +kernel
theorem d_Mo_tellsActs_43 : decode b_Mo_tellsActs 43 = .ok (.isub, 1) := by decide +kernel
theorem d_Mo_tellsActs_44 : decode b_Mo_tellsActs 44 = .ok (.invokevirtual 267, 3) := by decide +kernel
theorem d_Mo_tellsActs_47 : decode b_Mo_tellsActs 47 = .ok (.istore_n 2, 1) := by decide +kernel
theorem d_Mo_tellsActs_48 : decode b_Mo_tellsActs 48 = .ok (.iload_n 2, 1) := by decide +kernel
theorem d_Mo_tellsActs_49 : decode b_Mo_tellsActs 49 = .ok (.aload_n 0, 1) := by decide +kernel
theorem d_Mo_tellsActs_50 : decode b_Mo_tellsActs 50 = .ok (.iconst 2, 1) := by decide +kernel
theorem d_Mo_tellsActs_51 : decode b_Mo_tellsActs 51 = .ok (.invokevirtual 255, 3) := by decide +kernel
theorem d_Mo_tellsActs_54 : decode b_Mo_tellsActs 54 = .ok (.iadd, 1) := by decide +kernel
theorem d_Mo_tellsActs_55 : decode b_Mo_tellsActs 55 = .ok (.ireturn, 1) := by decide +kernel
theorem d_Mo_tellsActs_56 : decode b_Mo_tellsActs 56 = .ok (.aload_n 0, 1) := by decide +kernel
theorem d_Mo_tellsActs_57 : decode b_Mo_tellsActs 57 = .ok (.iload_n 1, 1) := by decide +kernel
theorem d_Mo_tellsActs_58 : decode b_Mo_tellsActs 58 = .ok (.invokevirtual 267, 3) := by decide +kernel
theorem d_Mo_tellsActs_61 : decode b_Mo_tellsActs 61 = .ok (.ireturn, 1) := by decide +kernel
theorem o_Mo_tellsActs : OkV y_Mo_tellsActs "OwnsLiftModel" b_Mo_tellsActs 3 (some .int) 1 := ⟨⟨rfl, by decide +kernel, by decide +kernel, by decide +kernel⟩, g_1372, g_68, g_81, g_1373⟩
set_option maxHeartbeats 4000000 in
set_option maxRecDepth 100000 in
theorem c_Mo_tellsActs (l : Launch) (D : va_G) (g : Nat → ClassId) (a : Nat → Nat) (x1 : Int32) (z : T_Mo) (v : Int32 × T_Mo) (h : d_Mo_tellsActs x1 z = some v) :
    MI l y_Mo_tellsActs b_Mo_tellsActs 3 .int ({ frames := 6, cells := 0, slots := 0, locals := 126 } : Room) D g [.ref (a 0), .int x1] (ws_Mo g a z) (v.1) (ws_Mo g a v.2) := by
  have hd := h
  unfold d_Mo_tellsActs at hd
  refine enterI rfl (Nat.le_of_ble_eq_true rfl) (fun p e s m below meth c A ls hx hb hml hr hown hg hlk hK hA hP hD hS hCs hl => ?_)
  have hown : s.vm.findClass "OwnsLiftModel" = some m.cls := hown
  have hl : lv_has ls 3 [(0, .ref (a 0)), (1, .int x1)] := hl
  show GI p l e s m ({ frames := 6, cells := 0, slots := 0, locals := 126 } : Room) ([.ref (a 0), .int x1] : List Value).toArray below meth c A D g (ws_Mo g a v.2) (v.1) s.heap [] (F0 m 0 ls [])
  refine lv_aload_n hx hb d_Mo_tellsActs_0 rfl (lv_at hl 0 rfl) ?_
  refine va_get (D := D) (ci := 1) (v := .int (q_Mo_kind z)) (C := R_Mo) (T := F_Mo) (N := 26) hx hb hg i_Mo hown hK hP 0 rfl rfl 23 (by decide) (hg _ g_1015) (fun _ h9 => h9) rfl d_Mo_tellsActs_1 ?_
  refine lv_iconst (v := 3) hx hb d_Mo_tellsActs_4 (by decide) ?_
  obtain ⟨v_1, e_2, hd⟩ := bind_s hd
  refine callSI (ws' := ws_Mo g a z) (rest := []) (As := [.int (q_Mo_kind z), .int 3]) hx hb hml hown hg hK hP hD hS hA hCs hl.1 (c_Mo_isUnder l D g  (q_Mo_kind z) 3 _ e_2) o_Mo_isUnder g_1351 [] segC0 rfl rfl segP0 rfl rfl (Nat.le_of_ble_eq_true rfl) ⟨rfl, rfl, Nat.le_of_ble_eq_true rfl, Nat.le_of_ble_eq_true rfl⟩ d_Mo_tellsActs_5 (fun H locs hP hD hS => ?_)
  refine lv_if_eq (tgt := 26) hx hb d_Mo_tellsActs_8 (by decide) (fun h_3 => ?_) (fun h_3 => ?_)
  · have hd := ite_t hd h_3
    refine lv_aload_n hx hb d_Mo_tellsActs_26 rfl (lv_at hl 0 rfl) ?_
    refine va_get (D := D) (ci := 1) (v := .int (q_Mo_kind z)) (C := R_Mo) (T := F_Mo) (N := 26) hx hb hg i_Mo hown hK hP 0 rfl rfl 23 (by decide) (hg _ g_1015) (fun _ h9 => h9) rfl d_Mo_tellsActs_27 ?_
    refine lv_iconst (v := 4) hx hb d_Mo_tellsActs_30 (by decide) ?_
    refine lv_icmp_ne (tgt := 56) hx hb d_Mo_tellsActs_31 (by decide) (fun h_4 => ?_) (fun h_4 => ?_)
    · have hd := ite_f hd h_4
      refine lv_aload_n hx hb d_Mo_tellsActs_56 rfl (lv_at hl 0 rfl) ?_
      refine lv_iload_n hx hb d_Mo_tellsActs_57 rfl (lv_at hl 1 rfl) ?_
      obtain ⟨v_5, e_6, hd⟩ := bind_s hd
      refine callVI (ws' := ws_Mo g a v_5.2) (rest := []) (As := [.int x1]) hx hb hml hown hg hK hP hD hS hA hCs hl.1 (c_Mo_plainTells l D g a x1 z _ e_6) o_Mo_plainTells g_1374 (ci := 1) (q0 := 0) rfl rfl (List.range' 0 12) (segC1 rfl rfl) (by decide) rfl (segP1 rfl rfl) rfl rfl (Nat.le_of_ble_eq_true rfl) ⟨rfl, rfl, Nat.le_of_ble_eq_true rfl, Nat.le_of_ble_eq_true rfl⟩ d_Mo_tellsActs_58 (fun H locs hP hD hS => ?_)
      obtain rfl := Option.some.inj hd
      exact retI hx hb hr hlk hK hP hD hS d_Mo_tellsActs_61 rfl
    · have hd := ite_t hd h_4
      refine lv_aload_n hx hb d_Mo_tellsActs_34 rfl (lv_at hl 0 rfl) ?_
      refine lv_bipush (v := 41) hx hb d_Mo_tellsActs_35 (by decide) ?_
      obtain ⟨v_7, e_8, hd⟩ := bind_s hd
      refine callVV (ws' := ws_Mo g a v_7) (rest := []) (As := [.int 41]) hx hb hml hown hg hK hP hD hS hA hCs hl.1 (c_Mo_ranBody l D g a 41 z _ e_8) o_Mo_ranBody g_1354 (ci := 1) (q0 := 0) rfl rfl (List.range' 0 12) (segC1 rfl rfl) (by decide) rfl (segP1 rfl rfl) rfl rfl (Nat.le_of_ble_eq_true rfl) ⟨rfl, rfl, Nat.le_of_ble_eq_true rfl, Nat.le_of_ble_eq_true rfl⟩ d_Mo_tellsActs_37 (fun H locs hP hD hS => ?_)
      refine lv_aload_n hx hb d_Mo_tellsActs_40 rfl (lv_at hl 0 rfl) ?_
      refine lv_iload_n hx hb d_Mo_tellsActs_41 rfl (lv_at hl 1 rfl) ?_
      refine lv_iconst (v := 1) hx hb d_Mo_tellsActs_42 (by decide) ?_
      refine lv_isub hx hb d_Mo_tellsActs_43 ?_
      obtain ⟨v_9, e_10, hd⟩ := bind_s hd
      refine callVI (ws' := ws_Mo g a v_9.2) (rest := []) (As := [.int (x1 - 1)]) hx hb hml hown hg hK hP hD hS hA hCs hl.1 (c_Mo_plainTells l D g a (x1 - 1) v_7 _ e_10) o_Mo_plainTells g_1374 (ci := 1) (q0 := 0) rfl rfl (List.range' 0 12) (segC1 rfl rfl) (by decide) rfl (segP1 rfl rfl) rfl rfl (Nat.le_of_ble_eq_true rfl) ⟨rfl, rfl, Nat.le_of_ble_eq_true rfl, Nat.le_of_ble_eq_true rfl⟩ d_Mo_tellsActs_44 (fun H locs hP hD hS => ?_)
      refine lv_istore_n (lv' := [(2, .int v_9.1), (0, .ref (a 0)), (1, .int x1)]) hx hb d_Mo_tellsActs_47 rfl hl (by decide) rfl (fun ls hl => ?_)
      refine lv_iload_n hx hb d_Mo_tellsActs_48 rfl (lv_at hl 0 rfl) ?_
      refine lv_aload_n hx hb d_Mo_tellsActs_49 rfl (lv_at hl 1 rfl) ?_
      refine lv_iconst (v := 2) hx hb d_Mo_tellsActs_50 (by decide) ?_
      obtain ⟨v_11, e_12, hd⟩ := bind_s hd
      refine callVI (ws' := ws_Mo g a v_11.2) (rest := [.int v_9.1]) (As := [.int 2]) hx hb hml hown hg hK hP hD hS hA hCs hl.1 (c_Mo_liftsActs l D g a 2 v_9.2 _ e_12) o_Mo_liftsActs g_1347 (ci := 1) (q0 := 0) rfl rfl (List.range' 0 12) (segC1 rfl rfl) (by decide) rfl (segP1 rfl rfl) rfl rfl (Nat.le_of_ble_eq_true rfl) ⟨rfl, rfl, Nat.le_of_ble_eq_true rfl, Nat.le_of_ble_eq_true rfl⟩ d_Mo_tellsActs_51 (fun H locs hP hD hS => ?_)
      refine lv_iadd hx hb d_Mo_tellsActs_54 ?_
      obtain rfl := Option.some.inj hd
      exact retI hx hb hr hlk hK hP hD hS d_Mo_tellsActs_55 rfl
  · have hd := ite_f hd h_3
    refine lv_aload_n hx hb d_Mo_tellsActs_11 rfl (lv_at hl 0 rfl) ?_
    refine lv_bipush (v := 31) hx hb d_Mo_tellsActs_12 (by decide) ?_
    obtain ⟨v_13, e_14, hd⟩ := bind_s hd
    refine callVV (ws' := ws_Mo g a v_13) (rest := []) (As := [.int 31]) hx hb hml hown hg hK hP hD hS hA hCs hl.1 (c_Mo_ranBody l D g a 31 z _ e_14) o_Mo_ranBody g_1354 (ci := 1) (q0 := 0) rfl rfl (List.range' 0 12) (segC1 rfl rfl) (by decide) rfl (segP1 rfl rfl) rfl rfl (Nat.le_of_ble_eq_true rfl) ⟨rfl, rfl, Nat.le_of_ble_eq_true rfl, Nat.le_of_ble_eq_true rfl⟩ d_Mo_tellsActs_14 (fun H locs hP hD hS => ?_)
    refine lv_aload_n hx hb d_Mo_tellsActs_17 rfl (lv_at hl 0 rfl) ?_
    refine lv_iload_n hx hb d_Mo_tellsActs_18 rfl (lv_at hl 1 rfl) ?_
    obtain ⟨v_15, e_16, hd⟩ := bind_s hd
    refine callVI (ws' := ws_Mo g a v_15.2) (rest := []) (As := [.int x1]) hx hb hml hown hg hK hP hD hS hA hCs hl.1 (c_Mo_plainTells l D g a x1 v_13 _ e_16) o_Mo_plainTells g_1374 (ci := 1) (q0 := 0) rfl rfl (List.range' 0 12) (segC1 rfl rfl) (by decide) rfl (segP1 rfl rfl) rfl rfl (Nat.le_of_ble_eq_true rfl) ⟨rfl, rfl, Nat.le_of_ble_eq_true rfl, Nat.le_of_ble_eq_true rfl⟩ d_Mo_tellsActs_19 (fun H locs hP hD hS => ?_)
    refine lv_bipush (v := 7) hx hb d_Mo_tellsActs_22 (by decide) ?_
    refine lv_ixor hx hb d_Mo_tellsActs_24 ?_
    obtain rfl := Option.some.inj hd
    exact retI hx hb hr hlk hK hP hD hS d_Mo_tellsActs_25 rfl
-- OwnsLiftModel.act(III)I
def d_Mo_act (x1 : Int32) (x2 : Int32) (x3 : Int32) (z : T_Mo) : Option (Int32 × T_Mo) :=
  (d_Mo_isPerson x1 (u_Mo_ran z 0)).bind fun v_1 => if v_1 = 0 then (some (0, (u_Mo_ran z 0))) else ((d_Mo_in x2 0 2).bind fun v_4 => if v_4 = 0 then (some (0, (u_Mo_ran z 0))) else (if inb (10 + x1) 901 = true then (if inb (14 + x1) 901 = true then (if x2 = 0 then ((d_Mo_liftsActs x3 (u_Mo_tellsV (u_Mo_number (u_Mo_kind (u_Mo_ran z 0) ((q_Mo_s (u_Mo_ran z 0)) (10 + x1).toNatClampNeg)) x1) ((q_Mo_s (u_Mo_number (u_Mo_kind (u_Mo_ran z 0) ((q_Mo_s (u_Mo_ran z 0)) (10 + x1).toNatClampNeg)) x1)) (14 + x1).toNatClampNeg))).bind fun v_13 => some (v_13.1, v_13.2)) else (if x2 = 1 then ((d_Mo_dropsActs x3 (u_Mo_tellsV (u_Mo_number (u_Mo_kind (u_Mo_ran z 0) ((q_Mo_s (u_Mo_ran z 0)) (10 + x1).toNatClampNeg)) x1) ((q_Mo_s (u_Mo_number (u_Mo_kind (u_Mo_ran z 0) ((q_Mo_s (u_Mo_ran z 0)) (10 + x1).toNatClampNeg)) x1)) (14 + x1).toNatClampNeg))).bind fun v_11 => some (v_11.1, v_11.2)) else ((d_Mo_tellsActs x3 (u_Mo_tellsV (u_Mo_number (u_Mo_kind (u_Mo_ran z 0) ((q_Mo_s (u_Mo_ran z 0)) (10 + x1).toNatClampNeg)) x1) ((q_Mo_s (u_Mo_number (u_Mo_kind (u_Mo_ran z 0) ((q_Mo_s (u_Mo_ran z 0)) (10 + x1).toNatClampNeg)) x1)) (14 + x1).toNatClampNeg))).bind fun v_9 => some (v_9.1, v_9.2)))) else none) else none))
theorem d_Mo_act_0 : decode b_Mo_act 0 = .ok (.aload_n 0, 1) := by decide +kernel
theorem d_Mo_act_1 : decode b_Mo_act 1 = .ok (.iconst 0, 1) := by decide +kernel
theorem d_Mo_act_2 : decode b_Mo_act 2 = .ok (.putfield 237, 3) := by decide +kernel
theorem d_Mo_act_5 : decode b_Mo_act 5 = .ok (.aload_n 0, 1) := by decide +kernel
theorem d_Mo_act_6 : decode b_Mo_act 6 = .ok (.iload_n 1, 1) := by decide +kernel
theorem d_Mo_act_7 : decode b_Mo_act 7 = .ok (.invokevirtual 147, 3) := by decide +kernel
theorem d_Mo_act_10 : decode b_Mo_act 10 = .ok (.ifCond .eq 12, 3) := by decide +kernel
theorem d_Mo_act_13 : decode b_Mo_act 13 = .ok (.iload_n 2, 1) := by decide +kernel
theorem d_Mo_act_14 : decode b_Mo_act 14 = .ok (.iconst 0, 1) := by decide +kernel
theorem d_Mo_act_15 : decode b_Mo_act 15 = .ok (.iconst 2, 1) := by decide +kernel
theorem d_Mo_act_16 : decode b_Mo_act 16 = .ok (.invokestatic 50, 3) := by decide +kernel
theorem d_Mo_act_19 : decode b_Mo_act 19 = .ok (.ifCond .ne 5, 3) := by decide +kernel
theorem d_Mo_act_22 : decode b_Mo_act 22 = .ok (.iconst 0, 1) := by decide +kernel
theorem d_Mo_act_23 : decode b_Mo_act 23 = .ok (.ireturn, 1) := by decide +kernel
theorem d_Mo_act_24 : decode b_Mo_act 24 = .ok (.aload_n 0, 1) := by decide +kernel
theorem d_Mo_act_25 : decode b_Mo_act 25 = .ok (.aload_n 0, 1) := by decide +kernel
theorem d_Mo_act_26 : decode b_Mo_act 26 = .ok (.getfield 9, 3) := by decide +kernel
theorem d_Mo_act_29 : decode b_Mo_act 29 = .ok (.bipush 10, 2) := by decide +kernel
theorem d_Mo_act_31 : decode b_Mo_act 31 = .ok (.iload_n 1, 1) := by decide +kernel
theorem d_Mo_act_32 : decode b_Mo_act 32 = .ok (.iadd, 1) := by decide +kernel
theorem d_Mo_act_33 : decode b_Mo_act 33 = .ok (.iaload, 1) := by decide +kernel
theorem d_Mo_act_34 : decode b_Mo_act 34 = .ok (.putfield 246, 3) := by decide +kernel
theorem d_Mo_act_37 : decode b_Mo_act 37 = .ok (.aload_n 0, 1) := by decide +kernel
theorem d_Mo_act_38 : decode b_Mo_act 38 = .ok (.iload_n 1, 1) := by decide +kernel
theorem d_Mo_act_39 : decode b_Mo_act 39 = .ok (.putfield 243, 3) := by decide +kernel
theorem d_Mo_act_42 : decode b_Mo_act 42 = .ok (.aload_n 0, 1) := by decide +kernel
theorem d_Mo_act_43 : decode b_Mo_act 43 = .ok (.aload_n 0, 1) := by decide +kernel
theorem d_Mo_act_44 : decode b_Mo_act 44 = .ok (.getfield 9, 3) := by decide +kernel
theorem d_Mo_act_47 : decode b_Mo_act 47 = .ok (.bipush 14, 2) := by decide +kernel
theorem d_Mo_act_49 : decode b_Mo_act 49 = .ok (.iload_n 1, 1) := by decide +kernel
theorem d_Mo_act_50 : decode b_Mo_act 50 = .ok (.iadd, 1) := by decide +kernel
theorem d_Mo_act_51 : decode b_Mo_act 51 = .ok (.iaload, 1) := by decide +kernel
theorem d_Mo_act_52 : decode b_Mo_act 52 = .ok (.putfield 258, 3) := by decide +kernel
theorem d_Mo_act_55 : decode b_Mo_act 55 = .ok (.iload_n 2, 1) := by decide +kernel
theorem d_Mo_act_56 : decode b_Mo_act 56 = .ok (.ifCond .ne 11, 3) := by decide +kernel
theorem d_Mo_act_59 : decode b_Mo_act 59 = .ok (.aload_n 0, 1) := by decide +kernel
theorem d_Mo_act_60 : decode b_Mo_act 60 = .ok (.iload_n 3, 1) := by decide +kernel
theorem d_Mo_act_61 : decode b_Mo_act 61 = .ok (.invokevirtual 255, 3) := by decide +kernel
theorem d_Mo_act_64 : decode b_Mo_act 64 = .ok (.goto 21, 3) := by decide +kernel
theorem d_Mo_act_67 : decode b_Mo_act 67 = .ok (.iload_n 2, 1) := by decide +kernel
theorem d_Mo_act_68 : decode b_Mo_act 68 = .ok (.iconst 1, 1) := by decide +kernel
theorem d_Mo_act_69 : decode b_Mo_act 69 = .ok (.if_icmp .ne 11, 3) := by decide +kernel
theorem d_Mo_act_72 : decode b_Mo_act 72 = .ok (.aload_n 0, 1) := by decide +kernel
theorem d_Mo_act_73 : decode b_Mo_act 73 = .ok (.iload_n 3, 1) := by decide +kernel
theorem d_Mo_act_74 : decode b_Mo_act 74 = .ok (.invokevirtual 264, 3) := by decide +kernel
theorem d_Mo_act_77 : decode b_Mo_act 77 = .ok (.goto 8, 3) := by decide +kernel
theorem d_Mo_act_80 : decode b_Mo_act 80 = .ok (.aload_n 0, 1) := by decide +kernel
theorem d_Mo_act_81 : decode b_Mo_act 81 = .ok (.iload_n 3, 1) := by decide +kernel
theorem d_Mo_act_82 : decode b_Mo_act 82 = .ok (.invokevirtual 270, 3) := by decide +kernel
theorem d_Mo_act_85 : decode b_Mo_act 85 = .ok (.ireturn, 1) := by decide +kernel
theorem o_Mo_act : OkV y_Mo_act "OwnsLiftModel" b_Mo_act 4 (some .int) 3 := ⟨⟨rfl, by decide +kernel, by decide +kernel, by decide +kernel⟩, g_1344, g_1345, g_81, g_1346⟩
set_option maxHeartbeats 4000000 in
set_option maxRecDepth 100000 in
theorem c_Mo_act (l : Launch) (D : va_G) (g : Nat → ClassId) (a : Nat → Nat) (x1 : Int32) (x2 : Int32) (x3 : Int32) (z : T_Mo) (v : Int32 × T_Mo) (h : d_Mo_act x1 x2 x3 z = some v) :
    MI l y_Mo_act b_Mo_act 4 .int ({ frames := 7, cells := 0, slots := 0, locals := 148 } : Room) D g [.ref (a 0), .int x1, .int x2, .int x3] (ws_Mo g a z) (v.1) (ws_Mo g a v.2) := by
  have hd := h
  unfold d_Mo_act at hd
  refine enterI rfl (Nat.le_of_ble_eq_true rfl) (fun p e s m below meth c A ls hx hb hml hr hown hg hlk hK hA hP hD hS hCs hl => ?_)
  have hown : s.vm.findClass "OwnsLiftModel" = some m.cls := hown
  have hl : lv_has ls 4 [(0, .ref (a 0)), (1, .int x1), (2, .int x2), (3, .int x3)] := hl
  show GI p l e s m ({ frames := 7, cells := 0, slots := 0, locals := 148 } : Room) ([.ref (a 0), .int x1, .int x2, .int x3] : List Value).toArray below meth c A D g (ws_Mo g a v.2) (v.1) s.heap [] (F0 m 0 ls [])
  refine lv_aload_n hx hb d_Mo_act_0 rfl (lv_at hl 0 rfl) ?_
  refine lv_iconst (v := 0) hx hb d_Mo_act_1 (by decide) ?_
  refine va_put (D := D) (ci := 1) (v := .int 0) (ty := .int) (C := R_Mo) (T := F_Mo) (N := 26) hx hb hg i_Mo t_Mo t_Mo_ok n_Mo hown hK hP hD hS 0 rfl rfl 22 (by decide) (hg _ g_1014) (fun _ h9 => h9) rfl (by decide +kernel) rfl rfl (Nat.le_of_ble_eq_true rfl) d_Mo_act_2 (fun H locs hP hD hS => ?_)
  have hP : va_P D classes (ws_Mo g a (u_Mo_ran z 0)) H := hP
  have hD : va_D A (ws_Mo g a (u_Mo_ran z 0)) := hD
  refine lv_aload_n hx hb d_Mo_act_5 rfl (lv_at hl 0 rfl) ?_
  refine lv_iload_n hx hb d_Mo_act_6 rfl (lv_at hl 1 rfl) ?_
  obtain ⟨v_1, e_2, hd⟩ := bind_s hd
  refine callVI (ws' := ws_Mo g a (u_Mo_ran z 0)) (rest := []) (As := [.int x1]) hx hb hml hown hg hK hP hD hS hA hCs hl.1 (c_Mo_isPerson l D g a x1 (u_Mo_ran z 0) _ e_2) o_Mo_isPerson g_1147 (ci := 1) (q0 := 0) rfl rfl (List.range' 0 12) (segC1 rfl rfl) (by decide) rfl (segP1 rfl rfl) rfl rfl (Nat.le_of_ble_eq_true rfl) ⟨rfl, rfl, Nat.le_of_ble_eq_true rfl, Nat.le_of_ble_eq_true rfl⟩ d_Mo_act_7 (fun H locs hP hD hS => ?_)
  refine lv_if_eq (tgt := 22) hx hb d_Mo_act_10 (by decide) (fun h_3 => ?_) (fun h_3 => ?_)
  · have hd := ite_t hd h_3
    refine lv_iconst (v := 0) hx hb d_Mo_act_22 (by decide) ?_
    obtain rfl := Option.some.inj hd
    exact retI hx hb hr hlk hK hP hD hS d_Mo_act_23 rfl
  · have hd := ite_f hd h_3
    refine lv_iload_n hx hb d_Mo_act_13 rfl (lv_at hl 2 rfl) ?_
    refine lv_iconst (v := 0) hx hb d_Mo_act_14 (by decide) ?_
    refine lv_iconst (v := 2) hx hb d_Mo_act_15 (by decide) ?_
    obtain ⟨v_4, e_5, hd⟩ := bind_s hd
    refine callSI (ws' := ws_Mo g a (u_Mo_ran z 0)) (rest := []) (As := [.int x2, .int 0, .int 2]) hx hb hml hown hg hK hP hD hS hA hCs hl.1 (c_Mo_in l D g  x2 0 2 _ e_5) o_Mo_in g_1076 [] segC0 rfl rfl segP0 rfl rfl (Nat.le_of_ble_eq_true rfl) ⟨rfl, rfl, Nat.le_of_ble_eq_true rfl, Nat.le_of_ble_eq_true rfl⟩ d_Mo_act_16 (fun H locs hP hD hS => ?_)
    refine lv_if_ne (tgt := 24) hx hb d_Mo_act_19 (by decide) (fun h_6 => ?_) (fun h_6 => ?_)
    · have hd := ite_f hd h_6
      refine lv_aload_n hx hb d_Mo_act_24 rfl (lv_at hl 0 rfl) ?_
      refine lv_aload_n hx hb d_Mo_act_25 rfl (lv_at hl 0 rfl) ?_
      refine va_get (D := D) (ci := 1) (v := .ref (a 1)) (C := R_Mo) (T := F_Mo) (N := 26) hx hb hg i_Mo hown hK hP 0 rfl rfl 1 (by decide) (hg _ g_993) (fun _ h9 => h9) rfl d_Mo_act_26 ?_
      refine lv_bipush (v := 10) hx hb d_Mo_act_29 (by decide) ?_
      refine lv_iload_n hx hb d_Mo_act_31 rfl (lv_at hl 1 rfl) ?_
      refine lv_iadd hx hb d_Mo_act_32 ?_
      obtain ⟨h_16, hd⟩ := ite_s hd
      refine ialdK hx hb hK hP 1 0 rfl rfl (inb_t h_16) rfl d_Mo_act_33 ?_
      refine va_put (D := D) (ci := 1) (v := .int ((q_Mo_s (u_Mo_ran z 0)) (10 + x1).toNatClampNeg)) (ty := .int) (C := R_Mo) (T := F_Mo) (N := 26) hx hb hg i_Mo t_Mo t_Mo_ok n_Mo hown hK hP hD hS 0 rfl rfl 23 (by decide) (hg _ g_1015) (fun _ h9 => h9) rfl (by decide +kernel) rfl rfl (Nat.le_of_ble_eq_true rfl) d_Mo_act_34 (fun H locs hP hD hS => ?_)
      have hP : va_P D classes (ws_Mo g a (u_Mo_kind (u_Mo_ran z 0) ((q_Mo_s (u_Mo_ran z 0)) (10 + x1).toNatClampNeg))) H := hP
      have hD : va_D A (ws_Mo g a (u_Mo_kind (u_Mo_ran z 0) ((q_Mo_s (u_Mo_ran z 0)) (10 + x1).toNatClampNeg))) := hD
      refine lv_aload_n hx hb d_Mo_act_37 rfl (lv_at hl 0 rfl) ?_
      refine lv_iload_n hx hb d_Mo_act_38 rfl (lv_at hl 1 rfl) ?_
      refine va_put (D := D) (ci := 1) (v := .int x1) (ty := .int) (C := R_Mo) (T := F_Mo) (N := 26) hx hb hg i_Mo t_Mo t_Mo_ok n_Mo hown hK hP hD hS 0 rfl rfl 24 (by decide) (hg _ g_1016) (fun _ h9 => h9) rfl (by decide +kernel) rfl rfl (Nat.le_of_ble_eq_true rfl) d_Mo_act_39 (fun H locs hP hD hS => ?_)
      have hP : va_P D classes (ws_Mo g a (u_Mo_number (u_Mo_kind (u_Mo_ran z 0) ((q_Mo_s (u_Mo_ran z 0)) (10 + x1).toNatClampNeg)) x1)) H := hP
      have hD : va_D A (ws_Mo g a (u_Mo_number (u_Mo_kind (u_Mo_ran z 0) ((q_Mo_s (u_Mo_ran z 0)) (10 + x1).toNatClampNeg)) x1)) := hD
      refine lv_aload_n hx hb d_Mo_act_42 rfl (lv_at hl 0 rfl) ?_
      refine lv_aload_n hx hb d_Mo_act_43 rfl (lv_at hl 0 rfl) ?_
      refine va_get (D := D) (ci := 1) (v := .ref (a 1)) (C := R_Mo) (T := F_Mo) (N := 26) hx hb hg i_Mo hown hK hP 0 rfl rfl 1 (by decide) (hg _ g_993) (fun _ h9 => h9) rfl d_Mo_act_44 ?_
      refine lv_bipush (v := 14) hx hb d_Mo_act_47 (by decide) ?_
      refine lv_iload_n hx hb d_Mo_act_49 rfl (lv_at hl 1 rfl) ?_
      refine lv_iadd hx hb d_Mo_act_50 ?_
      obtain ⟨h_15, hd⟩ := ite_s hd
      refine ialdK hx hb hK hP 1 0 rfl rfl (inb_t h_15) rfl d_Mo_act_51 ?_
      refine va_put (D := D) (ci := 1) (v := .int ((q_Mo_s (u_Mo_number (u_Mo_kind (u_Mo_ran z 0) ((q_Mo_s (u_Mo_ran z 0)) (10 + x1).toNatClampNeg)) x1)) (14 + x1).toNatClampNeg)) (ty := .int) (C := R_Mo) (T := F_Mo) (N := 26) hx hb hg i_Mo t_Mo t_Mo_ok n_Mo hown hK hP hD hS 0 rfl rfl 25 (by decide) (hg _ g_1017) (fun _ h9 => h9) rfl (by decide +kernel) rfl rfl (Nat.le_of_ble_eq_true rfl) d_Mo_act_52 (fun H locs hP hD hS => ?_)
      have hP : va_P D classes (ws_Mo g a (u_Mo_tellsV (u_Mo_number (u_Mo_kind (u_Mo_ran z 0) ((q_Mo_s (u_Mo_ran z 0)) (10 + x1).toNatClampNeg)) x1) ((q_Mo_s (u_Mo_number (u_Mo_kind (u_Mo_ran z 0) ((q_Mo_s (u_Mo_ran z 0)) (10 + x1).toNatClampNeg)) x1)) (14 + x1).toNatClampNeg))) H := hP
      have hD : va_D A (ws_Mo g a (u_Mo_tellsV (u_Mo_number (u_Mo_kind (u_Mo_ran z 0) ((q_Mo_s (u_Mo_ran z 0)) (10 + x1).toNatClampNeg)) x1) ((q_Mo_s (u_Mo_number (u_Mo_kind (u_Mo_ran z 0) ((q_Mo_s (u_Mo_ran z 0)) (10 + x1).toNatClampNeg)) x1)) (14 + x1).toNatClampNeg))) := hD
      refine lv_iload_n hx hb d_Mo_act_55 rfl (lv_at hl 2 rfl) ?_
      refine lv_if_ne (tgt := 67) hx hb d_Mo_act_56 (by decide) (fun h_7 => ?_) (fun h_7 => ?_)
      · have hd := ite_f hd h_7
        refine lv_iload_n hx hb d_Mo_act_67 rfl (lv_at hl 2 rfl) ?_
        refine lv_iconst (v := 1) hx hb d_Mo_act_68 (by decide) ?_
        refine lv_icmp_ne (tgt := 80) hx hb d_Mo_act_69 (by decide) (fun h_8 => ?_) (fun h_8 => ?_)
        · have hd := ite_f hd h_8
          refine lv_aload_n hx hb d_Mo_act_80 rfl (lv_at hl 0 rfl) ?_
          refine lv_iload_n hx hb d_Mo_act_81 rfl (lv_at hl 3 rfl) ?_
          obtain ⟨v_9, e_10, hd⟩ := bind_s hd
          refine callVI (ws' := ws_Mo g a v_9.2) (rest := []) (As := [.int x3]) hx hb hml hown hg hK hP hD hS hA hCs hl.1 (c_Mo_tellsActs l D g a x3 (u_Mo_tellsV (u_Mo_number (u_Mo_kind (u_Mo_ran z 0) ((q_Mo_s (u_Mo_ran z 0)) (10 + x1).toNatClampNeg)) x1) ((q_Mo_s (u_Mo_number (u_Mo_kind (u_Mo_ran z 0) ((q_Mo_s (u_Mo_ran z 0)) (10 + x1).toNatClampNeg)) x1)) (14 + x1).toNatClampNeg)) _ e_10) o_Mo_tellsActs g_1370 (ci := 1) (q0 := 0) rfl rfl (List.range' 0 12) (segC1 rfl rfl) (by decide) rfl (segP1 rfl rfl) rfl rfl (Nat.le_of_ble_eq_true rfl) ⟨rfl, rfl, Nat.le_of_ble_eq_true rfl, Nat.le_of_ble_eq_true rfl⟩ d_Mo_act_82 (fun H locs hP hD hS => ?_)
          obtain rfl := Option.some.inj hd
          exact retI hx hb hr hlk hK hP hD hS d_Mo_act_85 rfl
        · have hd := ite_t hd h_8
          refine lv_aload_n hx hb d_Mo_act_72 rfl (lv_at hl 0 rfl) ?_
          refine lv_iload_n hx hb d_Mo_act_73 rfl (lv_at hl 3 rfl) ?_
          obtain ⟨v_11, e_12, hd⟩ := bind_s hd
          refine callVI (ws' := ws_Mo g a v_11.2) (rest := []) (As := [.int x3]) hx hb hml hown hg hK hP hD hS hA hCs hl.1 (c_Mo_dropsActs l D g a x3 (u_Mo_tellsV (u_Mo_number (u_Mo_kind (u_Mo_ran z 0) ((q_Mo_s (u_Mo_ran z 0)) (10 + x1).toNatClampNeg)) x1) ((q_Mo_s (u_Mo_number (u_Mo_kind (u_Mo_ran z 0) ((q_Mo_s (u_Mo_ran z 0)) (10 + x1).toNatClampNeg)) x1)) (14 + x1).toNatClampNeg)) _ e_12) o_Mo_dropsActs g_1362 (ci := 1) (q0 := 0) rfl rfl (List.range' 0 12) (segC1 rfl rfl) (by decide) rfl (segP1 rfl rfl) rfl rfl (Nat.le_of_ble_eq_true rfl) ⟨rfl, rfl, Nat.le_of_ble_eq_true rfl, Nat.le_of_ble_eq_true rfl⟩ d_Mo_act_74 (fun H locs hP hD hS => ?_)
          refine lv_goto (tgt := 85) hx hb d_Mo_act_77 (by decide) ?_
          obtain rfl := Option.some.inj hd
          exact retI hx hb hr hlk hK hP hD hS d_Mo_act_85 rfl
      · have hd := ite_t hd h_7
        refine lv_aload_n hx hb d_Mo_act_59 rfl (lv_at hl 0 rfl) ?_
        refine lv_iload_n hx hb d_Mo_act_60 rfl (lv_at hl 3 rfl) ?_
        obtain ⟨v_13, e_14, hd⟩ := bind_s hd
        refine callVI (ws' := ws_Mo g a v_13.2) (rest := []) (As := [.int x3]) hx hb hml hown hg hK hP hD hS hA hCs hl.1 (c_Mo_liftsActs l D g a x3 (u_Mo_tellsV (u_Mo_number (u_Mo_kind (u_Mo_ran z 0) ((q_Mo_s (u_Mo_ran z 0)) (10 + x1).toNatClampNeg)) x1) ((q_Mo_s (u_Mo_number (u_Mo_kind (u_Mo_ran z 0) ((q_Mo_s (u_Mo_ran z 0)) (10 + x1).toNatClampNeg)) x1)) (14 + x1).toNatClampNeg)) _ e_14) o_Mo_liftsActs g_1347 (ci := 1) (q0 := 0) rfl rfl (List.range' 0 12) (segC1 rfl rfl) (by decide) rfl (segP1 rfl rfl) rfl rfl (Nat.le_of_ble_eq_true rfl) ⟨rfl, rfl, Nat.le_of_ble_eq_true rfl, Nat.le_of_ble_eq_true rfl⟩ d_Mo_act_61 (fun H locs hP hD hS => ?_)
        refine lv_goto (tgt := 85) hx hb d_Mo_act_64 (by decide) ?_
        obtain rfl := Option.some.inj hd
        exact retI hx hb hr hlk hK hP hD hS d_Mo_act_85 rfl
    · have hd := ite_t hd h_6
      refine lv_iconst (v := 0) hx hb d_Mo_act_22 (by decide) ?_
      obtain rfl := Option.some.inj hd
      exact retI hx hb hr hlk hK hP hD hS d_Mo_act_23 rfl
-- OwnsLiftModel.trace(I)I
def d_Mo_trace (x1 : Int32) (z : T_Mo) : Option (Int32) :=
  if 20 ≤ (q_Mo_ran z) then ((d_Mo_in x1 0 (20 - 1)).bind fun v_2 => if v_2 = 0 then (some ((-1))) else (if inb x1 20 = true then (some ((q_Mo_bodies z) x1.toNatClampNeg)) else none)) else ((d_Mo_in x1 0 ((q_Mo_ran z) - 1)).bind fun v_6 => if v_6 = 0 then (some ((-1))) else (if inb x1 20 = true then (some ((q_Mo_bodies z) x1.toNatClampNeg)) else none))
theorem d_Mo_trace_0 : decode b_Mo_trace 0 = .ok (.iload_n 1, 1) := by decide +kernel
theorem d_Mo_trace_1 : decode b_Mo_trace 1 = .ok (.iconst 0, 1) := by decide +kernel
theorem d_Mo_trace_2 : decode b_Mo_trace 2 = .ok (.aload_n 0, 1) := by decide +kernel
theorem d_Mo_trace_3 : decode b_Mo_trace 3 = .ok (.getfield 237, 3) := by decide +kernel
theorem d_Mo_trace_6 : decode b_Mo_trace 6 = .ok (.bipush 20, 2) := by decide +kernel
theorem d_Mo_trace_8 : decode b_Mo_trace 8 = .ok (.if_icmp .ge 10, 3) := by decide +kernel
theorem d_Mo_trace_11 : decode b_Mo_trace 11 = .ok (.aload_n 0, 1) := by decide +kernel
theorem d_Mo_trace_12 : decode b_Mo_trace 12 = .ok (.getfield 237, 3) := by decide +kernel
theorem d_Mo_trace_15 : decode b_Mo_trace 15 = .ok (.goto 5, 3) := by decide +kernel
theorem d_Mo_trace_18 : decode b_Mo_trace 18 = .ok (.bipush 20, 2) := by decide +kernel
theorem d_Mo_trace_20 : decode b_Mo_trace 20 = .ok (.iconst 1, 1) := by decide +kernel
theorem d_Mo_trace_21 : decode b_Mo_trace 21 = .ok (.isub, 1) := by decide +kernel
theorem d_Mo_trace_22 : decode b_Mo_trace 22 = .ok (.invokestatic 50, 3) := by decide +kernel
theorem d_Mo_trace_25 : decode b_Mo_trace 25 = .ok (.ifCond .eq 12, 3) := by decide +kernel
theorem d_Mo_trace_28 : decode b_Mo_trace 28 = .ok (.aload_n 0, 1) := by decide +kernel
theorem d_Mo_trace_29 : decode b_Mo_trace 29 = .ok (.getfield 43, 3) := by decide +kernel
theorem d_Mo_trace_32 : decode b_Mo_trace 32 = .ok (.iload_n 1, 1) := by decide +kernel
theorem d_Mo_trace_33 : decode b_Mo_trace 33 = .ok (.iaload, 1) := by decide +kernel
theorem d_Mo_trace_34 : decode b_Mo_trace 34 = .ok (.goto 4, 3) := by decide +kernel
theorem d_Mo_trace_37 : decode b_Mo_trace 37 = .ok (.iconst (-1), 1) := by decide +kernel
theorem d_Mo_trace_38 : decode b_Mo_trace 38 = .ok (.ireturn, 1) := by decide +kernel
theorem o_Mo_trace : OkV y_Mo_trace "OwnsLiftModel" b_Mo_trace 2 (some .int) 1 := ⟨⟨rfl, by decide +kernel, by decide +kernel, by decide +kernel⟩, g_1379, g_1380, g_81, g_1381⟩
set_option maxHeartbeats 4000000 in
set_option maxRecDepth 100000 in
theorem c_Mo_trace (l : Launch) (D : va_G) (g : Nat → ClassId) (a : Nat → Nat) (x1 : Int32) (z : T_Mo) (v : Int32) (h : d_Mo_trace x1 z = some v) :
    MI l y_Mo_trace b_Mo_trace 2 .int ({ frames := 1, cells := 0, slots := 0, locals := 22 } : Room) D g [.ref (a 0), .int x1] (ws_Mo g a z) (v) (ws_Mo g a z) := by
  have hd := h
  unfold d_Mo_trace at hd
  refine enterI rfl (Nat.le_of_ble_eq_true rfl) (fun p e s m below meth c A ls hx hb hml hr hown hg hlk hK hA hP hD hS hCs hl => ?_)
  have hown : s.vm.findClass "OwnsLiftModel" = some m.cls := hown
  have hl : lv_has ls 2 [(0, .ref (a 0)), (1, .int x1)] := hl
  show GI p l e s m ({ frames := 1, cells := 0, slots := 0, locals := 22 } : Room) ([.ref (a 0), .int x1] : List Value).toArray below meth c A D g (ws_Mo g a z) (v) s.heap [] (F0 m 0 ls [])
  refine lv_iload_n hx hb d_Mo_trace_0 rfl (lv_at hl 1 rfl) ?_
  refine lv_iconst (v := 0) hx hb d_Mo_trace_1 (by decide) ?_
  refine lv_aload_n hx hb d_Mo_trace_2 rfl (lv_at hl 0 rfl) ?_
  refine va_get (D := D) (ci := 1) (v := .int (q_Mo_ran z)) (C := R_Mo) (T := F_Mo) (N := 26) hx hb hg i_Mo hown hK hP 0 rfl rfl 22 (by decide) (hg _ g_1014) (fun _ h9 => h9) rfl d_Mo_trace_3 ?_
  refine lv_bipush (v := 20) hx hb d_Mo_trace_6 (by decide) ?_
  refine lv_icmp_ge (tgt := 18) hx hb d_Mo_trace_8 (by decide) (fun h_1 => ?_) (fun h_1 => ?_)
  · have hd := ite_t hd h_1
    refine lv_bipush (v := 20) hx hb d_Mo_trace_18 (by decide) ?_
    refine lv_iconst (v := 1) hx hb d_Mo_trace_20 (by decide) ?_
    refine lv_isub hx hb d_Mo_trace_21 ?_
    obtain ⟨v_2, e_3, hd⟩ := bind_s hd
    refine callSI (ws' := ws_Mo g a z) (rest := []) (As := [.int x1, .int 0, .int (20 - 1)]) hx hb hml hown hg hK hP hD hS hA hCs hl.1 (c_Mo_in l D g  x1 0 (20 - 1) _ e_3) o_Mo_in g_1076 [] segC0 rfl rfl segP0 rfl rfl (Nat.le_of_ble_eq_true rfl) ⟨rfl, rfl, Nat.le_of_ble_eq_true rfl, Nat.le_of_ble_eq_true rfl⟩ d_Mo_trace_22 (fun H locs hP hD hS => ?_)
    refine lv_if_eq (tgt := 37) hx hb d_Mo_trace_25 (by decide) (fun h_4 => ?_) (fun h_4 => ?_)
    · have hd := ite_t hd h_4
      refine lv_iconst (v := (-1)) hx hb d_Mo_trace_37 (by decide) ?_
      obtain rfl := Option.some.inj hd
      exact retI hx hb hr hlk hK hP hD hS d_Mo_trace_38 rfl
    · have hd := ite_f hd h_4
      refine lv_aload_n hx hb d_Mo_trace_28 rfl (lv_at hl 0 rfl) ?_
      refine va_get (D := D) (ci := 1) (v := .ref (a 11)) (C := R_Mo) (T := F_Mo) (N := 26) hx hb hg i_Mo hown hK hP 0 rfl rfl 21 (by decide) (hg _ g_1013) (fun _ h9 => h9) rfl d_Mo_trace_29 ?_
      refine lv_iload_n hx hb d_Mo_trace_32 rfl (lv_at hl 1 rfl) ?_
      obtain ⟨h_5, hd⟩ := ite_s hd
      refine ialdK hx hb hK hP 11 0 rfl rfl (inb_t h_5) rfl d_Mo_trace_33 ?_
      refine lv_goto (tgt := 38) hx hb d_Mo_trace_34 (by decide) ?_
      obtain rfl := Option.some.inj hd
      exact retI hx hb hr hlk hK hP hD hS d_Mo_trace_38 rfl
  · have hd := ite_f hd h_1
    refine lv_aload_n hx hb d_Mo_trace_11 rfl (lv_at hl 0 rfl) ?_
    refine va_get (D := D) (ci := 1) (v := .int (q_Mo_ran z)) (C := R_Mo) (T := F_Mo) (N := 26) hx hb hg i_Mo hown hK hP 0 rfl rfl 22 (by decide) (hg _ g_1014) (fun _ h9 => h9) rfl d_Mo_trace_12 ?_
    refine lv_goto (tgt := 20) hx hb d_Mo_trace_15 (by decide) ?_
    refine lv_iconst (v := 1) hx hb d_Mo_trace_20 (by decide) ?_
    refine lv_isub hx hb d_Mo_trace_21 ?_
    obtain ⟨v_6, e_7, hd⟩ := bind_s hd
    refine callSI (ws' := ws_Mo g a z) (rest := []) (As := [.int x1, .int 0, .int ((q_Mo_ran z) - 1)]) hx hb hml hown hg hK hP hD hS hA hCs hl.1 (c_Mo_in l D g  x1 0 ((q_Mo_ran z) - 1) _ e_7) o_Mo_in g_1076 [] segC0 rfl rfl segP0 rfl rfl (Nat.le_of_ble_eq_true rfl) ⟨rfl, rfl, Nat.le_of_ble_eq_true rfl, Nat.le_of_ble_eq_true rfl⟩ d_Mo_trace_22 (fun H locs hP hD hS => ?_)
    refine lv_if_eq (tgt := 37) hx hb d_Mo_trace_25 (by decide) (fun h_8 => ?_) (fun h_8 => ?_)
    · have hd := ite_t hd h_8
      refine lv_iconst (v := (-1)) hx hb d_Mo_trace_37 (by decide) ?_
      obtain rfl := Option.some.inj hd
      exact retI hx hb hr hlk hK hP hD hS d_Mo_trace_38 rfl
    · have hd := ite_f hd h_8
      refine lv_aload_n hx hb d_Mo_trace_28 rfl (lv_at hl 0 rfl) ?_
      refine va_get (D := D) (ci := 1) (v := .ref (a 11)) (C := R_Mo) (T := F_Mo) (N := 26) hx hb hg i_Mo hown hK hP 0 rfl rfl 21 (by decide) (hg _ g_1013) (fun _ h9 => h9) rfl d_Mo_trace_29 ?_
      refine lv_iload_n hx hb d_Mo_trace_32 rfl (lv_at hl 1 rfl) ?_
      obtain ⟨h_9, hd⟩ := ite_s hd
      refine ialdK hx hb hK hP 11 0 rfl rfl (inb_t h_9) rfl d_Mo_trace_33 ?_
      refine lv_goto (tgt := 38) hx hb d_Mo_trace_34 (by decide) ?_
      obtain rfl := Option.some.inj hd
      exact retI hx hb hr hlk hK hP hD hS d_Mo_trace_38 rfl
-- OwnsLiftModel.as(II)I
def d_Mo_as (x1 : Int32) (x2 : Int32) (z : T_Mo) : Option (Int32) :=
  (d_Mo_isPerson x1 z).bind fun v_1 => if v_1 = 0 then (some ((-1))) else ((d_Mo_in x2 0 6).bind fun v_4 => if v_4 = 0 then (some ((-1))) else (if inb (10 + x1) 901 = true then ((d_Mo_isUnder ((q_Mo_s z) (10 + x1).toNatClampNeg) x2).bind fun v_7 => if v_7 = 0 then (some ((-6))) else (if inb (14 + x1) 901 = true then (some ((q_Mo_s z) (14 + x1).toNatClampNeg)) else none)) else none))
theorem d_Mo_as_0 : decode b_Mo_as 0 = .ok (.aload_n 0, 1) := by decide +kernel
theorem d_Mo_as_1 : decode b_Mo_as 1 = .ok (.iload_n 1, 1) := by decide +kernel
theorem d_Mo_as_2 : decode b_Mo_as 2 = .ok (.invokevirtual 147, 3) := by decide +kernel
theorem d_Mo_as_5 : decode b_Mo_as 5 = .ok (.ifCond .eq 13, 3) := by decide +kernel
theorem d_Mo_as_8 : decode b_Mo_as 8 = .ok (.iload_n 2, 1) := by decide +kernel
theorem d_Mo_as_9 : decode b_Mo_as 9 = .ok (.iconst 0, 1) := by decide +kernel
theorem d_Mo_as_10 : decode b_Mo_as 10 = .ok (.bipush 6, 2) := by decide +kernel
theorem d_Mo_as_12 : decode b_Mo_as 12 = .ok (.invokestatic 50, 3) := by decide +kernel
theorem d_Mo_as_15 : decode b_Mo_as 15 = .ok (.ifCond .ne 5, 3) := by decide +kernel
theorem d_Mo_as_18 : decode b_Mo_as 18 = .ok (.iconst (-1), 1) := by decide +kernel
theorem d_Mo_as_19 : decode b_Mo_as 19 = .ok (.ireturn, 1) := by decide +kernel
theorem d_Mo_as_20 : decode b_Mo_as 20 = .ok (.aload_n 0, 1) := by decide +kernel
theorem d_Mo_as_21 : decode b_Mo_as 21 = .ok (.getfield 9, 3) := by decide +kernel
theorem d_Mo_as_24 : decode b_Mo_as 24 = .ok (.bipush 10, 2) := by decide +kernel
theorem d_Mo_as_26 : decode b_Mo_as 26 = .ok (.iload_n 1, 1) := by decide +kernel
theorem d_Mo_as_27 : decode b_Mo_as 27 = .ok (.iadd, 1) := by decide +kernel
theorem d_Mo_as_28 : decode b_Mo_as 28 = .ok (.iaload, 1) := by decide +kernel
theorem d_Mo_as_29 : decode b_Mo_as 29 = .ok (.iload_n 2, 1) := by decide +kernel
theorem d_Mo_as_30 : decode b_Mo_as 30 = .ok (.invokestatic 249, 3) := by decide +kernel
theorem d_Mo_as_33 : decode b_Mo_as 33 = .ok (.ifCond .eq 15, 3) := by decide +kernel
theorem d_Mo_as_36 : decode b_Mo_as 36 = .ok (.aload_n 0, 1) := by decide +kernel
theorem d_Mo_as_37 : decode b_Mo_as 37 = .ok (.getfield 9, 3) := by decide +kernel
theorem d_Mo_as_40 : decode b_Mo_as 40 = .ok (.bipush 14, 2) := by decide +kernel
theorem d_Mo_as_42 : decode b_Mo_as 42 = .ok (.iload_n 1, 1) := by decide +kernel
theorem d_Mo_as_43 : decode b_Mo_as 43 = .ok (.iadd, 1) := by decide +kernel
theorem d_Mo_as_44 : decode b_Mo_as 44 = .ok (.iaload, 1) := by decide +kernel
theorem d_Mo_as_45 : decode b_Mo_as 45 = .ok (.goto 5, 3) := by decide +kernel
theorem d_Mo_as_48 : decode b_Mo_as 48 = .ok (.bipush (-6), 2) := by decide +kernel
theorem d_Mo_as_50 : decode b_Mo_as 50 = .ok (.ireturn, 1) := by decide +kernel
theorem o_Mo_as : OkV y_Mo_as "OwnsLiftModel" b_Mo_as 3 (some .int) 2 := ⟨⟨rfl, by decide +kernel, by decide +kernel, by decide +kernel⟩, g_1383, g_1384, g_81, g_1385⟩
set_option maxHeartbeats 4000000 in
set_option maxRecDepth 100000 in
theorem c_Mo_as (l : Launch) (D : va_G) (g : Nat → ClassId) (a : Nat → Nat) (x1 : Int32) (x2 : Int32) (z : T_Mo) (v : Int32) (h : d_Mo_as x1 x2 z = some v) :
    MI l y_Mo_as b_Mo_as 3 .int ({ frames := 2, cells := 0, slots := 0, locals := 43 } : Room) D g [.ref (a 0), .int x1, .int x2] (ws_Mo g a z) (v) (ws_Mo g a z) := by
  have hd := h
  unfold d_Mo_as at hd
  refine enterI rfl (Nat.le_of_ble_eq_true rfl) (fun p e s m below meth c A ls hx hb hml hr hown hg hlk hK hA hP hD hS hCs hl => ?_)
  have hown : s.vm.findClass "OwnsLiftModel" = some m.cls := hown
  have hl : lv_has ls 3 [(0, .ref (a 0)), (1, .int x1), (2, .int x2)] := hl
  show GI p l e s m ({ frames := 2, cells := 0, slots := 0, locals := 43 } : Room) ([.ref (a 0), .int x1, .int x2] : List Value).toArray below meth c A D g (ws_Mo g a z) (v) s.heap [] (F0 m 0 ls [])
  refine lv_aload_n hx hb d_Mo_as_0 rfl (lv_at hl 0 rfl) ?_
  refine lv_iload_n hx hb d_Mo_as_1 rfl (lv_at hl 1 rfl) ?_
  obtain ⟨v_1, e_2, hd⟩ := bind_s hd
  refine callVI (ws' := ws_Mo g a z) (rest := []) (As := [.int x1]) hx hb hml hown hg hK hP hD hS hA hCs hl.1 (c_Mo_isPerson l D g a x1 z _ e_2) o_Mo_isPerson g_1147 (ci := 1) (q0 := 0) rfl rfl (List.range' 0 12) (segC1 rfl rfl) (by decide) rfl (segP1 rfl rfl) rfl rfl (Nat.le_of_ble_eq_true rfl) ⟨rfl, rfl, Nat.le_of_ble_eq_true rfl, Nat.le_of_ble_eq_true rfl⟩ d_Mo_as_2 (fun H locs hP hD hS => ?_)
  refine lv_if_eq (tgt := 18) hx hb d_Mo_as_5 (by decide) (fun h_3 => ?_) (fun h_3 => ?_)
  · have hd := ite_t hd h_3
    refine lv_iconst (v := (-1)) hx hb d_Mo_as_18 (by decide) ?_
    obtain rfl := Option.some.inj hd
    exact retI hx hb hr hlk hK hP hD hS d_Mo_as_19 rfl
  · have hd := ite_f hd h_3
    refine lv_iload_n hx hb d_Mo_as_8 rfl (lv_at hl 2 rfl) ?_
    refine lv_iconst (v := 0) hx hb d_Mo_as_9 (by decide) ?_
    refine lv_bipush (v := 6) hx hb d_Mo_as_10 (by decide) ?_
    obtain ⟨v_4, e_5, hd⟩ := bind_s hd
    refine callSI (ws' := ws_Mo g a z) (rest := []) (As := [.int x2, .int 0, .int 6]) hx hb hml hown hg hK hP hD hS hA hCs hl.1 (c_Mo_in l D g  x2 0 6 _ e_5) o_Mo_in g_1076 [] segC0 rfl rfl segP0 rfl rfl (Nat.le_of_ble_eq_true rfl) ⟨rfl, rfl, Nat.le_of_ble_eq_true rfl, Nat.le_of_ble_eq_true rfl⟩ d_Mo_as_12 (fun H locs hP hD hS => ?_)
    refine lv_if_ne (tgt := 20) hx hb d_Mo_as_15 (by decide) (fun h_6 => ?_) (fun h_6 => ?_)
    · have hd := ite_f hd h_6
      refine lv_aload_n hx hb d_Mo_as_20 rfl (lv_at hl 0 rfl) ?_
      refine va_get (D := D) (ci := 1) (v := .ref (a 1)) (C := R_Mo) (T := F_Mo) (N := 26) hx hb hg i_Mo hown hK hP 0 rfl rfl 1 (by decide) (hg _ g_993) (fun _ h9 => h9) rfl d_Mo_as_21 ?_
      refine lv_bipush (v := 10) hx hb d_Mo_as_24 (by decide) ?_
      refine lv_iload_n hx hb d_Mo_as_26 rfl (lv_at hl 1 rfl) ?_
      refine lv_iadd hx hb d_Mo_as_27 ?_
      obtain ⟨h_11, hd⟩ := ite_s hd
      refine ialdK hx hb hK hP 1 0 rfl rfl (inb_t h_11) rfl d_Mo_as_28 ?_
      refine lv_iload_n hx hb d_Mo_as_29 rfl (lv_at hl 2 rfl) ?_
      obtain ⟨v_7, e_8, hd⟩ := bind_s hd
      refine callSI (ws' := ws_Mo g a z) (rest := []) (As := [.int ((q_Mo_s z) (10 + x1).toNatClampNeg), .int x2]) hx hb hml hown hg hK hP hD hS hA hCs hl.1 (c_Mo_isUnder l D g  ((q_Mo_s z) (10 + x1).toNatClampNeg) x2 _ e_8) o_Mo_isUnder g_1351 [] segC0 rfl rfl segP0 rfl rfl (Nat.le_of_ble_eq_true rfl) ⟨rfl, rfl, Nat.le_of_ble_eq_true rfl, Nat.le_of_ble_eq_true rfl⟩ d_Mo_as_30 (fun H locs hP hD hS => ?_)
      refine lv_if_eq (tgt := 48) hx hb d_Mo_as_33 (by decide) (fun h_9 => ?_) (fun h_9 => ?_)
      · have hd := ite_t hd h_9
        refine lv_bipush (v := (-6)) hx hb d_Mo_as_48 (by decide) ?_
        obtain rfl := Option.some.inj hd
        exact retI hx hb hr hlk hK hP hD hS d_Mo_as_50 rfl
      · have hd := ite_f hd h_9
        refine lv_aload_n hx hb d_Mo_as_36 rfl (lv_at hl 0 rfl) ?_
        refine va_get (D := D) (ci := 1) (v := .ref (a 1)) (C := R_Mo) (T := F_Mo) (N := 26) hx hb hg i_Mo hown hK hP 0 rfl rfl 1 (by decide) (hg _ g_993) (fun _ h9 => h9) rfl d_Mo_as_37 ?_
        refine lv_bipush (v := 14) hx hb d_Mo_as_40 (by decide) ?_
        refine lv_iload_n hx hb d_Mo_as_42 rfl (lv_at hl 1 rfl) ?_
        refine lv_iadd hx hb d_Mo_as_43 ?_
        obtain ⟨h_10, hd⟩ := ite_s hd
        refine ialdK hx hb hK hP 1 0 rfl rfl (inb_t h_10) rfl d_Mo_as_44 ?_
        refine lv_goto (tgt := 50) hx hb d_Mo_as_45 (by decide) ?_
        obtain rfl := Option.some.inj hd
        exact retI hx hb hr hlk hK hP hD hS d_Mo_as_50 rfl
    · have hd := ite_t hd h_6
      refine lv_iconst (v := (-1)) hx hb d_Mo_as_18 (by decide) ?_
      obtain rfl := Option.some.inj hd
      exact retI hx hb hr hlk hK hP hD hS d_Mo_as_19 rfl
-- OwnsLiftModel.image()I
def B_Mo_image_L2 (self2 : Int32 → T_Mo → Option (Int32 × T_Mo)) (x1_2 : Int32) (z_2 : T_Mo) : Option (Int32 × T_Mo) :=
  if 901 ≤ x1_2 then (some ((q_Mo_s (u_Mo_hasImage z_2 1)) 0, (u_Mo_hasImage z_2 1))) else (if inb x1_2 901 = true then (if inb x1_2 901 = true then (self2 (x1_2 + 1) (u_Mo_image z_2 (upd (q_Mo_image z_2) x1_2.toNatClampNeg ((q_Mo_s z_2) x1_2.toNatClampNeg)))) else none) else none)
def d_Mo_image_L2 (n : Nat) : Int32 → T_Mo → Option (Int32 × T_Mo) := recN (fun _ _ => none) (fun self => B_Mo_image_L2 self) n
def d_Mo_image (z : T_Mo) : Option (Int32 × T_Mo) :=
  d_Mo_image_L2  1000 0 z
theorem d_Mo_image_0 : decode b_Mo_image 0 = .ok (.iconst 0, 1) := by decide +kernel
theorem d_Mo_image_1 : decode b_Mo_image 1 = .ok (.istore_n 1, 1) := by decide +kernel
theorem d_Mo_image_2 : decode b_Mo_image 2 = .ok (.iload_n 1, 1) := by decide +kernel
theorem d_Mo_image_3 : decode b_Mo_image 3 = .ok (.sipush 901, 3) := by decide +kernel
theorem d_Mo_image_6 : decode b_Mo_image 6 = .ok (.if_icmp .ge 21, 3) := by decide +kernel
theorem d_Mo_image_9 : decode b_Mo_image 9 = .ok (.aload_n 0, 1) := by decide +kernel
theorem d_Mo_image_10 : decode b_Mo_image 10 = .ok (.getfield 15, 3) := by decide +kernel
theorem d_Mo_image_13 : decode b_Mo_image 13 = .ok (.iload_n 1, 1) := by decide +kernel
theorem d_Mo_image_14 : decode b_Mo_image 14 = .ok (.aload_n 0, 1) := by decide +kernel
theorem d_Mo_image_15 : decode b_Mo_image 15 = .ok (.getfield 9, 3) := by decide +kernel
theorem d_Mo_image_18 : decode b_Mo_image 18 = .ok (.iload_n 1, 1) := by decide +kernel
theorem d_Mo_image_19 : decode b_Mo_image 19 = .ok (.iaload, 1) := by decide +kernel
theorem d_Mo_image_20 : decode b_Mo_image 20 = .ok (.iastore, 1) := by decide +kernel
theorem d_Mo_image_21 : decode b_Mo_image 21 = .ok (.iinc 1 1, 3) := by decide +kernel
theorem d_Mo_image_24 : decode b_Mo_image 24 = .ok (.goto (-22), 3) := by decide +kernel
theorem d_Mo_image_27 : decode b_Mo_image 27 = .ok (.aload_n 0, 1) := by decide +kernel
theorem d_Mo_image_28 : decode b_Mo_image 28 = .ok (.iconst 1, 1) := by decide +kernel
theorem d_Mo_image_29 : decode b_Mo_image 29 = .ok (.putfield 273, 3) := by decide +kernel
theorem d_Mo_image_32 : decode b_Mo_image 32 = .ok (.aload_n 0, 1) := by decide +kernel
theorem d_Mo_image_33 : decode b_Mo_image 33 = .ok (.getfield 9, 3) := by decide +kernel
theorem d_Mo_image_36 : decode b_Mo_image 36 = .ok (.iconst 0, 1) := by decide +kernel
theorem d_Mo_image_37 : decode b_Mo_image 37 = .ok (.iaload, 1) := by decide +kernel
theorem d_Mo_image_38 : decode b_Mo_image 38 = .ok (.ireturn, 1) := by decide +kernel
theorem o_Mo_image : OkV y_Mo_image "OwnsLiftModel" b_Mo_image 2 (some .int) 0 := ⟨⟨rfl, by decide +kernel, by decide +kernel, by decide +kernel⟩, g_1387, g_1388, g_81, g_1389⟩
set_option maxHeartbeats 4000000 in
set_option maxRecDepth 100000 in
theorem c_Mo_image (l : Launch) (D : va_G) (g : Nat → ClassId) (a : Nat → Nat) (z : T_Mo) (v : Int32 × T_Mo) (h : d_Mo_image z = some v) :
    MI l y_Mo_image b_Mo_image 2 .int ({ frames := 0, cells := 0, slots := 0, locals := 0 } : Room) D g [.ref (a 0)] (ws_Mo g a z) (v.1) (ws_Mo g a v.2) := by
  have hd := h
  unfold d_Mo_image at hd
  refine enterI rfl (Nat.le_of_ble_eq_true rfl) (fun p e s m below meth c A ls hx hb hml hr hown hg hlk hK hA hP hD hS hCs hl => ?_)
  have hown : s.vm.findClass "OwnsLiftModel" = some m.cls := hown
  have hl : lv_has ls 2 [(0, .ref (a 0))] := hl
  show GI p l e s m ({ frames := 0, cells := 0, slots := 0, locals := 0 } : Room) ([.ref (a 0)] : List Value).toArray below meth c A D g (ws_Mo g a v.2) (v.1) s.heap [] (F0 m 0 ls [])
  refine lv_iconst (v := 0) hx hb d_Mo_image_0 (by decide) ?_
  refine lv_istore_n (lv' := [(1, .int 0), (0, .ref (a 0))]) hx hb d_Mo_image_1 rfl hl (by decide) rfl (fun ls hl => ?_)
  have lp2 : ∀ (n : Nat) (x1_2 : Int32) (z_2 : T_Mo) (H : Heap) (locs : List Loc) (ls : Array Slot), va_P D classes (ws_Mo g a z_2) H → va_D A (ws_Mo g a z_2) → va_S A s.heap H locs → lv_has ls 2 [(0, .ref (a 0)), (1, .int x1_2)] → d_Mo_image_L2 n x1_2 z_2 = some v → GI p l e s m ({ frames := 0, cells := 0, slots := 0, locals := 0 } : Room) ([.ref (a 0)] : List Value).toArray below meth c A D g (ws_Mo g a v.2) (v.1) H locs (F0 m 2 ls []) := by
    intro n
    induction n with
    | zero =>
      intro  x1_2 z_2 H locs ls hP hD hS hl hd
      have hd : none = some v := hd
      cases hd
    | succ n ih2 =>
      intro  x1_2 z_2 H locs ls hP hD hS hl hd
      have hd : B_Mo_image_L2 (d_Mo_image_L2 n) x1_2 z_2 = some v := hd
      generalize d_Mo_image_L2 n = self2 at ih2 hd
      unfold B_Mo_image_L2 at hd
      refine lv_iload_n hx hb d_Mo_image_2 rfl (lv_at hl 1 rfl) ?_
      refine lv_sipush (v := 901) hx hb d_Mo_image_3 (by decide) ?_
      refine lv_icmp_ge (tgt := 27) hx hb d_Mo_image_6 (by decide) (fun h_1 => ?_) (fun h_1 => ?_)
      · have hd := ite_t hd h_1
        refine lv_aload_n hx hb d_Mo_image_27 rfl (lv_at hl 0 rfl) ?_
        refine lv_iconst (v := 1) hx hb d_Mo_image_28 (by decide) ?_
        refine va_put (D := D) (ci := 1) (v := .int 1) (ty := .boolean) (C := R_Mo) (T := F_Mo) (N := 26) hx hb hg i_Mo t_Mo t_Mo_ok n_Mo hown hK hP hD hS 0 rfl rfl 4 (by decide) (hg _ g_996) (fun _ h9 => h9) rfl (by decide +kernel) (by decide +kernel) rfl (Nat.le_of_ble_eq_true rfl) d_Mo_image_29 (fun H locs hP hD hS => ?_)
        have hP : va_P D classes (ws_Mo g a (u_Mo_hasImage z_2 1)) H := hP
        have hD : va_D A (ws_Mo g a (u_Mo_hasImage z_2 1)) := hD
        refine lv_aload_n hx hb d_Mo_image_32 rfl (lv_at hl 0 rfl) ?_
        refine va_get (D := D) (ci := 1) (v := .ref (a 1)) (C := R_Mo) (T := F_Mo) (N := 26) hx hb hg i_Mo hown hK hP 0 rfl rfl 1 (by decide) (hg _ g_993) (fun _ h9 => h9) rfl d_Mo_image_33 ?_
        refine lv_iconst (v := 0) hx hb d_Mo_image_36 (by decide) ?_
        refine ialdK hx hb hK hP 1 0 rfl rfl (inb_t (by decide +kernel)) (k := 0) (by decide +kernel) d_Mo_image_37 ?_
        obtain rfl := Option.some.inj hd
        exact retI hx hb hr hlk hK hP hD hS d_Mo_image_38 rfl
      · have hd := ite_f hd h_1
        refine lv_aload_n hx hb d_Mo_image_9 rfl (lv_at hl 0 rfl) ?_
        refine va_get (D := D) (ci := 1) (v := .ref (a 2)) (C := R_Mo) (T := F_Mo) (N := 26) hx hb hg i_Mo hown hK hP 0 rfl rfl 2 (by decide) (hg _ g_994) (fun _ h9 => h9) rfl d_Mo_image_10 ?_
        refine lv_iload_n hx hb d_Mo_image_13 rfl (lv_at hl 1 rfl) ?_
        refine lv_aload_n hx hb d_Mo_image_14 rfl (lv_at hl 0 rfl) ?_
        refine va_get (D := D) (ci := 1) (v := .ref (a 1)) (C := R_Mo) (T := F_Mo) (N := 26) hx hb hg i_Mo hown hK hP 0 rfl rfl 1 (by decide) (hg _ g_993) (fun _ h9 => h9) rfl d_Mo_image_15 ?_
        refine lv_iload_n hx hb d_Mo_image_18 rfl (lv_at hl 1 rfl) ?_
        obtain ⟨h_3, hd⟩ := ite_s hd
        refine ialdK hx hb hK hP 1 0 rfl rfl (inb_t h_3) rfl d_Mo_image_19 ?_
        obtain ⟨h_2, hd⟩ := ite_s hd
        refine iastK hx hb hK hP hD hS 2 0 rfl rfl (inb_t h_2) rfl d_Mo_image_20 (fun H locs hP hD hS => ?_)
        have hP : va_P D classes (ws_Mo g a (u_Mo_image z_2 (upd (q_Mo_image z_2) x1_2.toNatClampNeg ((q_Mo_s z_2) x1_2.toNatClampNeg)))) H := hP
        have hD : va_D A (ws_Mo g a (u_Mo_image z_2 (upd (q_Mo_image z_2) x1_2.toNatClampNeg ((q_Mo_s z_2) x1_2.toNatClampNeg)))) := hD
        refine lv_iinc (v := x1_2 + 1) (lv' := [(1, .int (x1_2 + 1)), (0, .ref (a 0))]) hx hb d_Mo_image_21 hl (k := 1) rfl (by rfl) (by decide) rfl (fun ls hl => ?_)
        refine lv_goto (tgt := 2) hx hb d_Mo_image_24 (by decide) ?_
        exact ih2 (x1_2 + 1) (u_Mo_image z_2 (upd (q_Mo_image z_2) x1_2.toNatClampNeg ((q_Mo_s z_2) x1_2.toNatClampNeg))) _ _ _ hP hD hS (lv_sub hl [1, 0] rfl) hd
  exact lp2 1000 0 z _ _ _ hP hD hS (lv_sub hl [1, 0] rfl) hd
-- OwnsLiftModel.undo()I
def B_Mo_undo_L12 (self12 : Int32 → T_Mo → Option (Int32 × T_Mo)) (x1_12 : Int32) (z_12 : T_Mo) : Option (Int32 × T_Mo) :=
  if 901 ≤ x1_12 then (some ((q_Mo_s z_12) 0, z_12)) else (if inb x1_12 901 = true then (if inb x1_12 901 = true then (self12 (x1_12 + 1) (u_Mo_s z_12 (upd (q_Mo_s z_12) x1_12.toNatClampNeg ((q_Mo_image z_12) x1_12.toNatClampNeg)))) else none) else none)
def d_Mo_undo_L12 (n : Nat) : Int32 → T_Mo → Option (Int32 × T_Mo) := recN (fun _ _ => none) (fun self => B_Mo_undo_L12 self) n
def d_Mo_undo (z : T_Mo) : Option (Int32 × T_Mo) :=
  if (q_Mo_hasImage z) = 0 then (some ((-3), z)) else (d_Mo_undo_L12  1000 0 z)
theorem d_Mo_undo_0 : decode b_Mo_undo 0 = .ok (.aload_n 0, 1) := by decide +kernel
theorem d_Mo_undo_1 : decode b_Mo_undo 1 = .ok (.getfield 273, 3) := by decide +kernel
theorem d_Mo_undo_4 : decode b_Mo_undo 4 = .ok (.ifCond .ne 6, 3) := by decide +kernel
theorem d_Mo_undo_7 : decode b_Mo_undo 7 = .ok (.bipush (-3), 2) := by decide +kernel
theorem d_Mo_undo_9 : decode b_Mo_undo 9 = .ok (.ireturn, 1) := by decide +kernel
theorem d_Mo_undo_10 : decode b_Mo_undo 10 = .ok (.iconst 0, 1) := by decide +kernel
theorem d_Mo_undo_11 : decode b_Mo_undo 11 = .ok (.istore_n 1, 1) := by decide +kernel
theorem d_Mo_undo_12 : decode b_Mo_undo 12 = .ok (.iload_n 1, 1) := by decide +kernel
theorem d_Mo_undo_13 : decode b_Mo_undo 13 = .ok (.sipush 901, 3) := by decide +kernel
theorem d_Mo_undo_16 : decode b_Mo_undo 16 = .ok (.if_icmp .ge 21, 3) := by decide +kernel
theorem d_Mo_undo_19 : decode b_Mo_undo 19 = .ok (.aload_n 0, 1) := by decide +kernel
theorem d_Mo_undo_20 : decode b_Mo_undo 20 = .ok (.getfield 9, 3) := by decide +kernel
theorem d_Mo_undo_23 : decode b_Mo_undo 23 = .ok (.iload_n 1, 1) := by decide +kernel
theorem d_Mo_undo_24 : decode b_Mo_undo 24 = .ok (.aload_n 0, 1) := by decide +kernel
theorem d_Mo_undo_25 : decode b_Mo_undo 25 = .ok (.getfield 15, 3) := by decide +kernel
theorem d_Mo_undo_28 : decode b_Mo_undo 28 = .ok (.iload_n 1, 1) := by decide +kernel
theorem d_Mo_undo_29 : decode b_Mo_undo 29 = .ok (.iaload, 1) := by decide +kernel
theorem d_Mo_undo_30 : decode b_Mo_undo 30 = .ok (.iastore, 1) := by decide +kernel
theorem d_Mo_undo_31 : decode b_Mo_undo 31 = .ok (.iinc 1 1, 3) := by decide +kernel
theorem d_Mo_undo_34 : decode b_Mo_undo 34 = .ok (.goto (-22), 3) := by decide +kernel
theorem d_Mo_undo_37 : decode b_Mo_undo 37 = .ok (.aload_n 0, 1) := by decide +kernel
theorem d_Mo_undo_38 : decode b_Mo_undo 38 = .ok (.getfield 9, 3) := by decide +kernel
theorem d_Mo_undo_41 : decode b_Mo_undo 41 = .ok (.iconst 0, 1) := by decide +kernel
theorem d_Mo_undo_42 : decode b_Mo_undo 42 = .ok (.iaload, 1) := by decide +kernel
theorem d_Mo_undo_43 : decode b_Mo_undo 43 = .ok (.ireturn, 1) := by decide +kernel
theorem o_Mo_undo : OkV y_Mo_undo "OwnsLiftModel" b_Mo_undo 2 (some .int) 0 := ⟨⟨rfl, by decide +kernel, by decide +kernel, by decide +kernel⟩, g_1391, g_1392, g_81, g_1393⟩
set_option maxHeartbeats 4000000 in
set_option maxRecDepth 100000 in
theorem c_Mo_undo (l : Launch) (D : va_G) (g : Nat → ClassId) (a : Nat → Nat) (z : T_Mo) (v : Int32 × T_Mo) (h : d_Mo_undo z = some v) :
    MI l y_Mo_undo b_Mo_undo 2 .int ({ frames := 0, cells := 0, slots := 0, locals := 0 } : Room) D g [.ref (a 0)] (ws_Mo g a z) (v.1) (ws_Mo g a v.2) := by
  have hd := h
  unfold d_Mo_undo at hd
  refine enterI rfl (Nat.le_of_ble_eq_true rfl) (fun p e s m below meth c A ls hx hb hml hr hown hg hlk hK hA hP hD hS hCs hl => ?_)
  have hown : s.vm.findClass "OwnsLiftModel" = some m.cls := hown
  have hl : lv_has ls 2 [(0, .ref (a 0))] := hl
  show GI p l e s m ({ frames := 0, cells := 0, slots := 0, locals := 0 } : Room) ([.ref (a 0)] : List Value).toArray below meth c A D g (ws_Mo g a v.2) (v.1) s.heap [] (F0 m 0 ls [])
  refine lv_aload_n hx hb d_Mo_undo_0 rfl (lv_at hl 0 rfl) ?_
  refine va_get (D := D) (ci := 1) (v := .int (q_Mo_hasImage z)) (C := R_Mo) (T := F_Mo) (N := 26) hx hb hg i_Mo hown hK hP 0 rfl rfl 4 (by decide) (hg _ g_996) (fun _ h9 => h9) rfl d_Mo_undo_1 ?_
  refine lv_if_ne (tgt := 10) hx hb d_Mo_undo_4 (by decide) (fun h_1 => ?_) (fun h_1 => ?_)
  · have hd := ite_f hd h_1
    refine lv_iconst (v := 0) hx hb d_Mo_undo_10 (by decide) ?_
    refine lv_istore_n (lv' := [(1, .int 0), (0, .ref (a 0))]) hx hb d_Mo_undo_11 rfl hl (by decide) rfl (fun ls hl => ?_)
    have lp12 : ∀ (n : Nat) (x1_12 : Int32) (z_12 : T_Mo) (H : Heap) (locs : List Loc) (ls : Array Slot), va_P D classes (ws_Mo g a z_12) H → va_D A (ws_Mo g a z_12) → va_S A s.heap H locs → lv_has ls 2 [(0, .ref (a 0)), (1, .int x1_12)] → d_Mo_undo_L12 n x1_12 z_12 = some v → GI p l e s m ({ frames := 0, cells := 0, slots := 0, locals := 0 } : Room) ([.ref (a 0)] : List Value).toArray below meth c A D g (ws_Mo g a v.2) (v.1) H locs (F0 m 12 ls []) := by
      intro n
      induction n with
      | zero =>
        intro  x1_12 z_12 H locs ls hP hD hS hl hd
        have hd : none = some v := hd
        cases hd
      | succ n ih12 =>
        intro  x1_12 z_12 H locs ls hP hD hS hl hd
        have hd : B_Mo_undo_L12 (d_Mo_undo_L12 n) x1_12 z_12 = some v := hd
        generalize d_Mo_undo_L12 n = self12 at ih12 hd
        unfold B_Mo_undo_L12 at hd
        refine lv_iload_n hx hb d_Mo_undo_12 rfl (lv_at hl 1 rfl) ?_
        refine lv_sipush (v := 901) hx hb d_Mo_undo_13 (by decide) ?_
        refine lv_icmp_ge (tgt := 37) hx hb d_Mo_undo_16 (by decide) (fun h_2 => ?_) (fun h_2 => ?_)
        · have hd := ite_t hd h_2
          refine lv_aload_n hx hb d_Mo_undo_37 rfl (lv_at hl 0 rfl) ?_
          refine va_get (D := D) (ci := 1) (v := .ref (a 1)) (C := R_Mo) (T := F_Mo) (N := 26) hx hb hg i_Mo hown hK hP 0 rfl rfl 1 (by decide) (hg _ g_993) (fun _ h9 => h9) rfl d_Mo_undo_38 ?_
          refine lv_iconst (v := 0) hx hb d_Mo_undo_41 (by decide) ?_
          refine ialdK hx hb hK hP 1 0 rfl rfl (inb_t (by decide +kernel)) (k := 0) (by decide +kernel) d_Mo_undo_42 ?_
          obtain rfl := Option.some.inj hd
          exact retI hx hb hr hlk hK hP hD hS d_Mo_undo_43 rfl
        · have hd := ite_f hd h_2
          refine lv_aload_n hx hb d_Mo_undo_19 rfl (lv_at hl 0 rfl) ?_
          refine va_get (D := D) (ci := 1) (v := .ref (a 1)) (C := R_Mo) (T := F_Mo) (N := 26) hx hb hg i_Mo hown hK hP 0 rfl rfl 1 (by decide) (hg _ g_993) (fun _ h9 => h9) rfl d_Mo_undo_20 ?_
          refine lv_iload_n hx hb d_Mo_undo_23 rfl (lv_at hl 1 rfl) ?_
          refine lv_aload_n hx hb d_Mo_undo_24 rfl (lv_at hl 0 rfl) ?_
          refine va_get (D := D) (ci := 1) (v := .ref (a 2)) (C := R_Mo) (T := F_Mo) (N := 26) hx hb hg i_Mo hown hK hP 0 rfl rfl 2 (by decide) (hg _ g_994) (fun _ h9 => h9) rfl d_Mo_undo_25 ?_
          refine lv_iload_n hx hb d_Mo_undo_28 rfl (lv_at hl 1 rfl) ?_
          obtain ⟨h_4, hd⟩ := ite_s hd
          refine ialdK hx hb hK hP 2 0 rfl rfl (inb_t h_4) rfl d_Mo_undo_29 ?_
          obtain ⟨h_3, hd⟩ := ite_s hd
          refine iastK hx hb hK hP hD hS 1 0 rfl rfl (inb_t h_3) rfl d_Mo_undo_30 (fun H locs hP hD hS => ?_)
          have hP : va_P D classes (ws_Mo g a (u_Mo_s z_12 (upd (q_Mo_s z_12) x1_12.toNatClampNeg ((q_Mo_image z_12) x1_12.toNatClampNeg)))) H := hP
          have hD : va_D A (ws_Mo g a (u_Mo_s z_12 (upd (q_Mo_s z_12) x1_12.toNatClampNeg ((q_Mo_image z_12) x1_12.toNatClampNeg)))) := hD
          refine lv_iinc (v := x1_12 + 1) (lv' := [(1, .int (x1_12 + 1)), (0, .ref (a 0))]) hx hb d_Mo_undo_31 hl (k := 1) rfl (by rfl) (by decide) rfl (fun ls hl => ?_)
          refine lv_goto (tgt := 12) hx hb d_Mo_undo_34 (by decide) ?_
          exact ih12 (x1_12 + 1) (u_Mo_s z_12 (upd (q_Mo_s z_12) x1_12.toNatClampNeg ((q_Mo_image z_12) x1_12.toNatClampNeg))) _ _ _ hP hD hS (lv_sub hl [1, 0] rfl) hd
    exact lp12 1000 0 z _ _ _ hP hD hS (lv_sub hl [1, 0] rfl) hd
  · have hd := ite_t hd h_1
    refine lv_bipush (v := (-3)) hx hb d_Mo_undo_7 (by decide) ?_
    obtain rfl := Option.some.inj hd
    exact retI hx hb hr hlk hK hP hD hS d_Mo_undo_9 rfl
-- OwnsLiftModel.count(I)I
def d_Mo_count (x1 : Int32) (z : T_Mo) : Option (Int32) :=
  if x1 = 0 then (some ((q_Mo_s z) 0)) else (if x1 = 1 then (some ((q_Mo_s z) 1)) else (if x1 = 2 then (some ((q_Mo_s z) 2)) else (if x1 = 3 then (some ((q_Mo_s z) 3)) else (if x1 = 4 then (some ((q_Mo_s z) 4)) else (if x1 = 5 then (some ((q_Mo_ran z))) else (some ((-1))))))))
theorem d_Mo_count_0 : decode b_Mo_count 0 = .ok (.iload_n 1, 1) := by decide +kernel
theorem d_Mo_count_1 : decode b_Mo_count 1 = .ok (.tableswitch 79 0 5 #[39, 46, 53, 60, 67, 74], 39) := by decide +kernel
theorem d_Mo_count_40 : decode b_Mo_count 40 = .ok (.aload_n 0, 1) := by decide +kernel
theorem d_Mo_count_41 : decode b_Mo_count 41 = .ok (.getfield 9, 3) := by decide +kernel
theorem d_Mo_count_44 : decode b_Mo_count 44 = .ok (.iconst 0, 1) := by decide +kernel
theorem d_Mo_count_45 : decode b_Mo_count 45 = .ok (.iaload, 1) := by decide +kernel
theorem d_Mo_count_46 : decode b_Mo_count 46 = .ok (.ireturn, 1) := by decide +kernel
theorem d_Mo_count_47 : decode b_Mo_count 47 = .ok (.aload_n 0, 1) := by decide +kernel
theorem d_Mo_count_48 : decode b_Mo_count 48 = .ok (.getfield 9, 3) := by decide +kernel
theorem d_Mo_count_51 : decode b_Mo_count 51 = .ok (.iconst 1, 1) := by decide +kernel
theorem d_Mo_count_52 : decode b_Mo_count 52 = .ok (.iaload, 1) := by decide +kernel
theorem d_Mo_count_53 : decode b_Mo_count 53 = .ok (.ireturn, 1) := by decide +kernel
theorem d_Mo_count_54 : decode b_Mo_count 54 = .ok (.aload_n 0, 1) := by decide +kernel
theorem d_Mo_count_55 : decode b_Mo_count 55 = .ok (.getfield 9, 3) := by decide +kernel
theorem d_Mo_count_58 : decode b_Mo_count 58 = .ok (.iconst 2, 1) := by decide +kernel
theorem d_Mo_count_59 : decode b_Mo_count 59 = .ok (.iaload, 1) := by decide +kernel
theorem d_Mo_count_60 : decode b_Mo_count 60 = .ok (.ireturn, 1) := by decide +kernel
theorem d_Mo_count_61 : decode b_Mo_count 61 = .ok (.aload_n 0, 1) := by decide +kernel
theorem d_Mo_count_62 : decode b_Mo_count 62 = .ok (.getfield 9, 3) := by decide +kernel
theorem d_Mo_count_65 : decode b_Mo_count 65 = .ok (.iconst 3, 1) := by decide +kernel
theorem d_Mo_count_66 : decode b_Mo_count 66 = .ok (.iaload, 1) := by decide +kernel
theorem d_Mo_count_67 : decode b_Mo_count 67 = .ok (.ireturn, 1) := by decide +kernel
theorem d_Mo_count_68 : decode b_Mo_count 68 = .ok (.aload_n 0, 1) := by decide +kernel
theorem d_Mo_count_69 : decode b_Mo_count 69 = .ok (.getfield 9, 3) := by decide +kernel
theorem d_Mo_count_72 : decode b_Mo_count 72 = .ok (.iconst 4, 1) := by decide +kernel
theorem d_Mo_count_73 : decode b_Mo_count 73 = .ok (.iaload, 1) := by decide +kernel
theorem d_Mo_count_74 : decode b_Mo_count 74 = .ok (.ireturn, 1) := by decide +kernel
theorem d_Mo_count_75 : decode b_Mo_count 75 = .ok (.aload_n 0, 1) := by decide +kernel
theorem d_Mo_count_76 : decode b_Mo_count 76 = .ok (.getfield 237, 3) := by decide +kernel
theorem d_Mo_count_79 : decode b_Mo_count 79 = .ok (.ireturn, 1) := by decide +kernel
theorem d_Mo_count_80 : decode b_Mo_count 80 = .ok (.iconst (-1), 1) := by decide +kernel
theorem d_Mo_count_81 : decode b_Mo_count 81 = .ok (.ireturn, 1) := by decide +kernel
theorem o_Mo_count : OkV y_Mo_count "OwnsLiftModel" b_Mo_count 2 (some .int) 1 := ⟨⟨rfl, by decide +kernel, by decide +kernel, by decide +kernel⟩, g_1395, g_1396, g_81, g_1397⟩
set_option maxHeartbeats 4000000 in
set_option maxRecDepth 100000 in
theorem c_Mo_count (l : Launch) (D : va_G) (g : Nat → ClassId) (a : Nat → Nat) (x1 : Int32) (z : T_Mo) (v : Int32) (h : d_Mo_count x1 z = some v) :
    MI l y_Mo_count b_Mo_count 2 .int ({ frames := 0, cells := 0, slots := 0, locals := 0 } : Room) D g [.ref (a 0), .int x1] (ws_Mo g a z) (v) (ws_Mo g a z) := by
  have hd := h
  unfold d_Mo_count at hd
  refine enterI rfl (Nat.le_of_ble_eq_true rfl) (fun p e s m below meth c A ls hx hb hml hr hown hg hlk hK hA hP hD hS hCs hl => ?_)
  have hown : s.vm.findClass "OwnsLiftModel" = some m.cls := hown
  have hl : lv_has ls 2 [(0, .ref (a 0)), (1, .int x1)] := hl
  show GI p l e s m ({ frames := 0, cells := 0, slots := 0, locals := 0 } : Room) ([.ref (a 0), .int x1] : List Value).toArray below meth c A D g (ws_Mo g a z) (v) s.heap [] (F0 m 0 ls [])
  refine lv_iload_n hx hb d_Mo_count_0 rfl (lv_at hl 1 rfl) ?_
  by_cases h_1 : x1 = 0
  · have hd := ite_t hd h_1
    refine lv_tableIn (tgt := 40) hx hb d_Mo_count_1 (by rw [h_1]; decide) (by rw [h_1]; decide) (off := 39) (by rw [h_1]; decide) (by decide) ?_
    refine lv_aload_n hx hb d_Mo_count_40 rfl (lv_at hl 0 rfl) ?_
    refine va_get (D := D) (ci := 1) (v := .ref (a 1)) (C := R_Mo) (T := F_Mo) (N := 26) hx hb hg i_Mo hown hK hP 0 rfl rfl 1 (by decide) (hg _ g_993) (fun _ h9 => h9) rfl d_Mo_count_41 ?_
    refine lv_iconst (v := 0) hx hb d_Mo_count_44 (by decide) ?_
    refine ialdK hx hb hK hP 1 0 rfl rfl (inb_t (by decide +kernel)) (k := 0) (by decide +kernel) d_Mo_count_45 ?_
    obtain rfl := Option.some.inj hd
    exact retI hx hb hr hlk hK hP hD hS d_Mo_count_46 rfl
  have hd := ite_f hd h_1
  by_cases h_2 : x1 = 1
  · have hd := ite_t hd h_2
    refine lv_tableIn (tgt := 47) hx hb d_Mo_count_1 (by rw [h_2]; decide) (by rw [h_2]; decide) (off := 46) (by rw [h_2]; decide) (by decide) ?_
    refine lv_aload_n hx hb d_Mo_count_47 rfl (lv_at hl 0 rfl) ?_
    refine va_get (D := D) (ci := 1) (v := .ref (a 1)) (C := R_Mo) (T := F_Mo) (N := 26) hx hb hg i_Mo hown hK hP 0 rfl rfl 1 (by decide) (hg _ g_993) (fun _ h9 => h9) rfl d_Mo_count_48 ?_
    refine lv_iconst (v := 1) hx hb d_Mo_count_51 (by decide) ?_
    refine ialdK hx hb hK hP 1 0 rfl rfl (inb_t (by decide +kernel)) (k := 1) (by decide +kernel) d_Mo_count_52 ?_
    obtain rfl := Option.some.inj hd
    exact retI hx hb hr hlk hK hP hD hS d_Mo_count_53 rfl
  have hd := ite_f hd h_2
  by_cases h_3 : x1 = 2
  · have hd := ite_t hd h_3
    refine lv_tableIn (tgt := 54) hx hb d_Mo_count_1 (by rw [h_3]; decide) (by rw [h_3]; decide) (off := 53) (by rw [h_3]; decide) (by decide) ?_
    refine lv_aload_n hx hb d_Mo_count_54 rfl (lv_at hl 0 rfl) ?_
    refine va_get (D := D) (ci := 1) (v := .ref (a 1)) (C := R_Mo) (T := F_Mo) (N := 26) hx hb hg i_Mo hown hK hP 0 rfl rfl 1 (by decide) (hg _ g_993) (fun _ h9 => h9) rfl d_Mo_count_55 ?_
    refine lv_iconst (v := 2) hx hb d_Mo_count_58 (by decide) ?_
    refine ialdK hx hb hK hP 1 0 rfl rfl (inb_t (by decide +kernel)) (k := 2) (by decide +kernel) d_Mo_count_59 ?_
    obtain rfl := Option.some.inj hd
    exact retI hx hb hr hlk hK hP hD hS d_Mo_count_60 rfl
  have hd := ite_f hd h_3
  by_cases h_4 : x1 = 3
  · have hd := ite_t hd h_4
    refine lv_tableIn (tgt := 61) hx hb d_Mo_count_1 (by rw [h_4]; decide) (by rw [h_4]; decide) (off := 60) (by rw [h_4]; decide) (by decide) ?_
    refine lv_aload_n hx hb d_Mo_count_61 rfl (lv_at hl 0 rfl) ?_
    refine va_get (D := D) (ci := 1) (v := .ref (a 1)) (C := R_Mo) (T := F_Mo) (N := 26) hx hb hg i_Mo hown hK hP 0 rfl rfl 1 (by decide) (hg _ g_993) (fun _ h9 => h9) rfl d_Mo_count_62 ?_
    refine lv_iconst (v := 3) hx hb d_Mo_count_65 (by decide) ?_
    refine ialdK hx hb hK hP 1 0 rfl rfl (inb_t (by decide +kernel)) (k := 3) (by decide +kernel) d_Mo_count_66 ?_
    obtain rfl := Option.some.inj hd
    exact retI hx hb hr hlk hK hP hD hS d_Mo_count_67 rfl
  have hd := ite_f hd h_4
  by_cases h_5 : x1 = 4
  · have hd := ite_t hd h_5
    refine lv_tableIn (tgt := 68) hx hb d_Mo_count_1 (by rw [h_5]; decide) (by rw [h_5]; decide) (off := 67) (by rw [h_5]; decide) (by decide) ?_
    refine lv_aload_n hx hb d_Mo_count_68 rfl (lv_at hl 0 rfl) ?_
    refine va_get (D := D) (ci := 1) (v := .ref (a 1)) (C := R_Mo) (T := F_Mo) (N := 26) hx hb hg i_Mo hown hK hP 0 rfl rfl 1 (by decide) (hg _ g_993) (fun _ h9 => h9) rfl d_Mo_count_69 ?_
    refine lv_iconst (v := 4) hx hb d_Mo_count_72 (by decide) ?_
    refine ialdK hx hb hK hP 1 0 rfl rfl (inb_t (by decide +kernel)) (k := 4) (by decide +kernel) d_Mo_count_73 ?_
    obtain rfl := Option.some.inj hd
    exact retI hx hb hr hlk hK hP hD hS d_Mo_count_74 rfl
  have hd := ite_f hd h_5
  by_cases h_6 : x1 = 5
  · have hd := ite_t hd h_6
    refine lv_tableIn (tgt := 75) hx hb d_Mo_count_1 (by rw [h_6]; decide) (by rw [h_6]; decide) (off := 74) (by rw [h_6]; decide) (by decide) ?_
    refine lv_aload_n hx hb d_Mo_count_75 rfl (lv_at hl 0 rfl) ?_
    refine va_get (D := D) (ci := 1) (v := .int (q_Mo_ran z)) (C := R_Mo) (T := F_Mo) (N := 26) hx hb hg i_Mo hown hK hP 0 rfl rfl 22 (by decide) (hg _ g_1014) (fun _ h9 => h9) rfl d_Mo_count_76 ?_
    obtain rfl := Option.some.inj hd
    exact retI hx hb hr hlk hK hP hD hS d_Mo_count_79 rfl
  have hd := ite_f hd h_6
  have ho_7 : (x1).toInt < 0 ∨ 5 < (x1).toInt := by
    refine tab_out 0 5 ?_
    intro k h1 h2 q
    have hk : k = 0 ∨ k = 1 ∨ k = 2 ∨ k = 3 ∨ k = 4 ∨ k = 5 := by omega
    rcases hk with rfl | rfl | rfl | rfl | rfl | rfl
    · exact h_1 (Int32.toInt_inj.mp (q.trans (by decide)))
    · exact h_2 (Int32.toInt_inj.mp (q.trans (by decide)))
    · exact h_3 (Int32.toInt_inj.mp (q.trans (by decide)))
    · exact h_4 (Int32.toInt_inj.mp (q.trans (by decide)))
    · exact h_5 (Int32.toInt_inj.mp (q.trans (by decide)))
    · exact h_6 (Int32.toInt_inj.mp (q.trans (by decide)))
  refine lv_tableOut (tgt := 80) hx hb d_Mo_count_1 ho_7 (by decide) ?_
  refine lv_iconst (v := (-1)) hx hb d_Mo_count_80 (by decide) ?_
  obtain rfl := Option.some.inj hd
  exact retI hx hb hr hlk hK hP hD hS d_Mo_count_81 rfl

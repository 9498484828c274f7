-- OwnsLiftModel.likesOf(II)I
def B_Mo_likesOf_L5 (x1_f5 : Int32) (x2_f5 : Int32) (z : T_Mo) (self5 : Int32 → Int32 → Option (Int32)) (x3_5 : Int32) (x4_5 : Int32) : Option (Int32) :=
  if ((q_Mo_s z) 1) ≤ x4_5 then (some (x3_5)) else (if ((x2_f5 >>> (x4_5 &&& 31)) &&& 1) = 1 then (if inb ((7 * x1_f5) + x4_5) 28 = true then (self5 (x3_5 + ((q_Mo_likes z) ((7 * x1_f5) + x4_5).toNatClampNeg)) (x4_5 + 1)) else none) else (self5 (x3_5 + 0) (x4_5 + 1)))
def d_Mo_likesOf_L5 (x1_f5 : Int32) (x2_f5 : Int32) (z : T_Mo) (n : Nat) : Int32 → Int32 → Option (Int32) := recN (fun _ _ => none) (fun self => B_Mo_likesOf_L5 x1_f5 x2_f5 z self) n
def d_Mo_likesOf (x1 : Int32) (x2 : Int32) (z : T_Mo) : Option (Int32) :=
  d_Mo_likesOf_L5 x1 x2 z  1000 0 0
theorem d_Mo_likesOf_0 : decode b_Mo_likesOf 0 = .ok (.iconst 0, 1) := by decide +kernel
theorem d_Mo_likesOf_1 : decode b_Mo_likesOf 1 = .ok (.istore_n 3, 1) := by decide +kernel
theorem d_Mo_likesOf_2 : decode b_Mo_likesOf 2 = .ok (.iconst 0, 1) := by decide +kernel
theorem d_Mo_likesOf_3 : decode b_Mo_likesOf 3 = .ok (.istore 4, 2) := by decide +kernel
theorem d_Mo_likesOf_5 : decode b_Mo_likesOf 5 = .ok (.iload 4, 2) := by decide +kernel
theorem d_Mo_likesOf_7 : decode b_Mo_likesOf 7 = .ok (.aload_n 0, 1) := by decide +kernel
theorem d_Mo_likesOf_8 : decode b_Mo_likesOf 8 = .ok (.getfield 9, 3) := by decide +kernel
theorem d_Mo_likesOf_11 : decode b_Mo_likesOf 11 = .ok (.iconst 1, 1) := by decide +kernel
theorem d_Mo_likesOf_12 : decode b_Mo_likesOf 12 = .ok (.iaload, 1) := by decide +kernel
theorem d_Mo_likesOf_13 : decode b_Mo_likesOf 13 = .ok (.if_icmp .ge 38, 3) := by decide +kernel
theorem d_Mo_likesOf_16 : decode b_Mo_likesOf 16 = .ok (.iload_n 3, 1) := by decide +kernel
theorem d_Mo_likesOf_17 : decode b_Mo_likesOf 17 = .ok (.iload_n 2, 1) := by decide +kernel
theorem d_Mo_likesOf_18 : decode b_Mo_likesOf 18 = .ok (.iload 4, 2) := by decide +kernel
theorem d_Mo_likesOf_20 : decode b_Mo_likesOf 20 = .ok (.ishr, 1) := by decide +kernel
theorem d_Mo_likesOf_21 : decode b_Mo_likesOf 21 = .ok (.iconst 1, 1) := by decide +kernel
theorem d_Mo_likesOf_22 : decode b_Mo_likesOf 22 = .ok (.iand, 1) := by decide +kernel
theorem d_Mo_likesOf_23 : decode b_Mo_likesOf 23 = .ok (.iconst 1, 1) := by decide +kernel
theorem d_Mo_likesOf_24 : decode b_Mo_likesOf 24 = .ok (.if_icmp .ne 18, 3) := by decide +kernel
theorem d_Mo_likesOf_27 : decode b_Mo_likesOf 27 = .ok (.aload_n 0, 1) := by decide +kernel
theorem d_Mo_likesOf_28 : decode b_Mo_likesOf 28 = .ok (.getfield 28, 3) := by decide +kernel
theorem d_Mo_likesOf_31 : decode b_Mo_likesOf 31 = .ok (.bipush 7, 2) := by decide +kernel
theorem d_Mo_likesOf_33 : decode b_Mo_likesOf 33 = .ok (.iload_n 1, 1) := by decide +kernel
theorem d_Mo_likesOf_34 : decode b_Mo_likesOf 34 = .ok (.imul, 1) := by decide +kernel
theorem d_Mo_likesOf_35 : decode b_Mo_likesOf 35 = .ok (.iload 4, 2) := by decide +kernel
theorem d_Mo_likesOf_37 : decode b_Mo_likesOf 37 = .ok (.iadd, 1) := by decide +kernel
theorem d_Mo_likesOf_38 : decode b_Mo_likesOf 38 = .ok (.iaload, 1) := by decide +kernel
theorem d_Mo_likesOf_39 : decode b_Mo_likesOf 39 = .ok (.goto 4, 3) := by decide +kernel
theorem d_Mo_likesOf_42 : decode b_Mo_likesOf 42 = .ok (.iconst 0, 1) := by decide +kernel
theorem d_Mo_likesOf_43 : decode b_Mo_likesOf 43 = .ok (.iadd, 1) := by decide +kernel
theorem d_Mo_likesOf_44 : decode b_Mo_likesOf 44 = .ok (.istore_n 3, 1) := by decide +kernel
theorem d_Mo_likesOf_45 : decode b_Mo_likesOf 45 = .ok (.iinc 4 1, 3) := by decide +kernel
theorem d_Mo_likesOf_48 : decode b_Mo_likesOf 48 = .ok (.goto (-43), 3) := by decide +kernel
theorem d_Mo_likesOf_51 : decode b_Mo_likesOf 51 = .ok (.iload_n 3, 1) := by decide +kernel
theorem d_Mo_likesOf_52 : decode b_Mo_likesOf 52 = .ok (.ireturn, 1) := by decide +kernel
theorem o_Mo_likesOf : OkV y_Mo_likesOf "OwnsLiftModel" b_Mo_likesOf 5 (some .int) 2 := ⟨⟨rfl, by decide +kernel, by decide +kernel, by decide +kernel⟩, g_1284, g_57, g_81, g_1285⟩
set_option maxHeartbeats 4000000 in
set_option maxRecDepth 100000 in
theorem c_Mo_likesOf (l : Launch) (D : va_G) (g : Nat → ClassId) (a : Nat → Nat) (x1 : Int32) (x2 : Int32) (z : T_Mo) (v : Int32) (h : d_Mo_likesOf x1 x2 z = some v) :
    MI l y_Mo_likesOf b_Mo_likesOf 5 .int ({ frames := 0, cells := 0, slots := 0, locals := 0 } : Room) D g [.ref (a 0), .int x1, .int x2] (ws_Mo g a z) (v) (ws_Mo g a z) := by
  have hd := h
  unfold d_Mo_likesOf at hd
  refine enterI rfl (Nat.le_of_ble_eq_true rfl) (fun p e s m below meth c A ls hx hb hml hr hown hg hlk hK hA hP hD hS hCs hl => ?_)
  have hown : s.vm.findClass "OwnsLiftModel" = some m.cls := hown
  have hl : lv_has ls 5 [(0, .ref (a 0)), (1, .int x1), (2, .int x2)] := hl
  show GI p l e s m ({ frames := 0, cells := 0, slots := 0, locals := 0 } : Room) ([.ref (a 0), .int x1, .int x2] : List Value).toArray below meth c A D g (ws_Mo g a z) (v) s.heap [] (F0 m 0 ls [])
  refine lv_iconst (v := 0) hx hb d_Mo_likesOf_0 (by decide) ?_
  refine lv_istore_n (lv' := [(3, .int 0), (0, .ref (a 0)), (1, .int x1), (2, .int x2)]) hx hb d_Mo_likesOf_1 rfl hl (by decide) rfl (fun ls hl => ?_)
  refine lv_iconst (v := 0) hx hb d_Mo_likesOf_2 (by decide) ?_
  refine lv_istore (lv' := [(4, .int 0), (3, .int 0), (0, .ref (a 0)), (1, .int x1), (2, .int x2)]) hx hb d_Mo_likesOf_3 hl (by decide) rfl (fun ls hl => ?_)
  have lp5 : ∀ (x1_f5 : Int32) (x2_f5 : Int32) (n : Nat) (x3_5 : Int32) (x4_5 : Int32) (H : Heap) (locs : List Loc) (ls : Array Slot), va_P D classes (ws_Mo g a z) H → va_D A (ws_Mo g a z) → va_S A s.heap H locs → lv_has ls 5 [(0, .ref (a 0)), (1, .int x1_f5), (2, .int x2_f5), (3, .int x3_5), (4, .int x4_5)] → d_Mo_likesOf_L5 x1_f5 x2_f5 z n x3_5 x4_5 = some v → GI p l e s m ({ frames := 0, cells := 0, slots := 0, locals := 0 } : Room) ([.ref (a 0), .int x1, .int x2] : List Value).toArray below meth c A D g (ws_Mo g a z) (v) H locs (F0 m 5 ls []) := by
    intro x1_f5 x2_f5 n
    induction n with
    | zero =>
      intro  x3_5 x4_5 H locs ls hP hD hS hl hd
      have hd : none = some v := hd
      cases hd
    | succ n ih5 =>
      intro  x3_5 x4_5 H locs ls hP hD hS hl hd
      have hd : B_Mo_likesOf_L5 x1_f5 x2_f5 z (d_Mo_likesOf_L5 x1_f5 x2_f5 z n) x3_5 x4_5 = some v := hd
      generalize d_Mo_likesOf_L5 x1_f5 x2_f5 z n = self5 at ih5 hd
      unfold B_Mo_likesOf_L5 at hd
      refine lv_iload hx hb d_Mo_likesOf_5 (lv_at hl 4 rfl) ?_
      refine lv_aload_n hx hb d_Mo_likesOf_7 rfl (lv_at hl 0 rfl) ?_
      refine va_get (D := D) (ci := 1) (v := .ref (a 1)) (C := R_Mo) (T := F_Mo) (N := 26) hx hb hg i_Mo hown hK hP 0 rfl rfl 1 (by decide) (hg _ g_993) (fun _ h9 => h9) rfl d_Mo_likesOf_8 ?_
      refine lv_iconst (v := 1) hx hb d_Mo_likesOf_11 (by decide) ?_
      refine ialdK hx hb hK hP 1 0 rfl rfl (inb_t (by decide +kernel)) (k := 1) (by decide +kernel) d_Mo_likesOf_12 ?_
      refine lv_icmp_ge (tgt := 51) hx hb d_Mo_likesOf_13 (by decide) (fun h_1 => ?_) (fun h_1 => ?_)
      · have hd := ite_t hd h_1
        refine lv_iload_n hx hb d_Mo_likesOf_51 rfl (lv_at hl 3 rfl) ?_
        obtain rfl := Option.some.inj hd
        exact retI hx hb hr hlk hK hP hD hS d_Mo_likesOf_52 rfl
      · have hd := ite_f hd h_1
        refine lv_iload_n hx hb d_Mo_likesOf_16 rfl (lv_at hl 3 rfl) ?_
        refine lv_iload_n hx hb d_Mo_likesOf_17 rfl (lv_at hl 2 rfl) ?_
        refine lv_iload hx hb d_Mo_likesOf_18 (lv_at hl 4 rfl) ?_
        refine lv_ishr hx hb d_Mo_likesOf_20 ?_
        refine lv_iconst (v := 1) hx hb d_Mo_likesOf_21 (by decide) ?_
        refine lv_iand hx hb d_Mo_likesOf_22 ?_
        refine lv_iconst (v := 1) hx hb d_Mo_likesOf_23 (by decide) ?_
        refine lv_icmp_ne (tgt := 42) hx hb d_Mo_likesOf_24 (by decide) (fun h_2 => ?_) (fun h_2 => ?_)
        · have hd := ite_f hd h_2
          refine lv_iconst (v := 0) hx hb d_Mo_likesOf_42 (by decide) ?_
          refine lv_iadd hx hb d_Mo_likesOf_43 ?_
          refine lv_istore_n (lv' := [(3, .int (x3_5 + 0)), (0, .ref (a 0)), (1, .int x1_f5), (2, .int x2_f5), (4, .int x4_5)]) hx hb d_Mo_likesOf_44 rfl hl (by decide) rfl (fun ls hl => ?_)
          refine lv_iinc (v := x4_5 + 1) (lv' := [(4, .int (x4_5 + 1)), (3, .int (x3_5 + 0)), (0, .ref (a 0)), (1, .int x1_f5), (2, .int x2_f5)]) hx hb d_Mo_likesOf_45 hl (k := 4) rfl (by rfl) (by decide) rfl (fun ls hl => ?_)
          refine lv_goto (tgt := 5) hx hb d_Mo_likesOf_48 (by decide) ?_
          exact ih5 (x3_5 + 0) (x4_5 + 1) _ _ _ hP hD hS (lv_sub hl [2, 3, 4, 1, 0] rfl) hd
        · have hd := ite_t hd h_2
          refine lv_aload_n hx hb d_Mo_likesOf_27 rfl (lv_at hl 0 rfl) ?_
          refine va_get (D := D) (ci := 1) (v := .ref (a 6)) (C := R_Mo) (T := F_Mo) (N := 26) hx hb hg i_Mo hown hK hP 0 rfl rfl 12 (by decide) (hg _ g_1004) (fun _ h9 => h9) rfl d_Mo_likesOf_28 ?_
          refine lv_bipush (v := 7) hx hb d_Mo_likesOf_31 (by decide) ?_
          refine lv_iload_n hx hb d_Mo_likesOf_33 rfl (lv_at hl 1 rfl) ?_
          refine lv_imul hx hb d_Mo_likesOf_34 ?_
          refine lv_iload hx hb d_Mo_likesOf_35 (lv_at hl 4 rfl) ?_
          refine lv_iadd hx hb d_Mo_likesOf_37 ?_
          obtain ⟨h_3, hd⟩ := ite_s hd
          refine ialdK hx hb hK hP 6 0 rfl rfl (inb_t h_3) rfl d_Mo_likesOf_38 ?_
          refine lv_goto (tgt := 43) hx hb d_Mo_likesOf_39 (by decide) ?_
          refine lv_iadd hx hb d_Mo_likesOf_43 ?_
          refine lv_istore_n (lv' := [(3, .int (x3_5 + ((q_Mo_likes z) ((7 * x1_f5) + x4_5).toNatClampNeg))), (0, .ref (a 0)), (1, .int x1_f5), (2, .int x2_f5), (4, .int x4_5)]) hx hb d_Mo_likesOf_44 rfl hl (by decide) rfl (fun ls hl => ?_)
          refine lv_iinc (v := x4_5 + 1) (lv' := [(4, .int (x4_5 + 1)), (3, .int (x3_5 + ((q_Mo_likes z) ((7 * x1_f5) + x4_5).toNatClampNeg))), (0, .ref (a 0)), (1, .int x1_f5), (2, .int x2_f5)]) hx hb d_Mo_likesOf_45 hl (k := 4) rfl (by rfl) (by decide) rfl (fun ls hl => ?_)
          refine lv_goto (tgt := 5) hx hb d_Mo_likesOf_48 (by decide) ?_
          exact ih5 (x3_5 + ((q_Mo_likes z) ((7 * x1_f5) + x4_5).toNatClampNeg)) (x4_5 + 1) _ _ _ hP hD hS (lv_sub hl [2, 3, 4, 1, 0] rfl) hd
  exact lp5 x1 x2 1000 0 0 _ _ _ hP hD hS (lv_sub hl [2, 3, 4, 1, 0] rfl) hd
-- OwnsLiftModel.gives(II)I
def B_Mo_gives_L38 (x1_f38 : Int32) (x2_f38 : Int32) (x3_f38 : Int32) (z_f38 : T_Mo) (k38_142 : Int32 → Int32 → Option (Int32 × T_Mo)) (self38 : Int32 → Int32 → Int32 → Option (Int32 × T_Mo)) (x4_38 : Int32) (x5_38 : Int32) (x6_38 : Int32) : Option (Int32 × T_Mo) :=
  if ((1 : Int32) <<< (((q_Mo_s z_f38) 1) &&& 31)) ≤ x6_38 then (k38_142 x4_38 x5_38) else (if (x6_38 &&& (x3_f38 ^^^ (-1))) = 0 then ((d_Mo_weightsOf (x3_f38 &&& (x6_38 ^^^ (-1))) z_f38).bind fun v_13 => if inb x1_f38 4 = true then (if ((q_Mo_lifts z_f38) x1_f38.toNatClampNeg) < v_13 then (self38 x4_38 x5_38 (x6_38 + 1)) else ((d_Mo_likesOf x1_f38 x6_38 z_f38).bind fun v_16 => if x4_38 = (-1) then (self38 x6_38 v_16 (x6_38 + 1)) else (if x5_38 ≤ v_16 then (self38 x4_38 x5_38 (x6_38 + 1)) else (self38 x6_38 v_16 (x6_38 + 1))))) else none) else (self38 x4_38 x5_38 (x6_38 + 1)))
def d_Mo_gives_L38 (x1_f38 : Int32) (x2_f38 : Int32) (x3_f38 : Int32) (z_f38 : T_Mo) (k38_142 : Int32 → Int32 → Option (Int32 × T_Mo)) (n : Nat) : Int32 → Int32 → Int32 → Option (Int32 × T_Mo) := recN (fun _ _ _ => none) (fun self => B_Mo_gives_L38 x1_f38 x2_f38 x3_f38 z_f38 k38_142 self) n
def d_Mo_gives (x1 : Int32) (x2 : Int32) (z : T_Mo) : Option (Int32 × T_Mo) :=
  (d_Mo_isPerson x1 z).bind fun v_1 => if v_1 = 0 then (some ((-1), z)) else ((d_Mo_in x2 0 1).bind fun v_4 => if v_4 = 0 then (some ((-1), z)) else ((d_Mo_looksForAll z).bind fun v_7 => (d_Mo_thingsOf x1 v_7).bind fun v_9 => d_Mo_gives_L38 x1 x2 v_9 v_7 (fun x4_38 x5_38 => if x2 = 0 then (some (x4_38, v_7)) else (some (x5_38, v_7))) 1000 (-1) 0 0))
theorem d_Mo_gives_0 : decode b_Mo_gives 0 = .ok (.aload_n 0, 1) := by decide +kernel
theorem d_Mo_gives_1 : decode b_Mo_gives 1 = .ok (.iload_n 1, 1) := by decide +kernel
theorem d_Mo_gives_2 : decode b_Mo_gives 2 = .ok (.invokevirtual 147, 3) := by decide +kernel
theorem d_Mo_gives_5 : decode b_Mo_gives 5 = .ok (.ifCond .eq 12, 3) := by decide +kernel
theorem d_Mo_gives_8 : decode b_Mo_gives 8 = .ok (.iload_n 2, 1) := by decide +kernel
theorem d_Mo_gives_9 : decode b_Mo_gives 9 = .ok (.iconst 0, 1) := by decide +kernel
theorem d_Mo_gives_10 : decode b_Mo_gives 10 = .ok (.iconst 1, 1) := by decide +kernel
theorem d_Mo_gives_11 : decode b_Mo_gives 11 = .ok (.invokestatic 50, 3) := by decide +kernel
theorem d_Mo_gives_14 : decode b_Mo_gives 14 = .ok (.ifCond .ne 5, 3) := by decide +kernel
theorem d_Mo_gives_17 : decode b_Mo_gives 17 = .ok (.iconst (-1), 1) := by decide +kernel
theorem d_Mo_gives_18 : decode b_Mo_gives 18 = .ok (.ireturn, 1) := by decide +kernel
theorem d_Mo_gives_19 : decode b_Mo_gives 19 = .ok (.aload_n 0, 1) := by decide +kernel
theorem d_Mo_gives_20 : decode b_Mo_gives 20 = .ok (.invokevirtual 178, 3) := by decide +kernel
theorem d_Mo_gives_23 : decode b_Mo_gives 23 = .ok (.aload_n 0, 1) := by decide +kernel
theorem d_Mo_gives_24 : decode b_Mo_gives 24 = .ok (.iload_n 1, 1) := by decide +kernel
theorem d_Mo_gives_25 : decode b_Mo_gives 25 = .ok (.invokevirtual 157, 3) := by decide +kernel
theorem d_Mo_gives_28 : decode b_Mo_gives 28 = .ok (.istore_n 3, 1) := by decide +kernel
theorem d_Mo_gives_29 : decode b_Mo_gives 29 = .ok (.iconst (-1), 1) := by decide +kernel
theorem d_Mo_gives_30 : decode b_Mo_gives 30 = .ok (.istore 4, 2) := by decide +kernel
theorem d_Mo_gives_32 : decode b_Mo_gives 32 = .ok (.iconst 0, 1) := by decide +kernel
theorem d_Mo_gives_33 : decode b_Mo_gives 33 = .ok (.istore 5, 2) := by decide +kernel
theorem d_Mo_gives_35 : decode b_Mo_gives 35 = .ok (.iconst 0, 1) := by decide +kernel
theorem d_Mo_gives_36 : decode b_Mo_gives 36 = .ok (.istore 6, 2) := by decide +kernel
theorem d_Mo_gives_38 : decode b_Mo_gives 38 = .ok (.iload 6, 2) := by decide +kernel
theorem d_Mo_gives_40 : decode b_Mo_gives 40 = .ok (.iconst 1, 1) := by decide +kernel
theorem d_Mo_gives_41 : decode b_Mo_gives 41 = .ok (.aload_n 0, 1) := by decide +kernel
theorem d_Mo_gives_42 : decode b_Mo_gives 42 = .ok (.getfield 9, 3) := by decide +kernel
theorem d_Mo_gives_45 : decode b_Mo_gives 45 = .ok (.iconst 1, 1) := by decide +kernel
theorem d_Mo_gives_46 : decode b_Mo_gives 46 = .ok (.iaload, 1) := by decide +kernel
theorem d_Mo_gives_47 : decode b_Mo_gives 47 = .ok (.ishl, 1) := by decide +kernel
theorem d_Mo_gives_48 : decode b_Mo_gives 48 = .ok (.if_icmp .ge 94, 3) := by decide +kernel
theorem d_Mo_gives_51 : decode b_Mo_gives 51 = .ok (.iload 6, 2) := by decide +kernel
theorem d_Mo_gives_53 : decode b_Mo_gives 53 = .ok (.iload_n 3, 1) := by decide +kernel
theorem d_Mo_gives_54 : decode b_Mo_gives 54 = .ok (.iconst (-1), 1) := by decide +kernel
theorem d_Mo_gives_55 : decode b_Mo_gives 55 = .ok (.ixor, 1) := by decide +kernel
theorem d_Mo_gives_56 : decode b_Mo_gives 56 = .ok (.iand, 1) := by decide +kernel
theorem d_Mo_gives_57 : decode b_Mo_gives 57 = .ok (.ifCond .ne 79, 3) := by decide +kernel
theorem d_Mo_gives_60 : decode b_Mo_gives 60 = .ok (.aload_n 0, 1) := by decide +kernel
theorem d_Mo_gives_61 : decode b_Mo_gives 61 = .ok (.iload_n 3, 1) := by decide +kernel
theorem d_Mo_gives_62 : decode b_Mo_gives 62 = .ok (.iload 6, 2) := by decide +kernel
theorem d_Mo_gives_64 : decode b_Mo_gives 64 = .ok (.iconst (-1), 1) := by decide +kernel
theorem d_Mo_gives_65 : decode b_Mo_gives 65 = .ok (.ixor, 1) := by decide +kernel
theorem d_Mo_gives_66 : decode b_Mo_gives 66 = .ok (.iand, 1) := by decide +kernel
theorem d_Mo_gives_67 : decode b_Mo_gives 67 = .ok (.invokevirtual 204, 3) := by decide +kernel
theorem d_Mo_gives_70 : decode b_Mo_gives 70 = .ok (.aload_n 0, 1) := by decide +kernel
theorem d_Mo_gives_71 : decode b_Mo_gives 71 = .ok (.getfield 31, 3) := by decide +kernel
theorem d_Mo_gives_74 : decode b_Mo_gives 74 = .ok (.iload_n 1, 1) := by decide +kernel
theorem d_Mo_gives_75 : decode b_Mo_gives 75 = .ok (.iaload, 1) := by decide +kernel
theorem d_Mo_gives_76 : decode b_Mo_gives 76 = .ok (.if_icmp .gt 60, 3) := by decide +kernel
theorem d_Mo_gives_79 : decode b_Mo_gives 79 = .ok (.aload_n 0, 1) := by decide +kernel
theorem d_Mo_gives_80 : decode b_Mo_gives 80 = .ok (.iload_n 1, 1) := by decide +kernel
theorem d_Mo_gives_81 : decode b_Mo_gives 81 = .ok (.iload 6, 2) := by decide +kernel
theorem d_Mo_gives_83 : decode b_Mo_gives 83 = .ok (.invokevirtual 207, 3) := by decide +kernel
theorem d_Mo_gives_86 : decode b_Mo_gives 86 = .ok (.istore 7, 2) := by decide +kernel
theorem d_Mo_gives_88 : decode b_Mo_gives 88 = .ok (.iload 4, 2) := by decide +kernel
theorem d_Mo_gives_90 : decode b_Mo_gives 90 = .ok (.iconst (-1), 1) := by decide +kernel
theorem d_Mo_gives_91 : decode b_Mo_gives 91 = .ok (.if_icmp .eq 10, 3) := by decide +kernel
theorem d_Mo_gives_94 : decode b_Mo_gives 94 = .ok (.iload 7, 2) := by decide +kernel
theorem d_Mo_gives_96 : decode b_Mo_gives 96 = .ok (.iload 5, 2) := by decide +kernel
theorem d_Mo_gives_98 : decode b_Mo_gives 98 = .ok (.if_icmp .ge 7, 3) := by decide +kernel
theorem d_Mo_gives_101 : decode b_Mo_gives 101 = .ok (.iconst 1, 1) := by decide +kernel
theorem d_Mo_gives_102 : decode b_Mo_gives 102 = .ok (.goto 4, 3) := by decide +kernel
theorem d_Mo_gives_105 : decode b_Mo_gives 105 = .ok (.iconst 0, 1) := by decide +kernel
theorem d_Mo_gives_106 : decode b_Mo_gives 106 = .ok (.istore 8, 2) := by decide +kernel
theorem d_Mo_gives_108 : decode b_Mo_gives 108 = .ok (.iload 8, 2) := by decide +kernel
theorem d_Mo_gives_110 : decode b_Mo_gives 110 = .ok (.ifCond .eq 8, 3) := by decide +kernel
theorem d_Mo_gives_113 : decode b_Mo_gives 113 = .ok (.iload 6, 2) := by decide +kernel
theorem d_Mo_gives_115 : decode b_Mo_gives 115 = .ok (.goto 5, 3) := by decide +kernel
theorem d_Mo_gives_118 : decode b_Mo_gives 118 = .ok (.iload 4, 2) := by decide +kernel
theorem d_Mo_gives_120 : decode b_Mo_gives 120 = .ok (.istore 4, 2) := by decide +kernel
theorem d_Mo_gives_122 : decode b_Mo_gives 122 = .ok (.iload 8, 2) := by decide +kernel
theorem d_Mo_gives_124 : decode b_Mo_gives 124 = .ok (.ifCond .eq 8, 3) := by decide +kernel
theorem d_Mo_gives_127 : decode b_Mo_gives 127 = .ok (.iload 7, 2) := by decide +kernel
theorem d_Mo_gives_129 : decode b_Mo_gives 129 = .ok (.goto 5, 3) := by decide +kernel
theorem d_Mo_gives_132 : decode b_Mo_gives 132 = .ok (.iload 5, 2) := by decide +kernel
theorem d_Mo_gives_134 : decode b_Mo_gives 134 = .ok (.istore 5, 2) := by decide +kernel
theorem d_Mo_gives_136 : decode b_Mo_gives 136 = .ok (.iinc 6 1, 3) := by decide +kernel
theorem d_Mo_gives_139 : decode b_Mo_gives 139 = .ok (.goto (-101), 3) := by decide +kernel
theorem d_Mo_gives_142 : decode b_Mo_gives 142 = .ok (.iload_n 2, 1) := by decide +kernel
theorem d_Mo_gives_143 : decode b_Mo_gives 143 = .ok (.ifCond .ne 8, 3) := by decide +kernel
theorem d_Mo_gives_146 : decode b_Mo_gives 146 = .ok (.iload 4, 2) := by decide +kernel
theorem d_Mo_gives_148 : decode b_Mo_gives 148 = .ok (.goto 5, 3) := by decide +kernel
theorem d_Mo_gives_151 : decode b_Mo_gives 151 = .ok (.iload 5, 2) := by decide +kernel
theorem d_Mo_gives_153 : decode b_Mo_gives 153 = .ok (.ireturn, 1) := by decide +kernel
theorem o_Mo_gives : OkV y_Mo_gives "OwnsLiftModel" b_Mo_gives 9 (some .int) 2 := ⟨⟨rfl, by decide +kernel, by decide +kernel, by decide +kernel⟩, g_1275, g_1276, g_81, g_1277⟩
set_option maxHeartbeats 4000000 in
set_option maxRecDepth 100000 in
theorem c_Mo_gives (l : Launch) (D : va_G) (g : Nat → ClassId) (a : Nat → Nat) (x1 : Int32) (x2 : Int32) (z : T_Mo) (v : Int32 × T_Mo) (h : d_Mo_gives x1 x2 z = some v) :
    MI l y_Mo_gives b_Mo_gives 9 .int ({ frames := 4, cells := 0, slots := 0, locals := 97 } : Room) D g [.ref (a 0), .int x1, .int x2] (ws_Mo g a z) (v.1) (ws_Mo g a v.2) := by
  have hd := h
  unfold d_Mo_gives at hd
  refine enterI rfl (Nat.le_of_ble_eq_true rfl) (fun p e s m below meth c A ls hx hb hml hr hown hg hlk hK hA hP hD hS hCs hl => ?_)
  have hown : s.vm.findClass "OwnsLiftModel" = some m.cls := hown
  have hl : lv_has ls 9 [(0, .ref (a 0)), (1, .int x1), (2, .int x2)] := hl
  show GI p l e s m ({ frames := 4, cells := 0, slots := 0, locals := 97 } : Room) ([.ref (a 0), .int x1, .int x2] : List Value).toArray below meth c A D g (ws_Mo g a v.2) (v.1) s.heap [] (F0 m 0 ls [])
  refine lv_aload_n hx hb d_Mo_gives_0 rfl (lv_at hl 0 rfl) ?_
  refine lv_iload_n hx hb d_Mo_gives_1 rfl (lv_at hl 1 rfl) ?_
  obtain ⟨v_1, e_2, hd⟩ := bind_s hd
  refine callVI (ws' := ws_Mo g a z) (rest := []) (As := [.int x1]) hx hb hml hown hg hK hP hD hS hA hCs hl.1 (c_Mo_isPerson l D g a x1 z _ e_2) o_Mo_isPerson g_1147 (ci := 1) (q0 := 0) rfl rfl (List.range' 0 12) (segC1 rfl rfl) (by decide) rfl (segP1 rfl rfl) rfl rfl (Nat.le_of_ble_eq_true rfl) ⟨rfl, rfl, Nat.le_of_ble_eq_true rfl, Nat.le_of_ble_eq_true rfl⟩ d_Mo_gives_2 (fun H locs hP hD hS => ?_)
  refine lv_if_eq (tgt := 17) hx hb d_Mo_gives_5 (by decide) (fun h_3 => ?_) (fun h_3 => ?_)
  · have hd := ite_t hd h_3
    refine lv_iconst (v := (-1)) hx hb d_Mo_gives_17 (by decide) ?_
    obtain rfl := Option.some.inj hd
    exact retI hx hb hr hlk hK hP hD hS d_Mo_gives_18 rfl
  · have hd := ite_f hd h_3
    refine lv_iload_n hx hb d_Mo_gives_8 rfl (lv_at hl 2 rfl) ?_
    refine lv_iconst (v := 0) hx hb d_Mo_gives_9 (by decide) ?_
    refine lv_iconst (v := 1) hx hb d_Mo_gives_10 (by decide) ?_
    obtain ⟨v_4, e_5, hd⟩ := bind_s hd
    refine callSI (ws' := ws_Mo g a z) (rest := []) (As := [.int x2, .int 0, .int 1]) hx hb hml hown hg hK hP hD hS hA hCs hl.1 (c_Mo_in l D g  x2 0 1 _ e_5) o_Mo_in g_1076 [] segC0 rfl rfl segP0 rfl rfl (Nat.le_of_ble_eq_true rfl) ⟨rfl, rfl, Nat.le_of_ble_eq_true rfl, Nat.le_of_ble_eq_true rfl⟩ d_Mo_gives_11 (fun H locs hP hD hS => ?_)
    refine lv_if_ne (tgt := 19) hx hb d_Mo_gives_14 (by decide) (fun h_6 => ?_) (fun h_6 => ?_)
    · have hd := ite_f hd h_6
      refine lv_aload_n hx hb d_Mo_gives_19 rfl (lv_at hl 0 rfl) ?_
      obtain ⟨v_7, e_8, hd⟩ := bind_s hd
      refine callVV (ws' := ws_Mo g a v_7) (rest := []) (As := []) hx hb hml hown hg hK hP hD hS hA hCs hl.1 (c_Mo_looksForAll l D g a z _ e_8) o_Mo_looksForAll g_1218 (ci := 1) (q0 := 0) rfl rfl (List.range' 0 12) (segC1 rfl rfl) (by decide) rfl (segP1 rfl rfl) rfl rfl (Nat.le_of_ble_eq_true rfl) ⟨rfl, rfl, Nat.le_of_ble_eq_true rfl, Nat.le_of_ble_eq_true rfl⟩ d_Mo_gives_20 (fun H locs hP hD hS => ?_)
      refine lv_aload_n hx hb d_Mo_gives_23 rfl (lv_at hl 0 rfl) ?_
      refine lv_iload_n hx hb d_Mo_gives_24 rfl (lv_at hl 1 rfl) ?_
      obtain ⟨v_9, e_10, hd⟩ := bind_s hd
      refine callVI (ws' := ws_Mo g a v_7) (rest := []) (As := [.int x1]) hx hb hml hown hg hK hP hD hS hA hCs hl.1 (c_Mo_thingsOf l D g a x1 v_7 _ e_10) o_Mo_thingsOf g_1171 (ci := 1) (q0 := 0) rfl rfl (List.range' 0 12) (segC1 rfl rfl) (by decide) rfl (segP1 rfl rfl) rfl rfl (Nat.le_of_ble_eq_true rfl) ⟨rfl, rfl, Nat.le_of_ble_eq_true rfl, Nat.le_of_ble_eq_true rfl⟩ d_Mo_gives_25 (fun H locs hP hD hS => ?_)
      refine lv_istore_n (lv' := [(3, .int v_9), (0, .ref (a 0)), (1, .int x1), (2, .int x2)]) hx hb d_Mo_gives_28 rfl hl (by decide) rfl (fun ls hl => ?_)
      refine lv_iconst (v := (-1)) hx hb d_Mo_gives_29 (by decide) ?_
      refine lv_istore (lv' := [(4, .int (-1)), (3, .int v_9), (0, .ref (a 0)), (1, .int x1), (2, .int x2)]) hx hb d_Mo_gives_30 hl (by decide) rfl (fun ls hl => ?_)
      refine lv_iconst (v := 0) hx hb d_Mo_gives_32 (by decide) ?_
      refine lv_istore (lv' := [(5, .int 0), (4, .int (-1)), (3, .int v_9), (0, .ref (a 0)), (1, .int x1), (2, .int x2)]) hx hb d_Mo_gives_33 hl (by decide) rfl (fun ls hl => ?_)
      refine lv_iconst (v := 0) hx hb d_Mo_gives_35 (by decide) ?_
      refine lv_istore (lv' := [(6, .int 0), (5, .int 0), (4, .int (-1)), (3, .int v_9), (0, .ref (a 0)), (1, .int x1), (2, .int x2)]) hx hb d_Mo_gives_36 hl (by decide) rfl (fun ls hl => ?_)
      have ex38_142 : ∀ (x4_38 : Int32) (x5_38 : Int32) (H : Heap) (locs : List Loc) (ls : Array Slot), va_P D classes (ws_Mo g a v_7) H → va_D A (ws_Mo g a v_7) → va_S A s.heap H locs → lv_has ls 9 [(2, .int x2), (4, .int x4_38), (5, .int x5_38)] → (if x2 = 0 then (some (x4_38, v_7)) else (some (x5_38, v_7))) = some v → GI p l e s m ({ frames := 4, cells := 0, slots := 0, locals := 97 } : Room) ([.ref (a 0), .int x1, .int x2] : List Value).toArray below meth c A D g (ws_Mo g a v.2) (v.1) H locs (F0 m 142 ls []) := by
        intro x4_38 x5_38 H locs ls hP hD hS hl hd
        refine lv_iload_n hx hb d_Mo_gives_142 rfl (lv_at hl 0 rfl) ?_
        refine lv_if_ne (tgt := 151) hx hb d_Mo_gives_143 (by decide) (fun h_21 => ?_) (fun h_21 => ?_)
        · have hd := ite_f hd h_21
          refine lv_iload hx hb d_Mo_gives_151 (lv_at hl 2 rfl) ?_
          obtain rfl := Option.some.inj hd
          exact retI hx hb hr hlk hK hP hD hS d_Mo_gives_153 rfl
        · have hd := ite_t hd h_21
          refine lv_iload hx hb d_Mo_gives_146 (lv_at hl 1 rfl) ?_
          refine lv_goto (tgt := 153) hx hb d_Mo_gives_148 (by decide) ?_
          obtain rfl := Option.some.inj hd
          exact retI hx hb hr hlk hK hP hD hS d_Mo_gives_153 rfl
      have lp38 : ∀ (x1_f38 : Int32) (x2_f38 : Int32) (x3_f38 : Int32) (z_f38 : T_Mo) (k38_142 : Int32 → Int32 → Option (Int32 × T_Mo)) (hk38_142 : ∀ (x4_38 : Int32) (x5_38 : Int32) (H : Heap) (locs : List Loc) (ls : Array Slot), va_P D classes (ws_Mo g a z_f38) H → va_D A (ws_Mo g a z_f38) → va_S A s.heap H locs → lv_has ls 9 [(2, .int x2_f38), (4, .int x4_38), (5, .int x5_38)] → k38_142 x4_38 x5_38 = some v → GI p l e s m ({ frames := 4, cells := 0, slots := 0, locals := 97 } : Room) ([.ref (a 0), .int x1, .int x2] : List Value).toArray below meth c A D g (ws_Mo g a v.2) (v.1) H locs (F0 m 142 ls [])) (n : Nat) (x4_38 : Int32) (x5_38 : Int32) (x6_38 : Int32) (H : Heap) (locs : List Loc) (ls : Array Slot), va_P D classes (ws_Mo g a z_f38) H → va_D A (ws_Mo g a z_f38) → va_S A s.heap H locs → lv_has ls 9 [(0, .ref (a 0)), (1, .int x1_f38), (2, .int x2_f38), (3, .int x3_f38), (4, .int x4_38), (5, .int x5_38), (6, .int x6_38)] → d_Mo_gives_L38 x1_f38 x2_f38 x3_f38 z_f38 k38_142 n x4_38 x5_38 x6_38 = some v → GI p l e s m ({ frames := 4, cells := 0, slots := 0, locals := 97 } : Room) ([.ref (a 0), .int x1, .int x2] : List Value).toArray below meth c A D g (ws_Mo g a v.2) (v.1) H locs (F0 m 38 ls []) := by
        intro x1_f38 x2_f38 x3_f38 z_f38 k38_142 hk38_142 n
        induction n with
        | zero =>
          intro  x4_38 x5_38 x6_38 H locs ls hP hD hS hl hd
          have hd : none = some v := hd
          cases hd
        | succ n ih38 =>
          intro  x4_38 x5_38 x6_38 H locs ls hP hD hS hl hd
          have hd : B_Mo_gives_L38 x1_f38 x2_f38 x3_f38 z_f38 k38_142 (d_Mo_gives_L38 x1_f38 x2_f38 x3_f38 z_f38 k38_142 n) x4_38 x5_38 x6_38 = some v := hd
          generalize d_Mo_gives_L38 x1_f38 x2_f38 x3_f38 z_f38 k38_142 n = self38 at ih38 hd
          unfold B_Mo_gives_L38 at hd
          refine lv_iload hx hb d_Mo_gives_38 (lv_at hl 6 rfl) ?_
          refine lv_iconst (v := 1) hx hb d_Mo_gives_40 (by decide) ?_
          refine lv_aload_n hx hb d_Mo_gives_41 rfl (lv_at hl 0 rfl) ?_
          refine va_get (D := D) (ci := 1) (v := .ref (a 1)) (C := R_Mo) (T := F_Mo) (N := 26) hx hb hg i_Mo hown hK hP 0 rfl rfl 1 (by decide) (hg _ g_993) (fun _ h9 => h9) rfl d_Mo_gives_42 ?_
          refine lv_iconst (v := 1) hx hb d_Mo_gives_45 (by decide) ?_
          refine ialdK hx hb hK hP 1 0 rfl rfl (inb_t (by decide +kernel)) (k := 1) (by decide +kernel) d_Mo_gives_46 ?_
          refine lv_ishl hx hb d_Mo_gives_47 ?_
          refine lv_icmp_ge (tgt := 142) hx hb d_Mo_gives_48 (by decide) (fun h_11 => ?_) (fun h_11 => ?_)
          · have hd := ite_t hd h_11
            exact hk38_142 x4_38 x5_38 _ _ _ hP hD hS (lv_sub hl [2, 4, 5] rfl) hd
          · have hd := ite_f hd h_11
            refine lv_iload hx hb d_Mo_gives_51 (lv_at hl 6 rfl) ?_
            refine lv_iload_n hx hb d_Mo_gives_53 rfl (lv_at hl 3 rfl) ?_
            refine lv_iconst (v := (-1)) hx hb d_Mo_gives_54 (by decide) ?_
            refine lv_ixor hx hb d_Mo_gives_55 ?_
            refine lv_iand hx hb d_Mo_gives_56 ?_
            refine lv_if_ne (tgt := 136) hx hb d_Mo_gives_57 (by decide) (fun h_12 => ?_) (fun h_12 => ?_)
            · have hd := ite_f hd h_12
              refine lv_iinc (v := x6_38 + 1) (lv' := [(6, .int (x6_38 + 1)), (0, .ref (a 0)), (1, .int x1_f38), (2, .int x2_f38), (3, .int x3_f38), (4, .int x4_38), (5, .int x5_38)]) hx hb d_Mo_gives_136 hl (k := 6) rfl (by rfl) (by decide) rfl (fun ls hl => ?_)
              refine lv_goto (tgt := 38) hx hb d_Mo_gives_139 (by decide) ?_
              exact ih38 x4_38 x5_38 (x6_38 + 1) _ _ _ hP hD hS (lv_sub hl [1, 2, 3, 4, 5, 6, 0] rfl) hd
            · have hd := ite_t hd h_12
              refine lv_aload_n hx hb d_Mo_gives_60 rfl (lv_at hl 0 rfl) ?_
              refine lv_iload_n hx hb d_Mo_gives_61 rfl (lv_at hl 3 rfl) ?_
              refine lv_iload hx hb d_Mo_gives_62 (lv_at hl 6 rfl) ?_
              refine lv_iconst (v := (-1)) hx hb d_Mo_gives_64 (by decide) ?_
              refine lv_ixor hx hb d_Mo_gives_65 ?_
              refine lv_iand hx hb d_Mo_gives_66 ?_
              obtain ⟨v_13, e_14, hd⟩ := bind_s hd
              refine callVI (ws' := ws_Mo g a z_f38) (rest := []) (As := [.int (x3_f38 &&& (x6_38 ^^^ (-1)))]) hx hb hml hown hg hK hP hD hS hA hCs hl.1 (c_Mo_weightsOf l D g a (x3_f38 &&& (x6_38 ^^^ (-1))) z_f38 _ e_14) o_Mo_weightsOf g_1278 (ci := 1) (q0 := 0) rfl rfl (List.range' 0 12) (segC1 rfl rfl) (by decide) rfl (segP1 rfl rfl) rfl rfl (Nat.le_of_ble_eq_true rfl) ⟨rfl, rfl, Nat.le_of_ble_eq_true rfl, Nat.le_of_ble_eq_true rfl⟩ d_Mo_gives_67 (fun H locs hP hD hS => ?_)
              refine lv_aload_n hx hb d_Mo_gives_70 rfl (lv_at hl 0 rfl) ?_
              refine va_get (D := D) (ci := 1) (v := .ref (a 7)) (C := R_Mo) (T := F_Mo) (N := 26) hx hb hg i_Mo hown hK hP 0 rfl rfl 13 (by decide) (hg _ g_1005) (fun _ h9 => h9) rfl d_Mo_gives_71 ?_
              refine lv_iload_n hx hb d_Mo_gives_74 rfl (lv_at hl 1 rfl) ?_
              obtain ⟨h_20, hd⟩ := ite_s hd
              refine ialdK hx hb hK hP 7 0 rfl rfl (inb_t h_20) rfl d_Mo_gives_75 ?_
              refine lv_icmp_gt (tgt := 136) hx hb d_Mo_gives_76 (by decide) (fun h_15 => ?_) (fun h_15 => ?_)
              · have hd := ite_t hd h_15
                refine lv_iinc (v := x6_38 + 1) (lv' := [(6, .int (x6_38 + 1)), (0, .ref (a 0)), (1, .int x1_f38), (2, .int x2_f38), (3, .int x3_f38), (4, .int x4_38), (5, .int x5_38)]) hx hb d_Mo_gives_136 hl (k := 6) rfl (by rfl) (by decide) rfl (fun ls hl => ?_)
                refine lv_goto (tgt := 38) hx hb d_Mo_gives_139 (by decide) ?_
                exact ih38 x4_38 x5_38 (x6_38 + 1) _ _ _ hP hD hS (lv_sub hl [1, 2, 3, 4, 5, 6, 0] rfl) hd
              · have hd := ite_f hd h_15
                refine lv_aload_n hx hb d_Mo_gives_79 rfl (lv_at hl 0 rfl) ?_
                refine lv_iload_n hx hb d_Mo_gives_80 rfl (lv_at hl 1 rfl) ?_
                refine lv_iload hx hb d_Mo_gives_81 (lv_at hl 6 rfl) ?_
                obtain ⟨v_16, e_17, hd⟩ := bind_s hd
                refine callVI (ws' := ws_Mo g a z_f38) (rest := []) (As := [.int x1_f38, .int x6_38]) hx hb hml hown hg hK hP hD hS hA hCs hl.1 (c_Mo_likesOf l D g a x1_f38 x6_38 z_f38 _ e_17) o_Mo_likesOf g_1282 (ci := 1) (q0 := 0) rfl rfl (List.range' 0 12) (segC1 rfl rfl) (by decide) rfl (segP1 rfl rfl) rfl rfl (Nat.le_of_ble_eq_true rfl) ⟨rfl, rfl, Nat.le_of_ble_eq_true rfl, Nat.le_of_ble_eq_true rfl⟩ d_Mo_gives_83 (fun H locs hP hD hS => ?_)
                refine lv_istore (lv' := [(7, .int v_16), (0, .ref (a 0)), (1, .int x1_f38), (2, .int x2_f38), (3, .int x3_f38), (4, .int x4_38), (5, .int x5_38), (6, .int x6_38)]) hx hb d_Mo_gives_86 hl (by decide) rfl (fun ls hl => ?_)
                refine lv_iload hx hb d_Mo_gives_88 (lv_at hl 5 rfl) ?_
                refine lv_iconst (v := (-1)) hx hb d_Mo_gives_90 (by decide) ?_
                refine lv_icmp_eq (tgt := 101) hx hb d_Mo_gives_91 (by decide) (fun h_18 => ?_) (fun h_18 => ?_)
                · have hd := ite_t hd h_18
                  refine lv_iconst (v := 1) hx hb d_Mo_gives_101 (by decide) ?_
                  refine lv_goto (tgt := 106) hx hb d_Mo_gives_102 (by decide) ?_
                  refine lv_istore (lv' := [(8, .int 1), (7, .int v_16), (0, .ref (a 0)), (1, .int x1_f38), (2, .int x2_f38), (3, .int x3_f38), (4, .int x4_38), (5, .int x5_38), (6, .int x6_38)]) hx hb d_Mo_gives_106 hl (by decide) rfl (fun ls hl => ?_)
                  refine lv_iload hx hb d_Mo_gives_108 (lv_at hl 0 rfl) ?_
                  refine lv_if_eq (tgt := 118) hx hb d_Mo_gives_110 (by decide) (fun h9 => absurd h9 (by decide)) (fun _ => ?_)
                  refine lv_iload hx hb d_Mo_gives_113 (lv_at hl 8 rfl) ?_
                  refine lv_goto (tgt := 120) hx hb d_Mo_gives_115 (by decide) ?_
                  refine lv_istore (lv' := [(4, .int x6_38), (8, .int 1), (7, .int v_16), (0, .ref (a 0)), (1, .int x1_f38), (2, .int x2_f38), (3, .int x3_f38), (5, .int x5_38), (6, .int x6_38)]) hx hb d_Mo_gives_120 hl (by decide) rfl (fun ls hl => ?_)
                  refine lv_iload hx hb d_Mo_gives_122 (lv_at hl 1 rfl) ?_
                  refine lv_if_eq (tgt := 132) hx hb d_Mo_gives_124 (by decide) (fun h9 => absurd h9 (by decide)) (fun _ => ?_)
                  refine lv_iload hx hb d_Mo_gives_127 (lv_at hl 2 rfl) ?_
                  refine lv_goto (tgt := 134) hx hb d_Mo_gives_129 (by decide) ?_
                  refine lv_istore (lv' := [(5, .int v_16), (4, .int x6_38), (8, .int 1), (7, .int v_16), (0, .ref (a 0)), (1, .int x1_f38), (2, .int x2_f38), (3, .int x3_f38), (6, .int x6_38)]) hx hb d_Mo_gives_134 hl (by decide) rfl (fun ls hl => ?_)
                  refine lv_iinc (v := x6_38 + 1) (lv' := [(6, .int (x6_38 + 1)), (5, .int v_16), (4, .int x6_38), (8, .int 1), (7, .int v_16), (0, .ref (a 0)), (1, .int x1_f38), (2, .int x2_f38), (3, .int x3_f38)]) hx hb d_Mo_gives_136 hl (k := 8) rfl (by rfl) (by decide) rfl (fun ls hl => ?_)
                  refine lv_goto (tgt := 38) hx hb d_Mo_gives_139 (by decide) ?_
                  exact ih38 x6_38 v_16 (x6_38 + 1) _ _ _ hP hD hS (lv_sub hl [5, 6, 7, 8, 2, 1, 0] rfl) hd
                · have hd := ite_f hd h_18
                  refine lv_iload hx hb d_Mo_gives_94 (lv_at hl 0 rfl) ?_
                  refine lv_iload hx hb d_Mo_gives_96 (lv_at hl 6 rfl) ?_
                  refine lv_icmp_ge (tgt := 105) hx hb d_Mo_gives_98 (by decide) (fun h_19 => ?_) (fun h_19 => ?_)
                  · have hd := ite_t hd h_19
                    refine lv_iconst (v := 0) hx hb d_Mo_gives_105 (by decide) ?_
                    refine lv_istore (lv' := [(8, .int 0), (7, .int v_16), (0, .ref (a 0)), (1, .int x1_f38), (2, .int x2_f38), (3, .int x3_f38), (4, .int x4_38), (5, .int x5_38), (6, .int x6_38)]) hx hb d_Mo_gives_106 hl (by decide) rfl (fun ls hl => ?_)
                    refine lv_iload hx hb d_Mo_gives_108 (lv_at hl 0 rfl) ?_
                    refine lv_if_eq (tgt := 118) hx hb d_Mo_gives_110 (by decide) (fun _ => ?_) (fun h9 => absurd (by decide) h9)
                    refine lv_iload hx hb d_Mo_gives_118 (lv_at hl 6 rfl) ?_
                    refine lv_istore (lv' := [(4, .int x4_38), (8, .int 0), (7, .int v_16), (0, .ref (a 0)), (1, .int x1_f38), (2, .int x2_f38), (3, .int x3_f38), (5, .int x5_38), (6, .int x6_38)]) hx hb d_Mo_gives_120 hl (by decide) rfl (fun ls hl => ?_)
                    refine lv_iload hx hb d_Mo_gives_122 (lv_at hl 1 rfl) ?_
                    refine lv_if_eq (tgt := 132) hx hb d_Mo_gives_124 (by decide) (fun _ => ?_) (fun h9 => absurd (by decide) h9)
                    refine lv_iload hx hb d_Mo_gives_132 (lv_at hl 7 rfl) ?_
                    refine lv_istore (lv' := [(5, .int x5_38), (4, .int x4_38), (8, .int 0), (7, .int v_16), (0, .ref (a 0)), (1, .int x1_f38), (2, .int x2_f38), (3, .int x3_f38), (6, .int x6_38)]) hx hb d_Mo_gives_134 hl (by decide) rfl (fun ls hl => ?_)
                    refine lv_iinc (v := x6_38 + 1) (lv' := [(6, .int (x6_38 + 1)), (5, .int x5_38), (4, .int x4_38), (8, .int 0), (7, .int v_16), (0, .ref (a 0)), (1, .int x1_f38), (2, .int x2_f38), (3, .int x3_f38)]) hx hb d_Mo_gives_136 hl (k := 8) rfl (by rfl) (by decide) rfl (fun ls hl => ?_)
                    refine lv_goto (tgt := 38) hx hb d_Mo_gives_139 (by decide) ?_
                    exact ih38 x4_38 x5_38 (x6_38 + 1) _ _ _ hP hD hS (lv_sub hl [5, 6, 7, 8, 2, 1, 0] rfl) hd
                  · have hd := ite_f hd h_19
                    refine lv_iconst (v := 1) hx hb d_Mo_gives_101 (by decide) ?_
                    refine lv_goto (tgt := 106) hx hb d_Mo_gives_102 (by decide) ?_
                    refine lv_istore (lv' := [(8, .int 1), (7, .int v_16), (0, .ref (a 0)), (1, .int x1_f38), (2, .int x2_f38), (3, .int x3_f38), (4, .int x4_38), (5, .int x5_38), (6, .int x6_38)]) hx hb d_Mo_gives_106 hl (by decide) rfl (fun ls hl => ?_)
                    refine lv_iload hx hb d_Mo_gives_108 (lv_at hl 0 rfl) ?_
                    refine lv_if_eq (tgt := 118) hx hb d_Mo_gives_110 (by decide) (fun h9 => absurd h9 (by decide)) (fun _ => ?_)
                    refine lv_iload hx hb d_Mo_gives_113 (lv_at hl 8 rfl) ?_
                    refine lv_goto (tgt := 120) hx hb d_Mo_gives_115 (by decide) ?_
                    refine lv_istore (lv' := [(4, .int x6_38), (8, .int 1), (7, .int v_16), (0, .ref (a 0)), (1, .int x1_f38), (2, .int x2_f38), (3, .int x3_f38), (5, .int x5_38), (6, .int x6_38)]) hx hb d_Mo_gives_120 hl (by decide) rfl (fun ls hl => ?_)
                    refine lv_iload hx hb d_Mo_gives_122 (lv_at hl 1 rfl) ?_
                    refine lv_if_eq (tgt := 132) hx hb d_Mo_gives_124 (by decide) (fun h9 => absurd h9 (by decide)) (fun _ => ?_)
                    refine lv_iload hx hb d_Mo_gives_127 (lv_at hl 2 rfl) ?_
                    refine lv_goto (tgt := 134) hx hb d_Mo_gives_129 (by decide) ?_
                    refine lv_istore (lv' := [(5, .int v_16), (4, .int x6_38), (8, .int 1), (7, .int v_16), (0, .ref (a 0)), (1, .int x1_f38), (2, .int x2_f38), (3, .int x3_f38), (6, .int x6_38)]) hx hb d_Mo_gives_134 hl (by decide) rfl (fun ls hl => ?_)
                    refine lv_iinc (v := x6_38 + 1) (lv' := [(6, .int (x6_38 + 1)), (5, .int v_16), (4, .int x6_38), (8, .int 1), (7, .int v_16), (0, .ref (a 0)), (1, .int x1_f38), (2, .int x2_f38), (3, .int x3_f38)]) hx hb d_Mo_gives_136 hl (k := 8) rfl (by rfl) (by decide) rfl (fun ls hl => ?_)
                    refine lv_goto (tgt := 38) hx hb d_Mo_gives_139 (by decide) ?_
                    exact ih38 x6_38 v_16 (x6_38 + 1) _ _ _ hP hD hS (lv_sub hl [5, 6, 7, 8, 2, 1, 0] rfl) hd
      exact lp38 x1 x2 v_9 v_7 _ ex38_142 1000 (-1) 0 0 _ _ _ hP hD hS (lv_sub hl [4, 5, 6, 3, 2, 1, 0] rfl) hd
    · have hd := ite_t hd h_6
      refine lv_iconst (v := (-1)) hx hb d_Mo_gives_17 (by decide) ?_
      obtain rfl := Option.some.inj hd
      exact retI hx hb hr hlk hK hP hD hS d_Mo_gives_18 rfl
-- OwnsLiftModel.lowest(JJI)J
def B_Mo_lowest_L6 (x0_f6 : Int64) (x2_f6 : Int64) (x4_f6 : Int32) (k6_31 : Int64 → Option (Int64)) (self6 : Int64 → Int64 → Option (Int64)) (x5_6 : Int64) (x7_6 : Int64) : Option (Int64) :=
  if (lg_cmp x7_6 0) = 0 then (k6_31 x5_6) else (if x7_6 = 0 then none else (self6 x7_6 (x5_6 - x5_6 / x7_6 * x7_6)))
def d_Mo_lowest_L6 (x0_f6 : Int64) (x2_f6 : Int64) (x4_f6 : Int32) (k6_31 : Int64 → Option (Int64)) (n : Nat) : Int64 → Int64 → Option (Int64) := recN (fun _ _ => none) (fun self => B_Mo_lowest_L6 x0_f6 x2_f6 x4_f6 k6_31 self) n
def d_Mo_lowest (x0 : Int64) (x2 : Int64) (x4 : Int32) : Option (Int64) :=
  d_Mo_lowest_L6 x0 x2 x4 (fun x5_6 => if x4 = 0 then (if x5_6 = 0 then none else (some (x0 / x5_6))) else (if x5_6 = 0 then none else (some (x2 / x5_6)))) 1000 x0 x2
theorem d_Mo_lowest_0 : decode b_Mo_lowest 0 = .ok (.lload_n 0, 1) := by decide +kernel
theorem d_Mo_lowest_1 : decode b_Mo_lowest 1 = .ok (.lstore 5, 2) := by decide +kernel
theorem d_Mo_lowest_3 : decode b_Mo_lowest 3 = .ok (.lload_n 2, 1) := by decide +kernel
theorem d_Mo_lowest_4 : decode b_Mo_lowest 4 = .ok (.lstore 7, 2) := by decide +kernel
theorem d_Mo_lowest_6 : decode b_Mo_lowest 6 = .ok (.lload 7, 2) := by decide +kernel
theorem d_Mo_lowest_8 : decode b_Mo_lowest 8 = .ok (.lconst 0, 1) := by decide +kernel
theorem d_Mo_lowest_9 : decode b_Mo_lowest 9 = .ok (.lcmp, 1) := by decide +kernel
theorem d_Mo_lowest_10 : decode b_Mo_lowest 10 = .ok (.ifCond .eq 21, 3) := by decide +kernel
theorem d_Mo_lowest_13 : decode b_Mo_lowest 13 = .ok (.lload 5, 2) := by decide +kernel
theorem d_Mo_lowest_15 : decode b_Mo_lowest 15 = .ok (.lload 7, 2) := by decide +kernel
theorem d_Mo_lowest_17 : decode b_Mo_lowest 17 = .ok (.lrem, 1) := by decide +kernel
theorem d_Mo_lowest_18 : decode b_Mo_lowest 18 = .ok (.lstore 9, 2) := by decide +kernel
theorem d_Mo_lowest_20 : decode b_Mo_lowest 20 = .ok (.lload 7, 2) := by decide +kernel
theorem d_Mo_lowest_22 : decode b_Mo_lowest 22 = .ok (.lstore 5, 2) := by decide +kernel
theorem d_Mo_lowest_24 : decode b_Mo_lowest 24 = .ok (.lload 9, 2) := by decide +kernel
theorem d_Mo_lowest_26 : decode b_Mo_lowest 26 = .ok (.lstore 7, 2) := by decide +kernel
theorem d_Mo_lowest_28 : decode b_Mo_lowest 28 = .ok (.goto (-22), 3) := by decide +kernel
theorem d_Mo_lowest_31 : decode b_Mo_lowest 31 = .ok (.iload 4, 2) := by decide +kernel
theorem d_Mo_lowest_33 : decode b_Mo_lowest 33 = .ok (.ifCond .ne 7, 3) := by decide +kernel
theorem d_Mo_lowest_36 : decode b_Mo_lowest 36 = .ok (.lload_n 0, 1) := by decide +kernel
theorem d_Mo_lowest_37 : decode b_Mo_lowest 37 = .ok (.goto 4, 3) := by decide +kernel
theorem d_Mo_lowest_40 : decode b_Mo_lowest 40 = .ok (.lload_n 2, 1) := by decide +kernel
theorem d_Mo_lowest_41 : decode b_Mo_lowest 41 = .ok (.lload 5, 2) := by decide +kernel
theorem d_Mo_lowest_43 : decode b_Mo_lowest 43 = .ok (.ldiv, 1) := by decide +kernel
theorem d_Mo_lowest_44 : decode b_Mo_lowest 44 = .ok (.lreturn, 1) := by decide +kernel
theorem o_Mo_lowest : OkS y_Mo_lowest b_Mo_lowest 11 (some .long) 3 := ⟨⟨by decide +kernel, by decide +kernel, by decide +kernel⟩, g_1296, g_81, g_1297⟩
set_option maxHeartbeats 4000000 in
set_option maxRecDepth 100000 in
theorem c_Mo_lowest (l : Launch) (D : va_G) (g : Nat → ClassId) (x0 : Int64) (x2 : Int64) (x4 : Int32) (v : Int64) (h : d_Mo_lowest x0 x2 x4 = some v) :
    ML l y_Mo_lowest b_Mo_lowest 11 ({ frames := 0, cells := 0, slots := 0, locals := 0 } : Room) D g [.long x0, .long x2, .int x4] (([] : va_W)) (v) (([] : va_W)) := by
  have hd := h
  unfold d_Mo_lowest at hd
  refine enterL rfl (Nat.le_of_ble_eq_true rfl) (fun p e s m below meth c A ls hx hb hml hr hown hg hlk hK hA hP hD hS hCs hl => ?_)
  have hown : s.vm.findClass "OwnsLiftModel" = some m.cls := hown
  have hl : lv_has ls 11 [(0, .long x0), (2, .long x2), (4, .int x4)] := hl
  show GL p l e s m ({ frames := 0, cells := 0, slots := 0, locals := 0 } : Room) ([.long x0, .long x2, .int x4] : List Value).toArray below meth c A D g (([] : va_W)) (v) s.heap [] (F0 m 0 ls [])
  refine lv_lload_n hx hb d_Mo_lowest_0 rfl (lv_at hl 0 rfl) ?_
  refine lv_lstore (lv' := [(5, .long x0), (0, .long x0), (2, .long x2), (4, .int x4)]) hx hb d_Mo_lowest_1 hl (by decide) rfl (fun ls hl => ?_)
  refine lv_lload_n hx hb d_Mo_lowest_3 rfl (lv_at hl 2 rfl) ?_
  refine lv_lstore (lv' := [(7, .long x2), (5, .long x0), (0, .long x0), (2, .long x2), (4, .int x4)]) hx hb d_Mo_lowest_4 hl (by decide) rfl (fun ls hl => ?_)
  have ex6_31 : ∀ (x5_6 : Int64) (H : Heap) (locs : List Loc) (ls : Array Slot), va_P D classes (([] : va_W)) H → va_D A (([] : va_W)) → va_S A s.heap H locs → lv_has ls 11 [(0, .long x0), (2, .long x2), (4, .int x4), (5, .long x5_6)] → (if x4 = 0 then (if x5_6 = 0 then none else (some (x0 / x5_6))) else (if x5_6 = 0 then none else (some (x2 / x5_6)))) = some v → GL p l e s m ({ frames := 0, cells := 0, slots := 0, locals := 0 } : Room) ([.long x0, .long x2, .int x4] : List Value).toArray below meth c A D g (([] : va_W)) (v) H locs (F0 m 31 ls []) := by
    intro x5_6 H locs ls hP hD hS hl hd
    refine lv_iload hx hb d_Mo_lowest_31 (lv_at hl 2 rfl) ?_
    refine lv_if_ne (tgt := 40) hx hb d_Mo_lowest_33 (by decide) (fun h_3 => ?_) (fun h_3 => ?_)
    · have hd := ite_f hd h_3
      refine lv_lload_n hx hb d_Mo_lowest_40 rfl (lv_at hl 1 rfl) ?_
      refine lv_lload hx hb d_Mo_lowest_41 (lv_at hl 3 rfl) ?_
      obtain ⟨h_4, hd⟩ := ite_n hd
      refine lv_ldiv hx hb d_Mo_lowest_43 h_4 ?_
      obtain rfl := Option.some.inj hd
      exact retL hx hb hr hlk hK hP hD hS d_Mo_lowest_44 rfl
    · have hd := ite_t hd h_3
      refine lv_lload_n hx hb d_Mo_lowest_36 rfl (lv_at hl 0 rfl) ?_
      refine lv_goto (tgt := 41) hx hb d_Mo_lowest_37 (by decide) ?_
      refine lv_lload hx hb d_Mo_lowest_41 (lv_at hl 3 rfl) ?_
      obtain ⟨h_5, hd⟩ := ite_n hd
      refine lv_ldiv hx hb d_Mo_lowest_43 h_5 ?_
      obtain rfl := Option.some.inj hd
      exact retL hx hb hr hlk hK hP hD hS d_Mo_lowest_44 rfl
  have lp6 : ∀ (x0_f6 : Int64) (x2_f6 : Int64) (x4_f6 : Int32) (k6_31 : Int64 → Option (Int64)) (hk6_31 : ∀ (x5_6 : Int64) (H : Heap) (locs : List Loc) (ls : Array Slot), va_P D classes (([] : va_W)) H → va_D A (([] : va_W)) → va_S A s.heap H locs → lv_has ls 11 [(0, .long x0_f6), (2, .long x2_f6), (4, .int x4_f6), (5, .long x5_6)] → k6_31 x5_6 = some v → GL p l e s m ({ frames := 0, cells := 0, slots := 0, locals := 0 } : Room) ([.long x0, .long x2, .int x4] : List Value).toArray below meth c A D g (([] : va_W)) (v) H locs (F0 m 31 ls [])) (n : Nat) (x5_6 : Int64) (x7_6 : Int64) (H : Heap) (locs : List Loc) (ls : Array Slot), va_P D classes (([] : va_W)) H → va_D A (([] : va_W)) → va_S A s.heap H locs → lv_has ls 11 [(0, .long x0_f6), (2, .long x2_f6), (4, .int x4_f6), (5, .long x5_6), (7, .long x7_6)] → d_Mo_lowest_L6 x0_f6 x2_f6 x4_f6 k6_31 n x5_6 x7_6 = some v → GL p l e s m ({ frames := 0, cells := 0, slots := 0, locals := 0 } : Room) ([.long x0, .long x2, .int x4] : List Value).toArray below meth c A D g (([] : va_W)) (v) H locs (F0 m 6 ls []) := by
    intro x0_f6 x2_f6 x4_f6 k6_31 hk6_31 n
    induction n with
    | zero =>
      intro  x5_6 x7_6 H locs ls hP hD hS hl hd
      have hd : none = some v := hd
      cases hd
    | succ n ih6 =>
      intro  x5_6 x7_6 H locs ls hP hD hS hl hd
      have hd : B_Mo_lowest_L6 x0_f6 x2_f6 x4_f6 k6_31 (d_Mo_lowest_L6 x0_f6 x2_f6 x4_f6 k6_31 n) x5_6 x7_6 = some v := hd
      generalize d_Mo_lowest_L6 x0_f6 x2_f6 x4_f6 k6_31 n = self6 at ih6 hd
      unfold B_Mo_lowest_L6 at hd
      refine lv_lload hx hb d_Mo_lowest_6 (lv_at hl 4 rfl) ?_
      refine lv_lconst (v := 0) hx hb d_Mo_lowest_8 (by decide) ?_
      refine W.lcmp hx hb d_Mo_lowest_9 ?_
      refine lv_if_eq (tgt := 31) hx hb d_Mo_lowest_10 (by decide) (fun h_1 => ?_) (fun h_1 => ?_)
      · have hd := ite_t hd h_1
        exact hk6_31 x5_6 _ _ _ hP hD hS (lv_sub hl [0, 1, 2, 3] rfl) hd
      · have hd := ite_f hd h_1
        refine lv_lload hx hb d_Mo_lowest_13 (lv_at hl 3 rfl) ?_
        refine lv_lload hx hb d_Mo_lowest_15 (lv_at hl 4 rfl) ?_
        obtain ⟨h_2, hd⟩ := ite_n hd
        refine lv_lrem hx hb d_Mo_lowest_17 h_2 ?_
        refine lv_lstore (lv' := [(9, .long (x5_6 - x5_6 / x7_6 * x7_6)), (0, .long x0_f6), (2, .long x2_f6), (4, .int x4_f6), (5, .long x5_6), (7, .long x7_6)]) hx hb d_Mo_lowest_18 hl (by decide) rfl (fun ls hl => ?_)
        refine lv_lload hx hb d_Mo_lowest_20 (lv_at hl 5 rfl) ?_
        refine lv_lstore (lv' := [(5, .long x7_6), (9, .long (x5_6 - x5_6 / x7_6 * x7_6)), (0, .long x0_f6), (2, .long x2_f6), (4, .int x4_f6), (7, .long x7_6)]) hx hb d_Mo_lowest_22 hl (by decide) rfl (fun ls hl => ?_)
        refine lv_lload hx hb d_Mo_lowest_24 (lv_at hl 1 rfl) ?_
        refine lv_lstore (lv' := [(7, .long (x5_6 - x5_6 / x7_6 * x7_6)), (5, .long x7_6), (9, .long (x5_6 - x5_6 / x7_6 * x7_6)), (0, .long x0_f6), (2, .long x2_f6), (4, .int x4_f6)]) hx hb d_Mo_lowest_26 hl (by decide) rfl (fun ls hl => ?_)
        refine lv_goto (tgt := 6) hx hb d_Mo_lowest_28 (by decide) ?_
        exact ih6 x7_6 (x5_6 - x5_6 / x7_6 * x7_6) _ _ _ hP hD hS (lv_sub hl [3, 4, 5, 1, 0] rfl) hd
  exact lp6 x0 x2 x4 _ ex6_31 1000 x0 x2 _ _ _ hP hD hS (lv_sub hl [2, 3, 4, 1, 0] rfl) hd
-- OwnsLiftModel.dearestOf(II)I
def B_Mo_dearestOf_L5 (x1_f5 : Int32) (x2_f5 : Int32) (z : T_Mo) (self5 : Int32 → Int32 → Option (Int32)) (x3_5 : Int32) (x4_5 : Int32) : Option (Int32) :=
  if ((q_Mo_s z) 1) ≤ x4_5 then (some (x3_5)) else (if x3_5 = (-1) then (if ((x2_f5 >>> (x4_5 &&& 31)) &&& 1) = 1 then (if x3_5 = (-1) then (self5 x4_5 (x4_5 + 1)) else (self5 x3_5 (x4_5 + 1))) else (self5 x3_5 (x4_5 + 1))) else (if inb ((7 * x1_f5) + x4_5) 28 = true then (if inb (58 + x3_5) 901 = true then (if inb ((7 * x1_f5) + x3_5) 28 = true then (if inb (58 + x4_5) 901 = true then (if (((q_Mo_likes z) ((7 * x1_f5) + x4_5).toNatClampNeg) * ((q_Mo_s z) (58 + x3_5).toNatClampNeg)) ≤ (((q_Mo_likes z) ((7 * x1_f5) + x3_5).toNatClampNeg) * ((q_Mo_s z) (58 + x4_5).toNatClampNeg)) then (if ((x2_f5 >>> (x4_5 &&& 31)) &&& 1) = 1 then (if x3_5 = (-1) then (self5 x4_5 (x4_5 + 1)) else (self5 x3_5 (x4_5 + 1))) else (self5 x3_5 (x4_5 + 1))) else (if ((x2_f5 >>> (x4_5 &&& 31)) &&& 1) = 1 then (if x3_5 = (-1) then (self5 x4_5 (x4_5 + 1)) else (self5 x4_5 (x4_5 + 1))) else (self5 x3_5 (x4_5 + 1)))) else none) else none) else none) else none))
def d_Mo_dearestOf_L5 (x1_f5 : Int32) (x2_f5 : Int32) (z : T_Mo) (n : Nat) : Int32 → Int32 → Option (Int32) := recN (fun _ _ => none) (fun self => B_Mo_dearestOf_L5 x1_f5 x2_f5 z self) n
def d_Mo_dearestOf (x1 : Int32) (x2 : Int32) (z : T_Mo) : Option (Int32) :=
  d_Mo_dearestOf_L5 x1 x2 z  1000 (-1) 0
theorem d_Mo_dearestOf_0 : decode b_Mo_dearestOf 0 = .ok (.iconst (-1), 1) := by decide +kernel
theorem d_Mo_dearestOf_1 : decode b_Mo_dearestOf 1 = .ok (.istore_n 3, 1) := by decide +kernel
theorem d_Mo_dearestOf_2 : decode b_Mo_dearestOf 2 = .ok (.iconst 0, 1) := by decide +kernel
theorem d_Mo_dearestOf_3 : decode b_Mo_dearestOf 3 = .ok (.istore 4, 2) := by decide +kernel
theorem d_Mo_dearestOf_5 : decode b_Mo_dearestOf 5 = .ok (.iload 4, 2) := by decide +kernel
theorem d_Mo_dearestOf_7 : decode b_Mo_dearestOf 7 = .ok (.aload_n 0, 1) := by decide +kernel
theorem d_Mo_dearestOf_8 : decode b_Mo_dearestOf 8 = .ok (.getfield 9, 3) := by decide +kernel
theorem d_Mo_dearestOf_11 : decode b_Mo_dearestOf 11 = .ok (.iconst 1, 1) := by decide +kernel
theorem d_Mo_dearestOf_12 : decode b_Mo_dearestOf 12 = .ok (.iaload, 1) := by decide +kernel
theorem d_Mo_dearestOf_13 : decode b_Mo_dearestOf 13 = .ok (.if_icmp .ge 95, 3) := by decide +kernel
theorem d_Mo_dearestOf_16 : decode b_Mo_dearestOf 16 = .ok (.iload_n 3, 1) := by decide +kernel
theorem d_Mo_dearestOf_17 : decode b_Mo_dearestOf 17 = .ok (.iconst (-1), 1) := by decide +kernel
theorem d_Mo_dearestOf_18 : decode b_Mo_dearestOf 18 = .ok (.if_icmp .eq 54, 3) := by decide +kernel
theorem d_Mo_dearestOf_21 : decode b_Mo_dearestOf 21 = .ok (.aload_n 0, 1) := by decide +kernel
theorem d_Mo_dearestOf_22 : decode b_Mo_dearestOf 22 = .ok (.getfield 28, 3) := by decide +kernel
theorem d_Mo_dearestOf_25 : decode b_Mo_dearestOf 25 = .ok (.bipush 7, 2) := by decide +kernel
theorem d_Mo_dearestOf_27 : decode b_Mo_dearestOf 27 = .ok (.iload_n 1, 1) := by decide +kernel
theorem d_Mo_dearestOf_28 : decode b_Mo_dearestOf 28 = .ok (.imul, 1) := by decide +kernel
theorem d_Mo_dearestOf_29 : decode b_Mo_dearestOf 29 = .ok (.iload 4, 2) := by decide +kernel
theorem d_Mo_dearestOf_31 : decode b_Mo_dearestOf 31 = .ok (.iadd, 1) := by decide +kernel
theorem d_Mo_dearestOf_32 : decode b_Mo_dearestOf 32 = .ok (.iaload, 1) := by decide +kernel
theorem d_Mo_dearestOf_33 : decode b_Mo_dearestOf 33 = .ok (.aload_n 0, 1) := by decide +kernel
theorem d_Mo_dearestOf_34 : decode b_Mo_dearestOf 34 = .ok (.getfield 9, 3) := by decide +kernel
theorem d_Mo_dearestOf_37 : decode b_Mo_dearestOf 37 = .ok (.bipush 58, 2) := by decide +kernel
theorem d_Mo_dearestOf_39 : decode b_Mo_dearestOf 39 = .ok (.iload_n 3, 1) := by decide +kernel
theorem d_Mo_dearestOf_40 : decode b_Mo_dearestOf 40 = .ok (.iadd, 1) := by decide +kernel
theorem d_Mo_dearestOf_41 : decode b_Mo_dearestOf 41 = .ok (.iaload, 1) := by decide +kernel
theorem d_Mo_dearestOf_42 : decode b_Mo_dearestOf 42 = .ok (.imul, 1) := by decide +kernel
theorem d_Mo_dearestOf_43 : decode b_Mo_dearestOf 43 = .ok (.aload_n 0, 1) := by decide +kernel
theorem d_Mo_dearestOf_44 : decode b_Mo_dearestOf 44 = .ok (.getfield 28, 3) := by decide +kernel
theorem d_Mo_dearestOf_47 : decode b_Mo_dearestOf 47 = .ok (.bipush 7, 2) := by decide +kernel
theorem d_Mo_dearestOf_49 : decode b_Mo_dearestOf 49 = .ok (.iload_n 1, 1) := by decide +kernel
theorem d_Mo_dearestOf_50 : decode b_Mo_dearestOf 50 = .ok (.imul, 1) := by decide +kernel
theorem d_Mo_dearestOf_51 : decode b_Mo_dearestOf 51 = .ok (.iload_n 3, 1) := by decide +kernel
theorem d_Mo_dearestOf_52 : decode b_Mo_dearestOf 52 = .ok (.iadd, 1) := by decide +kernel
theorem d_Mo_dearestOf_53 : decode b_Mo_dearestOf 53 = .ok (.iaload, 1) := by decide +kernel
theorem d_Mo_dearestOf_54 : decode b_Mo_dearestOf 54 = .ok (.aload_n 0, 1) := by decide +kernel
theorem d_Mo_dearestOf_55 : decode b_Mo_dearestOf 55 = .ok (.getfield 9, 3) := by decide +kernel
theorem d_Mo_dearestOf_58 : decode b_Mo_dearestOf 58 = .ok (.bipush 58, 2) := by decide +kernel
theorem d_Mo_dearestOf_60 : decode b_Mo_dearestOf 60 = .ok (.iload 4, 2) := by decide +kernel
theorem d_Mo_dearestOf_62 : decode b_Mo_dearestOf 62 = .ok (.iadd, 1) := by decide +kernel
theorem d_Mo_dearestOf_63 : decode b_Mo_dearestOf 63 = .ok (.iaload, 1) := by decide +kernel
theorem d_Mo_dearestOf_64 : decode b_Mo_dearestOf 64 = .ok (.imul, 1) := by decide +kernel
theorem d_Mo_dearestOf_65 : decode b_Mo_dearestOf 65 = .ok (.if_icmp .le 7, 3) := by decide +kernel
theorem d_Mo_dearestOf_68 : decode b_Mo_dearestOf 68 = .ok (.iconst 1, 1) := by decide +kernel
theorem d_Mo_dearestOf_69 : decode b_Mo_dearestOf 69 = .ok (.goto 4, 3) := by decide +kernel
theorem d_Mo_dearestOf_72 : decode b_Mo_dearestOf 72 = .ok (.iconst 0, 1) := by decide +kernel
theorem d_Mo_dearestOf_73 : decode b_Mo_dearestOf 73 = .ok (.istore 5, 2) := by decide +kernel
theorem d_Mo_dearestOf_75 : decode b_Mo_dearestOf 75 = .ok (.iload_n 2, 1) := by decide +kernel
theorem d_Mo_dearestOf_76 : decode b_Mo_dearestOf 76 = .ok (.iload 4, 2) := by decide +kernel
theorem d_Mo_dearestOf_78 : decode b_Mo_dearestOf 78 = .ok (.ishr, 1) := by decide +kernel
theorem d_Mo_dearestOf_79 : decode b_Mo_dearestOf 79 = .ok (.iconst 1, 1) := by decide +kernel
theorem d_Mo_dearestOf_80 : decode b_Mo_dearestOf 80 = .ok (.iand, 1) := by decide +kernel
theorem d_Mo_dearestOf_81 : decode b_Mo_dearestOf 81 = .ok (.iconst 1, 1) := by decide +kernel
theorem d_Mo_dearestOf_82 : decode b_Mo_dearestOf 82 = .ok (.if_icmp .ne 18, 3) := by decide +kernel
theorem d_Mo_dearestOf_85 : decode b_Mo_dearestOf 85 = .ok (.iload_n 3, 1) := by decide +kernel
theorem d_Mo_dearestOf_86 : decode b_Mo_dearestOf 86 = .ok (.iconst (-1), 1) := by decide +kernel
theorem d_Mo_dearestOf_87 : decode b_Mo_dearestOf 87 = .ok (.if_icmp .eq 8, 3) := by decide +kernel
theorem d_Mo_dearestOf_90 : decode b_Mo_dearestOf 90 = .ok (.iload 5, 2) := by decide +kernel
theorem d_Mo_dearestOf_92 : decode b_Mo_dearestOf 92 = .ok (.ifCond .eq 8, 3) := by decide +kernel
theorem d_Mo_dearestOf_95 : decode b_Mo_dearestOf 95 = .ok (.iload 4, 2) := by decide +kernel
theorem d_Mo_dearestOf_97 : decode b_Mo_dearestOf 97 = .ok (.goto 4, 3) := by decide +kernel
theorem d_Mo_dearestOf_100 : decode b_Mo_dearestOf 100 = .ok (.iload_n 3, 1) := by decide +kernel
theorem d_Mo_dearestOf_101 : decode b_Mo_dearestOf 101 = .ok (.istore_n 3, 1) := by decide +kernel
theorem d_Mo_dearestOf_102 : decode b_Mo_dearestOf 102 = .ok (.iinc 4 1, 3) := by decide +kernel
theorem d_Mo_dearestOf_105 : decode b_Mo_dearestOf 105 = .ok (.goto (-100), 3) := by decide +kernel
theorem d_Mo_dearestOf_108 : decode b_Mo_dearestOf 108 = .ok (.iload_n 3, 1) := by decide +kernel
theorem d_Mo_dearestOf_109 : decode b_Mo_dearestOf 109 = .ok (.ireturn, 1) := by decide +kernel
theorem o_Mo_dearestOf : OkV y_Mo_dearestOf "OwnsLiftModel" b_Mo_dearestOf 6 (some .int) 2 := ⟨⟨rfl, by decide +kernel, by decide +kernel, by decide +kernel⟩, g_1293, g_58, g_81, g_1294⟩
set_option maxHeartbeats 4000000 in
set_option maxRecDepth 100000 in
theorem c_Mo_dearestOf (l : Launch) (D : va_G) (g : Nat → ClassId) (a : Nat → Nat) (x1 : Int32) (x2 : Int32) (z : T_Mo) (v : Int32) (h : d_Mo_dearestOf x1 x2 z = some v) :
    MI l y_Mo_dearestOf b_Mo_dearestOf 6 .int ({ frames := 0, cells := 0, slots := 0, locals := 0 } : Room) D g [.ref (a 0), .int x1, .int x2] (ws_Mo g a z) (v) (ws_Mo g a z) := by
  have hd := h
  unfold d_Mo_dearestOf at hd
  refine enterI rfl (Nat.le_of_ble_eq_true rfl) (fun p e s m below meth c A ls hx hb hml hr hown hg hlk hK hA hP hD hS hCs hl => ?_)
  have hown : s.vm.findClass "OwnsLiftModel" = some m.cls := hown
  have hl : lv_has ls 6 [(0, .ref (a 0)), (1, .int x1), (2, .int x2)] := hl
  show GI p l e s m ({ frames := 0, cells := 0, slots := 0, locals := 0 } : Room) ([.ref (a 0), .int x1, .int x2] : List Value).toArray below meth c A D g (ws_Mo g a z) (v) s.heap [] (F0 m 0 ls [])
  refine lv_iconst (v := (-1)) hx hb d_Mo_dearestOf_0 (by decide) ?_
  refine lv_istore_n (lv' := [(3, .int (-1)), (0, .ref (a 0)), (1, .int x1), (2, .int x2)]) hx hb d_Mo_dearestOf_1 rfl hl (by decide) rfl (fun ls hl => ?_)
  refine lv_iconst (v := 0) hx hb d_Mo_dearestOf_2 (by decide) ?_
  refine lv_istore (lv' := [(4, .int 0), (3, .int (-1)), (0, .ref (a 0)), (1, .int x1), (2, .int x2)]) hx hb d_Mo_dearestOf_3 hl (by decide) rfl (fun ls hl => ?_)
  have lp5 : ∀ (x1_f5 : Int32) (x2_f5 : Int32) (n : Nat) (x3_5 : Int32) (x4_5 : Int32) (H : Heap) (locs : List Loc) (ls : Array Slot), va_P D classes (ws_Mo g a z) H → va_D A (ws_Mo g a z) → va_S A s.heap H locs → lv_has ls 6 [(0, .ref (a 0)), (1, .int x1_f5), (2, .int x2_f5), (3, .int x3_5), (4, .int x4_5)] → d_Mo_dearestOf_L5 x1_f5 x2_f5 z n x3_5 x4_5 = some v → GI p l e s m ({ frames := 0, cells := 0, slots := 0, locals := 0 } : Room) ([.ref (a 0), .int x1, .int x2] : List Value).toArray below meth c A D g (ws_Mo g a z) (v) H locs (F0 m 5 ls []) := by
    intro x1_f5 x2_f5 n
    induction n with
    | zero =>
      intro  x3_5 x4_5 H locs ls hP hD hS hl hd
      have hd : none = some v := hd
      cases hd
    | succ n ih5 =>
      intro  x3_5 x4_5 H locs ls hP hD hS hl hd
      have hd : B_Mo_dearestOf_L5 x1_f5 x2_f5 z (d_Mo_dearestOf_L5 x1_f5 x2_f5 z n) x3_5 x4_5 = some v := hd
      generalize d_Mo_dearestOf_L5 x1_f5 x2_f5 z n = self5 at ih5 hd
      unfold B_Mo_dearestOf_L5 at hd
      refine lv_iload hx hb d_Mo_dearestOf_5 (lv_at hl 4 rfl) ?_
      refine lv_aload_n hx hb d_Mo_dearestOf_7 rfl (lv_at hl 0 rfl) ?_
      refine va_get (D := D) (ci := 1) (v := .ref (a 1)) (C := R_Mo) (T := F_Mo) (N := 26) hx hb hg i_Mo hown hK hP 0 rfl rfl 1 (by decide) (hg _ g_993) (fun _ h9 => h9) rfl d_Mo_dearestOf_8 ?_
      refine lv_iconst (v := 1) hx hb d_Mo_dearestOf_11 (by decide) ?_
      refine ialdK hx hb hK hP 1 0 rfl rfl (inb_t (by decide +kernel)) (k := 1) (by decide +kernel) d_Mo_dearestOf_12 ?_
      refine lv_icmp_ge (tgt := 108) hx hb d_Mo_dearestOf_13 (by decide) (fun h_1 => ?_) (fun h_1 => ?_)
      · have hd := ite_t hd h_1
        refine lv_iload_n hx hb d_Mo_dearestOf_108 rfl (lv_at hl 3 rfl) ?_
        obtain rfl := Option.some.inj hd
        exact retI hx hb hr hlk hK hP hD hS d_Mo_dearestOf_109 rfl
      · have hd := ite_f hd h_1
        refine lv_iload_n hx hb d_Mo_dearestOf_16 rfl (lv_at hl 3 rfl) ?_
        refine lv_iconst (v := (-1)) hx hb d_Mo_dearestOf_17 (by decide) ?_
        refine lv_icmp_eq (tgt := 72) hx hb d_Mo_dearestOf_18 (by decide) (fun h_2 => ?_) (fun h_2 => ?_)
        · have hd := ite_t hd h_2
          refine lv_iconst (v := 0) hx hb d_Mo_dearestOf_72 (by decide) ?_
          refine lv_istore (lv' := [(5, .int 0), (0, .ref (a 0)), (1, .int x1_f5), (2, .int x2_f5), (3, .int x3_5), (4, .int x4_5)]) hx hb d_Mo_dearestOf_73 hl (by decide) rfl (fun ls hl => ?_)
          refine lv_iload_n hx hb d_Mo_dearestOf_75 rfl (lv_at hl 3 rfl) ?_
          refine lv_iload hx hb d_Mo_dearestOf_76 (lv_at hl 5 rfl) ?_
          refine lv_ishr hx hb d_Mo_dearestOf_78 ?_
          refine lv_iconst (v := 1) hx hb d_Mo_dearestOf_79 (by decide) ?_
          refine lv_iand hx hb d_Mo_dearestOf_80 ?_
          refine lv_iconst (v := 1) hx hb d_Mo_dearestOf_81 (by decide) ?_
          refine lv_icmp_ne (tgt := 100) hx hb d_Mo_dearestOf_82 (by decide) (fun h_3 => ?_) (fun h_3 => ?_)
          · have hd := ite_f hd h_3
            refine lv_iload_n hx hb d_Mo_dearestOf_100 rfl (lv_at hl 4 rfl) ?_
            refine lv_istore_n (lv' := [(3, .int x3_5), (5, .int 0), (0, .ref (a 0)), (1, .int x1_f5), (2, .int x2_f5), (4, .int x4_5)]) hx hb d_Mo_dearestOf_101 rfl hl (by decide) rfl (fun ls hl => ?_)
            refine lv_iinc (v := x4_5 + 1) (lv' := [(4, .int (x4_5 + 1)), (3, .int x3_5), (5, .int 0), (0, .ref (a 0)), (1, .int x1_f5), (2, .int x2_f5)]) hx hb d_Mo_dearestOf_102 hl (k := 5) rfl (by rfl) (by decide) rfl (fun ls hl => ?_)
            refine lv_goto (tgt := 5) hx hb d_Mo_dearestOf_105 (by decide) ?_
            exact ih5 x3_5 (x4_5 + 1) _ _ _ hP hD hS (lv_sub hl [3, 4, 5, 1, 0] rfl) hd
          · have hd := ite_t hd h_3
            refine lv_iload_n hx hb d_Mo_dearestOf_85 rfl (lv_at hl 4 rfl) ?_
            refine lv_iconst (v := (-1)) hx hb d_Mo_dearestOf_86 (by decide) ?_
            refine lv_icmp_eq (tgt := 95) hx hb d_Mo_dearestOf_87 (by decide) (fun h_4 => ?_) (fun h_4 => ?_)
            · have hd := ite_t hd h_4
              refine lv_iload hx hb d_Mo_dearestOf_95 (lv_at hl 5 rfl) ?_
              refine lv_goto (tgt := 101) hx hb d_Mo_dearestOf_97 (by decide) ?_
              refine lv_istore_n (lv' := [(3, .int x4_5), (5, .int 0), (0, .ref (a 0)), (1, .int x1_f5), (2, .int x2_f5), (4, .int x4_5)]) hx hb d_Mo_dearestOf_101 rfl hl (by decide) rfl (fun ls hl => ?_)
              refine lv_iinc (v := x4_5 + 1) (lv' := [(4, .int (x4_5 + 1)), (3, .int x4_5), (5, .int 0), (0, .ref (a 0)), (1, .int x1_f5), (2, .int x2_f5)]) hx hb d_Mo_dearestOf_102 hl (k := 5) rfl (by rfl) (by decide) rfl (fun ls hl => ?_)
              refine lv_goto (tgt := 5) hx hb d_Mo_dearestOf_105 (by decide) ?_
              exact ih5 x4_5 (x4_5 + 1) _ _ _ hP hD hS (lv_sub hl [3, 4, 5, 1, 0] rfl) hd
            · have hd := ite_f hd h_4
              refine lv_iload hx hb d_Mo_dearestOf_90 (lv_at hl 0 rfl) ?_
              refine lv_if_eq (tgt := 100) hx hb d_Mo_dearestOf_92 (by decide) (fun _ => ?_) (fun h9 => absurd (by decide) h9)
              refine lv_iload_n hx hb d_Mo_dearestOf_100 rfl (lv_at hl 4 rfl) ?_
              refine lv_istore_n (lv' := [(3, .int x3_5), (5, .int 0), (0, .ref (a 0)), (1, .int x1_f5), (2, .int x2_f5), (4, .int x4_5)]) hx hb d_Mo_dearestOf_101 rfl hl (by decide) rfl (fun ls hl => ?_)
              refine lv_iinc (v := x4_5 + 1) (lv' := [(4, .int (x4_5 + 1)), (3, .int x3_5), (5, .int 0), (0, .ref (a 0)), (1, .int x1_f5), (2, .int x2_f5)]) hx hb d_Mo_dearestOf_102 hl (k := 5) rfl (by rfl) (by decide) rfl (fun ls hl => ?_)
              refine lv_goto (tgt := 5) hx hb d_Mo_dearestOf_105 (by decide) ?_
              exact ih5 x3_5 (x4_5 + 1) _ _ _ hP hD hS (lv_sub hl [3, 4, 5, 1, 0] rfl) hd
        · have hd := ite_f hd h_2
          refine lv_aload_n hx hb d_Mo_dearestOf_21 rfl (lv_at hl 0 rfl) ?_
          refine va_get (D := D) (ci := 1) (v := .ref (a 6)) (C := R_Mo) (T := F_Mo) (N := 26) hx hb hg i_Mo hown hK hP 0 rfl rfl 12 (by decide) (hg _ g_1004) (fun _ h9 => h9) rfl d_Mo_dearestOf_22 ?_
          refine lv_bipush (v := 7) hx hb d_Mo_dearestOf_25 (by decide) ?_
          refine lv_iload_n hx hb d_Mo_dearestOf_27 rfl (lv_at hl 1 rfl) ?_
          refine lv_imul hx hb d_Mo_dearestOf_28 ?_
          refine lv_iload hx hb d_Mo_dearestOf_29 (lv_at hl 4 rfl) ?_
          refine lv_iadd hx hb d_Mo_dearestOf_31 ?_
          obtain ⟨h_13, hd⟩ := ite_s hd
          refine ialdK hx hb hK hP 6 0 rfl rfl (inb_t h_13) rfl d_Mo_dearestOf_32 ?_
          refine lv_aload_n hx hb d_Mo_dearestOf_33 rfl (lv_at hl 0 rfl) ?_
          refine va_get (D := D) (ci := 1) (v := .ref (a 1)) (C := R_Mo) (T := F_Mo) (N := 26) hx hb hg i_Mo hown hK hP 0 rfl rfl 1 (by decide) (hg _ g_993) (fun _ h9 => h9) rfl d_Mo_dearestOf_34 ?_
          refine lv_bipush (v := 58) hx hb d_Mo_dearestOf_37 (by decide) ?_
          refine lv_iload_n hx hb d_Mo_dearestOf_39 rfl (lv_at hl 3 rfl) ?_
          refine lv_iadd hx hb d_Mo_dearestOf_40 ?_
          obtain ⟨h_12, hd⟩ := ite_s hd
          refine ialdK hx hb hK hP 1 0 rfl rfl (inb_t h_12) rfl d_Mo_dearestOf_41 ?_
          refine lv_imul hx hb d_Mo_dearestOf_42 ?_
          refine lv_aload_n hx hb d_Mo_dearestOf_43 rfl (lv_at hl 0 rfl) ?_
          refine va_get (D := D) (ci := 1) (v := .ref (a 6)) (C := R_Mo) (T := F_Mo) (N := 26) hx hb hg i_Mo hown hK hP 0 rfl rfl 12 (by decide) (hg _ g_1004) (fun _ h9 => h9) rfl d_Mo_dearestOf_44 ?_
          refine lv_bipush (v := 7) hx hb d_Mo_dearestOf_47 (by decide) ?_
          refine lv_iload_n hx hb d_Mo_dearestOf_49 rfl (lv_at hl 1 rfl) ?_
          refine lv_imul hx hb d_Mo_dearestOf_50 ?_
          refine lv_iload_n hx hb d_Mo_dearestOf_51 rfl (lv_at hl 3 rfl) ?_
          refine lv_iadd hx hb d_Mo_dearestOf_52 ?_
          obtain ⟨h_11, hd⟩ := ite_s hd
          refine ialdK hx hb hK hP 6 0 rfl rfl (inb_t h_11) rfl d_Mo_dearestOf_53 ?_
          refine lv_aload_n hx hb d_Mo_dearestOf_54 rfl (lv_at hl 0 rfl) ?_
          refine va_get (D := D) (ci := 1) (v := .ref (a 1)) (C := R_Mo) (T := F_Mo) (N := 26) hx hb hg i_Mo hown hK hP 0 rfl rfl 1 (by decide) (hg _ g_993) (fun _ h9 => h9) rfl d_Mo_dearestOf_55 ?_
          refine lv_bipush (v := 58) hx hb d_Mo_dearestOf_58 (by decide) ?_
          refine lv_iload hx hb d_Mo_dearestOf_60 (lv_at hl 4 rfl) ?_
          refine lv_iadd hx hb d_Mo_dearestOf_62 ?_
          obtain ⟨h_10, hd⟩ := ite_s hd
          refine ialdK hx hb hK hP 1 0 rfl rfl (inb_t h_10) rfl d_Mo_dearestOf_63 ?_
          refine lv_imul hx hb d_Mo_dearestOf_64 ?_
          refine lv_icmp_le (tgt := 72) hx hb d_Mo_dearestOf_65 (by decide) (fun h_5 => ?_) (fun h_5 => ?_)
          · have hd := ite_t hd h_5
            refine lv_iconst (v := 0) hx hb d_Mo_dearestOf_72 (by decide) ?_
            refine lv_istore (lv' := [(5, .int 0), (0, .ref (a 0)), (1, .int x1_f5), (2, .int x2_f5), (3, .int x3_5), (4, .int x4_5)]) hx hb d_Mo_dearestOf_73 hl (by decide) rfl (fun ls hl => ?_)
            refine lv_iload_n hx hb d_Mo_dearestOf_75 rfl (lv_at hl 3 rfl) ?_
            refine lv_iload hx hb d_Mo_dearestOf_76 (lv_at hl 5 rfl) ?_
            refine lv_ishr hx hb d_Mo_dearestOf_78 ?_
            refine lv_iconst (v := 1) hx hb d_Mo_dearestOf_79 (by decide) ?_
            refine lv_iand hx hb d_Mo_dearestOf_80 ?_
            refine lv_iconst (v := 1) hx hb d_Mo_dearestOf_81 (by decide) ?_
            refine lv_icmp_ne (tgt := 100) hx hb d_Mo_dearestOf_82 (by decide) (fun h_6 => ?_) (fun h_6 => ?_)
            · have hd := ite_f hd h_6
              refine lv_iload_n hx hb d_Mo_dearestOf_100 rfl (lv_at hl 4 rfl) ?_
              refine lv_istore_n (lv' := [(3, .int x3_5), (5, .int 0), (0, .ref (a 0)), (1, .int x1_f5), (2, .int x2_f5), (4, .int x4_5)]) hx hb d_Mo_dearestOf_101 rfl hl (by decide) rfl (fun ls hl => ?_)
              refine lv_iinc (v := x4_5 + 1) (lv' := [(4, .int (x4_5 + 1)), (3, .int x3_5), (5, .int 0), (0, .ref (a 0)), (1, .int x1_f5), (2, .int x2_f5)]) hx hb d_Mo_dearestOf_102 hl (k := 5) rfl (by rfl) (by decide) rfl (fun ls hl => ?_)
              refine lv_goto (tgt := 5) hx hb d_Mo_dearestOf_105 (by decide) ?_
              exact ih5 x3_5 (x4_5 + 1) _ _ _ hP hD hS (lv_sub hl [3, 4, 5, 1, 0] rfl) hd
            · have hd := ite_t hd h_6
              refine lv_iload_n hx hb d_Mo_dearestOf_85 rfl (lv_at hl 4 rfl) ?_
              refine lv_iconst (v := (-1)) hx hb d_Mo_dearestOf_86 (by decide) ?_
              refine lv_icmp_eq (tgt := 95) hx hb d_Mo_dearestOf_87 (by decide) (fun h_7 => ?_) (fun h_7 => ?_)
              · have hd := ite_t hd h_7
                refine lv_iload hx hb d_Mo_dearestOf_95 (lv_at hl 5 rfl) ?_
                refine lv_goto (tgt := 101) hx hb d_Mo_dearestOf_97 (by decide) ?_
                refine lv_istore_n (lv' := [(3, .int x4_5), (5, .int 0), (0, .ref (a 0)), (1, .int x1_f5), (2, .int x2_f5), (4, .int x4_5)]) hx hb d_Mo_dearestOf_101 rfl hl (by decide) rfl (fun ls hl => ?_)
                refine lv_iinc (v := x4_5 + 1) (lv' := [(4, .int (x4_5 + 1)), (3, .int x4_5), (5, .int 0), (0, .ref (a 0)), (1, .int x1_f5), (2, .int x2_f5)]) hx hb d_Mo_dearestOf_102 hl (k := 5) rfl (by rfl) (by decide) rfl (fun ls hl => ?_)
                refine lv_goto (tgt := 5) hx hb d_Mo_dearestOf_105 (by decide) ?_
                exact ih5 x4_5 (x4_5 + 1) _ _ _ hP hD hS (lv_sub hl [3, 4, 5, 1, 0] rfl) hd
              · have hd := ite_f hd h_7
                refine lv_iload hx hb d_Mo_dearestOf_90 (lv_at hl 0 rfl) ?_
                refine lv_if_eq (tgt := 100) hx hb d_Mo_dearestOf_92 (by decide) (fun _ => ?_) (fun h9 => absurd (by decide) h9)
                refine lv_iload_n hx hb d_Mo_dearestOf_100 rfl (lv_at hl 4 rfl) ?_
                refine lv_istore_n (lv' := [(3, .int x3_5), (5, .int 0), (0, .ref (a 0)), (1, .int x1_f5), (2, .int x2_f5), (4, .int x4_5)]) hx hb d_Mo_dearestOf_101 rfl hl (by decide) rfl (fun ls hl => ?_)
                refine lv_iinc (v := x4_5 + 1) (lv' := [(4, .int (x4_5 + 1)), (3, .int x3_5), (5, .int 0), (0, .ref (a 0)), (1, .int x1_f5), (2, .int x2_f5)]) hx hb d_Mo_dearestOf_102 hl (k := 5) rfl (by rfl) (by decide) rfl (fun ls hl => ?_)
                refine lv_goto (tgt := 5) hx hb d_Mo_dearestOf_105 (by decide) ?_
                exact ih5 x3_5 (x4_5 + 1) _ _ _ hP hD hS (lv_sub hl [3, 4, 5, 1, 0] rfl) hd
          · have hd := ite_f hd h_5
            refine lv_iconst (v := 1) hx hb d_Mo_dearestOf_68 (by decide) ?_
            refine lv_goto (tgt := 73) hx hb d_Mo_dearestOf_69 (by decide) ?_
            refine lv_istore (lv' := [(5, .int 1), (0, .ref (a 0)), (1, .int x1_f5), (2, .int x2_f5), (3, .int x3_5), (4, .int x4_5)]) hx hb d_Mo_dearestOf_73 hl (by decide) rfl (fun ls hl => ?_)
            refine lv_iload_n hx hb d_Mo_dearestOf_75 rfl (lv_at hl 3 rfl) ?_
            refine lv_iload hx hb d_Mo_dearestOf_76 (lv_at hl 5 rfl) ?_
            refine lv_ishr hx hb d_Mo_dearestOf_78 ?_
            refine lv_iconst (v := 1) hx hb d_Mo_dearestOf_79 (by decide) ?_
            refine lv_iand hx hb d_Mo_dearestOf_80 ?_
            refine lv_iconst (v := 1) hx hb d_Mo_dearestOf_81 (by decide) ?_
            refine lv_icmp_ne (tgt := 100) hx hb d_Mo_dearestOf_82 (by decide) (fun h_8 => ?_) (fun h_8 => ?_)
            · have hd := ite_f hd h_8
              refine lv_iload_n hx hb d_Mo_dearestOf_100 rfl (lv_at hl 4 rfl) ?_
              refine lv_istore_n (lv' := [(3, .int x3_5), (5, .int 1), (0, .ref (a 0)), (1, .int x1_f5), (2, .int x2_f5), (4, .int x4_5)]) hx hb d_Mo_dearestOf_101 rfl hl (by decide) rfl (fun ls hl => ?_)
              refine lv_iinc (v := x4_5 + 1) (lv' := [(4, .int (x4_5 + 1)), (3, .int x3_5), (5, .int 1), (0, .ref (a 0)), (1, .int x1_f5), (2, .int x2_f5)]) hx hb d_Mo_dearestOf_102 hl (k := 5) rfl (by rfl) (by decide) rfl (fun ls hl => ?_)
              refine lv_goto (tgt := 5) hx hb d_Mo_dearestOf_105 (by decide) ?_
              exact ih5 x3_5 (x4_5 + 1) _ _ _ hP hD hS (lv_sub hl [3, 4, 5, 1, 0] rfl) hd
            · have hd := ite_t hd h_8
              refine lv_iload_n hx hb d_Mo_dearestOf_85 rfl (lv_at hl 4 rfl) ?_
              refine lv_iconst (v := (-1)) hx hb d_Mo_dearestOf_86 (by decide) ?_
              refine lv_icmp_eq (tgt := 95) hx hb d_Mo_dearestOf_87 (by decide) (fun h_9 => ?_) (fun h_9 => ?_)
              · have hd := ite_t hd h_9
                refine lv_iload hx hb d_Mo_dearestOf_95 (lv_at hl 5 rfl) ?_
                refine lv_goto (tgt := 101) hx hb d_Mo_dearestOf_97 (by decide) ?_
                refine lv_istore_n (lv' := [(3, .int x4_5), (5, .int 1), (0, .ref (a 0)), (1, .int x1_f5), (2, .int x2_f5), (4, .int x4_5)]) hx hb d_Mo_dearestOf_101 rfl hl (by decide) rfl (fun ls hl => ?_)
                refine lv_iinc (v := x4_5 + 1) (lv' := [(4, .int (x4_5 + 1)), (3, .int x4_5), (5, .int 1), (0, .ref (a 0)), (1, .int x1_f5), (2, .int x2_f5)]) hx hb d_Mo_dearestOf_102 hl (k := 5) rfl (by rfl) (by decide) rfl (fun ls hl => ?_)
                refine lv_goto (tgt := 5) hx hb d_Mo_dearestOf_105 (by decide) ?_
                exact ih5 x4_5 (x4_5 + 1) _ _ _ hP hD hS (lv_sub hl [3, 4, 5, 1, 0] rfl) hd
              · have hd := ite_f hd h_9
                refine lv_iload hx hb d_Mo_dearestOf_90 (lv_at hl 0 rfl) ?_
                refine lv_if_eq (tgt := 100) hx hb d_Mo_dearestOf_92 (by decide) (fun h9 => absurd h9 (by decide)) (fun _ => ?_)
                refine lv_iload hx hb d_Mo_dearestOf_95 (lv_at hl 5 rfl) ?_
                refine lv_goto (tgt := 101) hx hb d_Mo_dearestOf_97 (by decide) ?_
                refine lv_istore_n (lv' := [(3, .int x4_5), (5, .int 1), (0, .ref (a 0)), (1, .int x1_f5), (2, .int x2_f5), (4, .int x4_5)]) hx hb d_Mo_dearestOf_101 rfl hl (by decide) rfl (fun ls hl => ?_)
                refine lv_iinc (v := x4_5 + 1) (lv' := [(4, .int (x4_5 + 1)), (3, .int x4_5), (5, .int 1), (0, .ref (a 0)), (1, .int x1_f5), (2, .int x2_f5)]) hx hb d_Mo_dearestOf_102 hl (k := 5) rfl (by rfl) (by decide) rfl (fun ls hl => ?_)
                refine lv_goto (tgt := 5) hx hb d_Mo_dearestOf_105 (by decide) ?_
                exact ih5 x4_5 (x4_5 + 1) _ _ _ hP hD hS (lv_sub hl [3, 4, 5, 1, 0] rfl) hd
  exact lp5 x1 x2 1000 (-1) 0 _ _ _ hP hD hS (lv_sub hl [2, 3, 4, 1, 0] rfl) hd
-- OwnsLiftModel.parts(II)J
def B_Mo_parts_L42 (x1_f42 : Int32) (x2_f42 : Int32) (z_f42 : T_Mo) (k42_142 : Int64 → Option (Int64 × T_Mo)) (self42 : Int32 → Int32 → Int64 → Option (Int64 × T_Mo)) (x3_42 : Int32) (x4_42 : Int32) (x5_42 : Int64) : Option (Int64 × T_Mo) :=
  if x3_42 = 0 then (k42_142 x5_42) else ((d_Mo_dearestOf x1_f42 x3_42 z_f42).bind fun v_12 => if inb (58 + v_12) 901 = true then (if ((q_Mo_s z_f42) (58 + v_12).toNatClampNeg) ≤ x4_42 then (if inb ((7 * x1_f42) + v_12) 28 = true then (self42 (x3_42 &&& (((1 : Int32) <<< (v_12 &&& 31)) ^^^ (-1))) (x4_42 - ((q_Mo_s z_f42) (58 + v_12).toNatClampNeg)) (x5_42 + (((q_Mo_likes z_f42) ((7 * x1_f42) + v_12).toNatClampNeg).toInt64))) else none) else (if inb ((7 * x1_f42) + v_12) 28 = true then ((d_Mo_lowest ((x5_42 * (((q_Mo_s z_f42) (58 + v_12).toNatClampNeg).toInt64)) + ((((q_Mo_likes z_f42) ((7 * x1_f42) + v_12).toNatClampNeg).toInt64) * x4_42.toInt64)) (((q_Mo_s z_f42) (58 + v_12).toNatClampNeg).toInt64) x2_f42).bind fun v_16 => some (v_16, z_f42)) else none)) else none)
def d_Mo_parts_L42 (x1_f42 : Int32) (x2_f42 : Int32) (z_f42 : T_Mo) (k42_142 : Int64 → Option (Int64 × T_Mo)) (n : Nat) : Int32 → Int32 → Int64 → Option (Int64 × T_Mo) := recN (fun _ _ _ => none) (fun self => B_Mo_parts_L42 x1_f42 x2_f42 z_f42 k42_142 self) n
def d_Mo_parts (x1 : Int32) (x2 : Int32) (z : T_Mo) : Option (Int64 × T_Mo) :=
  (d_Mo_isPerson x1 z).bind fun v_1 => if v_1 = 0 then (some ((-9223372036854775808), z)) else ((d_Mo_in x2 0 1).bind fun v_4 => if v_4 = 0 then (some ((-9223372036854775808), z)) else ((d_Mo_looksForAll z).bind fun v_7 => (d_Mo_thingsOf x1 v_7).bind fun v_9 => if inb x1 4 = true then (d_Mo_parts_L42 x1 x2 v_7 (fun x5_42 => if x2 = 0 then (some (x5_42, v_7)) else (some (1, v_7))) 1000 v_9 ((q_Mo_lifts v_7) x1.toNatClampNeg) 0) else none))
theorem d_Mo_parts_0 : decode b_Mo_parts 0 = .ok (.aload_n 0, 1) := by decide +kernel
theorem d_Mo_parts_1 : decode b_Mo_parts 1 = .ok (.iload_n 1, 1) := by decide +kernel
theorem d_Mo_parts_2 : decode b_Mo_parts 2 = .ok (.invokevirtual 147, 3) := by decide +kernel
theorem d_Mo_parts_5 : decode b_Mo_parts 5 = .ok (.ifCond .eq 12, 3) := by decide +kernel
theorem d_Mo_parts_8 : decode b_Mo_parts 8 = .ok (.iload_n 2, 1) := by decide +kernel
theorem d_Mo_parts_9 : decode b_Mo_parts 9 = .ok (.iconst 0, 1) := by decide +kernel
theorem d_Mo_parts_10 : decode b_Mo_parts 10 = .ok (.iconst 1, 1) := by decide +kernel
theorem d_Mo_parts_11 : decode b_Mo_parts 11 = .ok (.invokestatic 50, 3) := by decide +kernel
theorem d_Mo_parts_14 : decode b_Mo_parts 14 = .ok (.ifCond .ne 7, 3) := by decide +kernel
theorem d_Mo_parts_17 : decode b_Mo_parts 17 = .ok (.ldc2_w 210, 3) := by decide +kernel
theorem d_Mo_parts_20 : decode b_Mo_parts 20 = .ok (.lreturn, 1) := by decide +kernel
theorem d_Mo_parts_21 : decode b_Mo_parts 21 = .ok (.aload_n 0, 1) := by decide +kernel
theorem d_Mo_parts_22 : decode b_Mo_parts 22 = .ok (.invokevirtual 178, 3) := by decide +kernel
theorem d_Mo_parts_25 : decode b_Mo_parts 25 = .ok (.aload_n 0, 1) := by decide +kernel
theorem d_Mo_parts_26 : decode b_Mo_parts 26 = .ok (.iload_n 1, 1) := by decide +kernel
theorem d_Mo_parts_27 : decode b_Mo_parts 27 = .ok (.invokevirtual 157, 3) := by decide +kernel
theorem d_Mo_parts_30 : decode b_Mo_parts 30 = .ok (.istore_n 3, 1) := by decide +kernel
theorem d_Mo_parts_31 : decode b_Mo_parts 31 = .ok (.aload_n 0, 1) := by decide +kernel
theorem d_Mo_parts_32 : decode b_Mo_parts 32 = .ok (.getfield 31, 3) := by decide +kernel
theorem d_Mo_parts_35 : decode b_Mo_parts 35 = .ok (.iload_n 1, 1) := by decide +kernel
theorem d_Mo_parts_36 : decode b_Mo_parts 36 = .ok (.iaload, 1) := by decide +kernel
theorem d_Mo_parts_37 : decode b_Mo_parts 37 = .ok (.istore 4, 2) := by decide +kernel
theorem d_Mo_parts_39 : decode b_Mo_parts 39 = .ok (.lconst 0, 1) := by decide +kernel
theorem d_Mo_parts_40 : decode b_Mo_parts 40 = .ok (.lstore 5, 2) := by decide +kernel
theorem d_Mo_parts_42 : decode b_Mo_parts 42 = .ok (.iload_n 3, 1) := by decide +kernel
theorem d_Mo_parts_43 : decode b_Mo_parts 43 = .ok (.ifCond .eq 99, 3) := by decide +kernel
theorem d_Mo_parts_46 : decode b_Mo_parts 46 = .ok (.aload_n 0, 1) := by decide +kernel
theorem d_Mo_parts_47 : decode b_Mo_parts 47 = .ok (.iload_n 1, 1) := by decide +kernel
theorem d_Mo_parts_48 : decode b_Mo_parts 48 = .ok (.iload_n 3, 1) := by decide +kernel
theorem d_Mo_parts_49 : decode b_Mo_parts 49 = .ok (.invokevirtual 212, 3) := by decide +kernel
theorem d_Mo_parts_52 : decode b_Mo_parts 52 = .ok (.istore 7, 2) := by decide +kernel
theorem d_Mo_parts_54 : decode b_Mo_parts 54 = .ok (.aload_n 0, 1) := by decide +kernel
theorem d_Mo_parts_55 : decode b_Mo_parts 55 = .ok (.getfield 9, 3) := by decide +kernel
theorem d_Mo_parts_58 : decode b_Mo_parts 58 = .ok (.bipush 58, 2) := by decide +kernel
theorem d_Mo_parts_60 : decode b_Mo_parts 60 = .ok (.iload 7, 2) := by decide +kernel
theorem d_Mo_parts_62 : decode b_Mo_parts 62 = .ok (.iadd, 1) := by decide +kernel
theorem d_Mo_parts_63 : decode b_Mo_parts 63 = .ok (.iaload, 1) := by decide +kernel
theorem d_Mo_parts_64 : decode b_Mo_parts 64 = .ok (.istore 8, 2) := by decide +kernel
theorem d_Mo_parts_66 : decode b_Mo_parts 66 = .ok (.iload 8, 2) := by decide +kernel
theorem d_Mo_parts_68 : decode b_Mo_parts 68 = .ok (.iload 4, 2) := by decide +kernel
theorem d_Mo_parts_70 : decode b_Mo_parts 70 = .ok (.if_icmp .le 35, 3) := by decide +kernel
theorem d_Mo_parts_73 : decode b_Mo_parts 73 = .ok (.lload 5, 2) := by decide +kernel
theorem d_Mo_parts_75 : decode b_Mo_parts 75 = .ok (.iload 8, 2) := by decide +kernel
theorem d_Mo_parts_77 : decode b_Mo_parts 77 = .ok (.i2l, 1) := by decide +kernel
theorem d_Mo_parts_78 : decode b_Mo_parts 78 = .ok (.lmul, 1) := by decide +kernel
theorem d_Mo_parts_79 : decode b_Mo_parts 79 = .ok (.aload_n 0, 1) := by decide +kernel
theorem d_Mo_parts_80 : decode b_Mo_parts 80 = .ok (.getfield 28, 3) := by decide +kernel
theorem d_Mo_parts_83 : decode b_Mo_parts 83 = .ok (.bipush 7, 2) := by decide +kernel
theorem d_Mo_parts_85 : decode b_Mo_parts 85 = .ok (.iload_n 1, 1) := by decide +kernel
theorem d_Mo_parts_86 : decode b_Mo_parts 86 = .ok (.imul, 1) := by decide +kernel
theorem d_Mo_parts_87 : decode b_Mo_parts 87 = .ok (.iload 7, 2) := by decide +kernel
theorem d_Mo_parts_89 : decode b_Mo_parts 89 = .ok (.iadd, 1) := by decide +kernel
theorem d_Mo_parts_90 : decode b_Mo_parts 90 = .ok (.iaload, 1) := by decide +kernel
theorem d_Mo_parts_91 : decode b_Mo_parts 91 = .ok (.i2l, 1) := by decide +kernel
theorem d_Mo_parts_92 : decode b_Mo_parts 92 = .ok (.iload 4, 2) := by decide +kernel
theorem d_Mo_parts_94 : decode b_Mo_parts 94 = .ok (.i2l, 1) := by decide +kernel
theorem d_Mo_parts_95 : decode b_Mo_parts 95 = .ok (.lmul, 1) := by decide +kernel
theorem d_Mo_parts_96 : decode b_Mo_parts 96 = .ok (.ladd, 1) := by decide +kernel
theorem d_Mo_parts_97 : decode b_Mo_parts 97 = .ok (.iload 8, 2) := by decide +kernel
theorem d_Mo_parts_99 : decode b_Mo_parts 99 = .ok (.i2l, 1) := by decide +kernel
theorem d_Mo_parts_100 : decode b_Mo_parts 100 = .ok (.iload_n 2, 1) := by decide +kernel
theorem d_Mo_parts_101 : decode b_Mo_parts 101 = .ok (.invokestatic 215, 3) := by decide +kernel
theorem d_Mo_parts_104 : decode b_Mo_parts 104 = .ok (.lreturn, 1) := by decide +kernel
theorem d_Mo_parts_105 : decode b_Mo_parts 105 = .ok (.iload 4, 2) := by decide +kernel
theorem d_Mo_parts_107 : decode b_Mo_parts 107 = .ok (.iload 8, 2) := by decide +kernel
theorem d_Mo_parts_109 : decode b_Mo_parts 109 = .ok (.isub, 1) := by decide +kernel
theorem d_Mo_parts_110 : decode b_Mo_parts 110 = .ok (.istore 4, 2) := by decide +kernel
theorem d_Mo_parts_112 : decode b_Mo_parts 112 = .ok (.lload 5, 2) := by decide +kernel
theorem d_Mo_parts_114 : decode b_Mo_parts 114 = .ok (.aload_n 0, 1) := by decide +kernel
theorem d_Mo_parts_115 : decode b_Mo_parts 115 = .ok (.getfield 28, 3) := by decide +kernel
theorem d_Mo_parts_118 : decode b_Mo_parts 118 = .ok (.bipush 7, 2) := by decide +kernel
theorem d_Mo_parts_120 : decode b_Mo_parts 120 = .ok (.iload_n 1, 1) := by decide +kernel
theorem d_Mo_parts_121 : decode b_Mo_parts 121 = .ok (.imul, 1) := by decide +kernel
theorem d_Mo_parts_122 : decode b_Mo_parts 122 = .ok (.iload 7, 2) := by decide +kernel
theorem d_Mo_parts_124 : decode b_Mo_parts 124 = .ok (.iadd, 1) := by decide +kernel
theorem d_Mo_parts_125 : decode b_Mo_parts 125 = .ok (.iaload, 1) := by decide +kernel
theorem d_Mo_parts_126 : decode b_Mo_parts 126 = .ok (.i2l, 1) := by decide +kernel
theorem d_Mo_parts_127 : decode b_Mo_parts 127 = .ok (.ladd, 1) := by decide +kernel
theorem d_Mo_parts_128 : decode b_Mo_parts 128 = .ok (.lstore 5, 2) := by decide +kernel
theorem d_Mo_parts_130 : decode b_Mo_parts 130 = .ok (.iload_n 3, 1) := by decide +kernel
theorem d_Mo_parts_131 : decode b_Mo_parts 131 = .ok (.iconst 1, 1) := by decide +kernel
theorem d_Mo_parts_132 : decode b_Mo_parts 132 = .ok (.iload 7, 2) := by decide +kernel
theorem d_Mo_parts_134 : decode b_Mo_parts 134 = .ok (.ishl, 1) := by decide +kernel
theorem d_Mo_parts_135 : decode b_Mo_parts 135 = .ok (.iconst (-1), 1) := by decide +kernel
theorem d_Mo_parts_136 : decode b_Mo_parts 136 = .ok (.ixor, 1) := by decide +kernel
theorem d_Mo_parts_137 : decode b_Mo_parts 137 = .ok (.iand, 1) := by decide +kernel
theorem d_Mo_parts_138 : decode b_Mo_parts 138 = .ok (.istore_n 3, 1) := by decide +kernel
theorem d_Mo_parts_139 : decode b_Mo_parts 139 = .ok (.goto (-97), 3) := by decide +kernel
theorem d_Mo_parts_142 : decode b_Mo_parts 142 = .ok (.iload_n 2, 1) := by decide +kernel
theorem d_Mo_parts_143 : decode b_Mo_parts 143 = .ok (.ifCond .ne 8, 3) := by decide +kernel
theorem d_Mo_parts_146 : decode b_Mo_parts 146 = .ok (.lload 5, 2) := by decide +kernel
theorem d_Mo_parts_148 : decode b_Mo_parts 148 = .ok (.goto 4, 3) := by decide +kernel
theorem d_Mo_parts_151 : decode b_Mo_parts 151 = .ok (.lconst 1, 1) := by decide +kernel
theorem d_Mo_parts_152 : decode b_Mo_parts 152 = .ok (.lreturn, 1) := by decide +kernel
theorem o_Mo_parts : OkV y_Mo_parts "OwnsLiftModel" b_Mo_parts 9 (some .long) 2 := ⟨⟨rfl, by decide +kernel, by decide +kernel, by decide +kernel⟩, g_1287, g_1288, g_81, g_1289⟩
set_option maxHeartbeats 4000000 in
set_option maxRecDepth 100000 in
theorem c_Mo_parts (l : Launch) (D : va_G) (g : Nat → ClassId) (a : Nat → Nat) (x1 : Int32) (x2 : Int32) (z : T_Mo) (v : Int64 × T_Mo) (h : d_Mo_parts x1 x2 z = some v) :
    ML l y_Mo_parts b_Mo_parts 9 ({ frames := 4, cells := 0, slots := 0, locals := 97 } : Room) D g [.ref (a 0), .int x1, .int x2] (ws_Mo g a z) (v.1) (ws_Mo g a v.2) := by
  have hd := h
  unfold d_Mo_parts at hd
  refine enterL rfl (Nat.le_of_ble_eq_true rfl) (fun p e s m below meth c A ls hx hb hml hr hown hg hlk hK hA hP hD hS hCs hl => ?_)
  have hown : s.vm.findClass "OwnsLiftModel" = some m.cls := hown
  have hl : lv_has ls 9 [(0, .ref (a 0)), (1, .int x1), (2, .int x2)] := hl
  show GL p l e s m ({ frames := 4, cells := 0, slots := 0, locals := 97 } : Room) ([.ref (a 0), .int x1, .int x2] : List Value).toArray below meth c A D g (ws_Mo g a v.2) (v.1) s.heap [] (F0 m 0 ls [])
  refine lv_aload_n hx hb d_Mo_parts_0 rfl (lv_at hl 0 rfl) ?_
  refine lv_iload_n hx hb d_Mo_parts_1 rfl (lv_at hl 1 rfl) ?_
  obtain ⟨v_1, e_2, hd⟩ := bind_s hd
  refine callVI (ws' := ws_Mo g a z) (rest := []) (As := [.int x1]) hx hb hml hown hg hK hP hD hS hA hCs hl.1 (c_Mo_isPerson l D g a x1 z _ e_2) o_Mo_isPerson g_1147 (ci := 1) (q0 := 0) rfl rfl (List.range' 0 12) (segC1 rfl rfl) (by decide) rfl (segP1 rfl rfl) rfl rfl (Nat.le_of_ble_eq_true rfl) ⟨rfl, rfl, Nat.le_of_ble_eq_true rfl, Nat.le_of_ble_eq_true rfl⟩ d_Mo_parts_2 (fun H locs hP hD hS => ?_)
  refine lv_if_eq (tgt := 17) hx hb d_Mo_parts_5 (by decide) (fun h_3 => ?_) (fun h_3 => ?_)
  · have hd := ite_t hd h_3
    refine lv_ldc2 (v := (-9223372036854775808)) hx hb hown (hg _ g_1290) d_Mo_parts_17 ?_
    obtain rfl := Option.some.inj hd
    exact retL hx hb hr hlk hK hP hD hS d_Mo_parts_20 rfl
  · have hd := ite_f hd h_3
    refine lv_iload_n hx hb d_Mo_parts_8 rfl (lv_at hl 2 rfl) ?_
    refine lv_iconst (v := 0) hx hb d_Mo_parts_9 (by decide) ?_
    refine lv_iconst (v := 1) hx hb d_Mo_parts_10 (by decide) ?_
    obtain ⟨v_4, e_5, hd⟩ := bind_s hd
    refine callSI (ws' := ws_Mo g a z) (rest := []) (As := [.int x2, .int 0, .int 1]) hx hb hml hown hg hK hP hD hS hA hCs hl.1 (c_Mo_in l D g  x2 0 1 _ e_5) o_Mo_in g_1076 [] segC0 rfl rfl segP0 rfl rfl (Nat.le_of_ble_eq_true rfl) ⟨rfl, rfl, Nat.le_of_ble_eq_true rfl, Nat.le_of_ble_eq_true rfl⟩ d_Mo_parts_11 (fun H locs hP hD hS => ?_)
    refine lv_if_ne (tgt := 21) hx hb d_Mo_parts_14 (by decide) (fun h_6 => ?_) (fun h_6 => ?_)
    · have hd := ite_f hd h_6
      refine lv_aload_n hx hb d_Mo_parts_21 rfl (lv_at hl 0 rfl) ?_
      obtain ⟨v_7, e_8, hd⟩ := bind_s hd
      refine callVV (ws' := ws_Mo g a v_7) (rest := []) (As := []) hx hb hml hown hg hK hP hD hS hA hCs hl.1 (c_Mo_looksForAll l D g a z _ e_8) o_Mo_looksForAll g_1218 (ci := 1) (q0 := 0) rfl rfl (List.range' 0 12) (segC1 rfl rfl) (by decide) rfl (segP1 rfl rfl) rfl rfl (Nat.le_of_ble_eq_true rfl) ⟨rfl, rfl, Nat.le_of_ble_eq_true rfl, Nat.le_of_ble_eq_true rfl⟩ d_Mo_parts_22 (fun H locs hP hD hS => ?_)
      refine lv_aload_n hx hb d_Mo_parts_25 rfl (lv_at hl 0 rfl) ?_
      refine lv_iload_n hx hb d_Mo_parts_26 rfl (lv_at hl 1 rfl) ?_
      obtain ⟨v_9, e_10, hd⟩ := bind_s hd
      refine callVI (ws' := ws_Mo g a v_7) (rest := []) (As := [.int x1]) hx hb hml hown hg hK hP hD hS hA hCs hl.1 (c_Mo_thingsOf l D g a x1 v_7 _ e_10) o_Mo_thingsOf g_1171 (ci := 1) (q0 := 0) rfl rfl (List.range' 0 12) (segC1 rfl rfl) (by decide) rfl (segP1 rfl rfl) rfl rfl (Nat.le_of_ble_eq_true rfl) ⟨rfl, rfl, Nat.le_of_ble_eq_true rfl, Nat.le_of_ble_eq_true rfl⟩ d_Mo_parts_27 (fun H locs hP hD hS => ?_)
      refine lv_istore_n (lv' := [(3, .int v_9), (0, .ref (a 0)), (1, .int x1), (2, .int x2)]) hx hb d_Mo_parts_30 rfl hl (by decide) rfl (fun ls hl => ?_)
      refine lv_aload_n hx hb d_Mo_parts_31 rfl (lv_at hl 1 rfl) ?_
      refine va_get (D := D) (ci := 1) (v := .ref (a 7)) (C := R_Mo) (T := F_Mo) (N := 26) hx hb hg i_Mo hown hK hP 0 rfl rfl 13 (by decide) (hg _ g_1005) (fun _ h9 => h9) rfl d_Mo_parts_32 ?_
      refine lv_iload_n hx hb d_Mo_parts_35 rfl (lv_at hl 2 rfl) ?_
      obtain ⟨h_21, hd⟩ := ite_s hd
      refine ialdK hx hb hK hP 7 0 rfl rfl (inb_t h_21) rfl d_Mo_parts_36 ?_
      refine lv_istore (lv' := [(4, .int ((q_Mo_lifts v_7) x1.toNatClampNeg)), (3, .int v_9), (0, .ref (a 0)), (1, .int x1), (2, .int x2)]) hx hb d_Mo_parts_37 hl (by decide) rfl (fun ls hl => ?_)
      refine lv_lconst (v := 0) hx hb d_Mo_parts_39 (by decide) ?_
      refine lv_lstore (lv' := [(5, .long 0), (4, .int ((q_Mo_lifts v_7) x1.toNatClampNeg)), (3, .int v_9), (0, .ref (a 0)), (1, .int x1), (2, .int x2)]) hx hb d_Mo_parts_40 hl (by decide) rfl (fun ls hl => ?_)
      have ex42_142 : ∀ (x5_42 : Int64) (H : Heap) (locs : List Loc) (ls : Array Slot), va_P D classes (ws_Mo g a v_7) H → va_D A (ws_Mo g a v_7) → va_S A s.heap H locs → lv_has ls 9 [(2, .int x2), (5, .long x5_42)] → (if x2 = 0 then (some (x5_42, v_7)) else (some (1, v_7))) = some v → GL p l e s m ({ frames := 4, cells := 0, slots := 0, locals := 97 } : Room) ([.ref (a 0), .int x1, .int x2] : List Value).toArray below meth c A D g (ws_Mo g a v.2) (v.1) H locs (F0 m 142 ls []) := by
        intro x5_42 H locs ls hP hD hS hl hd
        refine lv_iload_n hx hb d_Mo_parts_142 rfl (lv_at hl 0 rfl) ?_
        refine lv_if_ne (tgt := 151) hx hb d_Mo_parts_143 (by decide) (fun h_20 => ?_) (fun h_20 => ?_)
        · have hd := ite_f hd h_20
          refine lv_lconst (v := 1) hx hb d_Mo_parts_151 (by decide) ?_
          obtain rfl := Option.some.inj hd
          exact retL hx hb hr hlk hK hP hD hS d_Mo_parts_152 rfl
        · have hd := ite_t hd h_20
          refine lv_lload hx hb d_Mo_parts_146 (lv_at hl 1 rfl) ?_
          refine lv_goto (tgt := 152) hx hb d_Mo_parts_148 (by decide) ?_
          obtain rfl := Option.some.inj hd
          exact retL hx hb hr hlk hK hP hD hS d_Mo_parts_152 rfl
      have lp42 : ∀ (x1_f42 : Int32) (x2_f42 : Int32) (z_f42 : T_Mo) (k42_142 : Int64 → Option (Int64 × T_Mo)) (hk42_142 : ∀ (x5_42 : Int64) (H : Heap) (locs : List Loc) (ls : Array Slot), va_P D classes (ws_Mo g a z_f42) H → va_D A (ws_Mo g a z_f42) → va_S A s.heap H locs → lv_has ls 9 [(2, .int x2_f42), (5, .long x5_42)] → k42_142 x5_42 = some v → GL p l e s m ({ frames := 4, cells := 0, slots := 0, locals := 97 } : Room) ([.ref (a 0), .int x1, .int x2] : List Value).toArray below meth c A D g (ws_Mo g a v.2) (v.1) H locs (F0 m 142 ls [])) (n : Nat) (x3_42 : Int32) (x4_42 : Int32) (x5_42 : Int64) (H : Heap) (locs : List Loc) (ls : Array Slot), va_P D classes (ws_Mo g a z_f42) H → va_D A (ws_Mo g a z_f42) → va_S A s.heap H locs → lv_has ls 9 [(0, .ref (a 0)), (1, .int x1_f42), (2, .int x2_f42), (3, .int x3_42), (4, .int x4_42), (5, .long x5_42)] → d_Mo_parts_L42 x1_f42 x2_f42 z_f42 k42_142 n x3_42 x4_42 x5_42 = some v → GL p l e s m ({ frames := 4, cells := 0, slots := 0, locals := 97 } : Room) ([.ref (a 0), .int x1, .int x2] : List Value).toArray below meth c A D g (ws_Mo g a v.2) (v.1) H locs (F0 m 42 ls []) := by
        intro x1_f42 x2_f42 z_f42 k42_142 hk42_142 n
        induction n with
        | zero =>
          intro  x3_42 x4_42 x5_42 H locs ls hP hD hS hl hd
          have hd : none = some v := hd
          cases hd
        | succ n ih42 =>
          intro  x3_42 x4_42 x5_42 H locs ls hP hD hS hl hd
          have hd : B_Mo_parts_L42 x1_f42 x2_f42 z_f42 k42_142 (d_Mo_parts_L42 x1_f42 x2_f42 z_f42 k42_142 n) x3_42 x4_42 x5_42 = some v := hd
          generalize d_Mo_parts_L42 x1_f42 x2_f42 z_f42 k42_142 n = self42 at ih42 hd
          unfold B_Mo_parts_L42 at hd
          refine lv_iload_n hx hb d_Mo_parts_42 rfl (lv_at hl 3 rfl) ?_
          refine lv_if_eq (tgt := 142) hx hb d_Mo_parts_43 (by decide) (fun h_11 => ?_) (fun h_11 => ?_)
          · have hd := ite_t hd h_11
            exact hk42_142 x5_42 _ _ _ hP hD hS (lv_sub hl [2, 5] rfl) hd
          · have hd := ite_f hd h_11
            refine lv_aload_n hx hb d_Mo_parts_46 rfl (lv_at hl 0 rfl) ?_
            refine lv_iload_n hx hb d_Mo_parts_47 rfl (lv_at hl 1 rfl) ?_
            refine lv_iload_n hx hb d_Mo_parts_48 rfl (lv_at hl 3 rfl) ?_
            obtain ⟨v_12, e_13, hd⟩ := bind_s hd
            refine callVI (ws' := ws_Mo g a z_f42) (rest := []) (As := [.int x1_f42, .int x3_42]) hx hb hml hown hg hK hP hD hS hA hCs hl.1 (c_Mo_dearestOf l D g a x1_f42 x3_42 z_f42 _ e_13) o_Mo_dearestOf g_1291 (ci := 1) (q0 := 0) rfl rfl (List.range' 0 12) (segC1 rfl rfl) (by decide) rfl (segP1 rfl rfl) rfl rfl (Nat.le_of_ble_eq_true rfl) ⟨rfl, rfl, Nat.le_of_ble_eq_true rfl, Nat.le_of_ble_eq_true rfl⟩ d_Mo_parts_49 (fun H locs hP hD hS => ?_)
            refine lv_istore (lv' := [(7, .int v_12), (0, .ref (a 0)), (1, .int x1_f42), (2, .int x2_f42), (3, .int x3_42), (4, .int x4_42), (5, .long x5_42)]) hx hb d_Mo_parts_52 hl (by decide) rfl (fun ls hl => ?_)
            refine lv_aload_n hx hb d_Mo_parts_54 rfl (lv_at hl 1 rfl) ?_
            refine va_get (D := D) (ci := 1) (v := .ref (a 1)) (C := R_Mo) (T := F_Mo) (N := 26) hx hb hg i_Mo hown hK hP 0 rfl rfl 1 (by decide) (hg _ g_993) (fun _ h9 => h9) rfl d_Mo_parts_55 ?_
            refine lv_bipush (v := 58) hx hb d_Mo_parts_58 (by decide) ?_
            refine lv_iload hx hb d_Mo_parts_60 (lv_at hl 0 rfl) ?_
            refine lv_iadd hx hb d_Mo_parts_62 ?_
            obtain ⟨h_19, hd⟩ := ite_s hd
            refine ialdK hx hb hK hP 1 0 rfl rfl (inb_t h_19) rfl d_Mo_parts_63 ?_
            refine lv_istore (lv' := [(8, .int ((q_Mo_s z_f42) (58 + v_12).toNatClampNeg)), (7, .int v_12), (0, .ref (a 0)), (1, .int x1_f42), (2, .int x2_f42), (3, .int x3_42), (4, .int x4_42), (5, .long x5_42)]) hx hb d_Mo_parts_64 hl (by decide) rfl (fun ls hl => ?_)
            refine lv_iload hx hb d_Mo_parts_66 (lv_at hl 0 rfl) ?_
            refine lv_iload hx hb d_Mo_parts_68 (lv_at hl 6 rfl) ?_
            refine lv_icmp_le (tgt := 105) hx hb d_Mo_parts_70 (by decide) (fun h_14 => ?_) (fun h_14 => ?_)
            · have hd := ite_t hd h_14
              refine lv_iload hx hb d_Mo_parts_105 (lv_at hl 6 rfl) ?_
              refine lv_iload hx hb d_Mo_parts_107 (lv_at hl 0 rfl) ?_
              refine lv_isub hx hb d_Mo_parts_109 ?_
              refine lv_istore (lv' := [(4, .int (x4_42 - ((q_Mo_s z_f42) (58 + v_12).toNatClampNeg))), (8, .int ((q_Mo_s z_f42) (58 + v_12).toNatClampNeg)), (7, .int v_12), (0, .ref (a 0)), (1, .int x1_f42), (2, .int x2_f42), (3, .int x3_42), (5, .long x5_42)]) hx hb d_Mo_parts_110 hl (by decide) rfl (fun ls hl => ?_)
              refine lv_lload hx hb d_Mo_parts_112 (lv_at hl 7 rfl) ?_
              refine lv_aload_n hx hb d_Mo_parts_114 rfl (lv_at hl 3 rfl) ?_
              refine va_get (D := D) (ci := 1) (v := .ref (a 6)) (C := R_Mo) (T := F_Mo) (N := 26) hx hb hg i_Mo hown hK hP 0 rfl rfl 12 (by decide) (hg _ g_1004) (fun _ h9 => h9) rfl d_Mo_parts_115 ?_
              refine lv_bipush (v := 7) hx hb d_Mo_parts_118 (by decide) ?_
              refine lv_iload_n hx hb d_Mo_parts_120 rfl (lv_at hl 4 rfl) ?_
              refine lv_imul hx hb d_Mo_parts_121 ?_
              refine lv_iload hx hb d_Mo_parts_122 (lv_at hl 2 rfl) ?_
              refine lv_iadd hx hb d_Mo_parts_124 ?_
              obtain ⟨h_15, hd⟩ := ite_s hd
              refine ialdK hx hb hK hP 6 0 rfl rfl (inb_t h_15) rfl d_Mo_parts_125 ?_
              refine lv_i2l hx hb d_Mo_parts_126 rfl ?_
              refine lv_ladd hx hb d_Mo_parts_127 ?_
              refine lv_lstore (lv' := [(5, .long (x5_42 + (((q_Mo_likes z_f42) ((7 * x1_f42) + v_12).toNatClampNeg).toInt64))), (4, .int (x4_42 - ((q_Mo_s z_f42) (58 + v_12).toNatClampNeg))), (8, .int ((q_Mo_s z_f42) (58 + v_12).toNatClampNeg)), (7, .int v_12), (0, .ref (a 0)), (1, .int x1_f42), (2, .int x2_f42), (3, .int x3_42)]) hx hb d_Mo_parts_128 hl (by decide) rfl (fun ls hl => ?_)
              refine lv_iload_n hx hb d_Mo_parts_130 rfl (lv_at hl 7 rfl) ?_
              refine lv_iconst (v := 1) hx hb d_Mo_parts_131 (by decide) ?_
              refine lv_iload hx hb d_Mo_parts_132 (lv_at hl 3 rfl) ?_
              refine lv_ishl hx hb d_Mo_parts_134 ?_
              refine lv_iconst (v := (-1)) hx hb d_Mo_parts_135 (by decide) ?_
              refine lv_ixor hx hb d_Mo_parts_136 ?_
              refine lv_iand hx hb d_Mo_parts_137 ?_
              refine lv_istore_n (lv' := [(3, .int (x3_42 &&& (((1 : Int32) <<< (v_12 &&& 31)) ^^^ (-1)))), (5, .long (x5_42 + (((q_Mo_likes z_f42) ((7 * x1_f42) + v_12).toNatClampNeg).toInt64))), (4, .int (x4_42 - ((q_Mo_s z_f42) (58 + v_12).toNatClampNeg))), (8, .int ((q_Mo_s z_f42) (58 + v_12).toNatClampNeg)), (7, .int v_12), (0, .ref (a 0)), (1, .int x1_f42), (2, .int x2_f42)]) hx hb d_Mo_parts_138 rfl hl (by decide) rfl (fun ls hl => ?_)
              refine lv_goto (tgt := 42) hx hb d_Mo_parts_139 (by decide) ?_
              exact ih42 (x3_42 &&& (((1 : Int32) <<< (v_12 &&& 31)) ^^^ (-1))) (x4_42 - ((q_Mo_s z_f42) (58 + v_12).toNatClampNeg)) (x5_42 + (((q_Mo_likes z_f42) ((7 * x1_f42) + v_12).toNatClampNeg).toInt64)) _ _ _ hP hD hS (lv_sub hl [5, 6, 7, 0, 2, 1] rfl) hd
            · have hd := ite_f hd h_14
              refine lv_lload hx hb d_Mo_parts_73 (lv_at hl 7 rfl) ?_
              refine lv_iload hx hb d_Mo_parts_75 (lv_at hl 0 rfl) ?_
              refine lv_i2l hx hb d_Mo_parts_77 rfl ?_
              refine lv_lmul hx hb d_Mo_parts_78 ?_
              refine lv_aload_n hx hb d_Mo_parts_79 rfl (lv_at hl 2 rfl) ?_
              refine va_get (D := D) (ci := 1) (v := .ref (a 6)) (C := R_Mo) (T := F_Mo) (N := 26) hx hb hg i_Mo hown hK hP 0 rfl rfl 12 (by decide) (hg _ g_1004) (fun _ h9 => h9) rfl d_Mo_parts_80 ?_
              refine lv_bipush (v := 7) hx hb d_Mo_parts_83 (by decide) ?_
              refine lv_iload_n hx hb d_Mo_parts_85 rfl (lv_at hl 3 rfl) ?_
              refine lv_imul hx hb d_Mo_parts_86 ?_
              refine lv_iload hx hb d_Mo_parts_87 (lv_at hl 1 rfl) ?_
              refine lv_iadd hx hb d_Mo_parts_89 ?_
              obtain ⟨h_18, hd⟩ := ite_s hd
              refine ialdK hx hb hK hP 6 0 rfl rfl (inb_t h_18) rfl d_Mo_parts_90 ?_
              refine lv_i2l hx hb d_Mo_parts_91 rfl ?_
              refine lv_iload hx hb d_Mo_parts_92 (lv_at hl 6 rfl) ?_
              refine lv_i2l hx hb d_Mo_parts_94 rfl ?_
              refine lv_lmul hx hb d_Mo_parts_95 ?_
              refine lv_ladd hx hb d_Mo_parts_96 ?_
              refine lv_iload hx hb d_Mo_parts_97 (lv_at hl 0 rfl) ?_
              refine lv_i2l hx hb d_Mo_parts_99 rfl ?_
              refine lv_iload_n hx hb d_Mo_parts_100 rfl (lv_at hl 4 rfl) ?_
              obtain ⟨v_16, e_17, hd⟩ := bind_s hd
              refine callSL (ws' := ws_Mo g a z_f42) (rest := []) (As := [.long ((x5_42 * (((q_Mo_s z_f42) (58 + v_12).toNatClampNeg).toInt64)) + ((((q_Mo_likes z_f42) ((7 * x1_f42) + v_12).toNatClampNeg).toInt64) * x4_42.toInt64)), .long (((q_Mo_s z_f42) (58 + v_12).toNatClampNeg).toInt64), .int x2_f42]) hx hb hml hown hg hK hP hD hS hA hCs hl.1 (c_Mo_lowest l D g  ((x5_42 * (((q_Mo_s z_f42) (58 + v_12).toNatClampNeg).toInt64)) + ((((q_Mo_likes z_f42) ((7 * x1_f42) + v_12).toNatClampNeg).toInt64) * x4_42.toInt64)) (((q_Mo_s z_f42) (58 + v_12).toNatClampNeg).toInt64) x2_f42 _ e_17) o_Mo_lowest g_1295 [] segC0 rfl rfl segP0 rfl rfl (Nat.le_of_ble_eq_true rfl) ⟨rfl, rfl, Nat.le_of_ble_eq_true rfl, Nat.le_of_ble_eq_true rfl⟩ d_Mo_parts_101 (fun H locs hP hD hS => ?_)
              obtain rfl := Option.some.inj hd
              exact retL hx hb hr hlk hK hP hD hS d_Mo_parts_104 rfl
      exact lp42 x1 x2 v_7 _ ex42_142 1000 v_9 ((q_Mo_lifts v_7) x1.toNatClampNeg) 0 _ _ _ hP hD hS (lv_sub hl [3, 4, 5, 2, 1, 0] rfl) hd
    · have hd := ite_t hd h_6
      refine lv_ldc2 (v := (-9223372036854775808)) hx hb hown (hg _ g_1290) d_Mo_parts_17 ?_
      obtain rfl := Option.some.inj hd
      exact retL hx hb hr hlk hK hP hD hS d_Mo_parts_20 rfl
-- OwnsLiftModel.canSwap(II)Z
def d_Mo_canSwap (x1 : Int32) (x2 : Int32) (z : T_Mo) : Option (Int32) :=
  if inb (65 + x1) 901 = true then (if inb (65 + x2) 901 = true then (if ((q_Mo_s z) (65 + x1).toNatClampNeg) = 4 then (some (0)) else (if ((q_Mo_s z) (65 + x2).toNatClampNeg) = 4 then (some (0)) else (if ((q_Mo_s z) (65 + x1).toNatClampNeg) = ((q_Mo_s z) (65 + x2).toNatClampNeg) then (some (0)) else (if inb (58 + x2) 901 = true then (if inb (58 + x1) 901 = true then (if inb ((7 * ((q_Mo_s z) (65 + x1).toNatClampNeg)) + x2) 28 = true then (if inb ((7 * ((q_Mo_s z) (65 + x1).toNatClampNeg)) + x1) 28 = true then (if ((q_Mo_likes z) ((7 * ((q_Mo_s z) (65 + x1).toNatClampNeg)) + x2).toNatClampNeg) ≤ ((q_Mo_likes z) ((7 * ((q_Mo_s z) (65 + x1).toNatClampNeg)) + x1).toNatClampNeg) then (some (0)) else (if inb ((7 * ((q_Mo_s z) (65 + x2).toNatClampNeg)) + x1) 28 = true then (if inb ((7 * ((q_Mo_s z) (65 + x2).toNatClampNeg)) + x2) 28 = true then (if ((q_Mo_likes z) ((7 * ((q_Mo_s z) (65 + x2).toNatClampNeg)) + x1).toNatClampNeg) ≤ ((q_Mo_likes z) ((7 * ((q_Mo_s z) (65 + x2).toNatClampNeg)) + x2).toNatClampNeg) then (some (0)) else ((d_Mo_loadOf ((q_Mo_s z) (65 + x1).toNatClampNeg) z).bind fun v_6 => if inb ((q_Mo_s z) (65 + x1).toNatClampNeg) 4 = true then (if ((q_Mo_lifts z) ((q_Mo_s z) (65 + x1).toNatClampNeg).toNatClampNeg) < (v_6 + (((q_Mo_s z) (58 + x2).toNatClampNeg) - ((q_Mo_s z) (58 + x1).toNatClampNeg))) then (some (0)) else ((d_Mo_loadOf ((q_Mo_s z) (65 + x2).toNatClampNeg) z).bind fun v_9 => if inb ((q_Mo_s z) (65 + x2).toNatClampNeg) 4 = true then (if ((q_Mo_lifts z) ((q_Mo_s z) (65 + x2).toNatClampNeg).toNatClampNeg) < (v_9 - (((q_Mo_s z) (58 + x2).toNatClampNeg) - ((q_Mo_s z) (58 + x1).toNatClampNeg))) then (some (0)) else (some (1))) else none)) else none)) else none) else none)) else none) else none) else none) else none)))) else none) else none
theorem d_Mo_canSwap_0 : decode b_Mo_canSwap 0 = .ok (.aload_n 0, 1) := by decide +kernel
theorem d_Mo_canSwap_1 : decode b_Mo_canSwap 1 = .ok (.getfield 9, 3) := by decide +kernel
theorem d_Mo_canSwap_4 : decode b_Mo_canSwap 4 = .ok (.bipush 65, 2) := by decide +kernel
theorem d_Mo_canSwap_6 : decode b_Mo_canSwap 6 = .ok (.iload_n 1, 1) := by decide +kernel
theorem d_Mo_canSwap_7 : decode b_Mo_canSwap 7 = .ok (.iadd, 1) := by decide +kernel
theorem d_Mo_canSwap_8 : decode b_Mo_canSwap 8 = .ok (.iaload, 1) := by decide +kernel
theorem d_Mo_canSwap_9 : decode b_Mo_canSwap 9 = .ok (.istore_n 3, 1) := by decide +kernel
theorem d_Mo_canSwap_10 : decode b_Mo_canSwap 10 = .ok (.aload_n 0, 1) := by decide +kernel
theorem d_Mo_canSwap_11 : decode b_Mo_canSwap 11 = .ok (.getfield 9, 3) := by decide +kernel
theorem d_Mo_canSwap_14 : decode b_Mo_canSwap 14 = .ok (.bipush 65, 2) := by decide +kernel
theorem d_Mo_canSwap_16 : decode b_Mo_canSwap 16 = .ok (.iload_n 2, 1) := by decide +kernel
theorem d_Mo_canSwap_17 : decode b_Mo_canSwap 17 = .ok (.iadd, 1) := by decide +kernel
theorem d_Mo_canSwap_18 : decode b_Mo_canSwap 18 = .ok (.iaload, 1) := by decide +kernel
theorem d_Mo_canSwap_19 : decode b_Mo_canSwap 19 = .ok (.istore 4, 2) := by decide +kernel
theorem d_Mo_canSwap_21 : decode b_Mo_canSwap 21 = .ok (.iload_n 3, 1) := by decide +kernel
theorem d_Mo_canSwap_22 : decode b_Mo_canSwap 22 = .ok (.iconst 4, 1) := by decide +kernel
theorem d_Mo_canSwap_23 : decode b_Mo_canSwap 23 = .ok (.if_icmp .eq 15, 3) := by decide +kernel
theorem d_Mo_canSwap_26 : decode b_Mo_canSwap 26 = .ok (.iload 4, 2) := by decide +kernel
theorem d_Mo_canSwap_28 : decode b_Mo_canSwap 28 = .ok (.iconst 4, 1) := by decide +kernel
theorem d_Mo_canSwap_29 : decode b_Mo_canSwap 29 = .ok (.if_icmp .eq 9, 3) := by decide +kernel
theorem d_Mo_canSwap_32 : decode b_Mo_canSwap 32 = .ok (.iload_n 3, 1) := by decide +kernel
theorem d_Mo_canSwap_33 : decode b_Mo_canSwap 33 = .ok (.iload 4, 2) := by decide +kernel
theorem d_Mo_canSwap_35 : decode b_Mo_canSwap 35 = .ok (.if_icmp .ne 5, 3) := by decide +kernel
theorem d_Mo_canSwap_38 : decode b_Mo_canSwap 38 = .ok (.iconst 0, 1) := by decide +kernel
theorem d_Mo_canSwap_39 : decode b_Mo_canSwap 39 = .ok (.ireturn, 1) := by decide +kernel
theorem d_Mo_canSwap_40 : decode b_Mo_canSwap 40 = .ok (.aload_n 0, 1) := by decide +kernel
theorem d_Mo_canSwap_41 : decode b_Mo_canSwap 41 = .ok (.getfield 9, 3) := by decide +kernel
theorem d_Mo_canSwap_44 : decode b_Mo_canSwap 44 = .ok (.bipush 58, 2) := by decide +kernel
theorem d_Mo_canSwap_46 : decode b_Mo_canSwap 46 = .ok (.iload_n 2, 1) := by decide +kernel
theorem d_Mo_canSwap_47 : decode b_Mo_canSwap 47 = .ok (.iadd, 1) := by decide +kernel
theorem d_Mo_canSwap_48 : decode b_Mo_canSwap 48 = .ok (.iaload, 1) := by decide +kernel
theorem d_Mo_canSwap_49 : decode b_Mo_canSwap 49 = .ok (.aload_n 0, 1) := by decide +kernel
theorem d_Mo_canSwap_50 : decode b_Mo_canSwap 50 = .ok (.getfield 9, 3) := by decide +kernel
theorem d_Mo_canSwap_53 : decode b_Mo_canSwap 53 = .ok (.bipush 58, 2) := by decide +kernel
theorem d_Mo_canSwap_55 : decode b_Mo_canSwap 55 = .ok (.iload_n 1, 1) := by decide +kernel
theorem d_Mo_canSwap_56 : decode b_Mo_canSwap 56 = .ok (.iadd, 1) := by decide +kernel
theorem d_Mo_canSwap_57 : decode b_Mo_canSwap 57 = .ok (.iaload, 1) := by decide +kernel
theorem d_Mo_canSwap_58 : decode b_Mo_canSwap 58 = .ok (.isub, 1) := by decide +kernel
theorem d_Mo_canSwap_59 : decode b_Mo_canSwap 59 = .ok (.istore 5, 2) := by decide +kernel
theorem d_Mo_canSwap_61 : decode b_Mo_canSwap 61 = .ok (.aload_n 0, 1) := by decide +kernel
theorem d_Mo_canSwap_62 : decode b_Mo_canSwap 62 = .ok (.getfield 28, 3) := by decide +kernel
theorem d_Mo_canSwap_65 : decode b_Mo_canSwap 65 = .ok (.bipush 7, 2) := by decide +kernel
theorem d_Mo_canSwap_67 : decode b_Mo_canSwap 67 = .ok (.iload_n 3, 1) := by decide +kernel
theorem d_Mo_canSwap_68 : decode b_Mo_canSwap 68 = .ok (.imul, 1) := by decide +kernel
theorem d_Mo_canSwap_69 : decode b_Mo_canSwap 69 = .ok (.iload_n 2, 1) := by decide +kernel
theorem d_Mo_canSwap_70 : decode b_Mo_canSwap 70 = .ok (.iadd, 1) := by decide +kernel
theorem d_Mo_canSwap_71 : decode b_Mo_canSwap 71 = .ok (.iaload, 1) := by decide +kernel
theorem d_Mo_canSwap_72 : decode b_Mo_canSwap 72 = .ok (.aload_n 0, 1) := by decide +kernel
theorem d_Mo_canSwap_73 : decode b_Mo_canSwap 73 = .ok (.getfield 28, 3) := by decide +kernel
theorem d_Mo_canSwap_76 : decode b_Mo_canSwap 76 = .ok (.bipush 7, 2) := by decide +kernel
theorem d_Mo_canSwap_78 : decode b_Mo_canSwap 78 = .ok (.iload_n 3, 1) := by decide +kernel
theorem d_Mo_canSwap_79 : decode b_Mo_canSwap 79 = .ok (.imul, 1) := by decide +kernel
theorem d_Mo_canSwap_80 : decode b_Mo_canSwap 80 = .ok (.iload_n 1, 1) := by decide +kernel
theorem d_Mo_canSwap_81 : decode b_Mo_canSwap 81 = .ok (.iadd, 1) := by decide +kernel
theorem d_Mo_canSwap_82 : decode b_Mo_canSwap 82 = .ok (.iaload, 1) := by decide +kernel
theorem d_Mo_canSwap_83 : decode b_Mo_canSwap 83 = .ok (.if_icmp .le 34, 3) := by decide +kernel
theorem d_Mo_canSwap_86 : decode b_Mo_canSwap 86 = .ok (.aload_n 0, 1) := by decide +kernel
theorem d_Mo_canSwap_87 : decode b_Mo_canSwap 87 = .ok (.getfield 28, 3) := by decide +kernel
theorem d_Mo_canSwap_90 : decode b_Mo_canSwap 90 = .ok (.bipush 7, 2) := by decide +kernel
theorem d_Mo_canSwap_92 : decode b_Mo_canSwap 92 = .ok (.iload 4, 2) := by decide +kernel
theorem d_Mo_canSwap_94 : decode b_Mo_canSwap 94 = .ok (.imul, 1) := by decide +kernel
theorem d_Mo_canSwap_95 : decode b_Mo_canSwap 95 = .ok (.iload_n 1, 1) := by decide +kernel
theorem d_Mo_canSwap_96 : decode b_Mo_canSwap 96 = .ok (.iadd, 1) := by decide +kernel
theorem d_Mo_canSwap_97 : decode b_Mo_canSwap 97 = .ok (.iaload, 1) := by decide +kernel
theorem d_Mo_canSwap_98 : decode b_Mo_canSwap 98 = .ok (.aload_n 0, 1) := by decide +kernel
theorem d_Mo_canSwap_99 : decode b_Mo_canSwap 99 = .ok (.getfield 28, 3) := by decide +kernel
theorem d_Mo_canSwap_102 : decode b_Mo_canSwap 102 = .ok (.bipush 7, 2) := by decide +kernel
theorem d_Mo_canSwap_104 : decode b_Mo_canSwap 104 = .ok (.iload 4, 2) := by decide +kernel
theorem d_Mo_canSwap_106 : decode b_Mo_canSwap 106 = .ok (.imul, 1) := by decide +kernel
theorem d_Mo_canSwap_107 : decode b_Mo_canSwap 107 = .ok (.iload_n 2, 1) := by decide +kernel
theorem d_Mo_canSwap_108 : decode b_Mo_canSwap 108 = .ok (.iadd, 1) := by decide +kernel
theorem d_Mo_canSwap_109 : decode b_Mo_canSwap 109 = .ok (.iaload, 1) := by decide +kernel
theorem d_Mo_canSwap_110 : decode b_Mo_canSwap 110 = .ok (.if_icmp .le 7, 3) := by decide +kernel
theorem d_Mo_canSwap_113 : decode b_Mo_canSwap 113 = .ok (.iconst 1, 1) := by decide +kernel
theorem d_Mo_canSwap_114 : decode b_Mo_canSwap 114 = .ok (.goto 4, 3) := by decide +kernel
theorem d_Mo_canSwap_117 : decode b_Mo_canSwap 117 = .ok (.iconst 0, 1) := by decide +kernel
theorem d_Mo_canSwap_118 : decode b_Mo_canSwap 118 = .ok (.istore 6, 2) := by decide +kernel
theorem d_Mo_canSwap_120 : decode b_Mo_canSwap 120 = .ok (.iload 6, 2) := by decide +kernel
theorem d_Mo_canSwap_122 : decode b_Mo_canSwap 122 = .ok (.ifCond .eq 43, 3) := by decide +kernel
theorem d_Mo_canSwap_125 : decode b_Mo_canSwap 125 = .ok (.aload_n 0, 1) := by decide +kernel
theorem d_Mo_canSwap_126 : decode b_Mo_canSwap 126 = .ok (.iload_n 3, 1) := by decide +kernel
theorem d_Mo_canSwap_127 : decode b_Mo_canSwap 127 = .ok (.invokevirtual 151, 3) := by decide +kernel
theorem d_Mo_canSwap_130 : decode b_Mo_canSwap 130 = .ok (.iload 5, 2) := by decide +kernel
theorem d_Mo_canSwap_132 : decode b_Mo_canSwap 132 = .ok (.iadd, 1) := by decide +kernel
theorem d_Mo_canSwap_133 : decode b_Mo_canSwap 133 = .ok (.aload_n 0, 1) := by decide +kernel
theorem d_Mo_canSwap_134 : decode b_Mo_canSwap 134 = .ok (.getfield 31, 3) := by decide +kernel
theorem d_Mo_canSwap_137 : decode b_Mo_canSwap 137 = .ok (.iload_n 3, 1) := by decide +kernel
theorem d_Mo_canSwap_138 : decode b_Mo_canSwap 138 = .ok (.iaload, 1) := by decide +kernel
theorem d_Mo_canSwap_139 : decode b_Mo_canSwap 139 = .ok (.if_icmp .gt 26, 3) := by decide +kernel
theorem d_Mo_canSwap_142 : decode b_Mo_canSwap 142 = .ok (.aload_n 0, 1) := by decide +kernel
theorem d_Mo_canSwap_143 : decode b_Mo_canSwap 143 = .ok (.iload 4, 2) := by decide +kernel
theorem d_Mo_canSwap_145 : decode b_Mo_canSwap 145 = .ok (.invokevirtual 151, 3) := by decide +kernel
theorem d_Mo_canSwap_148 : decode b_Mo_canSwap 148 = .ok (.iload 5, 2) := by decide +kernel
theorem d_Mo_canSwap_150 : decode b_Mo_canSwap 150 = .ok (.isub, 1) := by decide +kernel
theorem d_Mo_canSwap_151 : decode b_Mo_canSwap 151 = .ok (.aload_n 0, 1) := by decide +kernel
theorem d_Mo_canSwap_152 : decode b_Mo_canSwap 152 = .ok (.getfield 31, 3) := by decide +kernel
theorem d_Mo_canSwap_155 : decode b_Mo_canSwap 155 = .ok (.iload 4, 2) := by decide +kernel
theorem d_Mo_canSwap_157 : decode b_Mo_canSwap 157 = .ok (.iaload, 1) := by decide +kernel
theorem d_Mo_canSwap_158 : decode b_Mo_canSwap 158 = .ok (.if_icmp .gt 7, 3) := by decide +kernel
theorem d_Mo_canSwap_161 : decode b_Mo_canSwap 161 = .ok (.iconst 1, 1) := by decide +kernel
theorem d_Mo_canSwap_162 : decode b_Mo_canSwap 162 = .ok (.goto 4, 3) := by decide +kernel
theorem d_Mo_canSwap_165 : decode b_Mo_canSwap 165 = .ok (.iconst 0, 1) := by decide +kernel
theorem d_Mo_canSwap_166 : decode b_Mo_canSwap 166 = .ok (.ireturn, 1) := by decide +kernel
theorem o_Mo_canSwap : OkV y_Mo_canSwap "OwnsLiftModel" b_Mo_canSwap 7 (some .boolean) 2 := ⟨⟨rfl, by decide +kernel, by decide +kernel, by decide +kernel⟩, g_1308, g_60, g_81, g_1309⟩
set_option maxHeartbeats 4000000 in
set_option maxRecDepth 100000 in
theorem c_Mo_canSwap (l : Launch) (D : va_G) (g : Nat → ClassId) (a : Nat → Nat) (x1 : Int32) (x2 : Int32) (z : T_Mo) (v : Int32) (h : d_Mo_canSwap x1 x2 z = some v) :
    MI l y_Mo_canSwap b_Mo_canSwap 7 .boolean ({ frames := 1, cells := 0, slots := 0, locals := 23 } : Room) D g [.ref (a 0), .int x1, .int x2] (ws_Mo g a z) (v) (ws_Mo g a z) := by
  have hd := h
  unfold d_Mo_canSwap at hd
  refine enterI rfl (Nat.le_of_ble_eq_true rfl) (fun p e s m below meth c A ls hx hb hml hr hown hg hlk hK hA hP hD hS hCs hl => ?_)
  have hown : s.vm.findClass "OwnsLiftModel" = some m.cls := hown
  have hl : lv_has ls 7 [(0, .ref (a 0)), (1, .int x1), (2, .int x2)] := hl
  show GI p l e s m ({ frames := 1, cells := 0, slots := 0, locals := 23 } : Room) ([.ref (a 0), .int x1, .int x2] : List Value).toArray below meth c A D g (ws_Mo g a z) (v) s.heap [] (F0 m 0 ls [])
  refine lv_aload_n hx hb d_Mo_canSwap_0 rfl (lv_at hl 0 rfl) ?_
  refine va_get (D := D) (ci := 1) (v := .ref (a 1)) (C := R_Mo) (T := F_Mo) (N := 26) hx hb hg i_Mo hown hK hP 0 rfl rfl 1 (by decide) (hg _ g_993) (fun _ h9 => h9) rfl d_Mo_canSwap_1 ?_
  refine lv_bipush (v := 65) hx hb d_Mo_canSwap_4 (by decide) ?_
  refine lv_iload_n hx hb d_Mo_canSwap_6 rfl (lv_at hl 1 rfl) ?_
  refine lv_iadd hx hb d_Mo_canSwap_7 ?_
  obtain ⟨h_21, hd⟩ := ite_s hd
  refine ialdK hx hb hK hP 1 0 rfl rfl (inb_t h_21) rfl d_Mo_canSwap_8 ?_
  refine lv_istore_n (lv' := [(3, .int ((q_Mo_s z) (65 + x1).toNatClampNeg)), (0, .ref (a 0)), (1, .int x1), (2, .int x2)]) hx hb d_Mo_canSwap_9 rfl hl (by decide) rfl (fun ls hl => ?_)
  refine lv_aload_n hx hb d_Mo_canSwap_10 rfl (lv_at hl 1 rfl) ?_
  refine va_get (D := D) (ci := 1) (v := .ref (a 1)) (C := R_Mo) (T := F_Mo) (N := 26) hx hb hg i_Mo hown hK hP 0 rfl rfl 1 (by decide) (hg _ g_993) (fun _ h9 => h9) rfl d_Mo_canSwap_11 ?_
  refine lv_bipush (v := 65) hx hb d_Mo_canSwap_14 (by decide) ?_
  refine lv_iload_n hx hb d_Mo_canSwap_16 rfl (lv_at hl 3 rfl) ?_
  refine lv_iadd hx hb d_Mo_canSwap_17 ?_
  obtain ⟨h_20, hd⟩ := ite_s hd
  refine ialdK hx hb hK hP 1 0 rfl rfl (inb_t h_20) rfl d_Mo_canSwap_18 ?_
  refine lv_istore (lv' := [(4, .int ((q_Mo_s z) (65 + x2).toNatClampNeg)), (3, .int ((q_Mo_s z) (65 + x1).toNatClampNeg)), (0, .ref (a 0)), (1, .int x1), (2, .int x2)]) hx hb d_Mo_canSwap_19 hl (by decide) rfl (fun ls hl => ?_)
  refine lv_iload_n hx hb d_Mo_canSwap_21 rfl (lv_at hl 1 rfl) ?_
  refine lv_iconst (v := 4) hx hb d_Mo_canSwap_22 (by decide) ?_
  refine lv_icmp_eq (tgt := 38) hx hb d_Mo_canSwap_23 (by decide) (fun h_1 => ?_) (fun h_1 => ?_)
  · have hd := ite_t hd h_1
    refine lv_iconst (v := 0) hx hb d_Mo_canSwap_38 (by decide) ?_
    obtain rfl := Option.some.inj hd
    exact retZ hx hb hr hlk hK hP hD hS d_Mo_canSwap_39 rfl (by decide +kernel)
  · have hd := ite_f hd h_1
    refine lv_iload hx hb d_Mo_canSwap_26 (lv_at hl 0 rfl) ?_
    refine lv_iconst (v := 4) hx hb d_Mo_canSwap_28 (by decide) ?_
    refine lv_icmp_eq (tgt := 38) hx hb d_Mo_canSwap_29 (by decide) (fun h_2 => ?_) (fun h_2 => ?_)
    · have hd := ite_t hd h_2
      refine lv_iconst (v := 0) hx hb d_Mo_canSwap_38 (by decide) ?_
      obtain rfl := Option.some.inj hd
      exact retZ hx hb hr hlk hK hP hD hS d_Mo_canSwap_39 rfl (by decide +kernel)
    · have hd := ite_f hd h_2
      refine lv_iload_n hx hb d_Mo_canSwap_32 rfl (lv_at hl 1 rfl) ?_
      refine lv_iload hx hb d_Mo_canSwap_33 (lv_at hl 0 rfl) ?_
      refine lv_icmp_ne (tgt := 40) hx hb d_Mo_canSwap_35 (by decide) (fun h_3 => ?_) (fun h_3 => ?_)
      · have hd := ite_f hd h_3
        refine lv_aload_n hx hb d_Mo_canSwap_40 rfl (lv_at hl 2 rfl) ?_
        refine va_get (D := D) (ci := 1) (v := .ref (a 1)) (C := R_Mo) (T := F_Mo) (N := 26) hx hb hg i_Mo hown hK hP 0 rfl rfl 1 (by decide) (hg _ g_993) (fun _ h9 => h9) rfl d_Mo_canSwap_41 ?_
        refine lv_bipush (v := 58) hx hb d_Mo_canSwap_44 (by decide) ?_
        refine lv_iload_n hx hb d_Mo_canSwap_46 rfl (lv_at hl 4 rfl) ?_
        refine lv_iadd hx hb d_Mo_canSwap_47 ?_
        obtain ⟨h_19, hd⟩ := ite_s hd
        refine ialdK hx hb hK hP 1 0 rfl rfl (inb_t h_19) rfl d_Mo_canSwap_48 ?_
        refine lv_aload_n hx hb d_Mo_canSwap_49 rfl (lv_at hl 2 rfl) ?_
        refine va_get (D := D) (ci := 1) (v := .ref (a 1)) (C := R_Mo) (T := F_Mo) (N := 26) hx hb hg i_Mo hown hK hP 0 rfl rfl 1 (by decide) (hg _ g_993) (fun _ h9 => h9) rfl d_Mo_canSwap_50 ?_
        refine lv_bipush (v := 58) hx hb d_Mo_canSwap_53 (by decide) ?_
        refine lv_iload_n hx hb d_Mo_canSwap_55 rfl (lv_at hl 3 rfl) ?_
        refine lv_iadd hx hb d_Mo_canSwap_56 ?_
        obtain ⟨h_18, hd⟩ := ite_s hd
        refine ialdK hx hb hK hP 1 0 rfl rfl (inb_t h_18) rfl d_Mo_canSwap_57 ?_
        refine lv_isub hx hb d_Mo_canSwap_58 ?_
        refine lv_istore (lv' := [(5, .int (((q_Mo_s z) (58 + x2).toNatClampNeg) - ((q_Mo_s z) (58 + x1).toNatClampNeg))), (4, .int ((q_Mo_s z) (65 + x2).toNatClampNeg)), (3, .int ((q_Mo_s z) (65 + x1).toNatClampNeg)), (0, .ref (a 0)), (1, .int x1), (2, .int x2)]) hx hb d_Mo_canSwap_59 hl (by decide) rfl (fun ls hl => ?_)
        refine lv_aload_n hx hb d_Mo_canSwap_61 rfl (lv_at hl 3 rfl) ?_
        refine va_get (D := D) (ci := 1) (v := .ref (a 6)) (C := R_Mo) (T := F_Mo) (N := 26) hx hb hg i_Mo hown hK hP 0 rfl rfl 12 (by decide) (hg _ g_1004) (fun _ h9 => h9) rfl d_Mo_canSwap_62 ?_
        refine lv_bipush (v := 7) hx hb d_Mo_canSwap_65 (by decide) ?_
        refine lv_iload_n hx hb d_Mo_canSwap_67 rfl (lv_at hl 2 rfl) ?_
        refine lv_imul hx hb d_Mo_canSwap_68 ?_
        refine lv_iload_n hx hb d_Mo_canSwap_69 rfl (lv_at hl 5 rfl) ?_
        refine lv_iadd hx hb d_Mo_canSwap_70 ?_
        obtain ⟨h_17, hd⟩ := ite_s hd
        refine ialdK hx hb hK hP 6 0 rfl rfl (inb_t h_17) rfl d_Mo_canSwap_71 ?_
        refine lv_aload_n hx hb d_Mo_canSwap_72 rfl (lv_at hl 3 rfl) ?_
        refine va_get (D := D) (ci := 1) (v := .ref (a 6)) (C := R_Mo) (T := F_Mo) (N := 26) hx hb hg i_Mo hown hK hP 0 rfl rfl 12 (by decide) (hg _ g_1004) (fun _ h9 => h9) rfl d_Mo_canSwap_73 ?_
        refine lv_bipush (v := 7) hx hb d_Mo_canSwap_76 (by decide) ?_
        refine lv_iload_n hx hb d_Mo_canSwap_78 rfl (lv_at hl 2 rfl) ?_
        refine lv_imul hx hb d_Mo_canSwap_79 ?_
        refine lv_iload_n hx hb d_Mo_canSwap_80 rfl (lv_at hl 4 rfl) ?_
        refine lv_iadd hx hb d_Mo_canSwap_81 ?_
        obtain ⟨h_16, hd⟩ := ite_s hd
        refine ialdK hx hb hK hP 6 0 rfl rfl (inb_t h_16) rfl d_Mo_canSwap_82 ?_
        refine lv_icmp_le (tgt := 117) hx hb d_Mo_canSwap_83 (by decide) (fun h_4 => ?_) (fun h_4 => ?_)
        · have hd := ite_t hd h_4
          refine lv_iconst (v := 0) hx hb d_Mo_canSwap_117 (by decide) ?_
          refine lv_istore (lv' := [(6, .int 0), (5, .int (((q_Mo_s z) (58 + x2).toNatClampNeg) - ((q_Mo_s z) (58 + x1).toNatClampNeg))), (4, .int ((q_Mo_s z) (65 + x2).toNatClampNeg)), (3, .int ((q_Mo_s z) (65 + x1).toNatClampNeg)), (0, .ref (a 0)), (1, .int x1), (2, .int x2)]) hx hb d_Mo_canSwap_118 hl (by decide) rfl (fun ls hl => ?_)
          refine lv_iload hx hb d_Mo_canSwap_120 (lv_at hl 0 rfl) ?_
          refine lv_if_eq (tgt := 165) hx hb d_Mo_canSwap_122 (by decide) (fun _ => ?_) (fun h9 => absurd (by decide) h9)
          refine lv_iconst (v := 0) hx hb d_Mo_canSwap_165 (by decide) ?_
          obtain rfl := Option.some.inj hd
          exact retZ hx hb hr hlk hK hP hD hS d_Mo_canSwap_166 rfl (by decide +kernel)
        · have hd := ite_f hd h_4
          refine lv_aload_n hx hb d_Mo_canSwap_86 rfl (lv_at hl 3 rfl) ?_
          refine va_get (D := D) (ci := 1) (v := .ref (a 6)) (C := R_Mo) (T := F_Mo) (N := 26) hx hb hg i_Mo hown hK hP 0 rfl rfl 12 (by decide) (hg _ g_1004) (fun _ h9 => h9) rfl d_Mo_canSwap_87 ?_
          refine lv_bipush (v := 7) hx hb d_Mo_canSwap_90 (by decide) ?_
          refine lv_iload hx hb d_Mo_canSwap_92 (lv_at hl 1 rfl) ?_
          refine lv_imul hx hb d_Mo_canSwap_94 ?_
          refine lv_iload_n hx hb d_Mo_canSwap_95 rfl (lv_at hl 4 rfl) ?_
          refine lv_iadd hx hb d_Mo_canSwap_96 ?_
          obtain ⟨h_15, hd⟩ := ite_s hd
          refine ialdK hx hb hK hP 6 0 rfl rfl (inb_t h_15) rfl d_Mo_canSwap_97 ?_
          refine lv_aload_n hx hb d_Mo_canSwap_98 rfl (lv_at hl 3 rfl) ?_
          refine va_get (D := D) (ci := 1) (v := .ref (a 6)) (C := R_Mo) (T := F_Mo) (N := 26) hx hb hg i_Mo hown hK hP 0 rfl rfl 12 (by decide) (hg _ g_1004) (fun _ h9 => h9) rfl d_Mo_canSwap_99 ?_
          refine lv_bipush (v := 7) hx hb d_Mo_canSwap_102 (by decide) ?_
          refine lv_iload hx hb d_Mo_canSwap_104 (lv_at hl 1 rfl) ?_
          refine lv_imul hx hb d_Mo_canSwap_106 ?_
          refine lv_iload_n hx hb d_Mo_canSwap_107 rfl (lv_at hl 5 rfl) ?_
          refine lv_iadd hx hb d_Mo_canSwap_108 ?_
          obtain ⟨h_14, hd⟩ := ite_s hd
          refine ialdK hx hb hK hP 6 0 rfl rfl (inb_t h_14) rfl d_Mo_canSwap_109 ?_
          refine lv_icmp_le (tgt := 117) hx hb d_Mo_canSwap_110 (by decide) (fun h_5 => ?_) (fun h_5 => ?_)
          · have hd := ite_t hd h_5
            refine lv_iconst (v := 0) hx hb d_Mo_canSwap_117 (by decide) ?_
            refine lv_istore (lv' := [(6, .int 0), (5, .int (((q_Mo_s z) (58 + x2).toNatClampNeg) - ((q_Mo_s z) (58 + x1).toNatClampNeg))), (4, .int ((q_Mo_s z) (65 + x2).toNatClampNeg)), (3, .int ((q_Mo_s z) (65 + x1).toNatClampNeg)), (0, .ref (a 0)), (1, .int x1), (2, .int x2)]) hx hb d_Mo_canSwap_118 hl (by decide) rfl (fun ls hl => ?_)
            refine lv_iload hx hb d_Mo_canSwap_120 (lv_at hl 0 rfl) ?_
            refine lv_if_eq (tgt := 165) hx hb d_Mo_canSwap_122 (by decide) (fun _ => ?_) (fun h9 => absurd (by decide) h9)
            refine lv_iconst (v := 0) hx hb d_Mo_canSwap_165 (by decide) ?_
            obtain rfl := Option.some.inj hd
            exact retZ hx hb hr hlk hK hP hD hS d_Mo_canSwap_166 rfl (by decide +kernel)
          · have hd := ite_f hd h_5
            refine lv_iconst (v := 1) hx hb d_Mo_canSwap_113 (by decide) ?_
            refine lv_goto (tgt := 118) hx hb d_Mo_canSwap_114 (by decide) ?_
            refine lv_istore (lv' := [(6, .int 1), (5, .int (((q_Mo_s z) (58 + x2).toNatClampNeg) - ((q_Mo_s z) (58 + x1).toNatClampNeg))), (4, .int ((q_Mo_s z) (65 + x2).toNatClampNeg)), (3, .int ((q_Mo_s z) (65 + x1).toNatClampNeg)), (0, .ref (a 0)), (1, .int x1), (2, .int x2)]) hx hb d_Mo_canSwap_118 hl (by decide) rfl (fun ls hl => ?_)
            refine lv_iload hx hb d_Mo_canSwap_120 (lv_at hl 0 rfl) ?_
            refine lv_if_eq (tgt := 165) hx hb d_Mo_canSwap_122 (by decide) (fun h9 => absurd h9 (by decide)) (fun _ => ?_)
            refine lv_aload_n hx hb d_Mo_canSwap_125 rfl (lv_at hl 4 rfl) ?_
            refine lv_iload_n hx hb d_Mo_canSwap_126 rfl (lv_at hl 3 rfl) ?_
            obtain ⟨v_6, e_7, hd⟩ := bind_s hd
            refine callVI (ws' := ws_Mo g a z) (rest := []) (As := [.int ((q_Mo_s z) (65 + x1).toNatClampNeg)]) hx hb hml hown hg hK hP hD hS hA hCs hl.1 (c_Mo_loadOf l D g a ((q_Mo_s z) (65 + x1).toNatClampNeg) z _ e_7) o_Mo_loadOf g_1163 (ci := 1) (q0 := 0) rfl rfl (List.range' 0 12) (segC1 rfl rfl) (by decide) rfl (segP1 rfl rfl) rfl rfl (Nat.le_of_ble_eq_true rfl) ⟨rfl, rfl, Nat.le_of_ble_eq_true rfl, Nat.le_of_ble_eq_true rfl⟩ d_Mo_canSwap_127 (fun H locs hP hD hS => ?_)
            refine lv_iload hx hb d_Mo_canSwap_130 (lv_at hl 1 rfl) ?_
            refine lv_iadd hx hb d_Mo_canSwap_132 ?_
            refine lv_aload_n hx hb d_Mo_canSwap_133 rfl (lv_at hl 4 rfl) ?_
            refine va_get (D := D) (ci := 1) (v := .ref (a 7)) (C := R_Mo) (T := F_Mo) (N := 26) hx hb hg i_Mo hown hK hP 0 rfl rfl 13 (by decide) (hg _ g_1005) (fun _ h9 => h9) rfl d_Mo_canSwap_134 ?_
            refine lv_iload_n hx hb d_Mo_canSwap_137 rfl (lv_at hl 3 rfl) ?_
            obtain ⟨h_13, hd⟩ := ite_s hd
            refine ialdK hx hb hK hP 7 0 rfl rfl (inb_t h_13) rfl d_Mo_canSwap_138 ?_
            refine lv_icmp_gt (tgt := 165) hx hb d_Mo_canSwap_139 (by decide) (fun h_8 => ?_) (fun h_8 => ?_)
            · have hd := ite_t hd h_8
              refine lv_iconst (v := 0) hx hb d_Mo_canSwap_165 (by decide) ?_
              obtain rfl := Option.some.inj hd
              exact retZ hx hb hr hlk hK hP hD hS d_Mo_canSwap_166 rfl (by decide +kernel)
            · have hd := ite_f hd h_8
              refine lv_aload_n hx hb d_Mo_canSwap_142 rfl (lv_at hl 4 rfl) ?_
              refine lv_iload hx hb d_Mo_canSwap_143 (lv_at hl 2 rfl) ?_
              obtain ⟨v_9, e_10, hd⟩ := bind_s hd
              refine callVI (ws' := ws_Mo g a z) (rest := []) (As := [.int ((q_Mo_s z) (65 + x2).toNatClampNeg)]) hx hb hml hown hg hK hP hD hS hA hCs hl.1 (c_Mo_loadOf l D g a ((q_Mo_s z) (65 + x2).toNatClampNeg) z _ e_10) o_Mo_loadOf g_1163 (ci := 1) (q0 := 0) rfl rfl (List.range' 0 12) (segC1 rfl rfl) (by decide) rfl (segP1 rfl rfl) rfl rfl (Nat.le_of_ble_eq_true rfl) ⟨rfl, rfl, Nat.le_of_ble_eq_true rfl, Nat.le_of_ble_eq_true rfl⟩ d_Mo_canSwap_145 (fun H locs hP hD hS => ?_)
              refine lv_iload hx hb d_Mo_canSwap_148 (lv_at hl 1 rfl) ?_
              refine lv_isub hx hb d_Mo_canSwap_150 ?_
              refine lv_aload_n hx hb d_Mo_canSwap_151 rfl (lv_at hl 4 rfl) ?_
              refine va_get (D := D) (ci := 1) (v := .ref (a 7)) (C := R_Mo) (T := F_Mo) (N := 26) hx hb hg i_Mo hown hK hP 0 rfl rfl 13 (by decide) (hg _ g_1005) (fun _ h9 => h9) rfl d_Mo_canSwap_152 ?_
              refine lv_iload hx hb d_Mo_canSwap_155 (lv_at hl 2 rfl) ?_
              obtain ⟨h_12, hd⟩ := ite_s hd
              refine ialdK hx hb hK hP 7 0 rfl rfl (inb_t h_12) rfl d_Mo_canSwap_157 ?_
              refine lv_icmp_gt (tgt := 165) hx hb d_Mo_canSwap_158 (by decide) (fun h_11 => ?_) (fun h_11 => ?_)
              · have hd := ite_t hd h_11
                refine lv_iconst (v := 0) hx hb d_Mo_canSwap_165 (by decide) ?_
                obtain rfl := Option.some.inj hd
                exact retZ hx hb hr hlk hK hP hD hS d_Mo_canSwap_166 rfl (by decide +kernel)
              · have hd := ite_f hd h_11
                refine lv_iconst (v := 1) hx hb d_Mo_canSwap_161 (by decide) ?_
                refine lv_goto (tgt := 166) hx hb d_Mo_canSwap_162 (by decide) ?_
                obtain rfl := Option.some.inj hd
                exact retZ hx hb hr hlk hK hP hD hS d_Mo_canSwap_166 rfl (by decide +kernel)
      · have hd := ite_t hd h_3
        refine lv_iconst (v := 0) hx hb d_Mo_canSwap_38 (by decide) ?_
        obtain rfl := Option.some.inj hd
        exact retZ hx hb hr hlk hK hP hD hS d_Mo_canSwap_39 rfl (by decide +kernel)
-- OwnsLiftModel.firstSwap()I
def B_Mo_firstSwap_L24 (x2_f24 : Int32) (k24_77 : Int32 → T_Mo → Option (Int32 × T_Mo)) (self24 : Int32 → Int32 → T_Mo → Option (Int32 × T_Mo)) (x1_24 : Int32) (x3_24 : Int32) (z_24 : T_Mo) : Option (Int32 × T_Mo) :=
  if ((q_Mo_s z_24) 1) ≤ x3_24 then (k24_77 x1_24 z_24) else ((d_Mo_canSwap x2_f24 x3_24 z_24).bind fun v_3 => if v_3 = 0 then (self24 x1_24 (x3_24 + 1) z_24) else (if (q_Mo_swaps z_24) = 0 then (self24 ((10 * x2_f24) + x3_24) (x3_24 + 1) (u_Mo_swaps z_24 ((q_Mo_swaps z_24) + 1))) else (self24 x1_24 (x3_24 + 1) (u_Mo_swaps z_24 ((q_Mo_swaps z_24) + 1)))))
def d_Mo_firstSwap_L24 (x2_f24 : Int32) (k24_77 : Int32 → T_Mo → Option (Int32 × T_Mo)) (n : Nat) : Int32 → Int32 → T_Mo → Option (Int32 × T_Mo) := recN (fun _ _ _ => none) (fun self => B_Mo_firstSwap_L24 x2_f24 k24_77 self) n
def B_Mo_firstSwap_L10 (self10 : Int32 → Int32 → T_Mo → Option (Int32 × T_Mo)) (x1_10 : Int32) (x2_10 : Int32) (z_10 : T_Mo) : Option (Int32 × T_Mo) :=
  if ((q_Mo_s z_10) 1) ≤ x2_10 then (some (x1_10, z_10)) else (d_Mo_firstSwap_L24 x2_10 (fun x1_24 z_24 => self10 x1_24 (x2_10 + 1) z_24) 1000 x1_10 (x2_10 + 1) z_10)
def d_Mo_firstSwap_L10 (n : Nat) : Int32 → Int32 → T_Mo → Option (Int32 × T_Mo) := recN (fun _ _ _ => none) (fun self => B_Mo_firstSwap_L10 self) n
def d_Mo_firstSwap (z : T_Mo) : Option (Int32 × T_Mo) :=
  d_Mo_firstSwap_L10  1000 (-5) 0 (u_Mo_swaps z 0)
theorem d_Mo_firstSwap_0 : decode b_Mo_firstSwap 0 = .ok (.aload_n 0, 1) := by decide +kernel
theorem d_Mo_firstSwap_1 : decode b_Mo_firstSwap 1 = .ok (.iconst 0, 1) := by decide +kernel
theorem d_Mo_firstSwap_2 : decode b_Mo_firstSwap 2 = .ok (.putfield 219, 3) := by decide +kernel
theorem d_Mo_firstSwap_5 : decode b_Mo_firstSwap 5 = .ok (.bipush (-5), 2) := by decide +kernel
theorem d_Mo_firstSwap_7 : decode b_Mo_firstSwap 7 = .ok (.istore_n 1, 1) := by decide +kernel
theorem d_Mo_firstSwap_8 : decode b_Mo_firstSwap 8 = .ok (.iconst 0, 1) := by decide +kernel
theorem d_Mo_firstSwap_9 : decode b_Mo_firstSwap 9 = .ok (.istore_n 2, 1) := by decide +kernel
theorem d_Mo_firstSwap_10 : decode b_Mo_firstSwap 10 = .ok (.iload_n 2, 1) := by decide +kernel
theorem d_Mo_firstSwap_11 : decode b_Mo_firstSwap 11 = .ok (.aload_n 0, 1) := by decide +kernel
theorem d_Mo_firstSwap_12 : decode b_Mo_firstSwap 12 = .ok (.getfield 9, 3) := by decide +kernel
theorem d_Mo_firstSwap_15 : decode b_Mo_firstSwap 15 = .ok (.iconst 1, 1) := by decide +kernel
theorem d_Mo_firstSwap_16 : decode b_Mo_firstSwap 16 = .ok (.iaload, 1) := by decide +kernel
theorem d_Mo_firstSwap_17 : decode b_Mo_firstSwap 17 = .ok (.if_icmp .ge 66, 3) := by decide +kernel
theorem d_Mo_firstSwap_20 : decode b_Mo_firstSwap 20 = .ok (.iload_n 2, 1) := by decide +kernel
theorem d_Mo_firstSwap_21 : decode b_Mo_firstSwap 21 = .ok (.iconst 1, 1) := by decide +kernel
theorem d_Mo_firstSwap_22 : decode b_Mo_firstSwap 22 = .ok (.iadd, 1) := by decide +kernel
theorem d_Mo_firstSwap_23 : decode b_Mo_firstSwap 23 = .ok (.istore_n 3, 1) := by decide +kernel
theorem d_Mo_firstSwap_24 : decode b_Mo_firstSwap 24 = .ok (.iload_n 3, 1) := by decide +kernel
theorem d_Mo_firstSwap_25 : decode b_Mo_firstSwap 25 = .ok (.aload_n 0, 1) := by decide +kernel
theorem d_Mo_firstSwap_26 : decode b_Mo_firstSwap 26 = .ok (.getfield 9, 3) := by decide +kernel
theorem d_Mo_firstSwap_29 : decode b_Mo_firstSwap 29 = .ok (.iconst 1, 1) := by decide +kernel
theorem d_Mo_firstSwap_30 : decode b_Mo_firstSwap 30 = .ok (.iaload, 1) := by decide +kernel
theorem d_Mo_firstSwap_31 : decode b_Mo_firstSwap 31 = .ok (.if_icmp .ge 46, 3) := by decide +kernel
theorem d_Mo_firstSwap_34 : decode b_Mo_firstSwap 34 = .ok (.aload_n 0, 1) := by decide +kernel
theorem d_Mo_firstSwap_35 : decode b_Mo_firstSwap 35 = .ok (.iload_n 2, 1) := by decide +kernel
theorem d_Mo_firstSwap_36 : decode b_Mo_firstSwap 36 = .ok (.iload_n 3, 1) := by decide +kernel
theorem d_Mo_firstSwap_37 : decode b_Mo_firstSwap 37 = .ok (.invokevirtual 222, 3) := by decide +kernel
theorem d_Mo_firstSwap_40 : decode b_Mo_firstSwap 40 = .ok (.ifCond .eq 31, 3) := by decide +kernel
theorem d_Mo_firstSwap_43 : decode b_Mo_firstSwap 43 = .ok (.aload_n 0, 1) := by decide +kernel
theorem d_Mo_firstSwap_44 : decode b_Mo_firstSwap 44 = .ok (.getfield 219, 3) := by decide +kernel
theorem d_Mo_firstSwap_47 : decode b_Mo_firstSwap 47 = .ok (.ifCond .ne 12, 3) := by decide +kernel
theorem d_Mo_firstSwap_50 : decode b_Mo_firstSwap 50 = .ok (.bipush 10, 2) := by decide +kernel
theorem d_Mo_firstSwap_52 : decode b_Mo_firstSwap 52 = .ok (.iload_n 2, 1) := by decide +kernel
theorem d_Mo_firstSwap_53 : decode b_Mo_firstSwap 53 = .ok (.imul, 1) := by decide +kernel
theorem d_Mo_firstSwap_54 : decode b_Mo_firstSwap 54 = .ok (.iload_n 3, 1) := by decide +kernel
theorem d_Mo_firstSwap_55 : decode b_Mo_firstSwap 55 = .ok (.iadd, 1) := by decide +kernel
theorem d_Mo_firstSwap_56 : decode b_Mo_firstSwap 56 = .ok (.goto 4, 3) := by decide +kernel
theorem d_Mo_firstSwap_59 : decode b_Mo_firstSwap 59 = .ok (.iload_n 1, 1) := by decide +kernel
theorem d_Mo_firstSwap_60 : decode b_Mo_firstSwap 60 = .ok (.istore_n 1, 1) := by decide +kernel
theorem d_Mo_firstSwap_61 : decode b_Mo_firstSwap 61 = .ok (.aload_n 0, 1) := by decide +kernel
theorem d_Mo_firstSwap_62 : decode b_Mo_firstSwap 62 = .ok (.dup, 1) := by decide +kernel
theorem d_Mo_firstSwap_63 : decode b_Mo_firstSwap 63 = .ok (.getfield 219, 3) := by decide +kernel
theorem d_Mo_firstSwap_66 : decode b_Mo_firstSwap 66 = .ok (.iconst 1, 1) := by decide +kernel
theorem d_Mo_firstSwap_67 : decode b_Mo_firstSwap 67 = .ok (.iadd, 1) := by decide +kernel
theorem d_Mo_firstSwap_68 : decode b_Mo_firstSwap 68 = .ok (.putfield 219, 3) := by decide +kernel
theorem d_Mo_firstSwap_71 : decode b_Mo_firstSwap 71 = .ok (.iinc 3 1, 3) := by decide +kernel
theorem d_Mo_firstSwap_74 : decode b_Mo_firstSwap 74 = .ok (.goto (-50), 3) := by decide +kernel
theorem d_Mo_firstSwap_77 : decode b_Mo_firstSwap 77 = .ok (.iinc 2 1, 3) := by decide +kernel
theorem d_Mo_firstSwap_80 : decode b_Mo_firstSwap 80 = .ok (.goto (-70), 3) := by decide +kernel
theorem d_Mo_firstSwap_83 : decode b_Mo_firstSwap 83 = .ok (.iload_n 1, 1) := by decide +kernel
theorem d_Mo_firstSwap_84 : decode b_Mo_firstSwap 84 = .ok (.ireturn, 1) := by decide +kernel
theorem o_Mo_firstSwap : OkV y_Mo_firstSwap "OwnsLiftModel" b_Mo_firstSwap 4 (some .int) 0 := ⟨⟨rfl, by decide +kernel, by decide +kernel, by decide +kernel⟩, g_1304, g_59, g_81, g_1305⟩
set_option maxHeartbeats 4000000 in
set_option maxRecDepth 100000 in
theorem c_Mo_firstSwap (l : Launch) (D : va_G) (g : Nat → ClassId) (a : Nat → Nat) (z : T_Mo) (v : Int32 × T_Mo) (h : d_Mo_firstSwap z = some v) :
    MI l y_Mo_firstSwap b_Mo_firstSwap 4 .int ({ frames := 2, cells := 0, slots := 0, locals := 49 } : Room) D g [.ref (a 0)] (ws_Mo g a z) (v.1) (ws_Mo g a v.2) := by
  have hd := h
  unfold d_Mo_firstSwap at hd
  refine enterI rfl (Nat.le_of_ble_eq_true rfl) (fun p e s m below meth c A ls hx hb hml hr hown hg hlk hK hA hP hD hS hCs hl => ?_)
  have hown : s.vm.findClass "OwnsLiftModel" = some m.cls := hown
  have hl : lv_has ls 4 [(0, .ref (a 0))] := hl
  show GI p l e s m ({ frames := 2, cells := 0, slots := 0, locals := 49 } : Room) ([.ref (a 0)] : List Value).toArray below meth c A D g (ws_Mo g a v.2) (v.1) s.heap [] (F0 m 0 ls [])
  refine lv_aload_n hx hb d_Mo_firstSwap_0 rfl (lv_at hl 0 rfl) ?_
  refine lv_iconst (v := 0) hx hb d_Mo_firstSwap_1 (by decide) ?_
  refine va_put (D := D) (ci := 1) (v := .int 0) (ty := .int) (C := R_Mo) (T := F_Mo) (N := 26) hx hb hg i_Mo t_Mo t_Mo_ok n_Mo hown hK hP hD hS 0 rfl rfl 20 (by decide) (hg _ g_1012) (fun _ h9 => h9) rfl (by decide +kernel) rfl rfl (Nat.le_of_ble_eq_true rfl) d_Mo_firstSwap_2 (fun H locs hP hD hS => ?_)
  have hP : va_P D classes (ws_Mo g a (u_Mo_swaps z 0)) H := hP
  have hD : va_D A (ws_Mo g a (u_Mo_swaps z 0)) := hD
  refine lv_bipush (v := (-5)) hx hb d_Mo_firstSwap_5 (by decide) ?_
  refine lv_istore_n (lv' := [(1, .int (-5)), (0, .ref (a 0))]) hx hb d_Mo_firstSwap_7 rfl hl (by decide) rfl (fun ls hl => ?_)
  refine lv_iconst (v := 0) hx hb d_Mo_firstSwap_8 (by decide) ?_
  refine lv_istore_n (lv' := [(2, .int 0), (1, .int (-5)), (0, .ref (a 0))]) hx hb d_Mo_firstSwap_9 rfl hl (by decide) rfl (fun ls hl => ?_)
  have lp10 : ∀ (n : Nat) (x1_10 : Int32) (x2_10 : Int32) (z_10 : T_Mo) (H : Heap) (locs : List Loc) (ls : Array Slot), va_P D classes (ws_Mo g a z_10) H → va_D A (ws_Mo g a z_10) → va_S A s.heap H locs → lv_has ls 4 [(0, .ref (a 0)), (1, .int x1_10), (2, .int x2_10)] → d_Mo_firstSwap_L10 n x1_10 x2_10 z_10 = some v → GI p l e s m ({ frames := 2, cells := 0, slots := 0, locals := 49 } : Room) ([.ref (a 0)] : List Value).toArray below meth c A D g (ws_Mo g a v.2) (v.1) H locs (F0 m 10 ls []) := by
    intro n
    induction n with
    | zero =>
      intro  x1_10 x2_10 z_10 H locs ls hP hD hS hl hd
      have hd : none = some v := hd
      cases hd
    | succ n ih10 =>
      intro  x1_10 x2_10 z_10 H locs ls hP hD hS hl hd
      have hd : B_Mo_firstSwap_L10 (d_Mo_firstSwap_L10 n) x1_10 x2_10 z_10 = some v := hd
      generalize d_Mo_firstSwap_L10 n = self10 at ih10 hd
      unfold B_Mo_firstSwap_L10 at hd
      refine lv_iload_n hx hb d_Mo_firstSwap_10 rfl (lv_at hl 2 rfl) ?_
      refine lv_aload_n hx hb d_Mo_firstSwap_11 rfl (lv_at hl 0 rfl) ?_
      refine va_get (D := D) (ci := 1) (v := .ref (a 1)) (C := R_Mo) (T := F_Mo) (N := 26) hx hb hg i_Mo hown hK hP 0 rfl rfl 1 (by decide) (hg _ g_993) (fun _ h9 => h9) rfl d_Mo_firstSwap_12 ?_
      refine lv_iconst (v := 1) hx hb d_Mo_firstSwap_15 (by decide) ?_
      refine ialdK hx hb hK hP 1 0 rfl rfl (inb_t (by decide +kernel)) (k := 1) (by decide +kernel) d_Mo_firstSwap_16 ?_
      refine lv_icmp_ge (tgt := 83) hx hb d_Mo_firstSwap_17 (by decide) (fun h_1 => ?_) (fun h_1 => ?_)
      · have hd := ite_t hd h_1
        refine lv_iload_n hx hb d_Mo_firstSwap_83 rfl (lv_at hl 1 rfl) ?_
        obtain rfl := Option.some.inj hd
        exact retI hx hb hr hlk hK hP hD hS d_Mo_firstSwap_84 rfl
      · have hd := ite_f hd h_1
        refine lv_iload_n hx hb d_Mo_firstSwap_20 rfl (lv_at hl 2 rfl) ?_
        refine lv_iconst (v := 1) hx hb d_Mo_firstSwap_21 (by decide) ?_
        refine lv_iadd hx hb d_Mo_firstSwap_22 ?_
        refine lv_istore_n (lv' := [(3, .int (x2_10 + 1)), (0, .ref (a 0)), (1, .int x1_10), (2, .int x2_10)]) hx hb d_Mo_firstSwap_23 rfl hl (by decide) rfl (fun ls hl => ?_)
        have ex24_77 : ∀ (x1_24 : Int32) (z_24 : T_Mo) (H : Heap) (locs : List Loc) (ls : Array Slot), va_P D classes (ws_Mo g a z_24) H → va_D A (ws_Mo g a z_24) → va_S A s.heap H locs → lv_has ls 4 [(0, .ref (a 0)), (1, .int x1_24), (2, .int x2_10)] → (self10 x1_24 (x2_10 + 1) z_24) = some v → GI p l e s m ({ frames := 2, cells := 0, slots := 0, locals := 49 } : Room) ([.ref (a 0)] : List Value).toArray below meth c A D g (ws_Mo g a v.2) (v.1) H locs (F0 m 77 ls []) := by
          intro x1_24 z_24 H locs ls hP hD hS hl hd
          refine lv_iinc (v := x2_10 + 1) (lv' := [(2, .int (x2_10 + 1)), (0, .ref (a 0)), (1, .int x1_24)]) hx hb d_Mo_firstSwap_77 hl (k := 2) rfl (by rfl) (by decide) rfl (fun ls hl => ?_)
          refine lv_goto (tgt := 10) hx hb d_Mo_firstSwap_80 (by decide) ?_
          exact ih10 x1_24 (x2_10 + 1) z_24 _ _ _ hP hD hS (lv_sub hl [1, 2, 0] rfl) hd
        have lp24 : ∀ (x2_f24 : Int32) (k24_77 : Int32 → T_Mo → Option (Int32 × T_Mo)) (hk24_77 : ∀ (x1_24 : Int32) (z_24 : T_Mo) (H : Heap) (locs : List Loc) (ls : Array Slot), va_P D classes (ws_Mo g a z_24) H → va_D A (ws_Mo g a z_24) → va_S A s.heap H locs → lv_has ls 4 [(0, .ref (a 0)), (1, .int x1_24), (2, .int x2_f24)] → k24_77 x1_24 z_24 = some v → GI p l e s m ({ frames := 2, cells := 0, slots := 0, locals := 49 } : Room) ([.ref (a 0)] : List Value).toArray below meth c A D g (ws_Mo g a v.2) (v.1) H locs (F0 m 77 ls [])) (n : Nat) (x1_24 : Int32) (x3_24 : Int32) (z_24 : T_Mo) (H : Heap) (locs : List Loc) (ls : Array Slot), va_P D classes (ws_Mo g a z_24) H → va_D A (ws_Mo g a z_24) → va_S A s.heap H locs → lv_has ls 4 [(0, .ref (a 0)), (1, .int x1_24), (2, .int x2_f24), (3, .int x3_24)] → d_Mo_firstSwap_L24 x2_f24 k24_77 n x1_24 x3_24 z_24 = some v → GI p l e s m ({ frames := 2, cells := 0, slots := 0, locals := 49 } : Room) ([.ref (a 0)] : List Value).toArray below meth c A D g (ws_Mo g a v.2) (v.1) H locs (F0 m 24 ls []) := by
          intro x2_f24 k24_77 hk24_77 n
          induction n with
          | zero =>
            intro  x1_24 x3_24 z_24 H locs ls hP hD hS hl hd
            have hd : none = some v := hd
            cases hd
          | succ n ih24 =>
            intro  x1_24 x3_24 z_24 H locs ls hP hD hS hl hd
            have hd : B_Mo_firstSwap_L24 x2_f24 k24_77 (d_Mo_firstSwap_L24 x2_f24 k24_77 n) x1_24 x3_24 z_24 = some v := hd
            generalize d_Mo_firstSwap_L24 x2_f24 k24_77 n = self24 at ih24 hd
            unfold B_Mo_firstSwap_L24 at hd
            refine lv_iload_n hx hb d_Mo_firstSwap_24 rfl (lv_at hl 3 rfl) ?_
            refine lv_aload_n hx hb d_Mo_firstSwap_25 rfl (lv_at hl 0 rfl) ?_
            refine va_get (D := D) (ci := 1) (v := .ref (a 1)) (C := R_Mo) (T := F_Mo) (N := 26) hx hb hg i_Mo hown hK hP 0 rfl rfl 1 (by decide) (hg _ g_993) (fun _ h9 => h9) rfl d_Mo_firstSwap_26 ?_
            refine lv_iconst (v := 1) hx hb d_Mo_firstSwap_29 (by decide) ?_
            refine ialdK hx hb hK hP 1 0 rfl rfl (inb_t (by decide +kernel)) (k := 1) (by decide +kernel) d_Mo_firstSwap_30 ?_
            refine lv_icmp_ge (tgt := 77) hx hb d_Mo_firstSwap_31 (by decide) (fun h_2 => ?_) (fun h_2 => ?_)
            · have hd := ite_t hd h_2
              exact hk24_77 x1_24 z_24 _ _ _ hP hD hS (lv_sub hl [0, 1, 2] rfl) hd
            · have hd := ite_f hd h_2
              refine lv_aload_n hx hb d_Mo_firstSwap_34 rfl (lv_at hl 0 rfl) ?_
              refine lv_iload_n hx hb d_Mo_firstSwap_35 rfl (lv_at hl 2 rfl) ?_
              refine lv_iload_n hx hb d_Mo_firstSwap_36 rfl (lv_at hl 3 rfl) ?_
              obtain ⟨v_3, e_4, hd⟩ := bind_s hd
              refine callVI (ws' := ws_Mo g a z_24) (rest := []) (As := [.int x2_f24, .int x3_24]) hx hb hml hown hg hK hP hD hS hA hCs hl.1 (c_Mo_canSwap l D g a x2_f24 x3_24 z_24 _ e_4) o_Mo_canSwap g_1306 (ci := 1) (q0 := 0) rfl rfl (List.range' 0 12) (segC1 rfl rfl) (by decide) rfl (segP1 rfl rfl) rfl rfl (Nat.le_of_ble_eq_true rfl) ⟨rfl, rfl, Nat.le_of_ble_eq_true rfl, Nat.le_of_ble_eq_true rfl⟩ d_Mo_firstSwap_37 (fun H locs hP hD hS => ?_)
              refine lv_if_eq (tgt := 71) hx hb d_Mo_firstSwap_40 (by decide) (fun h_5 => ?_) (fun h_5 => ?_)
              · have hd := ite_t hd h_5
                refine lv_iinc (v := x3_24 + 1) (lv' := [(3, .int (x3_24 + 1)), (0, .ref (a 0)), (1, .int x1_24), (2, .int x2_f24)]) hx hb d_Mo_firstSwap_71 hl (k := 3) rfl (by rfl) (by decide) rfl (fun ls hl => ?_)
                refine lv_goto (tgt := 24) hx hb d_Mo_firstSwap_74 (by decide) ?_
                exact ih24 x1_24 (x3_24 + 1) z_24 _ _ _ hP hD hS (lv_sub hl [1, 2, 3, 0] rfl) hd
              · have hd := ite_f hd h_5
                refine lv_aload_n hx hb d_Mo_firstSwap_43 rfl (lv_at hl 0 rfl) ?_
                refine va_get (D := D) (ci := 1) (v := .int (q_Mo_swaps z_24)) (C := R_Mo) (T := F_Mo) (N := 26) hx hb hg i_Mo hown hK hP 0 rfl rfl 20 (by decide) (hg _ g_1012) (fun _ h9 => h9) rfl d_Mo_firstSwap_44 ?_
                refine lv_if_ne (tgt := 59) hx hb d_Mo_firstSwap_47 (by decide) (fun h_6 => ?_) (fun h_6 => ?_)
                · have hd := ite_f hd h_6
                  refine lv_iload_n hx hb d_Mo_firstSwap_59 rfl (lv_at hl 1 rfl) ?_
                  refine lv_istore_n (lv' := [(1, .int x1_24), (0, .ref (a 0)), (2, .int x2_f24), (3, .int x3_24)]) hx hb d_Mo_firstSwap_60 rfl hl (by decide) rfl (fun ls hl => ?_)
                  refine lv_aload_n hx hb d_Mo_firstSwap_61 rfl (lv_at hl 1 rfl) ?_
                  refine lv_dup hx hb d_Mo_firstSwap_62 rfl ?_
                  refine va_get (D := D) (ci := 1) (v := .int (q_Mo_swaps z_24)) (C := R_Mo) (T := F_Mo) (N := 26) hx hb hg i_Mo hown hK hP 0 rfl rfl 20 (by decide) (hg _ g_1012) (fun _ h9 => h9) rfl d_Mo_firstSwap_63 ?_
                  refine lv_iconst (v := 1) hx hb d_Mo_firstSwap_66 (by decide) ?_
                  refine lv_iadd hx hb d_Mo_firstSwap_67 ?_
                  refine va_put (D := D) (ci := 1) (v := .int ((q_Mo_swaps z_24) + 1)) (ty := .int) (C := R_Mo) (T := F_Mo) (N := 26) hx hb hg i_Mo t_Mo t_Mo_ok n_Mo hown hK hP hD hS 0 rfl rfl 20 (by decide) (hg _ g_1012) (fun _ h9 => h9) rfl (by decide +kernel) rfl rfl (Nat.le_of_ble_eq_true rfl) d_Mo_firstSwap_68 (fun H locs hP hD hS => ?_)
                  have hP : va_P D classes (ws_Mo g a (u_Mo_swaps z_24 ((q_Mo_swaps z_24) + 1))) H := hP
                  have hD : va_D A (ws_Mo g a (u_Mo_swaps z_24 ((q_Mo_swaps z_24) + 1))) := hD
                  refine lv_iinc (v := x3_24 + 1) (lv' := [(3, .int (x3_24 + 1)), (1, .int x1_24), (0, .ref (a 0)), (2, .int x2_f24)]) hx hb d_Mo_firstSwap_71 hl (k := 3) rfl (by rfl) (by decide) rfl (fun ls hl => ?_)
                  refine lv_goto (tgt := 24) hx hb d_Mo_firstSwap_74 (by decide) ?_
                  exact ih24 x1_24 (x3_24 + 1) (u_Mo_swaps z_24 ((q_Mo_swaps z_24) + 1)) _ _ _ hP hD hS (lv_sub hl [2, 1, 3, 0] rfl) hd
                · have hd := ite_t hd h_6
                  refine lv_bipush (v := 10) hx hb d_Mo_firstSwap_50 (by decide) ?_
                  refine lv_iload_n hx hb d_Mo_firstSwap_52 rfl (lv_at hl 2 rfl) ?_
                  refine lv_imul hx hb d_Mo_firstSwap_53 ?_
                  refine lv_iload_n hx hb d_Mo_firstSwap_54 rfl (lv_at hl 3 rfl) ?_
                  refine lv_iadd hx hb d_Mo_firstSwap_55 ?_
                  refine lv_goto (tgt := 60) hx hb d_Mo_firstSwap_56 (by decide) ?_
                  refine lv_istore_n (lv' := [(1, .int ((10 * x2_f24) + x3_24)), (0, .ref (a 0)), (2, .int x2_f24), (3, .int x3_24)]) hx hb d_Mo_firstSwap_60 rfl hl (by decide) rfl (fun ls hl => ?_)
                  refine lv_aload_n hx hb d_Mo_firstSwap_61 rfl (lv_at hl 1 rfl) ?_
                  refine lv_dup hx hb d_Mo_firstSwap_62 rfl ?_
                  refine va_get (D := D) (ci := 1) (v := .int (q_Mo_swaps z_24)) (C := R_Mo) (T := F_Mo) (N := 26) hx hb hg i_Mo hown hK hP 0 rfl rfl 20 (by decide) (hg _ g_1012) (fun _ h9 => h9) rfl d_Mo_firstSwap_63 ?_
                  refine lv_iconst (v := 1) hx hb d_Mo_firstSwap_66 (by decide) ?_
                  refine lv_iadd hx hb d_Mo_firstSwap_67 ?_
                  refine va_put (D := D) (ci := 1) (v := .int ((q_Mo_swaps z_24) + 1)) (ty := .int) (C := R_Mo) (T := F_Mo) (N := 26) hx hb hg i_Mo t_Mo t_Mo_ok n_Mo hown hK hP hD hS 0 rfl rfl 20 (by decide) (hg _ g_1012) (fun _ h9 => h9) rfl (by decide +kernel) rfl rfl (Nat.le_of_ble_eq_true rfl) d_Mo_firstSwap_68 (fun H locs hP hD hS => ?_)
                  have hP : va_P D classes (ws_Mo g a (u_Mo_swaps z_24 ((q_Mo_swaps z_24) + 1))) H := hP
                  have hD : va_D A (ws_Mo g a (u_Mo_swaps z_24 ((q_Mo_swaps z_24) + 1))) := hD
                  refine lv_iinc (v := x3_24 + 1) (lv' := [(3, .int (x3_24 + 1)), (1, .int ((10 * x2_f24) + x3_24)), (0, .ref (a 0)), (2, .int x2_f24)]) hx hb d_Mo_firstSwap_71 hl (k := 3) rfl (by rfl) (by decide) rfl (fun ls hl => ?_)
                  refine lv_goto (tgt := 24) hx hb d_Mo_firstSwap_74 (by decide) ?_
                  exact ih24 ((10 * x2_f24) + x3_24) (x3_24 + 1) (u_Mo_swaps z_24 ((q_Mo_swaps z_24) + 1)) _ _ _ hP hD hS (lv_sub hl [2, 1, 3, 0] rfl) hd
        exact lp24 x2_10 _ ex24_77 1000 x1_10 (x2_10 + 1) z_10 _ _ _ hP hD hS (lv_sub hl [1, 2, 3, 0] rfl) hd
  exact lp10 1000 (-5) 0 (u_Mo_swaps z 0) _ _ _ hP hD hS (lv_sub hl [2, 1, 0] rfl) hd
-- OwnsLiftModel.swap(I)I
def d_Mo_swap (x1 : Int32) (z : T_Mo) : Option (Int32 × T_Mo) :=
  (d_Mo_in x1 0 1).bind fun v_1 => if v_1 = 0 then (some ((-1), z)) else ((d_Mo_looksForAll z).bind fun v_4 => (d_Mo_firstSwap v_4).bind fun v_6 => if x1 = 0 then (some ((q_Mo_swaps v_6.2), v_6.2)) else (some (v_6.1, v_6.2)))
theorem d_Mo_swap_0 : decode b_Mo_swap 0 = .ok (.iload_n 1, 1) := by decide +kernel
theorem d_Mo_swap_1 : decode b_Mo_swap 1 = .ok (.iconst 0, 1) := by decide +kernel
theorem d_Mo_swap_2 : decode b_Mo_swap 2 = .ok (.iconst 1, 1) := by decide +kernel
theorem d_Mo_swap_3 : decode b_Mo_swap 3 = .ok (.invokestatic 50, 3) := by decide +kernel
theorem d_Mo_swap_6 : decode b_Mo_swap 6 = .ok (.ifCond .ne 5, 3) := by decide +kernel
theorem d_Mo_swap_9 : decode b_Mo_swap 9 = .ok (.iconst (-1), 1) := by decide +kernel
theorem d_Mo_swap_10 : decode b_Mo_swap 10 = .ok (.ireturn, 1) := by decide +kernel
theorem d_Mo_swap_11 : decode b_Mo_swap 11 = .ok (.aload_n 0, 1) := by decide +kernel
theorem d_Mo_swap_12 : decode b_Mo_swap 12 = .ok (.invokevirtual 178, 3) := by decide +kernel
theorem d_Mo_swap_15 : decode b_Mo_swap 15 = .ok (.aload_n 0, 1) := by decide +kernel
theorem d_Mo_swap_16 : decode b_Mo_swap 16 = .ok (.invokevirtual 226, 3) := by decide +kernel
theorem d_Mo_swap_19 : decode b_Mo_swap 19 = .ok (.istore_n 2, 1) := by decide +kernel
theorem d_Mo_swap_20 : decode b_Mo_swap 20 = .ok (.iload_n 1, 1) := by decide +kernel
theorem d_Mo_swap_21 : decode b_Mo_swap 21 = .ok (.ifCond .ne 10, 3) := by decide +kernel
theorem d_Mo_swap_24 : decode b_Mo_swap 24 = .ok (.aload_n 0, 1) := by decide +kernel
theorem d_Mo_swap_25 : decode b_Mo_swap 25 = .ok (.getfield 219, 3) := by decide +kernel
theorem d_Mo_swap_28 : decode b_Mo_swap 28 = .ok (.goto 4, 3) := by decide +kernel
theorem d_Mo_swap_31 : decode b_Mo_swap 31 = .ok (.iload_n 2, 1) := by decide +kernel
theorem d_Mo_swap_32 : decode b_Mo_swap 32 = .ok (.ireturn, 1) := by decide +kernel
theorem o_Mo_swap : OkV y_Mo_swap "OwnsLiftModel" b_Mo_swap 3 (some .int) 1 := ⟨⟨rfl, by decide +kernel, by decide +kernel, by decide +kernel⟩, g_1299, g_1300, g_81, g_1301⟩
set_option maxHeartbeats 4000000 in
set_option maxRecDepth 100000 in
theorem c_Mo_swap (l : Launch) (D : va_G) (g : Nat → ClassId) (a : Nat → Nat) (x1 : Int32) (z : T_Mo) (v : Int32 × T_Mo) (h : d_Mo_swap x1 z = some v) :
    MI l y_Mo_swap b_Mo_swap 3 .int ({ frames := 4, cells := 0, slots := 0, locals := 97 } : Room) D g [.ref (a 0), .int x1] (ws_Mo g a z) (v.1) (ws_Mo g a v.2) := by
  have hd := h
  unfold d_Mo_swap at hd
  refine enterI rfl (Nat.le_of_ble_eq_true rfl) (fun p e s m below meth c A ls hx hb hml hr hown hg hlk hK hA hP hD hS hCs hl => ?_)
  have hown : s.vm.findClass "OwnsLiftModel" = some m.cls := hown
  have hl : lv_has ls 3 [(0, .ref (a 0)), (1, .int x1)] := hl
  show GI p l e s m ({ frames := 4, cells := 0, slots := 0, locals := 97 } : Room) ([.ref (a 0), .int x1] : List Value).toArray below meth c A D g (ws_Mo g a v.2) (v.1) s.heap [] (F0 m 0 ls [])
  refine lv_iload_n hx hb d_Mo_swap_0 rfl (lv_at hl 1 rfl) ?_
  refine lv_iconst (v := 0) hx hb d_Mo_swap_1 (by decide) ?_
  refine lv_iconst (v := 1) hx hb d_Mo_swap_2 (by decide) ?_
  obtain ⟨v_1, e_2, hd⟩ := bind_s hd
  refine callSI (ws' := ws_Mo g a z) (rest := []) (As := [.int x1, .int 0, .int 1]) hx hb hml hown hg hK hP hD hS hA hCs hl.1 (c_Mo_in l D g  x1 0 1 _ e_2) o_Mo_in g_1076 [] segC0 rfl rfl segP0 rfl rfl (Nat.le_of_ble_eq_true rfl) ⟨rfl, rfl, Nat.le_of_ble_eq_true rfl, Nat.le_of_ble_eq_true rfl⟩ d_Mo_swap_3 (fun H locs hP hD hS => ?_)
  refine lv_if_ne (tgt := 11) hx hb d_Mo_swap_6 (by decide) (fun h_3 => ?_) (fun h_3 => ?_)
  · have hd := ite_f hd h_3
    refine lv_aload_n hx hb d_Mo_swap_11 rfl (lv_at hl 0 rfl) ?_
    obtain ⟨v_4, e_5, hd⟩ := bind_s hd
    refine callVV (ws' := ws_Mo g a v_4) (rest := []) (As := []) hx hb hml hown hg hK hP hD hS hA hCs hl.1 (c_Mo_looksForAll l D g a z _ e_5) o_Mo_looksForAll g_1218 (ci := 1) (q0 := 0) rfl rfl (List.range' 0 12) (segC1 rfl rfl) (by decide) rfl (segP1 rfl rfl) rfl rfl (Nat.le_of_ble_eq_true rfl) ⟨rfl, rfl, Nat.le_of_ble_eq_true rfl, Nat.le_of_ble_eq_true rfl⟩ d_Mo_swap_12 (fun H locs hP hD hS => ?_)
    refine lv_aload_n hx hb d_Mo_swap_15 rfl (lv_at hl 0 rfl) ?_
    obtain ⟨v_6, e_7, hd⟩ := bind_s hd
    refine callVI (ws' := ws_Mo g a v_6.2) (rest := []) (As := []) hx hb hml hown hg hK hP hD hS hA hCs hl.1 (c_Mo_firstSwap l D g a v_4 _ e_7) o_Mo_firstSwap g_1302 (ci := 1) (q0 := 0) rfl rfl (List.range' 0 12) (segC1 rfl rfl) (by decide) rfl (segP1 rfl rfl) rfl rfl (Nat.le_of_ble_eq_true rfl) ⟨rfl, rfl, Nat.le_of_ble_eq_true rfl, Nat.le_of_ble_eq_true rfl⟩ d_Mo_swap_16 (fun H locs hP hD hS => ?_)
    refine lv_istore_n (lv' := [(2, .int v_6.1), (0, .ref (a 0)), (1, .int x1)]) hx hb d_Mo_swap_19 rfl hl (by decide) rfl (fun ls hl => ?_)
    refine lv_iload_n hx hb d_Mo_swap_20 rfl (lv_at hl 2 rfl) ?_
    refine lv_if_ne (tgt := 31) hx hb d_Mo_swap_21 (by decide) (fun h_8 => ?_) (fun h_8 => ?_)
    · have hd := ite_f hd h_8
      refine lv_iload_n hx hb d_Mo_swap_31 rfl (lv_at hl 0 rfl) ?_
      obtain rfl := Option.some.inj hd
      exact retI hx hb hr hlk hK hP hD hS d_Mo_swap_32 rfl
    · have hd := ite_t hd h_8
      refine lv_aload_n hx hb d_Mo_swap_24 rfl (lv_at hl 1 rfl) ?_
      refine va_get (D := D) (ci := 1) (v := .int (q_Mo_swaps v_6.2)) (C := R_Mo) (T := F_Mo) (N := 26) hx hb hg i_Mo hown hK hP 0 rfl rfl 20 (by decide) (hg _ g_1012) (fun _ h9 => h9) rfl d_Mo_swap_25 ?_
      refine lv_goto (tgt := 32) hx hb d_Mo_swap_28 (by decide) ?_
      obtain rfl := Option.some.inj hd
      exact retI hx hb hr hlk hK hP hD hS d_Mo_swap_32 rfl
  · have hd := ite_t hd h_3
    refine lv_iconst (v := (-1)) hx hb d_Mo_swap_9 (by decide) ?_
    obtain rfl := Option.some.inj hd
    exact retI hx hb hr hlk hK hP hD hS d_Mo_swap_10 rfl
-- OwnsLiftModel.keeps()V
def B_Mo_keeps_L2 (self2 : Int32 → T_Mo → Option (T_Mo)) (x1_2 : Int32) (z_2 : T_Mo) : Option (T_Mo) :=
  if 7 ≤ x1_2 then (some (z_2)) else (if inb (65 + x1_2) 901 = true then (if inb x1_2 7 = true then (self2 (x1_2 + 1) (u_Mo_owners z_2 (upd (q_Mo_owners z_2) x1_2.toNatClampNeg ((q_Mo_s z_2) (65 + x1_2).toNatClampNeg)))) else none) else none)
def d_Mo_keeps_L2 (n : Nat) : Int32 → T_Mo → Option (T_Mo) := recN (fun _ _ => none) (fun self => B_Mo_keeps_L2 self) n
def d_Mo_keeps (z : T_Mo) : Option (T_Mo) :=
  d_Mo_keeps_L2  1000 0 z
theorem d_Mo_keeps_0 : decode b_Mo_keeps 0 = .ok (.iconst 0, 1) := by decide +kernel
theorem d_Mo_keeps_1 : decode b_Mo_keeps 1 = .ok (.istore_n 1, 1) := by decide +kernel
theorem d_Mo_keeps_2 : decode b_Mo_keeps 2 = .ok (.iload_n 1, 1) := by decide +kernel
theorem d_Mo_keeps_3 : decode b_Mo_keeps 3 = .ok (.bipush 7, 2) := by decide +kernel
theorem d_Mo_keeps_5 : decode b_Mo_keeps 5 = .ok (.if_icmp .ge 24, 3) := by decide +kernel
theorem d_Mo_keeps_8 : decode b_Mo_keeps 8 = .ok (.aload_n 0, 1) := by decide +kernel
theorem d_Mo_keeps_9 : decode b_Mo_keeps 9 = .ok (.getfield 18, 3) := by decide +kernel
theorem d_Mo_keeps_12 : decode b_Mo_keeps 12 = .ok (.iload_n 1, 1) := by decide +kernel
theorem d_Mo_keeps_13 : decode b_Mo_keeps 13 = .ok (.aload_n 0, 1) := by decide +kernel
theorem d_Mo_keeps_14 : decode b_Mo_keeps 14 = .ok (.getfield 9, 3) := by decide +kernel
theorem d_Mo_keeps_17 : decode b_Mo_keeps 17 = .ok (.bipush 65, 2) := by decide +kernel
theorem d_Mo_keeps_19 : decode b_Mo_keeps 19 = .ok (.iload_n 1, 1) := by decide +kernel
theorem d_Mo_keeps_20 : decode b_Mo_keeps 20 = .ok (.iadd, 1) := by decide +kernel
theorem d_Mo_keeps_21 : decode b_Mo_keeps 21 = .ok (.iaload, 1) := by decide +kernel
theorem d_Mo_keeps_22 : decode b_Mo_keeps 22 = .ok (.iastore, 1) := by decide +kernel
theorem d_Mo_keeps_23 : decode b_Mo_keeps 23 = .ok (.iinc 1 1, 3) := by decide +kernel
theorem d_Mo_keeps_26 : decode b_Mo_keeps 26 = .ok (.goto (-24), 3) := by decide +kernel
theorem d_Mo_keeps_29 : decode b_Mo_keeps 29 = .ok (.return_, 1) := by decide +kernel
theorem o_Mo_keeps : OkV y_Mo_keeps "OwnsLiftModel" b_Mo_keeps 2 none 0 := ⟨⟨rfl, by decide +kernel, by decide +kernel, by decide +kernel⟩, g_1316, g_61, g_81, g_1317⟩
set_option maxHeartbeats 4000000 in
set_option maxRecDepth 100000 in
theorem c_Mo_keeps (l : Launch) (D : va_G) (g : Nat → ClassId) (a : Nat → Nat) (z : T_Mo) (v : T_Mo) (h : d_Mo_keeps z = some v) :
    MV l y_Mo_keeps b_Mo_keeps 2 ({ frames := 0, cells := 0, slots := 0, locals := 0 } : Room) D g [.ref (a 0)] (ws_Mo g a z) (ws_Mo g a v) := by
  have hd := h
  unfold d_Mo_keeps at hd
  refine enterV rfl (Nat.le_of_ble_eq_true rfl) (fun p e s m below meth c A ls hx hb hml hr hown hg hlk hK hA hP hD hS hCs hl => ?_)
  have hown : s.vm.findClass "OwnsLiftModel" = some m.cls := hown
  have hl : lv_has ls 2 [(0, .ref (a 0))] := hl
  show GV p l e s m ({ frames := 0, cells := 0, slots := 0, locals := 0 } : Room) ([.ref (a 0)] : List Value).toArray below meth c A D g (ws_Mo g a v) s.heap [] (F0 m 0 ls [])
  refine lv_iconst (v := 0) hx hb d_Mo_keeps_0 (by decide) ?_
  refine lv_istore_n (lv' := [(1, .int 0), (0, .ref (a 0))]) hx hb d_Mo_keeps_1 rfl hl (by decide) rfl (fun ls hl => ?_)
  have lp2 : ∀ (n : Nat) (x1_2 : Int32) (z_2 : T_Mo) (H : Heap) (locs : List Loc) (ls : Array Slot), va_P D classes (ws_Mo g a z_2) H → va_D A (ws_Mo g a z_2) → va_S A s.heap H locs → lv_has ls 2 [(0, .ref (a 0)), (1, .int x1_2)] → d_Mo_keeps_L2 n x1_2 z_2 = some v → GV p l e s m ({ frames := 0, cells := 0, slots := 0, locals := 0 } : Room) ([.ref (a 0)] : List Value).toArray below meth c A D g (ws_Mo g a v) H locs (F0 m 2 ls []) := by
    intro n
    induction n with
    | zero =>
      intro  x1_2 z_2 H locs ls hP hD hS hl hd
      have hd : none = some v := hd
      cases hd
    | succ n ih2 =>
      intro  x1_2 z_2 H locs ls hP hD hS hl hd
      have hd : B_Mo_keeps_L2 (d_Mo_keeps_L2 n) x1_2 z_2 = some v := hd
      generalize d_Mo_keeps_L2 n = self2 at ih2 hd
      unfold B_Mo_keeps_L2 at hd
      refine lv_iload_n hx hb d_Mo_keeps_2 rfl (lv_at hl 1 rfl) ?_
      refine lv_bipush (v := 7) hx hb d_Mo_keeps_3 (by decide) ?_
      refine lv_icmp_ge (tgt := 29) hx hb d_Mo_keeps_5 (by decide) (fun h_1 => ?_) (fun h_1 => ?_)
      · have hd := ite_t hd h_1
        obtain rfl := Option.some.inj hd
        exact retV hx hb hr hlk hK hP hD hS d_Mo_keeps_29
      · have hd := ite_f hd h_1
        refine lv_aload_n hx hb d_Mo_keeps_8 rfl (lv_at hl 0 rfl) ?_
        refine va_get (D := D) (ci := 1) (v := .ref (a 3)) (C := R_Mo) (T := F_Mo) (N := 26) hx hb hg i_Mo hown hK hP 0 rfl rfl 3 (by decide) (hg _ g_995) (fun _ h9 => h9) rfl d_Mo_keeps_9 ?_
        refine lv_iload_n hx hb d_Mo_keeps_12 rfl (lv_at hl 1 rfl) ?_
        refine lv_aload_n hx hb d_Mo_keeps_13 rfl (lv_at hl 0 rfl) ?_
        refine va_get (D := D) (ci := 1) (v := .ref (a 1)) (C := R_Mo) (T := F_Mo) (N := 26) hx hb hg i_Mo hown hK hP 0 rfl rfl 1 (by decide) (hg _ g_993) (fun _ h9 => h9) rfl d_Mo_keeps_14 ?_
        refine lv_bipush (v := 65) hx hb d_Mo_keeps_17 (by decide) ?_
        refine lv_iload_n hx hb d_Mo_keeps_19 rfl (lv_at hl 1 rfl) ?_
        refine lv_iadd hx hb d_Mo_keeps_20 ?_
        obtain ⟨h_3, hd⟩ := ite_s hd
        refine ialdK hx hb hK hP 1 0 rfl rfl (inb_t h_3) rfl d_Mo_keeps_21 ?_
        obtain ⟨h_2, hd⟩ := ite_s hd
        refine iastK hx hb hK hP hD hS 3 0 rfl rfl (inb_t h_2) rfl d_Mo_keeps_22 (fun H locs hP hD hS => ?_)
        have hP : va_P D classes (ws_Mo g a (u_Mo_owners z_2 (upd (q_Mo_owners z_2) x1_2.toNatClampNeg ((q_Mo_s z_2) (65 + x1_2).toNatClampNeg)))) H := hP
        have hD : va_D A (ws_Mo g a (u_Mo_owners z_2 (upd (q_Mo_owners z_2) x1_2.toNatClampNeg ((q_Mo_s z_2) (65 + x1_2).toNatClampNeg)))) := hD
        refine lv_iinc (v := x1_2 + 1) (lv' := [(1, .int (x1_2 + 1)), (0, .ref (a 0))]) hx hb d_Mo_keeps_23 hl (k := 1) rfl (by rfl) (by decide) rfl (fun ls hl => ?_)
        refine lv_goto (tgt := 2) hx hb d_Mo_keeps_26 (by decide) ?_
        exact ih2 (x1_2 + 1) (u_Mo_owners z_2 (upd (q_Mo_owners z_2) x1_2.toNatClampNeg ((q_Mo_s z_2) (65 + x1_2).toNatClampNeg))) _ _ _ hP hD hS (lv_sub hl [1, 0] rfl) hd
  exact lp2 1000 0 z _ _ _ hP hD hS (lv_sub hl [1, 0] rfl) hd
-- OwnsLiftModel.goesBack()V
def B_Mo_goesBack_L2 (self2 : Int32 → T_Mo → Option (T_Mo)) (x1_2 : Int32) (z_2 : T_Mo) : Option (T_Mo) :=
  if 7 ≤ x1_2 then (some (z_2)) else (if inb x1_2 7 = true then (if inb (65 + x1_2) 901 = true then (self2 (x1_2 + 1) (u_Mo_s z_2 (upd (q_Mo_s z_2) (65 + x1_2).toNatClampNeg ((q_Mo_owners z_2) x1_2.toNatClampNeg)))) else none) else none)
def d_Mo_goesBack_L2 (n : Nat) : Int32 → T_Mo → Option (T_Mo) := recN (fun _ _ => none) (fun self => B_Mo_goesBack_L2 self) n
def d_Mo_goesBack (z : T_Mo) : Option (T_Mo) :=
  d_Mo_goesBack_L2  1000 0 z
theorem d_Mo_goesBack_0 : decode b_Mo_goesBack 0 = .ok (.iconst 0, 1) := by decide +kernel
theorem d_Mo_goesBack_1 : decode b_Mo_goesBack 1 = .ok (.istore_n 1, 1) := by decide +kernel
theorem d_Mo_goesBack_2 : decode b_Mo_goesBack 2 = .ok (.iload_n 1, 1) := by decide +kernel
theorem d_Mo_goesBack_3 : decode b_Mo_goesBack 3 = .ok (.bipush 7, 2) := by decide +kernel
theorem d_Mo_goesBack_5 : decode b_Mo_goesBack 5 = .ok (.if_icmp .ge 24, 3) := by decide +kernel
theorem d_Mo_goesBack_8 : decode b_Mo_goesBack 8 = .ok (.aload_n 0, 1) := by decide +kernel
theorem d_Mo_goesBack_9 : decode b_Mo_goesBack 9 = .ok (.getfield 9, 3) := by decide +kernel
theorem d_Mo_goesBack_12 : decode b_Mo_goesBack 12 = .ok (.bipush 65, 2) := by decide +kernel
theorem d_Mo_goesBack_14 : decode b_Mo_goesBack 14 = .ok (.iload_n 1, 1) := by decide +kernel
theorem d_Mo_goesBack_15 : decode b_Mo_goesBack 15 = .ok (.iadd, 1) := by decide +kernel
theorem d_Mo_goesBack_16 : decode b_Mo_goesBack 16 = .ok (.aload_n 0, 1) := by decide +kernel
theorem d_Mo_goesBack_17 : decode b_Mo_goesBack 17 = .ok (.getfield 18, 3) := by decide +kernel
theorem d_Mo_goesBack_20 : decode b_Mo_goesBack 20 = .ok (.iload_n 1, 1) := by decide +kernel
theorem d_Mo_goesBack_21 : decode b_Mo_goesBack 21 = .ok (.iaload, 1) := by decide +kernel
theorem d_Mo_goesBack_22 : decode b_Mo_goesBack 22 = .ok (.iastore, 1) := by decide +kernel
theorem d_Mo_goesBack_23 : decode b_Mo_goesBack 23 = .ok (.iinc 1 1, 3) := by decide +kernel
theorem d_Mo_goesBack_26 : decode b_Mo_goesBack 26 = .ok (.goto (-24), 3) := by decide +kernel
theorem d_Mo_goesBack_29 : decode b_Mo_goesBack 29 = .ok (.return_, 1) := by decide +kernel
theorem o_Mo_goesBack : OkV y_Mo_goesBack "OwnsLiftModel" b_Mo_goesBack 2 none 0 := ⟨⟨rfl, by decide +kernel, by decide +kernel, by decide +kernel⟩, g_1320, g_62, g_81, g_1321⟩
set_option maxHeartbeats 4000000 in
set_option maxRecDepth 100000 in
theorem c_Mo_goesBack (l : Launch) (D : va_G) (g : Nat → ClassId) (a : Nat → Nat) (z : T_Mo) (v : T_Mo) (h : d_Mo_goesBack z = some v) :
    MV l y_Mo_goesBack b_Mo_goesBack 2 ({ frames := 0, cells := 0, slots := 0, locals := 0 } : Room) D g [.ref (a 0)] (ws_Mo g a z) (ws_Mo g a v) := by
  have hd := h
  unfold d_Mo_goesBack at hd
  refine enterV rfl (Nat.le_of_ble_eq_true rfl) (fun p e s m below meth c A ls hx hb hml hr hown hg hlk hK hA hP hD hS hCs hl => ?_)
  have hown : s.vm.findClass "OwnsLiftModel" = some m.cls := hown
  have hl : lv_has ls 2 [(0, .ref (a 0))] := hl
  show GV p l e s m ({ frames := 0, cells := 0, slots := 0, locals := 0 } : Room) ([.ref (a 0)] : List Value).toArray below meth c A D g (ws_Mo g a v) s.heap [] (F0 m 0 ls [])
  refine lv_iconst (v := 0) hx hb d_Mo_goesBack_0 (by decide) ?_
  refine lv_istore_n (lv' := [(1, .int 0), (0, .ref (a 0))]) hx hb d_Mo_goesBack_1 rfl hl (by decide) rfl (fun ls hl => ?_)
  have lp2 : ∀ (n : Nat) (x1_2 : Int32) (z_2 : T_Mo) (H : Heap) (locs : List Loc) (ls : Array Slot), va_P D classes (ws_Mo g a z_2) H → va_D A (ws_Mo g a z_2) → va_S A s.heap H locs → lv_has ls 2 [(0, .ref (a 0)), (1, .int x1_2)] → d_Mo_goesBack_L2 n x1_2 z_2 = some v → GV p l e s m ({ frames := 0, cells := 0, slots := 0, locals := 0 } : Room) ([.ref (a 0)] : List Value).toArray below meth c A D g (ws_Mo g a v) H locs (F0 m 2 ls []) := by
    intro n
    induction n with
    | zero =>
      intro  x1_2 z_2 H locs ls hP hD hS hl hd
      have hd : none = some v := hd
      cases hd
    | succ n ih2 =>
      intro  x1_2 z_2 H locs ls hP hD hS hl hd
      have hd : B_Mo_goesBack_L2 (d_Mo_goesBack_L2 n) x1_2 z_2 = some v := hd
      generalize d_Mo_goesBack_L2 n = self2 at ih2 hd
      unfold B_Mo_goesBack_L2 at hd
      refine lv_iload_n hx hb d_Mo_goesBack_2 rfl (lv_at hl 1 rfl) ?_
      refine lv_bipush (v := 7) hx hb d_Mo_goesBack_3 (by decide) ?_
      refine lv_icmp_ge (tgt := 29) hx hb d_Mo_goesBack_5 (by decide) (fun h_1 => ?_) (fun h_1 => ?_)
      · have hd := ite_t hd h_1
        obtain rfl := Option.some.inj hd
        exact retV hx hb hr hlk hK hP hD hS d_Mo_goesBack_29
      · have hd := ite_f hd h_1
        refine lv_aload_n hx hb d_Mo_goesBack_8 rfl (lv_at hl 0 rfl) ?_
        refine va_get (D := D) (ci := 1) (v := .ref (a 1)) (C := R_Mo) (T := F_Mo) (N := 26) hx hb hg i_Mo hown hK hP 0 rfl rfl 1 (by decide) (hg _ g_993) (fun _ h9 => h9) rfl d_Mo_goesBack_9 ?_
        refine lv_bipush (v := 65) hx hb d_Mo_goesBack_12 (by decide) ?_
        refine lv_iload_n hx hb d_Mo_goesBack_14 rfl (lv_at hl 1 rfl) ?_
        refine lv_iadd hx hb d_Mo_goesBack_15 ?_
        refine lv_aload_n hx hb d_Mo_goesBack_16 rfl (lv_at hl 0 rfl) ?_
        refine va_get (D := D) (ci := 1) (v := .ref (a 3)) (C := R_Mo) (T := F_Mo) (N := 26) hx hb hg i_Mo hown hK hP 0 rfl rfl 3 (by decide) (hg _ g_995) (fun _ h9 => h9) rfl d_Mo_goesBack_17 ?_
        refine lv_iload_n hx hb d_Mo_goesBack_20 rfl (lv_at hl 1 rfl) ?_
        obtain ⟨h_3, hd⟩ := ite_s hd
        refine ialdK hx hb hK hP 3 0 rfl rfl (inb_t h_3) rfl d_Mo_goesBack_21 ?_
        obtain ⟨h_2, hd⟩ := ite_s hd
        refine iastK hx hb hK hP hD hS 1 0 rfl rfl (inb_t h_2) rfl d_Mo_goesBack_22 (fun H locs hP hD hS => ?_)
        have hP : va_P D classes (ws_Mo g a (u_Mo_s z_2 (upd (q_Mo_s z_2) (65 + x1_2).toNatClampNeg ((q_Mo_owners z_2) x1_2.toNatClampNeg)))) H := hP
        have hD : va_D A (ws_Mo g a (u_Mo_s z_2 (upd (q_Mo_s z_2) (65 + x1_2).toNatClampNeg ((q_Mo_owners z_2) x1_2.toNatClampNeg)))) := hD
        refine lv_iinc (v := x1_2 + 1) (lv' := [(1, .int (x1_2 + 1)), (0, .ref (a 0))]) hx hb d_Mo_goesBack_23 hl (k := 1) rfl (by rfl) (by decide) rfl (fun ls hl => ?_)
        refine lv_goto (tgt := 2) hx hb d_Mo_goesBack_26 (by decide) ?_
        exact ih2 (x1_2 + 1) (u_Mo_s z_2 (upd (q_Mo_s z_2) (65 + x1_2).toNatClampNeg ((q_Mo_owners z_2) x1_2.toNatClampNeg))) _ _ _ hP hD hS (lv_sub hl [1, 0] rfl) hd
  exact lp2 1000 0 z _ _ _ hP hD hS (lv_sub hl [1, 0] rfl) hd

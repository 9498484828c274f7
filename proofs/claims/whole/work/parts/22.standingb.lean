-- OwnsLift$Standing.dearestOf(II)I
def B_St_dearestOf_L5 (x1_f5 : Int32) (x2_f5 : Int32) (z : T_St) (self5 : Int32 → Int32 → Option (Int32)) (x3_5 : Int32) (x4_5 : Int32) : Option (Int32) :=
  if (q_St_things z) ≤ x4_5 then (some (x3_5)) else (if ((x2_f5 >>> (x4_5 &&& 31)) &&& 1) = 1 then (if x3_5 < 0 then (self5 x4_5 (x4_5 + 1)) else ((d_St_dearer x1_f5 x4_5 x3_5 z).bind fun v_4 => if v_4 = 0 then (self5 x3_5 (x4_5 + 1)) else (self5 x4_5 (x4_5 + 1)))) else (self5 x3_5 (x4_5 + 1)))
def d_St_dearestOf_L5 (x1_f5 : Int32) (x2_f5 : Int32) (z : T_St) (n : Nat) : Int32 → Int32 → Option (Int32) := recN (fun _ _ => none) (fun self => B_St_dearestOf_L5 x1_f5 x2_f5 z self) n
def d_St_dearestOf (x1 : Int32) (x2 : Int32) (z : T_St) : Option (Int32) :=
  d_St_dearestOf_L5 x1 x2 z  1000 (-1) 0
theorem d_St_dearestOf_0 : decode b_St_dearestOf 0 = .ok (.iconst (-1), 1) := by decide +kernel
theorem d_St_dearestOf_1 : decode b_St_dearestOf 1 = .ok (.istore_n 3, 1) := by decide +kernel
theorem d_St_dearestOf_2 : decode b_St_dearestOf 2 = .ok (.iconst 0, 1) := by decide +kernel
theorem d_St_dearestOf_3 : decode b_St_dearestOf 3 = .ok (.istore 4, 2) := by decide +kernel
theorem d_St_dearestOf_5 : decode b_St_dearestOf 5 = .ok (.iload 4, 2) := by decide +kernel
theorem d_St_dearestOf_7 : decode b_St_dearestOf 7 = .ok (.aload_n 0, 1) := by decide +kernel
theorem d_St_dearestOf_8 : decode b_St_dearestOf 8 = .ok (.getfield 50, 3) := by decide +kernel
theorem d_St_dearestOf_11 : decode b_St_dearestOf 11 = .ok (.if_icmp .ge 37, 3) := by decide +kernel
theorem d_St_dearestOf_14 : decode b_St_dearestOf 14 = .ok (.iload_n 2, 1) := by decide +kernel
theorem d_St_dearestOf_15 : decode b_St_dearestOf 15 = .ok (.iload 4, 2) := by decide +kernel
theorem d_St_dearestOf_17 : decode b_St_dearestOf 17 = .ok (.ishr, 1) := by decide +kernel
theorem d_St_dearestOf_18 : decode b_St_dearestOf 18 = .ok (.iconst 1, 1) := by decide +kernel
theorem d_St_dearestOf_19 : decode b_St_dearestOf 19 = .ok (.iand, 1) := by decide +kernel
theorem d_St_dearestOf_20 : decode b_St_dearestOf 20 = .ok (.iconst 1, 1) := by decide +kernel
theorem d_St_dearestOf_21 : decode b_St_dearestOf 21 = .ok (.if_icmp .ne 21, 3) := by decide +kernel
theorem d_St_dearestOf_24 : decode b_St_dearestOf 24 = .ok (.iload_n 3, 1) := by decide +kernel
theorem d_St_dearestOf_25 : decode b_St_dearestOf 25 = .ok (.ifCond .lt 14, 3) := by decide +kernel
theorem d_St_dearestOf_28 : decode b_St_dearestOf 28 = .ok (.aload_n 0, 1) := by decide +kernel
theorem d_St_dearestOf_29 : decode b_St_dearestOf 29 = .ok (.iload_n 1, 1) := by decide +kernel
theorem d_St_dearestOf_30 : decode b_St_dearestOf 30 = .ok (.iload 4, 2) := by decide +kernel
theorem d_St_dearestOf_32 : decode b_St_dearestOf 32 = .ok (.iload_n 3, 1) := by decide +kernel
theorem d_St_dearestOf_33 : decode b_St_dearestOf 33 = .ok (.invokevirtual 108, 3) := by decide +kernel
theorem d_St_dearestOf_36 : decode b_St_dearestOf 36 = .ok (.ifCond .eq 6, 3) := by decide +kernel
theorem d_St_dearestOf_39 : decode b_St_dearestOf 39 = .ok (.iload 4, 2) := by decide +kernel
theorem d_St_dearestOf_41 : decode b_St_dearestOf 41 = .ok (.istore_n 3, 1) := by decide +kernel
theorem d_St_dearestOf_42 : decode b_St_dearestOf 42 = .ok (.iinc 4 1, 3) := by decide +kernel
theorem d_St_dearestOf_45 : decode b_St_dearestOf 45 = .ok (.goto (-40), 3) := by decide +kernel
theorem d_St_dearestOf_48 : decode b_St_dearestOf 48 = .ok (.iload_n 3, 1) := by decide +kernel
theorem d_St_dearestOf_49 : decode b_St_dearestOf 49 = .ok (.ireturn, 1) := by decide +kernel
theorem o_St_dearestOf : OkV y_St_dearestOf "OwnsLift$Standing" b_St_dearestOf 5 (some .int) 2 := ⟨⟨rfl, by decide +kernel, by decide +kernel, by decide +kernel⟩, g_848, g_23, g_77, g_849⟩
set_option maxHeartbeats 4000000 in
set_option maxRecDepth 100000 in
theorem c_St_dearestOf (l : Launch) (D : va_G) (g : Nat → ClassId) (a : Nat → Nat) (x1 : Int32) (x2 : Int32) (z : T_St) (v : Int32) (h : d_St_dearestOf x1 x2 z = some v) :
    MI l y_St_dearestOf b_St_dearestOf 5 .int ({ frames := 1, cells := 0, slots := 0, locals := 23 } : Room) D g [.ref (a 0), .int x1, .int x2] (ws_St g a z) (v) (ws_St g a z) := by
  have hd := h
  unfold d_St_dearestOf at hd
  refine enterI rfl (Nat.le_of_ble_eq_true rfl) (fun p e s m below meth c A ls hx hb hml hr hown hg hlk hK hA hP hD hS hCs hl => ?_)
  have hown : s.vm.findClass "OwnsLift$Standing" = some m.cls := hown
  have hl : lv_has ls 5 [(0, .ref (a 0)), (1, .int x1), (2, .int x2)] := hl
  show GI p l e s m ({ frames := 1, cells := 0, slots := 0, locals := 23 } : Room) ([.ref (a 0), .int x1, .int x2] : List Value).toArray below meth c A D g (ws_St g a z) (v) s.heap [] (F0 m 0 ls [])
  refine lv_iconst (v := (-1)) hx hb d_St_dearestOf_0 (by decide) ?_
  refine lv_istore_n (lv' := [(3, .int (-1)), (0, .ref (a 0)), (1, .int x1), (2, .int x2)]) hx hb d_St_dearestOf_1 rfl hl (by decide) rfl (fun ls hl => ?_)
  refine lv_iconst (v := 0) hx hb d_St_dearestOf_2 (by decide) ?_
  refine lv_istore (lv' := [(4, .int 0), (3, .int (-1)), (0, .ref (a 0)), (1, .int x1), (2, .int x2)]) hx hb d_St_dearestOf_3 hl (by decide) rfl (fun ls hl => ?_)
  have lp5 : ∀ (x1_f5 : Int32) (x2_f5 : Int32) (n : Nat) (x3_5 : Int32) (x4_5 : Int32) (H : Heap) (locs : List Loc) (ls : Array Slot), va_P D classes (ws_St g a z) H → va_D A (ws_St g a z) → va_S A s.heap H locs → lv_has ls 5 [(0, .ref (a 0)), (1, .int x1_f5), (2, .int x2_f5), (3, .int x3_5), (4, .int x4_5)] → d_St_dearestOf_L5 x1_f5 x2_f5 z n x3_5 x4_5 = some v → GI p l e s m ({ frames := 1, cells := 0, slots := 0, locals := 23 } : Room) ([.ref (a 0), .int x1, .int x2] : List Value).toArray below meth c A D g (ws_St g a z) (v) H locs (F0 m 5 ls []) := by
    intro x1_f5 x2_f5 n
    induction n with
    | zero =>
      intro  x3_5 x4_5 H locs ls hP hD hS hl hd
      have hd : none = some v := hd
      cases hd
    | succ n ih5 =>
      intro  x3_5 x4_5 H locs ls hP hD hS hl hd
      have hd : B_St_dearestOf_L5 x1_f5 x2_f5 z (d_St_dearestOf_L5 x1_f5 x2_f5 z n) x3_5 x4_5 = some v := hd
      generalize d_St_dearestOf_L5 x1_f5 x2_f5 z n = self5 at ih5 hd
      unfold B_St_dearestOf_L5 at hd
      refine lv_iload hx hb d_St_dearestOf_5 (lv_at hl 4 rfl) ?_
      refine lv_aload_n hx hb d_St_dearestOf_7 rfl (lv_at hl 0 rfl) ?_
      refine va_get (D := D) (ci := 9) (v := .int (q_St_things z)) (C := R_St) (T := F_St) (N := 7) hx hb hg i_St hown hK hP 0 rfl rfl 1 (by decide) (hg _ g_281) (fun _ h9 => h9) rfl d_St_dearestOf_8 ?_
      refine lv_icmp_ge (tgt := 48) hx hb d_St_dearestOf_11 (by decide) (fun h_1 => ?_) (fun h_1 => ?_)
      · have hd := ite_t hd h_1
        refine lv_iload_n hx hb d_St_dearestOf_48 rfl (lv_at hl 3 rfl) ?_
        obtain rfl := Option.some.inj hd
        exact retI hx hb hr hlk hK hP hD hS d_St_dearestOf_49 rfl
      · have hd := ite_f hd h_1
        refine lv_iload_n hx hb d_St_dearestOf_14 rfl (lv_at hl 2 rfl) ?_
        refine lv_iload hx hb d_St_dearestOf_15 (lv_at hl 4 rfl) ?_
        refine lv_ishr hx hb d_St_dearestOf_17 ?_
        refine lv_iconst (v := 1) hx hb d_St_dearestOf_18 (by decide) ?_
        refine lv_iand hx hb d_St_dearestOf_19 ?_
        refine lv_iconst (v := 1) hx hb d_St_dearestOf_20 (by decide) ?_
        refine lv_icmp_ne (tgt := 42) hx hb d_St_dearestOf_21 (by decide) (fun h_2 => ?_) (fun h_2 => ?_)
        · have hd := ite_f hd h_2
          refine lv_iinc (v := x4_5 + 1) (lv' := [(4, .int (x4_5 + 1)), (0, .ref (a 0)), (1, .int x1_f5), (2, .int x2_f5), (3, .int x3_5)]) hx hb d_St_dearestOf_42 hl (k := 4) rfl (by rfl) (by decide) rfl (fun ls hl => ?_)
          refine lv_goto (tgt := 5) hx hb d_St_dearestOf_45 (by decide) ?_
          exact ih5 x3_5 (x4_5 + 1) _ _ _ hP hD hS (lv_sub hl [1, 2, 3, 4, 0] rfl) hd
        · have hd := ite_t hd h_2
          refine lv_iload_n hx hb d_St_dearestOf_24 rfl (lv_at hl 3 rfl) ?_
          refine lv_if_lt (tgt := 39) hx hb d_St_dearestOf_25 (by decide) (fun h_3 => ?_) (fun h_3 => ?_)
          · have hd := ite_t hd h_3
            refine lv_iload hx hb d_St_dearestOf_39 (lv_at hl 4 rfl) ?_
            refine lv_istore_n (lv' := [(3, .int x4_5), (0, .ref (a 0)), (1, .int x1_f5), (2, .int x2_f5), (4, .int x4_5)]) hx hb d_St_dearestOf_41 rfl hl (by decide) rfl (fun ls hl => ?_)
            refine lv_iinc (v := x4_5 + 1) (lv' := [(4, .int (x4_5 + 1)), (3, .int x4_5), (0, .ref (a 0)), (1, .int x1_f5), (2, .int x2_f5)]) hx hb d_St_dearestOf_42 hl (k := 4) rfl (by rfl) (by decide) rfl (fun ls hl => ?_)
            refine lv_goto (tgt := 5) hx hb d_St_dearestOf_45 (by decide) ?_
            exact ih5 x4_5 (x4_5 + 1) _ _ _ hP hD hS (lv_sub hl [2, 3, 4, 1, 0] rfl) hd
          · have hd := ite_f hd h_3
            refine lv_aload_n hx hb d_St_dearestOf_28 rfl (lv_at hl 0 rfl) ?_
            refine lv_iload_n hx hb d_St_dearestOf_29 rfl (lv_at hl 1 rfl) ?_
            refine lv_iload hx hb d_St_dearestOf_30 (lv_at hl 4 rfl) ?_
            refine lv_iload_n hx hb d_St_dearestOf_32 rfl (lv_at hl 3 rfl) ?_
            obtain ⟨v_4, e_5, hd⟩ := bind_s hd
            refine callVI (ws' := ws_St g a z) (rest := []) (As := [.int x1_f5, .int x4_5, .int x3_5]) hx hb hml hown hg hK hP hD hS hA hCs hl.1 (c_St_dearer l D g a x1_f5 x4_5 x3_5 z _ e_5) o_St_dearer g_754 (ci := 9) (q0 := 0) rfl rfl (List.range' 0 10) (segC1 rfl rfl) (by decide) rfl (segP1 rfl rfl) rfl rfl (Nat.le_of_ble_eq_true rfl) ⟨rfl, rfl, Nat.le_of_ble_eq_true rfl, Nat.le_of_ble_eq_true rfl⟩ d_St_dearestOf_33 (fun H locs hP hD hS => ?_)
            refine lv_if_eq (tgt := 42) hx hb d_St_dearestOf_36 (by decide) (fun h_6 => ?_) (fun h_6 => ?_)
            · have hd := ite_t hd h_6
              refine lv_iinc (v := x4_5 + 1) (lv' := [(4, .int (x4_5 + 1)), (0, .ref (a 0)), (1, .int x1_f5), (2, .int x2_f5), (3, .int x3_5)]) hx hb d_St_dearestOf_42 hl (k := 4) rfl (by rfl) (by decide) rfl (fun ls hl => ?_)
              refine lv_goto (tgt := 5) hx hb d_St_dearestOf_45 (by decide) ?_
              exact ih5 x3_5 (x4_5 + 1) _ _ _ hP hD hS (lv_sub hl [1, 2, 3, 4, 0] rfl) hd
            · have hd := ite_f hd h_6
              refine lv_iload hx hb d_St_dearestOf_39 (lv_at hl 4 rfl) ?_
              refine lv_istore_n (lv' := [(3, .int x4_5), (0, .ref (a 0)), (1, .int x1_f5), (2, .int x2_f5), (4, .int x4_5)]) hx hb d_St_dearestOf_41 rfl hl (by decide) rfl (fun ls hl => ?_)
              refine lv_iinc (v := x4_5 + 1) (lv' := [(4, .int (x4_5 + 1)), (3, .int x4_5), (0, .ref (a 0)), (1, .int x1_f5), (2, .int x2_f5)]) hx hb d_St_dearestOf_42 hl (k := 4) rfl (by rfl) (by decide) rfl (fun ls hl => ?_)
              refine lv_goto (tgt := 5) hx hb d_St_dearestOf_45 (by decide) ?_
              exact ih5 x4_5 (x4_5 + 1) _ _ _ hP hD hS (lv_sub hl [2, 3, 4, 1, 0] rfl) hd
  exact lp5 x1 x2 1000 (-1) 0 _ _ _ hP hD hS (lv_sub hl [2, 3, 4, 1, 0] rfl) hd
-- OwnsLift$Standing.fillByParts(ILOwnsLift$Fraction;)V
def B_St_fillByParts_L20 (x1_f20 : Int32) (z : T_St) (w_f20 : T_Fr) (k20_142 : Int32 → Option (T_Fr)) (self20 : Int32 → Int32 → Int32 → Int32 → Option (T_Fr)) (x3_20 : Int32) (x4_20 : Int32) (x5_20 : Int32) (x6_20 : Int32) : Option (T_Fr) :=
  if (q_St_things z) ≤ x6_20 then (k20_142 x5_20) else (if x4_20 = 0 then (k20_142 x5_20) else ((d_St_dearestOf x1_f20 x4_20 z).bind fun v_5 => if 0 ≤ v_5 then (if inb v_5 7 = true then (if ((q_St_weight z) v_5.toNatClampNeg) ≤ x3_20 then (if inb v_5 7 = true then (if inb x1_f20 4 = true then (if inb v_5 7 = true then (self20 (x3_20 - ((q_St_weight z) v_5.toNatClampNeg)) (x4_20 &&& (((1 : Int32) <<< (v_5 &&& 31)) ^^^ (-1))) (x5_20 + ((q_St_like z) x1_f20.toNatClampNeg v_5.toNatClampNeg)) (x6_20 + 1)) else none) else none) else none) else (if inb v_5 7 = true then (if inb x1_f20 4 = true then (if inb v_5 7 = true then (if inb v_5 7 = true then ((d_Fr_put ((((x5_20 : Int32).toInt64) * (((q_St_weight z) v_5.toNatClampNeg : Int32).toInt64)) + ((((q_St_like z) x1_f20.toNatClampNeg v_5.toNatClampNeg : Int32).toInt64) * ((x3_20 : Int32).toInt64))) (((q_St_weight z) v_5.toNatClampNeg : Int32).toInt64) w_f20).bind fun v_14 => some (v_14)) else none) else none) else none) else none)) else none) else (k20_142 x5_20)))
def d_St_fillByParts_L20 (x1_f20 : Int32) (z : T_St) (w_f20 : T_Fr) (k20_142 : Int32 → Option (T_Fr)) (n : Nat) : Int32 → Int32 → Int32 → Int32 → Option (T_Fr) := recN (fun _ _ _ _ => none) (fun self => B_St_fillByParts_L20 x1_f20 z w_f20 k20_142 self) n
def d_St_fillByParts (x1 : Int32) (z : T_St) (w : T_Fr) : Option (T_Fr) :=
  if inb x1 4 = true then ((d_St_bits x1 z).bind fun v_1 => d_St_fillByParts_L20 x1 z w (fun x5_20 => (d_Fr_put ((x5_20 : Int32).toInt64) 1 w).bind fun v_19 => some (v_19)) 1000 ((q_St_lifts z) x1.toNatClampNeg) v_1 0 0) else none
theorem d_St_fillByParts_0 : decode b_St_fillByParts 0 = .ok (.aload_n 0, 1) := by decide +kernel
theorem d_St_fillByParts_1 : decode b_St_fillByParts 1 = .ok (.getfield 16, 3) := by decide +kernel
theorem d_St_fillByParts_4 : decode b_St_fillByParts 4 = .ok (.iload_n 1, 1) := by decide +kernel
theorem d_St_fillByParts_5 : decode b_St_fillByParts 5 = .ok (.iaload, 1) := by decide +kernel
theorem d_St_fillByParts_6 : decode b_St_fillByParts 6 = .ok (.istore_n 3, 1) := by decide +kernel
theorem d_St_fillByParts_7 : decode b_St_fillByParts 7 = .ok (.aload_n 0, 1) := by decide +kernel
theorem d_St_fillByParts_8 : decode b_St_fillByParts 8 = .ok (.iload_n 1, 1) := by decide +kernel
theorem d_St_fillByParts_9 : decode b_St_fillByParts 9 = .ok (.invokevirtual 71, 3) := by decide +kernel
theorem d_St_fillByParts_12 : decode b_St_fillByParts 12 = .ok (.istore 4, 2) := by decide +kernel
theorem d_St_fillByParts_14 : decode b_St_fillByParts 14 = .ok (.iconst 0, 1) := by decide +kernel
theorem d_St_fillByParts_15 : decode b_St_fillByParts 15 = .ok (.istore 5, 2) := by decide +kernel
theorem d_St_fillByParts_17 : decode b_St_fillByParts 17 = .ok (.iconst 0, 1) := by decide +kernel
theorem d_St_fillByParts_18 : decode b_St_fillByParts 18 = .ok (.istore 6, 2) := by decide +kernel
theorem d_St_fillByParts_20 : decode b_St_fillByParts 20 = .ok (.iload 6, 2) := by decide +kernel
theorem d_St_fillByParts_22 : decode b_St_fillByParts 22 = .ok (.aload_n 0, 1) := by decide +kernel
theorem d_St_fillByParts_23 : decode b_St_fillByParts 23 = .ok (.getfield 50, 3) := by decide +kernel
theorem d_St_fillByParts_26 : decode b_St_fillByParts 26 = .ok (.if_icmp .ge 116, 3) := by decide +kernel
theorem d_St_fillByParts_29 : decode b_St_fillByParts 29 = .ok (.iload 4, 2) := by decide +kernel
theorem d_St_fillByParts_31 : decode b_St_fillByParts 31 = .ok (.ifCond .eq 111, 3) := by decide +kernel
theorem d_St_fillByParts_34 : decode b_St_fillByParts 34 = .ok (.aload_n 0, 1) := by decide +kernel
theorem d_St_fillByParts_35 : decode b_St_fillByParts 35 = .ok (.iload_n 1, 1) := by decide +kernel
theorem d_St_fillByParts_36 : decode b_St_fillByParts 36 = .ok (.iload 4, 2) := by decide +kernel
theorem d_St_fillByParts_38 : decode b_St_fillByParts 38 = .ok (.invokevirtual 112, 3) := by decide +kernel
theorem d_St_fillByParts_41 : decode b_St_fillByParts 41 = .ok (.istore 7, 2) := by decide +kernel
theorem d_St_fillByParts_43 : decode b_St_fillByParts 43 = .ok (.iload 7, 2) := by decide +kernel
theorem d_St_fillByParts_45 : decode b_St_fillByParts 45 = .ok (.ifCond .ge 6, 3) := by decide +kernel
theorem d_St_fillByParts_48 : decode b_St_fillByParts 48 = .ok (.goto 94, 3) := by decide +kernel
theorem d_St_fillByParts_51 : decode b_St_fillByParts 51 = .ok (.aload_n 0, 1) := by decide +kernel
theorem d_St_fillByParts_52 : decode b_St_fillByParts 52 = .ok (.getfield 23, 3) := by decide +kernel
theorem d_St_fillByParts_55 : decode b_St_fillByParts 55 = .ok (.iload 7, 2) := by decide +kernel
theorem d_St_fillByParts_57 : decode b_St_fillByParts 57 = .ok (.iaload, 1) := by decide +kernel
theorem d_St_fillByParts_58 : decode b_St_fillByParts 58 = .ok (.iload_n 3, 1) := by decide +kernel
theorem d_St_fillByParts_59 : decode b_St_fillByParts 59 = .ok (.if_icmp .le 42, 3) := by decide +kernel
theorem d_St_fillByParts_62 : decode b_St_fillByParts 62 = .ok (.aload_n 2, 1) := by decide +kernel
theorem d_St_fillByParts_63 : decode b_St_fillByParts 63 = .ok (.iload 5, 2) := by decide +kernel
theorem d_St_fillByParts_65 : decode b_St_fillByParts 65 = .ok (.i2l, 1) := by decide +kernel
theorem d_St_fillByParts_66 : decode b_St_fillByParts 66 = .ok (.aload_n 0, 1) := by decide +kernel
theorem d_St_fillByParts_67 : decode b_St_fillByParts 67 = .ok (.getfield 23, 3) := by decide +kernel
theorem d_St_fillByParts_70 : decode b_St_fillByParts 70 = .ok (.iload 7, 2) := by decide +kernel
theorem d_St_fillByParts_72 : decode b_St_fillByParts 72 = .ok (.iaload, 1) := by decide +kernel
theorem d_St_fillByParts_73 : decode b_St_fillByParts 73 = .ok (.i2l, 1) := by decide +kernel
theorem d_St_fillByParts_74 : decode b_St_fillByParts 74 = .ok (.lmul, 1) := by decide +kernel
theorem d_St_fillByParts_75 : decode b_St_fillByParts 75 = .ok (.aload_n 0, 1) := by decide +kernel
theorem d_St_fillByParts_76 : decode b_St_fillByParts 76 = .ok (.getfield 11, 3) := by decide +kernel
theorem d_St_fillByParts_79 : decode b_St_fillByParts 79 = .ok (.iload_n 1, 1) := by decide +kernel
theorem d_St_fillByParts_80 : decode b_St_fillByParts 80 = .ok (.aaload, 1) := by decide +kernel
theorem d_St_fillByParts_81 : decode b_St_fillByParts 81 = .ok (.iload 7, 2) := by decide +kernel
theorem d_St_fillByParts_83 : decode b_St_fillByParts 83 = .ok (.iaload, 1) := by decide +kernel
theorem d_St_fillByParts_84 : decode b_St_fillByParts 84 = .ok (.i2l, 1) := by decide +kernel
theorem d_St_fillByParts_85 : decode b_St_fillByParts 85 = .ok (.iload_n 3, 1) := by decide +kernel
theorem d_St_fillByParts_86 : decode b_St_fillByParts 86 = .ok (.i2l, 1) := by decide +kernel
theorem d_St_fillByParts_87 : decode b_St_fillByParts 87 = .ok (.lmul, 1) := by decide +kernel
theorem d_St_fillByParts_88 : decode b_St_fillByParts 88 = .ok (.ladd, 1) := by decide +kernel
theorem d_St_fillByParts_89 : decode b_St_fillByParts 89 = .ok (.aload_n 0, 1) := by decide +kernel
theorem d_St_fillByParts_90 : decode b_St_fillByParts 90 = .ok (.getfield 23, 3) := by decide +kernel
theorem d_St_fillByParts_93 : decode b_St_fillByParts 93 = .ok (.iload 7, 2) := by decide +kernel
theorem d_St_fillByParts_95 : decode b_St_fillByParts 95 = .ok (.iaload, 1) := by decide +kernel
theorem d_St_fillByParts_96 : decode b_St_fillByParts 96 = .ok (.i2l, 1) := by decide +kernel
theorem d_St_fillByParts_97 : decode b_St_fillByParts 97 = .ok (.invokevirtual 115, 3) := by decide +kernel
theorem d_St_fillByParts_100 : decode b_St_fillByParts 100 = .ok (.return_, 1) := by decide +kernel
theorem d_St_fillByParts_101 : decode b_St_fillByParts 101 = .ok (.iload_n 3, 1) := by decide +kernel
theorem d_St_fillByParts_102 : decode b_St_fillByParts 102 = .ok (.aload_n 0, 1) := by decide +kernel
theorem d_St_fillByParts_103 : decode b_St_fillByParts 103 = .ok (.getfield 23, 3) := by decide +kernel
theorem d_St_fillByParts_106 : decode b_St_fillByParts 106 = .ok (.iload 7, 2) := by decide +kernel
theorem d_St_fillByParts_108 : decode b_St_fillByParts 108 = .ok (.iaload, 1) := by decide +kernel
theorem d_St_fillByParts_109 : decode b_St_fillByParts 109 = .ok (.isub, 1) := by decide +kernel
theorem d_St_fillByParts_110 : decode b_St_fillByParts 110 = .ok (.istore_n 3, 1) := by decide +kernel
theorem d_St_fillByParts_111 : decode b_St_fillByParts 111 = .ok (.iload 5, 2) := by decide +kernel
theorem d_St_fillByParts_113 : decode b_St_fillByParts 113 = .ok (.aload_n 0, 1) := by decide +kernel
theorem d_St_fillByParts_114 : decode b_St_fillByParts 114 = .ok (.getfield 11, 3) := by decide +kernel
theorem d_St_fillByParts_117 : decode b_St_fillByParts 117 = .ok (.iload_n 1, 1) := by decide +kernel
theorem d_St_fillByParts_118 : decode b_St_fillByParts 118 = .ok (.aaload, 1) := by decide +kernel
theorem d_St_fillByParts_119 : decode b_St_fillByParts 119 = .ok (.iload 7, 2) := by decide +kernel
theorem d_St_fillByParts_121 : decode b_St_fillByParts 121 = .ok (.iaload, 1) := by decide +kernel
theorem d_St_fillByParts_122 : decode b_St_fillByParts 122 = .ok (.iadd, 1) := by decide +kernel
theorem d_St_fillByParts_123 : decode b_St_fillByParts 123 = .ok (.istore 5, 2) := by decide +kernel
theorem d_St_fillByParts_125 : decode b_St_fillByParts 125 = .ok (.iload 4, 2) := by decide +kernel
theorem d_St_fillByParts_127 : decode b_St_fillByParts 127 = .ok (.iconst 1, 1) := by decide +kernel
theorem d_St_fillByParts_128 : decode b_St_fillByParts 128 = .ok (.iload 7, 2) := by decide +kernel
theorem d_St_fillByParts_130 : decode b_St_fillByParts 130 = .ok (.ishl, 1) := by decide +kernel
theorem d_St_fillByParts_131 : decode b_St_fillByParts 131 = .ok (.iconst (-1), 1) := by decide +kernel
theorem d_St_fillByParts_132 : decode b_St_fillByParts 132 = .ok (.ixor, 1) := by decide +kernel
theorem d_St_fillByParts_133 : decode b_St_fillByParts 133 = .ok (.iand, 1) := by decide +kernel
theorem d_St_fillByParts_134 : decode b_St_fillByParts 134 = .ok (.istore 4, 2) := by decide +kernel
theorem d_St_fillByParts_136 : decode b_St_fillByParts 136 = .ok (.iinc 6 1, 3) := by decide +kernel
theorem d_St_fillByParts_139 : decode b_St_fillByParts 139 = .ok (.goto (-119), 3) := by decide +kernel
theorem d_St_fillByParts_142 : decode b_St_fillByParts 142 = .ok (.aload_n 2, 1) := by decide +kernel
theorem d_St_fillByParts_143 : decode b_St_fillByParts 143 = .ok (.iload 5, 2) := by decide +kernel
theorem d_St_fillByParts_145 : decode b_St_fillByParts 145 = .ok (.i2l, 1) := by decide +kernel
theorem d_St_fillByParts_146 : decode b_St_fillByParts 146 = .ok (.lconst 1, 1) := by decide +kernel
theorem d_St_fillByParts_147 : decode b_St_fillByParts 147 = .ok (.invokevirtual 115, 3) := by decide +kernel
theorem d_St_fillByParts_150 : decode b_St_fillByParts 150 = .ok (.return_, 1) := by decide +kernel
theorem o_St_fillByParts : OkV y_St_fillByParts "OwnsLift$Standing" b_St_fillByParts 8 none 2 := ⟨⟨rfl, by decide +kernel, by decide +kernel, by decide +kernel⟩, g_843, g_844, g_77, g_845⟩
set_option maxHeartbeats 4000000 in
set_option maxRecDepth 100000 in
theorem c_St_fillByParts (l : Launch) (D : va_G) (g : Nat → ClassId) (a : Nat → Nat) (b : Nat → Nat) (x1 : Int32) (z : T_St) (w : T_Fr) (v : T_Fr) (h : d_St_fillByParts x1 z w = some v) :
    MV l y_St_fillByParts b_St_fillByParts 8 ({ frames := 2, cells := 0, slots := 0, locals := 56 } : Room) D g [.ref (a 0), .int x1, .ref (b 0)] (ws_St g a z ++ ws_Fr g b w) (ws_St g a z ++ ws_Fr g b v) := by
  have hd := h
  unfold d_St_fillByParts at hd
  refine enterV rfl (Nat.le_of_ble_eq_true rfl) (fun p e s m below meth c A ls hx hb hml hr hown hg hlk hK hA hP hD hS hCs hl => ?_)
  have hown : s.vm.findClass "OwnsLift$Standing" = some m.cls := hown
  have hl : lv_has ls 8 [(0, .ref (a 0)), (1, .int x1), (2, .ref (b 0))] := hl
  show GV p l e s m ({ frames := 2, cells := 0, slots := 0, locals := 56 } : Room) ([.ref (a 0), .int x1, .ref (b 0)] : List Value).toArray below meth c A D g (ws_St g a z ++ ws_Fr g b v) s.heap [] (F0 m 0 ls [])
  refine lv_aload_n hx hb d_St_fillByParts_0 rfl (lv_at hl 0 rfl) ?_
  refine va_get (D := D) (ci := 9) (v := .ref (a 6)) (C := R_St) (T := F_St) (N := 7) hx hb hg i_St hown hK hP 0 rfl rfl 3 (by decide) (hg _ g_287) (fun _ h9 => h9) rfl d_St_fillByParts_1 ?_
  refine lv_iload_n hx hb d_St_fillByParts_4 rfl (lv_at hl 1 rfl) ?_
  obtain ⟨h_21, hd⟩ := ite_s hd
  refine ialdK hx hb hK hP 6 0 rfl rfl (inb_t h_21) rfl d_St_fillByParts_5 ?_
  refine lv_istore_n (lv' := [(3, .int ((q_St_lifts z) x1.toNatClampNeg)), (0, .ref (a 0)), (1, .int x1), (2, .ref (b 0))]) hx hb d_St_fillByParts_6 rfl hl (by decide) rfl (fun ls hl => ?_)
  refine lv_aload_n hx hb d_St_fillByParts_7 rfl (lv_at hl 1 rfl) ?_
  refine lv_iload_n hx hb d_St_fillByParts_8 rfl (lv_at hl 2 rfl) ?_
  obtain ⟨v_1, e_2, hd⟩ := bind_s hd
  refine callVI (ws' := ws_St g a z ++ ws_Fr g b w) (rest := []) (As := [.int x1]) hx hb hml hown hg hK hP hD hS hA hCs hl.1 (c_St_bits l D g a x1 z _ e_2) o_St_bits g_678 (ci := 9) (q0 := 0) rfl rfl (List.range' 0 10) (segC1 rfl rfl) (by decide) rfl (segP1 rfl rfl) rfl rfl (Nat.le_of_ble_eq_true rfl) ⟨rfl, rfl, Nat.le_of_ble_eq_true rfl, Nat.le_of_ble_eq_true rfl⟩ d_St_fillByParts_9 (fun H locs hP hD hS => ?_)
  refine lv_istore (lv' := [(4, .int v_1), (3, .int ((q_St_lifts z) x1.toNatClampNeg)), (0, .ref (a 0)), (1, .int x1), (2, .ref (b 0))]) hx hb d_St_fillByParts_12 hl (by decide) rfl (fun ls hl => ?_)
  refine lv_iconst (v := 0) hx hb d_St_fillByParts_14 (by decide) ?_
  refine lv_istore (lv' := [(5, .int 0), (4, .int v_1), (3, .int ((q_St_lifts z) x1.toNatClampNeg)), (0, .ref (a 0)), (1, .int x1), (2, .ref (b 0))]) hx hb d_St_fillByParts_15 hl (by decide) rfl (fun ls hl => ?_)
  refine lv_iconst (v := 0) hx hb d_St_fillByParts_17 (by decide) ?_
  refine lv_istore (lv' := [(6, .int 0), (5, .int 0), (4, .int v_1), (3, .int ((q_St_lifts z) x1.toNatClampNeg)), (0, .ref (a 0)), (1, .int x1), (2, .ref (b 0))]) hx hb d_St_fillByParts_18 hl (by decide) rfl (fun ls hl => ?_)
  have ex20_142 : ∀ (x5_20 : Int32) (H : Heap) (locs : List Loc) (ls : Array Slot), va_P D classes (ws_St g a z ++ ws_Fr g b w) H → va_D A (ws_St g a z ++ ws_Fr g b w) → va_S A s.heap H locs → lv_has ls 8 [(2, .ref (b 0)), (5, .int x5_20)] → ((d_Fr_put ((x5_20 : Int32).toInt64) 1 w).bind fun v_19 => some (v_19)) = some v → GV p l e s m ({ frames := 2, cells := 0, slots := 0, locals := 56 } : Room) ([.ref (a 0), .int x1, .ref (b 0)] : List Value).toArray below meth c A D g (ws_St g a z ++ ws_Fr g b v) H locs (F0 m 142 ls []) := by
    intro x5_20 H locs ls hP hD hS hl hd
    refine lv_aload_n hx hb d_St_fillByParts_142 rfl (lv_at hl 0 rfl) ?_
    refine lv_iload hx hb d_St_fillByParts_143 (lv_at hl 1 rfl) ?_
    refine lv_i2l hx hb d_St_fillByParts_145 rfl ?_
    refine lv_lconst (v := 1) hx hb d_St_fillByParts_146 (by decide) ?_
    obtain ⟨v_19, e_20, hd⟩ := bind_s hd
    refine callVV (ws' := ws_St g a z ++ ws_Fr g b v_19) (rest := []) (As := [.long ((x5_20 : Int32).toInt64), .long 1]) hx hb hml hown hg hK hP hD hS hA hCs hl.1 (c_Fr_put l D g b ((x5_20 : Int32).toInt64) 1 w _ e_20) o_Fr_put g_850 (ci := 3) (q0 := 10) rfl rfl (List.range' 10 1) (segC1 rfl rfl) (by decide) rfl (segP1 rfl rfl) rfl rfl (Nat.le_of_ble_eq_true rfl) ⟨rfl, rfl, Nat.le_of_ble_eq_true rfl, Nat.le_of_ble_eq_true rfl⟩ d_St_fillByParts_147 (fun H locs hP hD hS => ?_)
    obtain rfl := Option.some.inj hd
    exact retV hx hb hr hlk hK hP hD hS d_St_fillByParts_150
  have lp20 : ∀ (x1_f20 : Int32) (w_f20 : T_Fr) (k20_142 : Int32 → Option (T_Fr)) (hk20_142 : ∀ (x5_20 : Int32) (H : Heap) (locs : List Loc) (ls : Array Slot), va_P D classes (ws_St g a z ++ ws_Fr g b w_f20) H → va_D A (ws_St g a z ++ ws_Fr g b w_f20) → va_S A s.heap H locs → lv_has ls 8 [(2, .ref (b 0)), (5, .int x5_20)] → k20_142 x5_20 = some v → GV p l e s m ({ frames := 2, cells := 0, slots := 0, locals := 56 } : Room) ([.ref (a 0), .int x1, .ref (b 0)] : List Value).toArray below meth c A D g (ws_St g a z ++ ws_Fr g b v) H locs (F0 m 142 ls [])) (n : Nat) (x3_20 : Int32) (x4_20 : Int32) (x5_20 : Int32) (x6_20 : Int32) (H : Heap) (locs : List Loc) (ls : Array Slot), va_P D classes (ws_St g a z ++ ws_Fr g b w_f20) H → va_D A (ws_St g a z ++ ws_Fr g b w_f20) → va_S A s.heap H locs → lv_has ls 8 [(0, .ref (a 0)), (1, .int x1_f20), (2, .ref (b 0)), (3, .int x3_20), (4, .int x4_20), (5, .int x5_20), (6, .int x6_20)] → d_St_fillByParts_L20 x1_f20 z w_f20 k20_142 n x3_20 x4_20 x5_20 x6_20 = some v → GV p l e s m ({ frames := 2, cells := 0, slots := 0, locals := 56 } : Room) ([.ref (a 0), .int x1, .ref (b 0)] : List Value).toArray below meth c A D g (ws_St g a z ++ ws_Fr g b v) H locs (F0 m 20 ls []) := by
    intro x1_f20 w_f20 k20_142 hk20_142 n
    induction n with
    | zero =>
      intro  x3_20 x4_20 x5_20 x6_20 H locs ls hP hD hS hl hd
      have hd : none = some v := hd
      cases hd
    | succ n ih20 =>
      intro  x3_20 x4_20 x5_20 x6_20 H locs ls hP hD hS hl hd
      have hd : B_St_fillByParts_L20 x1_f20 z w_f20 k20_142 (d_St_fillByParts_L20 x1_f20 z w_f20 k20_142 n) x3_20 x4_20 x5_20 x6_20 = some v := hd
      generalize d_St_fillByParts_L20 x1_f20 z w_f20 k20_142 n = self20 at ih20 hd
      unfold B_St_fillByParts_L20 at hd
      refine lv_iload hx hb d_St_fillByParts_20 (lv_at hl 6 rfl) ?_
      refine lv_aload_n hx hb d_St_fillByParts_22 rfl (lv_at hl 0 rfl) ?_
      refine va_get (D := D) (ci := 9) (v := .int (q_St_things z)) (C := R_St) (T := F_St) (N := 7) hx hb hg i_St hown hK hP 0 rfl rfl 1 (by decide) (hg _ g_281) (fun _ h9 => h9) rfl d_St_fillByParts_23 ?_
      refine lv_icmp_ge (tgt := 142) hx hb d_St_fillByParts_26 (by decide) (fun h_3 => ?_) (fun h_3 => ?_)
      · have hd := ite_t hd h_3
        exact hk20_142 x5_20 _ _ _ hP hD hS (lv_sub hl [2, 5] rfl) hd
      · have hd := ite_f hd h_3
        refine lv_iload hx hb d_St_fillByParts_29 (lv_at hl 4 rfl) ?_
        refine lv_if_eq (tgt := 142) hx hb d_St_fillByParts_31 (by decide) (fun h_4 => ?_) (fun h_4 => ?_)
        · have hd := ite_t hd h_4
          exact hk20_142 x5_20 _ _ _ hP hD hS (lv_sub hl [2, 5] rfl) hd
        · have hd := ite_f hd h_4
          refine lv_aload_n hx hb d_St_fillByParts_34 rfl (lv_at hl 0 rfl) ?_
          refine lv_iload_n hx hb d_St_fillByParts_35 rfl (lv_at hl 1 rfl) ?_
          refine lv_iload hx hb d_St_fillByParts_36 (lv_at hl 4 rfl) ?_
          obtain ⟨v_5, e_6, hd⟩ := bind_s hd
          refine callVI (ws' := ws_St g a z ++ ws_Fr g b w_f20) (rest := []) (As := [.int x1_f20, .int x4_20]) hx hb hml hown hg hK hP hD hS hA hCs hl.1 (c_St_dearestOf l D g a x1_f20 x4_20 z _ e_6) o_St_dearestOf g_846 (ci := 9) (q0 := 0) rfl rfl (List.range' 0 10) (segC1 rfl rfl) (by decide) rfl (segP1 rfl rfl) rfl rfl (Nat.le_of_ble_eq_true rfl) ⟨rfl, rfl, Nat.le_of_ble_eq_true rfl, Nat.le_of_ble_eq_true rfl⟩ d_St_fillByParts_38 (fun H locs hP hD hS => ?_)
          refine lv_istore (lv' := [(7, .int v_5), (0, .ref (a 0)), (1, .int x1_f20), (2, .ref (b 0)), (3, .int x3_20), (4, .int x4_20), (5, .int x5_20), (6, .int x6_20)]) hx hb d_St_fillByParts_41 hl (by decide) rfl (fun ls hl => ?_)
          refine lv_iload hx hb d_St_fillByParts_43 (lv_at hl 0 rfl) ?_
          refine lv_if_ge (tgt := 51) hx hb d_St_fillByParts_45 (by decide) (fun h_7 => ?_) (fun h_7 => ?_)
          · have hd := ite_t hd h_7
            refine lv_aload_n hx hb d_St_fillByParts_51 rfl (lv_at hl 1 rfl) ?_
            refine va_get (D := D) (ci := 9) (v := .ref (a 8)) (C := R_St) (T := F_St) (N := 7) hx hb hg i_St hown hK hP 0 rfl rfl 5 (by decide) (hg _ g_294) (fun _ h9 => h9) rfl d_St_fillByParts_52 ?_
            refine lv_iload hx hb d_St_fillByParts_55 (lv_at hl 0 rfl) ?_
            obtain ⟨h_18, hd⟩ := ite_s hd
            refine ialdK hx hb hK hP 8 0 rfl rfl (inb_t h_18) rfl d_St_fillByParts_57 ?_
            refine lv_iload_n hx hb d_St_fillByParts_58 rfl (lv_at hl 4 rfl) ?_
            refine lv_icmp_le (tgt := 101) hx hb d_St_fillByParts_59 (by decide) (fun h_8 => ?_) (fun h_8 => ?_)
            · have hd := ite_t hd h_8
              refine lv_iload_n hx hb d_St_fillByParts_101 rfl (lv_at hl 4 rfl) ?_
              refine lv_aload_n hx hb d_St_fillByParts_102 rfl (lv_at hl 1 rfl) ?_
              refine va_get (D := D) (ci := 9) (v := .ref (a 8)) (C := R_St) (T := F_St) (N := 7) hx hb hg i_St hown hK hP 0 rfl rfl 5 (by decide) (hg _ g_294) (fun _ h9 => h9) rfl d_St_fillByParts_103 ?_
              refine lv_iload hx hb d_St_fillByParts_106 (lv_at hl 0 rfl) ?_
              obtain ⟨h_11, hd⟩ := ite_s hd
              refine ialdK hx hb hK hP 8 0 rfl rfl (inb_t h_11) rfl d_St_fillByParts_108 ?_
              refine lv_isub hx hb d_St_fillByParts_109 ?_
              refine lv_istore_n (lv' := [(3, .int (x3_20 - ((q_St_weight z) v_5.toNatClampNeg))), (7, .int v_5), (0, .ref (a 0)), (1, .int x1_f20), (2, .ref (b 0)), (4, .int x4_20), (5, .int x5_20), (6, .int x6_20)]) hx hb d_St_fillByParts_110 rfl hl (by decide) rfl (fun ls hl => ?_)
              refine lv_iload hx hb d_St_fillByParts_111 (lv_at hl 6 rfl) ?_
              refine lv_aload_n hx hb d_St_fillByParts_113 rfl (lv_at hl 2 rfl) ?_
              refine va_get (D := D) (ci := 9) (v := .ref (a 1)) (C := R_St) (T := F_St) (N := 7) hx hb hg i_St hown hK hP 0 rfl rfl 2 (by decide) (hg _ g_284) (fun _ h9 => h9) rfl d_St_fillByParts_114 ?_
              refine lv_iload_n hx hb d_St_fillByParts_117 rfl (lv_at hl 3 rfl) ?_
              obtain ⟨h_9, hd⟩ := ite_s hd
              refine aldA hx hb hK hP 1 rfl (inb_t h_9) d_St_fillByParts_118 ?_
              refine lv_iload hx hb d_St_fillByParts_119 (lv_at hl 1 rfl) ?_
              obtain ⟨h_10, hd⟩ := ite_s hd
              refine ialdK hx hb hK hP (2 + x1_f20.toNatClampNeg) 0 ((show ∀ k, k < 4 → (ws_St g a z ++ ws_Fr g b w_f20)[2 + k]? = some (a (k + 2), .inl (g 0, 7, .inl ((q_St_like z) k))) from fun k hk => match k, hk with | 0, _ => rfl | 1, _ => rfl | 2, _ => rfl | 3, _ => rfl | k + 4, hk => absurd hk (by omega)) _ (vp_lt (inb_t h_9))) rfl (inb_t h_10) rfl d_St_fillByParts_121 ?_
              refine lv_iadd hx hb d_St_fillByParts_122 ?_
              refine lv_istore (lv' := [(5, .int (x5_20 + ((q_St_like z) x1_f20.toNatClampNeg v_5.toNatClampNeg))), (3, .int (x3_20 - ((q_St_weight z) v_5.toNatClampNeg))), (7, .int v_5), (0, .ref (a 0)), (1, .int x1_f20), (2, .ref (b 0)), (4, .int x4_20), (6, .int x6_20)]) hx hb d_St_fillByParts_123 hl (by decide) rfl (fun ls hl => ?_)
              refine lv_iload hx hb d_St_fillByParts_125 (lv_at hl 6 rfl) ?_
              refine lv_iconst (v := 1) hx hb d_St_fillByParts_127 (by decide) ?_
              refine lv_iload hx hb d_St_fillByParts_128 (lv_at hl 2 rfl) ?_
              refine lv_ishl hx hb d_St_fillByParts_130 ?_
              refine lv_iconst (v := (-1)) hx hb d_St_fillByParts_131 (by decide) ?_
              refine lv_ixor hx hb d_St_fillByParts_132 ?_
              refine lv_iand hx hb d_St_fillByParts_133 ?_
              refine lv_istore (lv' := [(4, .int (x4_20 &&& (((1 : Int32) <<< (v_5 &&& 31)) ^^^ (-1)))), (5, .int (x5_20 + ((q_St_like z) x1_f20.toNatClampNeg v_5.toNatClampNeg))), (3, .int (x3_20 - ((q_St_weight z) v_5.toNatClampNeg))), (7, .int v_5), (0, .ref (a 0)), (1, .int x1_f20), (2, .ref (b 0)), (6, .int x6_20)]) hx hb d_St_fillByParts_134 hl (by decide) rfl (fun ls hl => ?_)
              refine lv_iinc (v := x6_20 + 1) (lv' := [(6, .int (x6_20 + 1)), (4, .int (x4_20 &&& (((1 : Int32) <<< (v_5 &&& 31)) ^^^ (-1)))), (5, .int (x5_20 + ((q_St_like z) x1_f20.toNatClampNeg v_5.toNatClampNeg))), (3, .int (x3_20 - ((q_St_weight z) v_5.toNatClampNeg))), (7, .int v_5), (0, .ref (a 0)), (1, .int x1_f20), (2, .ref (b 0))]) hx hb d_St_fillByParts_136 hl (k := 7) rfl (by rfl) (by decide) rfl (fun ls hl => ?_)
              refine lv_goto (tgt := 20) hx hb d_St_fillByParts_139 (by decide) ?_
              exact ih20 (x3_20 - ((q_St_weight z) v_5.toNatClampNeg)) (x4_20 &&& (((1 : Int32) <<< (v_5 &&& 31)) ^^^ (-1))) (x5_20 + ((q_St_like z) x1_f20.toNatClampNeg v_5.toNatClampNeg)) (x6_20 + 1) _ _ _ hP hD hS (lv_sub hl [5, 6, 7, 3, 1, 2, 0] rfl) hd
            · have hd := ite_f hd h_8
              refine lv_aload_n hx hb d_St_fillByParts_62 rfl (lv_at hl 3 rfl) ?_
              refine lv_iload hx hb d_St_fillByParts_63 (lv_at hl 6 rfl) ?_
              refine lv_i2l hx hb d_St_fillByParts_65 rfl ?_
              refine lv_aload_n hx hb d_St_fillByParts_66 rfl (lv_at hl 1 rfl) ?_
              refine va_get (D := D) (ci := 9) (v := .ref (a 8)) (C := R_St) (T := F_St) (N := 7) hx hb hg i_St hown hK hP 0 rfl rfl 5 (by decide) (hg _ g_294) (fun _ h9 => h9) rfl d_St_fillByParts_67 ?_
              refine lv_iload hx hb d_St_fillByParts_70 (lv_at hl 0 rfl) ?_
              obtain ⟨h_17, hd⟩ := ite_s hd
              refine ialdK hx hb hK hP 8 0 rfl rfl (inb_t h_17) rfl d_St_fillByParts_72 ?_
              refine lv_i2l hx hb d_St_fillByParts_73 rfl ?_
              refine lv_lmul hx hb d_St_fillByParts_74 ?_
              refine lv_aload_n hx hb d_St_fillByParts_75 rfl (lv_at hl 1 rfl) ?_
              refine va_get (D := D) (ci := 9) (v := .ref (a 1)) (C := R_St) (T := F_St) (N := 7) hx hb hg i_St hown hK hP 0 rfl rfl 2 (by decide) (hg _ g_284) (fun _ h9 => h9) rfl d_St_fillByParts_76 ?_
              refine lv_iload_n hx hb d_St_fillByParts_79 rfl (lv_at hl 2 rfl) ?_
              obtain ⟨h_12, hd⟩ := ite_s hd
              refine aldA hx hb hK hP 1 rfl (inb_t h_12) d_St_fillByParts_80 ?_
              refine lv_iload hx hb d_St_fillByParts_81 (lv_at hl 0 rfl) ?_
              obtain ⟨h_13, hd⟩ := ite_s hd
              refine ialdK hx hb hK hP (2 + x1_f20.toNatClampNeg) 0 ((show ∀ k, k < 4 → (ws_St g a z ++ ws_Fr g b w_f20)[2 + k]? = some (a (k + 2), .inl (g 0, 7, .inl ((q_St_like z) k))) from fun k hk => match k, hk with | 0, _ => rfl | 1, _ => rfl | 2, _ => rfl | 3, _ => rfl | k + 4, hk => absurd hk (by omega)) _ (vp_lt (inb_t h_12))) rfl (inb_t h_13) rfl d_St_fillByParts_83 ?_
              refine lv_i2l hx hb d_St_fillByParts_84 rfl ?_
              refine lv_iload_n hx hb d_St_fillByParts_85 rfl (lv_at hl 4 rfl) ?_
              refine lv_i2l hx hb d_St_fillByParts_86 rfl ?_
              refine lv_lmul hx hb d_St_fillByParts_87 ?_
              refine lv_ladd hx hb d_St_fillByParts_88 ?_
              refine lv_aload_n hx hb d_St_fillByParts_89 rfl (lv_at hl 1 rfl) ?_
              refine va_get (D := D) (ci := 9) (v := .ref (a 8)) (C := R_St) (T := F_St) (N := 7) hx hb hg i_St hown hK hP 0 rfl rfl 5 (by decide) (hg _ g_294) (fun _ h9 => h9) rfl d_St_fillByParts_90 ?_
              refine lv_iload hx hb d_St_fillByParts_93 (lv_at hl 0 rfl) ?_
              obtain ⟨h_16, hd⟩ := ite_s hd
              refine ialdK hx hb hK hP 8 0 rfl rfl (inb_t h_16) rfl d_St_fillByParts_95 ?_
              refine lv_i2l hx hb d_St_fillByParts_96 rfl ?_
              obtain ⟨v_14, e_15, hd⟩ := bind_s hd
              refine callVV (ws' := ws_St g a z ++ ws_Fr g b v_14) (rest := []) (As := [.long ((((x5_20 : Int32).toInt64) * (((q_St_weight z) v_5.toNatClampNeg : Int32).toInt64)) + ((((q_St_like z) x1_f20.toNatClampNeg v_5.toNatClampNeg : Int32).toInt64) * ((x3_20 : Int32).toInt64))), .long (((q_St_weight z) v_5.toNatClampNeg : Int32).toInt64)]) hx hb hml hown hg hK hP hD hS hA hCs hl.1 (c_Fr_put l D g b ((((x5_20 : Int32).toInt64) * (((q_St_weight z) v_5.toNatClampNeg : Int32).toInt64)) + ((((q_St_like z) x1_f20.toNatClampNeg v_5.toNatClampNeg : Int32).toInt64) * ((x3_20 : Int32).toInt64))) (((q_St_weight z) v_5.toNatClampNeg : Int32).toInt64) w_f20 _ e_15) o_Fr_put g_850 (ci := 3) (q0 := 10) rfl rfl (List.range' 10 1) (segC1 rfl rfl) (by decide) rfl (segP1 rfl rfl) rfl rfl (Nat.le_of_ble_eq_true rfl) ⟨rfl, rfl, Nat.le_of_ble_eq_true rfl, Nat.le_of_ble_eq_true rfl⟩ d_St_fillByParts_97 (fun H locs hP hD hS => ?_)
              obtain rfl := Option.some.inj hd
              exact retV hx hb hr hlk hK hP hD hS d_St_fillByParts_100
          · have hd := ite_f hd h_7
            refine lv_goto (tgt := 142) hx hb d_St_fillByParts_48 (by decide) ?_
            exact hk20_142 x5_20 _ _ _ hP hD hS (lv_sub hl [3, 6] rfl) hd
  exact lp20 x1 w _ ex20_142 1000 ((q_St_lifts z) x1.toNatClampNeg) v_1 0 0 _ _ _ hP hD hS (lv_sub hl [4, 5, 6, 3, 2, 1, 0] rfl) hd
-- OwnsLift$Standing.weighOdds(LOwnsLift$Fraction;)V
def B_St_weighOdds_L8 (z : T_St) (w_f8 : T_Fr) (self8 : Int64 → Int64 → Int32 → Option (T_Fr)) (x2_8 : Int64) (x4_8 : Int64) (x6_8 : Int32) : Option (T_Fr) :=
  if (q_St_people z) ≤ x6_8 then ((d_Fr_put x2_8 x4_8 w_f8).bind fun v_2 => some (v_2)) else ((d_St_load x6_8 z).bind fun v_4 => if inb x6_8 4 = true then (if ((q_St_lifts z) x6_8.toNatClampNeg) < v_4 then (if inb x6_8 4 = true then (if (((q_St_lifts z) x6_8.toNatClampNeg) / 2) < v_4 then (self8 (x2_8 * ((0 + 0 : Int32).toInt64)) (x4_8 * 10) (x6_8 + 1)) else (if inb x6_8 4 = true then (self8 (x2_8 * ((0 + ((q_St_ill z) x6_8.toNatClampNeg) : Int32).toInt64)) (x4_8 * 10) (x6_8 + 1)) else none)) else none) else (if inb x6_8 4 = true then (if inb x6_8 4 = true then (if (((q_St_lifts z) x6_8.toNatClampNeg) / 2) < v_4 then (self8 (x2_8 * (((10 - ((q_St_ill z) x6_8.toNatClampNeg)) + 0 : Int32).toInt64)) (x4_8 * 10) (x6_8 + 1)) else (if inb x6_8 4 = true then (self8 (x2_8 * (((10 - ((q_St_ill z) x6_8.toNatClampNeg)) + ((q_St_ill z) x6_8.toNatClampNeg) : Int32).toInt64)) (x4_8 * 10) (x6_8 + 1)) else none)) else none) else none)) else none)
def d_St_weighOdds_L8 (z : T_St) (w_f8 : T_Fr) (n : Nat) : Int64 → Int64 → Int32 → Option (T_Fr) := recN (fun _ _ _ => none) (fun self => B_St_weighOdds_L8 z w_f8 self) n
def d_St_weighOdds (z : T_St) (w : T_Fr) : Option (T_Fr) :=
  d_St_weighOdds_L8 z w  1000 1 1 0
theorem d_St_weighOdds_0 : decode b_St_weighOdds 0 = .ok (.lconst 1, 1) := by decide +kernel
theorem d_St_weighOdds_1 : decode b_St_weighOdds 1 = .ok (.lstore_n 2, 1) := by decide +kernel
theorem d_St_weighOdds_2 : decode b_St_weighOdds 2 = .ok (.lconst 1, 1) := by decide +kernel
theorem d_St_weighOdds_3 : decode b_St_weighOdds 3 = .ok (.lstore 4, 2) := by decide +kernel
theorem d_St_weighOdds_5 : decode b_St_weighOdds 5 = .ok (.iconst 0, 1) := by decide +kernel
theorem d_St_weighOdds_6 : decode b_St_weighOdds 6 = .ok (.istore 6, 2) := by decide +kernel
theorem d_St_weighOdds_8 : decode b_St_weighOdds 8 = .ok (.iload 6, 2) := by decide +kernel
theorem d_St_weighOdds_10 : decode b_St_weighOdds 10 = .ok (.aload_n 0, 1) := by decide +kernel
theorem d_St_weighOdds_11 : decode b_St_weighOdds 11 = .ok (.getfield 41, 3) := by decide +kernel
theorem d_St_weighOdds_14 : decode b_St_weighOdds 14 = .ok (.if_icmp .ge 89, 3) := by decide +kernel
theorem d_St_weighOdds_17 : decode b_St_weighOdds 17 = .ok (.aload_n 0, 1) := by decide +kernel
theorem d_St_weighOdds_18 : decode b_St_weighOdds 18 = .ok (.iload 6, 2) := by decide +kernel
theorem d_St_weighOdds_20 : decode b_St_weighOdds 20 = .ok (.invokevirtual 77, 3) := by decide +kernel
theorem d_St_weighOdds_23 : decode b_St_weighOdds 23 = .ok (.istore 7, 2) := by decide +kernel
theorem d_St_weighOdds_25 : decode b_St_weighOdds 25 = .ok (.iload 7, 2) := by decide +kernel
theorem d_St_weighOdds_27 : decode b_St_weighOdds 27 = .ok (.aload_n 0, 1) := by decide +kernel
theorem d_St_weighOdds_28 : decode b_St_weighOdds 28 = .ok (.getfield 16, 3) := by decide +kernel
theorem d_St_weighOdds_31 : decode b_St_weighOdds 31 = .ok (.iload 6, 2) := by decide +kernel
theorem d_St_weighOdds_33 : decode b_St_weighOdds 33 = .ok (.iaload, 1) := by decide +kernel
theorem d_St_weighOdds_34 : decode b_St_weighOdds 34 = .ok (.if_icmp .gt 16, 3) := by decide +kernel
theorem d_St_weighOdds_37 : decode b_St_weighOdds 37 = .ok (.bipush 10, 2) := by decide +kernel
theorem d_St_weighOdds_39 : decode b_St_weighOdds 39 = .ok (.aload_n 0, 1) := by decide +kernel
theorem d_St_weighOdds_40 : decode b_St_weighOdds 40 = .ok (.getfield 20, 3) := by decide +kernel
theorem d_St_weighOdds_43 : decode b_St_weighOdds 43 = .ok (.iload 6, 2) := by decide +kernel
theorem d_St_weighOdds_45 : decode b_St_weighOdds 45 = .ok (.iaload, 1) := by decide +kernel
theorem d_St_weighOdds_46 : decode b_St_weighOdds 46 = .ok (.isub, 1) := by decide +kernel
theorem d_St_weighOdds_47 : decode b_St_weighOdds 47 = .ok (.goto 4, 3) := by decide +kernel
theorem d_St_weighOdds_50 : decode b_St_weighOdds 50 = .ok (.iconst 0, 1) := by decide +kernel
theorem d_St_weighOdds_51 : decode b_St_weighOdds 51 = .ok (.istore 8, 2) := by decide +kernel
theorem d_St_weighOdds_53 : decode b_St_weighOdds 53 = .ok (.iload 7, 2) := by decide +kernel
theorem d_St_weighOdds_55 : decode b_St_weighOdds 55 = .ok (.aload_n 0, 1) := by decide +kernel
theorem d_St_weighOdds_56 : decode b_St_weighOdds 56 = .ok (.getfield 16, 3) := by decide +kernel
theorem d_St_weighOdds_59 : decode b_St_weighOdds 59 = .ok (.iload 6, 2) := by decide +kernel
theorem d_St_weighOdds_61 : decode b_St_weighOdds 61 = .ok (.iaload, 1) := by decide +kernel
theorem d_St_weighOdds_62 : decode b_St_weighOdds 62 = .ok (.iconst 2, 1) := by decide +kernel
theorem d_St_weighOdds_63 : decode b_St_weighOdds 63 = .ok (.idiv, 1) := by decide +kernel
theorem d_St_weighOdds_64 : decode b_St_weighOdds 64 = .ok (.if_icmp .gt 13, 3) := by decide +kernel
theorem d_St_weighOdds_67 : decode b_St_weighOdds 67 = .ok (.aload_n 0, 1) := by decide +kernel
theorem d_St_weighOdds_68 : decode b_St_weighOdds 68 = .ok (.getfield 20, 3) := by decide +kernel
theorem d_St_weighOdds_71 : decode b_St_weighOdds 71 = .ok (.iload 6, 2) := by decide +kernel
theorem d_St_weighOdds_73 : decode b_St_weighOdds 73 = .ok (.iaload, 1) := by decide +kernel
theorem d_St_weighOdds_74 : decode b_St_weighOdds 74 = .ok (.goto 4, 3) := by decide +kernel
theorem d_St_weighOdds_77 : decode b_St_weighOdds 77 = .ok (.iconst 0, 1) := by decide +kernel
theorem d_St_weighOdds_78 : decode b_St_weighOdds 78 = .ok (.istore 9, 2) := by decide +kernel
theorem d_St_weighOdds_80 : decode b_St_weighOdds 80 = .ok (.lload_n 2, 1) := by decide +kernel
theorem d_St_weighOdds_81 : decode b_St_weighOdds 81 = .ok (.iload 8, 2) := by decide +kernel
theorem d_St_weighOdds_83 : decode b_St_weighOdds 83 = .ok (.iload 9, 2) := by decide +kernel
theorem d_St_weighOdds_85 : decode b_St_weighOdds 85 = .ok (.iadd, 1) := by decide +kernel
theorem d_St_weighOdds_86 : decode b_St_weighOdds 86 = .ok (.i2l, 1) := by decide +kernel
theorem d_St_weighOdds_87 : decode b_St_weighOdds 87 = .ok (.lmul, 1) := by decide +kernel
theorem d_St_weighOdds_88 : decode b_St_weighOdds 88 = .ok (.lstore_n 2, 1) := by decide +kernel
theorem d_St_weighOdds_89 : decode b_St_weighOdds 89 = .ok (.lload 4, 2) := by decide +kernel
theorem d_St_weighOdds_91 : decode b_St_weighOdds 91 = .ok (.ldc2_w 121, 3) := by decide +kernel
theorem d_St_weighOdds_94 : decode b_St_weighOdds 94 = .ok (.lmul, 1) := by decide +kernel
theorem d_St_weighOdds_95 : decode b_St_weighOdds 95 = .ok (.lstore 4, 2) := by decide +kernel
theorem d_St_weighOdds_97 : decode b_St_weighOdds 97 = .ok (.iinc 6 1, 3) := by decide +kernel
theorem d_St_weighOdds_100 : decode b_St_weighOdds 100 = .ok (.goto (-92), 3) := by decide +kernel
theorem d_St_weighOdds_103 : decode b_St_weighOdds 103 = .ok (.aload_n 1, 1) := by decide +kernel
theorem d_St_weighOdds_104 : decode b_St_weighOdds 104 = .ok (.lload_n 2, 1) := by decide +kernel
theorem d_St_weighOdds_105 : decode b_St_weighOdds 105 = .ok (.lload 4, 2) := by decide +kernel
theorem d_St_weighOdds_107 : decode b_St_weighOdds 107 = .ok (.invokevirtual 115, 3) := by decide +kernel
theorem d_St_weighOdds_110 : decode b_St_weighOdds 110 = .ok (.return_, 1) := by decide +kernel
theorem o_St_weighOdds : OkV y_St_weighOdds "OwnsLift$Standing" b_St_weighOdds 10 none 1 := ⟨⟨rfl, by decide +kernel, by decide +kernel, by decide +kernel⟩, g_910, g_911, g_77, g_912⟩
set_option maxHeartbeats 4000000 in
set_option maxRecDepth 100000 in
theorem c_St_weighOdds (l : Launch) (D : va_G) (g : Nat → ClassId) (a : Nat → Nat) (b : Nat → Nat) (z : T_St) (w : T_Fr) (v : T_Fr) (h : d_St_weighOdds z w = some v) :
    MV l y_St_weighOdds b_St_weighOdds 10 ({ frames := 2, cells := 0, slots := 0, locals := 56 } : Room) D g [.ref (a 0), .ref (b 0)] (ws_St g a z ++ ws_Fr g b w) (ws_St g a z ++ ws_Fr g b v) := by
  have hd := h
  unfold d_St_weighOdds at hd
  refine enterV rfl (Nat.le_of_ble_eq_true rfl) (fun p e s m below meth c A ls hx hb hml hr hown hg hlk hK hA hP hD hS hCs hl => ?_)
  have hown : s.vm.findClass "OwnsLift$Standing" = some m.cls := hown
  have hl : lv_has ls 10 [(0, .ref (a 0)), (1, .ref (b 0))] := hl
  show GV p l e s m ({ frames := 2, cells := 0, slots := 0, locals := 56 } : Room) ([.ref (a 0), .ref (b 0)] : List Value).toArray below meth c A D g (ws_St g a z ++ ws_Fr g b v) s.heap [] (F0 m 0 ls [])
  refine lv_lconst (v := 1) hx hb d_St_weighOdds_0 (by decide) ?_
  refine lv_lstore_n (lv' := [(2, .long 1), (0, .ref (a 0)), (1, .ref (b 0))]) hx hb d_St_weighOdds_1 rfl hl (by decide) rfl (fun ls hl => ?_)
  refine lv_lconst (v := 1) hx hb d_St_weighOdds_2 (by decide) ?_
  refine lv_lstore (lv' := [(4, .long 1), (2, .long 1), (0, .ref (a 0)), (1, .ref (b 0))]) hx hb d_St_weighOdds_3 hl (by decide) rfl (fun ls hl => ?_)
  refine lv_iconst (v := 0) hx hb d_St_weighOdds_5 (by decide) ?_
  refine lv_istore (lv' := [(6, .int 0), (4, .long 1), (2, .long 1), (0, .ref (a 0)), (1, .ref (b 0))]) hx hb d_St_weighOdds_6 hl (by decide) rfl (fun ls hl => ?_)
  have lp8 : ∀ (w_f8 : T_Fr) (n : Nat) (x2_8 : Int64) (x4_8 : Int64) (x6_8 : Int32) (H : Heap) (locs : List Loc) (ls : Array Slot), va_P D classes (ws_St g a z ++ ws_Fr g b w_f8) H → va_D A (ws_St g a z ++ ws_Fr g b w_f8) → va_S A s.heap H locs → lv_has ls 10 [(0, .ref (a 0)), (1, .ref (b 0)), (2, .long x2_8), (4, .long x4_8), (6, .int x6_8)] → d_St_weighOdds_L8 z w_f8 n x2_8 x4_8 x6_8 = some v → GV p l e s m ({ frames := 2, cells := 0, slots := 0, locals := 56 } : Room) ([.ref (a 0), .ref (b 0)] : List Value).toArray below meth c A D g (ws_St g a z ++ ws_Fr g b v) H locs (F0 m 8 ls []) := by
    intro w_f8 n
    induction n with
    | zero =>
      intro  x2_8 x4_8 x6_8 H locs ls hP hD hS hl hd
      have hd : none = some v := hd
      cases hd
    | succ n ih8 =>
      intro  x2_8 x4_8 x6_8 H locs ls hP hD hS hl hd
      have hd : B_St_weighOdds_L8 z w_f8 (d_St_weighOdds_L8 z w_f8 n) x2_8 x4_8 x6_8 = some v := hd
      generalize d_St_weighOdds_L8 z w_f8 n = self8 at ih8 hd
      unfold B_St_weighOdds_L8 at hd
      refine lv_iload hx hb d_St_weighOdds_8 (lv_at hl 4 rfl) ?_
      refine lv_aload_n hx hb d_St_weighOdds_10 rfl (lv_at hl 0 rfl) ?_
      refine va_get (D := D) (ci := 9) (v := .int (q_St_people z)) (C := R_St) (T := F_St) (N := 7) hx hb hg i_St hown hK hP 0 rfl rfl 0 (by decide) (hg _ g_278) (fun _ h9 => h9) rfl d_St_weighOdds_11 ?_
      refine lv_icmp_ge (tgt := 103) hx hb d_St_weighOdds_14 (by decide) (fun h_1 => ?_) (fun h_1 => ?_)
      · have hd := ite_t hd h_1
        refine lv_aload_n hx hb d_St_weighOdds_103 rfl (lv_at hl 1 rfl) ?_
        refine lv_lload_n hx hb d_St_weighOdds_104 rfl (lv_at hl 2 rfl) ?_
        refine lv_lload hx hb d_St_weighOdds_105 (lv_at hl 3 rfl) ?_
        obtain ⟨v_2, e_3, hd⟩ := bind_s hd
        refine callVV (ws' := ws_St g a z ++ ws_Fr g b v_2) (rest := []) (As := [.long x2_8, .long x4_8]) hx hb hml hown hg hK hP hD hS hA hCs hl.1 (c_Fr_put l D g b x2_8 x4_8 w_f8 _ e_3) o_Fr_put g_850 (ci := 3) (q0 := 10) rfl rfl (List.range' 10 1) (segC1 rfl rfl) (by decide) rfl (segP1 rfl rfl) rfl rfl (Nat.le_of_ble_eq_true rfl) ⟨rfl, rfl, Nat.le_of_ble_eq_true rfl, Nat.le_of_ble_eq_true rfl⟩ d_St_weighOdds_107 (fun H locs hP hD hS => ?_)
        obtain rfl := Option.some.inj hd
        exact retV hx hb hr hlk hK hP hD hS d_St_weighOdds_110
      · have hd := ite_f hd h_1
        refine lv_aload_n hx hb d_St_weighOdds_17 rfl (lv_at hl 0 rfl) ?_
        refine lv_iload hx hb d_St_weighOdds_18 (lv_at hl 4 rfl) ?_
        obtain ⟨v_4, e_5, hd⟩ := bind_s hd
        refine callVI (ws' := ws_St g a z ++ ws_Fr g b w_f8) (rest := []) (As := [.int x6_8]) hx hb hml hown hg hK hP hD hS hA hCs hl.1 (c_St_load l D g a x6_8 z _ e_5) o_St_load g_690 (ci := 9) (q0 := 0) rfl rfl (List.range' 0 10) (segC1 rfl rfl) (by decide) rfl (segP1 rfl rfl) rfl rfl (Nat.le_of_ble_eq_true rfl) ⟨rfl, rfl, Nat.le_of_ble_eq_true rfl, Nat.le_of_ble_eq_true rfl⟩ d_St_weighOdds_20 (fun H locs hP hD hS => ?_)
        refine lv_istore (lv' := [(7, .int v_4), (0, .ref (a 0)), (1, .ref (b 0)), (2, .long x2_8), (4, .long x4_8), (6, .int x6_8)]) hx hb d_St_weighOdds_23 hl (by decide) rfl (fun ls hl => ?_)
        refine lv_iload hx hb d_St_weighOdds_25 (lv_at hl 0 rfl) ?_
        refine lv_aload_n hx hb d_St_weighOdds_27 rfl (lv_at hl 1 rfl) ?_
        refine va_get (D := D) (ci := 9) (v := .ref (a 6)) (C := R_St) (T := F_St) (N := 7) hx hb hg i_St hown hK hP 0 rfl rfl 3 (by decide) (hg _ g_287) (fun _ h9 => h9) rfl d_St_weighOdds_28 ?_
        refine lv_iload hx hb d_St_weighOdds_31 (lv_at hl 5 rfl) ?_
        obtain ⟨h_14, hd⟩ := ite_s hd
        refine ialdK hx hb hK hP 6 0 rfl rfl (inb_t h_14) rfl d_St_weighOdds_33 ?_
        refine lv_icmp_gt (tgt := 50) hx hb d_St_weighOdds_34 (by decide) (fun h_6 => ?_) (fun h_6 => ?_)
        · have hd := ite_t hd h_6
          refine lv_iconst (v := 0) hx hb d_St_weighOdds_50 (by decide) ?_
          refine lv_istore (lv' := [(8, .int 0), (7, .int v_4), (0, .ref (a 0)), (1, .ref (b 0)), (2, .long x2_8), (4, .long x4_8), (6, .int x6_8)]) hx hb d_St_weighOdds_51 hl (by decide) rfl (fun ls hl => ?_)
          refine lv_iload hx hb d_St_weighOdds_53 (lv_at hl 1 rfl) ?_
          refine lv_aload_n hx hb d_St_weighOdds_55 rfl (lv_at hl 2 rfl) ?_
          refine va_get (D := D) (ci := 9) (v := .ref (a 6)) (C := R_St) (T := F_St) (N := 7) hx hb hg i_St hown hK hP 0 rfl rfl 3 (by decide) (hg _ g_287) (fun _ h9 => h9) rfl d_St_weighOdds_56 ?_
          refine lv_iload hx hb d_St_weighOdds_59 (lv_at hl 6 rfl) ?_
          obtain ⟨h_9, hd⟩ := ite_s hd
          refine ialdK hx hb hK hP 6 0 rfl rfl (inb_t h_9) rfl d_St_weighOdds_61 ?_
          refine lv_iconst (v := 2) hx hb d_St_weighOdds_62 (by decide) ?_
          refine lv_idiv hx hb d_St_weighOdds_63 (by decide) ?_
          refine lv_icmp_gt (tgt := 77) hx hb d_St_weighOdds_64 (by decide) (fun h_7 => ?_) (fun h_7 => ?_)
          · have hd := ite_t hd h_7
            refine lv_iconst (v := 0) hx hb d_St_weighOdds_77 (by decide) ?_
            refine lv_istore (lv' := [(9, .int 0), (8, .int 0), (7, .int v_4), (0, .ref (a 0)), (1, .ref (b 0)), (2, .long x2_8), (4, .long x4_8), (6, .int x6_8)]) hx hb d_St_weighOdds_78 hl (by decide) rfl (fun ls hl => ?_)
            refine lv_lload_n hx hb d_St_weighOdds_80 rfl (lv_at hl 5 rfl) ?_
            refine lv_iload hx hb d_St_weighOdds_81 (lv_at hl 1 rfl) ?_
            refine lv_iload hx hb d_St_weighOdds_83 (lv_at hl 0 rfl) ?_
            refine lv_iadd hx hb d_St_weighOdds_85 ?_
            refine lv_i2l hx hb d_St_weighOdds_86 rfl ?_
            refine lv_lmul hx hb d_St_weighOdds_87 ?_
            refine lv_lstore_n (lv' := [(2, .long (x2_8 * ((0 + 0 : Int32).toInt64))), (9, .int 0), (8, .int 0), (7, .int v_4), (0, .ref (a 0)), (1, .ref (b 0)), (4, .long x4_8), (6, .int x6_8)]) hx hb d_St_weighOdds_88 rfl hl (by decide) rfl (fun ls hl => ?_)
            refine lv_lload hx hb d_St_weighOdds_89 (lv_at hl 6 rfl) ?_
            refine lv_ldc2 (v := 10) hx hb hown (hg _ g_913) d_St_weighOdds_91 ?_
            refine lv_lmul hx hb d_St_weighOdds_94 ?_
            refine lv_lstore (lv' := [(4, .long (x4_8 * 10)), (2, .long (x2_8 * ((0 + 0 : Int32).toInt64))), (9, .int 0), (8, .int 0), (7, .int v_4), (0, .ref (a 0)), (1, .ref (b 0)), (6, .int x6_8)]) hx hb d_St_weighOdds_95 hl (by decide) rfl (fun ls hl => ?_)
            refine lv_iinc (v := x6_8 + 1) (lv' := [(6, .int (x6_8 + 1)), (4, .long (x4_8 * 10)), (2, .long (x2_8 * ((0 + 0 : Int32).toInt64))), (9, .int 0), (8, .int 0), (7, .int v_4), (0, .ref (a 0)), (1, .ref (b 0))]) hx hb d_St_weighOdds_97 hl (k := 7) rfl (by rfl) (by decide) rfl (fun ls hl => ?_)
            refine lv_goto (tgt := 8) hx hb d_St_weighOdds_100 (by decide) ?_
            exact ih8 (x2_8 * ((0 + 0 : Int32).toInt64)) (x4_8 * 10) (x6_8 + 1) _ _ _ hP hD hS (lv_sub hl [6, 7, 2, 1, 0] rfl) hd
          · have hd := ite_f hd h_7
            refine lv_aload_n hx hb d_St_weighOdds_67 rfl (lv_at hl 2 rfl) ?_
            refine va_get (D := D) (ci := 9) (v := .ref (a 7)) (C := R_St) (T := F_St) (N := 7) hx hb hg i_St hown hK hP 0 rfl rfl 4 (by decide) (hg _ g_292) (fun _ h9 => h9) rfl d_St_weighOdds_68 ?_
            refine lv_iload hx hb d_St_weighOdds_71 (lv_at hl 6 rfl) ?_
            obtain ⟨h_8, hd⟩ := ite_s hd
            refine ialdK hx hb hK hP 7 0 rfl rfl (inb_t h_8) rfl d_St_weighOdds_73 ?_
            refine lv_goto (tgt := 78) hx hb d_St_weighOdds_74 (by decide) ?_
            refine lv_istore (lv' := [(9, .int ((q_St_ill z) x6_8.toNatClampNeg)), (8, .int 0), (7, .int v_4), (0, .ref (a 0)), (1, .ref (b 0)), (2, .long x2_8), (4, .long x4_8), (6, .int x6_8)]) hx hb d_St_weighOdds_78 hl (by decide) rfl (fun ls hl => ?_)
            refine lv_lload_n hx hb d_St_weighOdds_80 rfl (lv_at hl 5 rfl) ?_
            refine lv_iload hx hb d_St_weighOdds_81 (lv_at hl 1 rfl) ?_
            refine lv_iload hx hb d_St_weighOdds_83 (lv_at hl 0 rfl) ?_
            refine lv_iadd hx hb d_St_weighOdds_85 ?_
            refine lv_i2l hx hb d_St_weighOdds_86 rfl ?_
            refine lv_lmul hx hb d_St_weighOdds_87 ?_
            refine lv_lstore_n (lv' := [(2, .long (x2_8 * ((0 + ((q_St_ill z) x6_8.toNatClampNeg) : Int32).toInt64))), (9, .int ((q_St_ill z) x6_8.toNatClampNeg)), (8, .int 0), (7, .int v_4), (0, .ref (a 0)), (1, .ref (b 0)), (4, .long x4_8), (6, .int x6_8)]) hx hb d_St_weighOdds_88 rfl hl (by decide) rfl (fun ls hl => ?_)
            refine lv_lload hx hb d_St_weighOdds_89 (lv_at hl 6 rfl) ?_
            refine lv_ldc2 (v := 10) hx hb hown (hg _ g_913) d_St_weighOdds_91 ?_
            refine lv_lmul hx hb d_St_weighOdds_94 ?_
            refine lv_lstore (lv' := [(4, .long (x4_8 * 10)), (2, .long (x2_8 * ((0 + ((q_St_ill z) x6_8.toNatClampNeg) : Int32).toInt64))), (9, .int ((q_St_ill z) x6_8.toNatClampNeg)), (8, .int 0), (7, .int v_4), (0, .ref (a 0)), (1, .ref (b 0)), (6, .int x6_8)]) hx hb d_St_weighOdds_95 hl (by decide) rfl (fun ls hl => ?_)
            refine lv_iinc (v := x6_8 + 1) (lv' := [(6, .int (x6_8 + 1)), (4, .long (x4_8 * 10)), (2, .long (x2_8 * ((0 + ((q_St_ill z) x6_8.toNatClampNeg) : Int32).toInt64))), (9, .int ((q_St_ill z) x6_8.toNatClampNeg)), (8, .int 0), (7, .int v_4), (0, .ref (a 0)), (1, .ref (b 0))]) hx hb d_St_weighOdds_97 hl (k := 7) rfl (by rfl) (by decide) rfl (fun ls hl => ?_)
            refine lv_goto (tgt := 8) hx hb d_St_weighOdds_100 (by decide) ?_
            exact ih8 (x2_8 * ((0 + ((q_St_ill z) x6_8.toNatClampNeg) : Int32).toInt64)) (x4_8 * 10) (x6_8 + 1) _ _ _ hP hD hS (lv_sub hl [6, 7, 2, 1, 0] rfl) hd
        · have hd := ite_f hd h_6
          refine lv_bipush (v := 10) hx hb d_St_weighOdds_37 (by decide) ?_
          refine lv_aload_n hx hb d_St_weighOdds_39 rfl (lv_at hl 1 rfl) ?_
          refine va_get (D := D) (ci := 9) (v := .ref (a 7)) (C := R_St) (T := F_St) (N := 7) hx hb hg i_St hown hK hP 0 rfl rfl 4 (by decide) (hg _ g_292) (fun _ h9 => h9) rfl d_St_weighOdds_40 ?_
          refine lv_iload hx hb d_St_weighOdds_43 (lv_at hl 5 rfl) ?_
          obtain ⟨h_13, hd⟩ := ite_s hd
          refine ialdK hx hb hK hP 7 0 rfl rfl (inb_t h_13) rfl d_St_weighOdds_45 ?_
          refine lv_isub hx hb d_St_weighOdds_46 ?_
          refine lv_goto (tgt := 51) hx hb d_St_weighOdds_47 (by decide) ?_
          refine lv_istore (lv' := [(8, .int (10 - ((q_St_ill z) x6_8.toNatClampNeg))), (7, .int v_4), (0, .ref (a 0)), (1, .ref (b 0)), (2, .long x2_8), (4, .long x4_8), (6, .int x6_8)]) hx hb d_St_weighOdds_51 hl (by decide) rfl (fun ls hl => ?_)
          refine lv_iload hx hb d_St_weighOdds_53 (lv_at hl 1 rfl) ?_
          refine lv_aload_n hx hb d_St_weighOdds_55 rfl (lv_at hl 2 rfl) ?_
          refine va_get (D := D) (ci := 9) (v := .ref (a 6)) (C := R_St) (T := F_St) (N := 7) hx hb hg i_St hown hK hP 0 rfl rfl 3 (by decide) (hg _ g_287) (fun _ h9 => h9) rfl d_St_weighOdds_56 ?_
          refine lv_iload hx hb d_St_weighOdds_59 (lv_at hl 6 rfl) ?_
          obtain ⟨h_12, hd⟩ := ite_s hd
          refine ialdK hx hb hK hP 6 0 rfl rfl (inb_t h_12) rfl d_St_weighOdds_61 ?_
          refine lv_iconst (v := 2) hx hb d_St_weighOdds_62 (by decide) ?_
          refine lv_idiv hx hb d_St_weighOdds_63 (by decide) ?_
          refine lv_icmp_gt (tgt := 77) hx hb d_St_weighOdds_64 (by decide) (fun h_10 => ?_) (fun h_10 => ?_)
          · have hd := ite_t hd h_10
            refine lv_iconst (v := 0) hx hb d_St_weighOdds_77 (by decide) ?_
            refine lv_istore (lv' := [(9, .int 0), (8, .int (10 - ((q_St_ill z) x6_8.toNatClampNeg))), (7, .int v_4), (0, .ref (a 0)), (1, .ref (b 0)), (2, .long x2_8), (4, .long x4_8), (6, .int x6_8)]) hx hb d_St_weighOdds_78 hl (by decide) rfl (fun ls hl => ?_)
            refine lv_lload_n hx hb d_St_weighOdds_80 rfl (lv_at hl 5 rfl) ?_
            refine lv_iload hx hb d_St_weighOdds_81 (lv_at hl 1 rfl) ?_
            refine lv_iload hx hb d_St_weighOdds_83 (lv_at hl 0 rfl) ?_
            refine lv_iadd hx hb d_St_weighOdds_85 ?_
            refine lv_i2l hx hb d_St_weighOdds_86 rfl ?_
            refine lv_lmul hx hb d_St_weighOdds_87 ?_
            refine lv_lstore_n (lv' := [(2, .long (x2_8 * (((10 - ((q_St_ill z) x6_8.toNatClampNeg)) + 0 : Int32).toInt64))), (9, .int 0), (8, .int (10 - ((q_St_ill z) x6_8.toNatClampNeg))), (7, .int v_4), (0, .ref (a 0)), (1, .ref (b 0)), (4, .long x4_8), (6, .int x6_8)]) hx hb d_St_weighOdds_88 rfl hl (by decide) rfl (fun ls hl => ?_)
            refine lv_lload hx hb d_St_weighOdds_89 (lv_at hl 6 rfl) ?_
            refine lv_ldc2 (v := 10) hx hb hown (hg _ g_913) d_St_weighOdds_91 ?_
            refine lv_lmul hx hb d_St_weighOdds_94 ?_
            refine lv_lstore (lv' := [(4, .long (x4_8 * 10)), (2, .long (x2_8 * (((10 - ((q_St_ill z) x6_8.toNatClampNeg)) + 0 : Int32).toInt64))), (9, .int 0), (8, .int (10 - ((q_St_ill z) x6_8.toNatClampNeg))), (7, .int v_4), (0, .ref (a 0)), (1, .ref (b 0)), (6, .int x6_8)]) hx hb d_St_weighOdds_95 hl (by decide) rfl (fun ls hl => ?_)
            refine lv_iinc (v := x6_8 + 1) (lv' := [(6, .int (x6_8 + 1)), (4, .long (x4_8 * 10)), (2, .long (x2_8 * (((10 - ((q_St_ill z) x6_8.toNatClampNeg)) + 0 : Int32).toInt64))), (9, .int 0), (8, .int (10 - ((q_St_ill z) x6_8.toNatClampNeg))), (7, .int v_4), (0, .ref (a 0)), (1, .ref (b 0))]) hx hb d_St_weighOdds_97 hl (k := 7) rfl (by rfl) (by decide) rfl (fun ls hl => ?_)
            refine lv_goto (tgt := 8) hx hb d_St_weighOdds_100 (by decide) ?_
            exact ih8 (x2_8 * (((10 - ((q_St_ill z) x6_8.toNatClampNeg)) + 0 : Int32).toInt64)) (x4_8 * 10) (x6_8 + 1) _ _ _ hP hD hS (lv_sub hl [6, 7, 2, 1, 0] rfl) hd
          · have hd := ite_f hd h_10
            refine lv_aload_n hx hb d_St_weighOdds_67 rfl (lv_at hl 2 rfl) ?_
            refine va_get (D := D) (ci := 9) (v := .ref (a 7)) (C := R_St) (T := F_St) (N := 7) hx hb hg i_St hown hK hP 0 rfl rfl 4 (by decide) (hg _ g_292) (fun _ h9 => h9) rfl d_St_weighOdds_68 ?_
            refine lv_iload hx hb d_St_weighOdds_71 (lv_at hl 6 rfl) ?_
            obtain ⟨h_11, hd⟩ := ite_s hd
            refine ialdK hx hb hK hP 7 0 rfl rfl (inb_t h_11) rfl d_St_weighOdds_73 ?_
            refine lv_goto (tgt := 78) hx hb d_St_weighOdds_74 (by decide) ?_
            refine lv_istore (lv' := [(9, .int ((q_St_ill z) x6_8.toNatClampNeg)), (8, .int (10 - ((q_St_ill z) x6_8.toNatClampNeg))), (7, .int v_4), (0, .ref (a 0)), (1, .ref (b 0)), (2, .long x2_8), (4, .long x4_8), (6, .int x6_8)]) hx hb d_St_weighOdds_78 hl (by decide) rfl (fun ls hl => ?_)
            refine lv_lload_n hx hb d_St_weighOdds_80 rfl (lv_at hl 5 rfl) ?_
            refine lv_iload hx hb d_St_weighOdds_81 (lv_at hl 1 rfl) ?_
            refine lv_iload hx hb d_St_weighOdds_83 (lv_at hl 0 rfl) ?_
            refine lv_iadd hx hb d_St_weighOdds_85 ?_
            refine lv_i2l hx hb d_St_weighOdds_86 rfl ?_
            refine lv_lmul hx hb d_St_weighOdds_87 ?_
            refine lv_lstore_n (lv' := [(2, .long (x2_8 * (((10 - ((q_St_ill z) x6_8.toNatClampNeg)) + ((q_St_ill z) x6_8.toNatClampNeg) : Int32).toInt64))), (9, .int ((q_St_ill z) x6_8.toNatClampNeg)), (8, .int (10 - ((q_St_ill z) x6_8.toNatClampNeg))), (7, .int v_4), (0, .ref (a 0)), (1, .ref (b 0)), (4, .long x4_8), (6, .int x6_8)]) hx hb d_St_weighOdds_88 rfl hl (by decide) rfl (fun ls hl => ?_)
            refine lv_lload hx hb d_St_weighOdds_89 (lv_at hl 6 rfl) ?_
            refine lv_ldc2 (v := 10) hx hb hown (hg _ g_913) d_St_weighOdds_91 ?_
            refine lv_lmul hx hb d_St_weighOdds_94 ?_
            refine lv_lstore (lv' := [(4, .long (x4_8 * 10)), (2, .long (x2_8 * (((10 - ((q_St_ill z) x6_8.toNatClampNeg)) + ((q_St_ill z) x6_8.toNatClampNeg) : Int32).toInt64))), (9, .int ((q_St_ill z) x6_8.toNatClampNeg)), (8, .int (10 - ((q_St_ill z) x6_8.toNatClampNeg))), (7, .int v_4), (0, .ref (a 0)), (1, .ref (b 0)), (6, .int x6_8)]) hx hb d_St_weighOdds_95 hl (by decide) rfl (fun ls hl => ?_)
            refine lv_iinc (v := x6_8 + 1) (lv' := [(6, .int (x6_8 + 1)), (4, .long (x4_8 * 10)), (2, .long (x2_8 * (((10 - ((q_St_ill z) x6_8.toNatClampNeg)) + ((q_St_ill z) x6_8.toNatClampNeg) : Int32).toInt64))), (9, .int ((q_St_ill z) x6_8.toNatClampNeg)), (8, .int (10 - ((q_St_ill z) x6_8.toNatClampNeg))), (7, .int v_4), (0, .ref (a 0)), (1, .ref (b 0))]) hx hb d_St_weighOdds_97 hl (k := 7) rfl (by rfl) (by decide) rfl (fun ls hl => ?_)
            refine lv_goto (tgt := 8) hx hb d_St_weighOdds_100 (by decide) ?_
            exact ih8 (x2_8 * (((10 - ((q_St_ill z) x6_8.toNatClampNeg)) + ((q_St_ill z) x6_8.toNatClampNeg) : Int32).toInt64)) (x4_8 * 10) (x6_8 + 1) _ _ _ hP hD hS (lv_sub hl [6, 7, 2, 1, 0] rfl) hd
  exact lp8 w 1000 1 1 0 _ _ _ hP hD hS (lv_sub hl [3, 4, 2, 1, 0] rfl) hd

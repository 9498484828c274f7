-- OwnsLift$Standing.bits(I)I
def B_St_bits_L4 (x1_f4 : Int32) (z : T_St) (self4 : Int32 → Int32 → Option (Int32)) (x2_4 : Int32) (x3_4 : Int32) : Option (Int32) :=
  if (q_St_things z) ≤ x3_4 then (some (x2_4)) else (if inb x3_4 7 = true then (if ((q_St_owner z) x3_4.toNatClampNeg) = x1_f4 then (self4 (x2_4 ||| ((1 : Int32) <<< (x3_4 &&& 31))) (x3_4 + 1)) else (self4 x2_4 (x3_4 + 1))) else none)
def d_St_bits_L4 (x1_f4 : Int32) (z : T_St) (n : Nat) : Int32 → Int32 → Option (Int32) := recN (fun _ _ => none) (fun self => B_St_bits_L4 x1_f4 z self) n
def d_St_bits (x1 : Int32) (z : T_St) : Option (Int32) :=
  d_St_bits_L4 x1 z  1000 0 0
theorem d_St_bits_0 : decode b_St_bits 0 = .ok (.iconst 0, 1) := by decide +kernel
theorem d_St_bits_1 : decode b_St_bits 1 = .ok (.istore_n 2, 1) := by decide +kernel
theorem d_St_bits_2 : decode b_St_bits 2 = .ok (.iconst 0, 1) := by decide +kernel
theorem d_St_bits_3 : decode b_St_bits 3 = .ok (.istore_n 3, 1) := by decide +kernel
theorem d_St_bits_4 : decode b_St_bits 4 = .ok (.iload_n 3, 1) := by decide +kernel
theorem d_St_bits_5 : decode b_St_bits 5 = .ok (.aload_n 0, 1) := by decide +kernel
theorem d_St_bits_6 : decode b_St_bits 6 = .ok (.getfield 50, 3) := by decide +kernel
theorem d_St_bits_9 : decode b_St_bits 9 = .ok (.if_icmp .ge 25, 3) := by decide +kernel
theorem d_St_bits_12 : decode b_St_bits 12 = .ok (.aload_n 0, 1) := by decide +kernel
theorem d_St_bits_13 : decode b_St_bits 13 = .ok (.getfield 26, 3) := by decide +kernel
theorem d_St_bits_16 : decode b_St_bits 16 = .ok (.iload_n 3, 1) := by decide +kernel
theorem d_St_bits_17 : decode b_St_bits 17 = .ok (.iaload, 1) := by decide +kernel
theorem d_St_bits_18 : decode b_St_bits 18 = .ok (.iload_n 1, 1) := by decide +kernel
theorem d_St_bits_19 : decode b_St_bits 19 = .ok (.if_icmp .ne 9, 3) := by decide +kernel
theorem d_St_bits_22 : decode b_St_bits 22 = .ok (.iload_n 2, 1) := by decide +kernel
theorem d_St_bits_23 : decode b_St_bits 23 = .ok (.iconst 1, 1) := by decide +kernel
theorem d_St_bits_24 : decode b_St_bits 24 = .ok (.iload_n 3, 1) := by decide +kernel
theorem d_St_bits_25 : decode b_St_bits 25 = .ok (.ishl, 1) := by decide +kernel
theorem d_St_bits_26 : decode b_St_bits 26 = .ok (.ior, 1) := by decide +kernel
theorem d_St_bits_27 : decode b_St_bits 27 = .ok (.istore_n 2, 1) := by decide +kernel
theorem d_St_bits_28 : decode b_St_bits 28 = .ok (.iinc 3 1, 3) := by decide +kernel
theorem d_St_bits_31 : decode b_St_bits 31 = .ok (.goto (-27), 3) := by decide +kernel
theorem d_St_bits_34 : decode b_St_bits 34 = .ok (.iload_n 2, 1) := by decide +kernel
theorem d_St_bits_35 : decode b_St_bits 35 = .ok (.ireturn, 1) := by decide +kernel
theorem o_St_bits : OkV y_St_bits "OwnsLift$Standing" b_St_bits 4 (some .int) 1 := ⟨⟨rfl, by decide +kernel, by decide +kernel, by decide +kernel⟩, g_679, g_680, g_77, g_681⟩
set_option maxHeartbeats 4000000 in
set_option maxRecDepth 100000 in
theorem c_St_bits (l : Launch) (D : va_G) (g : Nat → ClassId) (a : Nat → Nat) (x1 : Int32) (z : T_St) (v : Int32) (h : d_St_bits x1 z = some v) :
    MI l y_St_bits b_St_bits 4 .int ({ frames := 0, cells := 0, slots := 0, locals := 0 } : Room) D g [.ref (a 0), .int x1] (ws_St g a z) (v) (ws_St g a z) := by
  have hd := h
  unfold d_St_bits at hd
  refine enterI rfl (Nat.le_of_ble_eq_true rfl) (fun p e s m below meth c A ls hx hb hml hr hown hg hlk hK hA hP hD hS hCs hl => ?_)
  have hown : s.vm.findClass "OwnsLift$Standing" = some m.cls := hown
  have hl : lv_has ls 4 [(0, .ref (a 0)), (1, .int x1)] := hl
  show GI p l e s m ({ frames := 0, cells := 0, slots := 0, locals := 0 } : Room) ([.ref (a 0), .int x1] : List Value).toArray below meth c A D g (ws_St g a z) (v) s.heap [] (F0 m 0 ls [])
  refine lv_iconst (v := 0) hx hb d_St_bits_0 (by decide) ?_
  refine lv_istore_n (lv' := [(2, .int 0), (0, .ref (a 0)), (1, .int x1)]) hx hb d_St_bits_1 rfl hl (by decide) rfl (fun ls hl => ?_)
  refine lv_iconst (v := 0) hx hb d_St_bits_2 (by decide) ?_
  refine lv_istore_n (lv' := [(3, .int 0), (2, .int 0), (0, .ref (a 0)), (1, .int x1)]) hx hb d_St_bits_3 rfl hl (by decide) rfl (fun ls hl => ?_)
  have lp4 : ∀ (x1_f4 : Int32) (n : Nat) (x2_4 : Int32) (x3_4 : Int32) (H : Heap) (locs : List Loc) (ls : Array Slot), va_P D classes (ws_St g a z) H → va_D A (ws_St g a z) → va_S A s.heap H locs → lv_has ls 4 [(0, .ref (a 0)), (1, .int x1_f4), (2, .int x2_4), (3, .int x3_4)] → d_St_bits_L4 x1_f4 z n x2_4 x3_4 = some v → GI p l e s m ({ frames := 0, cells := 0, slots := 0, locals := 0 } : Room) ([.ref (a 0), .int x1] : List Value).toArray below meth c A D g (ws_St g a z) (v) H locs (F0 m 4 ls []) := by
    intro x1_f4 n
    induction n with
    | zero =>
      intro  x2_4 x3_4 H locs ls hP hD hS hl hd
      have hd : none = some v := hd
      cases hd
    | succ n ih4 =>
      intro  x2_4 x3_4 H locs ls hP hD hS hl hd
      have hd : B_St_bits_L4 x1_f4 z (d_St_bits_L4 x1_f4 z n) x2_4 x3_4 = some v := hd
      generalize d_St_bits_L4 x1_f4 z n = self4 at ih4 hd
      unfold B_St_bits_L4 at hd
      refine lv_iload_n hx hb d_St_bits_4 rfl (lv_at hl 3 rfl) ?_
      refine lv_aload_n hx hb d_St_bits_5 rfl (lv_at hl 0 rfl) ?_
      refine va_get (D := D) (ci := 9) (v := .int (q_St_things z)) (C := R_St) (T := F_St) (N := 7) hx hb hg i_St hown hK hP 0 rfl rfl 1 (by decide) (hg _ g_281) (fun _ h9 => h9) rfl d_St_bits_6 ?_
      refine lv_icmp_ge (tgt := 34) hx hb d_St_bits_9 (by decide) (fun h_1 => ?_) (fun h_1 => ?_)
      · have hd := ite_t hd h_1
        refine lv_iload_n hx hb d_St_bits_34 rfl (lv_at hl 2 rfl) ?_
        obtain rfl := Option.some.inj hd
        exact retI hx hb hr hlk hK hP hD hS d_St_bits_35 rfl
      · have hd := ite_f hd h_1
        refine lv_aload_n hx hb d_St_bits_12 rfl (lv_at hl 0 rfl) ?_
        refine va_get (D := D) (ci := 9) (v := .ref (a 9)) (C := R_St) (T := F_St) (N := 7) hx hb hg i_St hown hK hP 0 rfl rfl 6 (by decide) (hg _ g_297) (fun _ h9 => h9) rfl d_St_bits_13 ?_
        refine lv_iload_n hx hb d_St_bits_16 rfl (lv_at hl 3 rfl) ?_
        obtain ⟨h_3, hd⟩ := ite_s hd
        refine ialdK hx hb hK hP 9 0 rfl rfl (inb_t h_3) rfl d_St_bits_17 ?_
        refine lv_iload_n hx hb d_St_bits_18 rfl (lv_at hl 1 rfl) ?_
        refine lv_icmp_ne (tgt := 28) hx hb d_St_bits_19 (by decide) (fun h_2 => ?_) (fun h_2 => ?_)
        · have hd := ite_f hd h_2
          refine lv_iinc (v := x3_4 + 1) (lv' := [(3, .int (x3_4 + 1)), (0, .ref (a 0)), (1, .int x1_f4), (2, .int x2_4)]) hx hb d_St_bits_28 hl (k := 3) rfl (by rfl) (by decide) rfl (fun ls hl => ?_)
          refine lv_goto (tgt := 4) hx hb d_St_bits_31 (by decide) ?_
          exact ih4 x2_4 (x3_4 + 1) _ _ _ hP hD hS (lv_sub hl [1, 2, 3, 0] rfl) hd
        · have hd := ite_t hd h_2
          refine lv_iload_n hx hb d_St_bits_22 rfl (lv_at hl 2 rfl) ?_
          refine lv_iconst (v := 1) hx hb d_St_bits_23 (by decide) ?_
          refine lv_iload_n hx hb d_St_bits_24 rfl (lv_at hl 3 rfl) ?_
          refine lv_ishl hx hb d_St_bits_25 ?_
          refine lv_ior hx hb d_St_bits_26 ?_
          refine lv_istore_n (lv' := [(2, .int (x2_4 ||| ((1 : Int32) <<< (x3_4 &&& 31)))), (0, .ref (a 0)), (1, .int x1_f4), (3, .int x3_4)]) hx hb d_St_bits_27 rfl hl (by decide) rfl (fun ls hl => ?_)
          refine lv_iinc (v := x3_4 + 1) (lv' := [(3, .int (x3_4 + 1)), (2, .int (x2_4 ||| ((1 : Int32) <<< (x3_4 &&& 31)))), (0, .ref (a 0)), (1, .int x1_f4)]) hx hb d_St_bits_28 hl (k := 3) rfl (by rfl) (by decide) rfl (fun ls hl => ?_)
          refine lv_goto (tgt := 4) hx hb d_St_bits_31 (by decide) ?_
          exact ih4 (x2_4 ||| ((1 : Int32) <<< (x3_4 &&& 31))) (x3_4 + 1) _ _ _ hP hD hS (lv_sub hl [2, 3, 1, 0] rfl) hd
  exact lp4 x1 1000 0 0 _ _ _ hP hD hS (lv_sub hl [2, 3, 1, 0] rfl) hd
-- OwnsLift$Standing.weightOfSet(I)I
def B_St_weightOfSet_L4 (x1_f4 : Int32) (z : T_St) (self4 : Int32 → Int32 → Option (Int32)) (x2_4 : Int32) (x3_4 : Int32) : Option (Int32) :=
  if (q_St_things z) ≤ x3_4 then (some (x2_4)) else (if ((x1_f4 >>> (x3_4 &&& 31)) &&& 1) = 1 then (if inb x3_4 7 = true then (self4 (x2_4 + ((q_St_weight z) x3_4.toNatClampNeg)) (x3_4 + 1)) else none) else (self4 x2_4 (x3_4 + 1)))
def d_St_weightOfSet_L4 (x1_f4 : Int32) (z : T_St) (n : Nat) : Int32 → Int32 → Option (Int32) := recN (fun _ _ => none) (fun self => B_St_weightOfSet_L4 x1_f4 z self) n
def d_St_weightOfSet (x1 : Int32) (z : T_St) : Option (Int32) :=
  d_St_weightOfSet_L4 x1 z  1000 0 0
theorem d_St_weightOfSet_0 : decode b_St_weightOfSet 0 = .ok (.iconst 0, 1) := by decide +kernel
theorem d_St_weightOfSet_1 : decode b_St_weightOfSet 1 = .ok (.istore_n 2, 1) := by decide +kernel
theorem d_St_weightOfSet_2 : decode b_St_weightOfSet 2 = .ok (.iconst 0, 1) := by decide +kernel
theorem d_St_weightOfSet_3 : decode b_St_weightOfSet 3 = .ok (.istore_n 3, 1) := by decide +kernel
theorem d_St_weightOfSet_4 : decode b_St_weightOfSet 4 = .ok (.iload_n 3, 1) := by decide +kernel
theorem d_St_weightOfSet_5 : decode b_St_weightOfSet 5 = .ok (.aload_n 0, 1) := by decide +kernel
theorem d_St_weightOfSet_6 : decode b_St_weightOfSet 6 = .ok (.getfield 50, 3) := by decide +kernel
theorem d_St_weightOfSet_9 : decode b_St_weightOfSet 9 = .ok (.if_icmp .ge 27, 3) := by decide +kernel
theorem d_St_weightOfSet_12 : decode b_St_weightOfSet 12 = .ok (.iload_n 1, 1) := by decide +kernel
theorem d_St_weightOfSet_13 : decode b_St_weightOfSet 13 = .ok (.iload_n 3, 1) := by decide +kernel
theorem d_St_weightOfSet_14 : decode b_St_weightOfSet 14 = .ok (.ishr, 1) := by decide +kernel
theorem d_St_weightOfSet_15 : decode b_St_weightOfSet 15 = .ok (.iconst 1, 1) := by decide +kernel
theorem d_St_weightOfSet_16 : decode b_St_weightOfSet 16 = .ok (.iand, 1) := by decide +kernel
theorem d_St_weightOfSet_17 : decode b_St_weightOfSet 17 = .ok (.iconst 1, 1) := by decide +kernel
theorem d_St_weightOfSet_18 : decode b_St_weightOfSet 18 = .ok (.if_icmp .ne 12, 3) := by decide +kernel
theorem d_St_weightOfSet_21 : decode b_St_weightOfSet 21 = .ok (.iload_n 2, 1) := by decide +kernel
theorem d_St_weightOfSet_22 : decode b_St_weightOfSet 22 = .ok (.aload_n 0, 1) := by decide +kernel
theorem d_St_weightOfSet_23 : decode b_St_weightOfSet 23 = .ok (.getfield 23, 3) := by decide +kernel
theorem d_St_weightOfSet_26 : decode b_St_weightOfSet 26 = .ok (.iload_n 3, 1) := by decide +kernel
theorem d_St_weightOfSet_27 : decode b_St_weightOfSet 27 = .ok (.iaload, 1) := by decide +kernel
theorem d_St_weightOfSet_28 : decode b_St_weightOfSet 28 = .ok (.iadd, 1) := by decide +kernel
theorem d_St_weightOfSet_29 : decode b_St_weightOfSet 29 = .ok (.istore_n 2, 1) := by decide +kernel
theorem d_St_weightOfSet_30 : decode b_St_weightOfSet 30 = .ok (.iinc 3 1, 3) := by decide +kernel
theorem d_St_weightOfSet_33 : decode b_St_weightOfSet 33 = .ok (.goto (-29), 3) := by decide +kernel
theorem d_St_weightOfSet_36 : decode b_St_weightOfSet 36 = .ok (.iload_n 2, 1) := by decide +kernel
theorem d_St_weightOfSet_37 : decode b_St_weightOfSet 37 = .ok (.ireturn, 1) := by decide +kernel
theorem o_St_weightOfSet : OkV y_St_weightOfSet "OwnsLift$Standing" b_St_weightOfSet 4 (some .int) 1 := ⟨⟨rfl, by decide +kernel, by decide +kernel, by decide +kernel⟩, g_683, g_684, g_77, g_685⟩
set_option maxHeartbeats 4000000 in
set_option maxRecDepth 100000 in
theorem c_St_weightOfSet (l : Launch) (D : va_G) (g : Nat → ClassId) (a : Nat → Nat) (x1 : Int32) (z : T_St) (v : Int32) (h : d_St_weightOfSet x1 z = some v) :
    MI l y_St_weightOfSet b_St_weightOfSet 4 .int ({ frames := 0, cells := 0, slots := 0, locals := 0 } : Room) D g [.ref (a 0), .int x1] (ws_St g a z) (v) (ws_St g a z) := by
  have hd := h
  unfold d_St_weightOfSet at hd
  refine enterI rfl (Nat.le_of_ble_eq_true rfl) (fun p e s m below meth c A ls hx hb hml hr hown hg hlk hK hA hP hD hS hCs hl => ?_)
  have hown : s.vm.findClass "OwnsLift$Standing" = some m.cls := hown
  have hl : lv_has ls 4 [(0, .ref (a 0)), (1, .int x1)] := hl
  show GI p l e s m ({ frames := 0, cells := 0, slots := 0, locals := 0 } : Room) ([.ref (a 0), .int x1] : List Value).toArray below meth c A D g (ws_St g a z) (v) s.heap [] (F0 m 0 ls [])
  refine lv_iconst (v := 0) hx hb d_St_weightOfSet_0 (by decide) ?_
  refine lv_istore_n (lv' := [(2, .int 0), (0, .ref (a 0)), (1, .int x1)]) hx hb d_St_weightOfSet_1 rfl hl (by decide) rfl (fun ls hl => ?_)
  refine lv_iconst (v := 0) hx hb d_St_weightOfSet_2 (by decide) ?_
  refine lv_istore_n (lv' := [(3, .int 0), (2, .int 0), (0, .ref (a 0)), (1, .int x1)]) hx hb d_St_weightOfSet_3 rfl hl (by decide) rfl (fun ls hl => ?_)
  have lp4 : ∀ (x1_f4 : Int32) (n : Nat) (x2_4 : Int32) (x3_4 : Int32) (H : Heap) (locs : List Loc) (ls : Array Slot), va_P D classes (ws_St g a z) H → va_D A (ws_St g a z) → va_S A s.heap H locs → lv_has ls 4 [(0, .ref (a 0)), (1, .int x1_f4), (2, .int x2_4), (3, .int x3_4)] → d_St_weightOfSet_L4 x1_f4 z n x2_4 x3_4 = some v → GI p l e s m ({ frames := 0, cells := 0, slots := 0, locals := 0 } : Room) ([.ref (a 0), .int x1] : List Value).toArray below meth c A D g (ws_St g a z) (v) H locs (F0 m 4 ls []) := by
    intro x1_f4 n
    induction n with
    | zero =>
      intro  x2_4 x3_4 H locs ls hP hD hS hl hd
      have hd : none = some v := hd
      cases hd
    | succ n ih4 =>
      intro  x2_4 x3_4 H locs ls hP hD hS hl hd
      have hd : B_St_weightOfSet_L4 x1_f4 z (d_St_weightOfSet_L4 x1_f4 z n) x2_4 x3_4 = some v := hd
      generalize d_St_weightOfSet_L4 x1_f4 z n = self4 at ih4 hd
      unfold B_St_weightOfSet_L4 at hd
      refine lv_iload_n hx hb d_St_weightOfSet_4 rfl (lv_at hl 3 rfl) ?_
      refine lv_aload_n hx hb d_St_weightOfSet_5 rfl (lv_at hl 0 rfl) ?_
      refine va_get (D := D) (ci := 9) (v := .int (q_St_things z)) (C := R_St) (T := F_St) (N := 7) hx hb hg i_St hown hK hP 0 rfl rfl 1 (by decide) (hg _ g_281) (fun _ h9 => h9) rfl d_St_weightOfSet_6 ?_
      refine lv_icmp_ge (tgt := 36) hx hb d_St_weightOfSet_9 (by decide) (fun h_1 => ?_) (fun h_1 => ?_)
      · have hd := ite_t hd h_1
        refine lv_iload_n hx hb d_St_weightOfSet_36 rfl (lv_at hl 2 rfl) ?_
        obtain rfl := Option.some.inj hd
        exact retI hx hb hr hlk hK hP hD hS d_St_weightOfSet_37 rfl
      · have hd := ite_f hd h_1
        refine lv_iload_n hx hb d_St_weightOfSet_12 rfl (lv_at hl 1 rfl) ?_
        refine lv_iload_n hx hb d_St_weightOfSet_13 rfl (lv_at hl 3 rfl) ?_
        refine lv_ishr hx hb d_St_weightOfSet_14 ?_
        refine lv_iconst (v := 1) hx hb d_St_weightOfSet_15 (by decide) ?_
        refine lv_iand hx hb d_St_weightOfSet_16 ?_
        refine lv_iconst (v := 1) hx hb d_St_weightOfSet_17 (by decide) ?_
        refine lv_icmp_ne (tgt := 30) hx hb d_St_weightOfSet_18 (by decide) (fun h_2 => ?_) (fun h_2 => ?_)
        · have hd := ite_f hd h_2
          refine lv_iinc (v := x3_4 + 1) (lv' := [(3, .int (x3_4 + 1)), (0, .ref (a 0)), (1, .int x1_f4), (2, .int x2_4)]) hx hb d_St_weightOfSet_30 hl (k := 3) rfl (by rfl) (by decide) rfl (fun ls hl => ?_)
          refine lv_goto (tgt := 4) hx hb d_St_weightOfSet_33 (by decide) ?_
          exact ih4 x2_4 (x3_4 + 1) _ _ _ hP hD hS (lv_sub hl [1, 2, 3, 0] rfl) hd
        · have hd := ite_t hd h_2
          refine lv_iload_n hx hb d_St_weightOfSet_21 rfl (lv_at hl 2 rfl) ?_
          refine lv_aload_n hx hb d_St_weightOfSet_22 rfl (lv_at hl 0 rfl) ?_
          refine va_get (D := D) (ci := 9) (v := .ref (a 8)) (C := R_St) (T := F_St) (N := 7) hx hb hg i_St hown hK hP 0 rfl rfl 5 (by decide) (hg _ g_294) (fun _ h9 => h9) rfl d_St_weightOfSet_23 ?_
          refine lv_iload_n hx hb d_St_weightOfSet_26 rfl (lv_at hl 3 rfl) ?_
          obtain ⟨h_3, hd⟩ := ite_s hd
          refine ialdK hx hb hK hP 8 0 rfl rfl (inb_t h_3) rfl d_St_weightOfSet_27 ?_
          refine lv_iadd hx hb d_St_weightOfSet_28 ?_
          refine lv_istore_n (lv' := [(2, .int (x2_4 + ((q_St_weight z) x3_4.toNatClampNeg))), (0, .ref (a 0)), (1, .int x1_f4), (3, .int x3_4)]) hx hb d_St_weightOfSet_29 rfl hl (by decide) rfl (fun ls hl => ?_)
          refine lv_iinc (v := x3_4 + 1) (lv' := [(3, .int (x3_4 + 1)), (2, .int (x2_4 + ((q_St_weight z) x3_4.toNatClampNeg))), (0, .ref (a 0)), (1, .int x1_f4)]) hx hb d_St_weightOfSet_30 hl (k := 3) rfl (by rfl) (by decide) rfl (fun ls hl => ?_)
          refine lv_goto (tgt := 4) hx hb d_St_weightOfSet_33 (by decide) ?_
          exact ih4 (x2_4 + ((q_St_weight z) x3_4.toNatClampNeg)) (x3_4 + 1) _ _ _ hP hD hS (lv_sub hl [2, 3, 1, 0] rfl) hd
  exact lp4 x1 1000 0 0 _ _ _ hP hD hS (lv_sub hl [2, 3, 1, 0] rfl) hd
-- OwnsLift$Standing.load(I)I
def d_St_load (x1 : Int32) (z : T_St) : Option (Int32) :=
  (d_St_bits x1 z).bind fun v_1 => (d_St_weightOfSet v_1 z).bind fun v_3 => some (v_3)
theorem d_St_load_0 : decode b_St_load 0 = .ok (.aload_n 0, 1) := by decide +kernel
theorem d_St_load_1 : decode b_St_load 1 = .ok (.aload_n 0, 1) := by decide +kernel
theorem d_St_load_2 : decode b_St_load 2 = .ok (.iload_n 1, 1) := by decide +kernel
theorem d_St_load_3 : decode b_St_load 3 = .ok (.invokevirtual 71, 3) := by decide +kernel
theorem d_St_load_6 : decode b_St_load 6 = .ok (.invokevirtual 74, 3) := by decide +kernel
theorem d_St_load_9 : decode b_St_load 9 = .ok (.ireturn, 1) := by decide +kernel
theorem o_St_load : OkV y_St_load "OwnsLift$Standing" b_St_load 2 (some .int) 1 := ⟨⟨rfl, by decide +kernel, by decide +kernel, by decide +kernel⟩, g_675, g_676, g_77, g_677⟩
set_option maxHeartbeats 4000000 in
set_option maxRecDepth 100000 in
theorem c_St_load (l : Launch) (D : va_G) (g : Nat → ClassId) (a : Nat → Nat) (x1 : Int32) (z : T_St) (v : Int32) (h : d_St_load x1 z = some v) :
    MI l y_St_load b_St_load 2 .int ({ frames := 1, cells := 0, slots := 0, locals := 23 } : Room) D g [.ref (a 0), .int x1] (ws_St g a z) (v) (ws_St g a z) := by
  have hd := h
  unfold d_St_load at hd
  refine enterI rfl (Nat.le_of_ble_eq_true rfl) (fun p e s m below meth c A ls hx hb hml hr hown hg hlk hK hA hP hD hS hCs hl => ?_)
  have hown : s.vm.findClass "OwnsLift$Standing" = some m.cls := hown
  have hl : lv_has ls 2 [(0, .ref (a 0)), (1, .int x1)] := hl
  show GI p l e s m ({ frames := 1, cells := 0, slots := 0, locals := 23 } : Room) ([.ref (a 0), .int x1] : List Value).toArray below meth c A D g (ws_St g a z) (v) s.heap [] (F0 m 0 ls [])
  refine lv_aload_n hx hb d_St_load_0 rfl (lv_at hl 0 rfl) ?_
  refine lv_aload_n hx hb d_St_load_1 rfl (lv_at hl 0 rfl) ?_
  refine lv_iload_n hx hb d_St_load_2 rfl (lv_at hl 1 rfl) ?_
  obtain ⟨v_1, e_2, hd⟩ := bind_s hd
  refine callVI (ws' := ws_St g a z) (rest := [.ref (a 0)]) (As := [.int x1]) hx hb hml hown hg hK hP hD hS hA hCs hl.1 (c_St_bits l D g a x1 z _ e_2) o_St_bits g_678 (ci := 9) (q0 := 0) rfl rfl (List.range' 0 10) (segC1 rfl rfl) (by decide) rfl (segP1 rfl rfl) rfl rfl (Nat.le_of_ble_eq_true rfl) ⟨rfl, rfl, Nat.le_of_ble_eq_true rfl, Nat.le_of_ble_eq_true rfl⟩ d_St_load_3 (fun H locs hP hD hS => ?_)
  obtain ⟨v_3, e_4, hd⟩ := bind_s hd
  refine callVI (ws' := ws_St g a z) (rest := []) (As := [.int v_1]) hx hb hml hown hg hK hP hD hS hA hCs hl.1 (c_St_weightOfSet l D g a v_1 z _ e_4) o_St_weightOfSet g_682 (ci := 9) (q0 := 0) rfl rfl (List.range' 0 10) (segC1 rfl rfl) (by decide) rfl (segP1 rfl rfl) rfl rfl (Nat.le_of_ble_eq_true rfl) ⟨rfl, rfl, Nat.le_of_ble_eq_true rfl, Nat.le_of_ble_eq_true rfl⟩ d_St_load_6 (fun H locs hP hD hS => ?_)
  obtain rfl := Option.some.inj hd
  exact retI hx hb hr hlk hK hP hD hS d_St_load_9 rfl
-- OwnsLift$Standing.over(I)Z
def d_St_over (x1 : Int32) (z : T_St) : Option (Int32) :=
  (d_St_load x1 z).bind fun v_1 => if inb x1 4 = true then (if v_1 ≤ ((q_St_lifts z) x1.toNatClampNeg) then (some (0)) else (some (1))) else none
theorem d_St_over_0 : decode b_St_over 0 = .ok (.aload_n 0, 1) := by decide +kernel
theorem d_St_over_1 : decode b_St_over 1 = .ok (.iload_n 1, 1) := by decide +kernel
theorem d_St_over_2 : decode b_St_over 2 = .ok (.invokevirtual 77, 3) := by decide +kernel
theorem d_St_over_5 : decode b_St_over 5 = .ok (.aload_n 0, 1) := by decide +kernel
theorem d_St_over_6 : decode b_St_over 6 = .ok (.getfield 16, 3) := by decide +kernel
theorem d_St_over_9 : decode b_St_over 9 = .ok (.iload_n 1, 1) := by decide +kernel
theorem d_St_over_10 : decode b_St_over 10 = .ok (.iaload, 1) := by decide +kernel
theorem d_St_over_11 : decode b_St_over 11 = .ok (.if_icmp .le 7, 3) := by decide +kernel
theorem d_St_over_14 : decode b_St_over 14 = .ok (.iconst 1, 1) := by decide +kernel
theorem d_St_over_15 : decode b_St_over 15 = .ok (.goto 4, 3) := by decide +kernel
theorem d_St_over_18 : decode b_St_over 18 = .ok (.iconst 0, 1) := by decide +kernel
theorem d_St_over_19 : decode b_St_over 19 = .ok (.ireturn, 1) := by decide +kernel
theorem o_St_over : OkV y_St_over "OwnsLift$Standing" b_St_over 2 (some .boolean) 1 := ⟨⟨rfl, by decide +kernel, by decide +kernel, by decide +kernel⟩, g_687, g_688, g_77, g_689⟩
set_option maxHeartbeats 4000000 in
set_option maxRecDepth 100000 in
theorem c_St_over (l : Launch) (D : va_G) (g : Nat → ClassId) (a : Nat → Nat) (x1 : Int32) (z : T_St) (v : Int32) (h : d_St_over x1 z = some v) :
    MI l y_St_over b_St_over 2 .boolean ({ frames := 2, cells := 0, slots := 0, locals := 44 } : Room) D g [.ref (a 0), .int x1] (ws_St g a z) (v) (ws_St g a z) := by
  have hd := h
  unfold d_St_over at hd
  refine enterI rfl (Nat.le_of_ble_eq_true rfl) (fun p e s m below meth c A ls hx hb hml hr hown hg hlk hK hA hP hD hS hCs hl => ?_)
  have hown : s.vm.findClass "OwnsLift$Standing" = some m.cls := hown
  have hl : lv_has ls 2 [(0, .ref (a 0)), (1, .int x1)] := hl
  show GI p l e s m ({ frames := 2, cells := 0, slots := 0, locals := 44 } : Room) ([.ref (a 0), .int x1] : List Value).toArray below meth c A D g (ws_St g a z) (v) s.heap [] (F0 m 0 ls [])
  refine lv_aload_n hx hb d_St_over_0 rfl (lv_at hl 0 rfl) ?_
  refine lv_iload_n hx hb d_St_over_1 rfl (lv_at hl 1 rfl) ?_
  obtain ⟨v_1, e_2, hd⟩ := bind_s hd
  refine callVI (ws' := ws_St g a z) (rest := []) (As := [.int x1]) hx hb hml hown hg hK hP hD hS hA hCs hl.1 (c_St_load l D g a x1 z _ e_2) o_St_load g_690 (ci := 9) (q0 := 0) rfl rfl (List.range' 0 10) (segC1 rfl rfl) (by decide) rfl (segP1 rfl rfl) rfl rfl (Nat.le_of_ble_eq_true rfl) ⟨rfl, rfl, Nat.le_of_ble_eq_true rfl, Nat.le_of_ble_eq_true rfl⟩ d_St_over_2 (fun H locs hP hD hS => ?_)
  refine lv_aload_n hx hb d_St_over_5 rfl (lv_at hl 0 rfl) ?_
  refine va_get (D := D) (ci := 9) (v := .ref (a 6)) (C := R_St) (T := F_St) (N := 7) hx hb hg i_St hown hK hP 0 rfl rfl 3 (by decide) (hg _ g_287) (fun _ h9 => h9) rfl d_St_over_6 ?_
  refine lv_iload_n hx hb d_St_over_9 rfl (lv_at hl 1 rfl) ?_
  obtain ⟨h_4, hd⟩ := ite_s hd
  refine ialdK hx hb hK hP 6 0 rfl rfl (inb_t h_4) rfl d_St_over_10 ?_
  refine lv_icmp_le (tgt := 18) hx hb d_St_over_11 (by decide) (fun h_3 => ?_) (fun h_3 => ?_)
  · have hd := ite_t hd h_3
    refine lv_iconst (v := 0) hx hb d_St_over_18 (by decide) ?_
    obtain rfl := Option.some.inj hd
    exact retZ hx hb hr hlk hK hP hD hS d_St_over_19 rfl (by decide +kernel)
  · have hd := ite_f hd h_3
    refine lv_iconst (v := 1) hx hb d_St_over_14 (by decide) ?_
    refine lv_goto (tgt := 19) hx hb d_St_over_15 (by decide) ?_
    obtain rfl := Option.some.inj hd
    exact retZ hx hb hr hlk hK hP hD hS d_St_over_19 rfl (by decide +kernel)
-- OwnsLift$Standing.take(LOwnsLift$Realm;)V
def B_St_take_L92 (x2_f92 : Int32) (k92_120 : T_St → T_Re → Option (T_St × T_Re)) (self92 : Int32 → T_St → T_Re → Option (T_St × T_Re)) (x3_92 : Int32) (z_92 : T_St) (w_92 : T_Re) : Option (T_St × T_Re) :=
  if (q_St_things z_92) ≤ x3_92 then (k92_120 z_92 w_92) else (if inb x2_f92 4 = true then ((d_Re_likeOf x2_f92 x3_92 w_92).bind fun v_8 => if inb x3_92 7 = true then (self92 (x3_92 + 1) (u_St_like z_92 (upd2 (q_St_like z_92) x2_f92.toNatClampNeg x3_92.toNatClampNeg v_8.1)) v_8.2) else none) else none)
def d_St_take_L92 (x2_f92 : Int32) (k92_120 : T_St → T_Re → Option (T_St × T_Re)) (n : Nat) : Int32 → T_St → T_Re → Option (T_St × T_Re) := recN (fun _ _ _ => none) (fun self => B_St_take_L92 x2_f92 k92_120 self) n
def B_St_take_L60 (self60 : Int32 → T_St → T_Re → Option (T_St × T_Re)) (x2_60 : Int32) (z_60 : T_St) (w_60 : T_Re) : Option (T_St × T_Re) :=
  if (q_St_people z_60) ≤ x2_60 then (some (z_60, w_60)) else ((d_Re_liftsOf x2_60 w_60).bind fun v_2 => if inb x2_60 4 = true then ((d_Re_illOf x2_60 v_2.2).bind fun v_4 => if inb x2_60 4 = true then (d_St_take_L92 x2_60 (fun z_92 w_92 => self60 (x2_60 + 1) z_92 w_92) 1000 0 (u_St_ill (u_St_lifts z_60 (upd (q_St_lifts z_60) x2_60.toNatClampNeg v_2.1)) (upd (q_St_ill (u_St_lifts z_60 (upd (q_St_lifts z_60) x2_60.toNatClampNeg v_2.1))) x2_60.toNatClampNeg v_4.1)) v_4.2) else none) else none)
def d_St_take_L60 (n : Nat) : Int32 → T_St → T_Re → Option (T_St × T_Re) := recN (fun _ _ _ => none) (fun self => B_St_take_L60 self) n
def d_St_take (z : T_St) (w : T_Re) : Option (T_St × T_Re) :=
  d_St_take_L60  1000 0 (u_St_owner (u_St_weight (u_St_things (u_St_people z (q_Pe_size (q_Re_people w))) (q_Th_size (q_Re_things w))) (va_cpy (q_Th_weight (q_Re_things w)) (q_St_weight (u_St_things (u_St_people z (q_Pe_size (q_Re_people w))) (q_Th_size (q_Re_things w)))) 0 0 7)) (va_cpy (q_Th_owner (q_Re_things w)) (q_St_owner (u_St_weight (u_St_things (u_St_people z (q_Pe_size (q_Re_people w))) (q_Th_size (q_Re_things w))) (va_cpy (q_Th_weight (q_Re_things w)) (q_St_weight (u_St_things (u_St_people z (q_Pe_size (q_Re_people w))) (q_Th_size (q_Re_things w)))) 0 0 7))) 0 0 7)) w
theorem d_St_take_0 : decode b_St_take 0 = .ok (.aload_n 0, 1) := by decide +kernel
theorem d_St_take_1 : decode b_St_take 1 = .ok (.aload_n 1, 1) := by decide +kernel
theorem d_St_take_2 : decode b_St_take 2 = .ok (.getfield 29, 3) := by decide +kernel
theorem d_St_take_5 : decode b_St_take 5 = .ok (.getfield 35, 3) := by decide +kernel
theorem d_St_take_8 : decode b_St_take 8 = .ok (.putfield 41, 3) := by decide +kernel
theorem d_St_take_11 : decode b_St_take 11 = .ok (.aload_n 0, 1) := by decide +kernel
theorem d_St_take_12 : decode b_St_take 12 = .ok (.aload_n 1, 1) := by decide +kernel
theorem d_St_take_13 : decode b_St_take 13 = .ok (.getfield 43, 3) := by decide +kernel
theorem d_St_take_16 : decode b_St_take 16 = .ok (.getfield 47, 3) := by decide +kernel
theorem d_St_take_19 : decode b_St_take 19 = .ok (.putfield 50, 3) := by decide +kernel
theorem d_St_take_22 : decode b_St_take 22 = .ok (.aload_n 1, 1) := by decide +kernel
theorem d_St_take_23 : decode b_St_take 23 = .ok (.getfield 43, 3) := by decide +kernel
theorem d_St_take_26 : decode b_St_take 26 = .ok (.getfield 52, 3) := by decide +kernel
theorem d_St_take_29 : decode b_St_take 29 = .ok (.iconst 0, 1) := by decide +kernel
theorem d_St_take_30 : decode b_St_take 30 = .ok (.aload_n 0, 1) := by decide +kernel
theorem d_St_take_31 : decode b_St_take 31 = .ok (.getfield 23, 3) := by decide +kernel
theorem d_St_take_34 : decode b_St_take 34 = .ok (.iconst 0, 1) := by decide +kernel
theorem d_St_take_35 : decode b_St_take 35 = .ok (.bipush 7, 2) := by decide +kernel
theorem d_St_take_37 : decode b_St_take 37 = .ok (.invokestatic 53, 3) := by decide +kernel
theorem d_St_take_40 : decode b_St_take 40 = .ok (.aload_n 1, 1) := by decide +kernel
theorem d_St_take_41 : decode b_St_take 41 = .ok (.getfield 43, 3) := by decide +kernel
theorem d_St_take_44 : decode b_St_take 44 = .ok (.getfield 59, 3) := by decide +kernel
theorem d_St_take_47 : decode b_St_take 47 = .ok (.iconst 0, 1) := by decide +kernel
theorem d_St_take_48 : decode b_St_take 48 = .ok (.aload_n 0, 1) := by decide +kernel
theorem d_St_take_49 : decode b_St_take 49 = .ok (.getfield 26, 3) := by decide +kernel
theorem d_St_take_52 : decode b_St_take 52 = .ok (.iconst 0, 1) := by decide +kernel
theorem d_St_take_53 : decode b_St_take 53 = .ok (.bipush 7, 2) := by decide +kernel
theorem d_St_take_55 : decode b_St_take 55 = .ok (.invokestatic 53, 3) := by decide +kernel
theorem d_St_take_58 : decode b_St_take 58 = .ok (.iconst 0, 1) := by decide +kernel
theorem d_St_take_59 : decode b_St_take 59 = .ok (.istore_n 2, 1) := by decide +kernel
theorem d_St_take_60 : decode b_St_take 60 = .ok (.iload_n 2, 1) := by decide +kernel
theorem d_St_take_61 : decode b_St_take 61 = .ok (.aload_n 0, 1) := by decide +kernel
theorem d_St_take_62 : decode b_St_take 62 = .ok (.getfield 41, 3) := by decide +kernel
theorem d_St_take_65 : decode b_St_take 65 = .ok (.if_icmp .ge 61, 3) := by decide +kernel
theorem d_St_take_68 : decode b_St_take 68 = .ok (.aload_n 0, 1) := by decide +kernel
theorem d_St_take_69 : decode b_St_take 69 = .ok (.getfield 16, 3) := by decide +kernel
theorem d_St_take_72 : decode b_St_take 72 = .ok (.iload_n 2, 1) := by decide +kernel
theorem d_St_take_73 : decode b_St_take 73 = .ok (.aload_n 1, 1) := by decide +kernel
theorem d_St_take_74 : decode b_St_take 74 = .ok (.iload_n 2, 1) := by decide +kernel
theorem d_St_take_75 : decode b_St_take 75 = .ok (.invokevirtual 60, 3) := by decide +kernel
theorem d_St_take_78 : decode b_St_take 78 = .ok (.iastore, 1) := by decide +kernel
theorem d_St_take_79 : decode b_St_take 79 = .ok (.aload_n 0, 1) := by decide +kernel
theorem d_St_take_80 : decode b_St_take 80 = .ok (.getfield 20, 3) := by decide +kernel
theorem d_St_take_83 : decode b_St_take 83 = .ok (.iload_n 2, 1) := by decide +kernel
theorem d_St_take_84 : decode b_St_take 84 = .ok (.aload_n 1, 1) := by decide +kernel
theorem d_St_take_85 : decode b_St_take 85 = .ok (.iload_n 2, 1) := by decide +kernel
theorem d_St_take_86 : decode b_St_take 86 = .ok (.invokevirtual 64, 3) := by decide +kernel
theorem d_St_take_89 : decode b_St_take 89 = .ok (.iastore, 1) := by decide +kernel
theorem d_St_take_90 : decode b_St_take 90 = .ok (.iconst 0, 1) := by decide +kernel
theorem d_St_take_91 : decode b_St_take 91 = .ok (.istore_n 3, 1) := by decide +kernel
theorem d_St_take_92 : decode b_St_take 92 = .ok (.iload_n 3, 1) := by decide +kernel
theorem d_St_take_93 : decode b_St_take 93 = .ok (.aload_n 0, 1) := by decide +kernel
theorem d_St_take_94 : decode b_St_take 94 = .ok (.getfield 50, 3) := by decide +kernel
theorem d_St_take_97 : decode b_St_take 97 = .ok (.if_icmp .ge 23, 3) := by decide +kernel
theorem d_St_take_100 : decode b_St_take 100 = .ok (.aload_n 0, 1) := by decide +kernel
theorem d_St_take_101 : decode b_St_take 101 = .ok (.getfield 11, 3) := by decide +kernel
theorem d_St_take_104 : decode b_St_take 104 = .ok (.iload_n 2, 1) := by decide +kernel
theorem d_St_take_105 : decode b_St_take 105 = .ok (.aaload, 1) := by decide +kernel
theorem d_St_take_106 : decode b_St_take 106 = .ok (.iload_n 3, 1) := by decide +kernel
theorem d_St_take_107 : decode b_St_take 107 = .ok (.aload_n 1, 1) := by decide +kernel
theorem d_St_take_108 : decode b_St_take 108 = .ok (.iload_n 2, 1) := by decide +kernel
theorem d_St_take_109 : decode b_St_take 109 = .ok (.iload_n 3, 1) := by decide +kernel
theorem d_St_take_110 : decode b_St_take 110 = .ok (.invokevirtual 67, 3) := by decide +kernel
theorem d_St_take_113 : decode b_St_take 113 = .ok (.iastore, 1) := by decide +kernel
theorem d_St_take_114 : decode b_St_take 114 = .ok (.iinc 3 1, 3) := by decide +kernel
theorem d_St_take_117 : decode b_St_take 117 = .ok (.goto (-25), 3) := by decide +kernel
theorem d_St_take_120 : decode b_St_take 120 = .ok (.iinc 2 1, 3) := by decide +kernel
theorem d_St_take_123 : decode b_St_take 123 = .ok (.goto (-63), 3) := by decide +kernel
theorem d_St_take_126 : decode b_St_take 126 = .ok (.return_, 1) := by decide +kernel
theorem o_St_take : OkV y_St_take "OwnsLift$Standing" b_St_take 4 none 1 := ⟨⟨rfl, by decide +kernel, by decide +kernel, by decide +kernel⟩, g_634, g_635, g_77, g_636⟩
set_option maxHeartbeats 4000000 in
set_option maxRecDepth 100000 in
theorem c_St_take (l : Launch) (D : va_G) (g : Nat → ClassId) (a : Nat → Nat) (b : Nat → Nat) (z : T_St) (w : T_Re) (v : T_St × T_Re) (h : d_St_take z w = some v) :
    MV l y_St_take b_St_take 4 ({ frames := 4, cells := 0, slots := 0, locals := 96 } : Room) D g [.ref (a 0), .ref (b 0)] (ws_St g a z ++ ws_Re g b w) (ws_St g a v.1 ++ ws_Re g b v.2) := by
  have hd := h
  unfold d_St_take at hd
  refine enterV rfl (Nat.le_of_ble_eq_true rfl) (fun p e s m below meth c A ls hx hb hml hr hown hg hlk hK hA hP hD hS hCs hl => ?_)
  have hown : s.vm.findClass "OwnsLift$Standing" = some m.cls := hown
  have hl : lv_has ls 4 [(0, .ref (a 0)), (1, .ref (b 0))] := hl
  show GV p l e s m ({ frames := 4, cells := 0, slots := 0, locals := 96 } : Room) ([.ref (a 0), .ref (b 0)] : List Value).toArray below meth c A D g (ws_St g a v.1 ++ ws_Re g b v.2) s.heap [] (F0 m 0 ls [])
  refine lv_aload_n hx hb d_St_take_0 rfl (lv_at hl 0 rfl) ?_
  refine lv_aload_n hx hb d_St_take_1 rfl (lv_at hl 1 rfl) ?_
  refine va_get (D := D) (ci := 7) (v := .ref (b 7)) (C := R_Re) (T := F_Re) (N := 11) hx hb hg i_Re hown hK hP 10 rfl rfl 4 (by decide) (hg _ g_211) (fun _ h9 => h9) rfl d_St_take_2 ?_
  refine va_get (D := D) (ci := 5) (v := .int (q_Pe_size (q_Re_people w))) (C := R_Pe) (T := F_Pe) (N := 7) hx hb hg i_Pe hown hK hP 17 rfl rfl 0 (by decide) (hg _ g_139) (fun _ h9 => h9) rfl d_St_take_5 ?_
  refine va_put (D := D) (ci := 9) (v := .int (q_Pe_size (q_Re_people w))) (ty := .int) (C := R_St) (T := F_St) (N := 7) hx hb hg i_St t_St t_St_ok n_St hown hK hP hD hS 0 rfl rfl 0 (by decide) (hg _ g_278) (fun _ h9 => h9) rfl (by decide +kernel) rfl rfl (Nat.le_of_ble_eq_true rfl) d_St_take_8 (fun H locs hP hD hS => ?_)
  have hP : va_P D classes (ws_St g a (u_St_people z (q_Pe_size (q_Re_people w))) ++ ws_Re g b w) H := hP
  have hD : va_D A (ws_St g a (u_St_people z (q_Pe_size (q_Re_people w))) ++ ws_Re g b w) := hD
  refine lv_aload_n hx hb d_St_take_11 rfl (lv_at hl 0 rfl) ?_
  refine lv_aload_n hx hb d_St_take_12 rfl (lv_at hl 1 rfl) ?_
  refine va_get (D := D) (ci := 7) (v := .ref (b 18)) (C := R_Re) (T := F_Re) (N := 11) hx hb hg i_Re hown hK hP 10 rfl rfl 5 (by decide) (hg _ g_214) (fun _ h9 => h9) rfl d_St_take_13 ?_
  refine va_get (D := D) (ci := 10) (v := .int (q_Th_size (q_Re_things w))) (C := R_Th) (T := F_Th) (N := 3) hx hb hg i_Th hown hK hP 28 rfl rfl 0 (by decide) (hg _ g_185) (fun _ h9 => h9) rfl d_St_take_16 ?_
  refine va_put (D := D) (ci := 9) (v := .int (q_Th_size (q_Re_things w))) (ty := .int) (C := R_St) (T := F_St) (N := 7) hx hb hg i_St t_St t_St_ok n_St hown hK hP hD hS 0 rfl rfl 1 (by decide) (hg _ g_281) (fun _ h9 => h9) rfl (by decide +kernel) rfl rfl (Nat.le_of_ble_eq_true rfl) d_St_take_19 (fun H locs hP hD hS => ?_)
  have hP : va_P D classes (ws_St g a (u_St_things (u_St_people z (q_Pe_size (q_Re_people w))) (q_Th_size (q_Re_things w))) ++ ws_Re g b w) H := hP
  have hD : va_D A (ws_St g a (u_St_things (u_St_people z (q_Pe_size (q_Re_people w))) (q_Th_size (q_Re_things w))) ++ ws_Re g b w) := hD
  refine lv_aload_n hx hb d_St_take_22 rfl (lv_at hl 1 rfl) ?_
  refine va_get (D := D) (ci := 7) (v := .ref (b 18)) (C := R_Re) (T := F_Re) (N := 11) hx hb hg i_Re hown hK hP 10 rfl rfl 5 (by decide) (hg _ g_214) (fun _ h9 => h9) rfl d_St_take_23 ?_
  refine va_get (D := D) (ci := 10) (v := .ref (b 19)) (C := R_Th) (T := F_Th) (N := 3) hx hb hg i_Th hown hK hP 28 rfl rfl 1 (by decide) (hg _ g_189) (fun _ h9 => h9) rfl d_St_take_26 ?_
  refine lv_iconst (v := 0) hx hb d_St_take_29 (by decide) ?_
  refine lv_aload_n hx hb d_St_take_30 rfl (lv_at hl 0 rfl) ?_
  refine va_get (D := D) (ci := 9) (v := .ref (a 8)) (C := R_St) (T := F_St) (N := 7) hx hb hg i_St hown hK hP 0 rfl rfl 5 (by decide) (hg _ g_294) (fun _ h9 => h9) rfl d_St_take_31 ?_
  refine lv_iconst (v := 0) hx hb d_St_take_34 (by decide) ?_
  refine lv_bipush (v := 7) hx hb d_St_take_35 (by decide) ?_
  refine copyK (N := 7) hx hb (hml.trans hl.1.symm) hown (hg _ g_637) hg hK hP hD hS 29 8 rfl rfl (by decide +kernel) (by decide +kernel) (by decide) (by decide) (Nat.le_of_ble_eq_true rfl) (Nat.le_of_ble_eq_true (by decide +kernel)) d_St_take_37 (fun H locs hP hD hS => ?_)
  have hP : va_P D classes (ws_St g a (u_St_weight (u_St_things (u_St_people z (q_Pe_size (q_Re_people w))) (q_Th_size (q_Re_things w))) (va_cpy (q_Th_weight (q_Re_things w)) (q_St_weight (u_St_things (u_St_people z (q_Pe_size (q_Re_people w))) (q_Th_size (q_Re_things w)))) 0 0 7)) ++ ws_Re g b w) H := hP
  have hD : va_D A (ws_St g a (u_St_weight (u_St_things (u_St_people z (q_Pe_size (q_Re_people w))) (q_Th_size (q_Re_things w))) (va_cpy (q_Th_weight (q_Re_things w)) (q_St_weight (u_St_things (u_St_people z (q_Pe_size (q_Re_people w))) (q_Th_size (q_Re_things w)))) 0 0 7)) ++ ws_Re g b w) := hD
  refine lv_aload_n hx hb d_St_take_40 rfl (lv_at hl 1 rfl) ?_
  refine va_get (D := D) (ci := 7) (v := .ref (b 18)) (C := R_Re) (T := F_Re) (N := 11) hx hb hg i_Re hown hK hP 10 rfl rfl 5 (by decide) (hg _ g_214) (fun _ h9 => h9) rfl d_St_take_41 ?_
  refine va_get (D := D) (ci := 10) (v := .ref (b 20)) (C := R_Th) (T := F_Th) (N := 3) hx hb hg i_Th hown hK hP 28 rfl rfl 2 (by decide) (hg _ g_193) (fun _ h9 => h9) rfl d_St_take_44 ?_
  refine lv_iconst (v := 0) hx hb d_St_take_47 (by decide) ?_
  refine lv_aload_n hx hb d_St_take_48 rfl (lv_at hl 0 rfl) ?_
  refine va_get (D := D) (ci := 9) (v := .ref (a 9)) (C := R_St) (T := F_St) (N := 7) hx hb hg i_St hown hK hP 0 rfl rfl 6 (by decide) (hg _ g_297) (fun _ h9 => h9) rfl d_St_take_49 ?_
  refine lv_iconst (v := 0) hx hb d_St_take_52 (by decide) ?_
  refine lv_bipush (v := 7) hx hb d_St_take_53 (by decide) ?_
  refine copyK (N := 7) hx hb (hml.trans hl.1.symm) hown (hg _ g_637) hg hK hP hD hS 30 9 rfl rfl (by decide +kernel) (by decide +kernel) (by decide) (by decide) (Nat.le_of_ble_eq_true rfl) (Nat.le_of_ble_eq_true (by decide +kernel)) d_St_take_55 (fun H locs hP hD hS => ?_)
  have hP : va_P D classes (ws_St g a (u_St_owner (u_St_weight (u_St_things (u_St_people z (q_Pe_size (q_Re_people w))) (q_Th_size (q_Re_things w))) (va_cpy (q_Th_weight (q_Re_things w)) (q_St_weight (u_St_things (u_St_people z (q_Pe_size (q_Re_people w))) (q_Th_size (q_Re_things w)))) 0 0 7)) (va_cpy (q_Th_owner (q_Re_things w)) (q_St_owner (u_St_weight (u_St_things (u_St_people z (q_Pe_size (q_Re_people w))) (q_Th_size (q_Re_things w))) (va_cpy (q_Th_weight (q_Re_things w)) (q_St_weight (u_St_things (u_St_people z (q_Pe_size (q_Re_people w))) (q_Th_size (q_Re_things w)))) 0 0 7))) 0 0 7)) ++ ws_Re g b w) H := hP
  have hD : va_D A (ws_St g a (u_St_owner (u_St_weight (u_St_things (u_St_people z (q_Pe_size (q_Re_people w))) (q_Th_size (q_Re_things w))) (va_cpy (q_Th_weight (q_Re_things w)) (q_St_weight (u_St_things (u_St_people z (q_Pe_size (q_Re_people w))) (q_Th_size (q_Re_things w)))) 0 0 7)) (va_cpy (q_Th_owner (q_Re_things w)) (q_St_owner (u_St_weight (u_St_things (u_St_people z (q_Pe_size (q_Re_people w))) (q_Th_size (q_Re_things w))) (va_cpy (q_Th_weight (q_Re_things w)) (q_St_weight (u_St_things (u_St_people z (q_Pe_size (q_Re_people w))) (q_Th_size (q_Re_things w)))) 0 0 7))) 0 0 7)) ++ ws_Re g b w) := hD
  refine lv_iconst (v := 0) hx hb d_St_take_58 (by decide) ?_
  refine lv_istore_n (lv' := [(2, .int 0), (0, .ref (a 0)), (1, .ref (b 0))]) hx hb d_St_take_59 rfl hl (by decide) rfl (fun ls hl => ?_)
  have lp60 : ∀ (n : Nat) (x2_60 : Int32) (z_60 : T_St) (w_60 : T_Re) (H : Heap) (locs : List Loc) (ls : Array Slot), va_P D classes (ws_St g a z_60 ++ ws_Re g b w_60) H → va_D A (ws_St g a z_60 ++ ws_Re g b w_60) → va_S A s.heap H locs → lv_has ls 4 [(0, .ref (a 0)), (1, .ref (b 0)), (2, .int x2_60)] → d_St_take_L60 n x2_60 z_60 w_60 = some v → GV p l e s m ({ frames := 4, cells := 0, slots := 0, locals := 96 } : Room) ([.ref (a 0), .ref (b 0)] : List Value).toArray below meth c A D g (ws_St g a v.1 ++ ws_Re g b v.2) H locs (F0 m 60 ls []) := by
    intro n
    induction n with
    | zero =>
      intro  x2_60 z_60 w_60 H locs ls hP hD hS hl hd
      have hd : none = some v := hd
      cases hd
    | succ n ih60 =>
      intro  x2_60 z_60 w_60 H locs ls hP hD hS hl hd
      have hd : B_St_take_L60 (d_St_take_L60 n) x2_60 z_60 w_60 = some v := hd
      generalize d_St_take_L60 n = self60 at ih60 hd
      unfold B_St_take_L60 at hd
      refine lv_iload_n hx hb d_St_take_60 rfl (lv_at hl 2 rfl) ?_
      refine lv_aload_n hx hb d_St_take_61 rfl (lv_at hl 0 rfl) ?_
      refine va_get (D := D) (ci := 9) (v := .int (q_St_people z_60)) (C := R_St) (T := F_St) (N := 7) hx hb hg i_St hown hK hP 0 rfl rfl 0 (by decide) (hg _ g_278) (fun _ h9 => h9) rfl d_St_take_62 ?_
      refine lv_icmp_ge (tgt := 126) hx hb d_St_take_65 (by decide) (fun h_1 => ?_) (fun h_1 => ?_)
      · have hd := ite_t hd h_1
        obtain rfl := Option.some.inj hd
        exact retV hx hb hr hlk hK hP hD hS d_St_take_126
      · have hd := ite_f hd h_1
        refine lv_aload_n hx hb d_St_take_68 rfl (lv_at hl 0 rfl) ?_
        refine va_get (D := D) (ci := 9) (v := .ref (a 6)) (C := R_St) (T := F_St) (N := 7) hx hb hg i_St hown hK hP 0 rfl rfl 3 (by decide) (hg _ g_287) (fun _ h9 => h9) rfl d_St_take_69 ?_
        refine lv_iload_n hx hb d_St_take_72 rfl (lv_at hl 2 rfl) ?_
        refine lv_aload_n hx hb d_St_take_73 rfl (lv_at hl 1 rfl) ?_
        refine lv_iload_n hx hb d_St_take_74 rfl (lv_at hl 2 rfl) ?_
        obtain ⟨v_2, e_3, hd⟩ := bind_s hd
        refine callVI (ws' := ws_St g a z_60 ++ ws_Re g b v_2.2) (rest := [.int x2_60, .ref (a 6)]) (As := [.int x2_60]) hx hb hml hown hg hK hP hD hS hA hCs hl.1 (c_Re_liftsOf l D g b x2_60 w_60 _ e_3) o_Re_liftsOf g_638 (ci := 7) (q0 := 10) rfl rfl (List.range' 10 24) (segC1 rfl rfl) (by decide) rfl (segP1 rfl rfl) rfl rfl (Nat.le_of_ble_eq_true rfl) ⟨rfl, rfl, Nat.le_of_ble_eq_true rfl, Nat.le_of_ble_eq_true rfl⟩ d_St_take_75 (fun H locs hP hD hS => ?_)
        obtain ⟨h_13, hd⟩ := ite_s hd
        refine iastK hx hb hK hP hD hS 6 0 rfl rfl (inb_t h_13) rfl d_St_take_78 (fun H locs hP hD hS => ?_)
        have hP : va_P D classes (ws_St g a (u_St_lifts z_60 (upd (q_St_lifts z_60) x2_60.toNatClampNeg v_2.1)) ++ ws_Re g b v_2.2) H := hP
        have hD : va_D A (ws_St g a (u_St_lifts z_60 (upd (q_St_lifts z_60) x2_60.toNatClampNeg v_2.1)) ++ ws_Re g b v_2.2) := hD
        refine lv_aload_n hx hb d_St_take_79 rfl (lv_at hl 0 rfl) ?_
        refine va_get (D := D) (ci := 9) (v := .ref (a 7)) (C := R_St) (T := F_St) (N := 7) hx hb hg i_St hown hK hP 0 rfl rfl 4 (by decide) (hg _ g_292) (fun _ h9 => h9) rfl d_St_take_80 ?_
        refine lv_iload_n hx hb d_St_take_83 rfl (lv_at hl 2 rfl) ?_
        refine lv_aload_n hx hb d_St_take_84 rfl (lv_at hl 1 rfl) ?_
        refine lv_iload_n hx hb d_St_take_85 rfl (lv_at hl 2 rfl) ?_
        obtain ⟨v_4, e_5, hd⟩ := bind_s hd
        refine callVI (ws' := ws_St g a (u_St_lifts z_60 (upd (q_St_lifts z_60) x2_60.toNatClampNeg v_2.1)) ++ ws_Re g b v_4.2) (rest := [.int x2_60, .ref (a 7)]) (As := [.int x2_60]) hx hb hml hown hg hK hP hD hS hA hCs hl.1 (c_Re_illOf l D g b x2_60 v_2.2 _ e_5) o_Re_illOf g_661 (ci := 7) (q0 := 10) rfl rfl (List.range' 10 24) (segC1 rfl rfl) (by decide) rfl (segP1 rfl rfl) rfl rfl (Nat.le_of_ble_eq_true rfl) ⟨rfl, rfl, Nat.le_of_ble_eq_true rfl, Nat.le_of_ble_eq_true rfl⟩ d_St_take_86 (fun H locs hP hD hS => ?_)
        obtain ⟨h_12, hd⟩ := ite_s hd
        refine iastK hx hb hK hP hD hS 7 0 rfl rfl (inb_t h_12) rfl d_St_take_89 (fun H locs hP hD hS => ?_)
        have hP : va_P D classes (ws_St g a (u_St_ill (u_St_lifts z_60 (upd (q_St_lifts z_60) x2_60.toNatClampNeg v_2.1)) (upd (q_St_ill (u_St_lifts z_60 (upd (q_St_lifts z_60) x2_60.toNatClampNeg v_2.1))) x2_60.toNatClampNeg v_4.1)) ++ ws_Re g b v_4.2) H := hP
        have hD : va_D A (ws_St g a (u_St_ill (u_St_lifts z_60 (upd (q_St_lifts z_60) x2_60.toNatClampNeg v_2.1)) (upd (q_St_ill (u_St_lifts z_60 (upd (q_St_lifts z_60) x2_60.toNatClampNeg v_2.1))) x2_60.toNatClampNeg v_4.1)) ++ ws_Re g b v_4.2) := hD
        refine lv_iconst (v := 0) hx hb d_St_take_90 (by decide) ?_
        refine lv_istore_n (lv' := [(3, .int 0), (0, .ref (a 0)), (1, .ref (b 0)), (2, .int x2_60)]) hx hb d_St_take_91 rfl hl (by decide) rfl (fun ls hl => ?_)
        have ex92_120 : ∀ (z_92 : T_St) (w_92 : T_Re) (H : Heap) (locs : List Loc) (ls : Array Slot), va_P D classes (ws_St g a z_92 ++ ws_Re g b w_92) H → va_D A (ws_St g a z_92 ++ ws_Re g b w_92) → va_S A s.heap H locs → lv_has ls 4 [(0, .ref (a 0)), (1, .ref (b 0)), (2, .int x2_60)] → (self60 (x2_60 + 1) z_92 w_92) = some v → GV p l e s m ({ frames := 4, cells := 0, slots := 0, locals := 96 } : Room) ([.ref (a 0), .ref (b 0)] : List Value).toArray below meth c A D g (ws_St g a v.1 ++ ws_Re g b v.2) H locs (F0 m 120 ls []) := by
          intro z_92 w_92 H locs ls hP hD hS hl hd
          refine lv_iinc (v := x2_60 + 1) (lv' := [(2, .int (x2_60 + 1)), (0, .ref (a 0)), (1, .ref (b 0))]) hx hb d_St_take_120 hl (k := 2) rfl (by rfl) (by decide) rfl (fun ls hl => ?_)
          refine lv_goto (tgt := 60) hx hb d_St_take_123 (by decide) ?_
          exact ih60 (x2_60 + 1) z_92 w_92 _ _ _ hP hD hS (lv_sub hl [1, 2, 0] rfl) hd
        have lp92 : ∀ (x2_f92 : Int32) (k92_120 : T_St → T_Re → Option (T_St × T_Re)) (hk92_120 : ∀ (z_92 : T_St) (w_92 : T_Re) (H : Heap) (locs : List Loc) (ls : Array Slot), va_P D classes (ws_St g a z_92 ++ ws_Re g b w_92) H → va_D A (ws_St g a z_92 ++ ws_Re g b w_92) → va_S A s.heap H locs → lv_has ls 4 [(0, .ref (a 0)), (1, .ref (b 0)), (2, .int x2_f92)] → k92_120 z_92 w_92 = some v → GV p l e s m ({ frames := 4, cells := 0, slots := 0, locals := 96 } : Room) ([.ref (a 0), .ref (b 0)] : List Value).toArray below meth c A D g (ws_St g a v.1 ++ ws_Re g b v.2) H locs (F0 m 120 ls [])) (n : Nat) (x3_92 : Int32) (z_92 : T_St) (w_92 : T_Re) (H : Heap) (locs : List Loc) (ls : Array Slot), va_P D classes (ws_St g a z_92 ++ ws_Re g b w_92) H → va_D A (ws_St g a z_92 ++ ws_Re g b w_92) → va_S A s.heap H locs → lv_has ls 4 [(0, .ref (a 0)), (1, .ref (b 0)), (2, .int x2_f92), (3, .int x3_92)] → d_St_take_L92 x2_f92 k92_120 n x3_92 z_92 w_92 = some v → GV p l e s m ({ frames := 4, cells := 0, slots := 0, locals := 96 } : Room) ([.ref (a 0), .ref (b 0)] : List Value).toArray below meth c A D g (ws_St g a v.1 ++ ws_Re g b v.2) H locs (F0 m 92 ls []) := by
          intro x2_f92 k92_120 hk92_120 n
          induction n with
          | zero =>
            intro  x3_92 z_92 w_92 H locs ls hP hD hS hl hd
            have hd : none = some v := hd
            cases hd
          | succ n ih92 =>
            intro  x3_92 z_92 w_92 H locs ls hP hD hS hl hd
            have hd : B_St_take_L92 x2_f92 k92_120 (d_St_take_L92 x2_f92 k92_120 n) x3_92 z_92 w_92 = some v := hd
            generalize d_St_take_L92 x2_f92 k92_120 n = self92 at ih92 hd
            unfold B_St_take_L92 at hd
            refine lv_iload_n hx hb d_St_take_92 rfl (lv_at hl 3 rfl) ?_
            refine lv_aload_n hx hb d_St_take_93 rfl (lv_at hl 0 rfl) ?_
            refine va_get (D := D) (ci := 9) (v := .int (q_St_things z_92)) (C := R_St) (T := F_St) (N := 7) hx hb hg i_St hown hK hP 0 rfl rfl 1 (by decide) (hg _ g_281) (fun _ h9 => h9) rfl d_St_take_94 ?_
            refine lv_icmp_ge (tgt := 120) hx hb d_St_take_97 (by decide) (fun h_6 => ?_) (fun h_6 => ?_)
            · have hd := ite_t hd h_6
              exact hk92_120 z_92 w_92 _ _ _ hP hD hS (lv_sub hl [0, 1, 2] rfl) hd
            · have hd := ite_f hd h_6
              refine lv_aload_n hx hb d_St_take_100 rfl (lv_at hl 0 rfl) ?_
              refine va_get (D := D) (ci := 9) (v := .ref (a 1)) (C := R_St) (T := F_St) (N := 7) hx hb hg i_St hown hK hP 0 rfl rfl 2 (by decide) (hg _ g_284) (fun _ h9 => h9) rfl d_St_take_101 ?_
              refine lv_iload_n hx hb d_St_take_104 rfl (lv_at hl 2 rfl) ?_
              obtain ⟨h_7, hd⟩ := ite_s hd
              refine aldA hx hb hK hP 1 rfl (inb_t h_7) d_St_take_105 ?_
              refine lv_iload_n hx hb d_St_take_106 rfl (lv_at hl 3 rfl) ?_
              refine lv_aload_n hx hb d_St_take_107 rfl (lv_at hl 1 rfl) ?_
              refine lv_iload_n hx hb d_St_take_108 rfl (lv_at hl 2 rfl) ?_
              refine lv_iload_n hx hb d_St_take_109 rfl (lv_at hl 3 rfl) ?_
              obtain ⟨v_8, e_9, hd⟩ := bind_s hd
              refine callVI (ws' := ws_St g a z_92 ++ ws_Re g b v_8.2) (rest := [.int x3_92, .ref (a (x2_f92.toNatClampNeg + 2))]) (As := [.int x2_f92, .int x3_92]) hx hb hml hown hg hK hP hD hS hA hCs hl.1 (c_Re_likeOf l D g b x2_f92 x3_92 w_92 _ e_9) o_Re_likeOf g_666 (ci := 7) (q0 := 10) rfl rfl (List.range' 10 24) (segC1 rfl rfl) (by decide) rfl (segP1 rfl rfl) rfl rfl (Nat.le_of_ble_eq_true rfl) ⟨rfl, rfl, Nat.le_of_ble_eq_true rfl, Nat.le_of_ble_eq_true rfl⟩ d_St_take_110 (fun H locs hP hD hS => ?_)
              obtain ⟨h_10, hd⟩ := ite_s hd
              have hset_11 := (show ∀ k, k < 4 → (ws_St g a z_92 ++ ws_Re g b v_8.2).set (2 + k) (a (k + 2), .inl (g 0, 7, .inl (upd ((q_St_like z_92) k) x3_92.toNatClampNeg v_8.1))) = ws_St g a (u_St_like z_92 (upd2 (q_St_like z_92) k x3_92.toNatClampNeg v_8.1)) ++ ws_Re g b v_8.2 from fun k hk => match k, hk with | 0, _ => rfl | 1, _ => rfl | 2, _ => rfl | 3, _ => rfl | k + 4, hk => absurd hk (by omega)) _ (vp_lt (inb_t h_7))
              refine iastK hx hb hK hP hD hS (2 + x2_f92.toNatClampNeg) 0 ((show ∀ k, k < 4 → (ws_St g a z_92 ++ ws_Re g b v_8.2)[2 + k]? = some (a (k + 2), .inl (g 0, 7, .inl ((q_St_like z_92) k))) from fun k hk => match k, hk with | 0, _ => rfl | 1, _ => rfl | 2, _ => rfl | 3, _ => rfl | k + 4, hk => absurd hk (by omega)) _ (vp_lt (inb_t h_7))) rfl (inb_t h_10) rfl d_St_take_113 (fun H locs hP hD hS => ?_)
              rw [hset_11] at hP hD
              refine lv_iinc (v := x3_92 + 1) (lv' := [(3, .int (x3_92 + 1)), (0, .ref (a 0)), (1, .ref (b 0)), (2, .int x2_f92)]) hx hb d_St_take_114 hl (k := 3) rfl (by rfl) (by decide) rfl (fun ls hl => ?_)
              refine lv_goto (tgt := 92) hx hb d_St_take_117 (by decide) ?_
              exact ih92 (x3_92 + 1) (u_St_like z_92 (upd2 (q_St_like z_92) x2_f92.toNatClampNeg x3_92.toNatClampNeg v_8.1)) v_8.2 _ _ _ hP hD hS (lv_sub hl [1, 2, 3, 0] rfl) hd
        exact lp92 x2_60 _ ex92_120 1000 0 (u_St_ill (u_St_lifts z_60 (upd (q_St_lifts z_60) x2_60.toNatClampNeg v_2.1)) (upd (q_St_ill (u_St_lifts z_60 (upd (q_St_lifts z_60) x2_60.toNatClampNeg v_2.1))) x2_60.toNatClampNeg v_4.1)) v_4.2 _ _ _ hP hD hS (lv_sub hl [1, 2, 3, 0] rfl) hd
  exact lp60 1000 0 (u_St_owner (u_St_weight (u_St_things (u_St_people z (q_Pe_size (q_Re_people w))) (q_Th_size (q_Re_things w))) (va_cpy (q_Th_weight (q_Re_things w)) (q_St_weight (u_St_things (u_St_people z (q_Pe_size (q_Re_people w))) (q_Th_size (q_Re_things w)))) 0 0 7)) (va_cpy (q_Th_owner (q_Re_things w)) (q_St_owner (u_St_weight (u_St_things (u_St_people z (q_Pe_size (q_Re_people w))) (q_Th_size (q_Re_things w))) (va_cpy (q_Th_weight (q_Re_things w)) (q_St_weight (u_St_things (u_St_people z (q_Pe_size (q_Re_people w))) (q_Th_size (q_Re_things w)))) 0 0 7))) 0 0 7)) w _ _ _ hP hD hS (lv_sub hl [1, 2, 0] rfl) hd
-- OwnsLift$Standing.dearer(III)Z
def d_St_dearer (x1 : Int32) (x2 : Int32) (x3 : Int32) (z : T_St) : Option (Int32) :=
  if inb x2 7 = true then (if ((q_St_weight z) x2.toNatClampNeg) = 0 then (if inb x2 7 = true then (if inb x3 7 = true then (if ((q_St_weight z) x3.toNatClampNeg) ≤ ((q_St_weight z) x2.toNatClampNeg) then (some (0)) else (some (1))) else none) else none) else (if inb x3 7 = true then (if ((q_St_weight z) x3.toNatClampNeg) = 0 then (if inb x2 7 = true then (if inb x3 7 = true then (if ((q_St_weight z) x3.toNatClampNeg) ≤ ((q_St_weight z) x2.toNatClampNeg) then (some (0)) else (some (1))) else none) else none) else (if inb x1 4 = true then (if inb x2 7 = true then (if inb x3 7 = true then (if inb x1 4 = true then (if inb x3 7 = true then (if inb x2 7 = true then (if (((q_St_like z) x1.toNatClampNeg x2.toNatClampNeg) * ((q_St_weight z) x3.toNatClampNeg)) ≤ (((q_St_like z) x1.toNatClampNeg x3.toNatClampNeg) * ((q_St_weight z) x2.toNatClampNeg)) then (some (0)) else (some (1))) else none) else none) else none) else none) else none) else none)) else none)) else none
theorem nz_St_dearer {x1 : Int32} {x2 : Int32} {x3 : Int32} {z : T_St} {v : Int32} (h : d_St_dearer x1 x2 x3 z = some v) : narrow .boolean (.int v) = .int v := by
  unfold d_St_dearer at h
  (repeat' split at h) <;> first | (cases h; done) | (obtain rfl := Option.some.inj h; rfl)
theorem d_St_dearer_0 : decode b_St_dearer 0 = .ok (.aload_n 0, 1) := by decide +kernel
theorem d_St_dearer_1 : decode b_St_dearer 1 = .ok (.getfield 23, 3) := by decide +kernel
theorem d_St_dearer_4 : decode b_St_dearer 4 = .ok (.iload_n 2, 1) := by decide +kernel
theorem d_St_dearer_5 : decode b_St_dearer 5 = .ok (.iaload, 1) := by decide +kernel
theorem d_St_dearer_6 : decode b_St_dearer 6 = .ok (.ifCond .eq 12, 3) := by decide +kernel
theorem d_St_dearer_9 : decode b_St_dearer 9 = .ok (.aload_n 0, 1) := by decide +kernel
theorem d_St_dearer_10 : decode b_St_dearer 10 = .ok (.getfield 23, 3) := by decide +kernel
theorem d_St_dearer_13 : decode b_St_dearer 13 = .ok (.iload_n 3, 1) := by decide +kernel
theorem d_St_dearer_14 : decode b_St_dearer 14 = .ok (.iaload, 1) := by decide +kernel
theorem d_St_dearer_15 : decode b_St_dearer 15 = .ok (.ifCond .ne 24, 3) := by decide +kernel
theorem d_St_dearer_18 : decode b_St_dearer 18 = .ok (.aload_n 0, 1) := by decide +kernel
theorem d_St_dearer_19 : decode b_St_dearer 19 = .ok (.getfield 23, 3) := by decide +kernel
theorem d_St_dearer_22 : decode b_St_dearer 22 = .ok (.iload_n 2, 1) := by decide +kernel
theorem d_St_dearer_23 : decode b_St_dearer 23 = .ok (.iaload, 1) := by decide +kernel
theorem d_St_dearer_24 : decode b_St_dearer 24 = .ok (.aload_n 0, 1) := by decide +kernel
theorem d_St_dearer_25 : decode b_St_dearer 25 = .ok (.getfield 23, 3) := by decide +kernel
theorem d_St_dearer_28 : decode b_St_dearer 28 = .ok (.iload_n 3, 1) := by decide +kernel
theorem d_St_dearer_29 : decode b_St_dearer 29 = .ok (.iaload, 1) := by decide +kernel
theorem d_St_dearer_30 : decode b_St_dearer 30 = .ok (.if_icmp .ge 7, 3) := by decide +kernel
theorem d_St_dearer_33 : decode b_St_dearer 33 = .ok (.iconst 1, 1) := by decide +kernel
theorem d_St_dearer_34 : decode b_St_dearer 34 = .ok (.goto 4, 3) := by decide +kernel
theorem d_St_dearer_37 : decode b_St_dearer 37 = .ok (.iconst 0, 1) := by decide +kernel
theorem d_St_dearer_38 : decode b_St_dearer 38 = .ok (.ireturn, 1) := by decide +kernel
theorem d_St_dearer_39 : decode b_St_dearer 39 = .ok (.aload_n 0, 1) := by decide +kernel
theorem d_St_dearer_40 : decode b_St_dearer 40 = .ok (.getfield 11, 3) := by decide +kernel
theorem d_St_dearer_43 : decode b_St_dearer 43 = .ok (.iload_n 1, 1) := by decide +kernel
theorem d_St_dearer_44 : decode b_St_dearer 44 = .ok (.aaload, 1) := by decide +kernel
theorem d_St_dearer_45 : decode b_St_dearer 45 = .ok (.iload_n 2, 1) := by decide +kernel
theorem d_St_dearer_46 : decode b_St_dearer 46 = .ok (.iaload, 1) := by decide +kernel
theorem d_St_dearer_47 : decode b_St_dearer 47 = .ok (.aload_n 0, 1) := by decide +kernel
theorem d_St_dearer_48 : decode b_St_dearer 48 = .ok (.getfield 23, 3) := by decide +kernel
theorem d_St_dearer_51 : decode b_St_dearer 51 = .ok (.iload_n 3, 1) := by decide +kernel
theorem d_St_dearer_52 : decode b_St_dearer 52 = .ok (.iaload, 1) := by decide +kernel
theorem d_St_dearer_53 : decode b_St_dearer 53 = .ok (.imul, 1) := by decide +kernel
theorem d_St_dearer_54 : decode b_St_dearer 54 = .ok (.aload_n 0, 1) := by decide +kernel
theorem d_St_dearer_55 : decode b_St_dearer 55 = .ok (.getfield 11, 3) := by decide +kernel
theorem d_St_dearer_58 : decode b_St_dearer 58 = .ok (.iload_n 1, 1) := by decide +kernel
theorem d_St_dearer_59 : decode b_St_dearer 59 = .ok (.aaload, 1) := by decide +kernel
theorem d_St_dearer_60 : decode b_St_dearer 60 = .ok (.iload_n 3, 1) := by decide +kernel
theorem d_St_dearer_61 : decode b_St_dearer 61 = .ok (.iaload, 1) := by decide +kernel
theorem d_St_dearer_62 : decode b_St_dearer 62 = .ok (.aload_n 0, 1) := by decide +kernel
theorem d_St_dearer_63 : decode b_St_dearer 63 = .ok (.getfield 23, 3) := by decide +kernel
theorem d_St_dearer_66 : decode b_St_dearer 66 = .ok (.iload_n 2, 1) := by decide +kernel
theorem d_St_dearer_67 : decode b_St_dearer 67 = .ok (.iaload, 1) := by decide +kernel
theorem d_St_dearer_68 : decode b_St_dearer 68 = .ok (.imul, 1) := by decide +kernel
theorem d_St_dearer_69 : decode b_St_dearer 69 = .ok (.if_icmp .le 7, 3) := by decide +kernel
theorem d_St_dearer_72 : decode b_St_dearer 72 = .ok (.iconst 1, 1) := by decide +kernel
theorem d_St_dearer_73 : decode b_St_dearer 73 = .ok (.goto 4, 3) := by decide +kernel
theorem d_St_dearer_76 : decode b_St_dearer 76 = .ok (.iconst 0, 1) := by decide +kernel
theorem d_St_dearer_77 : decode b_St_dearer 77 = .ok (.ireturn, 1) := by decide +kernel
theorem o_St_dearer : OkV y_St_dearer "OwnsLift$Standing" b_St_dearer 4 (some .boolean) 3 := ⟨⟨rfl, by decide +kernel, by decide +kernel, by decide +kernel⟩, g_756, g_17, g_77, g_757⟩
set_option maxHeartbeats 4000000 in
set_option maxRecDepth 100000 in
theorem c_St_dearer (l : Launch) (D : va_G) (g : Nat → ClassId) (a : Nat → Nat) (x1 : Int32) (x2 : Int32) (x3 : Int32) (z : T_St) (v : Int32) (h : d_St_dearer x1 x2 x3 z = some v) :
    MI l y_St_dearer b_St_dearer 4 .boolean ({ frames := 0, cells := 0, slots := 0, locals := 0 } : Room) D g [.ref (a 0), .int x1, .int x2, .int x3] (ws_St g a z) (v) (ws_St g a z) := by
  have hd := h
  unfold d_St_dearer at hd
  refine enterI rfl (Nat.le_of_ble_eq_true rfl) (fun p e s m below meth c A ls hx hb hml hr hown hg hlk hK hA hP hD hS hCs hl => ?_)
  have hown : s.vm.findClass "OwnsLift$Standing" = some m.cls := hown
  have hl : lv_has ls 4 [(0, .ref (a 0)), (1, .int x1), (2, .int x2), (3, .int x3)] := hl
  show GI p l e s m ({ frames := 0, cells := 0, slots := 0, locals := 0 } : Room) ([.ref (a 0), .int x1, .int x2, .int x3] : List Value).toArray below meth c A D g (ws_St g a z) (v) s.heap [] (F0 m 0 ls [])
  refine lv_aload_n hx hb d_St_dearer_0 rfl (lv_at hl 0 rfl) ?_
  refine va_get (D := D) (ci := 9) (v := .ref (a 8)) (C := R_St) (T := F_St) (N := 7) hx hb hg i_St hown hK hP 0 rfl rfl 5 (by decide) (hg _ g_294) (fun _ h9 => h9) rfl d_St_dearer_1 ?_
  refine lv_iload_n hx hb d_St_dearer_4 rfl (lv_at hl 2 rfl) ?_
  obtain ⟨h_17, hd⟩ := ite_s hd
  refine ialdK hx hb hK hP 8 0 rfl rfl (inb_t h_17) rfl d_St_dearer_5 ?_
  refine lv_if_eq (tgt := 18) hx hb d_St_dearer_6 (by decide) (fun h_1 => ?_) (fun h_1 => ?_)
  · have hd := ite_t hd h_1
    refine lv_aload_n hx hb d_St_dearer_18 rfl (lv_at hl 0 rfl) ?_
    refine va_get (D := D) (ci := 9) (v := .ref (a 8)) (C := R_St) (T := F_St) (N := 7) hx hb hg i_St hown hK hP 0 rfl rfl 5 (by decide) (hg _ g_294) (fun _ h9 => h9) rfl d_St_dearer_19 ?_
    refine lv_iload_n hx hb d_St_dearer_22 rfl (lv_at hl 2 rfl) ?_
    obtain ⟨h_4, hd⟩ := ite_s hd
    refine ialdK hx hb hK hP 8 0 rfl rfl (inb_t h_4) rfl d_St_dearer_23 ?_
    refine lv_aload_n hx hb d_St_dearer_24 rfl (lv_at hl 0 rfl) ?_
    refine va_get (D := D) (ci := 9) (v := .ref (a 8)) (C := R_St) (T := F_St) (N := 7) hx hb hg i_St hown hK hP 0 rfl rfl 5 (by decide) (hg _ g_294) (fun _ h9 => h9) rfl d_St_dearer_25 ?_
    refine lv_iload_n hx hb d_St_dearer_28 rfl (lv_at hl 3 rfl) ?_
    obtain ⟨h_3, hd⟩ := ite_s hd
    refine ialdK hx hb hK hP 8 0 rfl rfl (inb_t h_3) rfl d_St_dearer_29 ?_
    refine lv_icmp_ge (tgt := 37) hx hb d_St_dearer_30 (by decide) (fun h_2 => ?_) (fun h_2 => ?_)
    · have hd := ite_t hd h_2
      refine lv_iconst (v := 0) hx hb d_St_dearer_37 (by decide) ?_
      obtain rfl := Option.some.inj hd
      exact retZ hx hb hr hlk hK hP hD hS d_St_dearer_38 rfl (by decide +kernel)
    · have hd := ite_f hd h_2
      refine lv_iconst (v := 1) hx hb d_St_dearer_33 (by decide) ?_
      refine lv_goto (tgt := 38) hx hb d_St_dearer_34 (by decide) ?_
      obtain rfl := Option.some.inj hd
      exact retZ hx hb hr hlk hK hP hD hS d_St_dearer_38 rfl (by decide +kernel)
  · have hd := ite_f hd h_1
    refine lv_aload_n hx hb d_St_dearer_9 rfl (lv_at hl 0 rfl) ?_
    refine va_get (D := D) (ci := 9) (v := .ref (a 8)) (C := R_St) (T := F_St) (N := 7) hx hb hg i_St hown hK hP 0 rfl rfl 5 (by decide) (hg _ g_294) (fun _ h9 => h9) rfl d_St_dearer_10 ?_
    refine lv_iload_n hx hb d_St_dearer_13 rfl (lv_at hl 3 rfl) ?_
    obtain ⟨h_16, hd⟩ := ite_s hd
    refine ialdK hx hb hK hP 8 0 rfl rfl (inb_t h_16) rfl d_St_dearer_14 ?_
    refine lv_if_ne (tgt := 39) hx hb d_St_dearer_15 (by decide) (fun h_5 => ?_) (fun h_5 => ?_)
    · have hd := ite_f hd h_5
      refine lv_aload_n hx hb d_St_dearer_39 rfl (lv_at hl 0 rfl) ?_
      refine va_get (D := D) (ci := 9) (v := .ref (a 1)) (C := R_St) (T := F_St) (N := 7) hx hb hg i_St hown hK hP 0 rfl rfl 2 (by decide) (hg _ g_284) (fun _ h9 => h9) rfl d_St_dearer_40 ?_
      refine lv_iload_n hx hb d_St_dearer_43 rfl (lv_at hl 1 rfl) ?_
      obtain ⟨h_6, hd⟩ := ite_s hd
      refine aldA hx hb hK hP 1 rfl (inb_t h_6) d_St_dearer_44 ?_
      refine lv_iload_n hx hb d_St_dearer_45 rfl (lv_at hl 2 rfl) ?_
      obtain ⟨h_7, hd⟩ := ite_s hd
      refine ialdK hx hb hK hP (2 + x1.toNatClampNeg) 0 ((show ∀ k, k < 4 → (ws_St g a z)[2 + k]? = some (a (k + 2), .inl (g 0, 7, .inl ((q_St_like z) k))) from fun k hk => match k, hk with | 0, _ => rfl | 1, _ => rfl | 2, _ => rfl | 3, _ => rfl | k + 4, hk => absurd hk (by omega)) _ (vp_lt (inb_t h_6))) rfl (inb_t h_7) rfl d_St_dearer_46 ?_
      refine lv_aload_n hx hb d_St_dearer_47 rfl (lv_at hl 0 rfl) ?_
      refine va_get (D := D) (ci := 9) (v := .ref (a 8)) (C := R_St) (T := F_St) (N := 7) hx hb hg i_St hown hK hP 0 rfl rfl 5 (by decide) (hg _ g_294) (fun _ h9 => h9) rfl d_St_dearer_48 ?_
      refine lv_iload_n hx hb d_St_dearer_51 rfl (lv_at hl 3 rfl) ?_
      obtain ⟨h_12, hd⟩ := ite_s hd
      refine ialdK hx hb hK hP 8 0 rfl rfl (inb_t h_12) rfl d_St_dearer_52 ?_
      refine lv_imul hx hb d_St_dearer_53 ?_
      refine lv_aload_n hx hb d_St_dearer_54 rfl (lv_at hl 0 rfl) ?_
      refine va_get (D := D) (ci := 9) (v := .ref (a 1)) (C := R_St) (T := F_St) (N := 7) hx hb hg i_St hown hK hP 0 rfl rfl 2 (by decide) (hg _ g_284) (fun _ h9 => h9) rfl d_St_dearer_55 ?_
      refine lv_iload_n hx hb d_St_dearer_58 rfl (lv_at hl 1 rfl) ?_
      obtain ⟨h_8, hd⟩ := ite_s hd
      refine aldA hx hb hK hP 1 rfl (inb_t h_8) d_St_dearer_59 ?_
      refine lv_iload_n hx hb d_St_dearer_60 rfl (lv_at hl 3 rfl) ?_
      obtain ⟨h_9, hd⟩ := ite_s hd
      refine ialdK hx hb hK hP (2 + x1.toNatClampNeg) 0 ((show ∀ k, k < 4 → (ws_St g a z)[2 + k]? = some (a (k + 2), .inl (g 0, 7, .inl ((q_St_like z) k))) from fun k hk => match k, hk with | 0, _ => rfl | 1, _ => rfl | 2, _ => rfl | 3, _ => rfl | k + 4, hk => absurd hk (by omega)) _ (vp_lt (inb_t h_8))) rfl (inb_t h_9) rfl d_St_dearer_61 ?_
      refine lv_aload_n hx hb d_St_dearer_62 rfl (lv_at hl 0 rfl) ?_
      refine va_get (D := D) (ci := 9) (v := .ref (a 8)) (C := R_St) (T := F_St) (N := 7) hx hb hg i_St hown hK hP 0 rfl rfl 5 (by decide) (hg _ g_294) (fun _ h9 => h9) rfl d_St_dearer_63 ?_
      refine lv_iload_n hx hb d_St_dearer_66 rfl (lv_at hl 2 rfl) ?_
      obtain ⟨h_11, hd⟩ := ite_s hd
      refine ialdK hx hb hK hP 8 0 rfl rfl (inb_t h_11) rfl d_St_dearer_67 ?_
      refine lv_imul hx hb d_St_dearer_68 ?_
      refine lv_icmp_le (tgt := 76) hx hb d_St_dearer_69 (by decide) (fun h_10 => ?_) (fun h_10 => ?_)
      · have hd := ite_t hd h_10
        refine lv_iconst (v := 0) hx hb d_St_dearer_76 (by decide) ?_
        obtain rfl := Option.some.inj hd
        exact retZ hx hb hr hlk hK hP hD hS d_St_dearer_77 rfl (by decide +kernel)
      · have hd := ite_f hd h_10
        refine lv_iconst (v := 1) hx hb d_St_dearer_72 (by decide) ?_
        refine lv_goto (tgt := 77) hx hb d_St_dearer_73 (by decide) ?_
        obtain rfl := Option.some.inj hd
        exact retZ hx hb hr hlk hK hP hD hS d_St_dearer_77 rfl (by decide +kernel)
    · have hd := ite_t hd h_5
      refine lv_aload_n hx hb d_St_dearer_18 rfl (lv_at hl 0 rfl) ?_
      refine va_get (D := D) (ci := 9) (v := .ref (a 8)) (C := R_St) (T := F_St) (N := 7) hx hb hg i_St hown hK hP 0 rfl rfl 5 (by decide) (hg _ g_294) (fun _ h9 => h9) rfl d_St_dearer_19 ?_
      refine lv_iload_n hx hb d_St_dearer_22 rfl (lv_at hl 2 rfl) ?_
      obtain ⟨h_15, hd⟩ := ite_s hd
      refine ialdK hx hb hK hP 8 0 rfl rfl (inb_t h_15) rfl d_St_dearer_23 ?_
      refine lv_aload_n hx hb d_St_dearer_24 rfl (lv_at hl 0 rfl) ?_
      refine va_get (D := D) (ci := 9) (v := .ref (a 8)) (C := R_St) (T := F_St) (N := 7) hx hb hg i_St hown hK hP 0 rfl rfl 5 (by decide) (hg _ g_294) (fun _ h9 => h9) rfl d_St_dearer_25 ?_
      refine lv_iload_n hx hb d_St_dearer_28 rfl (lv_at hl 3 rfl) ?_
      obtain ⟨h_14, hd⟩ := ite_s hd
      refine ialdK hx hb hK hP 8 0 rfl rfl (inb_t h_14) rfl d_St_dearer_29 ?_
      refine lv_icmp_ge (tgt := 37) hx hb d_St_dearer_30 (by decide) (fun h_13 => ?_) (fun h_13 => ?_)
      · have hd := ite_t hd h_13
        refine lv_iconst (v := 0) hx hb d_St_dearer_37 (by decide) ?_
        obtain rfl := Option.some.inj hd
        exact retZ hx hb hr hlk hK hP hD hS d_St_dearer_38 rfl (by decide +kernel)
      · have hd := ite_f hd h_13
        refine lv_iconst (v := 1) hx hb d_St_dearer_33 (by decide) ?_
        refine lv_goto (tgt := 38) hx hb d_St_dearer_34 (by decide) ?_
        obtain rfl := Option.some.inj hd
        exact retZ hx hb hr hlk hK hP hD hS d_St_dearer_38 rfl (by decide +kernel)
-- OwnsLift$Standing.goesAhead(IIII)Z
def d_St_goesAhead (x1 : Int32) (x2 : Int32) (x3 : Int32) (x4 : Int32) (z : T_St) : Option (Int32) :=
  if x1 = 1 then (if inb x3 7 = true then (if inb x4 7 = true then (if ((q_St_weight z) x3.toNatClampNeg) ≤ ((q_St_weight z) x4.toNatClampNeg) then (some (0)) else (some (1))) else none) else none) else (if x1 = 2 then (if inb x2 4 = true then (if inb x3 7 = true then (if inb x2 4 = true then (if inb x4 7 = true then (if ((q_St_like z) x2.toNatClampNeg x4.toNatClampNeg) ≤ ((q_St_like z) x2.toNatClampNeg x3.toNatClampNeg) then (some (0)) else (some (1))) else none) else none) else none) else none) else (if x1 = 3 then (if inb x2 4 = true then (if inb x3 7 = true then (if inb x2 4 = true then (if inb x4 7 = true then (if ((q_St_like z) x2.toNatClampNeg x4.toNatClampNeg) ≤ ((q_St_like z) x2.toNatClampNeg x3.toNatClampNeg) then (some (0)) else (some (1))) else none) else none) else none) else none) else (if x1 = 4 then ((d_St_dearer x2 x4 x3 z).bind fun v_18 => some (v_18)) else (if x1 = 5 then (if inb x2 4 = true then (if inb x3 7 = true then (if inb x2 4 = true then (if inb x4 7 = true then (if ((q_St_like z) x2.toNatClampNeg x3.toNatClampNeg) ≤ ((q_St_like z) x2.toNatClampNeg x4.toNatClampNeg) then (some (0)) else (some (1))) else none) else none) else none) else none) else (if inb x2 4 = true then (if inb x3 7 = true then (if inb x2 4 = true then (if inb x4 7 = true then (if ((q_St_like z) x2.toNatClampNeg x4.toNatClampNeg) ≤ ((q_St_like z) x2.toNatClampNeg x3.toNatClampNeg) then (some (0)) else (some (1))) else none) else none) else none) else none)))))
theorem d_St_goesAhead_0 : decode b_St_goesAhead 0 = .ok (.iload_n 1, 1) := by decide +kernel
theorem d_St_goesAhead_1 : decode b_St_goesAhead 1 = .ok (.tableswitch 92 1 5 #[35, 92, 92, 57, 66], 35) := by decide +kernel
theorem d_St_goesAhead_36 : decode b_St_goesAhead 36 = .ok (.aload_n 0, 1) := by decide +kernel
theorem d_St_goesAhead_37 : decode b_St_goesAhead 37 = .ok (.getfield 23, 3) := by decide +kernel
theorem d_St_goesAhead_40 : decode b_St_goesAhead 40 = .ok (.iload_n 3, 1) := by decide +kernel
theorem d_St_goesAhead_41 : decode b_St_goesAhead 41 = .ok (.iaload, 1) := by decide +kernel
theorem d_St_goesAhead_42 : decode b_St_goesAhead 42 = .ok (.aload_n 0, 1) := by decide +kernel
theorem d_St_goesAhead_43 : decode b_St_goesAhead 43 = .ok (.getfield 23, 3) := by decide +kernel
theorem d_St_goesAhead_46 : decode b_St_goesAhead 46 = .ok (.iload 4, 2) := by decide +kernel
theorem d_St_goesAhead_48 : decode b_St_goesAhead 48 = .ok (.iaload, 1) := by decide +kernel
theorem d_St_goesAhead_49 : decode b_St_goesAhead 49 = .ok (.if_icmp .le 7, 3) := by decide +kernel
theorem d_St_goesAhead_52 : decode b_St_goesAhead 52 = .ok (.iconst 1, 1) := by decide +kernel
theorem d_St_goesAhead_53 : decode b_St_goesAhead 53 = .ok (.goto 4, 3) := by decide +kernel
theorem d_St_goesAhead_56 : decode b_St_goesAhead 56 = .ok (.iconst 0, 1) := by decide +kernel
theorem d_St_goesAhead_57 : decode b_St_goesAhead 57 = .ok (.ireturn, 1) := by decide +kernel
theorem d_St_goesAhead_58 : decode b_St_goesAhead 58 = .ok (.aload_n 0, 1) := by decide +kernel
theorem d_St_goesAhead_59 : decode b_St_goesAhead 59 = .ok (.iload_n 2, 1) := by decide +kernel
theorem d_St_goesAhead_60 : decode b_St_goesAhead 60 = .ok (.iload 4, 2) := by decide +kernel
theorem d_St_goesAhead_62 : decode b_St_goesAhead 62 = .ok (.iload_n 3, 1) := by decide +kernel
theorem d_St_goesAhead_63 : decode b_St_goesAhead 63 = .ok (.invokevirtual 108, 3) := by decide +kernel
theorem d_St_goesAhead_66 : decode b_St_goesAhead 66 = .ok (.ireturn, 1) := by decide +kernel
theorem d_St_goesAhead_67 : decode b_St_goesAhead 67 = .ok (.aload_n 0, 1) := by decide +kernel
theorem d_St_goesAhead_68 : decode b_St_goesAhead 68 = .ok (.getfield 11, 3) := by decide +kernel
theorem d_St_goesAhead_71 : decode b_St_goesAhead 71 = .ok (.iload_n 2, 1) := by decide +kernel
theorem d_St_goesAhead_72 : decode b_St_goesAhead 72 = .ok (.aaload, 1) := by decide +kernel
theorem d_St_goesAhead_73 : decode b_St_goesAhead 73 = .ok (.iload_n 3, 1) := by decide +kernel
theorem d_St_goesAhead_74 : decode b_St_goesAhead 74 = .ok (.iaload, 1) := by decide +kernel
theorem d_St_goesAhead_75 : decode b_St_goesAhead 75 = .ok (.aload_n 0, 1) := by decide +kernel
theorem d_St_goesAhead_76 : decode b_St_goesAhead 76 = .ok (.getfield 11, 3) := by decide +kernel
theorem d_St_goesAhead_79 : decode b_St_goesAhead 79 = .ok (.iload_n 2, 1) := by decide +kernel
theorem d_St_goesAhead_80 : decode b_St_goesAhead 80 = .ok (.aaload, 1) := by decide +kernel
theorem d_St_goesAhead_81 : decode b_St_goesAhead 81 = .ok (.iload 4, 2) := by decide +kernel
theorem d_St_goesAhead_83 : decode b_St_goesAhead 83 = .ok (.iaload, 1) := by decide +kernel
theorem d_St_goesAhead_84 : decode b_St_goesAhead 84 = .ok (.if_icmp .le 7, 3) := by decide +kernel
theorem d_St_goesAhead_87 : decode b_St_goesAhead 87 = .ok (.iconst 1, 1) := by decide +kernel
theorem d_St_goesAhead_88 : decode b_St_goesAhead 88 = .ok (.goto 4, 3) := by decide +kernel
theorem d_St_goesAhead_91 : decode b_St_goesAhead 91 = .ok (.iconst 0, 1) := by decide +kernel
theorem d_St_goesAhead_92 : decode b_St_goesAhead 92 = .ok (.ireturn, 1) := by decide +kernel
theorem d_St_goesAhead_93 : decode b_St_goesAhead 93 = .ok (.aload_n 0, 1) := by decide +kernel
theorem d_St_goesAhead_94 : decode b_St_goesAhead 94 = .ok (.getfield 11, 3) := by decide +kernel
theorem d_St_goesAhead_97 : decode b_St_goesAhead 97 = .ok (.iload_n 2, 1) := by decide +kernel
theorem d_St_goesAhead_98 : decode b_St_goesAhead 98 = .ok (.aaload, 1) := by decide +kernel
theorem d_St_goesAhead_99 : decode b_St_goesAhead 99 = .ok (.iload_n 3, 1) := by decide +kernel
theorem d_St_goesAhead_100 : decode b_St_goesAhead 100 = .ok (.iaload, 1) := by decide +kernel
theorem d_St_goesAhead_101 : decode b_St_goesAhead 101 = .ok (.aload_n 0, 1) := by decide +kernel
theorem d_St_goesAhead_102 : decode b_St_goesAhead 102 = .ok (.getfield 11, 3) := by decide +kernel
theorem d_St_goesAhead_105 : decode b_St_goesAhead 105 = .ok (.iload_n 2, 1) := by decide +kernel
theorem d_St_goesAhead_106 : decode b_St_goesAhead 106 = .ok (.aaload, 1) := by decide +kernel
theorem d_St_goesAhead_107 : decode b_St_goesAhead 107 = .ok (.iload 4, 2) := by decide +kernel
theorem d_St_goesAhead_109 : decode b_St_goesAhead 109 = .ok (.iaload, 1) := by decide +kernel
theorem d_St_goesAhead_110 : decode b_St_goesAhead 110 = .ok (.if_icmp .ge 7, 3) := by decide +kernel
theorem d_St_goesAhead_113 : decode b_St_goesAhead 113 = .ok (.iconst 1, 1) := by decide +kernel
theorem d_St_goesAhead_114 : decode b_St_goesAhead 114 = .ok (.goto 4, 3) := by decide +kernel
theorem d_St_goesAhead_117 : decode b_St_goesAhead 117 = .ok (.iconst 0, 1) := by decide +kernel
theorem d_St_goesAhead_118 : decode b_St_goesAhead 118 = .ok (.ireturn, 1) := by decide +kernel
theorem o_St_goesAhead : OkV y_St_goesAhead "OwnsLift$Standing" b_St_goesAhead 5 (some .boolean) 4 := ⟨⟨rfl, by decide +kernel, by decide +kernel, by decide +kernel⟩, g_752, g_16, g_77, g_753⟩
set_option maxHeartbeats 4000000 in
set_option maxRecDepth 100000 in
theorem c_St_goesAhead (l : Launch) (D : va_G) (g : Nat → ClassId) (a : Nat → Nat) (x1 : Int32) (x2 : Int32) (x3 : Int32) (x4 : Int32) (z : T_St) (v : Int32) (h : d_St_goesAhead x1 x2 x3 x4 z = some v) :
    MI l y_St_goesAhead b_St_goesAhead 5 .boolean ({ frames := 1, cells := 0, slots := 0, locals := 23 } : Room) D g [.ref (a 0), .int x1, .int x2, .int x3, .int x4] (ws_St g a z) (v) (ws_St g a z) := by
  have hd := h
  unfold d_St_goesAhead at hd
  refine enterI rfl (Nat.le_of_ble_eq_true rfl) (fun p e s m below meth c A ls hx hb hml hr hown hg hlk hK hA hP hD hS hCs hl => ?_)
  have hown : s.vm.findClass "OwnsLift$Standing" = some m.cls := hown
  have hl : lv_has ls 5 [(0, .ref (a 0)), (1, .int x1), (2, .int x2), (3, .int x3), (4, .int x4)] := hl
  show GI p l e s m ({ frames := 1, cells := 0, slots := 0, locals := 23 } : Room) ([.ref (a 0), .int x1, .int x2, .int x3, .int x4] : List Value).toArray below meth c A D g (ws_St g a z) (v) s.heap [] (F0 m 0 ls [])
  refine lv_iload_n hx hb d_St_goesAhead_0 rfl (lv_at hl 1 rfl) ?_
  by_cases h_1 : x1 = 1
  · have hd := ite_t hd h_1
    refine lv_tableIn (tgt := 36) hx hb d_St_goesAhead_1 (by rw [h_1]; decide) (by rw [h_1]; decide) (off := 35) (by rw [h_1]; decide) (by decide) ?_
    refine lv_aload_n hx hb d_St_goesAhead_36 rfl (lv_at hl 0 rfl) ?_
    refine va_get (D := D) (ci := 9) (v := .ref (a 8)) (C := R_St) (T := F_St) (N := 7) hx hb hg i_St hown hK hP 0 rfl rfl 5 (by decide) (hg _ g_294) (fun _ h9 => h9) rfl d_St_goesAhead_37 ?_
    refine lv_iload_n hx hb d_St_goesAhead_40 rfl (lv_at hl 3 rfl) ?_
    obtain ⟨h_4, hd⟩ := ite_s hd
    refine ialdK hx hb hK hP 8 0 rfl rfl (inb_t h_4) rfl d_St_goesAhead_41 ?_
    refine lv_aload_n hx hb d_St_goesAhead_42 rfl (lv_at hl 0 rfl) ?_
    refine va_get (D := D) (ci := 9) (v := .ref (a 8)) (C := R_St) (T := F_St) (N := 7) hx hb hg i_St hown hK hP 0 rfl rfl 5 (by decide) (hg _ g_294) (fun _ h9 => h9) rfl d_St_goesAhead_43 ?_
    refine lv_iload hx hb d_St_goesAhead_46 (lv_at hl 4 rfl) ?_
    obtain ⟨h_3, hd⟩ := ite_s hd
    refine ialdK hx hb hK hP 8 0 rfl rfl (inb_t h_3) rfl d_St_goesAhead_48 ?_
    refine lv_icmp_le (tgt := 56) hx hb d_St_goesAhead_49 (by decide) (fun h_2 => ?_) (fun h_2 => ?_)
    · have hd := ite_t hd h_2
      refine lv_iconst (v := 0) hx hb d_St_goesAhead_56 (by decide) ?_
      obtain rfl := Option.some.inj hd
      exact retZ hx hb hr hlk hK hP hD hS d_St_goesAhead_57 rfl (by decide +kernel)
    · have hd := ite_f hd h_2
      refine lv_iconst (v := 1) hx hb d_St_goesAhead_52 (by decide) ?_
      refine lv_goto (tgt := 57) hx hb d_St_goesAhead_53 (by decide) ?_
      obtain rfl := Option.some.inj hd
      exact retZ hx hb hr hlk hK hP hD hS d_St_goesAhead_57 rfl (by decide +kernel)
  have hd := ite_f hd h_1
  by_cases h_5 : x1 = 2
  · have hd := ite_t hd h_5
    refine lv_tableIn (tgt := 93) hx hb d_St_goesAhead_1 (by rw [h_5]; decide) (by rw [h_5]; decide) (off := 92) (by rw [h_5]; decide) (by decide) ?_
    refine lv_aload_n hx hb d_St_goesAhead_93 rfl (lv_at hl 0 rfl) ?_
    refine va_get (D := D) (ci := 9) (v := .ref (a 1)) (C := R_St) (T := F_St) (N := 7) hx hb hg i_St hown hK hP 0 rfl rfl 2 (by decide) (hg _ g_284) (fun _ h9 => h9) rfl d_St_goesAhead_94 ?_
    refine lv_iload_n hx hb d_St_goesAhead_97 rfl (lv_at hl 2 rfl) ?_
    obtain ⟨h_6, hd⟩ := ite_s hd
    refine aldA hx hb hK hP 1 rfl (inb_t h_6) d_St_goesAhead_98 ?_
    refine lv_iload_n hx hb d_St_goesAhead_99 rfl (lv_at hl 3 rfl) ?_
    obtain ⟨h_7, hd⟩ := ite_s hd
    refine ialdK hx hb hK hP (2 + x2.toNatClampNeg) 0 ((show ∀ k, k < 4 → (ws_St g a z)[2 + k]? = some (a (k + 2), .inl (g 0, 7, .inl ((q_St_like z) k))) from fun k hk => match k, hk with | 0, _ => rfl | 1, _ => rfl | 2, _ => rfl | 3, _ => rfl | k + 4, hk => absurd hk (by omega)) _ (vp_lt (inb_t h_6))) rfl (inb_t h_7) rfl d_St_goesAhead_100 ?_
    refine lv_aload_n hx hb d_St_goesAhead_101 rfl (lv_at hl 0 rfl) ?_
    refine va_get (D := D) (ci := 9) (v := .ref (a 1)) (C := R_St) (T := F_St) (N := 7) hx hb hg i_St hown hK hP 0 rfl rfl 2 (by decide) (hg _ g_284) (fun _ h9 => h9) rfl d_St_goesAhead_102 ?_
    refine lv_iload_n hx hb d_St_goesAhead_105 rfl (lv_at hl 2 rfl) ?_
    obtain ⟨h_8, hd⟩ := ite_s hd
    refine aldA hx hb hK hP 1 rfl (inb_t h_8) d_St_goesAhead_106 ?_
    refine lv_iload hx hb d_St_goesAhead_107 (lv_at hl 4 rfl) ?_
    obtain ⟨h_9, hd⟩ := ite_s hd
    refine ialdK hx hb hK hP (2 + x2.toNatClampNeg) 0 ((show ∀ k, k < 4 → (ws_St g a z)[2 + k]? = some (a (k + 2), .inl (g 0, 7, .inl ((q_St_like z) k))) from fun k hk => match k, hk with | 0, _ => rfl | 1, _ => rfl | 2, _ => rfl | 3, _ => rfl | k + 4, hk => absurd hk (by omega)) _ (vp_lt (inb_t h_8))) rfl (inb_t h_9) rfl d_St_goesAhead_109 ?_
    refine lv_icmp_ge (tgt := 117) hx hb d_St_goesAhead_110 (by decide) (fun h_10 => ?_) (fun h_10 => ?_)
    · have hd := ite_t hd h_10
      refine lv_iconst (v := 0) hx hb d_St_goesAhead_117 (by decide) ?_
      obtain rfl := Option.some.inj hd
      exact retZ hx hb hr hlk hK hP hD hS d_St_goesAhead_118 rfl (by decide +kernel)
    · have hd := ite_f hd h_10
      refine lv_iconst (v := 1) hx hb d_St_goesAhead_113 (by decide) ?_
      refine lv_goto (tgt := 118) hx hb d_St_goesAhead_114 (by decide) ?_
      obtain rfl := Option.some.inj hd
      exact retZ hx hb hr hlk hK hP hD hS d_St_goesAhead_118 rfl (by decide +kernel)
  have hd := ite_f hd h_5
  by_cases h_11 : x1 = 3
  · have hd := ite_t hd h_11
    refine lv_tableIn (tgt := 93) hx hb d_St_goesAhead_1 (by rw [h_11]; decide) (by rw [h_11]; decide) (off := 92) (by rw [h_11]; decide) (by decide) ?_
    refine lv_aload_n hx hb d_St_goesAhead_93 rfl (lv_at hl 0 rfl) ?_
    refine va_get (D := D) (ci := 9) (v := .ref (a 1)) (C := R_St) (T := F_St) (N := 7) hx hb hg i_St hown hK hP 0 rfl rfl 2 (by decide) (hg _ g_284) (fun _ h9 => h9) rfl d_St_goesAhead_94 ?_
    refine lv_iload_n hx hb d_St_goesAhead_97 rfl (lv_at hl 2 rfl) ?_
    obtain ⟨h_12, hd⟩ := ite_s hd
    refine aldA hx hb hK hP 1 rfl (inb_t h_12) d_St_goesAhead_98 ?_
    refine lv_iload_n hx hb d_St_goesAhead_99 rfl (lv_at hl 3 rfl) ?_
    obtain ⟨h_13, hd⟩ := ite_s hd
    refine ialdK hx hb hK hP (2 + x2.toNatClampNeg) 0 ((show ∀ k, k < 4 → (ws_St g a z)[2 + k]? = some (a (k + 2), .inl (g 0, 7, .inl ((q_St_like z) k))) from fun k hk => match k, hk with | 0, _ => rfl | 1, _ => rfl | 2, _ => rfl | 3, _ => rfl | k + 4, hk => absurd hk (by omega)) _ (vp_lt (inb_t h_12))) rfl (inb_t h_13) rfl d_St_goesAhead_100 ?_
    refine lv_aload_n hx hb d_St_goesAhead_101 rfl (lv_at hl 0 rfl) ?_
    refine va_get (D := D) (ci := 9) (v := .ref (a 1)) (C := R_St) (T := F_St) (N := 7) hx hb hg i_St hown hK hP 0 rfl rfl 2 (by decide) (hg _ g_284) (fun _ h9 => h9) rfl d_St_goesAhead_102 ?_
    refine lv_iload_n hx hb d_St_goesAhead_105 rfl (lv_at hl 2 rfl) ?_
    obtain ⟨h_14, hd⟩ := ite_s hd
    refine aldA hx hb hK hP 1 rfl (inb_t h_14) d_St_goesAhead_106 ?_
    refine lv_iload hx hb d_St_goesAhead_107 (lv_at hl 4 rfl) ?_
    obtain ⟨h_15, hd⟩ := ite_s hd
    refine ialdK hx hb hK hP (2 + x2.toNatClampNeg) 0 ((show ∀ k, k < 4 → (ws_St g a z)[2 + k]? = some (a (k + 2), .inl (g 0, 7, .inl ((q_St_like z) k))) from fun k hk => match k, hk with | 0, _ => rfl | 1, _ => rfl | 2, _ => rfl | 3, _ => rfl | k + 4, hk => absurd hk (by omega)) _ (vp_lt (inb_t h_14))) rfl (inb_t h_15) rfl d_St_goesAhead_109 ?_
    refine lv_icmp_ge (tgt := 117) hx hb d_St_goesAhead_110 (by decide) (fun h_16 => ?_) (fun h_16 => ?_)
    · have hd := ite_t hd h_16
      refine lv_iconst (v := 0) hx hb d_St_goesAhead_117 (by decide) ?_
      obtain rfl := Option.some.inj hd
      exact retZ hx hb hr hlk hK hP hD hS d_St_goesAhead_118 rfl (by decide +kernel)
    · have hd := ite_f hd h_16
      refine lv_iconst (v := 1) hx hb d_St_goesAhead_113 (by decide) ?_
      refine lv_goto (tgt := 118) hx hb d_St_goesAhead_114 (by decide) ?_
      obtain rfl := Option.some.inj hd
      exact retZ hx hb hr hlk hK hP hD hS d_St_goesAhead_118 rfl (by decide +kernel)
  have hd := ite_f hd h_11
  by_cases h_17 : x1 = 4
  · have hd := ite_t hd h_17
    refine lv_tableIn (tgt := 58) hx hb d_St_goesAhead_1 (by rw [h_17]; decide) (by rw [h_17]; decide) (off := 57) (by rw [h_17]; decide) (by decide) ?_
    refine lv_aload_n hx hb d_St_goesAhead_58 rfl (lv_at hl 0 rfl) ?_
    refine lv_iload_n hx hb d_St_goesAhead_59 rfl (lv_at hl 2 rfl) ?_
    refine lv_iload hx hb d_St_goesAhead_60 (lv_at hl 4 rfl) ?_
    refine lv_iload_n hx hb d_St_goesAhead_62 rfl (lv_at hl 3 rfl) ?_
    obtain ⟨v_18, e_19, hd⟩ := bind_s hd
    refine callVI (ws' := ws_St g a z) (rest := []) (As := [.int x2, .int x4, .int x3]) hx hb hml hown hg hK hP hD hS hA hCs hl.1 (c_St_dearer l D g a x2 x4 x3 z _ e_19) o_St_dearer g_754 (ci := 9) (q0 := 0) rfl rfl (List.range' 0 10) (segC1 rfl rfl) (by decide) rfl (segP1 rfl rfl) rfl rfl (Nat.le_of_ble_eq_true rfl) ⟨rfl, rfl, Nat.le_of_ble_eq_true rfl, Nat.le_of_ble_eq_true rfl⟩ d_St_goesAhead_63 (fun H locs hP hD hS => ?_)
    obtain rfl := Option.some.inj hd
    exact retZ hx hb hr hlk hK hP hD hS d_St_goesAhead_66 rfl (nz_St_dearer e_19)
  have hd := ite_f hd h_17
  by_cases h_20 : x1 = 5
  · have hd := ite_t hd h_20
    refine lv_tableIn (tgt := 67) hx hb d_St_goesAhead_1 (by rw [h_20]; decide) (by rw [h_20]; decide) (off := 66) (by rw [h_20]; decide) (by decide) ?_
    refine lv_aload_n hx hb d_St_goesAhead_67 rfl (lv_at hl 0 rfl) ?_
    refine va_get (D := D) (ci := 9) (v := .ref (a 1)) (C := R_St) (T := F_St) (N := 7) hx hb hg i_St hown hK hP 0 rfl rfl 2 (by decide) (hg _ g_284) (fun _ h9 => h9) rfl d_St_goesAhead_68 ?_
    refine lv_iload_n hx hb d_St_goesAhead_71 rfl (lv_at hl 2 rfl) ?_
    obtain ⟨h_21, hd⟩ := ite_s hd
    refine aldA hx hb hK hP 1 rfl (inb_t h_21) d_St_goesAhead_72 ?_
    refine lv_iload_n hx hb d_St_goesAhead_73 rfl (lv_at hl 3 rfl) ?_
    obtain ⟨h_22, hd⟩ := ite_s hd
    refine ialdK hx hb hK hP (2 + x2.toNatClampNeg) 0 ((show ∀ k, k < 4 → (ws_St g a z)[2 + k]? = some (a (k + 2), .inl (g 0, 7, .inl ((q_St_like z) k))) from fun k hk => match k, hk with | 0, _ => rfl | 1, _ => rfl | 2, _ => rfl | 3, _ => rfl | k + 4, hk => absurd hk (by omega)) _ (vp_lt (inb_t h_21))) rfl (inb_t h_22) rfl d_St_goesAhead_74 ?_
    refine lv_aload_n hx hb d_St_goesAhead_75 rfl (lv_at hl 0 rfl) ?_
    refine va_get (D := D) (ci := 9) (v := .ref (a 1)) (C := R_St) (T := F_St) (N := 7) hx hb hg i_St hown hK hP 0 rfl rfl 2 (by decide) (hg _ g_284) (fun _ h9 => h9) rfl d_St_goesAhead_76 ?_
    refine lv_iload_n hx hb d_St_goesAhead_79 rfl (lv_at hl 2 rfl) ?_
    obtain ⟨h_23, hd⟩ := ite_s hd
    refine aldA hx hb hK hP 1 rfl (inb_t h_23) d_St_goesAhead_80 ?_
    refine lv_iload hx hb d_St_goesAhead_81 (lv_at hl 4 rfl) ?_
    obtain ⟨h_24, hd⟩ := ite_s hd
    refine ialdK hx hb hK hP (2 + x2.toNatClampNeg) 0 ((show ∀ k, k < 4 → (ws_St g a z)[2 + k]? = some (a (k + 2), .inl (g 0, 7, .inl ((q_St_like z) k))) from fun k hk => match k, hk with | 0, _ => rfl | 1, _ => rfl | 2, _ => rfl | 3, _ => rfl | k + 4, hk => absurd hk (by omega)) _ (vp_lt (inb_t h_23))) rfl (inb_t h_24) rfl d_St_goesAhead_83 ?_
    refine lv_icmp_le (tgt := 91) hx hb d_St_goesAhead_84 (by decide) (fun h_25 => ?_) (fun h_25 => ?_)
    · have hd := ite_t hd h_25
      refine lv_iconst (v := 0) hx hb d_St_goesAhead_91 (by decide) ?_
      obtain rfl := Option.some.inj hd
      exact retZ hx hb hr hlk hK hP hD hS d_St_goesAhead_92 rfl (by decide +kernel)
    · have hd := ite_f hd h_25
      refine lv_iconst (v := 1) hx hb d_St_goesAhead_87 (by decide) ?_
      refine lv_goto (tgt := 92) hx hb d_St_goesAhead_88 (by decide) ?_
      obtain rfl := Option.some.inj hd
      exact retZ hx hb hr hlk hK hP hD hS d_St_goesAhead_92 rfl (by decide +kernel)
  have hd := ite_f hd h_20
  have ho_31 : (x1).toInt < 1 ∨ 5 < (x1).toInt := by
    refine tab_out 1 5 ?_
    intro k h1 h2 q
    have hk : k = 1 ∨ k = 2 ∨ k = 3 ∨ k = 4 ∨ k = 5 := by omega
    rcases hk with rfl | rfl | rfl | rfl | rfl
    · exact h_1 (Int32.toInt_inj.mp (q.trans (by decide)))
    · exact h_5 (Int32.toInt_inj.mp (q.trans (by decide)))
    · exact h_11 (Int32.toInt_inj.mp (q.trans (by decide)))
    · exact h_17 (Int32.toInt_inj.mp (q.trans (by decide)))
    · exact h_20 (Int32.toInt_inj.mp (q.trans (by decide)))
  refine lv_tableOut (tgt := 93) hx hb d_St_goesAhead_1 ho_31 (by decide) ?_
  refine lv_aload_n hx hb d_St_goesAhead_93 rfl (lv_at hl 0 rfl) ?_
  refine va_get (D := D) (ci := 9) (v := .ref (a 1)) (C := R_St) (T := F_St) (N := 7) hx hb hg i_St hown hK hP 0 rfl rfl 2 (by decide) (hg _ g_284) (fun _ h9 => h9) rfl d_St_goesAhead_94 ?_
  refine lv_iload_n hx hb d_St_goesAhead_97 rfl (lv_at hl 2 rfl) ?_
  obtain ⟨h_26, hd⟩ := ite_s hd
  refine aldA hx hb hK hP 1 rfl (inb_t h_26) d_St_goesAhead_98 ?_
  refine lv_iload_n hx hb d_St_goesAhead_99 rfl (lv_at hl 3 rfl) ?_
  obtain ⟨h_27, hd⟩ := ite_s hd
  refine ialdK hx hb hK hP (2 + x2.toNatClampNeg) 0 ((show ∀ k, k < 4 → (ws_St g a z)[2 + k]? = some (a (k + 2), .inl (g 0, 7, .inl ((q_St_like z) k))) from fun k hk => match k, hk with | 0, _ => rfl | 1, _ => rfl | 2, _ => rfl | 3, _ => rfl | k + 4, hk => absurd hk (by omega)) _ (vp_lt (inb_t h_26))) rfl (inb_t h_27) rfl d_St_goesAhead_100 ?_
  refine lv_aload_n hx hb d_St_goesAhead_101 rfl (lv_at hl 0 rfl) ?_
  refine va_get (D := D) (ci := 9) (v := .ref (a 1)) (C := R_St) (T := F_St) (N := 7) hx hb hg i_St hown hK hP 0 rfl rfl 2 (by decide) (hg _ g_284) (fun _ h9 => h9) rfl d_St_goesAhead_102 ?_
  refine lv_iload_n hx hb d_St_goesAhead_105 rfl (lv_at hl 2 rfl) ?_
  obtain ⟨h_28, hd⟩ := ite_s hd
  refine aldA hx hb hK hP 1 rfl (inb_t h_28) d_St_goesAhead_106 ?_
  refine lv_iload hx hb d_St_goesAhead_107 (lv_at hl 4 rfl) ?_
  obtain ⟨h_29, hd⟩ := ite_s hd
  refine ialdK hx hb hK hP (2 + x2.toNatClampNeg) 0 ((show ∀ k, k < 4 → (ws_St g a z)[2 + k]? = some (a (k + 2), .inl (g 0, 7, .inl ((q_St_like z) k))) from fun k hk => match k, hk with | 0, _ => rfl | 1, _ => rfl | 2, _ => rfl | 3, _ => rfl | k + 4, hk => absurd hk (by omega)) _ (vp_lt (inb_t h_28))) rfl (inb_t h_29) rfl d_St_goesAhead_109 ?_
  refine lv_icmp_ge (tgt := 117) hx hb d_St_goesAhead_110 (by decide) (fun h_30 => ?_) (fun h_30 => ?_)
  · have hd := ite_t hd h_30
    refine lv_iconst (v := 0) hx hb d_St_goesAhead_117 (by decide) ?_
    obtain rfl := Option.some.inj hd
    exact retZ hx hb hr hlk hK hP hD hS d_St_goesAhead_118 rfl (by decide +kernel)
  · have hd := ite_f hd h_30
    refine lv_iconst (v := 1) hx hb d_St_goesAhead_113 (by decide) ?_
    refine lv_goto (tgt := 118) hx hb d_St_goesAhead_114 (by decide) ?_
    obtain rfl := Option.some.inj hd
    exact retZ hx hb hr hlk hK hP hD hS d_St_goesAhead_118 rfl (by decide +kernel)
-- OwnsLift$Standing.toldFirst(LOwnsLift$People;I)I
def B_St_toldFirst_L2 (x2_f2 : Int32) (z : T_St) (w : T_Pe) (self2 : Int32 → Option (Int32)) (x3_2 : Int32) : Option (Int32) :=
  if inb x2_f2 4 = true then (if ((q_Pe_rowSize w) x2_f2.toNatClampNeg) ≤ x3_2 then (some ((-1))) else (if inb x2_f2 4 = true then (if inb x3_2 7 = true then (if inb ((q_Pe_rows w) x2_f2.toNatClampNeg x3_2.toNatClampNeg) 7 = true then (if ((q_St_owner z) ((q_Pe_rows w) x2_f2.toNatClampNeg x3_2.toNatClampNeg).toNatClampNeg) = x2_f2 then (if inb ((q_Pe_rows w) x2_f2.toNatClampNeg x3_2.toNatClampNeg) 7 = true then (if ((q_St_weight z) ((q_Pe_rows w) x2_f2.toNatClampNeg x3_2.toNatClampNeg).toNatClampNeg) ≤ 0 then (self2 (x3_2 + 1)) else (some ((q_Pe_rows w) x2_f2.toNatClampNeg x3_2.toNatClampNeg))) else none) else (self2 (x3_2 + 1))) else none) else none) else none)) else none
def d_St_toldFirst_L2 (x2_f2 : Int32) (z : T_St) (w : T_Pe) (n : Nat) : Int32 → Option (Int32) := recN (fun _ => none) (fun self => B_St_toldFirst_L2 x2_f2 z w self) n
def d_St_toldFirst (x2 : Int32) (z : T_St) (w : T_Pe) : Option (Int32) :=
  d_St_toldFirst_L2 x2 z w  1000 0
theorem d_St_toldFirst_0 : decode b_St_toldFirst 0 = .ok (.iconst 0, 1) := by decide +kernel
theorem d_St_toldFirst_1 : decode b_St_toldFirst 1 = .ok (.istore_n 3, 1) := by decide +kernel
theorem d_St_toldFirst_2 : decode b_St_toldFirst 2 = .ok (.iload_n 3, 1) := by decide +kernel
theorem d_St_toldFirst_3 : decode b_St_toldFirst 3 = .ok (.aload_n 1, 1) := by decide +kernel
theorem d_St_toldFirst_4 : decode b_St_toldFirst 4 = .ok (.getfield 102, 3) := by decide +kernel
theorem d_St_toldFirst_7 : decode b_St_toldFirst 7 = .ok (.iload_n 2, 1) := by decide +kernel
theorem d_St_toldFirst_8 : decode b_St_toldFirst 8 = .ok (.iaload, 1) := by decide +kernel
theorem d_St_toldFirst_9 : decode b_St_toldFirst 9 = .ok (.if_icmp .ge 43, 3) := by decide +kernel
theorem d_St_toldFirst_12 : decode b_St_toldFirst 12 = .ok (.aload_n 1, 1) := by decide +kernel
theorem d_St_toldFirst_13 : decode b_St_toldFirst 13 = .ok (.getfield 105, 3) := by decide +kernel
theorem d_St_toldFirst_16 : decode b_St_toldFirst 16 = .ok (.iload_n 2, 1) := by decide +kernel
theorem d_St_toldFirst_17 : decode b_St_toldFirst 17 = .ok (.aaload, 1) := by decide +kernel
theorem d_St_toldFirst_18 : decode b_St_toldFirst 18 = .ok (.iload_n 3, 1) := by decide +kernel
theorem d_St_toldFirst_19 : decode b_St_toldFirst 19 = .ok (.iaload, 1) := by decide +kernel
theorem d_St_toldFirst_20 : decode b_St_toldFirst 20 = .ok (.istore 4, 2) := by decide +kernel
theorem d_St_toldFirst_22 : decode b_St_toldFirst 22 = .ok (.aload_n 0, 1) := by decide +kernel
theorem d_St_toldFirst_23 : decode b_St_toldFirst 23 = .ok (.getfield 26, 3) := by decide +kernel
theorem d_St_toldFirst_26 : decode b_St_toldFirst 26 = .ok (.iload 4, 2) := by decide +kernel
theorem d_St_toldFirst_28 : decode b_St_toldFirst 28 = .ok (.iaload, 1) := by decide +kernel
theorem d_St_toldFirst_29 : decode b_St_toldFirst 29 = .ok (.iload_n 2, 1) := by decide +kernel
theorem d_St_toldFirst_30 : decode b_St_toldFirst 30 = .ok (.if_icmp .ne 16, 3) := by decide +kernel
theorem d_St_toldFirst_33 : decode b_St_toldFirst 33 = .ok (.aload_n 0, 1) := by decide +kernel
theorem d_St_toldFirst_34 : decode b_St_toldFirst 34 = .ok (.getfield 23, 3) := by decide +kernel
theorem d_St_toldFirst_37 : decode b_St_toldFirst 37 = .ok (.iload 4, 2) := by decide +kernel
theorem d_St_toldFirst_39 : decode b_St_toldFirst 39 = .ok (.iaload, 1) := by decide +kernel
theorem d_St_toldFirst_40 : decode b_St_toldFirst 40 = .ok (.ifCond .le 6, 3) := by decide +kernel
theorem d_St_toldFirst_43 : decode b_St_toldFirst 43 = .ok (.iload 4, 2) := by decide +kernel
theorem d_St_toldFirst_45 : decode b_St_toldFirst 45 = .ok (.ireturn, 1) := by decide +kernel
theorem d_St_toldFirst_46 : decode b_St_toldFirst 46 = .ok (.iinc 3 1, 3) := by decide +kernel
theorem d_St_toldFirst_49 : decode b_St_toldFirst 49 = .ok (.goto (-47), 3) := by decide +kernel
theorem d_St_toldFirst_52 : decode b_St_toldFirst 52 = .ok (.iconst (-1), 1) := by decide +kernel
theorem d_St_toldFirst_53 : decode b_St_toldFirst 53 = .ok (.ireturn, 1) := by decide +kernel
theorem o_St_toldFirst : OkV y_St_toldFirst "OwnsLift$Standing" b_St_toldFirst 5 (some .int) 2 := ⟨⟨rfl, by decide +kernel, by decide +kernel, by decide +kernel⟩, g_748, g_15, g_77, g_749⟩
set_option maxHeartbeats 4000000 in
set_option maxRecDepth 100000 in
theorem c_St_toldFirst (l : Launch) (D : va_G) (g : Nat → ClassId) (a : Nat → Nat) (b : Nat → Nat) (x2 : Int32) (z : T_St) (w : T_Pe) (v : Int32) (h : d_St_toldFirst x2 z w = some v) :
    MI l y_St_toldFirst b_St_toldFirst 5 .int ({ frames := 0, cells := 0, slots := 0, locals := 0 } : Room) D g [.ref (a 0), .ref (b 0), .int x2] (ws_St g a z ++ ws_Pe g b w) (v) (ws_St g a z ++ ws_Pe g b w) := by
  have hd := h
  unfold d_St_toldFirst at hd
  refine enterI rfl (Nat.le_of_ble_eq_true rfl) (fun p e s m below meth c A ls hx hb hml hr hown hg hlk hK hA hP hD hS hCs hl => ?_)
  have hown : s.vm.findClass "OwnsLift$Standing" = some m.cls := hown
  have hl : lv_has ls 5 [(0, .ref (a 0)), (1, .ref (b 0)), (2, .int x2)] := hl
  show GI p l e s m ({ frames := 0, cells := 0, slots := 0, locals := 0 } : Room) ([.ref (a 0), .ref (b 0), .int x2] : List Value).toArray below meth c A D g (ws_St g a z ++ ws_Pe g b w) (v) s.heap [] (F0 m 0 ls [])
  refine lv_iconst (v := 0) hx hb d_St_toldFirst_0 (by decide) ?_
  refine lv_istore_n (lv' := [(3, .int 0), (0, .ref (a 0)), (1, .ref (b 0)), (2, .int x2)]) hx hb d_St_toldFirst_1 rfl hl (by decide) rfl (fun ls hl => ?_)
  have lp2 : ∀ (x2_f2 : Int32) (n : Nat) (x3_2 : Int32) (H : Heap) (locs : List Loc) (ls : Array Slot), va_P D classes (ws_St g a z ++ ws_Pe g b w) H → va_D A (ws_St g a z ++ ws_Pe g b w) → va_S A s.heap H locs → lv_has ls 5 [(0, .ref (a 0)), (1, .ref (b 0)), (2, .int x2_f2), (3, .int x3_2)] → d_St_toldFirst_L2 x2_f2 z w n x3_2 = some v → GI p l e s m ({ frames := 0, cells := 0, slots := 0, locals := 0 } : Room) ([.ref (a 0), .ref (b 0), .int x2] : List Value).toArray below meth c A D g (ws_St g a z ++ ws_Pe g b w) (v) H locs (F0 m 2 ls []) := by
    intro x2_f2 n
    induction n with
    | zero =>
      intro  x3_2 H locs ls hP hD hS hl hd
      have hd : none = some v := hd
      cases hd
    | succ n ih2 =>
      intro  x3_2 H locs ls hP hD hS hl hd
      have hd : B_St_toldFirst_L2 x2_f2 z w (d_St_toldFirst_L2 x2_f2 z w n) x3_2 = some v := hd
      generalize d_St_toldFirst_L2 x2_f2 z w n = self2 at ih2 hd
      unfold B_St_toldFirst_L2 at hd
      refine lv_iload_n hx hb d_St_toldFirst_2 rfl (lv_at hl 3 rfl) ?_
      refine lv_aload_n hx hb d_St_toldFirst_3 rfl (lv_at hl 1 rfl) ?_
      refine va_get (D := D) (ci := 5) (v := .ref (b 5)) (C := R_Pe) (T := F_Pe) (N := 7) hx hb hg i_Pe hown hK hP 10 rfl rfl 5 (by decide) (hg _ g_160) (fun _ h9 => h9) rfl d_St_toldFirst_4 ?_
      refine lv_iload_n hx hb d_St_toldFirst_7 rfl (lv_at hl 2 rfl) ?_
      obtain ⟨h_8, hd⟩ := ite_s hd
      refine ialdK hx hb hK hP 15 0 rfl rfl (inb_t h_8) rfl d_St_toldFirst_8 ?_
      refine lv_icmp_ge (tgt := 52) hx hb d_St_toldFirst_9 (by decide) (fun h_1 => ?_) (fun h_1 => ?_)
      · have hd := ite_t hd h_1
        refine lv_iconst (v := (-1)) hx hb d_St_toldFirst_52 (by decide) ?_
        obtain rfl := Option.some.inj hd
        exact retI hx hb hr hlk hK hP hD hS d_St_toldFirst_53 rfl
      · have hd := ite_f hd h_1
        refine lv_aload_n hx hb d_St_toldFirst_12 rfl (lv_at hl 1 rfl) ?_
        refine va_get (D := D) (ci := 5) (v := .ref (b 6)) (C := R_Pe) (T := F_Pe) (N := 7) hx hb hg i_Pe hown hK hP 10 rfl rfl 6 (by decide) (hg _ g_162) (fun _ h9 => h9) rfl d_St_toldFirst_13 ?_
        refine lv_iload_n hx hb d_St_toldFirst_16 rfl (lv_at hl 2 rfl) ?_
        obtain ⟨h_2, hd⟩ := ite_s hd
        refine aldA hx hb hK hP 16 rfl (inb_t h_2) d_St_toldFirst_17 ?_
        refine lv_iload_n hx hb d_St_toldFirst_18 rfl (lv_at hl 3 rfl) ?_
        obtain ⟨h_3, hd⟩ := ite_s hd
        refine ialdK hx hb hK hP (17 + x2_f2.toNatClampNeg) 0 ((show ∀ k, k < 4 → (ws_St g a z ++ ws_Pe g b w)[17 + k]? = some (b (k + 7), .inl (g 0, 7, .inl ((q_Pe_rows w) k))) from fun k hk => match k, hk with | 0, _ => rfl | 1, _ => rfl | 2, _ => rfl | 3, _ => rfl | k + 4, hk => absurd hk (by omega)) _ (vp_lt (inb_t h_2))) rfl (inb_t h_3) rfl d_St_toldFirst_19 ?_
        refine lv_istore (lv' := [(4, .int ((q_Pe_rows w) x2_f2.toNatClampNeg x3_2.toNatClampNeg)), (0, .ref (a 0)), (1, .ref (b 0)), (2, .int x2_f2), (3, .int x3_2)]) hx hb d_St_toldFirst_20 hl (by decide) rfl (fun ls hl => ?_)
        refine lv_aload_n hx hb d_St_toldFirst_22 rfl (lv_at hl 1 rfl) ?_
        refine va_get (D := D) (ci := 9) (v := .ref (a 9)) (C := R_St) (T := F_St) (N := 7) hx hb hg i_St hown hK hP 0 rfl rfl 6 (by decide) (hg _ g_297) (fun _ h9 => h9) rfl d_St_toldFirst_23 ?_
        refine lv_iload hx hb d_St_toldFirst_26 (lv_at hl 0 rfl) ?_
        obtain ⟨h_7, hd⟩ := ite_s hd
        refine ialdK hx hb hK hP 9 0 rfl rfl (inb_t h_7) rfl d_St_toldFirst_28 ?_
        refine lv_iload_n hx hb d_St_toldFirst_29 rfl (lv_at hl 3 rfl) ?_
        refine lv_icmp_ne (tgt := 46) hx hb d_St_toldFirst_30 (by decide) (fun h_4 => ?_) (fun h_4 => ?_)
        · have hd := ite_f hd h_4
          refine lv_iinc (v := x3_2 + 1) (lv' := [(3, .int (x3_2 + 1)), (4, .int ((q_Pe_rows w) x2_f2.toNatClampNeg x3_2.toNatClampNeg)), (0, .ref (a 0)), (1, .ref (b 0)), (2, .int x2_f2)]) hx hb d_St_toldFirst_46 hl (k := 4) rfl (by rfl) (by decide) rfl (fun ls hl => ?_)
          refine lv_goto (tgt := 2) hx hb d_St_toldFirst_49 (by decide) ?_
          exact ih2 (x3_2 + 1) _ _ _ hP hD hS (lv_sub hl [2, 3, 4, 0] rfl) hd
        · have hd := ite_t hd h_4
          refine lv_aload_n hx hb d_St_toldFirst_33 rfl (lv_at hl 1 rfl) ?_
          refine va_get (D := D) (ci := 9) (v := .ref (a 8)) (C := R_St) (T := F_St) (N := 7) hx hb hg i_St hown hK hP 0 rfl rfl 5 (by decide) (hg _ g_294) (fun _ h9 => h9) rfl d_St_toldFirst_34 ?_
          refine lv_iload hx hb d_St_toldFirst_37 (lv_at hl 0 rfl) ?_
          obtain ⟨h_6, hd⟩ := ite_s hd
          refine ialdK hx hb hK hP 8 0 rfl rfl (inb_t h_6) rfl d_St_toldFirst_39 ?_
          refine lv_if_le (tgt := 46) hx hb d_St_toldFirst_40 (by decide) (fun h_5 => ?_) (fun h_5 => ?_)
          · have hd := ite_t hd h_5
            refine lv_iinc (v := x3_2 + 1) (lv' := [(3, .int (x3_2 + 1)), (4, .int ((q_Pe_rows w) x2_f2.toNatClampNeg x3_2.toNatClampNeg)), (0, .ref (a 0)), (1, .ref (b 0)), (2, .int x2_f2)]) hx hb d_St_toldFirst_46 hl (k := 4) rfl (by rfl) (by decide) rfl (fun ls hl => ?_)
            refine lv_goto (tgt := 2) hx hb d_St_toldFirst_49 (by decide) ?_
            exact ih2 (x3_2 + 1) _ _ _ hP hD hS (lv_sub hl [2, 3, 4, 0] rfl) hd
          · have hd := ite_f hd h_5
            refine lv_iload hx hb d_St_toldFirst_43 (lv_at hl 0 rfl) ?_
            obtain rfl := Option.some.inj hd
            exact retI hx hb hr hlk hK hP hD hS d_St_toldFirst_45 rfl
  exact lp2 x2 1000 0 _ _ _ hP hD hS (lv_sub hl [1, 2, 3, 0] rfl) hd
-- OwnsLift$Standing.choose(LOwnsLift$People;I)I
def B_St_choose_L34 (x2_f34 : Int32) (z : T_St) (w : T_Pe) (self34 : Int32 → Int32 → Option (Int32)) (x4_34 : Int32) (x5_34 : Int32) : Option (Int32) :=
  if (q_St_things z) ≤ x5_34 then (some (x4_34)) else (if inb x5_34 7 = true then (if ((q_St_owner z) x5_34.toNatClampNeg) = x2_f34 then (if x4_34 < 0 then (self34 x5_34 (x5_34 + 1)) else (if inb x2_f34 4 = true then ((d_St_goesAhead ((q_Pe_kind w) x2_f34.toNatClampNeg) x2_f34 x5_34 x4_34 z).bind fun v_5 => if v_5 = 0 then (self34 x4_34 (x5_34 + 1)) else (self34 x5_34 (x5_34 + 1))) else none)) else (self34 x4_34 (x5_34 + 1))) else none)
def d_St_choose_L34 (x2_f34 : Int32) (z : T_St) (w : T_Pe) (n : Nat) : Int32 → Int32 → Option (Int32) := recN (fun _ _ => none) (fun self => B_St_choose_L34 x2_f34 z w self) n
def d_St_choose (x2 : Int32) (z : T_St) (w : T_Pe) : Option (Int32) :=
  if inb x2 4 = true then (if ((q_Pe_kind w) x2.toNatClampNeg) = 6 then ((d_St_toldFirst x2 z w).bind fun v_10 => if v_10 < 0 then (d_St_choose_L34 x2 z w  1000 (-1) 0) else (some (v_10))) else (d_St_choose_L34 x2 z w  1000 (-1) 0)) else none
theorem d_St_choose_0 : decode b_St_choose 0 = .ok (.aload_n 1, 1) := by decide +kernel
theorem d_St_choose_1 : decode b_St_choose 1 = .ok (.getfield 88, 3) := by decide +kernel
theorem d_St_choose_4 : decode b_St_choose 4 = .ok (.iload_n 2, 1) := by decide +kernel
theorem d_St_choose_5 : decode b_St_choose 5 = .ok (.iaload, 1) := by decide +kernel
theorem d_St_choose_6 : decode b_St_choose 6 = .ok (.bipush 6, 2) := by decide +kernel
theorem d_St_choose_8 : decode b_St_choose 8 = .ok (.if_icmp .ne 12, 3) := by decide +kernel
theorem d_St_choose_11 : decode b_St_choose 11 = .ok (.aload_n 0, 1) := by decide +kernel
theorem d_St_choose_12 : decode b_St_choose 12 = .ok (.aload_n 1, 1) := by decide +kernel
theorem d_St_choose_13 : decode b_St_choose 13 = .ok (.iload_n 2, 1) := by decide +kernel
theorem d_St_choose_14 : decode b_St_choose 14 = .ok (.invokevirtual 95, 3) := by decide +kernel
theorem d_St_choose_17 : decode b_St_choose 17 = .ok (.goto 4, 3) := by decide +kernel
theorem d_St_choose_20 : decode b_St_choose 20 = .ok (.iconst (-1), 1) := by decide +kernel
theorem d_St_choose_21 : decode b_St_choose 21 = .ok (.istore_n 3, 1) := by decide +kernel
theorem d_St_choose_22 : decode b_St_choose 22 = .ok (.iload_n 3, 1) := by decide +kernel
theorem d_St_choose_23 : decode b_St_choose 23 = .ok (.ifCond .lt 5, 3) := by decide +kernel
theorem d_St_choose_26 : decode b_St_choose 26 = .ok (.iload_n 3, 1) := by decide +kernel
theorem d_St_choose_27 : decode b_St_choose 27 = .ok (.ireturn, 1) := by decide +kernel
theorem d_St_choose_28 : decode b_St_choose 28 = .ok (.iconst (-1), 1) := by decide +kernel
theorem d_St_choose_29 : decode b_St_choose 29 = .ok (.istore 4, 2) := by decide +kernel
theorem d_St_choose_31 : decode b_St_choose 31 = .ok (.iconst 0, 1) := by decide +kernel
theorem d_St_choose_32 : decode b_St_choose 32 = .ok (.istore 5, 2) := by decide +kernel
theorem d_St_choose_34 : decode b_St_choose 34 = .ok (.iload 5, 2) := by decide +kernel
theorem d_St_choose_36 : decode b_St_choose 36 = .ok (.aload_n 0, 1) := by decide +kernel
theorem d_St_choose_37 : decode b_St_choose 37 = .ok (.getfield 50, 3) := by decide +kernel
theorem d_St_choose_40 : decode b_St_choose 40 = .ok (.if_icmp .ge 47, 3) := by decide +kernel
theorem d_St_choose_43 : decode b_St_choose 43 = .ok (.aload_n 0, 1) := by decide +kernel
theorem d_St_choose_44 : decode b_St_choose 44 = .ok (.getfield 26, 3) := by decide +kernel
theorem d_St_choose_47 : decode b_St_choose 47 = .ok (.iload 5, 2) := by decide +kernel
theorem d_St_choose_49 : decode b_St_choose 49 = .ok (.iaload, 1) := by decide +kernel
theorem d_St_choose_50 : decode b_St_choose 50 = .ok (.iload_n 2, 1) := by decide +kernel
theorem d_St_choose_51 : decode b_St_choose 51 = .ok (.if_icmp .ne 30, 3) := by decide +kernel
theorem d_St_choose_54 : decode b_St_choose 54 = .ok (.iload 4, 2) := by decide +kernel
theorem d_St_choose_56 : decode b_St_choose 56 = .ok (.ifCond .lt 21, 3) := by decide +kernel
theorem d_St_choose_59 : decode b_St_choose 59 = .ok (.aload_n 0, 1) := by decide +kernel
theorem d_St_choose_60 : decode b_St_choose 60 = .ok (.aload_n 1, 1) := by decide +kernel
theorem d_St_choose_61 : decode b_St_choose 61 = .ok (.getfield 88, 3) := by decide +kernel
theorem d_St_choose_64 : decode b_St_choose 64 = .ok (.iload_n 2, 1) := by decide +kernel
theorem d_St_choose_65 : decode b_St_choose 65 = .ok (.iaload, 1) := by decide +kernel
theorem d_St_choose_66 : decode b_St_choose 66 = .ok (.iload_n 2, 1) := by decide +kernel
theorem d_St_choose_67 : decode b_St_choose 67 = .ok (.iload 5, 2) := by decide +kernel
theorem d_St_choose_69 : decode b_St_choose 69 = .ok (.iload 4, 2) := by decide +kernel
theorem d_St_choose_71 : decode b_St_choose 71 = .ok (.invokevirtual 98, 3) := by decide +kernel
theorem d_St_choose_74 : decode b_St_choose 74 = .ok (.ifCond .eq 7, 3) := by decide +kernel
theorem d_St_choose_77 : decode b_St_choose 77 = .ok (.iload 5, 2) := by decide +kernel
theorem d_St_choose_79 : decode b_St_choose 79 = .ok (.istore 4, 2) := by decide +kernel
theorem d_St_choose_81 : decode b_St_choose 81 = .ok (.iinc 5 1, 3) := by decide +kernel
theorem d_St_choose_84 : decode b_St_choose 84 = .ok (.goto (-50), 3) := by decide +kernel
theorem d_St_choose_87 : decode b_St_choose 87 = .ok (.iload 4, 2) := by decide +kernel
theorem d_St_choose_89 : decode b_St_choose 89 = .ok (.ireturn, 1) := by decide +kernel
theorem o_St_choose : OkV y_St_choose "OwnsLift$Standing" b_St_choose 6 (some .int) 2 := ⟨⟨rfl, by decide +kernel, by decide +kernel, by decide +kernel⟩, g_744, g_14, g_77, g_745⟩
set_option maxHeartbeats 4000000 in
set_option maxRecDepth 100000 in
theorem c_St_choose (l : Launch) (D : va_G) (g : Nat → ClassId) (a : Nat → Nat) (b : Nat → Nat) (x2 : Int32) (z : T_St) (w : T_Pe) (v : Int32) (h : d_St_choose x2 z w = some v) :
    MI l y_St_choose b_St_choose 6 .int ({ frames := 2, cells := 0, slots := 0, locals := 47 } : Room) D g [.ref (a 0), .ref (b 0), .int x2] (ws_St g a z ++ ws_Pe g b w) (v) (ws_St g a z ++ ws_Pe g b w) := by
  have hd := h
  unfold d_St_choose at hd
  refine enterI rfl (Nat.le_of_ble_eq_true rfl) (fun p e s m below meth c A ls hx hb hml hr hown hg hlk hK hA hP hD hS hCs hl => ?_)
  have hown : s.vm.findClass "OwnsLift$Standing" = some m.cls := hown
  have hl : lv_has ls 6 [(0, .ref (a 0)), (1, .ref (b 0)), (2, .int x2)] := hl
  show GI p l e s m ({ frames := 2, cells := 0, slots := 0, locals := 47 } : Room) ([.ref (a 0), .ref (b 0), .int x2] : List Value).toArray below meth c A D g (ws_St g a z ++ ws_Pe g b w) (v) s.heap [] (F0 m 0 ls [])
  refine lv_aload_n hx hb d_St_choose_0 rfl (lv_at hl 1 rfl) ?_
  refine va_get (D := D) (ci := 5) (v := .ref (b 1)) (C := R_Pe) (T := F_Pe) (N := 7) hx hb hg i_Pe hown hK hP 10 rfl rfl 1 (by decide) (hg _ g_147) (fun _ h9 => h9) rfl d_St_choose_1 ?_
  refine lv_iload_n hx hb d_St_choose_4 rfl (lv_at hl 2 rfl) ?_
  obtain ⟨h_21, hd⟩ := ite_s hd
  refine ialdK hx hb hK hP 11 0 rfl rfl (inb_t h_21) rfl d_St_choose_5 ?_
  refine lv_bipush (v := 6) hx hb d_St_choose_6 (by decide) ?_
  refine lv_icmp_ne (tgt := 20) hx hb d_St_choose_8 (by decide) (fun h_1 => ?_) (fun h_1 => ?_)
  · have hd := ite_f hd h_1
    refine lv_iconst (v := (-1)) hx hb d_St_choose_20 (by decide) ?_
    refine lv_istore_n (lv' := [(3, .int (-1)), (0, .ref (a 0)), (1, .ref (b 0)), (2, .int x2)]) hx hb d_St_choose_21 rfl hl (by decide) rfl (fun ls hl => ?_)
    refine lv_iload_n hx hb d_St_choose_22 rfl (lv_at hl 0 rfl) ?_
    refine lv_if_lt (tgt := 28) hx hb d_St_choose_23 (by decide) (fun _ => ?_) (fun h9 => absurd (by decide) h9)
    refine lv_iconst (v := (-1)) hx hb d_St_choose_28 (by decide) ?_
    refine lv_istore (lv' := [(4, .int (-1)), (3, .int (-1)), (0, .ref (a 0)), (1, .ref (b 0)), (2, .int x2)]) hx hb d_St_choose_29 hl (by decide) rfl (fun ls hl => ?_)
    refine lv_iconst (v := 0) hx hb d_St_choose_31 (by decide) ?_
    refine lv_istore (lv' := [(5, .int 0), (4, .int (-1)), (3, .int (-1)), (0, .ref (a 0)), (1, .ref (b 0)), (2, .int x2)]) hx hb d_St_choose_32 hl (by decide) rfl (fun ls hl => ?_)
    have lp34 : ∀ (x2_f34 : Int32) (n : Nat) (x4_34 : Int32) (x5_34 : Int32) (H : Heap) (locs : List Loc) (ls : Array Slot), va_P D classes (ws_St g a z ++ ws_Pe g b w) H → va_D A (ws_St g a z ++ ws_Pe g b w) → va_S A s.heap H locs → lv_has ls 6 [(0, .ref (a 0)), (1, .ref (b 0)), (2, .int x2_f34), (4, .int x4_34), (5, .int x5_34)] → d_St_choose_L34 x2_f34 z w n x4_34 x5_34 = some v → GI p l e s m ({ frames := 2, cells := 0, slots := 0, locals := 47 } : Room) ([.ref (a 0), .ref (b 0), .int x2] : List Value).toArray below meth c A D g (ws_St g a z ++ ws_Pe g b w) (v) H locs (F0 m 34 ls []) := by
      intro x2_f34 n
      induction n with
      | zero =>
        intro  x4_34 x5_34 H locs ls hP hD hS hl hd
        have hd : none = some v := hd
        cases hd
      | succ n ih34 =>
        intro  x4_34 x5_34 H locs ls hP hD hS hl hd
        have hd : B_St_choose_L34 x2_f34 z w (d_St_choose_L34 x2_f34 z w n) x4_34 x5_34 = some v := hd
        generalize d_St_choose_L34 x2_f34 z w n = self34 at ih34 hd
        unfold B_St_choose_L34 at hd
        refine lv_iload hx hb d_St_choose_34 (lv_at hl 4 rfl) ?_
        refine lv_aload_n hx hb d_St_choose_36 rfl (lv_at hl 0 rfl) ?_
        refine va_get (D := D) (ci := 9) (v := .int (q_St_things z)) (C := R_St) (T := F_St) (N := 7) hx hb hg i_St hown hK hP 0 rfl rfl 1 (by decide) (hg _ g_281) (fun _ h9 => h9) rfl d_St_choose_37 ?_
        refine lv_icmp_ge (tgt := 87) hx hb d_St_choose_40 (by decide) (fun h_2 => ?_) (fun h_2 => ?_)
        · have hd := ite_t hd h_2
          refine lv_iload hx hb d_St_choose_87 (lv_at hl 3 rfl) ?_
          obtain rfl := Option.some.inj hd
          exact retI hx hb hr hlk hK hP hD hS d_St_choose_89 rfl
        · have hd := ite_f hd h_2
          refine lv_aload_n hx hb d_St_choose_43 rfl (lv_at hl 0 rfl) ?_
          refine va_get (D := D) (ci := 9) (v := .ref (a 9)) (C := R_St) (T := F_St) (N := 7) hx hb hg i_St hown hK hP 0 rfl rfl 6 (by decide) (hg _ g_297) (fun _ h9 => h9) rfl d_St_choose_44 ?_
          refine lv_iload hx hb d_St_choose_47 (lv_at hl 4 rfl) ?_
          obtain ⟨h_9, hd⟩ := ite_s hd
          refine ialdK hx hb hK hP 9 0 rfl rfl (inb_t h_9) rfl d_St_choose_49 ?_
          refine lv_iload_n hx hb d_St_choose_50 rfl (lv_at hl 2 rfl) ?_
          refine lv_icmp_ne (tgt := 81) hx hb d_St_choose_51 (by decide) (fun h_3 => ?_) (fun h_3 => ?_)
          · have hd := ite_f hd h_3
            refine lv_iinc (v := x5_34 + 1) (lv' := [(5, .int (x5_34 + 1)), (0, .ref (a 0)), (1, .ref (b 0)), (2, .int x2_f34), (4, .int x4_34)]) hx hb d_St_choose_81 hl (k := 4) rfl (by rfl) (by decide) rfl (fun ls hl => ?_)
            refine lv_goto (tgt := 34) hx hb d_St_choose_84 (by decide) ?_
            exact ih34 x4_34 (x5_34 + 1) _ _ _ hP hD hS (lv_sub hl [1, 2, 3, 4, 0] rfl) hd
          · have hd := ite_t hd h_3
            refine lv_iload hx hb d_St_choose_54 (lv_at hl 3 rfl) ?_
            refine lv_if_lt (tgt := 77) hx hb d_St_choose_56 (by decide) (fun h_4 => ?_) (fun h_4 => ?_)
            · have hd := ite_t hd h_4
              refine lv_iload hx hb d_St_choose_77 (lv_at hl 4 rfl) ?_
              refine lv_istore (lv' := [(4, .int x5_34), (0, .ref (a 0)), (1, .ref (b 0)), (2, .int x2_f34), (5, .int x5_34)]) hx hb d_St_choose_79 hl (by decide) rfl (fun ls hl => ?_)
              refine lv_iinc (v := x5_34 + 1) (lv' := [(5, .int (x5_34 + 1)), (4, .int x5_34), (0, .ref (a 0)), (1, .ref (b 0)), (2, .int x2_f34)]) hx hb d_St_choose_81 hl (k := 4) rfl (by rfl) (by decide) rfl (fun ls hl => ?_)
              refine lv_goto (tgt := 34) hx hb d_St_choose_84 (by decide) ?_
              exact ih34 x5_34 (x5_34 + 1) _ _ _ hP hD hS (lv_sub hl [2, 3, 4, 1, 0] rfl) hd
            · have hd := ite_f hd h_4
              refine lv_aload_n hx hb d_St_choose_59 rfl (lv_at hl 0 rfl) ?_
              refine lv_aload_n hx hb d_St_choose_60 rfl (lv_at hl 1 rfl) ?_
              refine va_get (D := D) (ci := 5) (v := .ref (b 1)) (C := R_Pe) (T := F_Pe) (N := 7) hx hb hg i_Pe hown hK hP 10 rfl rfl 1 (by decide) (hg _ g_147) (fun _ h9 => h9) rfl d_St_choose_61 ?_
              refine lv_iload_n hx hb d_St_choose_64 rfl (lv_at hl 2 rfl) ?_
              obtain ⟨h_8, hd⟩ := ite_s hd
              refine ialdK hx hb hK hP 11 0 rfl rfl (inb_t h_8) rfl d_St_choose_65 ?_
              refine lv_iload_n hx hb d_St_choose_66 rfl (lv_at hl 2 rfl) ?_
              refine lv_iload hx hb d_St_choose_67 (lv_at hl 4 rfl) ?_
              refine lv_iload hx hb d_St_choose_69 (lv_at hl 3 rfl) ?_
              obtain ⟨v_5, e_6, hd⟩ := bind_s hd
              refine callVI (ws' := ws_St g a z ++ ws_Pe g b w) (rest := []) (As := [.int ((q_Pe_kind w) x2_f34.toNatClampNeg), .int x2_f34, .int x5_34, .int x4_34]) hx hb hml hown hg hK hP hD hS hA hCs hl.1 (c_St_goesAhead l D g a ((q_Pe_kind w) x2_f34.toNatClampNeg) x2_f34 x5_34 x4_34 z _ e_6) o_St_goesAhead g_750 (ci := 9) (q0 := 0) rfl rfl (List.range' 0 10) (segC1 rfl rfl) (by decide) rfl (segP1 rfl rfl) rfl rfl (Nat.le_of_ble_eq_true rfl) ⟨rfl, rfl, Nat.le_of_ble_eq_true rfl, Nat.le_of_ble_eq_true rfl⟩ d_St_choose_71 (fun H locs hP hD hS => ?_)
              refine lv_if_eq (tgt := 81) hx hb d_St_choose_74 (by decide) (fun h_7 => ?_) (fun h_7 => ?_)
              · have hd := ite_t hd h_7
                refine lv_iinc (v := x5_34 + 1) (lv' := [(5, .int (x5_34 + 1)), (0, .ref (a 0)), (1, .ref (b 0)), (2, .int x2_f34), (4, .int x4_34)]) hx hb d_St_choose_81 hl (k := 4) rfl (by rfl) (by decide) rfl (fun ls hl => ?_)
                refine lv_goto (tgt := 34) hx hb d_St_choose_84 (by decide) ?_
                exact ih34 x4_34 (x5_34 + 1) _ _ _ hP hD hS (lv_sub hl [1, 2, 3, 4, 0] rfl) hd
              · have hd := ite_f hd h_7
                refine lv_iload hx hb d_St_choose_77 (lv_at hl 4 rfl) ?_
                refine lv_istore (lv' := [(4, .int x5_34), (0, .ref (a 0)), (1, .ref (b 0)), (2, .int x2_f34), (5, .int x5_34)]) hx hb d_St_choose_79 hl (by decide) rfl (fun ls hl => ?_)
                refine lv_iinc (v := x5_34 + 1) (lv' := [(5, .int (x5_34 + 1)), (4, .int x5_34), (0, .ref (a 0)), (1, .ref (b 0)), (2, .int x2_f34)]) hx hb d_St_choose_81 hl (k := 4) rfl (by rfl) (by decide) rfl (fun ls hl => ?_)
                refine lv_goto (tgt := 34) hx hb d_St_choose_84 (by decide) ?_
                exact ih34 x5_34 (x5_34 + 1) _ _ _ hP hD hS (lv_sub hl [2, 3, 4, 1, 0] rfl) hd
    exact lp34 x2 1000 (-1) 0 _ _ _ hP hD hS (lv_sub hl [3, 4, 5, 1, 0] rfl) hd
  · have hd := ite_t hd h_1
    refine lv_aload_n hx hb d_St_choose_11 rfl (lv_at hl 0 rfl) ?_
    refine lv_aload_n hx hb d_St_choose_12 rfl (lv_at hl 1 rfl) ?_
    refine lv_iload_n hx hb d_St_choose_13 rfl (lv_at hl 2 rfl) ?_
    obtain ⟨v_10, e_11, hd⟩ := bind_s hd
    refine callVI (ws' := ws_St g a z ++ ws_Pe g b w) (rest := []) (As := [.ref (b 0), .int x2]) hx hb hml hown hg hK hP hD hS hA hCs hl.1 (c_St_toldFirst l D g a b x2 z w _ e_11) o_St_toldFirst g_746 (ci := 9) (q0 := 0) rfl rfl (List.range' 0 10 ++ List.range' 10 11) (segC2 rfl rfl rfl rfl) (by decide) rfl (segP2 rfl rfl rfl) rfl rfl (Nat.le_of_ble_eq_true rfl) ⟨rfl, rfl, Nat.le_of_ble_eq_true rfl, Nat.le_of_ble_eq_true rfl⟩ d_St_choose_14 (fun H locs hP hD hS => ?_)
    refine lv_goto (tgt := 21) hx hb d_St_choose_17 (by decide) ?_
    refine lv_istore_n (lv' := [(3, .int v_10), (0, .ref (a 0)), (1, .ref (b 0)), (2, .int x2)]) hx hb d_St_choose_21 rfl hl (by decide) rfl (fun ls hl => ?_)
    refine lv_iload_n hx hb d_St_choose_22 rfl (lv_at hl 0 rfl) ?_
    refine lv_if_lt (tgt := 28) hx hb d_St_choose_23 (by decide) (fun h_12 => ?_) (fun h_12 => ?_)
    · have hd := ite_t hd h_12
      refine lv_iconst (v := (-1)) hx hb d_St_choose_28 (by decide) ?_
      refine lv_istore (lv' := [(4, .int (-1)), (3, .int v_10), (0, .ref (a 0)), (1, .ref (b 0)), (2, .int x2)]) hx hb d_St_choose_29 hl (by decide) rfl (fun ls hl => ?_)
      refine lv_iconst (v := 0) hx hb d_St_choose_31 (by decide) ?_
      refine lv_istore (lv' := [(5, .int 0), (4, .int (-1)), (3, .int v_10), (0, .ref (a 0)), (1, .ref (b 0)), (2, .int x2)]) hx hb d_St_choose_32 hl (by decide) rfl (fun ls hl => ?_)
      have lp34 : ∀ (x2_f34 : Int32) (n : Nat) (x4_34 : Int32) (x5_34 : Int32) (H : Heap) (locs : List Loc) (ls : Array Slot), va_P D classes (ws_St g a z ++ ws_Pe g b w) H → va_D A (ws_St g a z ++ ws_Pe g b w) → va_S A s.heap H locs → lv_has ls 6 [(0, .ref (a 0)), (1, .ref (b 0)), (2, .int x2_f34), (4, .int x4_34), (5, .int x5_34)] → d_St_choose_L34 x2_f34 z w n x4_34 x5_34 = some v → GI p l e s m ({ frames := 2, cells := 0, slots := 0, locals := 47 } : Room) ([.ref (a 0), .ref (b 0), .int x2] : List Value).toArray below meth c A D g (ws_St g a z ++ ws_Pe g b w) (v) H locs (F0 m 34 ls []) := by
        intro x2_f34 n
        induction n with
        | zero =>
          intro  x4_34 x5_34 H locs ls hP hD hS hl hd
          have hd : none = some v := hd
          cases hd
        | succ n ih34 =>
          intro  x4_34 x5_34 H locs ls hP hD hS hl hd
          have hd : B_St_choose_L34 x2_f34 z w (d_St_choose_L34 x2_f34 z w n) x4_34 x5_34 = some v := hd
          generalize d_St_choose_L34 x2_f34 z w n = self34 at ih34 hd
          unfold B_St_choose_L34 at hd
          refine lv_iload hx hb d_St_choose_34 (lv_at hl 4 rfl) ?_
          refine lv_aload_n hx hb d_St_choose_36 rfl (lv_at hl 0 rfl) ?_
          refine va_get (D := D) (ci := 9) (v := .int (q_St_things z)) (C := R_St) (T := F_St) (N := 7) hx hb hg i_St hown hK hP 0 rfl rfl 1 (by decide) (hg _ g_281) (fun _ h9 => h9) rfl d_St_choose_37 ?_
          refine lv_icmp_ge (tgt := 87) hx hb d_St_choose_40 (by decide) (fun h_13 => ?_) (fun h_13 => ?_)
          · have hd := ite_t hd h_13
            refine lv_iload hx hb d_St_choose_87 (lv_at hl 3 rfl) ?_
            obtain rfl := Option.some.inj hd
            exact retI hx hb hr hlk hK hP hD hS d_St_choose_89 rfl
          · have hd := ite_f hd h_13
            refine lv_aload_n hx hb d_St_choose_43 rfl (lv_at hl 0 rfl) ?_
            refine va_get (D := D) (ci := 9) (v := .ref (a 9)) (C := R_St) (T := F_St) (N := 7) hx hb hg i_St hown hK hP 0 rfl rfl 6 (by decide) (hg _ g_297) (fun _ h9 => h9) rfl d_St_choose_44 ?_
            refine lv_iload hx hb d_St_choose_47 (lv_at hl 4 rfl) ?_
            obtain ⟨h_20, hd⟩ := ite_s hd
            refine ialdK hx hb hK hP 9 0 rfl rfl (inb_t h_20) rfl d_St_choose_49 ?_
            refine lv_iload_n hx hb d_St_choose_50 rfl (lv_at hl 2 rfl) ?_
            refine lv_icmp_ne (tgt := 81) hx hb d_St_choose_51 (by decide) (fun h_14 => ?_) (fun h_14 => ?_)
            · have hd := ite_f hd h_14
              refine lv_iinc (v := x5_34 + 1) (lv' := [(5, .int (x5_34 + 1)), (0, .ref (a 0)), (1, .ref (b 0)), (2, .int x2_f34), (4, .int x4_34)]) hx hb d_St_choose_81 hl (k := 4) rfl (by rfl) (by decide) rfl (fun ls hl => ?_)
              refine lv_goto (tgt := 34) hx hb d_St_choose_84 (by decide) ?_
              exact ih34 x4_34 (x5_34 + 1) _ _ _ hP hD hS (lv_sub hl [1, 2, 3, 4, 0] rfl) hd
            · have hd := ite_t hd h_14
              refine lv_iload hx hb d_St_choose_54 (lv_at hl 3 rfl) ?_
              refine lv_if_lt (tgt := 77) hx hb d_St_choose_56 (by decide) (fun h_15 => ?_) (fun h_15 => ?_)
              · have hd := ite_t hd h_15
                refine lv_iload hx hb d_St_choose_77 (lv_at hl 4 rfl) ?_
                refine lv_istore (lv' := [(4, .int x5_34), (0, .ref (a 0)), (1, .ref (b 0)), (2, .int x2_f34), (5, .int x5_34)]) hx hb d_St_choose_79 hl (by decide) rfl (fun ls hl => ?_)
                refine lv_iinc (v := x5_34 + 1) (lv' := [(5, .int (x5_34 + 1)), (4, .int x5_34), (0, .ref (a 0)), (1, .ref (b 0)), (2, .int x2_f34)]) hx hb d_St_choose_81 hl (k := 4) rfl (by rfl) (by decide) rfl (fun ls hl => ?_)
                refine lv_goto (tgt := 34) hx hb d_St_choose_84 (by decide) ?_
                exact ih34 x5_34 (x5_34 + 1) _ _ _ hP hD hS (lv_sub hl [2, 3, 4, 1, 0] rfl) hd
              · have hd := ite_f hd h_15
                refine lv_aload_n hx hb d_St_choose_59 rfl (lv_at hl 0 rfl) ?_
                refine lv_aload_n hx hb d_St_choose_60 rfl (lv_at hl 1 rfl) ?_
                refine va_get (D := D) (ci := 5) (v := .ref (b 1)) (C := R_Pe) (T := F_Pe) (N := 7) hx hb hg i_Pe hown hK hP 10 rfl rfl 1 (by decide) (hg _ g_147) (fun _ h9 => h9) rfl d_St_choose_61 ?_
                refine lv_iload_n hx hb d_St_choose_64 rfl (lv_at hl 2 rfl) ?_
                obtain ⟨h_19, hd⟩ := ite_s hd
                refine ialdK hx hb hK hP 11 0 rfl rfl (inb_t h_19) rfl d_St_choose_65 ?_
                refine lv_iload_n hx hb d_St_choose_66 rfl (lv_at hl 2 rfl) ?_
                refine lv_iload hx hb d_St_choose_67 (lv_at hl 4 rfl) ?_
                refine lv_iload hx hb d_St_choose_69 (lv_at hl 3 rfl) ?_
                obtain ⟨v_16, e_17, hd⟩ := bind_s hd
                refine callVI (ws' := ws_St g a z ++ ws_Pe g b w) (rest := []) (As := [.int ((q_Pe_kind w) x2_f34.toNatClampNeg), .int x2_f34, .int x5_34, .int x4_34]) hx hb hml hown hg hK hP hD hS hA hCs hl.1 (c_St_goesAhead l D g a ((q_Pe_kind w) x2_f34.toNatClampNeg) x2_f34 x5_34 x4_34 z _ e_17) o_St_goesAhead g_750 (ci := 9) (q0 := 0) rfl rfl (List.range' 0 10) (segC1 rfl rfl) (by decide) rfl (segP1 rfl rfl) rfl rfl (Nat.le_of_ble_eq_true rfl) ⟨rfl, rfl, Nat.le_of_ble_eq_true rfl, Nat.le_of_ble_eq_true rfl⟩ d_St_choose_71 (fun H locs hP hD hS => ?_)
                refine lv_if_eq (tgt := 81) hx hb d_St_choose_74 (by decide) (fun h_18 => ?_) (fun h_18 => ?_)
                · have hd := ite_t hd h_18
                  refine lv_iinc (v := x5_34 + 1) (lv' := [(5, .int (x5_34 + 1)), (0, .ref (a 0)), (1, .ref (b 0)), (2, .int x2_f34), (4, .int x4_34)]) hx hb d_St_choose_81 hl (k := 4) rfl (by rfl) (by decide) rfl (fun ls hl => ?_)
                  refine lv_goto (tgt := 34) hx hb d_St_choose_84 (by decide) ?_
                  exact ih34 x4_34 (x5_34 + 1) _ _ _ hP hD hS (lv_sub hl [1, 2, 3, 4, 0] rfl) hd
                · have hd := ite_f hd h_18
                  refine lv_iload hx hb d_St_choose_77 (lv_at hl 4 rfl) ?_
                  refine lv_istore (lv' := [(4, .int x5_34), (0, .ref (a 0)), (1, .ref (b 0)), (2, .int x2_f34), (5, .int x5_34)]) hx hb d_St_choose_79 hl (by decide) rfl (fun ls hl => ?_)
                  refine lv_iinc (v := x5_34 + 1) (lv' := [(5, .int (x5_34 + 1)), (4, .int x5_34), (0, .ref (a 0)), (1, .ref (b 0)), (2, .int x2_f34)]) hx hb d_St_choose_81 hl (k := 4) rfl (by rfl) (by decide) rfl (fun ls hl => ?_)
                  refine lv_goto (tgt := 34) hx hb d_St_choose_84 (by decide) ?_
                  exact ih34 x5_34 (x5_34 + 1) _ _ _ hP hD hS (lv_sub hl [2, 3, 4, 1, 0] rfl) hd
      exact lp34 x2 1000 (-1) 0 _ _ _ hP hD hS (lv_sub hl [3, 4, 5, 1, 0] rfl) hd
    · have hd := ite_f hd h_12
      refine lv_iload_n hx hb d_St_choose_26 rfl (lv_at hl 0 rfl) ?_
      obtain rfl := Option.some.inj hd
      exact retI hx hb hr hlk hK hP hD hS d_St_choose_27 rfl
-- OwnsLift$Standing.heir(III)I
def B_St_heir_L16 (x2_f16 : Int32) (x3_f16 : Int32) (z : T_St) (self16 : Int32 → Option (Int32)) (x4_16 : Int32) : Option (Int32) :=
  if (q_St_people z) ≤ x4_16 then (some ((-5))) else (if (q_St_people z) ≤ (x2_f16 + x4_16) then ((d_St_load ((x2_f16 + x4_16) - (q_St_people z)) z).bind fun v_4 => if inb x3_f16 7 = true then (if inb ((x2_f16 + x4_16) - (q_St_people z)) 4 = true then (if ((q_St_lifts z) ((x2_f16 + x4_16) - (q_St_people z)).toNatClampNeg) < (v_4 + ((q_St_weight z) x3_f16.toNatClampNeg)) then (self16 (x4_16 + 1)) else (some ((x2_f16 + x4_16) - (q_St_people z)))) else none) else none) else ((d_St_load (x2_f16 + x4_16) z).bind fun v_9 => if inb x3_f16 7 = true then (if inb (x2_f16 + x4_16) 4 = true then (if ((q_St_lifts z) (x2_f16 + x4_16).toNatClampNeg) < (v_9 + ((q_St_weight z) x3_f16.toNatClampNeg)) then (self16 (x4_16 + 1)) else (some (x2_f16 + x4_16))) else none) else none))
def d_St_heir_L16 (x2_f16 : Int32) (x3_f16 : Int32) (z : T_St) (n : Nat) : Int32 → Option (Int32) := recN (fun _ => none) (fun self => B_St_heir_L16 x2_f16 x3_f16 z self) n
def d_St_heir (x1 : Int32) (x2 : Int32) (x3 : Int32) (z : T_St) : Option (Int32) :=
  if x1 = 2 then (d_St_heir_L16 x2 x3 z  1000 1) else (if x1 = 5 then (d_St_heir_L16 x2 x3 z  1000 1) else (some ((-5))))
theorem d_St_heir_0 : decode b_St_heir 0 = .ok (.iload_n 1, 1) := by decide +kernel
theorem d_St_heir_1 : decode b_St_heir 1 = .ok (.iconst 2, 1) := by decide +kernel
theorem d_St_heir_2 : decode b_St_heir 2 = .ok (.if_icmp .eq 11, 3) := by decide +kernel
theorem d_St_heir_5 : decode b_St_heir 5 = .ok (.iload_n 1, 1) := by decide +kernel
theorem d_St_heir_6 : decode b_St_heir 6 = .ok (.iconst 5, 1) := by decide +kernel
theorem d_St_heir_7 : decode b_St_heir 7 = .ok (.if_icmp .eq 6, 3) := by decide +kernel
theorem d_St_heir_10 : decode b_St_heir 10 = .ok (.bipush (-5), 2) := by decide +kernel
theorem d_St_heir_12 : decode b_St_heir 12 = .ok (.ireturn, 1) := by decide +kernel
theorem d_St_heir_13 : decode b_St_heir 13 = .ok (.iconst 1, 1) := by decide +kernel
theorem d_St_heir_14 : decode b_St_heir 14 = .ok (.istore 4, 2) := by decide +kernel
theorem d_St_heir_16 : decode b_St_heir 16 = .ok (.iload 4, 2) := by decide +kernel
theorem d_St_heir_18 : decode b_St_heir 18 = .ok (.aload_n 0, 1) := by decide +kernel
theorem d_St_heir_19 : decode b_St_heir 19 = .ok (.getfield 41, 3) := by decide +kernel
theorem d_St_heir_22 : decode b_St_heir 22 = .ok (.if_icmp .ge 64, 3) := by decide +kernel
theorem d_St_heir_25 : decode b_St_heir 25 = .ok (.iload_n 2, 1) := by decide +kernel
theorem d_St_heir_26 : decode b_St_heir 26 = .ok (.iload 4, 2) := by decide +kernel
theorem d_St_heir_28 : decode b_St_heir 28 = .ok (.iadd, 1) := by decide +kernel
theorem d_St_heir_29 : decode b_St_heir 29 = .ok (.aload_n 0, 1) := by decide +kernel
theorem d_St_heir_30 : decode b_St_heir 30 = .ok (.getfield 41, 3) := by decide +kernel
theorem d_St_heir_33 : decode b_St_heir 33 = .ok (.if_icmp .ge 10, 3) := by decide +kernel
theorem d_St_heir_36 : decode b_St_heir 36 = .ok (.iload_n 2, 1) := by decide +kernel
theorem d_St_heir_37 : decode b_St_heir 37 = .ok (.iload 4, 2) := by decide +kernel
theorem d_St_heir_39 : decode b_St_heir 39 = .ok (.iadd, 1) := by decide +kernel
theorem d_St_heir_40 : decode b_St_heir 40 = .ok (.goto 12, 3) := by decide +kernel
theorem d_St_heir_43 : decode b_St_heir 43 = .ok (.iload_n 2, 1) := by decide +kernel
theorem d_St_heir_44 : decode b_St_heir 44 = .ok (.iload 4, 2) := by decide +kernel
theorem d_St_heir_46 : decode b_St_heir 46 = .ok (.iadd, 1) := by decide +kernel
theorem d_St_heir_47 : decode b_St_heir 47 = .ok (.aload_n 0, 1) := by decide +kernel
theorem d_St_heir_48 : decode b_St_heir 48 = .ok (.getfield 41, 3) := by decide +kernel
theorem d_St_heir_51 : decode b_St_heir 51 = .ok (.isub, 1) := by decide +kernel
theorem d_St_heir_52 : decode b_St_heir 52 = .ok (.istore 5, 2) := by decide +kernel
theorem d_St_heir_54 : decode b_St_heir 54 = .ok (.aload_n 0, 1) := by decide +kernel
theorem d_St_heir_55 : decode b_St_heir 55 = .ok (.iload 5, 2) := by decide +kernel
theorem d_St_heir_57 : decode b_St_heir 57 = .ok (.invokevirtual 77, 3) := by decide +kernel
theorem d_St_heir_60 : decode b_St_heir 60 = .ok (.aload_n 0, 1) := by decide +kernel
theorem d_St_heir_61 : decode b_St_heir 61 = .ok (.getfield 23, 3) := by decide +kernel
theorem d_St_heir_64 : decode b_St_heir 64 = .ok (.iload_n 3, 1) := by decide +kernel
theorem d_St_heir_65 : decode b_St_heir 65 = .ok (.iaload, 1) := by decide +kernel
theorem d_St_heir_66 : decode b_St_heir 66 = .ok (.iadd, 1) := by decide +kernel
theorem d_St_heir_67 : decode b_St_heir 67 = .ok (.aload_n 0, 1) := by decide +kernel
theorem d_St_heir_68 : decode b_St_heir 68 = .ok (.getfield 16, 3) := by decide +kernel
theorem d_St_heir_71 : decode b_St_heir 71 = .ok (.iload 5, 2) := by decide +kernel
theorem d_St_heir_73 : decode b_St_heir 73 = .ok (.iaload, 1) := by decide +kernel
theorem d_St_heir_74 : decode b_St_heir 74 = .ok (.if_icmp .gt 6, 3) := by decide +kernel
theorem d_St_heir_77 : decode b_St_heir 77 = .ok (.iload 5, 2) := by decide +kernel
theorem d_St_heir_79 : decode b_St_heir 79 = .ok (.ireturn, 1) := by decide +kernel
theorem d_St_heir_80 : decode b_St_heir 80 = .ok (.iinc 4 1, 3) := by decide +kernel
theorem d_St_heir_83 : decode b_St_heir 83 = .ok (.goto (-67), 3) := by decide +kernel
theorem d_St_heir_86 : decode b_St_heir 86 = .ok (.bipush (-5), 2) := by decide +kernel
theorem d_St_heir_88 : decode b_St_heir 88 = .ok (.ireturn, 1) := by decide +kernel
theorem o_St_heir : OkV y_St_heir "OwnsLift$Standing" b_St_heir 6 (some .int) 3 := ⟨⟨rfl, by decide +kernel, by decide +kernel, by decide +kernel⟩, g_760, g_18, g_77, g_761⟩
set_option maxHeartbeats 4000000 in
set_option maxRecDepth 100000 in
theorem c_St_heir (l : Launch) (D : va_G) (g : Nat → ClassId) (a : Nat → Nat) (x1 : Int32) (x2 : Int32) (x3 : Int32) (z : T_St) (v : Int32) (h : d_St_heir x1 x2 x3 z = some v) :
    MI l y_St_heir b_St_heir 6 .int ({ frames := 2, cells := 0, slots := 0, locals := 44 } : Room) D g [.ref (a 0), .int x1, .int x2, .int x3] (ws_St g a z) (v) (ws_St g a z) := by
  have hd := h
  unfold d_St_heir at hd
  refine enterI rfl (Nat.le_of_ble_eq_true rfl) (fun p e s m below meth c A ls hx hb hml hr hown hg hlk hK hA hP hD hS hCs hl => ?_)
  have hown : s.vm.findClass "OwnsLift$Standing" = some m.cls := hown
  have hl : lv_has ls 6 [(0, .ref (a 0)), (1, .int x1), (2, .int x2), (3, .int x3)] := hl
  show GI p l e s m ({ frames := 2, cells := 0, slots := 0, locals := 44 } : Room) ([.ref (a 0), .int x1, .int x2, .int x3] : List Value).toArray below meth c A D g (ws_St g a z) (v) s.heap [] (F0 m 0 ls [])
  refine lv_iload_n hx hb d_St_heir_0 rfl (lv_at hl 1 rfl) ?_
  refine lv_iconst (v := 2) hx hb d_St_heir_1 (by decide) ?_
  refine lv_icmp_eq (tgt := 13) hx hb d_St_heir_2 (by decide) (fun h_1 => ?_) (fun h_1 => ?_)
  · have hd := ite_t hd h_1
    refine lv_iconst (v := 1) hx hb d_St_heir_13 (by decide) ?_
    refine lv_istore (lv' := [(4, .int 1), (0, .ref (a 0)), (1, .int x1), (2, .int x2), (3, .int x3)]) hx hb d_St_heir_14 hl (by decide) rfl (fun ls hl => ?_)
    have lp16 : ∀ (x2_f16 : Int32) (x3_f16 : Int32) (n : Nat) (x4_16 : Int32) (H : Heap) (locs : List Loc) (ls : Array Slot), va_P D classes (ws_St g a z) H → va_D A (ws_St g a z) → va_S A s.heap H locs → lv_has ls 6 [(0, .ref (a 0)), (2, .int x2_f16), (3, .int x3_f16), (4, .int x4_16)] → d_St_heir_L16 x2_f16 x3_f16 z n x4_16 = some v → GI p l e s m ({ frames := 2, cells := 0, slots := 0, locals := 44 } : Room) ([.ref (a 0), .int x1, .int x2, .int x3] : List Value).toArray below meth c A D g (ws_St g a z) (v) H locs (F0 m 16 ls []) := by
      intro x2_f16 x3_f16 n
      induction n with
      | zero =>
        intro  x4_16 H locs ls hP hD hS hl hd
        have hd : none = some v := hd
        cases hd
      | succ n ih16 =>
        intro  x4_16 H locs ls hP hD hS hl hd
        have hd : B_St_heir_L16 x2_f16 x3_f16 z (d_St_heir_L16 x2_f16 x3_f16 z n) x4_16 = some v := hd
        generalize d_St_heir_L16 x2_f16 x3_f16 z n = self16 at ih16 hd
        unfold B_St_heir_L16 at hd
        refine lv_iload hx hb d_St_heir_16 (lv_at hl 3 rfl) ?_
        refine lv_aload_n hx hb d_St_heir_18 rfl (lv_at hl 0 rfl) ?_
        refine va_get (D := D) (ci := 9) (v := .int (q_St_people z)) (C := R_St) (T := F_St) (N := 7) hx hb hg i_St hown hK hP 0 rfl rfl 0 (by decide) (hg _ g_278) (fun _ h9 => h9) rfl d_St_heir_19 ?_
        refine lv_icmp_ge (tgt := 86) hx hb d_St_heir_22 (by decide) (fun h_2 => ?_) (fun h_2 => ?_)
        · have hd := ite_t hd h_2
          refine lv_bipush (v := (-5)) hx hb d_St_heir_86 (by decide) ?_
          obtain rfl := Option.some.inj hd
          exact retI hx hb hr hlk hK hP hD hS d_St_heir_88 rfl
        · have hd := ite_f hd h_2
          refine lv_iload_n hx hb d_St_heir_25 rfl (lv_at hl 1 rfl) ?_
          refine lv_iload hx hb d_St_heir_26 (lv_at hl 3 rfl) ?_
          refine lv_iadd hx hb d_St_heir_28 ?_
          refine lv_aload_n hx hb d_St_heir_29 rfl (lv_at hl 0 rfl) ?_
          refine va_get (D := D) (ci := 9) (v := .int (q_St_people z)) (C := R_St) (T := F_St) (N := 7) hx hb hg i_St hown hK hP 0 rfl rfl 0 (by decide) (hg _ g_278) (fun _ h9 => h9) rfl d_St_heir_30 ?_
          refine lv_icmp_ge (tgt := 43) hx hb d_St_heir_33 (by decide) (fun h_3 => ?_) (fun h_3 => ?_)
          · have hd := ite_t hd h_3
            refine lv_iload_n hx hb d_St_heir_43 rfl (lv_at hl 1 rfl) ?_
            refine lv_iload hx hb d_St_heir_44 (lv_at hl 3 rfl) ?_
            refine lv_iadd hx hb d_St_heir_46 ?_
            refine lv_aload_n hx hb d_St_heir_47 rfl (lv_at hl 0 rfl) ?_
            refine va_get (D := D) (ci := 9) (v := .int (q_St_people z)) (C := R_St) (T := F_St) (N := 7) hx hb hg i_St hown hK hP 0 rfl rfl 0 (by decide) (hg _ g_278) (fun _ h9 => h9) rfl d_St_heir_48 ?_
            refine lv_isub hx hb d_St_heir_51 ?_
            refine lv_istore (lv' := [(5, .int ((x2_f16 + x4_16) - (q_St_people z))), (0, .ref (a 0)), (2, .int x2_f16), (3, .int x3_f16), (4, .int x4_16)]) hx hb d_St_heir_52 hl (by decide) rfl (fun ls hl => ?_)
            refine lv_aload_n hx hb d_St_heir_54 rfl (lv_at hl 1 rfl) ?_
            refine lv_iload hx hb d_St_heir_55 (lv_at hl 0 rfl) ?_
            obtain ⟨v_4, e_5, hd⟩ := bind_s hd
            refine callVI (ws' := ws_St g a z) (rest := []) (As := [.int ((x2_f16 + x4_16) - (q_St_people z))]) hx hb hml hown hg hK hP hD hS hA hCs hl.1 (c_St_load l D g a ((x2_f16 + x4_16) - (q_St_people z)) z _ e_5) o_St_load g_690 (ci := 9) (q0 := 0) rfl rfl (List.range' 0 10) (segC1 rfl rfl) (by decide) rfl (segP1 rfl rfl) rfl rfl (Nat.le_of_ble_eq_true rfl) ⟨rfl, rfl, Nat.le_of_ble_eq_true rfl, Nat.le_of_ble_eq_true rfl⟩ d_St_heir_57 (fun H locs hP hD hS => ?_)
            refine lv_aload_n hx hb d_St_heir_60 rfl (lv_at hl 1 rfl) ?_
            refine va_get (D := D) (ci := 9) (v := .ref (a 8)) (C := R_St) (T := F_St) (N := 7) hx hb hg i_St hown hK hP 0 rfl rfl 5 (by decide) (hg _ g_294) (fun _ h9 => h9) rfl d_St_heir_61 ?_
            refine lv_iload_n hx hb d_St_heir_64 rfl (lv_at hl 3 rfl) ?_
            obtain ⟨h_8, hd⟩ := ite_s hd
            refine ialdK hx hb hK hP 8 0 rfl rfl (inb_t h_8) rfl d_St_heir_65 ?_
            refine lv_iadd hx hb d_St_heir_66 ?_
            refine lv_aload_n hx hb d_St_heir_67 rfl (lv_at hl 1 rfl) ?_
            refine va_get (D := D) (ci := 9) (v := .ref (a 6)) (C := R_St) (T := F_St) (N := 7) hx hb hg i_St hown hK hP 0 rfl rfl 3 (by decide) (hg _ g_287) (fun _ h9 => h9) rfl d_St_heir_68 ?_
            refine lv_iload hx hb d_St_heir_71 (lv_at hl 0 rfl) ?_
            obtain ⟨h_7, hd⟩ := ite_s hd
            refine ialdK hx hb hK hP 6 0 rfl rfl (inb_t h_7) rfl d_St_heir_73 ?_
            refine lv_icmp_gt (tgt := 80) hx hb d_St_heir_74 (by decide) (fun h_6 => ?_) (fun h_6 => ?_)
            · have hd := ite_t hd h_6
              refine lv_iinc (v := x4_16 + 1) (lv' := [(4, .int (x4_16 + 1)), (5, .int ((x2_f16 + x4_16) - (q_St_people z))), (0, .ref (a 0)), (2, .int x2_f16), (3, .int x3_f16)]) hx hb d_St_heir_80 hl (k := 4) rfl (by rfl) (by decide) rfl (fun ls hl => ?_)
              refine lv_goto (tgt := 16) hx hb d_St_heir_83 (by decide) ?_
              exact ih16 (x4_16 + 1) _ _ _ hP hD hS (lv_sub hl [2, 3, 4, 0] rfl) hd
            · have hd := ite_f hd h_6
              refine lv_iload hx hb d_St_heir_77 (lv_at hl 0 rfl) ?_
              obtain rfl := Option.some.inj hd
              exact retI hx hb hr hlk hK hP hD hS d_St_heir_79 rfl
          · have hd := ite_f hd h_3
            refine lv_iload_n hx hb d_St_heir_36 rfl (lv_at hl 1 rfl) ?_
            refine lv_iload hx hb d_St_heir_37 (lv_at hl 3 rfl) ?_
            refine lv_iadd hx hb d_St_heir_39 ?_
            refine lv_goto (tgt := 52) hx hb d_St_heir_40 (by decide) ?_
            refine lv_istore (lv' := [(5, .int (x2_f16 + x4_16)), (0, .ref (a 0)), (2, .int x2_f16), (3, .int x3_f16), (4, .int x4_16)]) hx hb d_St_heir_52 hl (by decide) rfl (fun ls hl => ?_)
            refine lv_aload_n hx hb d_St_heir_54 rfl (lv_at hl 1 rfl) ?_
            refine lv_iload hx hb d_St_heir_55 (lv_at hl 0 rfl) ?_
            obtain ⟨v_9, e_10, hd⟩ := bind_s hd
            refine callVI (ws' := ws_St g a z) (rest := []) (As := [.int (x2_f16 + x4_16)]) hx hb hml hown hg hK hP hD hS hA hCs hl.1 (c_St_load l D g a (x2_f16 + x4_16) z _ e_10) o_St_load g_690 (ci := 9) (q0 := 0) rfl rfl (List.range' 0 10) (segC1 rfl rfl) (by decide) rfl (segP1 rfl rfl) rfl rfl (Nat.le_of_ble_eq_true rfl) ⟨rfl, rfl, Nat.le_of_ble_eq_true rfl, Nat.le_of_ble_eq_true rfl⟩ d_St_heir_57 (fun H locs hP hD hS => ?_)
            refine lv_aload_n hx hb d_St_heir_60 rfl (lv_at hl 1 rfl) ?_
            refine va_get (D := D) (ci := 9) (v := .ref (a 8)) (C := R_St) (T := F_St) (N := 7) hx hb hg i_St hown hK hP 0 rfl rfl 5 (by decide) (hg _ g_294) (fun _ h9 => h9) rfl d_St_heir_61 ?_
            refine lv_iload_n hx hb d_St_heir_64 rfl (lv_at hl 3 rfl) ?_
            obtain ⟨h_13, hd⟩ := ite_s hd
            refine ialdK hx hb hK hP 8 0 rfl rfl (inb_t h_13) rfl d_St_heir_65 ?_
            refine lv_iadd hx hb d_St_heir_66 ?_
            refine lv_aload_n hx hb d_St_heir_67 rfl (lv_at hl 1 rfl) ?_
            refine va_get (D := D) (ci := 9) (v := .ref (a 6)) (C := R_St) (T := F_St) (N := 7) hx hb hg i_St hown hK hP 0 rfl rfl 3 (by decide) (hg _ g_287) (fun _ h9 => h9) rfl d_St_heir_68 ?_
            refine lv_iload hx hb d_St_heir_71 (lv_at hl 0 rfl) ?_
            obtain ⟨h_12, hd⟩ := ite_s hd
            refine ialdK hx hb hK hP 6 0 rfl rfl (inb_t h_12) rfl d_St_heir_73 ?_
            refine lv_icmp_gt (tgt := 80) hx hb d_St_heir_74 (by decide) (fun h_11 => ?_) (fun h_11 => ?_)
            · have hd := ite_t hd h_11
              refine lv_iinc (v := x4_16 + 1) (lv' := [(4, .int (x4_16 + 1)), (5, .int (x2_f16 + x4_16)), (0, .ref (a 0)), (2, .int x2_f16), (3, .int x3_f16)]) hx hb d_St_heir_80 hl (k := 4) rfl (by rfl) (by decide) rfl (fun ls hl => ?_)
              refine lv_goto (tgt := 16) hx hb d_St_heir_83 (by decide) ?_
              exact ih16 (x4_16 + 1) _ _ _ hP hD hS (lv_sub hl [2, 3, 4, 0] rfl) hd
            · have hd := ite_f hd h_11
              refine lv_iload hx hb d_St_heir_77 (lv_at hl 0 rfl) ?_
              obtain rfl := Option.some.inj hd
              exact retI hx hb hr hlk hK hP hD hS d_St_heir_79 rfl
    exact lp16 x2 x3 1000 1 _ _ _ hP hD hS (lv_sub hl [1, 3, 4, 0] rfl) hd
  · have hd := ite_f hd h_1
    refine lv_iload_n hx hb d_St_heir_5 rfl (lv_at hl 1 rfl) ?_
    refine lv_iconst (v := 5) hx hb d_St_heir_6 (by decide) ?_
    refine lv_icmp_eq (tgt := 13) hx hb d_St_heir_7 (by decide) (fun h_14 => ?_) (fun h_14 => ?_)
    · have hd := ite_t hd h_14
      refine lv_iconst (v := 1) hx hb d_St_heir_13 (by decide) ?_
      refine lv_istore (lv' := [(4, .int 1), (0, .ref (a 0)), (1, .int x1), (2, .int x2), (3, .int x3)]) hx hb d_St_heir_14 hl (by decide) rfl (fun ls hl => ?_)
      have lp16 : ∀ (x2_f16 : Int32) (x3_f16 : Int32) (n : Nat) (x4_16 : Int32) (H : Heap) (locs : List Loc) (ls : Array Slot), va_P D classes (ws_St g a z) H → va_D A (ws_St g a z) → va_S A s.heap H locs → lv_has ls 6 [(0, .ref (a 0)), (2, .int x2_f16), (3, .int x3_f16), (4, .int x4_16)] → d_St_heir_L16 x2_f16 x3_f16 z n x4_16 = some v → GI p l e s m ({ frames := 2, cells := 0, slots := 0, locals := 44 } : Room) ([.ref (a 0), .int x1, .int x2, .int x3] : List Value).toArray below meth c A D g (ws_St g a z) (v) H locs (F0 m 16 ls []) := by
        intro x2_f16 x3_f16 n
        induction n with
        | zero =>
          intro  x4_16 H locs ls hP hD hS hl hd
          have hd : none = some v := hd
          cases hd
        | succ n ih16 =>
          intro  x4_16 H locs ls hP hD hS hl hd
          have hd : B_St_heir_L16 x2_f16 x3_f16 z (d_St_heir_L16 x2_f16 x3_f16 z n) x4_16 = some v := hd
          generalize d_St_heir_L16 x2_f16 x3_f16 z n = self16 at ih16 hd
          unfold B_St_heir_L16 at hd
          refine lv_iload hx hb d_St_heir_16 (lv_at hl 3 rfl) ?_
          refine lv_aload_n hx hb d_St_heir_18 rfl (lv_at hl 0 rfl) ?_
          refine va_get (D := D) (ci := 9) (v := .int (q_St_people z)) (C := R_St) (T := F_St) (N := 7) hx hb hg i_St hown hK hP 0 rfl rfl 0 (by decide) (hg _ g_278) (fun _ h9 => h9) rfl d_St_heir_19 ?_
          refine lv_icmp_ge (tgt := 86) hx hb d_St_heir_22 (by decide) (fun h_15 => ?_) (fun h_15 => ?_)
          · have hd := ite_t hd h_15
            refine lv_bipush (v := (-5)) hx hb d_St_heir_86 (by decide) ?_
            obtain rfl := Option.some.inj hd
            exact retI hx hb hr hlk hK hP hD hS d_St_heir_88 rfl
          · have hd := ite_f hd h_15
            refine lv_iload_n hx hb d_St_heir_25 rfl (lv_at hl 1 rfl) ?_
            refine lv_iload hx hb d_St_heir_26 (lv_at hl 3 rfl) ?_
            refine lv_iadd hx hb d_St_heir_28 ?_
            refine lv_aload_n hx hb d_St_heir_29 rfl (lv_at hl 0 rfl) ?_
            refine va_get (D := D) (ci := 9) (v := .int (q_St_people z)) (C := R_St) (T := F_St) (N := 7) hx hb hg i_St hown hK hP 0 rfl rfl 0 (by decide) (hg _ g_278) (fun _ h9 => h9) rfl d_St_heir_30 ?_
            refine lv_icmp_ge (tgt := 43) hx hb d_St_heir_33 (by decide) (fun h_16 => ?_) (fun h_16 => ?_)
            · have hd := ite_t hd h_16
              refine lv_iload_n hx hb d_St_heir_43 rfl (lv_at hl 1 rfl) ?_
              refine lv_iload hx hb d_St_heir_44 (lv_at hl 3 rfl) ?_
              refine lv_iadd hx hb d_St_heir_46 ?_
              refine lv_aload_n hx hb d_St_heir_47 rfl (lv_at hl 0 rfl) ?_
              refine va_get (D := D) (ci := 9) (v := .int (q_St_people z)) (C := R_St) (T := F_St) (N := 7) hx hb hg i_St hown hK hP 0 rfl rfl 0 (by decide) (hg _ g_278) (fun _ h9 => h9) rfl d_St_heir_48 ?_
              refine lv_isub hx hb d_St_heir_51 ?_
              refine lv_istore (lv' := [(5, .int ((x2_f16 + x4_16) - (q_St_people z))), (0, .ref (a 0)), (2, .int x2_f16), (3, .int x3_f16), (4, .int x4_16)]) hx hb d_St_heir_52 hl (by decide) rfl (fun ls hl => ?_)
              refine lv_aload_n hx hb d_St_heir_54 rfl (lv_at hl 1 rfl) ?_
              refine lv_iload hx hb d_St_heir_55 (lv_at hl 0 rfl) ?_
              obtain ⟨v_17, e_18, hd⟩ := bind_s hd
              refine callVI (ws' := ws_St g a z) (rest := []) (As := [.int ((x2_f16 + x4_16) - (q_St_people z))]) hx hb hml hown hg hK hP hD hS hA hCs hl.1 (c_St_load l D g a ((x2_f16 + x4_16) - (q_St_people z)) z _ e_18) o_St_load g_690 (ci := 9) (q0 := 0) rfl rfl (List.range' 0 10) (segC1 rfl rfl) (by decide) rfl (segP1 rfl rfl) rfl rfl (Nat.le_of_ble_eq_true rfl) ⟨rfl, rfl, Nat.le_of_ble_eq_true rfl, Nat.le_of_ble_eq_true rfl⟩ d_St_heir_57 (fun H locs hP hD hS => ?_)
              refine lv_aload_n hx hb d_St_heir_60 rfl (lv_at hl 1 rfl) ?_
              refine va_get (D := D) (ci := 9) (v := .ref (a 8)) (C := R_St) (T := F_St) (N := 7) hx hb hg i_St hown hK hP 0 rfl rfl 5 (by decide) (hg _ g_294) (fun _ h9 => h9) rfl d_St_heir_61 ?_
              refine lv_iload_n hx hb d_St_heir_64 rfl (lv_at hl 3 rfl) ?_
              obtain ⟨h_21, hd⟩ := ite_s hd
              refine ialdK hx hb hK hP 8 0 rfl rfl (inb_t h_21) rfl d_St_heir_65 ?_
              refine lv_iadd hx hb d_St_heir_66 ?_
              refine lv_aload_n hx hb d_St_heir_67 rfl (lv_at hl 1 rfl) ?_
              refine va_get (D := D) (ci := 9) (v := .ref (a 6)) (C := R_St) (T := F_St) (N := 7) hx hb hg i_St hown hK hP 0 rfl rfl 3 (by decide) (hg _ g_287) (fun _ h9 => h9) rfl d_St_heir_68 ?_
              refine lv_iload hx hb d_St_heir_71 (lv_at hl 0 rfl) ?_
              obtain ⟨h_20, hd⟩ := ite_s hd
              refine ialdK hx hb hK hP 6 0 rfl rfl (inb_t h_20) rfl d_St_heir_73 ?_
              refine lv_icmp_gt (tgt := 80) hx hb d_St_heir_74 (by decide) (fun h_19 => ?_) (fun h_19 => ?_)
              · have hd := ite_t hd h_19
                refine lv_iinc (v := x4_16 + 1) (lv' := [(4, .int (x4_16 + 1)), (5, .int ((x2_f16 + x4_16) - (q_St_people z))), (0, .ref (a 0)), (2, .int x2_f16), (3, .int x3_f16)]) hx hb d_St_heir_80 hl (k := 4) rfl (by rfl) (by decide) rfl (fun ls hl => ?_)
                refine lv_goto (tgt := 16) hx hb d_St_heir_83 (by decide) ?_
                exact ih16 (x4_16 + 1) _ _ _ hP hD hS (lv_sub hl [2, 3, 4, 0] rfl) hd
              · have hd := ite_f hd h_19
                refine lv_iload hx hb d_St_heir_77 (lv_at hl 0 rfl) ?_
                obtain rfl := Option.some.inj hd
                exact retI hx hb hr hlk hK hP hD hS d_St_heir_79 rfl
            · have hd := ite_f hd h_16
              refine lv_iload_n hx hb d_St_heir_36 rfl (lv_at hl 1 rfl) ?_
              refine lv_iload hx hb d_St_heir_37 (lv_at hl 3 rfl) ?_
              refine lv_iadd hx hb d_St_heir_39 ?_
              refine lv_goto (tgt := 52) hx hb d_St_heir_40 (by decide) ?_
              refine lv_istore (lv' := [(5, .int (x2_f16 + x4_16)), (0, .ref (a 0)), (2, .int x2_f16), (3, .int x3_f16), (4, .int x4_16)]) hx hb d_St_heir_52 hl (by decide) rfl (fun ls hl => ?_)
              refine lv_aload_n hx hb d_St_heir_54 rfl (lv_at hl 1 rfl) ?_
              refine lv_iload hx hb d_St_heir_55 (lv_at hl 0 rfl) ?_
              obtain ⟨v_22, e_23, hd⟩ := bind_s hd
              refine callVI (ws' := ws_St g a z) (rest := []) (As := [.int (x2_f16 + x4_16)]) hx hb hml hown hg hK hP hD hS hA hCs hl.1 (c_St_load l D g a (x2_f16 + x4_16) z _ e_23) o_St_load g_690 (ci := 9) (q0 := 0) rfl rfl (List.range' 0 10) (segC1 rfl rfl) (by decide) rfl (segP1 rfl rfl) rfl rfl (Nat.le_of_ble_eq_true rfl) ⟨rfl, rfl, Nat.le_of_ble_eq_true rfl, Nat.le_of_ble_eq_true rfl⟩ d_St_heir_57 (fun H locs hP hD hS => ?_)
              refine lv_aload_n hx hb d_St_heir_60 rfl (lv_at hl 1 rfl) ?_
              refine va_get (D := D) (ci := 9) (v := .ref (a 8)) (C := R_St) (T := F_St) (N := 7) hx hb hg i_St hown hK hP 0 rfl rfl 5 (by decide) (hg _ g_294) (fun _ h9 => h9) rfl d_St_heir_61 ?_
              refine lv_iload_n hx hb d_St_heir_64 rfl (lv_at hl 3 rfl) ?_
              obtain ⟨h_26, hd⟩ := ite_s hd
              refine ialdK hx hb hK hP 8 0 rfl rfl (inb_t h_26) rfl d_St_heir_65 ?_
              refine lv_iadd hx hb d_St_heir_66 ?_
              refine lv_aload_n hx hb d_St_heir_67 rfl (lv_at hl 1 rfl) ?_
              refine va_get (D := D) (ci := 9) (v := .ref (a 6)) (C := R_St) (T := F_St) (N := 7) hx hb hg i_St hown hK hP 0 rfl rfl 3 (by decide) (hg _ g_287) (fun _ h9 => h9) rfl d_St_heir_68 ?_
              refine lv_iload hx hb d_St_heir_71 (lv_at hl 0 rfl) ?_
              obtain ⟨h_25, hd⟩ := ite_s hd
              refine ialdK hx hb hK hP 6 0 rfl rfl (inb_t h_25) rfl d_St_heir_73 ?_
              refine lv_icmp_gt (tgt := 80) hx hb d_St_heir_74 (by decide) (fun h_24 => ?_) (fun h_24 => ?_)
              · have hd := ite_t hd h_24
                refine lv_iinc (v := x4_16 + 1) (lv' := [(4, .int (x4_16 + 1)), (5, .int (x2_f16 + x4_16)), (0, .ref (a 0)), (2, .int x2_f16), (3, .int x3_f16)]) hx hb d_St_heir_80 hl (k := 4) rfl (by rfl) (by decide) rfl (fun ls hl => ?_)
                refine lv_goto (tgt := 16) hx hb d_St_heir_83 (by decide) ?_
                exact ih16 (x4_16 + 1) _ _ _ hP hD hS (lv_sub hl [2, 3, 4, 0] rfl) hd
              · have hd := ite_f hd h_24
                refine lv_iload hx hb d_St_heir_77 (lv_at hl 0 rfl) ?_
                obtain rfl := Option.some.inj hd
                exact retI hx hb hr hlk hK hP hD hS d_St_heir_79 rfl
      exact lp16 x2 x3 1000 1 _ _ _ hP hD hS (lv_sub hl [1, 3, 4, 0] rfl) hd
    · have hd := ite_f hd h_14
      refine lv_bipush (v := (-5)) hx hb d_St_heir_10 (by decide) ?_
      obtain rfl := Option.some.inj hd
      exact retI hx hb hr hlk hK hP hD hS d_St_heir_12 rfl
-- OwnsLift$Standing.lighten(LOwnsLift$People;I)I
def B_St_lighten_L2 (x2_f2 : Int32) (w : T_Pe) (self2 : Int32 → T_St → Option (Int32 × T_St)) (x3_2 : Int32) (z_2 : T_St) : Option (Int32 × T_St) :=
  if (q_St_things z_2) ≤ x3_2 then (some (x3_2, z_2)) else ((d_St_over x2_f2 z_2).bind fun v_2 => if v_2 = 0 then (some (x3_2, z_2)) else ((d_St_choose x2_f2 z_2 w).bind fun v_5 => if 0 ≤ v_5 then (if inb x2_f2 4 = true then ((d_St_heir ((q_Pe_kind w) x2_f2.toNatClampNeg) x2_f2 v_5 z_2).bind fun v_8 => if inb v_5 7 = true then (self2 (x3_2 + 1) (u_St_owner z_2 (upd (q_St_owner z_2) v_5.toNatClampNeg v_8))) else none) else none) else (some (x3_2, z_2))))
def d_St_lighten_L2 (x2_f2 : Int32) (w : T_Pe) (n : Nat) : Int32 → T_St → Option (Int32 × T_St) := recN (fun _ _ => none) (fun self => B_St_lighten_L2 x2_f2 w self) n
def d_St_lighten (x2 : Int32) (z : T_St) (w : T_Pe) : Option (Int32 × T_St) :=
  d_St_lighten_L2 x2 w  1000 0 z
theorem d_St_lighten_0 : decode b_St_lighten 0 = .ok (.iconst 0, 1) := by decide +kernel
theorem d_St_lighten_1 : decode b_St_lighten 1 = .ok (.istore_n 3, 1) := by decide +kernel
theorem d_St_lighten_2 : decode b_St_lighten 2 = .ok (.iload_n 3, 1) := by decide +kernel
theorem d_St_lighten_3 : decode b_St_lighten 3 = .ok (.aload_n 0, 1) := by decide +kernel
theorem d_St_lighten_4 : decode b_St_lighten 4 = .ok (.getfield 50, 3) := by decide +kernel
theorem d_St_lighten_7 : decode b_St_lighten 7 = .ok (.if_icmp .ge 53, 3) := by decide +kernel
theorem d_St_lighten_10 : decode b_St_lighten 10 = .ok (.aload_n 0, 1) := by decide +kernel
theorem d_St_lighten_11 : decode b_St_lighten 11 = .ok (.iload_n 2, 1) := by decide +kernel
theorem d_St_lighten_12 : decode b_St_lighten 12 = .ok (.invokevirtual 80, 3) := by decide +kernel
theorem d_St_lighten_15 : decode b_St_lighten 15 = .ok (.ifCond .eq 45, 3) := by decide +kernel
theorem d_St_lighten_18 : decode b_St_lighten 18 = .ok (.aload_n 0, 1) := by decide +kernel
theorem d_St_lighten_19 : decode b_St_lighten 19 = .ok (.aload_n 1, 1) := by decide +kernel
theorem d_St_lighten_20 : decode b_St_lighten 20 = .ok (.iload_n 2, 1) := by decide +kernel
theorem d_St_lighten_21 : decode b_St_lighten 21 = .ok (.invokevirtual 84, 3) := by decide +kernel
theorem d_St_lighten_24 : decode b_St_lighten 24 = .ok (.istore 4, 2) := by decide +kernel
theorem d_St_lighten_26 : decode b_St_lighten 26 = .ok (.iload 4, 2) := by decide +kernel
theorem d_St_lighten_28 : decode b_St_lighten 28 = .ok (.ifCond .ge 6, 3) := by decide +kernel
theorem d_St_lighten_31 : decode b_St_lighten 31 = .ok (.goto 29, 3) := by decide +kernel
theorem d_St_lighten_34 : decode b_St_lighten 34 = .ok (.aload_n 0, 1) := by decide +kernel
theorem d_St_lighten_35 : decode b_St_lighten 35 = .ok (.getfield 26, 3) := by decide +kernel
theorem d_St_lighten_38 : decode b_St_lighten 38 = .ok (.iload 4, 2) := by decide +kernel
theorem d_St_lighten_40 : decode b_St_lighten 40 = .ok (.aload_n 0, 1) := by decide +kernel
theorem d_St_lighten_41 : decode b_St_lighten 41 = .ok (.aload_n 1, 1) := by decide +kernel
theorem d_St_lighten_42 : decode b_St_lighten 42 = .ok (.getfield 88, 3) := by decide +kernel
theorem d_St_lighten_45 : decode b_St_lighten 45 = .ok (.iload_n 2, 1) := by decide +kernel
theorem d_St_lighten_46 : decode b_St_lighten 46 = .ok (.iaload, 1) := by decide +kernel
theorem d_St_lighten_47 : decode b_St_lighten 47 = .ok (.iload_n 2, 1) := by decide +kernel
theorem d_St_lighten_48 : decode b_St_lighten 48 = .ok (.iload 4, 2) := by decide +kernel
theorem d_St_lighten_50 : decode b_St_lighten 50 = .ok (.invokevirtual 91, 3) := by decide +kernel
theorem d_St_lighten_53 : decode b_St_lighten 53 = .ok (.iastore, 1) := by decide +kernel
theorem d_St_lighten_54 : decode b_St_lighten 54 = .ok (.iinc 3 1, 3) := by decide +kernel
theorem d_St_lighten_57 : decode b_St_lighten 57 = .ok (.goto (-55), 3) := by decide +kernel
theorem d_St_lighten_60 : decode b_St_lighten 60 = .ok (.iload_n 3, 1) := by decide +kernel
theorem d_St_lighten_61 : decode b_St_lighten 61 = .ok (.ireturn, 1) := by decide +kernel
theorem o_St_lighten : OkV y_St_lighten "OwnsLift$Standing" b_St_lighten 5 (some .int) 2 := ⟨⟨rfl, by decide +kernel, by decide +kernel, by decide +kernel⟩, g_738, g_739, g_77, g_740⟩
set_option maxHeartbeats 4000000 in
set_option maxRecDepth 100000 in
theorem c_St_lighten (l : Launch) (D : va_G) (g : Nat → ClassId) (a : Nat → Nat) (b : Nat → Nat) (x2 : Int32) (z : T_St) (w : T_Pe) (v : Int32 × T_St) (h : d_St_lighten x2 z w = some v) :
    MI l y_St_lighten b_St_lighten 5 .int ({ frames := 3, cells := 0, slots := 0, locals := 72 } : Room) D g [.ref (a 0), .ref (b 0), .int x2] (ws_St g a z ++ ws_Pe g b w) (v.1) (ws_St g a v.2 ++ ws_Pe g b w) := by
  have hd := h
  unfold d_St_lighten at hd
  refine enterI rfl (Nat.le_of_ble_eq_true rfl) (fun p e s m below meth c A ls hx hb hml hr hown hg hlk hK hA hP hD hS hCs hl => ?_)
  have hown : s.vm.findClass "OwnsLift$Standing" = some m.cls := hown
  have hl : lv_has ls 5 [(0, .ref (a 0)), (1, .ref (b 0)), (2, .int x2)] := hl
  show GI p l e s m ({ frames := 3, cells := 0, slots := 0, locals := 72 } : Room) ([.ref (a 0), .ref (b 0), .int x2] : List Value).toArray below meth c A D g (ws_St g a v.2 ++ ws_Pe g b w) (v.1) s.heap [] (F0 m 0 ls [])
  refine lv_iconst (v := 0) hx hb d_St_lighten_0 (by decide) ?_
  refine lv_istore_n (lv' := [(3, .int 0), (0, .ref (a 0)), (1, .ref (b 0)), (2, .int x2)]) hx hb d_St_lighten_1 rfl hl (by decide) rfl (fun ls hl => ?_)
  have lp2 : ∀ (x2_f2 : Int32) (n : Nat) (x3_2 : Int32) (z_2 : T_St) (H : Heap) (locs : List Loc) (ls : Array Slot), va_P D classes (ws_St g a z_2 ++ ws_Pe g b w) H → va_D A (ws_St g a z_2 ++ ws_Pe g b w) → va_S A s.heap H locs → lv_has ls 5 [(0, .ref (a 0)), (1, .ref (b 0)), (2, .int x2_f2), (3, .int x3_2)] → d_St_lighten_L2 x2_f2 w n x3_2 z_2 = some v → GI p l e s m ({ frames := 3, cells := 0, slots := 0, locals := 72 } : Room) ([.ref (a 0), .ref (b 0), .int x2] : List Value).toArray below meth c A D g (ws_St g a v.2 ++ ws_Pe g b w) (v.1) H locs (F0 m 2 ls []) := by
    intro x2_f2 n
    induction n with
    | zero =>
      intro  x3_2 z_2 H locs ls hP hD hS hl hd
      have hd : none = some v := hd
      cases hd
    | succ n ih2 =>
      intro  x3_2 z_2 H locs ls hP hD hS hl hd
      have hd : B_St_lighten_L2 x2_f2 w (d_St_lighten_L2 x2_f2 w n) x3_2 z_2 = some v := hd
      generalize d_St_lighten_L2 x2_f2 w n = self2 at ih2 hd
      unfold B_St_lighten_L2 at hd
      refine lv_iload_n hx hb d_St_lighten_2 rfl (lv_at hl 3 rfl) ?_
      refine lv_aload_n hx hb d_St_lighten_3 rfl (lv_at hl 0 rfl) ?_
      refine va_get (D := D) (ci := 9) (v := .int (q_St_things z_2)) (C := R_St) (T := F_St) (N := 7) hx hb hg i_St hown hK hP 0 rfl rfl 1 (by decide) (hg _ g_281) (fun _ h9 => h9) rfl d_St_lighten_4 ?_
      refine lv_icmp_ge (tgt := 60) hx hb d_St_lighten_7 (by decide) (fun h_1 => ?_) (fun h_1 => ?_)
      · have hd := ite_t hd h_1
        refine lv_iload_n hx hb d_St_lighten_60 rfl (lv_at hl 3 rfl) ?_
        obtain rfl := Option.some.inj hd
        exact retI hx hb hr hlk hK hP hD hS d_St_lighten_61 rfl
      · have hd := ite_f hd h_1
        refine lv_aload_n hx hb d_St_lighten_10 rfl (lv_at hl 0 rfl) ?_
        refine lv_iload_n hx hb d_St_lighten_11 rfl (lv_at hl 2 rfl) ?_
        obtain ⟨v_2, e_3, hd⟩ := bind_s hd
        refine callVI (ws' := ws_St g a z_2 ++ ws_Pe g b w) (rest := []) (As := [.int x2_f2]) hx hb hml hown hg hK hP hD hS hA hCs hl.1 (c_St_over l D g a x2_f2 z_2 _ e_3) o_St_over g_741 (ci := 9) (q0 := 0) rfl rfl (List.range' 0 10) (segC1 rfl rfl) (by decide) rfl (segP1 rfl rfl) rfl rfl (Nat.le_of_ble_eq_true rfl) ⟨rfl, rfl, Nat.le_of_ble_eq_true rfl, Nat.le_of_ble_eq_true rfl⟩ d_St_lighten_12 (fun H locs hP hD hS => ?_)
        refine lv_if_eq (tgt := 60) hx hb d_St_lighten_15 (by decide) (fun h_4 => ?_) (fun h_4 => ?_)
        · have hd := ite_t hd h_4
          refine lv_iload_n hx hb d_St_lighten_60 rfl (lv_at hl 3 rfl) ?_
          obtain rfl := Option.some.inj hd
          exact retI hx hb hr hlk hK hP hD hS d_St_lighten_61 rfl
        · have hd := ite_f hd h_4
          refine lv_aload_n hx hb d_St_lighten_18 rfl (lv_at hl 0 rfl) ?_
          refine lv_aload_n hx hb d_St_lighten_19 rfl (lv_at hl 1 rfl) ?_
          refine lv_iload_n hx hb d_St_lighten_20 rfl (lv_at hl 2 rfl) ?_
          obtain ⟨v_5, e_6, hd⟩ := bind_s hd
          refine callVI (ws' := ws_St g a z_2 ++ ws_Pe g b w) (rest := []) (As := [.ref (b 0), .int x2_f2]) hx hb hml hown hg hK hP hD hS hA hCs hl.1 (c_St_choose l D g a b x2_f2 z_2 w _ e_6) o_St_choose g_742 (ci := 9) (q0 := 0) rfl rfl (List.range' 0 10 ++ List.range' 10 11) (segC2 rfl rfl rfl rfl) (by decide) rfl (segP2 rfl rfl rfl) rfl rfl (Nat.le_of_ble_eq_true rfl) ⟨rfl, rfl, Nat.le_of_ble_eq_true rfl, Nat.le_of_ble_eq_true rfl⟩ d_St_lighten_21 (fun H locs hP hD hS => ?_)
          refine lv_istore (lv' := [(4, .int v_5), (0, .ref (a 0)), (1, .ref (b 0)), (2, .int x2_f2), (3, .int x3_2)]) hx hb d_St_lighten_24 hl (by decide) rfl (fun ls hl => ?_)
          refine lv_iload hx hb d_St_lighten_26 (lv_at hl 0 rfl) ?_
          refine lv_if_ge (tgt := 34) hx hb d_St_lighten_28 (by decide) (fun h_7 => ?_) (fun h_7 => ?_)
          · have hd := ite_t hd h_7
            refine lv_aload_n hx hb d_St_lighten_34 rfl (lv_at hl 1 rfl) ?_
            refine va_get (D := D) (ci := 9) (v := .ref (a 9)) (C := R_St) (T := F_St) (N := 7) hx hb hg i_St hown hK hP 0 rfl rfl 6 (by decide) (hg _ g_297) (fun _ h9 => h9) rfl d_St_lighten_35 ?_
            refine lv_iload hx hb d_St_lighten_38 (lv_at hl 0 rfl) ?_
            refine lv_aload_n hx hb d_St_lighten_40 rfl (lv_at hl 1 rfl) ?_
            refine lv_aload_n hx hb d_St_lighten_41 rfl (lv_at hl 2 rfl) ?_
            refine va_get (D := D) (ci := 5) (v := .ref (b 1)) (C := R_Pe) (T := F_Pe) (N := 7) hx hb hg i_Pe hown hK hP 10 rfl rfl 1 (by decide) (hg _ g_147) (fun _ h9 => h9) rfl d_St_lighten_42 ?_
            refine lv_iload_n hx hb d_St_lighten_45 rfl (lv_at hl 3 rfl) ?_
            obtain ⟨h_11, hd⟩ := ite_s hd
            refine ialdK hx hb hK hP 11 0 rfl rfl (inb_t h_11) rfl d_St_lighten_46 ?_
            refine lv_iload_n hx hb d_St_lighten_47 rfl (lv_at hl 3 rfl) ?_
            refine lv_iload hx hb d_St_lighten_48 (lv_at hl 0 rfl) ?_
            obtain ⟨v_8, e_9, hd⟩ := bind_s hd
            refine callVI (ws' := ws_St g a z_2 ++ ws_Pe g b w) (rest := [.int v_5, .ref (a 9)]) (As := [.int ((q_Pe_kind w) x2_f2.toNatClampNeg), .int x2_f2, .int v_5]) hx hb hml hown hg hK hP hD hS hA hCs hl.1 (c_St_heir l D g a ((q_Pe_kind w) x2_f2.toNatClampNeg) x2_f2 v_5 z_2 _ e_9) o_St_heir g_758 (ci := 9) (q0 := 0) rfl rfl (List.range' 0 10) (segC1 rfl rfl) (by decide) rfl (segP1 rfl rfl) rfl rfl (Nat.le_of_ble_eq_true rfl) ⟨rfl, rfl, Nat.le_of_ble_eq_true rfl, Nat.le_of_ble_eq_true rfl⟩ d_St_lighten_50 (fun H locs hP hD hS => ?_)
            obtain ⟨h_10, hd⟩ := ite_s hd
            refine iastK hx hb hK hP hD hS 9 0 rfl rfl (inb_t h_10) rfl d_St_lighten_53 (fun H locs hP hD hS => ?_)
            have hP : va_P D classes (ws_St g a (u_St_owner z_2 (upd (q_St_owner z_2) v_5.toNatClampNeg v_8)) ++ ws_Pe g b w) H := hP
            have hD : va_D A (ws_St g a (u_St_owner z_2 (upd (q_St_owner z_2) v_5.toNatClampNeg v_8)) ++ ws_Pe g b w) := hD
            refine lv_iinc (v := x3_2 + 1) (lv' := [(3, .int (x3_2 + 1)), (4, .int v_5), (0, .ref (a 0)), (1, .ref (b 0)), (2, .int x2_f2)]) hx hb d_St_lighten_54 hl (k := 4) rfl (by rfl) (by decide) rfl (fun ls hl => ?_)
            refine lv_goto (tgt := 2) hx hb d_St_lighten_57 (by decide) ?_
            exact ih2 (x3_2 + 1) (u_St_owner z_2 (upd (q_St_owner z_2) v_5.toNatClampNeg v_8)) _ _ _ hP hD hS (lv_sub hl [2, 3, 4, 0] rfl) hd
          · have hd := ite_f hd h_7
            refine lv_goto (tgt := 60) hx hb d_St_lighten_31 (by decide) ?_
            refine lv_iload_n hx hb d_St_lighten_60 rfl (lv_at hl 4 rfl) ?_
            obtain rfl := Option.some.inj hd
            exact retI hx hb hr hlk hK hP hD hS d_St_lighten_61 rfl
  exact lp2 x2 1000 0 z _ _ _ hP hD hS (lv_sub hl [1, 2, 3, 0] rfl) hd
-- OwnsLift$Standing.likeOfSet(II)I
def B_St_likeOfSet_L5 (x1_f5 : Int32) (x2_f5 : Int32) (z : T_St) (self5 : Int32 → Int32 → Option (Int32)) (x3_5 : Int32) (x4_5 : Int32) : Option (Int32) :=
  if (q_St_things z) ≤ x4_5 then (some (x3_5)) else (if ((x2_f5 >>> (x4_5 &&& 31)) &&& 1) = 1 then (if inb x1_f5 4 = true then (if inb x4_5 7 = true then (self5 (x3_5 + ((q_St_like z) x1_f5.toNatClampNeg x4_5.toNatClampNeg)) (x4_5 + 1)) else none) else none) else (self5 x3_5 (x4_5 + 1)))
def d_St_likeOfSet_L5 (x1_f5 : Int32) (x2_f5 : Int32) (z : T_St) (n : Nat) : Int32 → Int32 → Option (Int32) := recN (fun _ _ => none) (fun self => B_St_likeOfSet_L5 x1_f5 x2_f5 z self) n
def d_St_likeOfSet (x1 : Int32) (x2 : Int32) (z : T_St) : Option (Int32) :=
  d_St_likeOfSet_L5 x1 x2 z  1000 0 0
theorem d_St_likeOfSet_0 : decode b_St_likeOfSet 0 = .ok (.iconst 0, 1) := by decide +kernel
theorem d_St_likeOfSet_1 : decode b_St_likeOfSet 1 = .ok (.istore_n 3, 1) := by decide +kernel
theorem d_St_likeOfSet_2 : decode b_St_likeOfSet 2 = .ok (.iconst 0, 1) := by decide +kernel
theorem d_St_likeOfSet_3 : decode b_St_likeOfSet 3 = .ok (.istore 4, 2) := by decide +kernel
theorem d_St_likeOfSet_5 : decode b_St_likeOfSet 5 = .ok (.iload 4, 2) := by decide +kernel
theorem d_St_likeOfSet_7 : decode b_St_likeOfSet 7 = .ok (.aload_n 0, 1) := by decide +kernel
theorem d_St_likeOfSet_8 : decode b_St_likeOfSet 8 = .ok (.getfield 50, 3) := by decide +kernel
theorem d_St_likeOfSet_11 : decode b_St_likeOfSet 11 = .ok (.if_icmp .ge 31, 3) := by decide +kernel
theorem d_St_likeOfSet_14 : decode b_St_likeOfSet 14 = .ok (.iload_n 2, 1) := by decide +kernel
theorem d_St_likeOfSet_15 : decode b_St_likeOfSet 15 = .ok (.iload 4, 2) := by decide +kernel
theorem d_St_likeOfSet_17 : decode b_St_likeOfSet 17 = .ok (.ishr, 1) := by decide +kernel
theorem d_St_likeOfSet_18 : decode b_St_likeOfSet 18 = .ok (.iconst 1, 1) := by decide +kernel
theorem d_St_likeOfSet_19 : decode b_St_likeOfSet 19 = .ok (.iand, 1) := by decide +kernel
theorem d_St_likeOfSet_20 : decode b_St_likeOfSet 20 = .ok (.iconst 1, 1) := by decide +kernel
theorem d_St_likeOfSet_21 : decode b_St_likeOfSet 21 = .ok (.if_icmp .ne 15, 3) := by decide +kernel
theorem d_St_likeOfSet_24 : decode b_St_likeOfSet 24 = .ok (.iload_n 3, 1) := by decide +kernel
theorem d_St_likeOfSet_25 : decode b_St_likeOfSet 25 = .ok (.aload_n 0, 1) := by decide +kernel
theorem d_St_likeOfSet_26 : decode b_St_likeOfSet 26 = .ok (.getfield 11, 3) := by decide +kernel
theorem d_St_likeOfSet_29 : decode b_St_likeOfSet 29 = .ok (.iload_n 1, 1) := by decide +kernel
theorem d_St_likeOfSet_30 : decode b_St_likeOfSet 30 = .ok (.aaload, 1) := by decide +kernel
theorem d_St_likeOfSet_31 : decode b_St_likeOfSet 31 = .ok (.iload 4, 2) := by decide +kernel
theorem d_St_likeOfSet_33 : decode b_St_likeOfSet 33 = .ok (.iaload, 1) := by decide +kernel
theorem d_St_likeOfSet_34 : decode b_St_likeOfSet 34 = .ok (.iadd, 1) := by decide +kernel
theorem d_St_likeOfSet_35 : decode b_St_likeOfSet 35 = .ok (.istore_n 3, 1) := by decide +kernel
theorem d_St_likeOfSet_36 : decode b_St_likeOfSet 36 = .ok (.iinc 4 1, 3) := by decide +kernel
theorem d_St_likeOfSet_39 : decode b_St_likeOfSet 39 = .ok (.goto (-34), 3) := by decide +kernel
theorem d_St_likeOfSet_42 : decode b_St_likeOfSet 42 = .ok (.iload_n 3, 1) := by decide +kernel
theorem d_St_likeOfSet_43 : decode b_St_likeOfSet 43 = .ok (.ireturn, 1) := by decide +kernel
theorem o_St_likeOfSet : OkV y_St_likeOfSet "OwnsLift$Standing" b_St_likeOfSet 5 (some .int) 2 := ⟨⟨rfl, by decide +kernel, by decide +kernel, by decide +kernel⟩, g_832, g_833, g_77, g_834⟩
set_option maxHeartbeats 4000000 in
set_option maxRecDepth 100000 in
theorem c_St_likeOfSet (l : Launch) (D : va_G) (g : Nat → ClassId) (a : Nat → Nat) (x1 : Int32) (x2 : Int32) (z : T_St) (v : Int32) (h : d_St_likeOfSet x1 x2 z = some v) :
    MI l y_St_likeOfSet b_St_likeOfSet 5 .int ({ frames := 0, cells := 0, slots := 0, locals := 0 } : Room) D g [.ref (a 0), .int x1, .int x2] (ws_St g a z) (v) (ws_St g a z) := by
  have hd := h
  unfold d_St_likeOfSet at hd
  refine enterI rfl (Nat.le_of_ble_eq_true rfl) (fun p e s m below meth c A ls hx hb hml hr hown hg hlk hK hA hP hD hS hCs hl => ?_)
  have hown : s.vm.findClass "OwnsLift$Standing" = some m.cls := hown
  have hl : lv_has ls 5 [(0, .ref (a 0)), (1, .int x1), (2, .int x2)] := hl
  show GI p l e s m ({ frames := 0, cells := 0, slots := 0, locals := 0 } : Room) ([.ref (a 0), .int x1, .int x2] : List Value).toArray below meth c A D g (ws_St g a z) (v) s.heap [] (F0 m 0 ls [])
  refine lv_iconst (v := 0) hx hb d_St_likeOfSet_0 (by decide) ?_
  refine lv_istore_n (lv' := [(3, .int 0), (0, .ref (a 0)), (1, .int x1), (2, .int x2)]) hx hb d_St_likeOfSet_1 rfl hl (by decide) rfl (fun ls hl => ?_)
  refine lv_iconst (v := 0) hx hb d_St_likeOfSet_2 (by decide) ?_
  refine lv_istore (lv' := [(4, .int 0), (3, .int 0), (0, .ref (a 0)), (1, .int x1), (2, .int x2)]) hx hb d_St_likeOfSet_3 hl (by decide) rfl (fun ls hl => ?_)
  have lp5 : ∀ (x1_f5 : Int32) (x2_f5 : Int32) (n : Nat) (x3_5 : Int32) (x4_5 : Int32) (H : Heap) (locs : List Loc) (ls : Array Slot), va_P D classes (ws_St g a z) H → va_D A (ws_St g a z) → va_S A s.heap H locs → lv_has ls 5 [(0, .ref (a 0)), (1, .int x1_f5), (2, .int x2_f5), (3, .int x3_5), (4, .int x4_5)] → d_St_likeOfSet_L5 x1_f5 x2_f5 z n x3_5 x4_5 = some v → GI p l e s m ({ frames := 0, cells := 0, slots := 0, locals := 0 } : Room) ([.ref (a 0), .int x1, .int x2] : List Value).toArray below meth c A D g (ws_St g a z) (v) H locs (F0 m 5 ls []) := by
    intro x1_f5 x2_f5 n
    induction n with
    | zero =>
      intro  x3_5 x4_5 H locs ls hP hD hS hl hd
      have hd : none = some v := hd
      cases hd
    | succ n ih5 =>
      intro  x3_5 x4_5 H locs ls hP hD hS hl hd
      have hd : B_St_likeOfSet_L5 x1_f5 x2_f5 z (d_St_likeOfSet_L5 x1_f5 x2_f5 z n) x3_5 x4_5 = some v := hd
      generalize d_St_likeOfSet_L5 x1_f5 x2_f5 z n = self5 at ih5 hd
      unfold B_St_likeOfSet_L5 at hd
      refine lv_iload hx hb d_St_likeOfSet_5 (lv_at hl 4 rfl) ?_
      refine lv_aload_n hx hb d_St_likeOfSet_7 rfl (lv_at hl 0 rfl) ?_
      refine va_get (D := D) (ci := 9) (v := .int (q_St_things z)) (C := R_St) (T := F_St) (N := 7) hx hb hg i_St hown hK hP 0 rfl rfl 1 (by decide) (hg _ g_281) (fun _ h9 => h9) rfl d_St_likeOfSet_8 ?_
      refine lv_icmp_ge (tgt := 42) hx hb d_St_likeOfSet_11 (by decide) (fun h_1 => ?_) (fun h_1 => ?_)
      · have hd := ite_t hd h_1
        refine lv_iload_n hx hb d_St_likeOfSet_42 rfl (lv_at hl 3 rfl) ?_
        obtain rfl := Option.some.inj hd
        exact retI hx hb hr hlk hK hP hD hS d_St_likeOfSet_43 rfl
      · have hd := ite_f hd h_1
        refine lv_iload_n hx hb d_St_likeOfSet_14 rfl (lv_at hl 2 rfl) ?_
        refine lv_iload hx hb d_St_likeOfSet_15 (lv_at hl 4 rfl) ?_
        refine lv_ishr hx hb d_St_likeOfSet_17 ?_
        refine lv_iconst (v := 1) hx hb d_St_likeOfSet_18 (by decide) ?_
        refine lv_iand hx hb d_St_likeOfSet_19 ?_
        refine lv_iconst (v := 1) hx hb d_St_likeOfSet_20 (by decide) ?_
        refine lv_icmp_ne (tgt := 36) hx hb d_St_likeOfSet_21 (by decide) (fun h_2 => ?_) (fun h_2 => ?_)
        · have hd := ite_f hd h_2
          refine lv_iinc (v := x4_5 + 1) (lv' := [(4, .int (x4_5 + 1)), (0, .ref (a 0)), (1, .int x1_f5), (2, .int x2_f5), (3, .int x3_5)]) hx hb d_St_likeOfSet_36 hl (k := 4) rfl (by rfl) (by decide) rfl (fun ls hl => ?_)
          refine lv_goto (tgt := 5) hx hb d_St_likeOfSet_39 (by decide) ?_
          exact ih5 x3_5 (x4_5 + 1) _ _ _ hP hD hS (lv_sub hl [1, 2, 3, 4, 0] rfl) hd
        · have hd := ite_t hd h_2
          refine lv_iload_n hx hb d_St_likeOfSet_24 rfl (lv_at hl 3 rfl) ?_
          refine lv_aload_n hx hb d_St_likeOfSet_25 rfl (lv_at hl 0 rfl) ?_
          refine va_get (D := D) (ci := 9) (v := .ref (a 1)) (C := R_St) (T := F_St) (N := 7) hx hb hg i_St hown hK hP 0 rfl rfl 2 (by decide) (hg _ g_284) (fun _ h9 => h9) rfl d_St_likeOfSet_26 ?_
          refine lv_iload_n hx hb d_St_likeOfSet_29 rfl (lv_at hl 1 rfl) ?_
          obtain ⟨h_3, hd⟩ := ite_s hd
          refine aldA hx hb hK hP 1 rfl (inb_t h_3) d_St_likeOfSet_30 ?_
          refine lv_iload hx hb d_St_likeOfSet_31 (lv_at hl 4 rfl) ?_
          obtain ⟨h_4, hd⟩ := ite_s hd
          refine ialdK hx hb hK hP (2 + x1_f5.toNatClampNeg) 0 ((show ∀ k, k < 4 → (ws_St g a z)[2 + k]? = some (a (k + 2), .inl (g 0, 7, .inl ((q_St_like z) k))) from fun k hk => match k, hk with | 0, _ => rfl | 1, _ => rfl | 2, _ => rfl | 3, _ => rfl | k + 4, hk => absurd hk (by omega)) _ (vp_lt (inb_t h_3))) rfl (inb_t h_4) rfl d_St_likeOfSet_33 ?_
          refine lv_iadd hx hb d_St_likeOfSet_34 ?_
          refine lv_istore_n (lv' := [(3, .int (x3_5 + ((q_St_like z) x1_f5.toNatClampNeg x4_5.toNatClampNeg))), (0, .ref (a 0)), (1, .int x1_f5), (2, .int x2_f5), (4, .int x4_5)]) hx hb d_St_likeOfSet_35 rfl hl (by decide) rfl (fun ls hl => ?_)
          refine lv_iinc (v := x4_5 + 1) (lv' := [(4, .int (x4_5 + 1)), (3, .int (x3_5 + ((q_St_like z) x1_f5.toNatClampNeg x4_5.toNatClampNeg))), (0, .ref (a 0)), (1, .int x1_f5), (2, .int x2_f5)]) hx hb d_St_likeOfSet_36 hl (k := 4) rfl (by rfl) (by decide) rfl (fun ls hl => ?_)
          refine lv_goto (tgt := 5) hx hb d_St_likeOfSet_39 (by decide) ?_
          exact ih5 (x3_5 + ((q_St_like z) x1_f5.toNatClampNeg x4_5.toNatClampNeg)) (x4_5 + 1) _ _ _ hP hD hS (lv_sub hl [2, 3, 4, 1, 0] rfl) hd
  exact lp5 x1 x2 1000 0 0 _ _ _ hP hD hS (lv_sub hl [2, 3, 4, 1, 0] rfl) hd

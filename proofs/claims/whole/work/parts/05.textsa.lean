def y_JS_coder : MethodName := ⟨"java/lang/String", "coder", "()B"⟩
abbrev b_JS_coder : ByteArray := prog_17_method_152_code
-- java/lang/String.coder()B
def d_JS_coder (t0 : Nat) : Option (Int32) :=
  if t0 < 10 then (some (0)) else none
theorem d_JS_coder_0 : decode b_JS_coder 0 = .ok (.getstatic 38, 3) := by decide +kernel
theorem d_JS_coder_3 : decode b_JS_coder 3 = .ok (.ifCond .eq 10, 3) := by decide +kernel
theorem d_JS_coder_6 : decode b_JS_coder 6 = .ok (.aload_n 0, 1) := by decide +kernel
theorem d_JS_coder_7 : decode b_JS_coder 7 = .ok (.getfield 15, 3) := by decide +kernel
theorem d_JS_coder_10 : decode b_JS_coder 10 = .ok (.goto 4, 3) := by decide +kernel
theorem d_JS_coder_13 : decode b_JS_coder 13 = .ok (.iconst 1, 1) := by decide +kernel
theorem d_JS_coder_14 : decode b_JS_coder 14 = .ok (.ireturn, 1) := by decide +kernel
theorem o_JS_coder : OkV y_JS_coder "java/lang/String" b_JS_coder 1 (some .byte) 0 := ⟨⟨rfl, by decide +kernel, by decide +kernel, by decide +kernel⟩, g_464, g_465, g_83, g_466⟩
set_option maxHeartbeats 4000000 in
set_option maxRecDepth 100000 in
theorem c_JS_coder (l : Launch) (D : va_G) (g : Nat → ClassId) (t0 : Nat) (v : Int32) (h : d_JS_coder t0 = some v) :
    MI l y_JS_coder b_JS_coder 1 .byte ({ frames := 0, cells := 0, slots := 0, locals := 0 } : Room) D g [.ref (g (10 + t0))] (([] : va_W)) (v) (([] : va_W)) := by
  have hd := h
  unfold d_JS_coder at hd
  refine enterI rfl (Nat.le_of_ble_eq_true rfl) (fun p e s m below meth c A ls hx hb hml hr hown hg hlk hK hA hP hD hS hCs hl => ?_)
  have hown : s.vm.findClass "java/lang/String" = some m.cls := hown
  have hl : lv_has ls 1 [(0, .ref (g (10 + t0)))] := hl
  show GI p l e s m ({ frames := 0, cells := 0, slots := 0, locals := 0 } : Room) ([.ref (g (10 + t0))] : List Value).toArray below meth c A D g (([] : va_W)) (v) s.heap [] (F0 m 0 ls [])
  obtain ⟨ht, hd⟩ := ite_s hd
  refine va_gets (v := .int 1) hx hb hCs.1.2.1 hS hown (hg _ g_467) (fun _ h9 => h9) d_JS_coder_0 ?_
  refine lv_if_eq (tgt := 13) hx hb d_JS_coder_3 (by decide) (fun h9 => absurd h9 (by decide)) (fun _ => ?_)
  refine lv_aload_n hx hb d_JS_coder_6 rfl (lv_at hl 0 rfl) ?_
  refine vk_getf (v := .int 0) hx hb (hCs.1.1.1 t0 ht).2.1 hS hown (hg _ g_1399) (fun _ h9 => h9) d_JS_coder_7 ?_
  refine lv_goto (tgt := 14) hx hb d_JS_coder_10 (by decide) ?_
  obtain rfl := Option.some.inj hd
  exact retY hx hb hr hlk hK hP hD hS d_JS_coder_14 rfl (by decide +kernel)
theorem k_JS_coder (l : Launch) (D : va_G) (g : Nat → ClassId) (t0 : Nat) (ht : t0 < 10) : MI l y_JS_coder b_JS_coder 1 .byte ({ frames := 0, cells := 0, slots := 0, locals := 0 } : Room) D g [.ref (g (10 + t0))] ([] : va_W) 0 ([] : va_W) := c_JS_coder l D g t0 _ (by unfold d_JS_coder; rw [if_pos ht])
def y_JS_isLatin1 : MethodName := ⟨"java/lang/String", "isLatin1", "()Z"⟩
abbrev b_JS_isLatin1 : ByteArray := prog_17_method_154_code
-- java/lang/String.isLatin1()Z
def d_JS_isLatin1 (t0 : Nat) : Option (Int32) :=
  if t0 < 10 then (some (1)) else none
theorem d_JS_isLatin1_0 : decode b_JS_isLatin1 0 = .ok (.getstatic 38, 3) := by decide +kernel
theorem d_JS_isLatin1_3 : decode b_JS_isLatin1 3 = .ok (.ifCond .eq 14, 3) := by decide +kernel
theorem d_JS_isLatin1_6 : decode b_JS_isLatin1 6 = .ok (.aload_n 0, 1) := by decide +kernel
theorem d_JS_isLatin1_7 : decode b_JS_isLatin1 7 = .ok (.getfield 15, 3) := by decide +kernel
theorem d_JS_isLatin1_10 : decode b_JS_isLatin1 10 = .ok (.ifCond .ne 7, 3) := by decide +kernel
theorem d_JS_isLatin1_13 : decode b_JS_isLatin1 13 = .ok (.iconst 1, 1) := by decide +kernel
theorem d_JS_isLatin1_14 : decode b_JS_isLatin1 14 = .ok (.goto 4, 3) := by decide +kernel
theorem d_JS_isLatin1_17 : decode b_JS_isLatin1 17 = .ok (.iconst 0, 1) := by decide +kernel
theorem d_JS_isLatin1_18 : decode b_JS_isLatin1 18 = .ok (.ireturn, 1) := by decide +kernel
theorem o_JS_isLatin1 : OkV y_JS_isLatin1 "java/lang/String" b_JS_isLatin1 1 (some .boolean) 0 := ⟨⟨rfl, by decide +kernel, by decide +kernel, by decide +kernel⟩, g_474, g_475, g_83, g_476⟩
set_option maxHeartbeats 4000000 in
set_option maxRecDepth 100000 in
theorem c_JS_isLatin1 (l : Launch) (D : va_G) (g : Nat → ClassId) (t0 : Nat) (v : Int32) (h : d_JS_isLatin1 t0 = some v) :
    MI l y_JS_isLatin1 b_JS_isLatin1 1 .boolean ({ frames := 0, cells := 0, slots := 0, locals := 0 } : Room) D g [.ref (g (10 + t0))] (([] : va_W)) (v) (([] : va_W)) := by
  have hd := h
  unfold d_JS_isLatin1 at hd
  refine enterI rfl (Nat.le_of_ble_eq_true rfl) (fun p e s m below meth c A ls hx hb hml hr hown hg hlk hK hA hP hD hS hCs hl => ?_)
  have hown : s.vm.findClass "java/lang/String" = some m.cls := hown
  have hl : lv_has ls 1 [(0, .ref (g (10 + t0)))] := hl
  show GI p l e s m ({ frames := 0, cells := 0, slots := 0, locals := 0 } : Room) ([.ref (g (10 + t0))] : List Value).toArray below meth c A D g (([] : va_W)) (v) s.heap [] (F0 m 0 ls [])
  obtain ⟨ht, hd⟩ := ite_s hd
  refine va_gets (v := .int 1) hx hb hCs.1.2.1 hS hown (hg _ g_467) (fun _ h9 => h9) d_JS_isLatin1_0 ?_
  refine lv_if_eq (tgt := 17) hx hb d_JS_isLatin1_3 (by decide) (fun h9 => absurd h9 (by decide)) (fun _ => ?_)
  refine lv_aload_n hx hb d_JS_isLatin1_6 rfl (lv_at hl 0 rfl) ?_
  refine vk_getf (v := .int 0) hx hb (hCs.1.1.1 t0 ht).2.1 hS hown (hg _ g_1399) (fun _ h9 => h9) d_JS_isLatin1_7 ?_
  refine lv_if_ne (tgt := 17) hx hb d_JS_isLatin1_10 (by decide) (fun h9 => absurd (by decide) h9) (fun _ => ?_)
  refine lv_iconst (v := 1) hx hb d_JS_isLatin1_13 (by decide) ?_
  refine lv_goto (tgt := 18) hx hb d_JS_isLatin1_14 (by decide) ?_
  obtain rfl := Option.some.inj hd
  exact retZ hx hb hr hlk hK hP hD hS d_JS_isLatin1_18 rfl (by decide +kernel)
theorem k_JS_isLatin1 (l : Launch) (D : va_G) (g : Nat → ClassId) (t0 : Nat) (ht : t0 < 10) : MI l y_JS_isLatin1 b_JS_isLatin1 1 .boolean ({ frames := 0, cells := 0, slots := 0, locals := 0 } : Room) D g [.ref (g (10 + t0))] ([] : va_W) 1 ([] : va_W) := c_JS_isLatin1 l D g t0 _ (by unfold d_JS_isLatin1; rw [if_pos ht])
def y_JS_length : MethodName := ⟨"java/lang/String", "length", "()I"⟩
abbrev b_JS_length : ByteArray := prog_17_method_54_code
-- java/lang/String.length()I
def d_JS_length (t0 : Nat) : Option (Int32) :=
  if t0 < 10 then (some ((nI (lenC.getD t0 0)) >>> (0 &&& 31))) else none
theorem d_JS_length_0 : decode b_JS_length 0 = .ok (.aload_n 0, 1) := by decide +kernel
theorem d_JS_length_1 : decode b_JS_length 1 = .ok (.getfield 9, 3) := by decide +kernel
theorem d_JS_length_4 : decode b_JS_length 4 = .ok (.arraylength, 1) := by decide +kernel
theorem d_JS_length_5 : decode b_JS_length 5 = .ok (.aload_n 0, 1) := by decide +kernel
theorem d_JS_length_6 : decode b_JS_length 6 = .ok (.invokevirtual 335, 3) := by decide +kernel
theorem d_JS_length_9 : decode b_JS_length 9 = .ok (.ishr, 1) := by decide +kernel
theorem d_JS_length_10 : decode b_JS_length 10 = .ok (.ireturn, 1) := by decide +kernel
theorem o_JS_length : OkV y_JS_length "java/lang/String" b_JS_length 1 (some .int) 0 := ⟨⟨rfl, by decide +kernel, by decide +kernel, by decide +kernel⟩, g_460, g_461, g_83, g_462⟩
set_option maxHeartbeats 4000000 in
set_option maxRecDepth 100000 in
theorem c_JS_length (l : Launch) (D : va_G) (g : Nat → ClassId) (t0 : Nat) (v : Int32) (h : d_JS_length t0 = some v) :
    MI l y_JS_length b_JS_length 1 .int ({ frames := 1, cells := 0, slots := 0, locals := 20 } : Room) D g [.ref (g (10 + t0))] (([] : va_W)) (v) (([] : va_W)) := by
  have hd := h
  unfold d_JS_length at hd
  refine enterI rfl (Nat.le_of_ble_eq_true rfl) (fun p e s m below meth c A ls hx hb hml hr hown hg hlk hK hA hP hD hS hCs hl => ?_)
  have hown : s.vm.findClass "java/lang/String" = some m.cls := hown
  have hl : lv_has ls 1 [(0, .ref (g (10 + t0)))] := hl
  show GI p l e s m ({ frames := 1, cells := 0, slots := 0, locals := 20 } : Room) ([.ref (g (10 + t0))] : List Value).toArray below meth c A D g (([] : va_W)) (v) s.heap [] (F0 m 0 ls [])
  obtain ⟨ht, hd⟩ := ite_s hd
  refine lv_aload_n hx hb d_JS_length_0 rfl (lv_at hl 0 rfl) ?_
  refine vk_getf (v := .ref (g (30 + t0))) hx hb (hCs.1.1.1 t0 ht).2.2.1 hS hown (hg _ g_1398) (fun _ h9 => h9) d_JS_length_1 ?_
  refine va_tlen (v := nI (lenC.getD t0 0)) hx hb (hCs.1.1.1 t0 ht).2.2.2 hS rfl d_JS_length_4 ?_
  refine lv_aload_n hx hb d_JS_length_5 rfl (lv_at hl 0 rfl) ?_
  refine callTI (ws' := ([] : va_W)) (rest := [.int (nI (lenC.getD t0 0))]) (As := []) hx hb hml hown hg hK hP hD hS hA hCs hl.1 (k_JS_coder l D g t0 ht) o_JS_coder g_463 (vk_recv (i := t0) hCs.1.1 ht hS) [] segC0 rfl rfl segP0 rfl rfl (Nat.le_of_ble_eq_true rfl) ⟨rfl, rfl, Nat.le_of_ble_eq_true rfl, Nat.le_of_ble_eq_true rfl⟩ d_JS_length_6 (fun H locs hP hD hS => ?_)
  refine lv_ishr hx hb d_JS_length_9 ?_
  obtain rfl := Option.some.inj hd
  exact retI hx hb hr hlk hK hP hD hS d_JS_length_10 rfl
theorem lt_JS_length {t0 : Nat} {v : Int32} (h : d_JS_length t0 = some v) : t0 < 10 := by
  unfold d_JS_length at h
  exact (ite_s h).1
def y_JP_checkIndex : MethodName := ⟨"jdk/internal/util/Preconditions", "checkIndex", "(IILjava/util/function/BiFunction;)I"⟩
abbrev b_JP_checkIndex : ByteArray := prog_21_method_11_code
theorem d_JP_checkIndex_0 : decode b_JP_checkIndex 0 = .ok (.iload_n 0, 1) := by decide +kernel
theorem d_JP_checkIndex_1 : decode b_JP_checkIndex 1 = .ok (.ifCond .lt 8, 3) := by decide +kernel
theorem d_JP_checkIndex_4 : decode b_JP_checkIndex 4 = .ok (.iload_n 0, 1) := by decide +kernel
theorem d_JP_checkIndex_5 : decode b_JP_checkIndex 5 = .ok (.iload_n 1, 1) := by decide +kernel
theorem d_JP_checkIndex_6 : decode b_JP_checkIndex 6 = .ok (.if_icmp .lt 10, 3) := by decide +kernel
theorem d_JP_checkIndex_9 : decode b_JP_checkIndex 9 = .ok (.aload_n 2, 1) := by decide +kernel
theorem d_JP_checkIndex_10 : decode b_JP_checkIndex 10 = .ok (.iload_n 0, 1) := by decide +kernel
theorem d_JP_checkIndex_11 : decode b_JP_checkIndex 11 = .ok (.iload_n 1, 1) := by decide +kernel
theorem d_JP_checkIndex_12 : decode b_JP_checkIndex 12 = .ok (.invokestatic 95, 3) := by decide +kernel
theorem d_JP_checkIndex_15 : decode b_JP_checkIndex 15 = .ok (.athrow, 1) := by decide +kernel
theorem d_JP_checkIndex_16 : decode b_JP_checkIndex 16 = .ok (.iload_n 0, 1) := by decide +kernel
theorem d_JP_checkIndex_17 : decode b_JP_checkIndex 17 = .ok (.ireturn, 1) := by decide +kernel
theorem o_JP_checkIndex : OkS y_JP_checkIndex b_JP_checkIndex 3 (some .int) 3 := ⟨⟨by decide +kernel, by decide +kernel, by decide +kernel⟩, g_486, g_85, g_487⟩
def d_JP_checkIndex (x0 x1 : Int32) : Option Int32 := if x0 < 0 then none else if x0 < x1 then some x0 else none
theorem c_JP_checkIndex (l : Launch) (D : va_G) (g : Nat → ClassId) (x0 x1 : Int32) (f2 : Value) (hf : f2 = .null ∨ ∃ t, f2 = .ref t) (v : Int32) (h : d_JP_checkIndex x0 x1 = some v) :
    MI l y_JP_checkIndex b_JP_checkIndex 3 .int ({ frames := 0, cells := 0, slots := 0, locals := 0 } : Room) D g [.int x0, .int x1, f2] ([] : va_W) v ([] : va_W) := by
  unfold d_JP_checkIndex at h
  obtain ⟨h1, h⟩ := ite_n h
  obtain ⟨h2, h⟩ := ite_s h
  obtain rfl := Option.some.inj h
  rcases hf with rfl | ⟨t, rfl⟩
  · refine enterI rfl (Nat.le_of_ble_eq_true rfl) (fun p e s m below meth c A ls hx hb hml hr hown hg hlk hK hA hP hD hS hCs hl => ?_)
    have hl : lv_has ls 3 [(0, .int x0), (1, .int x1), (2, .null)] := hl
    refine lv_iload_n hx hb d_JP_checkIndex_0 rfl (lv_at hl 0 rfl) ?_
    refine lv_if_lt (tgt := 9) hx hb d_JP_checkIndex_1 (by decide) (fun h9 => absurd h9 h1) (fun _ => ?_)
    refine lv_iload_n hx hb d_JP_checkIndex_4 rfl (lv_at hl 0 rfl) ?_
    refine lv_iload_n hx hb d_JP_checkIndex_5 rfl (lv_at hl 1 rfl) ?_
    refine lv_icmp_lt (tgt := 16) hx hb d_JP_checkIndex_6 (by decide) (fun _ => ?_) (fun h9 => absurd h2 h9)
    refine lv_iload_n hx hb d_JP_checkIndex_16 rfl (lv_at hl 0 rfl) ?_
    exact retI hx hb hr hlk hK hP hD hS d_JP_checkIndex_17 rfl
  · refine enterI rfl (Nat.le_of_ble_eq_true rfl) (fun p e s m below meth c A ls hx hb hml hr hown hg hlk hK hA hP hD hS hCs hl => ?_)
    have hl : lv_has ls 3 [(0, .int x0), (1, .int x1), (2, .ref t)] := hl
    refine lv_iload_n hx hb d_JP_checkIndex_0 rfl (lv_at hl 0 rfl) ?_
    refine lv_if_lt (tgt := 9) hx hb d_JP_checkIndex_1 (by decide) (fun h9 => absurd h9 h1) (fun _ => ?_)
    refine lv_iload_n hx hb d_JP_checkIndex_4 rfl (lv_at hl 0 rfl) ?_
    refine lv_iload_n hx hb d_JP_checkIndex_5 rfl (lv_at hl 1 rfl) ?_
    refine lv_icmp_lt (tgt := 16) hx hb d_JP_checkIndex_6 (by decide) (fun _ => ?_) (fun h9 => absurd h2 h9)
    refine lv_iload_n hx hb d_JP_checkIndex_16 rfl (lv_at hl 0 rfl) ?_
    exact retI hx hb hr hlk hK hP hD hS d_JP_checkIndex_17 rfl
def y_JS_checkIndex : MethodName := ⟨"java/lang/String", "checkIndex", "(II)V"⟩
abbrev b_JS_checkIndex : ByteArray := prog_17_method_155_code
theorem d_JS_checkIndex_0 : decode b_JS_checkIndex 0 = .ok (.iload_n 0, 1) := by decide +kernel
theorem d_JS_checkIndex_1 : decode b_JS_checkIndex 1 = .ok (.iload_n 1, 1) := by decide +kernel
theorem d_JS_checkIndex_2 : decode b_JS_checkIndex 2 = .ok (.getstatic 1053, 3) := by decide +kernel
theorem d_JS_checkIndex_5 : decode b_JS_checkIndex 5 = .ok (.invokestatic 1059, 3) := by decide +kernel
theorem d_JS_checkIndex_8 : decode b_JS_checkIndex 8 = .ok (.pop, 1) := by decide +kernel
theorem d_JS_checkIndex_9 : decode b_JS_checkIndex 9 = .ok (.return_, 1) := by decide +kernel
theorem o_JS_checkIndex : OkS y_JS_checkIndex b_JS_checkIndex 2 none 2 := ⟨⟨by decide +kernel, by decide +kernel, by decide +kernel⟩, g_481, g_83, g_482⟩
def d_JS_checkIndex (x0 x1 : Int32) : Option Unit := if x0 < 0 then none else if x0 < x1 then some () else none
theorem c_JS_checkIndex (l : Launch) (D : va_G) (g : Nat → ClassId) (x0 x1 : Int32) (v : Unit) (h : d_JS_checkIndex x0 x1 = some v) :
    MV l y_JS_checkIndex b_JS_checkIndex 2 ({ frames := 1, cells := 0, slots := 0, locals := 22 } : Room) D g [.int x0, .int x1] ([] : va_W) ([] : va_W) := by
  unfold d_JS_checkIndex at h
  obtain ⟨h1, h⟩ := ite_n h
  obtain ⟨h2, h⟩ := ite_s h
  refine enterV rfl (Nat.le_of_ble_eq_true rfl) (fun p e s m below meth c A ls hx hb hml hr hown hg hlk hK hA hP hD hS hCs hl => ?_)
  have hl : lv_has ls 2 [(0, .int x0), (1, .int x1)] := hl
  have hown : s.vm.findClass "java/lang/String" = some m.cls := hown
  refine lv_iload_n hx hb d_JS_checkIndex_0 rfl (lv_at hl 0 rfl) ?_
  refine lv_iload_n hx hb d_JS_checkIndex_1 rfl (lv_at hl 1 rfl) ?_
  rcases hCs.1.2.2.1 with hz | ⟨t9, hz⟩
  · refine va_gets (v := .null) hx hb hz hS hown (hg _ g_483) (fun _ h9 => h9) d_JS_checkIndex_2 ?_
    refine callSI (ws' := ([] : va_W)) (rest := []) (As := [.int x0, .int x1, .null]) hx hb hml hown hg hK hP hD hS hA hCs hl.1 (c_JP_checkIndex l D g x0 x1 .null (Or.inl rfl) x0 (by unfold d_JP_checkIndex; rw [if_neg h1, if_pos h2])) o_JP_checkIndex g_485 [] segC0 rfl rfl segP0 rfl rfl (Nat.le_of_ble_eq_true rfl) ⟨rfl, rfl, Nat.le_of_ble_eq_true rfl, Nat.le_of_ble_eq_true rfl⟩ d_JS_checkIndex_5 (fun H locs hP hD hS => ?_)
    refine lv_pop hx hb d_JS_checkIndex_8 rfl ?_
    exact retV hx hb hr hlk hK hP hD hS d_JS_checkIndex_9
  · refine va_gets (v := (.ref t9)) hx hb hz hS hown (hg _ g_483) (fun _ h9 => h9) d_JS_checkIndex_2 ?_
    refine callSI (ws' := ([] : va_W)) (rest := []) (As := [.int x0, .int x1, (.ref t9)]) hx hb hml hown hg hK hP hD hS hA hCs hl.1 (c_JP_checkIndex l D g x0 x1 (.ref t9) (Or.inr ⟨t9, rfl⟩) x0 (by unfold d_JP_checkIndex; rw [if_neg h1, if_pos h2])) o_JP_checkIndex g_485 [] segC0 rfl rfl segP0 rfl rfl (Nat.le_of_ble_eq_true rfl) ⟨rfl, rfl, Nat.le_of_ble_eq_true rfl, Nat.le_of_ble_eq_true rfl⟩ d_JS_checkIndex_5 (fun H locs hP hD hS => ?_)
    refine lv_pop hx hb d_JS_checkIndex_8 rfl ?_
    exact retV hx hb hr hlk hK hP hD hS d_JS_checkIndex_9
def y_JL_charAt : MethodName := ⟨"java/lang/StringLatin1", "charAt", "([BI)C"⟩
abbrev b_JL_charAt : ByteArray := prog_18_method_2_code
-- java/lang/StringLatin1.charAt([BI)C
def d_JL_charAt (t0 : Nat) (x1 : Int32) : Option (Int32) :=
  if t0 < 10 then ((d_JS_checkIndex x1 (nI (lenC.getD t0 0))).bind fun v_1 => if inb x1 (lenC.getD t0 0) = true then (some (((((bytC.getD t0 []).getD x1.toNatClampNeg 0) &&& 255 : Int32).toUInt32 % 65536).toInt32)) else none) else none
theorem nz_JL_charAt {t0 : Nat} {x1 v : Int32} (h : d_JL_charAt t0 x1 = some v) : narrow .char (.int v) = .int v := by
  unfold d_JL_charAt at h
  obtain ⟨_, h⟩ := ite_s h
  obtain ⟨_, _, h⟩ := bind_s h
  obtain ⟨_, h⟩ := ite_s h
  obtain rfl := Option.some.inj h
  exact pk_nc _
theorem d_JL_charAt_0 : decode b_JL_charAt 0 = .ok (.iload_n 1, 1) := by decide +kernel
theorem d_JL_charAt_1 : decode b_JL_charAt 1 = .ok (.aload_n 0, 1) := by decide +kernel
theorem d_JL_charAt_2 : decode b_JL_charAt 2 = .ok (.arraylength, 1) := by decide +kernel
theorem d_JL_charAt_3 : decode b_JL_charAt 3 = .ok (.invokestatic 9, 3) := by decide +kernel
theorem d_JL_charAt_6 : decode b_JL_charAt 6 = .ok (.aload_n 0, 1) := by decide +kernel
theorem d_JL_charAt_7 : decode b_JL_charAt 7 = .ok (.iload_n 1, 1) := by decide +kernel
theorem d_JL_charAt_8 : decode b_JL_charAt 8 = .ok (.baload, 1) := by decide +kernel
theorem d_JL_charAt_9 : decode b_JL_charAt 9 = .ok (.sipush 255, 3) := by decide +kernel
theorem d_JL_charAt_12 : decode b_JL_charAt 12 = .ok (.iand, 1) := by decide +kernel
theorem d_JL_charAt_13 : decode b_JL_charAt 13 = .ok (.i2c, 1) := by decide +kernel
theorem d_JL_charAt_14 : decode b_JL_charAt 14 = .ok (.ireturn, 1) := by decide +kernel
theorem o_JL_charAt : OkS y_JL_charAt b_JL_charAt 2 (some .char) 2 := ⟨⟨by decide +kernel, by decide +kernel, by decide +kernel⟩, g_478, g_84, g_479⟩
set_option maxHeartbeats 4000000 in
set_option maxRecDepth 100000 in
theorem c_JL_charAt (l : Launch) (D : va_G) (g : Nat → ClassId) (t0 : Nat) (x1 : Int32) (v : Int32) (h : d_JL_charAt t0 x1 = some v) :
    MI l y_JL_charAt b_JL_charAt 2 .char ({ frames := 2, cells := 0, slots := 0, locals := 43 } : Room) D g [.ref (g (30 + t0)), .int x1] (([] : va_W)) (v) (([] : va_W)) := by
  have hd := h
  unfold d_JL_charAt at hd
  refine enterI rfl (Nat.le_of_ble_eq_true rfl) (fun p e s m below meth c A ls hx hb hml hr hown hg hlk hK hA hP hD hS hCs hl => ?_)
  have hown : s.vm.findClass "java/lang/StringLatin1" = some m.cls := hown
  have hl : lv_has ls 2 [(0, .ref (g (30 + t0))), (1, .int x1)] := hl
  show GI p l e s m ({ frames := 2, cells := 0, slots := 0, locals := 43 } : Room) ([.ref (g (30 + t0)), .int x1] : List Value).toArray below meth c A D g (([] : va_W)) (v) s.heap [] (F0 m 0 ls [])
  obtain ⟨ht, hd⟩ := ite_s hd
  refine lv_iload_n hx hb d_JL_charAt_0 rfl (lv_at hl 1 rfl) ?_
  refine lv_aload_n hx hb d_JL_charAt_1 rfl (lv_at hl 0 rfl) ?_
  refine va_tlen (v := nI (lenC.getD t0 0)) hx hb (hCs.1.1.1 t0 ht).2.2.2 hS rfl d_JL_charAt_2 ?_
  obtain ⟨v_1, e_2, hd⟩ := bind_s hd
  refine callSV (ws' := ([] : va_W)) (rest := []) (As := [.int x1, .int (nI (lenC.getD t0 0))]) hx hb hml hown hg hK hP hD hS hA hCs hl.1 (c_JS_checkIndex l D g  x1 (nI (lenC.getD t0 0)) _ e_2) o_JS_checkIndex g_480 [] segC0 rfl rfl segP0 rfl rfl (Nat.le_of_ble_eq_true rfl) ⟨rfl, rfl, Nat.le_of_ble_eq_true rfl, Nat.le_of_ble_eq_true rfl⟩ d_JL_charAt_3 (fun H locs hP hD hS => ?_)
  refine lv_aload_n hx hb d_JL_charAt_6 rfl (lv_at hl 0 rfl) ?_
  refine lv_iload_n hx hb d_JL_charAt_7 rfl (lv_at hl 1 rfl) ?_
  obtain ⟨h_3, hd⟩ := ite_s hd
  refine va_tb (v := .int ((bytC.getD t0 []).getD x1.toNatClampNeg 0)) hx hb (hCs.1.1.1 t0 ht).2.2.2 hS (inb_t h_3) rfl d_JL_charAt_8 ?_
  refine lv_sipush (v := 255) hx hb d_JL_charAt_9 (by decide) ?_
  refine lv_iand hx hb d_JL_charAt_12 ?_
  refine lv_i2c hx hb d_JL_charAt_13 rfl ?_
  obtain rfl := Option.some.inj hd
  exact retY hx hb hr hlk hK hP hD hS d_JL_charAt_14 rfl (pk_nc _)
def y_JS_charAt : MethodName := ⟨"java/lang/String", "charAt", "(I)C"⟩
abbrev b_JS_charAt : ByteArray := prog_17_method_56_code
-- java/lang/String.charAt(I)C
def d_JS_charAt (t0 : Nat) (x1 : Int32) : Option (Int32) :=
  if t0 < 10 then ((d_JL_charAt t0 x1).bind fun v_3 => some (v_3)) else none
theorem d_JS_charAt_0 : decode b_JS_charAt 0 = .ok (.aload_n 0, 1) := by decide +kernel
theorem d_JS_charAt_1 : decode b_JS_charAt 1 = .ok (.invokevirtual 492, 3) := by decide +kernel
theorem d_JS_charAt_4 : decode b_JS_charAt 4 = .ok (.ifCond .eq 12, 3) := by decide +kernel
theorem d_JS_charAt_7 : decode b_JS_charAt 7 = .ok (.aload_n 0, 1) := by decide +kernel
theorem d_JS_charAt_8 : decode b_JS_charAt 8 = .ok (.getfield 9, 3) := by decide +kernel
theorem d_JS_charAt_11 : decode b_JS_charAt 11 = .ok (.iload_n 1, 1) := by decide +kernel
theorem d_JS_charAt_12 : decode b_JS_charAt 12 = .ok (.invokestatic 495, 3) := by decide +kernel
theorem d_JS_charAt_15 : decode b_JS_charAt 15 = .ok (.ireturn, 1) := by decide +kernel
theorem d_JS_charAt_16 : decode b_JS_charAt 16 = .ok (.aload_n 0, 1) := by decide +kernel
theorem d_JS_charAt_17 : decode b_JS_charAt 17 = .ok (.getfield 9, 3) := by decide +kernel
theorem d_JS_charAt_20 : decode b_JS_charAt 20 = .ok (.iload_n 1, 1) := by decide +kernel
theorem d_JS_charAt_21 : decode b_JS_charAt 21 = .ok (.invokestatic 498, 3) := by decide +kernel
theorem d_JS_charAt_24 : decode b_JS_charAt 24 = .ok (.ireturn, 1) := by decide +kernel
theorem o_JS_charAt : OkV y_JS_charAt "java/lang/String" b_JS_charAt 2 (some .char) 1 := ⟨⟨rfl, by decide +kernel, by decide +kernel, by decide +kernel⟩, g_470, g_471, g_83, g_472⟩
set_option maxHeartbeats 4000000 in
set_option maxRecDepth 100000 in
theorem c_JS_charAt (l : Launch) (D : va_G) (g : Nat → ClassId) (t0 : Nat) (x1 : Int32) (v : Int32) (h : d_JS_charAt t0 x1 = some v) :
    MI l y_JS_charAt b_JS_charAt 2 .char ({ frames := 3, cells := 0, slots := 0, locals := 64 } : Room) D g [.ref (g (10 + t0)), .int x1] (([] : va_W)) (v) (([] : va_W)) := by
  have hd := h
  unfold d_JS_charAt at hd
  refine enterI rfl (Nat.le_of_ble_eq_true rfl) (fun p e s m below meth c A ls hx hb hml hr hown hg hlk hK hA hP hD hS hCs hl => ?_)
  have hown : s.vm.findClass "java/lang/String" = some m.cls := hown
  have hl : lv_has ls 2 [(0, .ref (g (10 + t0))), (1, .int x1)] := hl
  show GI p l e s m ({ frames := 3, cells := 0, slots := 0, locals := 64 } : Room) ([.ref (g (10 + t0)), .int x1] : List Value).toArray below meth c A D g (([] : va_W)) (v) s.heap [] (F0 m 0 ls [])
  obtain ⟨ht, hd⟩ := ite_s hd
  refine lv_aload_n hx hb d_JS_charAt_0 rfl (lv_at hl 0 rfl) ?_
  refine callTI (ws' := ([] : va_W)) (rest := []) (As := []) hx hb hml hown hg hK hP hD hS hA hCs hl.1 (k_JS_isLatin1 l D g t0 ht) o_JS_isLatin1 g_473 (vk_recv (i := t0) hCs.1.1 ht hS) [] segC0 rfl rfl segP0 rfl rfl (Nat.le_of_ble_eq_true rfl) ⟨rfl, rfl, Nat.le_of_ble_eq_true rfl, Nat.le_of_ble_eq_true rfl⟩ d_JS_charAt_1 (fun H locs hP hD hS => ?_)
  refine lv_if_eq (tgt := 16) hx hb d_JS_charAt_4 (by decide) (fun h9 => absurd h9 (by decide)) (fun _ => ?_)
  refine lv_aload_n hx hb d_JS_charAt_7 rfl (lv_at hl 0 rfl) ?_
  refine vk_getf (v := .ref (g (30 + t0))) hx hb (hCs.1.1.1 t0 ht).2.2.1 hS hown (hg _ g_1398) (fun _ h9 => h9) d_JS_charAt_8 ?_
  refine lv_iload_n hx hb d_JS_charAt_11 rfl (lv_at hl 1 rfl) ?_
  obtain ⟨v_3, e_4, hd⟩ := bind_s hd
  refine callSI (ws' := ([] : va_W)) (rest := []) (As := [.ref (g (30 + t0)), .int x1]) hx hb hml hown hg hK hP hD hS hA hCs hl.1 (c_JL_charAt l D g  t0 x1 _ e_4) o_JL_charAt g_477 [] segC0 rfl rfl segP0 rfl rfl (Nat.le_of_ble_eq_true rfl) ⟨rfl, rfl, Nat.le_of_ble_eq_true rfl, Nat.le_of_ble_eq_true rfl⟩ d_JS_charAt_12 (fun H locs hP hD hS => ?_)
  obtain rfl := Option.some.inj hd
  exact retY hx hb hr hlk hK hP hD hS d_JS_charAt_15 rfl (nz_JL_charAt e_4)
theorem lt_JS_charAt {t0 : Nat} {x1 : Int32} {v : Int32} (h : d_JS_charAt t0 x1 = some v) : t0 < 10 := by
  unfold d_JS_charAt at h
  exact (ite_s h).1
def y_JL_canEncode : MethodName := ⟨"java/lang/StringLatin1", "canEncode", "(I)Z"⟩
abbrev b_JL_canEncode : ByteArray := prog_18_method_4_code
-- java/lang/StringLatin1.canEncode(I)Z
def d_JL_canEncode (x0 : Int32) : Option (Int32) :=
  if x0 < 0 then (some (0)) else (if 255 < x0 then (some (0)) else (some (1)))
theorem d_JL_canEncode_0 : decode b_JL_canEncode 0 = .ok (.iload_n 0, 1) := by decide +kernel
theorem d_JL_canEncode_1 : decode b_JL_canEncode 1 = .ok (.ifCond .lt 14, 3) := by decide +kernel
theorem d_JL_canEncode_4 : decode b_JL_canEncode 4 = .ok (.iload_n 0, 1) := by decide +kernel
theorem d_JL_canEncode_5 : decode b_JL_canEncode 5 = .ok (.sipush 255, 3) := by decide +kernel
theorem d_JL_canEncode_8 : decode b_JL_canEncode 8 = .ok (.if_icmp .gt 7, 3) := by decide +kernel
theorem d_JL_canEncode_11 : decode b_JL_canEncode 11 = .ok (.iconst 1, 1) := by decide +kernel
theorem d_JL_canEncode_12 : decode b_JL_canEncode 12 = .ok (.goto 4, 3) := by decide +kernel
theorem d_JL_canEncode_15 : decode b_JL_canEncode 15 = .ok (.iconst 0, 1) := by decide +kernel
theorem d_JL_canEncode_16 : decode b_JL_canEncode 16 = .ok (.ireturn, 1) := by decide +kernel
theorem o_JL_canEncode : OkS y_JL_canEncode b_JL_canEncode 1 (some .boolean) 1 := ⟨⟨by decide +kernel, by decide +kernel, by decide +kernel⟩, g_556, g_84, g_557⟩
set_option maxHeartbeats 4000000 in
set_option maxRecDepth 100000 in
theorem c_JL_canEncode (l : Launch) (D : va_G) (g : Nat → ClassId) (x0 : Int32) (v : Int32) (h : d_JL_canEncode x0 = some v) :
    MI l y_JL_canEncode b_JL_canEncode 1 .boolean ({ frames := 0, cells := 0, slots := 0, locals := 0 } : Room) D g [.int x0] (([] : va_W)) (v) (([] : va_W)) := by
  have hd := h
  unfold d_JL_canEncode at hd
  refine enterI rfl (Nat.le_of_ble_eq_true rfl) (fun p e s m below meth c A ls hx hb hml hr hown hg hlk hK hA hP hD hS hCs hl => ?_)
  have hown : s.vm.findClass "java/lang/StringLatin1" = some m.cls := hown
  have hl : lv_has ls 1 [(0, .int x0)] := hl
  show GI p l e s m ({ frames := 0, cells := 0, slots := 0, locals := 0 } : Room) ([.int x0] : List Value).toArray below meth c A D g (([] : va_W)) (v) s.heap [] (F0 m 0 ls [])
  refine lv_iload_n hx hb d_JL_canEncode_0 rfl (lv_at hl 0 rfl) ?_
  refine lv_if_lt (tgt := 15) hx hb d_JL_canEncode_1 (by decide) (fun h_1 => ?_) (fun h_1 => ?_)
  · have hd := ite_t hd h_1
    refine lv_iconst (v := 0) hx hb d_JL_canEncode_15 (by decide) ?_
    obtain rfl := Option.some.inj hd
    exact retZ hx hb hr hlk hK hP hD hS d_JL_canEncode_16 rfl (by decide +kernel)
  · have hd := ite_f hd h_1
    refine lv_iload_n hx hb d_JL_canEncode_4 rfl (lv_at hl 0 rfl) ?_
    refine lv_sipush (v := 255) hx hb d_JL_canEncode_5 (by decide) ?_
    refine lv_icmp_gt (tgt := 15) hx hb d_JL_canEncode_8 (by decide) (fun h_2 => ?_) (fun h_2 => ?_)
    · have hd := ite_t hd h_2
      refine lv_iconst (v := 0) hx hb d_JL_canEncode_15 (by decide) ?_
      obtain rfl := Option.some.inj hd
      exact retZ hx hb hr hlk hK hP hD hS d_JL_canEncode_16 rfl (by decide +kernel)
    · have hd := ite_f hd h_2
      refine lv_iconst (v := 1) hx hb d_JL_canEncode_11 (by decide) ?_
      refine lv_goto (tgt := 16) hx hb d_JL_canEncode_12 (by decide) ?_
      obtain rfl := Option.some.inj hd
      exact retZ hx hb hr hlk hK hP hD hS d_JL_canEncode_16 rfl (by decide +kernel)
def y_JL_indexOfChar : MethodName := ⟨"java/lang/StringLatin1", "indexOfChar", "([BIII)I"⟩
abbrev b_JL_indexOfChar : ByteArray := prog_18_method_23_code
-- java/lang/StringLatin1.indexOfChar([BIII)I
def B_JL_indexOfChar_L7 (t0 : Nat) (x3_f7 : Int32) (x4_f7 : Int32) (self7 : Int32 → Option (Int32)) (x5_7 : Int32) : Option (Int32) :=
  if x3_f7 ≤ x5_7 then (some ((-1))) else (if inb x5_7 (lenC.getD t0 0) = true then (if ((bytC.getD t0 []).getD x5_7.toNatClampNeg 0) = x4_f7 then (some (x5_7)) else (self7 (x5_7 + 1))) else none)
def d_JL_indexOfChar_L7 (t0 : Nat) (x3_f7 : Int32) (x4_f7 : Int32) (n : Nat) : Int32 → Option (Int32) := recN (fun _ => none) (fun self => B_JL_indexOfChar_L7 t0 x3_f7 x4_f7 self) n
def d_JL_indexOfChar (t0 : Nat) (x1 : Int32) (x2 : Int32) (x3 : Int32) : Option (Int32) :=
  if t0 < 10 then (d_JL_indexOfChar_L7 t0 x3 ((x1 : Int32).toInt8.toInt32)  1000 x2) else none
theorem d_JL_indexOfChar_0 : decode b_JL_indexOfChar 0 = .ok (.iload_n 1, 1) := by decide +kernel
theorem d_JL_indexOfChar_1 : decode b_JL_indexOfChar 1 = .ok (.i2b, 1) := by decide +kernel
theorem d_JL_indexOfChar_2 : decode b_JL_indexOfChar 2 = .ok (.istore 4, 2) := by decide +kernel
theorem d_JL_indexOfChar_4 : decode b_JL_indexOfChar 4 = .ok (.iload_n 2, 1) := by decide +kernel
theorem d_JL_indexOfChar_5 : decode b_JL_indexOfChar 5 = .ok (.istore 5, 2) := by decide +kernel
theorem d_JL_indexOfChar_7 : decode b_JL_indexOfChar 7 = .ok (.iload 5, 2) := by decide +kernel
theorem d_JL_indexOfChar_9 : decode b_JL_indexOfChar 9 = .ok (.iload_n 3, 1) := by decide +kernel
theorem d_JL_indexOfChar_10 : decode b_JL_indexOfChar 10 = .ok (.if_icmp .ge 21, 3) := by decide +kernel
theorem d_JL_indexOfChar_13 : decode b_JL_indexOfChar 13 = .ok (.aload_n 0, 1) := by decide +kernel
theorem d_JL_indexOfChar_14 : decode b_JL_indexOfChar 14 = .ok (.iload 5, 2) := by decide +kernel
theorem d_JL_indexOfChar_16 : decode b_JL_indexOfChar 16 = .ok (.baload, 1) := by decide +kernel
theorem d_JL_indexOfChar_17 : decode b_JL_indexOfChar 17 = .ok (.iload 4, 2) := by decide +kernel
theorem d_JL_indexOfChar_19 : decode b_JL_indexOfChar 19 = .ok (.if_icmp .ne 6, 3) := by decide +kernel
theorem d_JL_indexOfChar_22 : decode b_JL_indexOfChar 22 = .ok (.iload 5, 2) := by decide +kernel
theorem d_JL_indexOfChar_24 : decode b_JL_indexOfChar 24 = .ok (.ireturn, 1) := by decide +kernel
theorem d_JL_indexOfChar_25 : decode b_JL_indexOfChar 25 = .ok (.iinc 5 1, 3) := by decide +kernel
theorem d_JL_indexOfChar_28 : decode b_JL_indexOfChar 28 = .ok (.goto (-21), 3) := by decide +kernel
theorem d_JL_indexOfChar_31 : decode b_JL_indexOfChar 31 = .ok (.iconst (-1), 1) := by decide +kernel
theorem d_JL_indexOfChar_32 : decode b_JL_indexOfChar 32 = .ok (.ireturn, 1) := by decide +kernel
theorem o_JL_indexOfChar : OkS y_JL_indexOfChar b_JL_indexOfChar 6 (some .int) 4 := ⟨⟨by decide +kernel, by decide +kernel, by decide +kernel⟩, g_563, g_84, g_564⟩
set_option maxHeartbeats 4000000 in
set_option maxRecDepth 100000 in
theorem c_JL_indexOfChar (l : Launch) (D : va_G) (g : Nat → ClassId) (t0 : Nat) (x1 : Int32) (x2 : Int32) (x3 : Int32) (v : Int32) (h : d_JL_indexOfChar t0 x1 x2 x3 = some v) :
    MI l y_JL_indexOfChar b_JL_indexOfChar 6 .int ({ frames := 0, cells := 0, slots := 0, locals := 0 } : Room) D g [.ref (g (30 + t0)), .int x1, .int x2, .int x3] (([] : va_W)) (v) (([] : va_W)) := by
  have hd := h
  unfold d_JL_indexOfChar at hd
  refine enterI rfl (Nat.le_of_ble_eq_true rfl) (fun p e s m below meth c A ls hx hb hml hr hown hg hlk hK hA hP hD hS hCs hl => ?_)
  have hown : s.vm.findClass "java/lang/StringLatin1" = some m.cls := hown
  have hl : lv_has ls 6 [(0, .ref (g (30 + t0))), (1, .int x1), (2, .int x2), (3, .int x3)] := hl
  show GI p l e s m ({ frames := 0, cells := 0, slots := 0, locals := 0 } : Room) ([.ref (g (30 + t0)), .int x1, .int x2, .int x3] : List Value).toArray below meth c A D g (([] : va_W)) (v) s.heap [] (F0 m 0 ls [])
  obtain ⟨ht, hd⟩ := ite_s hd
  refine lv_iload_n hx hb d_JL_indexOfChar_0 rfl (lv_at hl 1 rfl) ?_
  refine lv_i2b hx hb d_JL_indexOfChar_1 rfl ?_
  refine lv_istore (lv' := [(4, .int ((x1 : Int32).toInt8.toInt32)), (0, .ref (g (30 + t0))), (1, .int x1), (2, .int x2), (3, .int x3)]) hx hb d_JL_indexOfChar_2 hl (by decide) rfl (fun ls hl => ?_)
  refine lv_iload_n hx hb d_JL_indexOfChar_4 rfl (lv_at hl 3 rfl) ?_
  refine lv_istore (lv' := [(5, .int x2), (4, .int ((x1 : Int32).toInt8.toInt32)), (0, .ref (g (30 + t0))), (1, .int x1), (2, .int x2), (3, .int x3)]) hx hb d_JL_indexOfChar_5 hl (by decide) rfl (fun ls hl => ?_)
  have lp7 : ∀ (x3_f7 : Int32) (x4_f7 : Int32) (n : Nat) (x5_7 : Int32) (H : Heap) (locs : List Loc) (ls : Array Slot), va_P D classes (([] : va_W)) H → va_D A (([] : va_W)) → va_S A s.heap H locs → lv_has ls 6 [(0, .ref (g (30 + t0))), (3, .int x3_f7), (4, .int x4_f7), (5, .int x5_7)] → d_JL_indexOfChar_L7 t0 x3_f7 x4_f7 n x5_7 = some v → GI p l e s m ({ frames := 0, cells := 0, slots := 0, locals := 0 } : Room) ([.ref (g (30 + t0)), .int x1, .int x2, .int x3] : List Value).toArray below meth c A D g (([] : va_W)) (v) H locs (F0 m 7 ls []) := by
    intro x3_f7 x4_f7 n
    induction n with
    | zero =>
      intro  x5_7 H locs ls hP hD hS hl hd
      have hd : none = some v := hd
      cases hd
    | succ n ih7 =>
      intro  x5_7 H locs ls hP hD hS hl hd
      have hd : B_JL_indexOfChar_L7 t0 x3_f7 x4_f7 (d_JL_indexOfChar_L7 t0 x3_f7 x4_f7 n) x5_7 = some v := hd
      generalize d_JL_indexOfChar_L7 t0 x3_f7 x4_f7 n = self7 at ih7 hd
      unfold B_JL_indexOfChar_L7 at hd
      refine lv_iload hx hb d_JL_indexOfChar_7 (lv_at hl 3 rfl) ?_
      refine lv_iload_n hx hb d_JL_indexOfChar_9 rfl (lv_at hl 1 rfl) ?_
      refine lv_icmp_ge (tgt := 31) hx hb d_JL_indexOfChar_10 (by decide) (fun h_1 => ?_) (fun h_1 => ?_)
      · have hd := ite_t hd h_1
        refine lv_iconst (v := (-1)) hx hb d_JL_indexOfChar_31 (by decide) ?_
        obtain rfl := Option.some.inj hd
        exact retI hx hb hr hlk hK hP hD hS d_JL_indexOfChar_32 rfl
      · have hd := ite_f hd h_1
        refine lv_aload_n hx hb d_JL_indexOfChar_13 rfl (lv_at hl 0 rfl) ?_
        refine lv_iload hx hb d_JL_indexOfChar_14 (lv_at hl 3 rfl) ?_
        obtain ⟨h_2, hd⟩ := ite_s hd
        refine va_tb (v := .int ((bytC.getD t0 []).getD x5_7.toNatClampNeg 0)) hx hb (hCs.1.1.1 t0 ht).2.2.2 hS (inb_t h_2) rfl d_JL_indexOfChar_16 ?_
        refine lv_iload hx hb d_JL_indexOfChar_17 (lv_at hl 2 rfl) ?_
        refine lv_icmp_ne (tgt := 25) hx hb d_JL_indexOfChar_19 (by decide) (fun h_3 => ?_) (fun h_3 => ?_)
        · have hd := ite_f hd h_3
          refine lv_iinc (v := x5_7 + 1) (lv' := [(5, .int (x5_7 + 1)), (0, .ref (g (30 + t0))), (3, .int x3_f7), (4, .int x4_f7)]) hx hb d_JL_indexOfChar_25 hl (k := 3) rfl (by rfl) (by decide) rfl (fun ls hl => ?_)
          refine lv_goto (tgt := 7) hx hb d_JL_indexOfChar_28 (by decide) ?_
          exact ih7 (x5_7 + 1) _ _ _ hP hD hS (lv_sub hl [1, 2, 3, 0] rfl) hd
        · have hd := ite_t hd h_3
          refine lv_iload hx hb d_JL_indexOfChar_22 (lv_at hl 3 rfl) ?_
          obtain rfl := Option.some.inj hd
          exact retI hx hb hr hlk hK hP hD hS d_JL_indexOfChar_24 rfl
  exact lp7 x3 ((x1 : Int32).toInt8.toInt32) 1000 x2 _ _ _ hP hD hS (lv_sub hl [2, 5, 1, 0] rfl) hd
def y_JL_indexOf : MethodName := ⟨"java/lang/StringLatin1", "indexOf", "([BIII)I"⟩
abbrev b_JL_indexOf : ByteArray := prog_18_method_22_code
-- java/lang/StringLatin1.indexOf([BIII)I
def d_JL_indexOf (t0 : Nat) (x1 : Int32) (x2 : Int32) (x3 : Int32) : Option (Int32) :=
  if t0 < 10 then ((d_JL_canEncode x1).bind fun v_1 => if v_1 = 0 then (some ((-1))) else (if (if x2 < 0 then 0 else x2) < (if (nI (lenC.getD t0 0)) < x3 then (nI (lenC.getD t0 0)) else x3) then ((d_JL_indexOfChar t0 x1 (if x2 < 0 then 0 else x2) (if (nI (lenC.getD t0 0)) < x3 then (nI (lenC.getD t0 0)) else x3)).bind fun v_5 => some (v_5)) else (some ((-1))))) else none
theorem d_JL_indexOf_0 : decode b_JL_indexOf 0 = .ok (.iload_n 1, 1) := by decide +kernel
theorem d_JL_indexOf_1 : decode b_JL_indexOf 1 = .ok (.invokestatic 88, 3) := by decide +kernel
theorem d_JL_indexOf_4 : decode b_JL_indexOf 4 = .ok (.ifCond .ne 5, 3) := by decide +kernel
theorem d_JL_indexOf_7 : decode b_JL_indexOf 7 = .ok (.iconst (-1), 1) := by decide +kernel
theorem d_JL_indexOf_8 : decode b_JL_indexOf 8 = .ok (.ireturn, 1) := by decide +kernel
theorem d_JL_indexOf_9 : decode b_JL_indexOf 9 = .ok (.iload_n 2, 1) := by decide +kernel
theorem d_JL_indexOf_10 : decode b_JL_indexOf 10 = .ok (.iconst 0, 1) := by decide +kernel
theorem d_JL_indexOf_11 : decode b_JL_indexOf 11 = .ok (.invokestatic 92, 3) := by decide +kernel
theorem d_JL_indexOf_14 : decode b_JL_indexOf 14 = .ok (.istore_n 2, 1) := by decide +kernel
theorem d_JL_indexOf_15 : decode b_JL_indexOf 15 = .ok (.iload_n 3, 1) := by decide +kernel
theorem d_JL_indexOf_16 : decode b_JL_indexOf 16 = .ok (.aload_n 0, 1) := by decide +kernel
theorem d_JL_indexOf_17 : decode b_JL_indexOf 17 = .ok (.arraylength, 1) := by decide +kernel
theorem d_JL_indexOf_18 : decode b_JL_indexOf 18 = .ok (.invokestatic 38, 3) := by decide +kernel
theorem d_JL_indexOf_21 : decode b_JL_indexOf 21 = .ok (.istore_n 3, 1) := by decide +kernel
theorem d_JL_indexOf_22 : decode b_JL_indexOf 22 = .ok (.iload_n 2, 1) := by decide +kernel
theorem d_JL_indexOf_23 : decode b_JL_indexOf 23 = .ok (.iload_n 3, 1) := by decide +kernel
theorem d_JL_indexOf_24 : decode b_JL_indexOf 24 = .ok (.if_icmp .lt 5, 3) := by decide +kernel
theorem d_JL_indexOf_27 : decode b_JL_indexOf 27 = .ok (.iconst (-1), 1) := by decide +kernel
theorem d_JL_indexOf_28 : decode b_JL_indexOf 28 = .ok (.ireturn, 1) := by decide +kernel
theorem d_JL_indexOf_29 : decode b_JL_indexOf 29 = .ok (.aload_n 0, 1) := by decide +kernel
theorem d_JL_indexOf_30 : decode b_JL_indexOf 30 = .ok (.iload_n 1, 1) := by decide +kernel
theorem d_JL_indexOf_31 : decode b_JL_indexOf 31 = .ok (.iload_n 2, 1) := by decide +kernel
theorem d_JL_indexOf_32 : decode b_JL_indexOf 32 = .ok (.iload_n 3, 1) := by decide +kernel
theorem d_JL_indexOf_33 : decode b_JL_indexOf 33 = .ok (.invokestatic 95, 3) := by decide +kernel
theorem d_JL_indexOf_36 : decode b_JL_indexOf 36 = .ok (.ireturn, 1) := by decide +kernel
theorem o_JL_indexOf : OkS y_JL_indexOf b_JL_indexOf 4 (some .int) 4 := ⟨⟨by decide +kernel, by decide +kernel, by decide +kernel⟩, g_553, g_84, g_554⟩
set_option maxHeartbeats 4000000 in
set_option maxRecDepth 100000 in
theorem c_JL_indexOf (l : Launch) (D : va_G) (g : Nat → ClassId) (t0 : Nat) (x1 : Int32) (x2 : Int32) (x3 : Int32) (v : Int32) (h : d_JL_indexOf t0 x1 x2 x3 = some v) :
    MI l y_JL_indexOf b_JL_indexOf 4 .int ({ frames := 1, cells := 0, slots := 0, locals := 25 } : Room) D g [.ref (g (30 + t0)), .int x1, .int x2, .int x3] (([] : va_W)) (v) (([] : va_W)) := by
  have hd := h
  unfold d_JL_indexOf at hd
  refine enterI rfl (Nat.le_of_ble_eq_true rfl) (fun p e s m below meth c A ls hx hb hml hr hown hg hlk hK hA hP hD hS hCs hl => ?_)
  have hown : s.vm.findClass "java/lang/StringLatin1" = some m.cls := hown
  have hl : lv_has ls 4 [(0, .ref (g (30 + t0))), (1, .int x1), (2, .int x2), (3, .int x3)] := hl
  show GI p l e s m ({ frames := 1, cells := 0, slots := 0, locals := 25 } : Room) ([.ref (g (30 + t0)), .int x1, .int x2, .int x3] : List Value).toArray below meth c A D g (([] : va_W)) (v) s.heap [] (F0 m 0 ls [])
  obtain ⟨ht, hd⟩ := ite_s hd
  refine lv_iload_n hx hb d_JL_indexOf_0 rfl (lv_at hl 1 rfl) ?_
  obtain ⟨v_1, e_2, hd⟩ := bind_s hd
  refine callSI (ws' := ([] : va_W)) (rest := []) (As := [.int x1]) hx hb hml hown hg hK hP hD hS hA hCs hl.1 (c_JL_canEncode l D g  x1 _ e_2) o_JL_canEncode g_555 [] segC0 rfl rfl segP0 rfl rfl (Nat.le_of_ble_eq_true rfl) ⟨rfl, rfl, Nat.le_of_ble_eq_true rfl, Nat.le_of_ble_eq_true rfl⟩ d_JL_indexOf_1 (fun H locs hP hD hS => ?_)
  refine lv_if_ne (tgt := 9) hx hb d_JL_indexOf_4 (by decide) (fun h_3 => ?_) (fun h_3 => ?_)
  · have hd := ite_f hd h_3
    refine lv_iload_n hx hb d_JL_indexOf_9 rfl (lv_at hl 2 rfl) ?_
    refine lv_iconst (v := 0) hx hb d_JL_indexOf_10 (by decide) ?_
    refine va_mmax hx hb (hml.trans hl.1.symm) hown (hg _ g_558) (hg _ k_max_s) (hg _ k_math_i) (hg _ k_max_c) (Nat.le_of_ble_eq_true rfl) (Nat.le_of_ble_eq_true rfl) (Nat.zero_le _) (Nat.zero_le _) d_JL_indexOf_11 ?_
    refine lv_istore_n (lv' := [(2, .int (if x2 < 0 then 0 else x2)), (0, .ref (g (30 + t0))), (1, .int x1), (3, .int x3)]) hx hb d_JL_indexOf_14 rfl hl (by decide) rfl (fun ls hl => ?_)
    refine lv_iload_n hx hb d_JL_indexOf_15 rfl (lv_at hl 3 rfl) ?_
    refine lv_aload_n hx hb d_JL_indexOf_16 rfl (lv_at hl 1 rfl) ?_
    refine va_tlen (v := nI (lenC.getD t0 0)) hx hb (hCs.1.1.1 t0 ht).2.2.2 hS rfl d_JL_indexOf_17 ?_
    refine va_mmin hx hb (hml.trans hl.1.symm) hown (hg _ g_559) (hg _ k_min_s) (hg _ k_math_i) (hg _ k_min_c) (Nat.le_of_ble_eq_true rfl) (Nat.le_of_ble_eq_true rfl) (Nat.zero_le _) (Nat.zero_le _) d_JL_indexOf_18 ?_
    refine lv_istore_n (lv' := [(3, .int (if (nI (lenC.getD t0 0)) < x3 then (nI (lenC.getD t0 0)) else x3)), (2, .int (if x2 < 0 then 0 else x2)), (0, .ref (g (30 + t0))), (1, .int x1)]) hx hb d_JL_indexOf_21 rfl hl (by decide) rfl (fun ls hl => ?_)
    refine lv_iload_n hx hb d_JL_indexOf_22 rfl (lv_at hl 1 rfl) ?_
    refine lv_iload_n hx hb d_JL_indexOf_23 rfl (lv_at hl 0 rfl) ?_
    refine lv_icmp_lt (tgt := 29) hx hb d_JL_indexOf_24 (by decide) (fun h_4 => ?_) (fun h_4 => ?_)
    · have hd := ite_t hd h_4
      refine lv_aload_n hx hb d_JL_indexOf_29 rfl (lv_at hl 2 rfl) ?_
      refine lv_iload_n hx hb d_JL_indexOf_30 rfl (lv_at hl 3 rfl) ?_
      refine lv_iload_n hx hb d_JL_indexOf_31 rfl (lv_at hl 1 rfl) ?_
      refine lv_iload_n hx hb d_JL_indexOf_32 rfl (lv_at hl 0 rfl) ?_
      obtain ⟨v_5, e_6, hd⟩ := bind_s hd
      refine callSI (ws' := ([] : va_W)) (rest := []) (As := [.ref (g (30 + t0)), .int x1, .int (if x2 < 0 then 0 else x2), .int (if (nI (lenC.getD t0 0)) < x3 then (nI (lenC.getD t0 0)) else x3)]) hx hb hml hown hg hK hP hD hS hA hCs hl.1 (c_JL_indexOfChar l D g  t0 x1 (if x2 < 0 then 0 else x2) (if (nI (lenC.getD t0 0)) < x3 then (nI (lenC.getD t0 0)) else x3) _ e_6) o_JL_indexOfChar g_562 [] segC0 rfl rfl segP0 rfl rfl (Nat.le_of_ble_eq_true rfl) ⟨rfl, rfl, Nat.le_of_ble_eq_true rfl, Nat.le_of_ble_eq_true rfl⟩ d_JL_indexOf_33 (fun H locs hP hD hS => ?_)
      obtain rfl := Option.some.inj hd
      exact retI hx hb hr hlk hK hP hD hS d_JL_indexOf_36 rfl
    · have hd := ite_f hd h_4
      refine lv_iconst (v := (-1)) hx hb d_JL_indexOf_27 (by decide) ?_
      obtain rfl := Option.some.inj hd
      exact retI hx hb hr hlk hK hP hD hS d_JL_indexOf_28 rfl
  · have hd := ite_t hd h_3
    refine lv_iconst (v := (-1)) hx hb d_JL_indexOf_7 (by decide) ?_
    obtain rfl := Option.some.inj hd
    exact retI hx hb hr hlk hK hP hD hS d_JL_indexOf_8 rfl
def y_JS_indexOf2 : MethodName := ⟨"java/lang/String", "indexOf", "(II)I"⟩
abbrev b_JS_indexOf2 : ByteArray := prog_17_method_80_code
-- java/lang/String.indexOf(II)I
def d_JS_indexOf2 (t0 : Nat) (x1 : Int32) (x2 : Int32) : Option (Int32) :=
  if t0 < 10 then ((d_JS_length t0).bind fun v_3 => (d_JL_indexOf t0 x1 x2 v_3).bind fun v_5 => some (v_5)) else none
theorem d_JS_indexOf2_0 : decode b_JS_indexOf2 0 = .ok (.aload_n 0, 1) := by decide +kernel
theorem d_JS_indexOf2_1 : decode b_JS_indexOf2 1 = .ok (.invokevirtual 492, 3) := by decide +kernel
theorem d_JS_indexOf2_4 : decode b_JS_indexOf2 4 = .ok (.ifCond .eq 19, 3) := by decide +kernel
theorem d_JS_indexOf2_7 : decode b_JS_indexOf2 7 = .ok (.aload_n 0, 1) := by decide +kernel
theorem d_JS_indexOf2_8 : decode b_JS_indexOf2 8 = .ok (.getfield 9, 3) := by decide +kernel
theorem d_JS_indexOf2_11 : decode b_JS_indexOf2 11 = .ok (.iload_n 1, 1) := by decide +kernel
theorem d_JS_indexOf2_12 : decode b_JS_indexOf2 12 = .ok (.iload_n 2, 1) := by decide +kernel
theorem d_JS_indexOf2_13 : decode b_JS_indexOf2 13 = .ok (.aload_n 0, 1) := by decide +kernel
theorem d_JS_indexOf2_14 : decode b_JS_indexOf2 14 = .ok (.invokevirtual 505, 3) := by decide +kernel
theorem d_JS_indexOf2_17 : decode b_JS_indexOf2 17 = .ok (.invokestatic 637, 3) := by decide +kernel
theorem d_JS_indexOf2_20 : decode b_JS_indexOf2 20 = .ok (.goto 16, 3) := by decide +kernel
theorem d_JS_indexOf2_23 : decode b_JS_indexOf2 23 = .ok (.aload_n 0, 1) := by decide +kernel
theorem d_JS_indexOf2_24 : decode b_JS_indexOf2 24 = .ok (.getfield 9, 3) := by decide +kernel
theorem d_JS_indexOf2_27 : decode b_JS_indexOf2 27 = .ok (.iload_n 1, 1) := by decide +kernel
theorem d_JS_indexOf2_28 : decode b_JS_indexOf2 28 = .ok (.iload_n 2, 1) := by decide +kernel
theorem d_JS_indexOf2_29 : decode b_JS_indexOf2 29 = .ok (.aload_n 0, 1) := by decide +kernel
theorem d_JS_indexOf2_30 : decode b_JS_indexOf2 30 = .ok (.invokevirtual 505, 3) := by decide +kernel
theorem d_JS_indexOf2_33 : decode b_JS_indexOf2 33 = .ok (.invokestatic 640, 3) := by decide +kernel
theorem d_JS_indexOf2_36 : decode b_JS_indexOf2 36 = .ok (.ireturn, 1) := by decide +kernel
theorem o_JS_indexOf2 : OkV y_JS_indexOf2 "java/lang/String" b_JS_indexOf2 3 (some .int) 2 := ⟨⟨rfl, by decide +kernel, by decide +kernel, by decide +kernel⟩, g_548, g_549, g_83, g_550⟩
set_option maxHeartbeats 4000000 in
set_option maxRecDepth 100000 in
theorem c_JS_indexOf2 (l : Launch) (D : va_G) (g : Nat → ClassId) (t0 : Nat) (x1 : Int32) (x2 : Int32) (v : Int32) (h : d_JS_indexOf2 t0 x1 x2 = some v) :
    MI l y_JS_indexOf2 b_JS_indexOf2 3 .int ({ frames := 2, cells := 0, slots := 0, locals := 48 } : Room) D g [.ref (g (10 + t0)), .int x1, .int x2] (([] : va_W)) (v) (([] : va_W)) := by
  have hd := h
  unfold d_JS_indexOf2 at hd
  refine enterI rfl (Nat.le_of_ble_eq_true rfl) (fun p e s m below meth c A ls hx hb hml hr hown hg hlk hK hA hP hD hS hCs hl => ?_)
  have hown : s.vm.findClass "java/lang/String" = some m.cls := hown
  have hl : lv_has ls 3 [(0, .ref (g (10 + t0))), (1, .int x1), (2, .int x2)] := hl
  show GI p l e s m ({ frames := 2, cells := 0, slots := 0, locals := 48 } : Room) ([.ref (g (10 + t0)), .int x1, .int x2] : List Value).toArray below meth c A D g (([] : va_W)) (v) s.heap [] (F0 m 0 ls [])
  obtain ⟨ht, hd⟩ := ite_s hd
  refine lv_aload_n hx hb d_JS_indexOf2_0 rfl (lv_at hl 0 rfl) ?_
  refine callTI (ws' := ([] : va_W)) (rest := []) (As := []) hx hb hml hown hg hK hP hD hS hA hCs hl.1 (k_JS_isLatin1 l D g t0 ht) o_JS_isLatin1 g_473 (vk_recv (i := t0) hCs.1.1 ht hS) [] segC0 rfl rfl segP0 rfl rfl (Nat.le_of_ble_eq_true rfl) ⟨rfl, rfl, Nat.le_of_ble_eq_true rfl, Nat.le_of_ble_eq_true rfl⟩ d_JS_indexOf2_1 (fun H locs hP hD hS => ?_)
  refine lv_if_eq (tgt := 23) hx hb d_JS_indexOf2_4 (by decide) (fun h9 => absurd h9 (by decide)) (fun _ => ?_)
  refine lv_aload_n hx hb d_JS_indexOf2_7 rfl (lv_at hl 0 rfl) ?_
  refine vk_getf (v := .ref (g (30 + t0))) hx hb (hCs.1.1.1 t0 ht).2.2.1 hS hown (hg _ g_1398) (fun _ h9 => h9) d_JS_indexOf2_8 ?_
  refine lv_iload_n hx hb d_JS_indexOf2_11 rfl (lv_at hl 1 rfl) ?_
  refine lv_iload_n hx hb d_JS_indexOf2_12 rfl (lv_at hl 2 rfl) ?_
  refine lv_aload_n hx hb d_JS_indexOf2_13 rfl (lv_at hl 0 rfl) ?_
  obtain ⟨v_3, e_4, hd⟩ := bind_s hd
  refine callTI (ws' := ([] : va_W)) (rest := [.int x2, .int x1, .ref (g (30 + t0))]) (As := []) hx hb hml hown hg hK hP hD hS hA hCs hl.1 (c_JS_length l D g  t0 _ e_4) o_JS_length g_551 (vk_recv (i := t0) hCs.1.1 ht hS) [] segC0 rfl rfl segP0 rfl rfl (Nat.le_of_ble_eq_true rfl) ⟨rfl, rfl, Nat.le_of_ble_eq_true rfl, Nat.le_of_ble_eq_true rfl⟩ d_JS_indexOf2_14 (fun H locs hP hD hS => ?_)
  obtain ⟨v_5, e_6, hd⟩ := bind_s hd
  refine callSI (ws' := ([] : va_W)) (rest := []) (As := [.ref (g (30 + t0)), .int x1, .int x2, .int v_3]) hx hb hml hown hg hK hP hD hS hA hCs hl.1 (c_JL_indexOf l D g  t0 x1 x2 v_3 _ e_6) o_JL_indexOf g_552 [] segC0 rfl rfl segP0 rfl rfl (Nat.le_of_ble_eq_true rfl) ⟨rfl, rfl, Nat.le_of_ble_eq_true rfl, Nat.le_of_ble_eq_true rfl⟩ d_JS_indexOf2_17 (fun H locs hP hD hS => ?_)
  refine lv_goto (tgt := 36) hx hb d_JS_indexOf2_20 (by decide) ?_
  obtain rfl := Option.some.inj hd
  exact retI hx hb hr hlk hK hP hD hS d_JS_indexOf2_36 rfl
def y_JS_indexOf : MethodName := ⟨"java/lang/String", "indexOf", "(I)I"⟩
abbrev b_JS_indexOf : ByteArray := prog_17_method_79_code
-- java/lang/String.indexOf(I)I
def d_JS_indexOf (t0 : Nat) (x1 : Int32) : Option (Int32) :=
  if t0 < 10 then ((d_JS_indexOf2 t0 x1 0).bind fun v_1 => some (v_1)) else none
theorem d_JS_indexOf_0 : decode b_JS_indexOf 0 = .ok (.aload_n 0, 1) := by decide +kernel
theorem d_JS_indexOf_1 : decode b_JS_indexOf 1 = .ok (.iload_n 1, 1) := by decide +kernel
theorem d_JS_indexOf_2 : decode b_JS_indexOf 2 = .ok (.iconst 0, 1) := by decide +kernel
theorem d_JS_indexOf_3 : decode b_JS_indexOf 3 = .ok (.invokevirtual 633, 3) := by decide +kernel
theorem d_JS_indexOf_6 : decode b_JS_indexOf 6 = .ok (.ireturn, 1) := by decide +kernel
theorem o_JS_indexOf : OkV y_JS_indexOf "java/lang/String" b_JS_indexOf 2 (some .int) 1 := ⟨⟨rfl, by decide +kernel, by decide +kernel, by decide +kernel⟩, g_544, g_545, g_83, g_546⟩
set_option maxHeartbeats 4000000 in
set_option maxRecDepth 100000 in
theorem c_JS_indexOf (l : Launch) (D : va_G) (g : Nat → ClassId) (t0 : Nat) (x1 : Int32) (v : Int32) (h : d_JS_indexOf t0 x1 = some v) :
    MI l y_JS_indexOf b_JS_indexOf 2 .int ({ frames := 3, cells := 0, slots := 0, locals := 70 } : Room) D g [.ref (g (10 + t0)), .int x1] (([] : va_W)) (v) (([] : va_W)) := by
  have hd := h
  unfold d_JS_indexOf at hd
  refine enterI rfl (Nat.le_of_ble_eq_true rfl) (fun p e s m below meth c A ls hx hb hml hr hown hg hlk hK hA hP hD hS hCs hl => ?_)
  have hown : s.vm.findClass "java/lang/String" = some m.cls := hown
  have hl : lv_has ls 2 [(0, .ref (g (10 + t0))), (1, .int x1)] := hl
  show GI p l e s m ({ frames := 3, cells := 0, slots := 0, locals := 70 } : Room) ([.ref (g (10 + t0)), .int x1] : List Value).toArray below meth c A D g (([] : va_W)) (v) s.heap [] (F0 m 0 ls [])
  obtain ⟨ht, hd⟩ := ite_s hd
  refine lv_aload_n hx hb d_JS_indexOf_0 rfl (lv_at hl 0 rfl) ?_
  refine lv_iload_n hx hb d_JS_indexOf_1 rfl (lv_at hl 1 rfl) ?_
  refine lv_iconst (v := 0) hx hb d_JS_indexOf_2 (by decide) ?_
  obtain ⟨v_1, e_2, hd⟩ := bind_s hd
  refine callTI (ws' := ([] : va_W)) (rest := []) (As := [.int x1, .int 0]) hx hb hml hown hg hK hP hD hS hA hCs hl.1 (c_JS_indexOf2 l D g  t0 x1 0 _ e_2) o_JS_indexOf2 g_547 (vk_recv (i := t0) hCs.1.1 ht hS) [] segC0 rfl rfl segP0 rfl rfl (Nat.le_of_ble_eq_true rfl) ⟨rfl, rfl, Nat.le_of_ble_eq_true rfl, Nat.le_of_ble_eq_true rfl⟩ d_JS_indexOf_3 (fun H locs hP hD hS => ?_)
  obtain rfl := Option.some.inj hd
  exact retI hx hb hr hlk hK hP hD hS d_JS_indexOf_6 rfl
theorem lt_JS_indexOf {t0 : Nat} {x1 : Int32} {v : Int32} (h : d_JS_indexOf t0 x1 = some v) : t0 < 10 := by
  unfold d_JS_indexOf at h
  exact (ite_s h).1

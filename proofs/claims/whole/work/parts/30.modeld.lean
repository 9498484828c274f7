-- OwnsLiftModel.benches(I)I
def B_Mo_benches_L2 (x1_f2 : Int32) (self2 : Int32 → T_Mo → Option (Int32 × T_Mo)) (x2_2 : Int32) (z_2 : T_Mo) : Option (Int32 × T_Mo) :=
  (d_Mo_loadOf x1_f2 z_2).bind fun v_1 => if inb x1_f2 4 = true then (if v_1 ≤ ((q_Mo_lifts z_2) x1_f2.toNatClampNeg) then (some (x2_2, z_2)) else ((d_Mo_drops x1_f2 z_2).bind fun v_4 => (d_Mo_becomes x1_f2 v_4 z_2).bind fun v_6 => if inb (65 + v_4) 901 = true then (self2 (x2_2 + 1) (u_Mo_s z_2 (upd (q_Mo_s z_2) (65 + v_4).toNatClampNeg v_6))) else none)) else none
def d_Mo_benches_L2 (x1_f2 : Int32) (n : Nat) : Int32 → T_Mo → Option (Int32 × T_Mo) := recN (fun _ _ => none) (fun self => B_Mo_benches_L2 x1_f2 self) n
def d_Mo_benches (x1 : Int32) (z : T_Mo) : Option (Int32 × T_Mo) :=
  d_Mo_benches_L2 x1  1000 0 z
theorem d_Mo_benches_0 : decode b_Mo_benches 0 = .ok (.iconst 0, 1) := by decide +kernel
theorem d_Mo_benches_1 : decode b_Mo_benches 1 = .ok (.istore_n 2, 1) := by decide +kernel
theorem d_Mo_benches_2 : decode b_Mo_benches 2 = .ok (.aload_n 0, 1) := by decide +kernel
theorem d_Mo_benches_3 : decode b_Mo_benches 3 = .ok (.iload_n 1, 1) := by decide +kernel
theorem d_Mo_benches_4 : decode b_Mo_benches 4 = .ok (.invokevirtual 151, 3) := by decide +kernel
theorem d_Mo_benches_7 : decode b_Mo_benches 7 = .ok (.aload_n 0, 1) := by decide +kernel
theorem d_Mo_benches_8 : decode b_Mo_benches 8 = .ok (.getfield 31, 3) := by decide +kernel
theorem d_Mo_benches_11 : decode b_Mo_benches 11 = .ok (.iload_n 1, 1) := by decide +kernel
theorem d_Mo_benches_12 : decode b_Mo_benches 12 = .ok (.iaload, 1) := by decide +kernel
theorem d_Mo_benches_13 : decode b_Mo_benches 13 = .ok (.if_icmp .le 30, 3) := by decide +kernel
theorem d_Mo_benches_16 : decode b_Mo_benches 16 = .ok (.aload_n 0, 1) := by decide +kernel
theorem d_Mo_benches_17 : decode b_Mo_benches 17 = .ok (.iload_n 1, 1) := by decide +kernel
theorem d_Mo_benches_18 : decode b_Mo_benches 18 = .ok (.invokevirtual 172, 3) := by decide +kernel
theorem d_Mo_benches_21 : decode b_Mo_benches 21 = .ok (.istore_n 3, 1) := by decide +kernel
theorem d_Mo_benches_22 : decode b_Mo_benches 22 = .ok (.aload_n 0, 1) := by decide +kernel
theorem d_Mo_benches_23 : decode b_Mo_benches 23 = .ok (.getfield 9, 3) := by decide +kernel
theorem d_Mo_benches_26 : decode b_Mo_benches 26 = .ok (.bipush 65, 2) := by decide +kernel
theorem d_Mo_benches_28 : decode b_Mo_benches 28 = .ok (.iload_n 3, 1) := by decide +kernel
theorem d_Mo_benches_29 : decode b_Mo_benches 29 = .ok (.iadd, 1) := by decide +kernel
theorem d_Mo_benches_30 : decode b_Mo_benches 30 = .ok (.aload_n 0, 1) := by decide +kernel
theorem d_Mo_benches_31 : decode b_Mo_benches 31 = .ok (.iload_n 1, 1) := by decide +kernel
theorem d_Mo_benches_32 : decode b_Mo_benches 32 = .ok (.iload_n 3, 1) := by decide +kernel
theorem d_Mo_benches_33 : decode b_Mo_benches 33 = .ok (.invokevirtual 175, 3) := by decide +kernel
theorem d_Mo_benches_36 : decode b_Mo_benches 36 = .ok (.iastore, 1) := by decide +kernel
theorem d_Mo_benches_37 : decode b_Mo_benches 37 = .ok (.iinc 2 1, 3) := by decide +kernel
theorem d_Mo_benches_40 : decode b_Mo_benches 40 = .ok (.goto (-38), 3) := by decide +kernel
theorem d_Mo_benches_43 : decode b_Mo_benches 43 = .ok (.iload_n 2, 1) := by decide +kernel
theorem d_Mo_benches_44 : decode b_Mo_benches 44 = .ok (.ireturn, 1) := by decide +kernel
theorem o_Mo_benches : OkV y_Mo_benches "OwnsLiftModel" b_Mo_benches 4 (some .int) 1 := ⟨⟨rfl, by decide +kernel, by decide +kernel, by decide +kernel⟩, g_1224, g_48, g_81, g_1225⟩
set_option maxHeartbeats 4000000 in
set_option maxRecDepth 100000 in
theorem c_Mo_benches (l : Launch) (D : va_G) (g : Nat → ClassId) (a : Nat → Nat) (x1 : Int32) (z : T_Mo) (v : Int32 × T_Mo) (h : d_Mo_benches x1 z = some v) :
    MI l y_Mo_benches b_Mo_benches 4 .int ({ frames := 2, cells := 0, slots := 0, locals := 52 } : Room) D g [.ref (a 0), .int x1] (ws_Mo g a z) (v.1) (ws_Mo g a v.2) := by
  have hd := h
  unfold d_Mo_benches at hd
  refine enterI rfl (Nat.le_of_ble_eq_true rfl) (fun p e s m below meth c A ls hx hb hml hr hown hg hlk hK hA hP hD hS hCs hl => ?_)
  have hown : s.vm.findClass "OwnsLiftModel" = some m.cls := hown
  have hl : lv_has ls 4 [(0, .ref (a 0)), (1, .int x1)] := hl
  show GI p l e s m ({ frames := 2, cells := 0, slots := 0, locals := 52 } : Room) ([.ref (a 0), .int x1] : List Value).toArray below meth c A D g (ws_Mo g a v.2) (v.1) s.heap [] (F0 m 0 ls [])
  refine lv_iconst (v := 0) hx hb d_Mo_benches_0 (by decide) ?_
  refine lv_istore_n (lv' := [(2, .int 0), (0, .ref (a 0)), (1, .int x1)]) hx hb d_Mo_benches_1 rfl hl (by decide) rfl (fun ls hl => ?_)
  have lp2 : ∀ (x1_f2 : Int32) (n : Nat) (x2_2 : Int32) (z_2 : T_Mo) (H : Heap) (locs : List Loc) (ls : Array Slot), va_P D classes (ws_Mo g a z_2) H → va_D A (ws_Mo g a z_2) → va_S A s.heap H locs → lv_has ls 4 [(0, .ref (a 0)), (1, .int x1_f2), (2, .int x2_2)] → d_Mo_benches_L2 x1_f2 n x2_2 z_2 = some v → GI p l e s m ({ frames := 2, cells := 0, slots := 0, locals := 52 } : Room) ([.ref (a 0), .int x1] : List Value).toArray below meth c A D g (ws_Mo g a v.2) (v.1) H locs (F0 m 2 ls []) := by
    intro x1_f2 n
    induction n with
    | zero =>
      intro  x2_2 z_2 H locs ls hP hD hS hl hd
      have hd : none = some v := hd
      cases hd
    | succ n ih2 =>
      intro  x2_2 z_2 H locs ls hP hD hS hl hd
      have hd : B_Mo_benches_L2 x1_f2 (d_Mo_benches_L2 x1_f2 n) x2_2 z_2 = some v := hd
      generalize d_Mo_benches_L2 x1_f2 n = self2 at ih2 hd
      unfold B_Mo_benches_L2 at hd
      refine lv_aload_n hx hb d_Mo_benches_2 rfl (lv_at hl 0 rfl) ?_
      refine lv_iload_n hx hb d_Mo_benches_3 rfl (lv_at hl 1 rfl) ?_
      obtain ⟨v_1, e_2, hd⟩ := bind_s hd
      refine callVI (ws' := ws_Mo g a z_2) (rest := []) (As := [.int x1_f2]) hx hb hml hown hg hK hP hD hS hA hCs hl.1 (c_Mo_loadOf l D g a x1_f2 z_2 _ e_2) o_Mo_loadOf g_1163 (ci := 1) (q0 := 0) rfl rfl (List.range' 0 12) (segC1 rfl rfl) (by decide) rfl (segP1 rfl rfl) rfl rfl (Nat.le_of_ble_eq_true rfl) ⟨rfl, rfl, Nat.le_of_ble_eq_true rfl, Nat.le_of_ble_eq_true rfl⟩ d_Mo_benches_4 (fun H locs hP hD hS => ?_)
      refine lv_aload_n hx hb d_Mo_benches_7 rfl (lv_at hl 0 rfl) ?_
      refine va_get (D := D) (ci := 1) (v := .ref (a 7)) (C := R_Mo) (T := F_Mo) (N := 26) hx hb hg i_Mo hown hK hP 0 rfl rfl 13 (by decide) (hg _ g_1005) (fun _ h9 => h9) rfl d_Mo_benches_8 ?_
      refine lv_iload_n hx hb d_Mo_benches_11 rfl (lv_at hl 1 rfl) ?_
      obtain ⟨h_9, hd⟩ := ite_s hd
      refine ialdK hx hb hK hP 7 0 rfl rfl (inb_t h_9) rfl d_Mo_benches_12 ?_
      refine lv_icmp_le (tgt := 43) hx hb d_Mo_benches_13 (by decide) (fun h_3 => ?_) (fun h_3 => ?_)
      · have hd := ite_t hd h_3
        refine lv_iload_n hx hb d_Mo_benches_43 rfl (lv_at hl 2 rfl) ?_
        obtain rfl := Option.some.inj hd
        exact retI hx hb hr hlk hK hP hD hS d_Mo_benches_44 rfl
      · have hd := ite_f hd h_3
        refine lv_aload_n hx hb d_Mo_benches_16 rfl (lv_at hl 0 rfl) ?_
        refine lv_iload_n hx hb d_Mo_benches_17 rfl (lv_at hl 1 rfl) ?_
        obtain ⟨v_4, e_5, hd⟩ := bind_s hd
        refine callVI (ws' := ws_Mo g a z_2) (rest := []) (As := [.int x1_f2]) hx hb hml hown hg hK hP hD hS hA hCs hl.1 (c_Mo_drops l D g a x1_f2 z_2 _ e_5) o_Mo_drops g_1226 (ci := 1) (q0 := 0) rfl rfl (List.range' 0 12) (segC1 rfl rfl) (by decide) rfl (segP1 rfl rfl) rfl rfl (Nat.le_of_ble_eq_true rfl) ⟨rfl, rfl, Nat.le_of_ble_eq_true rfl, Nat.le_of_ble_eq_true rfl⟩ d_Mo_benches_18 (fun H locs hP hD hS => ?_)
        refine lv_istore_n (lv' := [(3, .int v_4), (0, .ref (a 0)), (1, .int x1_f2), (2, .int x2_2)]) hx hb d_Mo_benches_21 rfl hl (by decide) rfl (fun ls hl => ?_)
        refine lv_aload_n hx hb d_Mo_benches_22 rfl (lv_at hl 1 rfl) ?_
        refine va_get (D := D) (ci := 1) (v := .ref (a 1)) (C := R_Mo) (T := F_Mo) (N := 26) hx hb hg i_Mo hown hK hP 0 rfl rfl 1 (by decide) (hg _ g_993) (fun _ h9 => h9) rfl d_Mo_benches_23 ?_
        refine lv_bipush (v := 65) hx hb d_Mo_benches_26 (by decide) ?_
        refine lv_iload_n hx hb d_Mo_benches_28 rfl (lv_at hl 0 rfl) ?_
        refine lv_iadd hx hb d_Mo_benches_29 ?_
        refine lv_aload_n hx hb d_Mo_benches_30 rfl (lv_at hl 1 rfl) ?_
        refine lv_iload_n hx hb d_Mo_benches_31 rfl (lv_at hl 2 rfl) ?_
        refine lv_iload_n hx hb d_Mo_benches_32 rfl (lv_at hl 0 rfl) ?_
        obtain ⟨v_6, e_7, hd⟩ := bind_s hd
        refine callVI (ws' := ws_Mo g a z_2) (rest := [.int (65 + v_4), .ref (a 1)]) (As := [.int x1_f2, .int v_4]) hx hb hml hown hg hK hP hD hS hA hCs hl.1 (c_Mo_becomes l D g a x1_f2 v_4 z_2 _ e_7) o_Mo_becomes g_1238 (ci := 1) (q0 := 0) rfl rfl (List.range' 0 12) (segC1 rfl rfl) (by decide) rfl (segP1 rfl rfl) rfl rfl (Nat.le_of_ble_eq_true rfl) ⟨rfl, rfl, Nat.le_of_ble_eq_true rfl, Nat.le_of_ble_eq_true rfl⟩ d_Mo_benches_33 (fun H locs hP hD hS => ?_)
        obtain ⟨h_8, hd⟩ := ite_s hd
        refine iastK hx hb hK hP hD hS 1 0 rfl rfl (inb_t h_8) rfl d_Mo_benches_36 (fun H locs hP hD hS => ?_)
        have hP : va_P D classes (ws_Mo g a (u_Mo_s z_2 (upd (q_Mo_s z_2) (65 + v_4).toNatClampNeg v_6))) H := hP
        have hD : va_D A (ws_Mo g a (u_Mo_s z_2 (upd (q_Mo_s z_2) (65 + v_4).toNatClampNeg v_6))) := hD
        refine lv_iinc (v := x2_2 + 1) (lv' := [(2, .int (x2_2 + 1)), (3, .int v_4), (0, .ref (a 0)), (1, .int x1_f2)]) hx hb d_Mo_benches_37 hl (k := 3) rfl (by rfl) (by decide) rfl (fun ls hl => ?_)
        refine lv_goto (tgt := 2) hx hb d_Mo_benches_40 (by decide) ?_
        exact ih2 (x2_2 + 1) (u_Mo_s z_2 (upd (q_Mo_s z_2) (65 + v_4).toNatClampNeg v_6)) _ _ _ hP hD hS (lv_sub hl [2, 3, 0] rfl) hd
  exact lp2 x1 1000 0 z _ _ _ hP hD hS (lv_sub hl [1, 2, 0] rfl) hd
-- OwnsLiftModel.bench(I)I
def d_Mo_bench (x1 : Int32) (z : T_Mo) : Option (Int32 × T_Mo) :=
  (d_Mo_isPerson x1 z).bind fun v_1 => if v_1 = 0 then (some ((-1), z)) else ((d_Mo_looksForAll z).bind fun v_4 => (d_Mo_benches x1 v_4).bind fun v_6 => some (v_6.1, v_6.2))
theorem d_Mo_bench_0 : decode b_Mo_bench 0 = .ok (.aload_n 0, 1) := by decide +kernel
theorem d_Mo_bench_1 : decode b_Mo_bench 1 = .ok (.iload_n 1, 1) := by decide +kernel
theorem d_Mo_bench_2 : decode b_Mo_bench 2 = .ok (.invokevirtual 147, 3) := by decide +kernel
theorem d_Mo_bench_5 : decode b_Mo_bench 5 = .ok (.ifCond .ne 5, 3) := by decide +kernel
theorem d_Mo_bench_8 : decode b_Mo_bench 8 = .ok (.iconst (-1), 1) := by decide +kernel
theorem d_Mo_bench_9 : decode b_Mo_bench 9 = .ok (.ireturn, 1) := by decide +kernel
theorem d_Mo_bench_10 : decode b_Mo_bench 10 = .ok (.aload_n 0, 1) := by decide +kernel
theorem d_Mo_bench_11 : decode b_Mo_bench 11 = .ok (.invokevirtual 178, 3) := by decide +kernel
theorem d_Mo_bench_14 : decode b_Mo_bench 14 = .ok (.aload_n 0, 1) := by decide +kernel
theorem d_Mo_bench_15 : decode b_Mo_bench 15 = .ok (.iload_n 1, 1) := by decide +kernel
theorem d_Mo_bench_16 : decode b_Mo_bench 16 = .ok (.invokevirtual 181, 3) := by decide +kernel
theorem d_Mo_bench_19 : decode b_Mo_bench 19 = .ok (.ireturn, 1) := by decide +kernel
theorem o_Mo_bench : OkV y_Mo_bench "OwnsLiftModel" b_Mo_bench 2 (some .int) 1 := ⟨⟨rfl, by decide +kernel, by decide +kernel, by decide +kernel⟩, g_1215, g_1216, g_81, g_1217⟩
set_option maxHeartbeats 4000000 in
set_option maxRecDepth 100000 in
theorem c_Mo_bench (l : Launch) (D : va_G) (g : Nat → ClassId) (a : Nat → Nat) (x1 : Int32) (z : T_Mo) (v : Int32 × T_Mo) (h : d_Mo_bench x1 z = some v) :
    MI l y_Mo_bench b_Mo_bench 2 .int ({ frames := 4, cells := 0, slots := 0, locals := 97 } : Room) D g [.ref (a 0), .int x1] (ws_Mo g a z) (v.1) (ws_Mo g a v.2) := by
  have hd := h
  unfold d_Mo_bench at hd
  refine enterI rfl (Nat.le_of_ble_eq_true rfl) (fun p e s m below meth c A ls hx hb hml hr hown hg hlk hK hA hP hD hS hCs hl => ?_)
  have hown : s.vm.findClass "OwnsLiftModel" = some m.cls := hown
  have hl : lv_has ls 2 [(0, .ref (a 0)), (1, .int x1)] := hl
  show GI p l e s m ({ frames := 4, cells := 0, slots := 0, locals := 97 } : Room) ([.ref (a 0), .int x1] : List Value).toArray below meth c A D g (ws_Mo g a v.2) (v.1) s.heap [] (F0 m 0 ls [])
  refine lv_aload_n hx hb d_Mo_bench_0 rfl (lv_at hl 0 rfl) ?_
  refine lv_iload_n hx hb d_Mo_bench_1 rfl (lv_at hl 1 rfl) ?_
  obtain ⟨v_1, e_2, hd⟩ := bind_s hd
  refine callVI (ws' := ws_Mo g a z) (rest := []) (As := [.int x1]) hx hb hml hown hg hK hP hD hS hA hCs hl.1 (c_Mo_isPerson l D g a x1 z _ e_2) o_Mo_isPerson g_1147 (ci := 1) (q0 := 0) rfl rfl (List.range' 0 12) (segC1 rfl rfl) (by decide) rfl (segP1 rfl rfl) rfl rfl (Nat.le_of_ble_eq_true rfl) ⟨rfl, rfl, Nat.le_of_ble_eq_true rfl, Nat.le_of_ble_eq_true rfl⟩ d_Mo_bench_2 (fun H locs hP hD hS => ?_)
  refine lv_if_ne (tgt := 10) hx hb d_Mo_bench_5 (by decide) (fun h_3 => ?_) (fun h_3 => ?_)
  · have hd := ite_f hd h_3
    refine lv_aload_n hx hb d_Mo_bench_10 rfl (lv_at hl 0 rfl) ?_
    obtain ⟨v_4, e_5, hd⟩ := bind_s hd
    refine callVV (ws' := ws_Mo g a v_4) (rest := []) (As := []) hx hb hml hown hg hK hP hD hS hA hCs hl.1 (c_Mo_looksForAll l D g a z _ e_5) o_Mo_looksForAll g_1218 (ci := 1) (q0 := 0) rfl rfl (List.range' 0 12) (segC1 rfl rfl) (by decide) rfl (segP1 rfl rfl) rfl rfl (Nat.le_of_ble_eq_true rfl) ⟨rfl, rfl, Nat.le_of_ble_eq_true rfl, Nat.le_of_ble_eq_true rfl⟩ d_Mo_bench_11 (fun H locs hP hD hS => ?_)
    refine lv_aload_n hx hb d_Mo_bench_14 rfl (lv_at hl 0 rfl) ?_
    refine lv_iload_n hx hb d_Mo_bench_15 rfl (lv_at hl 1 rfl) ?_
    obtain ⟨v_6, e_7, hd⟩ := bind_s hd
    refine callVI (ws' := ws_Mo g a v_6.2) (rest := []) (As := [.int x1]) hx hb hml hown hg hK hP hD hS hA hCs hl.1 (c_Mo_benches l D g a x1 v_4 _ e_7) o_Mo_benches g_1222 (ci := 1) (q0 := 0) rfl rfl (List.range' 0 12) (segC1 rfl rfl) (by decide) rfl (segP1 rfl rfl) rfl rfl (Nat.le_of_ble_eq_true rfl) ⟨rfl, rfl, Nat.le_of_ble_eq_true rfl, Nat.le_of_ble_eq_true rfl⟩ d_Mo_bench_16 (fun H locs hP hD hS => ?_)
    obtain rfl := Option.some.inj hd
    exact retI hx hb hr hlk hK hP hD hS d_Mo_bench_19 rfl
  · have hd := ite_t hd h_3
    refine lv_iconst (v := (-1)) hx hb d_Mo_bench_8 (by decide) ?_
    obtain rfl := Option.some.inj hd
    exact retI hx hb hr hlk hK hP hD hS d_Mo_bench_9 rfl
-- OwnsLiftModel.year()I
def B_Mo_year_L28 (k28_75 : T_Mo → Option (Int32 × T_Mo)) (self28 : Int32 → T_Mo → Option (Int32 × T_Mo)) (x1_28 : Int32) (z_28 : T_Mo) : Option (Int32 × T_Mo) :=
  if ((q_Mo_s z_28) 0) ≤ x1_28 then (k28_75 z_28) else (if inb (22 + x1_28) 901 = true then (if inb (22 + x1_28) 901 = true then (if 99 ≤ ((q_Mo_s z_28) (22 + x1_28).toNatClampNeg) then (if inb (22 + x1_28) 901 = true then (self28 (x1_28 + 1) (u_Mo_s z_28 (upd (q_Mo_s z_28) (22 + x1_28).toNatClampNeg (((q_Mo_s z_28) (22 + x1_28).toNatClampNeg) + 0)))) else none) else (if inb (22 + x1_28) 901 = true then (self28 (x1_28 + 1) (u_Mo_s z_28 (upd (q_Mo_s z_28) (22 + x1_28).toNatClampNeg (((q_Mo_s z_28) (22 + x1_28).toNatClampNeg) + 1)))) else none)) else none) else none)
def d_Mo_year_L28 (k28_75 : T_Mo → Option (Int32 × T_Mo)) (n : Nat) : Int32 → T_Mo → Option (Int32 × T_Mo) := recN (fun _ _ => none) (fun self => B_Mo_year_L28 k28_75 self) n
def B_Mo_year_L77 (self77 : Int32 → T_Mo → Option (Int32 × T_Mo)) (x1_77 : Int32) (z_77 : T_Mo) : Option (Int32 × T_Mo) :=
  if ((q_Mo_s z_77) 1) ≤ x1_77 then (some ((q_Mo_s z_77) 6, z_77)) else (if inb (58 + x1_77) 901 = true then ((d_Mo_tells (-400) 99 x1_77 z_77).bind fun v_9 => if 0 ≤ (((q_Mo_s z_77) (58 + x1_77).toNatClampNeg) - v_9.1) then (if inb (58 + x1_77) 901 = true then (self77 (x1_77 + 1) (u_Mo_s v_9.2 (upd (q_Mo_s v_9.2) (58 + x1_77).toNatClampNeg (((q_Mo_s z_77) (58 + x1_77).toNatClampNeg) - v_9.1)))) else none) else (if inb (58 + x1_77) 901 = true then (self77 (x1_77 + 1) (u_Mo_s v_9.2 (upd (q_Mo_s v_9.2) (58 + x1_77).toNatClampNeg 0))) else none)) else none)
def d_Mo_year_L77 (n : Nat) : Int32 → T_Mo → Option (Int32 × T_Mo) := recN (fun _ _ => none) (fun self => B_Mo_year_L77 self) n
def d_Mo_year (z : T_Mo) : Option (Int32 × T_Mo) :=
  if ((q_Mo_s z) 6) = 99 then (some ((-3), z)) else (d_Mo_year_L28 (fun z_28 => d_Mo_year_L77  1000 0 z_28) 1000 0 (u_Mo_s z (upd (q_Mo_s z) 6 (((q_Mo_s z) 6) + 1))))
theorem d_Mo_year_0 : decode b_Mo_year 0 = .ok (.aload_n 0, 1) := by decide +kernel
theorem d_Mo_year_1 : decode b_Mo_year 1 = .ok (.getfield 9, 3) := by decide +kernel
theorem d_Mo_year_4 : decode b_Mo_year 4 = .ok (.bipush 6, 2) := by decide +kernel
theorem d_Mo_year_6 : decode b_Mo_year 6 = .ok (.iaload, 1) := by decide +kernel
theorem d_Mo_year_7 : decode b_Mo_year 7 = .ok (.bipush 99, 2) := by decide +kernel
theorem d_Mo_year_9 : decode b_Mo_year 9 = .ok (.if_icmp .ne 6, 3) := by decide +kernel
theorem d_Mo_year_12 : decode b_Mo_year 12 = .ok (.bipush (-3), 2) := by decide +kernel
theorem d_Mo_year_14 : decode b_Mo_year 14 = .ok (.ireturn, 1) := by decide +kernel
theorem d_Mo_year_15 : decode b_Mo_year 15 = .ok (.aload_n 0, 1) := by decide +kernel
theorem d_Mo_year_16 : decode b_Mo_year 16 = .ok (.getfield 9, 3) := by decide +kernel
theorem d_Mo_year_19 : decode b_Mo_year 19 = .ok (.bipush 6, 2) := by decide +kernel
theorem d_Mo_year_21 : decode b_Mo_year 21 = .ok (.dup2, 1) := by decide +kernel
theorem d_Mo_year_22 : decode b_Mo_year 22 = .ok (.iaload, 1) := by decide +kernel
theorem d_Mo_year_23 : decode b_Mo_year 23 = .ok (.iconst 1, 1) := by decide +kernel
theorem d_Mo_year_24 : decode b_Mo_year 24 = .ok (.iadd, 1) := by decide +kernel
theorem d_Mo_year_25 : decode b_Mo_year 25 = .ok (.iastore, 1) := by decide +kernel
theorem d_Mo_year_26 : decode b_Mo_year 26 = .ok (.iconst 0, 1) := by decide +kernel
theorem d_Mo_year_27 : decode b_Mo_year 27 = .ok (.istore_n 1, 1) := by decide +kernel
theorem d_Mo_year_28 : decode b_Mo_year 28 = .ok (.iload_n 1, 1) := by decide +kernel
theorem d_Mo_year_29 : decode b_Mo_year 29 = .ok (.aload_n 0, 1) := by decide +kernel
theorem d_Mo_year_30 : decode b_Mo_year 30 = .ok (.getfield 9, 3) := by decide +kernel
theorem d_Mo_year_33 : decode b_Mo_year 33 = .ok (.iconst 0, 1) := by decide +kernel
theorem d_Mo_year_34 : decode b_Mo_year 34 = .ok (.iaload, 1) := by decide +kernel
theorem d_Mo_year_35 : decode b_Mo_year 35 = .ok (.if_icmp .ge 40, 3) := by decide +kernel
theorem d_Mo_year_38 : decode b_Mo_year 38 = .ok (.aload_n 0, 1) := by decide +kernel
theorem d_Mo_year_39 : decode b_Mo_year 39 = .ok (.getfield 9, 3) := by decide +kernel
theorem d_Mo_year_42 : decode b_Mo_year 42 = .ok (.bipush 22, 2) := by decide +kernel
theorem d_Mo_year_44 : decode b_Mo_year 44 = .ok (.iload_n 1, 1) := by decide +kernel
theorem d_Mo_year_45 : decode b_Mo_year 45 = .ok (.iadd, 1) := by decide +kernel
theorem d_Mo_year_46 : decode b_Mo_year 46 = .ok (.dup2, 1) := by decide +kernel
theorem d_Mo_year_47 : decode b_Mo_year 47 = .ok (.iaload, 1) := by decide +kernel
theorem d_Mo_year_48 : decode b_Mo_year 48 = .ok (.aload_n 0, 1) := by decide +kernel
theorem d_Mo_year_49 : decode b_Mo_year 49 = .ok (.getfield 9, 3) := by decide +kernel
theorem d_Mo_year_52 : decode b_Mo_year 52 = .ok (.bipush 22, 2) := by decide +kernel
theorem d_Mo_year_54 : decode b_Mo_year 54 = .ok (.iload_n 1, 1) := by decide +kernel
theorem d_Mo_year_55 : decode b_Mo_year 55 = .ok (.iadd, 1) := by decide +kernel
theorem d_Mo_year_56 : decode b_Mo_year 56 = .ok (.iaload, 1) := by decide +kernel
theorem d_Mo_year_57 : decode b_Mo_year 57 = .ok (.bipush 99, 2) := by decide +kernel
theorem d_Mo_year_59 : decode b_Mo_year 59 = .ok (.if_icmp .ge 7, 3) := by decide +kernel
theorem d_Mo_year_62 : decode b_Mo_year 62 = .ok (.iconst 1, 1) := by decide +kernel
theorem d_Mo_year_63 : decode b_Mo_year 63 = .ok (.goto 4, 3) := by decide +kernel
theorem d_Mo_year_66 : decode b_Mo_year 66 = .ok (.iconst 0, 1) := by decide +kernel
theorem d_Mo_year_67 : decode b_Mo_year 67 = .ok (.iadd, 1) := by decide +kernel
theorem d_Mo_year_68 : decode b_Mo_year 68 = .ok (.iastore, 1) := by decide +kernel
theorem d_Mo_year_69 : decode b_Mo_year 69 = .ok (.iinc 1 1, 3) := by decide +kernel
theorem d_Mo_year_72 : decode b_Mo_year 72 = .ok (.goto (-44), 3) := by decide +kernel
theorem d_Mo_year_75 : decode b_Mo_year 75 = .ok (.iconst 0, 1) := by decide +kernel
theorem d_Mo_year_76 : decode b_Mo_year 76 = .ok (.istore_n 1, 1) := by decide +kernel
theorem d_Mo_year_77 : decode b_Mo_year 77 = .ok (.iload_n 1, 1) := by decide +kernel
theorem d_Mo_year_78 : decode b_Mo_year 78 = .ok (.aload_n 0, 1) := by decide +kernel
theorem d_Mo_year_79 : decode b_Mo_year 79 = .ok (.getfield 9, 3) := by decide +kernel
theorem d_Mo_year_82 : decode b_Mo_year 82 = .ok (.iconst 1, 1) := by decide +kernel
theorem d_Mo_year_83 : decode b_Mo_year 83 = .ok (.iaload, 1) := by decide +kernel
theorem d_Mo_year_84 : decode b_Mo_year 84 = .ok (.if_icmp .ge 48, 3) := by decide +kernel
theorem d_Mo_year_87 : decode b_Mo_year 87 = .ok (.aload_n 0, 1) := by decide +kernel
theorem d_Mo_year_88 : decode b_Mo_year 88 = .ok (.getfield 9, 3) := by decide +kernel
theorem d_Mo_year_91 : decode b_Mo_year 91 = .ok (.bipush 58, 2) := by decide +kernel
theorem d_Mo_year_93 : decode b_Mo_year 93 = .ok (.iload_n 1, 1) := by decide +kernel
theorem d_Mo_year_94 : decode b_Mo_year 94 = .ok (.iadd, 1) := by decide +kernel
theorem d_Mo_year_95 : decode b_Mo_year 95 = .ok (.iaload, 1) := by decide +kernel
theorem d_Mo_year_96 : decode b_Mo_year 96 = .ok (.aload_n 0, 1) := by decide +kernel
theorem d_Mo_year_97 : decode b_Mo_year 97 = .ok (.sipush (-400), 3) := by decide +kernel
theorem d_Mo_year_100 : decode b_Mo_year 100 = .ok (.bipush 99, 2) := by decide +kernel
theorem d_Mo_year_102 : decode b_Mo_year 102 = .ok (.iload_n 1, 1) := by decide +kernel
theorem d_Mo_year_103 : decode b_Mo_year 103 = .ok (.invokevirtual 136, 3) := by decide +kernel
theorem d_Mo_year_106 : decode b_Mo_year 106 = .ok (.isub, 1) := by decide +kernel
theorem d_Mo_year_107 : decode b_Mo_year 107 = .ok (.istore_n 2, 1) := by decide +kernel
theorem d_Mo_year_108 : decode b_Mo_year 108 = .ok (.aload_n 0, 1) := by decide +kernel
theorem d_Mo_year_109 : decode b_Mo_year 109 = .ok (.getfield 9, 3) := by decide +kernel
theorem d_Mo_year_112 : decode b_Mo_year 112 = .ok (.bipush 58, 2) := by decide +kernel
theorem d_Mo_year_114 : decode b_Mo_year 114 = .ok (.iload_n 1, 1) := by decide +kernel
theorem d_Mo_year_115 : decode b_Mo_year 115 = .ok (.iadd, 1) := by decide +kernel
theorem d_Mo_year_116 : decode b_Mo_year 116 = .ok (.iload_n 2, 1) := by decide +kernel
theorem d_Mo_year_117 : decode b_Mo_year 117 = .ok (.ifCond .ge 7, 3) := by decide +kernel
theorem d_Mo_year_120 : decode b_Mo_year 120 = .ok (.iconst 0, 1) := by decide +kernel
theorem d_Mo_year_121 : decode b_Mo_year 121 = .ok (.goto 4, 3) := by decide +kernel
theorem d_Mo_year_124 : decode b_Mo_year 124 = .ok (.iload_n 2, 1) := by decide +kernel
theorem d_Mo_year_125 : decode b_Mo_year 125 = .ok (.iastore, 1) := by decide +kernel
theorem d_Mo_year_126 : decode b_Mo_year 126 = .ok (.iinc 1 1, 3) := by decide +kernel
theorem d_Mo_year_129 : decode b_Mo_year 129 = .ok (.goto (-52), 3) := by decide +kernel
theorem d_Mo_year_132 : decode b_Mo_year 132 = .ok (.aload_n 0, 1) := by decide +kernel
theorem d_Mo_year_133 : decode b_Mo_year 133 = .ok (.getfield 9, 3) := by decide +kernel
theorem d_Mo_year_136 : decode b_Mo_year 136 = .ok (.bipush 6, 2) := by decide +kernel
theorem d_Mo_year_138 : decode b_Mo_year 138 = .ok (.iaload, 1) := by decide +kernel
theorem d_Mo_year_139 : decode b_Mo_year 139 = .ok (.ireturn, 1) := by decide +kernel
theorem o_Mo_year : OkV y_Mo_year "OwnsLiftModel" b_Mo_year 3 (some .int) 0 := ⟨⟨rfl, by decide +kernel, by decide +kernel, by decide +kernel⟩, g_1243, g_1244, g_81, g_1245⟩
set_option maxHeartbeats 4000000 in
set_option maxRecDepth 100000 in
theorem c_Mo_year (l : Launch) (D : va_G) (g : Nat → ClassId) (a : Nat → Nat) (z : T_Mo) (v : Int32 × T_Mo) (h : d_Mo_year z = some v) :
    MI l y_Mo_year b_Mo_year 3 .int ({ frames := 2, cells := 0, slots := 0, locals := 53 } : Room) D g [.ref (a 0)] (ws_Mo g a z) (v.1) (ws_Mo g a v.2) := by
  have hd := h
  unfold d_Mo_year at hd
  refine enterI rfl (Nat.le_of_ble_eq_true rfl) (fun p e s m below meth c A ls hx hb hml hr hown hg hlk hK hA hP hD hS hCs hl => ?_)
  have hown : s.vm.findClass "OwnsLiftModel" = some m.cls := hown
  have hl : lv_has ls 3 [(0, .ref (a 0))] := hl
  show GI p l e s m ({ frames := 2, cells := 0, slots := 0, locals := 53 } : Room) ([.ref (a 0)] : List Value).toArray below meth c A D g (ws_Mo g a v.2) (v.1) s.heap [] (F0 m 0 ls [])
  refine lv_aload_n hx hb d_Mo_year_0 rfl (lv_at hl 0 rfl) ?_
  refine va_get (D := D) (ci := 1) (v := .ref (a 1)) (C := R_Mo) (T := F_Mo) (N := 26) hx hb hg i_Mo hown hK hP 0 rfl rfl 1 (by decide) (hg _ g_993) (fun _ h9 => h9) rfl d_Mo_year_1 ?_
  refine lv_bipush (v := 6) hx hb d_Mo_year_4 (by decide) ?_
  refine ialdK hx hb hK hP 1 0 rfl rfl (inb_t (by decide +kernel)) (k := 6) (by decide +kernel) d_Mo_year_6 ?_
  refine lv_bipush (v := 99) hx hb d_Mo_year_7 (by decide) ?_
  refine lv_icmp_ne (tgt := 15) hx hb d_Mo_year_9 (by decide) (fun h_1 => ?_) (fun h_1 => ?_)
  · have hd := ite_f hd h_1
    refine lv_aload_n hx hb d_Mo_year_15 rfl (lv_at hl 0 rfl) ?_
    refine va_get (D := D) (ci := 1) (v := .ref (a 1)) (C := R_Mo) (T := F_Mo) (N := 26) hx hb hg i_Mo hown hK hP 0 rfl rfl 1 (by decide) (hg _ g_993) (fun _ h9 => h9) rfl d_Mo_year_16 ?_
    refine lv_bipush (v := 6) hx hb d_Mo_year_19 (by decide) ?_
    refine lv_dup2_11 hx hb d_Mo_year_21 rfl rfl ?_
    refine ialdK hx hb hK hP 1 0 rfl rfl (inb_t (by decide +kernel)) (k := 6) (by decide +kernel) d_Mo_year_22 ?_
    refine lv_iconst (v := 1) hx hb d_Mo_year_23 (by decide) ?_
    refine lv_iadd hx hb d_Mo_year_24 ?_
    refine iastK hx hb hK hP hD hS 1 0 rfl rfl (inb_t (by decide +kernel)) (k := 6) (by decide +kernel) d_Mo_year_25 (fun H locs hP hD hS => ?_)
    have hP : va_P D classes (ws_Mo g a (u_Mo_s z (upd (q_Mo_s z) 6 (((q_Mo_s z) 6) + 1)))) H := hP
    have hD : va_D A (ws_Mo g a (u_Mo_s z (upd (q_Mo_s z) 6 (((q_Mo_s z) 6) + 1)))) := hD
    refine lv_iconst (v := 0) hx hb d_Mo_year_26 (by decide) ?_
    refine lv_istore_n (lv' := [(1, .int 0), (0, .ref (a 0))]) hx hb d_Mo_year_27 rfl hl (by decide) rfl (fun ls hl => ?_)
    have ex28_75 : ∀ (z_28 : T_Mo) (H : Heap) (locs : List Loc) (ls : Array Slot), va_P D classes (ws_Mo g a z_28) H → va_D A (ws_Mo g a z_28) → va_S A s.heap H locs → lv_has ls 3 [(0, .ref (a 0))] → (d_Mo_year_L77  1000 0 z_28) = some v → GI p l e s m ({ frames := 2, cells := 0, slots := 0, locals := 53 } : Room) ([.ref (a 0)] : List Value).toArray below meth c A D g (ws_Mo g a v.2) (v.1) H locs (F0 m 75 ls []) := by
      intro z_28 H locs ls hP hD hS hl hd
      refine lv_iconst (v := 0) hx hb d_Mo_year_75 (by decide) ?_
      refine lv_istore_n (lv' := [(1, .int 0), (0, .ref (a 0))]) hx hb d_Mo_year_76 rfl hl (by decide) rfl (fun ls hl => ?_)
      have lp77 : ∀ (n : Nat) (x1_77 : Int32) (z_77 : T_Mo) (H : Heap) (locs : List Loc) (ls : Array Slot), va_P D classes (ws_Mo g a z_77) H → va_D A (ws_Mo g a z_77) → va_S A s.heap H locs → lv_has ls 3 [(0, .ref (a 0)), (1, .int x1_77)] → d_Mo_year_L77 n x1_77 z_77 = some v → GI p l e s m ({ frames := 2, cells := 0, slots := 0, locals := 53 } : Room) ([.ref (a 0)] : List Value).toArray below meth c A D g (ws_Mo g a v.2) (v.1) H locs (F0 m 77 ls []) := by
        intro n
        induction n with
        | zero =>
          intro  x1_77 z_77 H locs ls hP hD hS hl hd
          have hd : none = some v := hd
          cases hd
        | succ n ih77 =>
          intro  x1_77 z_77 H locs ls hP hD hS hl hd
          have hd : B_Mo_year_L77 (d_Mo_year_L77 n) x1_77 z_77 = some v := hd
          generalize d_Mo_year_L77 n = self77 at ih77 hd
          unfold B_Mo_year_L77 at hd
          refine lv_iload_n hx hb d_Mo_year_77 rfl (lv_at hl 1 rfl) ?_
          refine lv_aload_n hx hb d_Mo_year_78 rfl (lv_at hl 0 rfl) ?_
          refine va_get (D := D) (ci := 1) (v := .ref (a 1)) (C := R_Mo) (T := F_Mo) (N := 26) hx hb hg i_Mo hown hK hP 0 rfl rfl 1 (by decide) (hg _ g_993) (fun _ h9 => h9) rfl d_Mo_year_79 ?_
          refine lv_iconst (v := 1) hx hb d_Mo_year_82 (by decide) ?_
          refine ialdK hx hb hK hP 1 0 rfl rfl (inb_t (by decide +kernel)) (k := 1) (by decide +kernel) d_Mo_year_83 ?_
          refine lv_icmp_ge (tgt := 132) hx hb d_Mo_year_84 (by decide) (fun h_8 => ?_) (fun h_8 => ?_)
          · have hd := ite_t hd h_8
            refine lv_aload_n hx hb d_Mo_year_132 rfl (lv_at hl 0 rfl) ?_
            refine va_get (D := D) (ci := 1) (v := .ref (a 1)) (C := R_Mo) (T := F_Mo) (N := 26) hx hb hg i_Mo hown hK hP 0 rfl rfl 1 (by decide) (hg _ g_993) (fun _ h9 => h9) rfl d_Mo_year_133 ?_
            refine lv_bipush (v := 6) hx hb d_Mo_year_136 (by decide) ?_
            refine ialdK hx hb hK hP 1 0 rfl rfl (inb_t (by decide +kernel)) (k := 6) (by decide +kernel) d_Mo_year_138 ?_
            obtain rfl := Option.some.inj hd
            exact retI hx hb hr hlk hK hP hD hS d_Mo_year_139 rfl
          · have hd := ite_f hd h_8
            refine lv_aload_n hx hb d_Mo_year_87 rfl (lv_at hl 0 rfl) ?_
            refine va_get (D := D) (ci := 1) (v := .ref (a 1)) (C := R_Mo) (T := F_Mo) (N := 26) hx hb hg i_Mo hown hK hP 0 rfl rfl 1 (by decide) (hg _ g_993) (fun _ h9 => h9) rfl d_Mo_year_88 ?_
            refine lv_bipush (v := 58) hx hb d_Mo_year_91 (by decide) ?_
            refine lv_iload_n hx hb d_Mo_year_93 rfl (lv_at hl 1 rfl) ?_
            refine lv_iadd hx hb d_Mo_year_94 ?_
            obtain ⟨h_14, hd⟩ := ite_s hd
            refine ialdK hx hb hK hP 1 0 rfl rfl (inb_t h_14) rfl d_Mo_year_95 ?_
            refine lv_aload_n hx hb d_Mo_year_96 rfl (lv_at hl 0 rfl) ?_
            refine lv_sipush (v := (-400)) hx hb d_Mo_year_97 (by decide) ?_
            refine lv_bipush (v := 99) hx hb d_Mo_year_100 (by decide) ?_
            refine lv_iload_n hx hb d_Mo_year_102 rfl (lv_at hl 1 rfl) ?_
            obtain ⟨v_9, e_10, hd⟩ := bind_s hd
            refine callVI (ws' := ws_Mo g a v_9.2) (rest := [.int ((q_Mo_s z_77) (58 + x1_77).toNatClampNeg)]) (As := [.int (-400), .int 99, .int x1_77]) hx hb hml hown hg hK hP hD hS hA hCs hl.1 (c_Mo_tells l D g a (-400) 99 x1_77 z_77 _ e_10) o_Mo_tells g_1155 (ci := 1) (q0 := 0) rfl rfl (List.range' 0 12) (segC1 rfl rfl) (by decide) rfl (segP1 rfl rfl) rfl rfl (Nat.le_of_ble_eq_true rfl) ⟨rfl, rfl, Nat.le_of_ble_eq_true rfl, Nat.le_of_ble_eq_true rfl⟩ d_Mo_year_103 (fun H locs hP hD hS => ?_)
            refine lv_isub hx hb d_Mo_year_106 ?_
            refine lv_istore_n (lv' := [(2, .int (((q_Mo_s z_77) (58 + x1_77).toNatClampNeg) - v_9.1)), (0, .ref (a 0)), (1, .int x1_77)]) hx hb d_Mo_year_107 rfl hl (by decide) rfl (fun ls hl => ?_)
            refine lv_aload_n hx hb d_Mo_year_108 rfl (lv_at hl 1 rfl) ?_
            refine va_get (D := D) (ci := 1) (v := .ref (a 1)) (C := R_Mo) (T := F_Mo) (N := 26) hx hb hg i_Mo hown hK hP 0 rfl rfl 1 (by decide) (hg _ g_993) (fun _ h9 => h9) rfl d_Mo_year_109 ?_
            refine lv_bipush (v := 58) hx hb d_Mo_year_112 (by decide) ?_
            refine lv_iload_n hx hb d_Mo_year_114 rfl (lv_at hl 2 rfl) ?_
            refine lv_iadd hx hb d_Mo_year_115 ?_
            refine lv_iload_n hx hb d_Mo_year_116 rfl (lv_at hl 0 rfl) ?_
            refine lv_if_ge (tgt := 124) hx hb d_Mo_year_117 (by decide) (fun h_11 => ?_) (fun h_11 => ?_)
            · have hd := ite_t hd h_11
              refine lv_iload_n hx hb d_Mo_year_124 rfl (lv_at hl 0 rfl) ?_
              obtain ⟨h_12, hd⟩ := ite_s hd
              refine iastK hx hb hK hP hD hS 1 0 rfl rfl (inb_t h_12) rfl d_Mo_year_125 (fun H locs hP hD hS => ?_)
              have hP : va_P D classes (ws_Mo g a (u_Mo_s v_9.2 (upd (q_Mo_s v_9.2) (58 + x1_77).toNatClampNeg (((q_Mo_s z_77) (58 + x1_77).toNatClampNeg) - v_9.1)))) H := hP
              have hD : va_D A (ws_Mo g a (u_Mo_s v_9.2 (upd (q_Mo_s v_9.2) (58 + x1_77).toNatClampNeg (((q_Mo_s z_77) (58 + x1_77).toNatClampNeg) - v_9.1)))) := hD
              refine lv_iinc (v := x1_77 + 1) (lv' := [(1, .int (x1_77 + 1)), (2, .int (((q_Mo_s z_77) (58 + x1_77).toNatClampNeg) - v_9.1)), (0, .ref (a 0))]) hx hb d_Mo_year_126 hl (k := 2) rfl (by rfl) (by decide) rfl (fun ls hl => ?_)
              refine lv_goto (tgt := 77) hx hb d_Mo_year_129 (by decide) ?_
              exact ih77 (x1_77 + 1) (u_Mo_s v_9.2 (upd (q_Mo_s v_9.2) (58 + x1_77).toNatClampNeg (((q_Mo_s z_77) (58 + x1_77).toNatClampNeg) - v_9.1))) _ _ _ hP hD hS (lv_sub hl [2, 0] rfl) hd
            · have hd := ite_f hd h_11
              refine lv_iconst (v := 0) hx hb d_Mo_year_120 (by decide) ?_
              refine lv_goto (tgt := 125) hx hb d_Mo_year_121 (by decide) ?_
              obtain ⟨h_13, hd⟩ := ite_s hd
              refine iastK hx hb hK hP hD hS 1 0 rfl rfl (inb_t h_13) rfl d_Mo_year_125 (fun H locs hP hD hS => ?_)
              have hP : va_P D classes (ws_Mo g a (u_Mo_s v_9.2 (upd (q_Mo_s v_9.2) (58 + x1_77).toNatClampNeg 0))) H := hP
              have hD : va_D A (ws_Mo g a (u_Mo_s v_9.2 (upd (q_Mo_s v_9.2) (58 + x1_77).toNatClampNeg 0))) := hD
              refine lv_iinc (v := x1_77 + 1) (lv' := [(1, .int (x1_77 + 1)), (2, .int (((q_Mo_s z_77) (58 + x1_77).toNatClampNeg) - v_9.1)), (0, .ref (a 0))]) hx hb d_Mo_year_126 hl (k := 2) rfl (by rfl) (by decide) rfl (fun ls hl => ?_)
              refine lv_goto (tgt := 77) hx hb d_Mo_year_129 (by decide) ?_
              exact ih77 (x1_77 + 1) (u_Mo_s v_9.2 (upd (q_Mo_s v_9.2) (58 + x1_77).toNatClampNeg 0)) _ _ _ hP hD hS (lv_sub hl [2, 0] rfl) hd
      exact lp77 1000 0 z_28 _ _ _ hP hD hS (lv_sub hl [1, 0] rfl) hd
    have lp28 : ∀ (k28_75 : T_Mo → Option (Int32 × T_Mo)) (hk28_75 : ∀ (z_28 : T_Mo) (H : Heap) (locs : List Loc) (ls : Array Slot), va_P D classes (ws_Mo g a z_28) H → va_D A (ws_Mo g a z_28) → va_S A s.heap H locs → lv_has ls 3 [(0, .ref (a 0))] → k28_75 z_28 = some v → GI p l e s m ({ frames := 2, cells := 0, slots := 0, locals := 53 } : Room) ([.ref (a 0)] : List Value).toArray below meth c A D g (ws_Mo g a v.2) (v.1) H locs (F0 m 75 ls [])) (n : Nat) (x1_28 : Int32) (z_28 : T_Mo) (H : Heap) (locs : List Loc) (ls : Array Slot), va_P D classes (ws_Mo g a z_28) H → va_D A (ws_Mo g a z_28) → va_S A s.heap H locs → lv_has ls 3 [(0, .ref (a 0)), (1, .int x1_28)] → d_Mo_year_L28 k28_75 n x1_28 z_28 = some v → GI p l e s m ({ frames := 2, cells := 0, slots := 0, locals := 53 } : Room) ([.ref (a 0)] : List Value).toArray below meth c A D g (ws_Mo g a v.2) (v.1) H locs (F0 m 28 ls []) := by
      intro k28_75 hk28_75 n
      induction n with
      | zero =>
        intro  x1_28 z_28 H locs ls hP hD hS hl hd
        have hd : none = some v := hd
        cases hd
      | succ n ih28 =>
        intro  x1_28 z_28 H locs ls hP hD hS hl hd
        have hd : B_Mo_year_L28 k28_75 (d_Mo_year_L28 k28_75 n) x1_28 z_28 = some v := hd
        generalize d_Mo_year_L28 k28_75 n = self28 at ih28 hd
        unfold B_Mo_year_L28 at hd
        refine lv_iload_n hx hb d_Mo_year_28 rfl (lv_at hl 1 rfl) ?_
        refine lv_aload_n hx hb d_Mo_year_29 rfl (lv_at hl 0 rfl) ?_
        refine va_get (D := D) (ci := 1) (v := .ref (a 1)) (C := R_Mo) (T := F_Mo) (N := 26) hx hb hg i_Mo hown hK hP 0 rfl rfl 1 (by decide) (hg _ g_993) (fun _ h9 => h9) rfl d_Mo_year_30 ?_
        refine lv_iconst (v := 0) hx hb d_Mo_year_33 (by decide) ?_
        refine ialdK hx hb hK hP 1 0 rfl rfl (inb_t (by decide +kernel)) (k := 0) (by decide +kernel) d_Mo_year_34 ?_
        refine lv_icmp_ge (tgt := 75) hx hb d_Mo_year_35 (by decide) (fun h_2 => ?_) (fun h_2 => ?_)
        · have hd := ite_t hd h_2
          exact hk28_75 z_28 _ _ _ hP hD hS (lv_sub hl [0] rfl) hd
        · have hd := ite_f hd h_2
          refine lv_aload_n hx hb d_Mo_year_38 rfl (lv_at hl 0 rfl) ?_
          refine va_get (D := D) (ci := 1) (v := .ref (a 1)) (C := R_Mo) (T := F_Mo) (N := 26) hx hb hg i_Mo hown hK hP 0 rfl rfl 1 (by decide) (hg _ g_993) (fun _ h9 => h9) rfl d_Mo_year_39 ?_
          refine lv_bipush (v := 22) hx hb d_Mo_year_42 (by decide) ?_
          refine lv_iload_n hx hb d_Mo_year_44 rfl (lv_at hl 1 rfl) ?_
          refine lv_iadd hx hb d_Mo_year_45 ?_
          refine lv_dup2_11 hx hb d_Mo_year_46 rfl rfl ?_
          obtain ⟨h_7, hd⟩ := ite_s hd
          refine ialdK hx hb hK hP 1 0 rfl rfl (inb_t h_7) rfl d_Mo_year_47 ?_
          refine lv_aload_n hx hb d_Mo_year_48 rfl (lv_at hl 0 rfl) ?_
          refine va_get (D := D) (ci := 1) (v := .ref (a 1)) (C := R_Mo) (T := F_Mo) (N := 26) hx hb hg i_Mo hown hK hP 0 rfl rfl 1 (by decide) (hg _ g_993) (fun _ h9 => h9) rfl d_Mo_year_49 ?_
          refine lv_bipush (v := 22) hx hb d_Mo_year_52 (by decide) ?_
          refine lv_iload_n hx hb d_Mo_year_54 rfl (lv_at hl 1 rfl) ?_
          refine lv_iadd hx hb d_Mo_year_55 ?_
          obtain ⟨h_6, hd⟩ := ite_s hd
          refine ialdK hx hb hK hP 1 0 rfl rfl (inb_t h_6) rfl d_Mo_year_56 ?_
          refine lv_bipush (v := 99) hx hb d_Mo_year_57 (by decide) ?_
          refine lv_icmp_ge (tgt := 66) hx hb d_Mo_year_59 (by decide) (fun h_3 => ?_) (fun h_3 => ?_)
          · have hd := ite_t hd h_3
            refine lv_iconst (v := 0) hx hb d_Mo_year_66 (by decide) ?_
            refine lv_iadd hx hb d_Mo_year_67 ?_
            obtain ⟨h_4, hd⟩ := ite_s hd
            refine iastK hx hb hK hP hD hS 1 0 rfl rfl (inb_t h_4) rfl d_Mo_year_68 (fun H locs hP hD hS => ?_)
            have hP : va_P D classes (ws_Mo g a (u_Mo_s z_28 (upd (q_Mo_s z_28) (22 + x1_28).toNatClampNeg (((q_Mo_s z_28) (22 + x1_28).toNatClampNeg) + 0)))) H := hP
            have hD : va_D A (ws_Mo g a (u_Mo_s z_28 (upd (q_Mo_s z_28) (22 + x1_28).toNatClampNeg (((q_Mo_s z_28) (22 + x1_28).toNatClampNeg) + 0)))) := hD
            refine lv_iinc (v := x1_28 + 1) (lv' := [(1, .int (x1_28 + 1)), (0, .ref (a 0))]) hx hb d_Mo_year_69 hl (k := 1) rfl (by rfl) (by decide) rfl (fun ls hl => ?_)
            refine lv_goto (tgt := 28) hx hb d_Mo_year_72 (by decide) ?_
            exact ih28 (x1_28 + 1) (u_Mo_s z_28 (upd (q_Mo_s z_28) (22 + x1_28).toNatClampNeg (((q_Mo_s z_28) (22 + x1_28).toNatClampNeg) + 0))) _ _ _ hP hD hS (lv_sub hl [1, 0] rfl) hd
          · have hd := ite_f hd h_3
            refine lv_iconst (v := 1) hx hb d_Mo_year_62 (by decide) ?_
            refine lv_goto (tgt := 67) hx hb d_Mo_year_63 (by decide) ?_
            refine lv_iadd hx hb d_Mo_year_67 ?_
            obtain ⟨h_5, hd⟩ := ite_s hd
            refine iastK hx hb hK hP hD hS 1 0 rfl rfl (inb_t h_5) rfl d_Mo_year_68 (fun H locs hP hD hS => ?_)
            have hP : va_P D classes (ws_Mo g a (u_Mo_s z_28 (upd (q_Mo_s z_28) (22 + x1_28).toNatClampNeg (((q_Mo_s z_28) (22 + x1_28).toNatClampNeg) + 1)))) H := hP
            have hD : va_D A (ws_Mo g a (u_Mo_s z_28 (upd (q_Mo_s z_28) (22 + x1_28).toNatClampNeg (((q_Mo_s z_28) (22 + x1_28).toNatClampNeg) + 1)))) := hD
            refine lv_iinc (v := x1_28 + 1) (lv' := [(1, .int (x1_28 + 1)), (0, .ref (a 0))]) hx hb d_Mo_year_69 hl (k := 1) rfl (by rfl) (by decide) rfl (fun ls hl => ?_)
            refine lv_goto (tgt := 28) hx hb d_Mo_year_72 (by decide) ?_
            exact ih28 (x1_28 + 1) (u_Mo_s z_28 (upd (q_Mo_s z_28) (22 + x1_28).toNatClampNeg (((q_Mo_s z_28) (22 + x1_28).toNatClampNeg) + 1))) _ _ _ hP hD hS (lv_sub hl [1, 0] rfl) hd
    exact lp28 _ ex28_75 1000 0 (u_Mo_s z (upd (q_Mo_s z) 6 (((q_Mo_s z) 6) + 1))) _ _ _ hP hD hS (lv_sub hl [1, 0] rfl) hd
  · have hd := ite_t hd h_1
    refine lv_bipush (v := (-3)) hx hb d_Mo_year_12 (by decide) ?_
    obtain rfl := Option.some.inj hd
    exact retI hx hb hr hlk hK hP hD hS d_Mo_year_14 rfl
-- OwnsLiftModel.begins()V
def B_Mo_begins_L6 (self6 : Int32 → T_Mo → Option (T_Mo)) (x1_6 : Int32) (z_6 : T_Mo) : Option (T_Mo) :=
  if 5 ≤ x1_6 then (some ((u_Mo_fewest (u_Mo_mostOwned (u_Mo_bestLike z_6 (-1)) 0) (-5)))) else (if inb x1_6 5 = true then (self6 (x1_6 + 1) (u_Mo_loads z_6 (upd (q_Mo_loads z_6) x1_6.toNatClampNeg 0))) else none)
def d_Mo_begins_L6 (n : Nat) : Int32 → T_Mo → Option (T_Mo) := recN (fun _ _ => none) (fun self => B_Mo_begins_L6 self) n
def d_Mo_begins (z : T_Mo) : Option (T_Mo) :=
  (d_Mo_looksForAll z).bind fun v_1 => d_Mo_begins_L6  1000 0 v_1
theorem d_Mo_begins_0 : decode b_Mo_begins 0 = .ok (.aload_n 0, 1) := by decide +kernel
theorem d_Mo_begins_1 : decode b_Mo_begins 1 = .ok (.invokevirtual 178, 3) := by decide +kernel
theorem d_Mo_begins_4 : decode b_Mo_begins 4 = .ok (.iconst 0, 1) := by decide +kernel
theorem d_Mo_begins_5 : decode b_Mo_begins 5 = .ok (.istore_n 1, 1) := by decide +kernel
theorem d_Mo_begins_6 : decode b_Mo_begins 6 = .ok (.iload_n 1, 1) := by decide +kernel
theorem d_Mo_begins_7 : decode b_Mo_begins 7 = .ok (.iconst 5, 1) := by decide +kernel
theorem d_Mo_begins_8 : decode b_Mo_begins 8 = .ok (.if_icmp .ge 16, 3) := by decide +kernel
theorem d_Mo_begins_11 : decode b_Mo_begins 11 = .ok (.aload_n 0, 1) := by decide +kernel
theorem d_Mo_begins_12 : decode b_Mo_begins 12 = .ok (.getfield 34, 3) := by decide +kernel
theorem d_Mo_begins_15 : decode b_Mo_begins 15 = .ok (.iload_n 1, 1) := by decide +kernel
theorem d_Mo_begins_16 : decode b_Mo_begins 16 = .ok (.iconst 0, 1) := by decide +kernel
theorem d_Mo_begins_17 : decode b_Mo_begins 17 = .ok (.iastore, 1) := by decide +kernel
theorem d_Mo_begins_18 : decode b_Mo_begins 18 = .ok (.iinc 1 1, 3) := by decide +kernel
theorem d_Mo_begins_21 : decode b_Mo_begins 21 = .ok (.goto (-15), 3) := by decide +kernel
theorem d_Mo_begins_24 : decode b_Mo_begins 24 = .ok (.aload_n 0, 1) := by decide +kernel
theorem d_Mo_begins_25 : decode b_Mo_begins 25 = .ok (.iconst (-1), 1) := by decide +kernel
theorem d_Mo_begins_26 : decode b_Mo_begins 26 = .ok (.putfield 184, 3) := by decide +kernel
theorem d_Mo_begins_29 : decode b_Mo_begins 29 = .ok (.aload_n 0, 1) := by decide +kernel
theorem d_Mo_begins_30 : decode b_Mo_begins 30 = .ok (.iconst 0, 1) := by decide +kernel
theorem d_Mo_begins_31 : decode b_Mo_begins 31 = .ok (.putfield 187, 3) := by decide +kernel
theorem d_Mo_begins_34 : decode b_Mo_begins 34 = .ok (.aload_n 0, 1) := by decide +kernel
theorem d_Mo_begins_35 : decode b_Mo_begins 35 = .ok (.bipush (-5), 2) := by decide +kernel
theorem d_Mo_begins_37 : decode b_Mo_begins 37 = .ok (.putfield 190, 3) := by decide +kernel
theorem d_Mo_begins_40 : decode b_Mo_begins 40 = .ok (.return_, 1) := by decide +kernel
theorem o_Mo_begins : OkV y_Mo_begins "OwnsLiftModel" b_Mo_begins 2 none 0 := ⟨⟨rfl, by decide +kernel, by decide +kernel, by decide +kernel⟩, g_1252, g_53, g_81, g_1253⟩
set_option maxHeartbeats 4000000 in
set_option maxRecDepth 100000 in
theorem c_Mo_begins (l : Launch) (D : va_G) (g : Nat → ClassId) (a : Nat → Nat) (z : T_Mo) (v : T_Mo) (h : d_Mo_begins z = some v) :
    MV l y_Mo_begins b_Mo_begins 2 ({ frames := 4, cells := 0, slots := 0, locals := 97 } : Room) D g [.ref (a 0)] (ws_Mo g a z) (ws_Mo g a v) := by
  have hd := h
  unfold d_Mo_begins at hd
  refine enterV rfl (Nat.le_of_ble_eq_true rfl) (fun p e s m below meth c A ls hx hb hml hr hown hg hlk hK hA hP hD hS hCs hl => ?_)
  have hown : s.vm.findClass "OwnsLiftModel" = some m.cls := hown
  have hl : lv_has ls 2 [(0, .ref (a 0))] := hl
  show GV p l e s m ({ frames := 4, cells := 0, slots := 0, locals := 97 } : Room) ([.ref (a 0)] : List Value).toArray below meth c A D g (ws_Mo g a v) s.heap [] (F0 m 0 ls [])
  refine lv_aload_n hx hb d_Mo_begins_0 rfl (lv_at hl 0 rfl) ?_
  obtain ⟨v_1, e_2, hd⟩ := bind_s hd
  refine callVV (ws' := ws_Mo g a v_1) (rest := []) (As := []) hx hb hml hown hg hK hP hD hS hA hCs hl.1 (c_Mo_looksForAll l D g a z _ e_2) o_Mo_looksForAll g_1218 (ci := 1) (q0 := 0) rfl rfl (List.range' 0 12) (segC1 rfl rfl) (by decide) rfl (segP1 rfl rfl) rfl rfl (Nat.le_of_ble_eq_true rfl) ⟨rfl, rfl, Nat.le_of_ble_eq_true rfl, Nat.le_of_ble_eq_true rfl⟩ d_Mo_begins_1 (fun H locs hP hD hS => ?_)
  refine lv_iconst (v := 0) hx hb d_Mo_begins_4 (by decide) ?_
  refine lv_istore_n (lv' := [(1, .int 0), (0, .ref (a 0))]) hx hb d_Mo_begins_5 rfl hl (by decide) rfl (fun ls hl => ?_)
  have lp6 : ∀ (n : Nat) (x1_6 : Int32) (z_6 : T_Mo) (H : Heap) (locs : List Loc) (ls : Array Slot), va_P D classes (ws_Mo g a z_6) H → va_D A (ws_Mo g a z_6) → va_S A s.heap H locs → lv_has ls 2 [(0, .ref (a 0)), (1, .int x1_6)] → d_Mo_begins_L6 n x1_6 z_6 = some v → GV p l e s m ({ frames := 4, cells := 0, slots := 0, locals := 97 } : Room) ([.ref (a 0)] : List Value).toArray below meth c A D g (ws_Mo g a v) H locs (F0 m 6 ls []) := by
    intro n
    induction n with
    | zero =>
      intro  x1_6 z_6 H locs ls hP hD hS hl hd
      have hd : none = some v := hd
      cases hd
    | succ n ih6 =>
      intro  x1_6 z_6 H locs ls hP hD hS hl hd
      have hd : B_Mo_begins_L6 (d_Mo_begins_L6 n) x1_6 z_6 = some v := hd
      generalize d_Mo_begins_L6 n = self6 at ih6 hd
      unfold B_Mo_begins_L6 at hd
      refine lv_iload_n hx hb d_Mo_begins_6 rfl (lv_at hl 1 rfl) ?_
      refine lv_iconst (v := 5) hx hb d_Mo_begins_7 (by decide) ?_
      refine lv_icmp_ge (tgt := 24) hx hb d_Mo_begins_8 (by decide) (fun h_3 => ?_) (fun h_3 => ?_)
      · have hd := ite_t hd h_3
        refine lv_aload_n hx hb d_Mo_begins_24 rfl (lv_at hl 0 rfl) ?_
        refine lv_iconst (v := (-1)) hx hb d_Mo_begins_25 (by decide) ?_
        refine va_put (D := D) (ci := 1) (v := .int (-1)) (ty := .int) (C := R_Mo) (T := F_Mo) (N := 26) hx hb hg i_Mo t_Mo t_Mo_ok n_Mo hown hK hP hD hS 0 rfl rfl 17 (by decide) (hg _ g_1009) (fun _ h9 => h9) rfl (by decide +kernel) rfl rfl (Nat.le_of_ble_eq_true rfl) d_Mo_begins_26 (fun H locs hP hD hS => ?_)
        have hP : va_P D classes (ws_Mo g a (u_Mo_bestLike z_6 (-1))) H := hP
        have hD : va_D A (ws_Mo g a (u_Mo_bestLike z_6 (-1))) := hD
        refine lv_aload_n hx hb d_Mo_begins_29 rfl (lv_at hl 0 rfl) ?_
        refine lv_iconst (v := 0) hx hb d_Mo_begins_30 (by decide) ?_
        refine va_put (D := D) (ci := 1) (v := .int 0) (ty := .int) (C := R_Mo) (T := F_Mo) (N := 26) hx hb hg i_Mo t_Mo t_Mo_ok n_Mo hown hK hP hD hS 0 rfl rfl 18 (by decide) (hg _ g_1010) (fun _ h9 => h9) rfl (by decide +kernel) rfl rfl (Nat.le_of_ble_eq_true rfl) d_Mo_begins_31 (fun H locs hP hD hS => ?_)
        have hP : va_P D classes (ws_Mo g a (u_Mo_mostOwned (u_Mo_bestLike z_6 (-1)) 0)) H := hP
        have hD : va_D A (ws_Mo g a (u_Mo_mostOwned (u_Mo_bestLike z_6 (-1)) 0)) := hD
        refine lv_aload_n hx hb d_Mo_begins_34 rfl (lv_at hl 0 rfl) ?_
        refine lv_bipush (v := (-5)) hx hb d_Mo_begins_35 (by decide) ?_
        refine va_put (D := D) (ci := 1) (v := .int (-5)) (ty := .int) (C := R_Mo) (T := F_Mo) (N := 26) hx hb hg i_Mo t_Mo t_Mo_ok n_Mo hown hK hP hD hS 0 rfl rfl 19 (by decide) (hg _ g_1011) (fun _ h9 => h9) rfl (by decide +kernel) rfl rfl (Nat.le_of_ble_eq_true rfl) d_Mo_begins_37 (fun H locs hP hD hS => ?_)
        have hP : va_P D classes (ws_Mo g a (u_Mo_fewest (u_Mo_mostOwned (u_Mo_bestLike z_6 (-1)) 0) (-5))) H := hP
        have hD : va_D A (ws_Mo g a (u_Mo_fewest (u_Mo_mostOwned (u_Mo_bestLike z_6 (-1)) 0) (-5))) := hD
        obtain rfl := Option.some.inj hd
        exact retV hx hb hr hlk hK hP hD hS d_Mo_begins_40
      · have hd := ite_f hd h_3
        refine lv_aload_n hx hb d_Mo_begins_11 rfl (lv_at hl 0 rfl) ?_
        refine va_get (D := D) (ci := 1) (v := .ref (a 8)) (C := R_Mo) (T := F_Mo) (N := 26) hx hb hg i_Mo hown hK hP 0 rfl rfl 14 (by decide) (hg _ g_1006) (fun _ h9 => h9) rfl d_Mo_begins_12 ?_
        refine lv_iload_n hx hb d_Mo_begins_15 rfl (lv_at hl 1 rfl) ?_
        refine lv_iconst (v := 0) hx hb d_Mo_begins_16 (by decide) ?_
        obtain ⟨h_4, hd⟩ := ite_s hd
        refine iastK hx hb hK hP hD hS 8 0 rfl rfl (inb_t h_4) rfl d_Mo_begins_17 (fun H locs hP hD hS => ?_)
        have hP : va_P D classes (ws_Mo g a (u_Mo_loads z_6 (upd (q_Mo_loads z_6) x1_6.toNatClampNeg 0))) H := hP
        have hD : va_D A (ws_Mo g a (u_Mo_loads z_6 (upd (q_Mo_loads z_6) x1_6.toNatClampNeg 0))) := hD
        refine lv_iinc (v := x1_6 + 1) (lv' := [(1, .int (x1_6 + 1)), (0, .ref (a 0))]) hx hb d_Mo_begins_18 hl (k := 1) rfl (by rfl) (by decide) rfl (fun ls hl => ?_)
        refine lv_goto (tgt := 6) hx hb d_Mo_begins_21 (by decide) ?_
        exact ih6 (x1_6 + 1) (u_Mo_loads z_6 (upd (q_Mo_loads z_6) x1_6.toNatClampNeg 0)) _ _ _ hP hD hS (lv_sub hl [1, 0] rfl) hd
  exact lp6 1000 0 v_1 _ _ _ hP hD hS (lv_sub hl [1, 0] rfl) hd
-- recursion: Mo_waysFrom
def B_Mo_waysFrom_L77 (rc : Int32 → Int32 → Int32 → T_Mo → Option (T_Mo)) (x1_f77 : Int32) (x2_f77 : Int32) (x3_f77 : Int32) (self77 : Int32 → T_Mo → Option (T_Mo)) (x4_77 : Int32) (z_77 : T_Mo) : Option (T_Mo) :=
  if ((q_Mo_s z_77) 0) ≤ x4_77 then (if inb x1_f77 7 = true then ((rc (x1_f77 + 1) x2_f77 x3_f77 (u_Mo_way z_77 (upd (q_Mo_way z_77) x1_f77.toNatClampNeg 4))).bind fun v_3 => some (v_3)) else none) else (if inb x4_77 5 = true then (if inb (58 + x1_f77) 901 = true then (if inb x4_77 4 = true then (if ((q_Mo_lifts z_77) x4_77.toNatClampNeg) < (((q_Mo_loads z_77) x4_77.toNatClampNeg) + ((q_Mo_s z_77) (58 + x1_f77).toNatClampNeg)) then (self77 (x4_77 + 1) z_77) else (if inb x4_77 5 = true then (if inb (58 + x1_f77) 901 = true then (if inb x4_77 5 = true then (if inb x1_f77 7 = true then (if inb ((7 * x4_77) + x1_f77) 28 = true then ((rc (x1_f77 + 1) (x2_f77 + ((q_Mo_likes (u_Mo_way (u_Mo_loads z_77 (upd (q_Mo_loads z_77) x4_77.toNatClampNeg (((q_Mo_loads z_77) x4_77.toNatClampNeg) + ((q_Mo_s z_77) (58 + x1_f77).toNatClampNeg)))) (upd (q_Mo_way (u_Mo_loads z_77 (upd (q_Mo_loads z_77) x4_77.toNatClampNeg (((q_Mo_loads z_77) x4_77.toNatClampNeg) + ((q_Mo_s z_77) (58 + x1_f77).toNatClampNeg))))) x1_f77.toNatClampNeg x4_77))) ((7 * x4_77) + x1_f77).toNatClampNeg)) (x3_f77 + 1) (u_Mo_way (u_Mo_loads z_77 (upd (q_Mo_loads z_77) x4_77.toNatClampNeg (((q_Mo_loads z_77) x4_77.toNatClampNeg) + ((q_Mo_s z_77) (58 + x1_f77).toNatClampNeg)))) (upd (q_Mo_way (u_Mo_loads z_77 (upd (q_Mo_loads z_77) x4_77.toNatClampNeg (((q_Mo_loads z_77) x4_77.toNatClampNeg) + ((q_Mo_s z_77) (58 + x1_f77).toNatClampNeg))))) x1_f77.toNatClampNeg x4_77))).bind fun v_7 => if inb x4_77 5 = true then (if inb (58 + x1_f77) 901 = true then (if inb x4_77 5 = true then (self77 (x4_77 + 1) (u_Mo_loads v_7 (upd (q_Mo_loads v_7) x4_77.toNatClampNeg (((q_Mo_loads v_7) x4_77.toNatClampNeg) - ((q_Mo_s v_7) (58 + x1_f77).toNatClampNeg))))) else none) else none) else none) else none) else none) else none) else none) else none)) else none) else none) else none)
def d_Mo_waysFrom_L77 (rc : Int32 → Int32 → Int32 → T_Mo → Option (T_Mo)) (x1_f77 : Int32) (x2_f77 : Int32) (x3_f77 : Int32) (n : Nat) : Int32 → T_Mo → Option (T_Mo) := recN (fun _ _ => none) (fun self => B_Mo_waysFrom_L77 rc x1_f77 x2_f77 x3_f77 self) n
def B_Mo_waysFrom_L46 (rc : Int32 → Int32 → Int32 → T_Mo → Option (T_Mo)) (self46 : Int32 → T_Mo → Option (T_Mo)) (x4_46 : Int32) (z_46 : T_Mo) : Option (T_Mo) :=
  if 7 ≤ x4_46 then (some (z_46)) else (if inb x4_46 7 = true then (if inb x4_46 7 = true then (self46 (x4_46 + 1) (u_Mo_bestWay z_46 (upd (q_Mo_bestWay z_46) x4_46.toNatClampNeg ((q_Mo_way z_46) x4_46.toNatClampNeg)))) else none) else none)
def d_Mo_waysFrom_L46 (rc : Int32 → Int32 → Int32 → T_Mo → Option (T_Mo)) (n : Nat) : Int32 → T_Mo → Option (T_Mo) := recN (fun _ _ => none) (fun self => B_Mo_waysFrom_L46 rc self) n
def B_Mo_waysFrom (rc : Int32 → Int32 → Int32 → T_Mo → Option (T_Mo)) (x1 : Int32) (x2 : Int32) (x3 : Int32) (z : T_Mo) : Option (T_Mo) :=
  if x1 = ((q_Mo_s z) 1) then (if x3 ≤ (q_Mo_mostOwned z) then (if x2 ≤ (q_Mo_bestLike (u_Mo_mostOwned z (q_Mo_mostOwned z))) then (some ((u_Mo_mostOwned z (q_Mo_mostOwned z)))) else (d_Mo_waysFrom_L46 rc  1000 0 (u_Mo_bestLike (u_Mo_mostOwned z (q_Mo_mostOwned z)) x2))) else (if x2 ≤ (q_Mo_bestLike (u_Mo_mostOwned z x3)) then (some ((u_Mo_mostOwned z x3))) else (d_Mo_waysFrom_L46 rc  1000 0 (u_Mo_bestLike (u_Mo_mostOwned z x3) x2)))) else (d_Mo_waysFrom_L77 rc x1 x2 x3  1000 0 z)
def d_Mo_waysFrom (n : Nat) : Int32 → Int32 → Int32 → T_Mo → Option (T_Mo) := recN (fun _ _ _ _ => none) (fun rc => B_Mo_waysFrom rc) n
theorem d_Mo_waysFrom_0 : decode b_Mo_waysFrom 0 = .ok (.iload_n 1, 1) := by decide +kernel
theorem d_Mo_waysFrom_1 : decode b_Mo_waysFrom 1 = .ok (.aload_n 0, 1) := by decide +kernel
theorem d_Mo_waysFrom_2 : decode b_Mo_waysFrom 2 = .ok (.getfield 9, 3) := by decide +kernel
theorem d_Mo_waysFrom_5 : decode b_Mo_waysFrom 5 = .ok (.iconst 1, 1) := by decide +kernel
theorem d_Mo_waysFrom_6 : decode b_Mo_waysFrom 6 = .ok (.iaload, 1) := by decide +kernel
theorem d_Mo_waysFrom_7 : decode b_Mo_waysFrom 7 = .ok (.if_icmp .ne 67, 3) := by decide +kernel
theorem d_Mo_waysFrom_10 : decode b_Mo_waysFrom 10 = .ok (.aload_n 0, 1) := by decide +kernel
theorem d_Mo_waysFrom_11 : decode b_Mo_waysFrom 11 = .ok (.iload_n 3, 1) := by decide +kernel
theorem d_Mo_waysFrom_12 : decode b_Mo_waysFrom 12 = .ok (.aload_n 0, 1) := by decide +kernel
theorem d_Mo_waysFrom_13 : decode b_Mo_waysFrom 13 = .ok (.getfield 187, 3) := by decide +kernel
theorem d_Mo_waysFrom_16 : decode b_Mo_waysFrom 16 = .ok (.if_icmp .le 7, 3) := by decide +kernel
theorem d_Mo_waysFrom_19 : decode b_Mo_waysFrom 19 = .ok (.iload_n 3, 1) := by decide +kernel
theorem d_Mo_waysFrom_20 : decode b_Mo_waysFrom 20 = .ok (.goto 7, 3) := by decide +kernel
theorem d_Mo_waysFrom_23 : decode b_Mo_waysFrom 23 = .ok (.aload_n 0, 1) := by decide +kernel
theorem d_Mo_waysFrom_24 : decode b_Mo_waysFrom 24 = .ok (.getfield 187, 3) := by decide +kernel
theorem d_Mo_waysFrom_27 : decode b_Mo_waysFrom 27 = .ok (.putfield 187, 3) := by decide +kernel
theorem d_Mo_waysFrom_30 : decode b_Mo_waysFrom 30 = .ok (.iload_n 2, 1) := by decide +kernel
theorem d_Mo_waysFrom_31 : decode b_Mo_waysFrom 31 = .ok (.aload_n 0, 1) := by decide +kernel
theorem d_Mo_waysFrom_32 : decode b_Mo_waysFrom 32 = .ok (.getfield 184, 3) := by decide +kernel
theorem d_Mo_waysFrom_35 : decode b_Mo_waysFrom 35 = .ok (.if_icmp .le 38, 3) := by decide +kernel
theorem d_Mo_waysFrom_38 : decode b_Mo_waysFrom 38 = .ok (.aload_n 0, 1) := by decide +kernel
theorem d_Mo_waysFrom_39 : decode b_Mo_waysFrom 39 = .ok (.iload_n 2, 1) := by decide +kernel
theorem d_Mo_waysFrom_40 : decode b_Mo_waysFrom 40 = .ok (.putfield 184, 3) := by decide +kernel
theorem d_Mo_waysFrom_43 : decode b_Mo_waysFrom 43 = .ok (.iconst 0, 1) := by decide +kernel
theorem d_Mo_waysFrom_44 : decode b_Mo_waysFrom 44 = .ok (.istore 4, 2) := by decide +kernel
theorem d_Mo_waysFrom_46 : decode b_Mo_waysFrom 46 = .ok (.iload 4, 2) := by decide +kernel
theorem d_Mo_waysFrom_48 : decode b_Mo_waysFrom 48 = .ok (.bipush 7, 2) := by decide +kernel
theorem d_Mo_waysFrom_50 : decode b_Mo_waysFrom 50 = .ok (.if_icmp .ge 23, 3) := by decide +kernel
theorem d_Mo_waysFrom_53 : decode b_Mo_waysFrom 53 = .ok (.aload_n 0, 1) := by decide +kernel
theorem d_Mo_waysFrom_54 : decode b_Mo_waysFrom 54 = .ok (.getfield 40, 3) := by decide +kernel
theorem d_Mo_waysFrom_57 : decode b_Mo_waysFrom 57 = .ok (.iload 4, 2) := by decide +kernel
theorem d_Mo_waysFrom_59 : decode b_Mo_waysFrom 59 = .ok (.aload_n 0, 1) := by decide +kernel
theorem d_Mo_waysFrom_60 : decode b_Mo_waysFrom 60 = .ok (.getfield 37, 3) := by decide +kernel
theorem d_Mo_waysFrom_63 : decode b_Mo_waysFrom 63 = .ok (.iload 4, 2) := by decide +kernel
theorem d_Mo_waysFrom_65 : decode b_Mo_waysFrom 65 = .ok (.iaload, 1) := by decide +kernel
theorem d_Mo_waysFrom_66 : decode b_Mo_waysFrom 66 = .ok (.iastore, 1) := by decide +kernel
theorem d_Mo_waysFrom_67 : decode b_Mo_waysFrom 67 = .ok (.iinc 4 1, 3) := by decide +kernel
theorem d_Mo_waysFrom_70 : decode b_Mo_waysFrom 70 = .ok (.goto (-24), 3) := by decide +kernel
theorem d_Mo_waysFrom_73 : decode b_Mo_waysFrom 73 = .ok (.return_, 1) := by decide +kernel
theorem d_Mo_waysFrom_74 : decode b_Mo_waysFrom 74 = .ok (.iconst 0, 1) := by decide +kernel
theorem d_Mo_waysFrom_75 : decode b_Mo_waysFrom 75 = .ok (.istore 4, 2) := by decide +kernel
theorem d_Mo_waysFrom_77 : decode b_Mo_waysFrom 77 = .ok (.iload 4, 2) := by decide +kernel
theorem d_Mo_waysFrom_79 : decode b_Mo_waysFrom 79 = .ok (.aload_n 0, 1) := by decide +kernel
theorem d_Mo_waysFrom_80 : decode b_Mo_waysFrom 80 = .ok (.getfield 9, 3) := by decide +kernel
theorem d_Mo_waysFrom_83 : decode b_Mo_waysFrom 83 = .ok (.iconst 0, 1) := by decide +kernel
theorem d_Mo_waysFrom_84 : decode b_Mo_waysFrom 84 = .ok (.iaload, 1) := by decide +kernel
theorem d_Mo_waysFrom_85 : decode b_Mo_waysFrom 85 = .ok (.if_icmp .ge 106, 3) := by decide +kernel
theorem d_Mo_waysFrom_88 : decode b_Mo_waysFrom 88 = .ok (.aload_n 0, 1) := by decide +kernel
theorem d_Mo_waysFrom_89 : decode b_Mo_waysFrom 89 = .ok (.getfield 34, 3) := by decide +kernel
theorem d_Mo_waysFrom_92 : decode b_Mo_waysFrom 92 = .ok (.iload 4, 2) := by decide +kernel
theorem d_Mo_waysFrom_94 : decode b_Mo_waysFrom 94 = .ok (.iaload, 1) := by decide +kernel
theorem d_Mo_waysFrom_95 : decode b_Mo_waysFrom 95 = .ok (.aload_n 0, 1) := by decide +kernel
theorem d_Mo_waysFrom_96 : decode b_Mo_waysFrom 96 = .ok (.getfield 9, 3) := by decide +kernel
theorem d_Mo_waysFrom_99 : decode b_Mo_waysFrom 99 = .ok (.bipush 58, 2) := by decide +kernel
theorem d_Mo_waysFrom_101 : decode b_Mo_waysFrom 101 = .ok (.iload_n 1, 1) := by decide +kernel
theorem d_Mo_waysFrom_102 : decode b_Mo_waysFrom 102 = .ok (.iadd, 1) := by decide +kernel
theorem d_Mo_waysFrom_103 : decode b_Mo_waysFrom 103 = .ok (.iaload, 1) := by decide +kernel
theorem d_Mo_waysFrom_104 : decode b_Mo_waysFrom 104 = .ok (.iadd, 1) := by decide +kernel
theorem d_Mo_waysFrom_105 : decode b_Mo_waysFrom 105 = .ok (.aload_n 0, 1) := by decide +kernel
theorem d_Mo_waysFrom_106 : decode b_Mo_waysFrom 106 = .ok (.getfield 31, 3) := by decide +kernel
theorem d_Mo_waysFrom_109 : decode b_Mo_waysFrom 109 = .ok (.iload 4, 2) := by decide +kernel
theorem d_Mo_waysFrom_111 : decode b_Mo_waysFrom 111 = .ok (.iaload, 1) := by decide +kernel
theorem d_Mo_waysFrom_112 : decode b_Mo_waysFrom 112 = .ok (.if_icmp .gt 73, 3) := by decide +kernel
theorem d_Mo_waysFrom_115 : decode b_Mo_waysFrom 115 = .ok (.aload_n 0, 1) := by decide +kernel
theorem d_Mo_waysFrom_116 : decode b_Mo_waysFrom 116 = .ok (.getfield 34, 3) := by decide +kernel
theorem d_Mo_waysFrom_119 : decode b_Mo_waysFrom 119 = .ok (.iload 4, 2) := by decide +kernel
theorem d_Mo_waysFrom_121 : decode b_Mo_waysFrom 121 = .ok (.dup2, 1) := by decide +kernel
theorem d_Mo_waysFrom_122 : decode b_Mo_waysFrom 122 = .ok (.iaload, 1) := by decide +kernel
theorem d_Mo_waysFrom_123 : decode b_Mo_waysFrom 123 = .ok (.aload_n 0, 1) := by decide +kernel
theorem d_Mo_waysFrom_124 : decode b_Mo_waysFrom 124 = .ok (.getfield 9, 3) := by decide +kernel
theorem d_Mo_waysFrom_127 : decode b_Mo_waysFrom 127 = .ok (.bipush 58, 2) := by decide +kernel
theorem d_Mo_waysFrom_129 : decode b_Mo_waysFrom 129 = .ok (.iload_n 1, 1) := by decide +kernel
theorem d_Mo_waysFrom_130 : decode b_Mo_waysFrom 130 = .ok (.iadd, 1) := by decide +kernel
theorem d_Mo_waysFrom_131 : decode b_Mo_waysFrom 131 = .ok (.iaload, 1) := by decide +kernel
theorem d_Mo_waysFrom_132 : decode b_Mo_waysFrom 132 = .ok (.iadd, 1) := by decide +kernel
theorem d_Mo_waysFrom_133 : decode b_Mo_waysFrom 133 = .ok (.iastore, 1) := by decide +kernel
theorem d_Mo_waysFrom_134 : decode b_Mo_waysFrom 134 = .ok (.aload_n 0, 1) := by decide +kernel
theorem d_Mo_waysFrom_135 : decode b_Mo_waysFrom 135 = .ok (.getfield 37, 3) := by decide +kernel
theorem d_Mo_waysFrom_138 : decode b_Mo_waysFrom 138 = .ok (.iload_n 1, 1) := by decide +kernel
theorem d_Mo_waysFrom_139 : decode b_Mo_waysFrom 139 = .ok (.iload 4, 2) := by decide +kernel
theorem d_Mo_waysFrom_141 : decode b_Mo_waysFrom 141 = .ok (.iastore, 1) := by decide +kernel
theorem d_Mo_waysFrom_142 : decode b_Mo_waysFrom 142 = .ok (.aload_n 0, 1) := by decide +kernel
theorem d_Mo_waysFrom_143 : decode b_Mo_waysFrom 143 = .ok (.iload_n 1, 1) := by decide +kernel
theorem d_Mo_waysFrom_144 : decode b_Mo_waysFrom 144 = .ok (.iconst 1, 1) := by decide +kernel
theorem d_Mo_waysFrom_145 : decode b_Mo_waysFrom 145 = .ok (.iadd, 1) := by decide +kernel
theorem d_Mo_waysFrom_146 : decode b_Mo_waysFrom 146 = .ok (.iload_n 2, 1) := by decide +kernel
theorem d_Mo_waysFrom_147 : decode b_Mo_waysFrom 147 = .ok (.aload_n 0, 1) := by decide +kernel
theorem d_Mo_waysFrom_148 : decode b_Mo_waysFrom 148 = .ok (.getfield 28, 3) := by decide +kernel
theorem d_Mo_waysFrom_151 : decode b_Mo_waysFrom 151 = .ok (.bipush 7, 2) := by decide +kernel
theorem d_Mo_waysFrom_153 : decode b_Mo_waysFrom 153 = .ok (.iload 4, 2) := by decide +kernel
theorem d_Mo_waysFrom_155 : decode b_Mo_waysFrom 155 = .ok (.imul, 1) := by decide +kernel
theorem d_Mo_waysFrom_156 : decode b_Mo_waysFrom 156 = .ok (.iload_n 1, 1) := by decide +kernel
theorem d_Mo_waysFrom_157 : decode b_Mo_waysFrom 157 = .ok (.iadd, 1) := by decide +kernel
theorem d_Mo_waysFrom_158 : decode b_Mo_waysFrom 158 = .ok (.iaload, 1) := by decide +kernel
theorem d_Mo_waysFrom_159 : decode b_Mo_waysFrom 159 = .ok (.iadd, 1) := by decide +kernel
theorem d_Mo_waysFrom_160 : decode b_Mo_waysFrom 160 = .ok (.iload_n 3, 1) := by decide +kernel
theorem d_Mo_waysFrom_161 : decode b_Mo_waysFrom 161 = .ok (.iconst 1, 1) := by decide +kernel
theorem d_Mo_waysFrom_162 : decode b_Mo_waysFrom 162 = .ok (.iadd, 1) := by decide +kernel
theorem d_Mo_waysFrom_163 : decode b_Mo_waysFrom 163 = .ok (.invokevirtual 193, 3) := by decide +kernel
theorem d_Mo_waysFrom_166 : decode b_Mo_waysFrom 166 = .ok (.aload_n 0, 1) := by decide +kernel
theorem d_Mo_waysFrom_167 : decode b_Mo_waysFrom 167 = .ok (.getfield 34, 3) := by decide +kernel
theorem d_Mo_waysFrom_170 : decode b_Mo_waysFrom 170 = .ok (.iload 4, 2) := by decide +kernel
theorem d_Mo_waysFrom_172 : decode b_Mo_waysFrom 172 = .ok (.dup2, 1) := by decide +kernel
theorem d_Mo_waysFrom_173 : decode b_Mo_waysFrom 173 = .ok (.iaload, 1) := by decide +kernel
theorem d_Mo_waysFrom_174 : decode b_Mo_waysFrom 174 = .ok (.aload_n 0, 1) := by decide +kernel
theorem d_Mo_waysFrom_175 : decode b_Mo_waysFrom 175 = .ok (.getfield 9, 3) := by decide +kernel
theorem d_Mo_waysFrom_178 : decode b_Mo_waysFrom 178 = .ok (.bipush 58, 2) := by decide +kernel
theorem d_Mo_waysFrom_180 : decode b_Mo_waysFrom 180 = .ok (.iload_n 1, 1) := by decide +kernel
theorem d_Mo_waysFrom_181 : decode b_Mo_waysFrom 181 = .ok (.iadd, 1) := by decide +kernel
theorem d_Mo_waysFrom_182 : decode b_Mo_waysFrom 182 = .ok (.iaload, 1) := by decide +kernel
theorem d_Mo_waysFrom_183 : decode b_Mo_waysFrom 183 = .ok (.isub, 1) := by decide +kernel
theorem d_Mo_waysFrom_184 : decode b_Mo_waysFrom 184 = .ok (.iastore, 1) := by decide +kernel
theorem d_Mo_waysFrom_185 : decode b_Mo_waysFrom 185 = .ok (.iinc 4 1, 3) := by decide +kernel
theorem d_Mo_waysFrom_188 : decode b_Mo_waysFrom 188 = .ok (.goto (-111), 3) := by decide +kernel
theorem d_Mo_waysFrom_191 : decode b_Mo_waysFrom 191 = .ok (.aload_n 0, 1) := by decide +kernel
theorem d_Mo_waysFrom_192 : decode b_Mo_waysFrom 192 = .ok (.getfield 37, 3) := by decide +kernel
theorem d_Mo_waysFrom_195 : decode b_Mo_waysFrom 195 = .ok (.iload_n 1, 1) := by decide +kernel
theorem d_Mo_waysFrom_196 : decode b_Mo_waysFrom 196 = .ok (.iconst 4, 1) := by decide +kernel
theorem d_Mo_waysFrom_197 : decode b_Mo_waysFrom 197 = .ok (.iastore, 1) := by decide +kernel
theorem d_Mo_waysFrom_198 : decode b_Mo_waysFrom 198 = .ok (.aload_n 0, 1) := by decide +kernel
theorem d_Mo_waysFrom_199 : decode b_Mo_waysFrom 199 = .ok (.iload_n 1, 1) := by decide +kernel
theorem d_Mo_waysFrom_200 : decode b_Mo_waysFrom 200 = .ok (.iconst 1, 1) := by decide +kernel
theorem d_Mo_waysFrom_201 : decode b_Mo_waysFrom 201 = .ok (.iadd, 1) := by decide +kernel
theorem d_Mo_waysFrom_202 : decode b_Mo_waysFrom 202 = .ok (.iload_n 2, 1) := by decide +kernel
theorem d_Mo_waysFrom_203 : decode b_Mo_waysFrom 203 = .ok (.iload_n 3, 1) := by decide +kernel
theorem d_Mo_waysFrom_204 : decode b_Mo_waysFrom 204 = .ok (.invokevirtual 193, 3) := by decide +kernel
theorem d_Mo_waysFrom_207 : decode b_Mo_waysFrom 207 = .ok (.return_, 1) := by decide +kernel
theorem o_Mo_waysFrom : OkV y_Mo_waysFrom "OwnsLiftModel" b_Mo_waysFrom 5 none 3 := ⟨⟨rfl, by decide +kernel, by decide +kernel, by decide +kernel⟩, g_1256, g_54, g_81, g_1257⟩

set_option maxHeartbeats 8000000 in
set_option maxRecDepth 100000 in
theorem cg_Mo_waysFrom : ∀ nr : Nat, (∀ (l : Launch) (D : va_G) (g : Nat → ClassId) (a : Nat → Nat) (x1 : Int32) (x2 : Int32) (x3 : Int32) (z : T_Mo) (v : T_Mo) (h : d_Mo_waysFrom nr x1 x2 x3 z = some v), MV l y_Mo_waysFrom b_Mo_waysFrom 5 ({ frames := 1 + 2 * nr, cells := 0, slots := 0, locals := 1 + 60 * nr } : Room) D g [.ref (a 0), .int x1, .int x2, .int x3] (ws_Mo g a z) (ws_Mo g a v)) := by
  intro nr
  induction nr with
  | zero =>
    exact (by intro l D g a x1 x2 x3 z v h; have h : none = some v := h; cases h)
  | succ nr ih =>
    refine ?_
    · intro l D g a x1 x2 x3 z v h
      have hd : B_Mo_waysFrom (d_Mo_waysFrom nr) x1 x2 x3 z = some v := h
      have ihc := ih
      generalize hrc : (d_Mo_waysFrom nr) = rc at hd
      have ih : ∀ (l : Launch) (D : va_G) (g : Nat → ClassId) (a : Nat → Nat) (x1 : Int32) (x2 : Int32) (x3 : Int32) (z : T_Mo) (v : T_Mo) (h : rc x1 x2 x3 z = some v), MV l y_Mo_waysFrom b_Mo_waysFrom 5 ({ frames := 1 + 2 * nr, cells := 0, slots := 0, locals := 1 + 60 * nr } : Room) D g [.ref (a 0), .int x1, .int x2, .int x3] (ws_Mo g a z) (ws_Mo g a v) := fun l D g a x1 x2 x3 z v h => ih l D g a x1 x2 x3 z v (by rw [hrc]; exact h)
      clear ihc hrc
      unfold B_Mo_waysFrom at hd
      refine enterV rfl (Nat.le_of_ble_eq_true rfl) (fun p e s m below meth c A ls hx hb hml hr hown hg hlk hK hA hP hD hS hCs hl => ?_)
      have hown : s.vm.findClass "OwnsLiftModel" = some m.cls := hown
      have hl : lv_has ls 5 [(0, .ref (a 0)), (1, .int x1), (2, .int x2), (3, .int x3)] := hl
      show GV p l e s m ({ frames := 1 + 2 * (nr + 1), cells := 0, slots := 0, locals := 1 + 60 * (nr + 1) } : Room) ([.ref (a 0), .int x1, .int x2, .int x3] : List Value).toArray below meth c A D g (ws_Mo g a v) s.heap [] (F0 m 0 ls [])
      refine lv_iload_n hx hb d_Mo_waysFrom_0 rfl (lv_at hl 1 rfl) ?_
      refine lv_aload_n hx hb d_Mo_waysFrom_1 rfl (lv_at hl 0 rfl) ?_
      refine va_get (D := D) (ci := 1) (v := .ref (a 1)) (C := R_Mo) (T := F_Mo) (N := 26) hx hb hg i_Mo hown hK hP 0 rfl rfl 1 (by decide) (hg _ g_993) (fun _ h9 => h9) rfl d_Mo_waysFrom_2 ?_
      refine lv_iconst (v := 1) hx hb d_Mo_waysFrom_5 (by decide) ?_
      refine ialdK hx hb hK hP 1 0 rfl rfl (inb_t (by decide +kernel)) (k := 1) (by decide +kernel) d_Mo_waysFrom_6 ?_
      refine lv_icmp_ne (tgt := 74) hx hb d_Mo_waysFrom_7 (by decide) (fun h_1 => ?_) (fun h_1 => ?_)
      · have hd := ite_f hd h_1
        refine lv_iconst (v := 0) hx hb d_Mo_waysFrom_74 (by decide) ?_
        refine lv_istore (lv' := [(4, .int 0), (0, .ref (a 0)), (1, .int x1), (2, .int x2), (3, .int x3)]) hx hb d_Mo_waysFrom_75 hl (by decide) rfl (fun ls hl => ?_)
        have lp77 : ∀ (x1_f77 : Int32) (x2_f77 : Int32) (x3_f77 : Int32) (n : Nat) (x4_77 : Int32) (z_77 : T_Mo) (H : Heap) (locs : List Loc) (ls : Array Slot), va_P D classes (ws_Mo g a z_77) H → va_D A (ws_Mo g a z_77) → va_S A s.heap H locs → lv_has ls 5 [(0, .ref (a 0)), (1, .int x1_f77), (2, .int x2_f77), (3, .int x3_f77), (4, .int x4_77)] → d_Mo_waysFrom_L77 rc x1_f77 x2_f77 x3_f77 n x4_77 z_77 = some v → GV p l e s m ({ frames := 1 + 2 * (nr + 1), cells := 0, slots := 0, locals := 1 + 60 * (nr + 1) } : Room) ([.ref (a 0), .int x1, .int x2, .int x3] : List Value).toArray below meth c A D g (ws_Mo g a v) H locs (F0 m 77 ls []) := by
          intro x1_f77 x2_f77 x3_f77 n
          induction n with
          | zero =>
            intro  x4_77 z_77 H locs ls hP hD hS hl hd
            have hd : none = some v := hd
            cases hd
          | succ n ih77 =>
            intro  x4_77 z_77 H locs ls hP hD hS hl hd
            have hd : B_Mo_waysFrom_L77 rc x1_f77 x2_f77 x3_f77 (d_Mo_waysFrom_L77 rc x1_f77 x2_f77 x3_f77 n) x4_77 z_77 = some v := hd
            generalize d_Mo_waysFrom_L77 rc x1_f77 x2_f77 x3_f77 n = self77 at ih77 hd
            unfold B_Mo_waysFrom_L77 at hd
            refine lv_iload hx hb d_Mo_waysFrom_77 (lv_at hl 4 rfl) ?_
            refine lv_aload_n hx hb d_Mo_waysFrom_79 rfl (lv_at hl 0 rfl) ?_
            refine va_get (D := D) (ci := 1) (v := .ref (a 1)) (C := R_Mo) (T := F_Mo) (N := 26) hx hb hg i_Mo hown hK hP 0 rfl rfl 1 (by decide) (hg _ g_993) (fun _ h9 => h9) rfl d_Mo_waysFrom_80 ?_
            refine lv_iconst (v := 0) hx hb d_Mo_waysFrom_83 (by decide) ?_
            refine ialdK hx hb hK hP 1 0 rfl rfl (inb_t (by decide +kernel)) (k := 0) (by decide +kernel) d_Mo_waysFrom_84 ?_
            refine lv_icmp_ge (tgt := 191) hx hb d_Mo_waysFrom_85 (by decide) (fun h_2 => ?_) (fun h_2 => ?_)
            · have hd := ite_t hd h_2
              refine lv_aload_n hx hb d_Mo_waysFrom_191 rfl (lv_at hl 0 rfl) ?_
              refine va_get (D := D) (ci := 1) (v := .ref (a 9)) (C := R_Mo) (T := F_Mo) (N := 26) hx hb hg i_Mo hown hK hP 0 rfl rfl 15 (by decide) (hg _ g_1007) (fun _ h9 => h9) rfl d_Mo_waysFrom_192 ?_
              refine lv_iload_n hx hb d_Mo_waysFrom_195 rfl (lv_at hl 1 rfl) ?_
              refine lv_iconst (v := 4) hx hb d_Mo_waysFrom_196 (by decide) ?_
              obtain ⟨h_5, hd⟩ := ite_s hd
              refine iastK hx hb hK hP hD hS 9 0 rfl rfl (inb_t h_5) rfl d_Mo_waysFrom_197 (fun H locs hP hD hS => ?_)
              have hP : va_P D classes (ws_Mo g a (u_Mo_way z_77 (upd (q_Mo_way z_77) x1_f77.toNatClampNeg 4))) H := hP
              have hD : va_D A (ws_Mo g a (u_Mo_way z_77 (upd (q_Mo_way z_77) x1_f77.toNatClampNeg 4))) := hD
              refine lv_aload_n hx hb d_Mo_waysFrom_198 rfl (lv_at hl 0 rfl) ?_
              refine lv_iload_n hx hb d_Mo_waysFrom_199 rfl (lv_at hl 1 rfl) ?_
              refine lv_iconst (v := 1) hx hb d_Mo_waysFrom_200 (by decide) ?_
              refine lv_iadd hx hb d_Mo_waysFrom_201 ?_
              refine lv_iload_n hx hb d_Mo_waysFrom_202 rfl (lv_at hl 2 rfl) ?_
              refine lv_iload_n hx hb d_Mo_waysFrom_203 rfl (lv_at hl 3 rfl) ?_
              obtain ⟨v_3, e_4, hd⟩ := bind_s hd
              refine callVV (ws' := ws_Mo g a v_3) (rest := []) (As := [.int (x1_f77 + 1), .int x2_f77, .int x3_f77]) hx hb hml hown hg hK hP hD hS hA hCs hl.1 (ih l D g a (x1_f77 + 1) x2_f77 x3_f77 (u_Mo_way z_77 (upd (q_Mo_way z_77) x1_f77.toNatClampNeg 4)) _ e_4) o_Mo_waysFrom g_1254 (ci := 1) (q0 := 0) rfl rfl (List.range' 0 12) (segC1 rfl rfl) (by decide) rfl (segP1 rfl rfl) rfl rfl (Nat.le_of_ble_eq_true rfl) ⟨rfl, rfl, by show _ ≤ _; (try dsimp only); omega, by show _ ≤ _; (try dsimp only); omega⟩ d_Mo_waysFrom_204 (fun H locs hP hD hS => ?_)
              obtain rfl := Option.some.inj hd
              exact retV hx hb hr hlk hK hP hD hS d_Mo_waysFrom_207
            · have hd := ite_f hd h_2
              refine lv_aload_n hx hb d_Mo_waysFrom_88 rfl (lv_at hl 0 rfl) ?_
              refine va_get (D := D) (ci := 1) (v := .ref (a 8)) (C := R_Mo) (T := F_Mo) (N := 26) hx hb hg i_Mo hown hK hP 0 rfl rfl 14 (by decide) (hg _ g_1006) (fun _ h9 => h9) rfl d_Mo_waysFrom_89 ?_
              refine lv_iload hx hb d_Mo_waysFrom_92 (lv_at hl 4 rfl) ?_
              obtain ⟨h_19, hd⟩ := ite_s hd
              refine ialdK hx hb hK hP 8 0 rfl rfl (inb_t h_19) rfl d_Mo_waysFrom_94 ?_
              refine lv_aload_n hx hb d_Mo_waysFrom_95 rfl (lv_at hl 0 rfl) ?_
              refine va_get (D := D) (ci := 1) (v := .ref (a 1)) (C := R_Mo) (T := F_Mo) (N := 26) hx hb hg i_Mo hown hK hP 0 rfl rfl 1 (by decide) (hg _ g_993) (fun _ h9 => h9) rfl d_Mo_waysFrom_96 ?_
              refine lv_bipush (v := 58) hx hb d_Mo_waysFrom_99 (by decide) ?_
              refine lv_iload_n hx hb d_Mo_waysFrom_101 rfl (lv_at hl 1 rfl) ?_
              refine lv_iadd hx hb d_Mo_waysFrom_102 ?_
              obtain ⟨h_18, hd⟩ := ite_s hd
              refine ialdK hx hb hK hP 1 0 rfl rfl (inb_t h_18) rfl d_Mo_waysFrom_103 ?_
              refine lv_iadd hx hb d_Mo_waysFrom_104 ?_
              refine lv_aload_n hx hb d_Mo_waysFrom_105 rfl (lv_at hl 0 rfl) ?_
              refine va_get (D := D) (ci := 1) (v := .ref (a 7)) (C := R_Mo) (T := F_Mo) (N := 26) hx hb hg i_Mo hown hK hP 0 rfl rfl 13 (by decide) (hg _ g_1005) (fun _ h9 => h9) rfl d_Mo_waysFrom_106 ?_
              refine lv_iload hx hb d_Mo_waysFrom_109 (lv_at hl 4 rfl) ?_
              obtain ⟨h_17, hd⟩ := ite_s hd
              refine ialdK hx hb hK hP 7 0 rfl rfl (inb_t h_17) rfl d_Mo_waysFrom_111 ?_
              refine lv_icmp_gt (tgt := 185) hx hb d_Mo_waysFrom_112 (by decide) (fun h_6 => ?_) (fun h_6 => ?_)
              · have hd := ite_t hd h_6
                refine lv_iinc (v := x4_77 + 1) (lv' := [(4, .int (x4_77 + 1)), (0, .ref (a 0)), (1, .int x1_f77), (2, .int x2_f77), (3, .int x3_f77)]) hx hb d_Mo_waysFrom_185 hl (k := 4) rfl (by rfl) (by decide) rfl (fun ls hl => ?_)
                refine lv_goto (tgt := 77) hx hb d_Mo_waysFrom_188 (by decide) ?_
                exact ih77 (x4_77 + 1) z_77 _ _ _ hP hD hS (lv_sub hl [1, 2, 3, 4, 0] rfl) hd
              · have hd := ite_f hd h_6
                refine lv_aload_n hx hb d_Mo_waysFrom_115 rfl (lv_at hl 0 rfl) ?_
                refine va_get (D := D) (ci := 1) (v := .ref (a 8)) (C := R_Mo) (T := F_Mo) (N := 26) hx hb hg i_Mo hown hK hP 0 rfl rfl 14 (by decide) (hg _ g_1006) (fun _ h9 => h9) rfl d_Mo_waysFrom_116 ?_
                refine lv_iload hx hb d_Mo_waysFrom_119 (lv_at hl 4 rfl) ?_
                refine lv_dup2_11 hx hb d_Mo_waysFrom_121 rfl rfl ?_
                obtain ⟨h_16, hd⟩ := ite_s hd
                refine ialdK hx hb hK hP 8 0 rfl rfl (inb_t h_16) rfl d_Mo_waysFrom_122 ?_
                refine lv_aload_n hx hb d_Mo_waysFrom_123 rfl (lv_at hl 0 rfl) ?_
                refine va_get (D := D) (ci := 1) (v := .ref (a 1)) (C := R_Mo) (T := F_Mo) (N := 26) hx hb hg i_Mo hown hK hP 0 rfl rfl 1 (by decide) (hg _ g_993) (fun _ h9 => h9) rfl d_Mo_waysFrom_124 ?_
                refine lv_bipush (v := 58) hx hb d_Mo_waysFrom_127 (by decide) ?_
                refine lv_iload_n hx hb d_Mo_waysFrom_129 rfl (lv_at hl 1 rfl) ?_
                refine lv_iadd hx hb d_Mo_waysFrom_130 ?_
                obtain ⟨h_15, hd⟩ := ite_s hd
                refine ialdK hx hb hK hP 1 0 rfl rfl (inb_t h_15) rfl d_Mo_waysFrom_131 ?_
                refine lv_iadd hx hb d_Mo_waysFrom_132 ?_
                obtain ⟨h_14, hd⟩ := ite_s hd
                refine iastK hx hb hK hP hD hS 8 0 rfl rfl (inb_t h_14) rfl d_Mo_waysFrom_133 (fun H locs hP hD hS => ?_)
                have hP : va_P D classes (ws_Mo g a (u_Mo_loads z_77 (upd (q_Mo_loads z_77) x4_77.toNatClampNeg (((q_Mo_loads z_77) x4_77.toNatClampNeg) + ((q_Mo_s z_77) (58 + x1_f77).toNatClampNeg))))) H := hP
                have hD : va_D A (ws_Mo g a (u_Mo_loads z_77 (upd (q_Mo_loads z_77) x4_77.toNatClampNeg (((q_Mo_loads z_77) x4_77.toNatClampNeg) + ((q_Mo_s z_77) (58 + x1_f77).toNatClampNeg))))) := hD
                refine lv_aload_n hx hb d_Mo_waysFrom_134 rfl (lv_at hl 0 rfl) ?_
                refine va_get (D := D) (ci := 1) (v := .ref (a 9)) (C := R_Mo) (T := F_Mo) (N := 26) hx hb hg i_Mo hown hK hP 0 rfl rfl 15 (by decide) (hg _ g_1007) (fun _ h9 => h9) rfl d_Mo_waysFrom_135 ?_
                refine lv_iload_n hx hb d_Mo_waysFrom_138 rfl (lv_at hl 1 rfl) ?_
                refine lv_iload hx hb d_Mo_waysFrom_139 (lv_at hl 4 rfl) ?_
                obtain ⟨h_13, hd⟩ := ite_s hd
                refine iastK hx hb hK hP hD hS 9 0 rfl rfl (inb_t h_13) rfl d_Mo_waysFrom_141 (fun H locs hP hD hS => ?_)
                have hP : va_P D classes (ws_Mo g a (u_Mo_way (u_Mo_loads z_77 (upd (q_Mo_loads z_77) x4_77.toNatClampNeg (((q_Mo_loads z_77) x4_77.toNatClampNeg) + ((q_Mo_s z_77) (58 + x1_f77).toNatClampNeg)))) (upd (q_Mo_way (u_Mo_loads z_77 (upd (q_Mo_loads z_77) x4_77.toNatClampNeg (((q_Mo_loads z_77) x4_77.toNatClampNeg) + ((q_Mo_s z_77) (58 + x1_f77).toNatClampNeg))))) x1_f77.toNatClampNeg x4_77))) H := hP
                have hD : va_D A (ws_Mo g a (u_Mo_way (u_Mo_loads z_77 (upd (q_Mo_loads z_77) x4_77.toNatClampNeg (((q_Mo_loads z_77) x4_77.toNatClampNeg) + ((q_Mo_s z_77) (58 + x1_f77).toNatClampNeg)))) (upd (q_Mo_way (u_Mo_loads z_77 (upd (q_Mo_loads z_77) x4_77.toNatClampNeg (((q_Mo_loads z_77) x4_77.toNatClampNeg) + ((q_Mo_s z_77) (58 + x1_f77).toNatClampNeg))))) x1_f77.toNatClampNeg x4_77))) := hD
                refine lv_aload_n hx hb d_Mo_waysFrom_142 rfl (lv_at hl 0 rfl) ?_
                refine lv_iload_n hx hb d_Mo_waysFrom_143 rfl (lv_at hl 1 rfl) ?_
                refine lv_iconst (v := 1) hx hb d_Mo_waysFrom_144 (by decide) ?_
                refine lv_iadd hx hb d_Mo_waysFrom_145 ?_
                refine lv_iload_n hx hb d_Mo_waysFrom_146 rfl (lv_at hl 2 rfl) ?_
                refine lv_aload_n hx hb d_Mo_waysFrom_147 rfl (lv_at hl 0 rfl) ?_
                refine va_get (D := D) (ci := 1) (v := .ref (a 6)) (C := R_Mo) (T := F_Mo) (N := 26) hx hb hg i_Mo hown hK hP 0 rfl rfl 12 (by decide) (hg _ g_1004) (fun _ h9 => h9) rfl d_Mo_waysFrom_148 ?_
                refine lv_bipush (v := 7) hx hb d_Mo_waysFrom_151 (by decide) ?_
                refine lv_iload hx hb d_Mo_waysFrom_153 (lv_at hl 4 rfl) ?_
                refine lv_imul hx hb d_Mo_waysFrom_155 ?_
                refine lv_iload_n hx hb d_Mo_waysFrom_156 rfl (lv_at hl 1 rfl) ?_
                refine lv_iadd hx hb d_Mo_waysFrom_157 ?_
                obtain ⟨h_12, hd⟩ := ite_s hd
                refine ialdK hx hb hK hP 6 0 rfl rfl (inb_t h_12) rfl d_Mo_waysFrom_158 ?_
                refine lv_iadd hx hb d_Mo_waysFrom_159 ?_
                refine lv_iload_n hx hb d_Mo_waysFrom_160 rfl (lv_at hl 3 rfl) ?_
                refine lv_iconst (v := 1) hx hb d_Mo_waysFrom_161 (by decide) ?_
                refine lv_iadd hx hb d_Mo_waysFrom_162 ?_
                obtain ⟨v_7, e_8, hd⟩ := bind_s hd
                refine callVV (ws' := ws_Mo g a v_7) (rest := []) (As := [.int (x1_f77 + 1), .int (x2_f77 + ((q_Mo_likes (u_Mo_way (u_Mo_loads z_77 (upd (q_Mo_loads z_77) x4_77.toNatClampNeg (((q_Mo_loads z_77) x4_77.toNatClampNeg) + ((q_Mo_s z_77) (58 + x1_f77).toNatClampNeg)))) (upd (q_Mo_way (u_Mo_loads z_77 (upd (q_Mo_loads z_77) x4_77.toNatClampNeg (((q_Mo_loads z_77) x4_77.toNatClampNeg) + ((q_Mo_s z_77) (58 + x1_f77).toNatClampNeg))))) x1_f77.toNatClampNeg x4_77))) ((7 * x4_77) + x1_f77).toNatClampNeg)), .int (x3_f77 + 1)]) hx hb hml hown hg hK hP hD hS hA hCs hl.1 (ih l D g a (x1_f77 + 1) (x2_f77 + ((q_Mo_likes (u_Mo_way (u_Mo_loads z_77 (upd (q_Mo_loads z_77) x4_77.toNatClampNeg (((q_Mo_loads z_77) x4_77.toNatClampNeg) + ((q_Mo_s z_77) (58 + x1_f77).toNatClampNeg)))) (upd (q_Mo_way (u_Mo_loads z_77 (upd (q_Mo_loads z_77) x4_77.toNatClampNeg (((q_Mo_loads z_77) x4_77.toNatClampNeg) + ((q_Mo_s z_77) (58 + x1_f77).toNatClampNeg))))) x1_f77.toNatClampNeg x4_77))) ((7 * x4_77) + x1_f77).toNatClampNeg)) (x3_f77 + 1) (u_Mo_way (u_Mo_loads z_77 (upd (q_Mo_loads z_77) x4_77.toNatClampNeg (((q_Mo_loads z_77) x4_77.toNatClampNeg) + ((q_Mo_s z_77) (58 + x1_f77).toNatClampNeg)))) (upd (q_Mo_way (u_Mo_loads z_77 (upd (q_Mo_loads z_77) x4_77.toNatClampNeg (((q_Mo_loads z_77) x4_77.toNatClampNeg) + ((q_Mo_s z_77) (58 + x1_f77).toNatClampNeg))))) x1_f77.toNatClampNeg x4_77)) _ e_8) o_Mo_waysFrom g_1254 (ci := 1) (q0 := 0) rfl rfl (List.range' 0 12) (segC1 rfl rfl) (by decide) rfl (segP1 rfl rfl) rfl rfl (Nat.le_of_ble_eq_true rfl) ⟨rfl, rfl, by show _ ≤ _; (try dsimp only); omega, by show _ ≤ _; (try dsimp only); omega⟩ d_Mo_waysFrom_163 (fun H locs hP hD hS => ?_)
                refine lv_aload_n hx hb d_Mo_waysFrom_166 rfl (lv_at hl 0 rfl) ?_
                refine va_get (D := D) (ci := 1) (v := .ref (a 8)) (C := R_Mo) (T := F_Mo) (N := 26) hx hb hg i_Mo hown hK hP 0 rfl rfl 14 (by decide) (hg _ g_1006) (fun _ h9 => h9) rfl d_Mo_waysFrom_167 ?_
                refine lv_iload hx hb d_Mo_waysFrom_170 (lv_at hl 4 rfl) ?_
                refine lv_dup2_11 hx hb d_Mo_waysFrom_172 rfl rfl ?_
                obtain ⟨h_11, hd⟩ := ite_s hd
                refine ialdK hx hb hK hP 8 0 rfl rfl (inb_t h_11) rfl d_Mo_waysFrom_173 ?_
                refine lv_aload_n hx hb d_Mo_waysFrom_174 rfl (lv_at hl 0 rfl) ?_
                refine va_get (D := D) (ci := 1) (v := .ref (a 1)) (C := R_Mo) (T := F_Mo) (N := 26) hx hb hg i_Mo hown hK hP 0 rfl rfl 1 (by decide) (hg _ g_993) (fun _ h9 => h9) rfl d_Mo_waysFrom_175 ?_
                refine lv_bipush (v := 58) hx hb d_Mo_waysFrom_178 (by decide) ?_
                refine lv_iload_n hx hb d_Mo_waysFrom_180 rfl (lv_at hl 1 rfl) ?_
                refine lv_iadd hx hb d_Mo_waysFrom_181 ?_
                obtain ⟨h_10, hd⟩ := ite_s hd
                refine ialdK hx hb hK hP 1 0 rfl rfl (inb_t h_10) rfl d_Mo_waysFrom_182 ?_
                refine lv_isub hx hb d_Mo_waysFrom_183 ?_
                obtain ⟨h_9, hd⟩ := ite_s hd
                refine iastK hx hb hK hP hD hS 8 0 rfl rfl (inb_t h_9) rfl d_Mo_waysFrom_184 (fun H locs hP hD hS => ?_)
                have hP : va_P D classes (ws_Mo g a (u_Mo_loads v_7 (upd (q_Mo_loads v_7) x4_77.toNatClampNeg (((q_Mo_loads v_7) x4_77.toNatClampNeg) - ((q_Mo_s v_7) (58 + x1_f77).toNatClampNeg))))) H := hP
                have hD : va_D A (ws_Mo g a (u_Mo_loads v_7 (upd (q_Mo_loads v_7) x4_77.toNatClampNeg (((q_Mo_loads v_7) x4_77.toNatClampNeg) - ((q_Mo_s v_7) (58 + x1_f77).toNatClampNeg))))) := hD
                refine lv_iinc (v := x4_77 + 1) (lv' := [(4, .int (x4_77 + 1)), (0, .ref (a 0)), (1, .int x1_f77), (2, .int x2_f77), (3, .int x3_f77)]) hx hb d_Mo_waysFrom_185 hl (k := 4) rfl (by rfl) (by decide) rfl (fun ls hl => ?_)
                refine lv_goto (tgt := 77) hx hb d_Mo_waysFrom_188 (by decide) ?_
                exact ih77 (x4_77 + 1) (u_Mo_loads v_7 (upd (q_Mo_loads v_7) x4_77.toNatClampNeg (((q_Mo_loads v_7) x4_77.toNatClampNeg) - ((q_Mo_s v_7) (58 + x1_f77).toNatClampNeg)))) _ _ _ hP hD hS (lv_sub hl [1, 2, 3, 4, 0] rfl) hd
        exact lp77 x1 x2 x3 1000 0 z _ _ _ hP hD hS (lv_sub hl [1, 2, 3, 4, 0] rfl) hd
      · have hd := ite_t hd h_1
        refine lv_aload_n hx hb d_Mo_waysFrom_10 rfl (lv_at hl 0 rfl) ?_
        refine lv_iload_n hx hb d_Mo_waysFrom_11 rfl (lv_at hl 3 rfl) ?_
        refine lv_aload_n hx hb d_Mo_waysFrom_12 rfl (lv_at hl 0 rfl) ?_
        refine va_get (D := D) (ci := 1) (v := .int (q_Mo_mostOwned z)) (C := R_Mo) (T := F_Mo) (N := 26) hx hb hg i_Mo hown hK hP 0 rfl rfl 18 (by decide) (hg _ g_1010) (fun _ h9 => h9) rfl d_Mo_waysFrom_13 ?_
        refine lv_icmp_le (tgt := 23) hx hb d_Mo_waysFrom_16 (by decide) (fun h_20 => ?_) (fun h_20 => ?_)
        · have hd := ite_t hd h_20
          refine lv_aload_n hx hb d_Mo_waysFrom_23 rfl (lv_at hl 0 rfl) ?_
          refine va_get (D := D) (ci := 1) (v := .int (q_Mo_mostOwned z)) (C := R_Mo) (T := F_Mo) (N := 26) hx hb hg i_Mo hown hK hP 0 rfl rfl 18 (by decide) (hg _ g_1010) (fun _ h9 => h9) rfl d_Mo_waysFrom_24 ?_
          refine va_put (D := D) (ci := 1) (v := .int (q_Mo_mostOwned z)) (ty := .int) (C := R_Mo) (T := F_Mo) (N := 26) hx hb hg i_Mo t_Mo t_Mo_ok n_Mo hown hK hP hD hS 0 rfl rfl 18 (by decide) (hg _ g_1010) (fun _ h9 => h9) rfl (by decide +kernel) rfl rfl (Nat.le_of_ble_eq_true rfl) d_Mo_waysFrom_27 (fun H locs hP hD hS => ?_)
          have hP : va_P D classes (ws_Mo g a (u_Mo_mostOwned z (q_Mo_mostOwned z))) H := hP
          have hD : va_D A (ws_Mo g a (u_Mo_mostOwned z (q_Mo_mostOwned z))) := hD
          refine lv_iload_n hx hb d_Mo_waysFrom_30 rfl (lv_at hl 2 rfl) ?_
          refine lv_aload_n hx hb d_Mo_waysFrom_31 rfl (lv_at hl 0 rfl) ?_
          refine va_get (D := D) (ci := 1) (v := .int (q_Mo_bestLike (u_Mo_mostOwned z (q_Mo_mostOwned z)))) (C := R_Mo) (T := F_Mo) (N := 26) hx hb hg i_Mo hown hK hP 0 rfl rfl 17 (by decide) (hg _ g_1009) (fun _ h9 => h9) rfl d_Mo_waysFrom_32 ?_
          refine lv_icmp_le (tgt := 73) hx hb d_Mo_waysFrom_35 (by decide) (fun h_21 => ?_) (fun h_21 => ?_)
          · have hd := ite_t hd h_21
            obtain rfl := Option.some.inj hd
            exact retV hx hb hr hlk hK hP hD hS d_Mo_waysFrom_73
          · have hd := ite_f hd h_21
            refine lv_aload_n hx hb d_Mo_waysFrom_38 rfl (lv_at hl 0 rfl) ?_
            refine lv_iload_n hx hb d_Mo_waysFrom_39 rfl (lv_at hl 2 rfl) ?_
            refine va_put (D := D) (ci := 1) (v := .int x2) (ty := .int) (C := R_Mo) (T := F_Mo) (N := 26) hx hb hg i_Mo t_Mo t_Mo_ok n_Mo hown hK hP hD hS 0 rfl rfl 17 (by decide) (hg _ g_1009) (fun _ h9 => h9) rfl (by decide +kernel) rfl rfl (Nat.le_of_ble_eq_true rfl) d_Mo_waysFrom_40 (fun H locs hP hD hS => ?_)
            have hP : va_P D classes (ws_Mo g a (u_Mo_bestLike (u_Mo_mostOwned z (q_Mo_mostOwned z)) x2)) H := hP
            have hD : va_D A (ws_Mo g a (u_Mo_bestLike (u_Mo_mostOwned z (q_Mo_mostOwned z)) x2)) := hD
            refine lv_iconst (v := 0) hx hb d_Mo_waysFrom_43 (by decide) ?_
            refine lv_istore (lv' := [(4, .int 0), (0, .ref (a 0)), (1, .int x1), (2, .int x2), (3, .int x3)]) hx hb d_Mo_waysFrom_44 hl (by decide) rfl (fun ls hl => ?_)
            have lp46 : ∀ (n : Nat) (x4_46 : Int32) (z_46 : T_Mo) (H : Heap) (locs : List Loc) (ls : Array Slot), va_P D classes (ws_Mo g a z_46) H → va_D A (ws_Mo g a z_46) → va_S A s.heap H locs → lv_has ls 5 [(0, .ref (a 0)), (4, .int x4_46)] → d_Mo_waysFrom_L46 rc n x4_46 z_46 = some v → GV p l e s m ({ frames := 1 + 2 * (nr + 1), cells := 0, slots := 0, locals := 1 + 60 * (nr + 1) } : Room) ([.ref (a 0), .int x1, .int x2, .int x3] : List Value).toArray below meth c A D g (ws_Mo g a v) H locs (F0 m 46 ls []) := by
              intro n
              induction n with
              | zero =>
                intro  x4_46 z_46 H locs ls hP hD hS hl hd
                have hd : none = some v := hd
                cases hd
              | succ n ih46 =>
                intro  x4_46 z_46 H locs ls hP hD hS hl hd
                have hd : B_Mo_waysFrom_L46 rc (d_Mo_waysFrom_L46 rc n) x4_46 z_46 = some v := hd
                generalize d_Mo_waysFrom_L46 rc n = self46 at ih46 hd
                unfold B_Mo_waysFrom_L46 at hd
                refine lv_iload hx hb d_Mo_waysFrom_46 (lv_at hl 1 rfl) ?_
                refine lv_bipush (v := 7) hx hb d_Mo_waysFrom_48 (by decide) ?_
                refine lv_icmp_ge (tgt := 73) hx hb d_Mo_waysFrom_50 (by decide) (fun h_22 => ?_) (fun h_22 => ?_)
                · have hd := ite_t hd h_22
                  obtain rfl := Option.some.inj hd
                  exact retV hx hb hr hlk hK hP hD hS d_Mo_waysFrom_73
                · have hd := ite_f hd h_22
                  refine lv_aload_n hx hb d_Mo_waysFrom_53 rfl (lv_at hl 0 rfl) ?_
                  refine va_get (D := D) (ci := 1) (v := .ref (a 10)) (C := R_Mo) (T := F_Mo) (N := 26) hx hb hg i_Mo hown hK hP 0 rfl rfl 16 (by decide) (hg _ g_1008) (fun _ h9 => h9) rfl d_Mo_waysFrom_54 ?_
                  refine lv_iload hx hb d_Mo_waysFrom_57 (lv_at hl 1 rfl) ?_
                  refine lv_aload_n hx hb d_Mo_waysFrom_59 rfl (lv_at hl 0 rfl) ?_
                  refine va_get (D := D) (ci := 1) (v := .ref (a 9)) (C := R_Mo) (T := F_Mo) (N := 26) hx hb hg i_Mo hown hK hP 0 rfl rfl 15 (by decide) (hg _ g_1007) (fun _ h9 => h9) rfl d_Mo_waysFrom_60 ?_
                  refine lv_iload hx hb d_Mo_waysFrom_63 (lv_at hl 1 rfl) ?_
                  obtain ⟨h_24, hd⟩ := ite_s hd
                  refine ialdK hx hb hK hP 9 0 rfl rfl (inb_t h_24) rfl d_Mo_waysFrom_65 ?_
                  obtain ⟨h_23, hd⟩ := ite_s hd
                  refine iastK hx hb hK hP hD hS 10 0 rfl rfl (inb_t h_23) rfl d_Mo_waysFrom_66 (fun H locs hP hD hS => ?_)
                  have hP : va_P D classes (ws_Mo g a (u_Mo_bestWay z_46 (upd (q_Mo_bestWay z_46) x4_46.toNatClampNeg ((q_Mo_way z_46) x4_46.toNatClampNeg)))) H := hP
                  have hD : va_D A (ws_Mo g a (u_Mo_bestWay z_46 (upd (q_Mo_bestWay z_46) x4_46.toNatClampNeg ((q_Mo_way z_46) x4_46.toNatClampNeg)))) := hD
                  refine lv_iinc (v := x4_46 + 1) (lv' := [(4, .int (x4_46 + 1)), (0, .ref (a 0))]) hx hb d_Mo_waysFrom_67 hl (k := 1) rfl (by rfl) (by decide) rfl (fun ls hl => ?_)
                  refine lv_goto (tgt := 46) hx hb d_Mo_waysFrom_70 (by decide) ?_
                  exact ih46 (x4_46 + 1) (u_Mo_bestWay z_46 (upd (q_Mo_bestWay z_46) x4_46.toNatClampNeg ((q_Mo_way z_46) x4_46.toNatClampNeg))) _ _ _ hP hD hS (lv_sub hl [1, 0] rfl) hd
            exact lp46 1000 0 (u_Mo_bestLike (u_Mo_mostOwned z (q_Mo_mostOwned z)) x2) _ _ _ hP hD hS (lv_sub hl [1, 0] rfl) hd
        · have hd := ite_f hd h_20
          refine lv_iload_n hx hb d_Mo_waysFrom_19 rfl (lv_at hl 3 rfl) ?_
          refine lv_goto (tgt := 27) hx hb d_Mo_waysFrom_20 (by decide) ?_
          refine va_put (D := D) (ci := 1) (v := .int x3) (ty := .int) (C := R_Mo) (T := F_Mo) (N := 26) hx hb hg i_Mo t_Mo t_Mo_ok n_Mo hown hK hP hD hS 0 rfl rfl 18 (by decide) (hg _ g_1010) (fun _ h9 => h9) rfl (by decide +kernel) rfl rfl (Nat.le_of_ble_eq_true rfl) d_Mo_waysFrom_27 (fun H locs hP hD hS => ?_)
          have hP : va_P D classes (ws_Mo g a (u_Mo_mostOwned z x3)) H := hP
          have hD : va_D A (ws_Mo g a (u_Mo_mostOwned z x3)) := hD
          refine lv_iload_n hx hb d_Mo_waysFrom_30 rfl (lv_at hl 2 rfl) ?_
          refine lv_aload_n hx hb d_Mo_waysFrom_31 rfl (lv_at hl 0 rfl) ?_
          refine va_get (D := D) (ci := 1) (v := .int (q_Mo_bestLike (u_Mo_mostOwned z x3))) (C := R_Mo) (T := F_Mo) (N := 26) hx hb hg i_Mo hown hK hP 0 rfl rfl 17 (by decide) (hg _ g_1009) (fun _ h9 => h9) rfl d_Mo_waysFrom_32 ?_
          refine lv_icmp_le (tgt := 73) hx hb d_Mo_waysFrom_35 (by decide) (fun h_25 => ?_) (fun h_25 => ?_)
          · have hd := ite_t hd h_25
            obtain rfl := Option.some.inj hd
            exact retV hx hb hr hlk hK hP hD hS d_Mo_waysFrom_73
          · have hd := ite_f hd h_25
            refine lv_aload_n hx hb d_Mo_waysFrom_38 rfl (lv_at hl 0 rfl) ?_
            refine lv_iload_n hx hb d_Mo_waysFrom_39 rfl (lv_at hl 2 rfl) ?_
            refine va_put (D := D) (ci := 1) (v := .int x2) (ty := .int) (C := R_Mo) (T := F_Mo) (N := 26) hx hb hg i_Mo t_Mo t_Mo_ok n_Mo hown hK hP hD hS 0 rfl rfl 17 (by decide) (hg _ g_1009) (fun _ h9 => h9) rfl (by decide +kernel) rfl rfl (Nat.le_of_ble_eq_true rfl) d_Mo_waysFrom_40 (fun H locs hP hD hS => ?_)
            have hP : va_P D classes (ws_Mo g a (u_Mo_bestLike (u_Mo_mostOwned z x3) x2)) H := hP
            have hD : va_D A (ws_Mo g a (u_Mo_bestLike (u_Mo_mostOwned z x3) x2)) := hD
            refine lv_iconst (v := 0) hx hb d_Mo_waysFrom_43 (by decide) ?_
            refine lv_istore (lv' := [(4, .int 0), (0, .ref (a 0)), (1, .int x1), (2, .int x2), (3, .int x3)]) hx hb d_Mo_waysFrom_44 hl (by decide) rfl (fun ls hl => ?_)
            have lp46 : ∀ (n : Nat) (x4_46 : Int32) (z_46 : T_Mo) (H : Heap) (locs : List Loc) (ls : Array Slot), va_P D classes (ws_Mo g a z_46) H → va_D A (ws_Mo g a z_46) → va_S A s.heap H locs → lv_has ls 5 [(0, .ref (a 0)), (4, .int x4_46)] → d_Mo_waysFrom_L46 rc n x4_46 z_46 = some v → GV p l e s m ({ frames := 1 + 2 * (nr + 1), cells := 0, slots := 0, locals := 1 + 60 * (nr + 1) } : Room) ([.ref (a 0), .int x1, .int x2, .int x3] : List Value).toArray below meth c A D g (ws_Mo g a v) H locs (F0 m 46 ls []) := by
              intro n
              induction n with
              | zero =>
                intro  x4_46 z_46 H locs ls hP hD hS hl hd
                have hd : none = some v := hd
                cases hd
              | succ n ih46 =>
                intro  x4_46 z_46 H locs ls hP hD hS hl hd
                have hd : B_Mo_waysFrom_L46 rc (d_Mo_waysFrom_L46 rc n) x4_46 z_46 = some v := hd
                generalize d_Mo_waysFrom_L46 rc n = self46 at ih46 hd
                unfold B_Mo_waysFrom_L46 at hd
                refine lv_iload hx hb d_Mo_waysFrom_46 (lv_at hl 1 rfl) ?_
                refine lv_bipush (v := 7) hx hb d_Mo_waysFrom_48 (by decide) ?_
                refine lv_icmp_ge (tgt := 73) hx hb d_Mo_waysFrom_50 (by decide) (fun h_26 => ?_) (fun h_26 => ?_)
                · have hd := ite_t hd h_26
                  obtain rfl := Option.some.inj hd
                  exact retV hx hb hr hlk hK hP hD hS d_Mo_waysFrom_73
                · have hd := ite_f hd h_26
                  refine lv_aload_n hx hb d_Mo_waysFrom_53 rfl (lv_at hl 0 rfl) ?_
                  refine va_get (D := D) (ci := 1) (v := .ref (a 10)) (C := R_Mo) (T := F_Mo) (N := 26) hx hb hg i_Mo hown hK hP 0 rfl rfl 16 (by decide) (hg _ g_1008) (fun _ h9 => h9) rfl d_Mo_waysFrom_54 ?_
                  refine lv_iload hx hb d_Mo_waysFrom_57 (lv_at hl 1 rfl) ?_
                  refine lv_aload_n hx hb d_Mo_waysFrom_59 rfl (lv_at hl 0 rfl) ?_
                  refine va_get (D := D) (ci := 1) (v := .ref (a 9)) (C := R_Mo) (T := F_Mo) (N := 26) hx hb hg i_Mo hown hK hP 0 rfl rfl 15 (by decide) (hg _ g_1007) (fun _ h9 => h9) rfl d_Mo_waysFrom_60 ?_
                  refine lv_iload hx hb d_Mo_waysFrom_63 (lv_at hl 1 rfl) ?_
                  obtain ⟨h_28, hd⟩ := ite_s hd
                  refine ialdK hx hb hK hP 9 0 rfl rfl (inb_t h_28) rfl d_Mo_waysFrom_65 ?_
                  obtain ⟨h_27, hd⟩ := ite_s hd
                  refine iastK hx hb hK hP hD hS 10 0 rfl rfl (inb_t h_27) rfl d_Mo_waysFrom_66 (fun H locs hP hD hS => ?_)
                  have hP : va_P D classes (ws_Mo g a (u_Mo_bestWay z_46 (upd (q_Mo_bestWay z_46) x4_46.toNatClampNeg ((q_Mo_way z_46) x4_46.toNatClampNeg)))) H := hP
                  have hD : va_D A (ws_Mo g a (u_Mo_bestWay z_46 (upd (q_Mo_bestWay z_46) x4_46.toNatClampNeg ((q_Mo_way z_46) x4_46.toNatClampNeg)))) := hD
                  refine lv_iinc (v := x4_46 + 1) (lv' := [(4, .int (x4_46 + 1)), (0, .ref (a 0))]) hx hb d_Mo_waysFrom_67 hl (k := 1) rfl (by rfl) (by decide) rfl (fun ls hl => ?_)
                  refine lv_goto (tgt := 46) hx hb d_Mo_waysFrom_70 (by decide) ?_
                  exact ih46 (x4_46 + 1) (u_Mo_bestWay z_46 (upd (q_Mo_bestWay z_46) x4_46.toNatClampNeg ((q_Mo_way z_46) x4_46.toNatClampNeg))) _ _ _ hP hD hS (lv_sub hl [1, 0] rfl) hd
            exact lp46 1000 0 (u_Mo_bestLike (u_Mo_mostOwned z x3) x2) _ _ _ hP hD hS (lv_sub hl [1, 0] rfl) hd
theorem c_Mo_waysFrom (n : Nat) (l : Launch) (D : va_G) (g : Nat → ClassId) (a : Nat → Nat) (x1 : Int32) (x2 : Int32) (x3 : Int32) (z : T_Mo) (v : T_Mo) (h : d_Mo_waysFrom n x1 x2 x3 z = some v) :
    MV l y_Mo_waysFrom b_Mo_waysFrom 5 ({ frames := 1 + 2 * n, cells := 0, slots := 0, locals := 1 + 60 * n } : Room) D g [.ref (a 0), .int x1, .int x2, .int x3] (ws_Mo g a z) (ws_Mo g a v) := (cg_Mo_waysFrom n) l D g a x1 x2 x3 z v h
-- OwnsLiftModel.best(I)I
def d_Mo_best (x1 : Int32) (z : T_Mo) : Option (Int32 × T_Mo) :=
  if x1 = (-1) then ((d_Mo_begins z).bind fun v_2 => (d_Mo_waysFrom 64 0 0 0 v_2).bind fun v_4 => if x1 = (-1) then (some ((q_Mo_bestLike v_4), v_4)) else (if inb x1 7 = true then ((d_Mo_orNobody ((q_Mo_bestWay v_4) x1.toNatClampNeg)).bind fun v_7 => some (v_7, v_4)) else none)) else ((d_Mo_isThing x1 z).bind fun v_10 => if v_10 = 0 then (some ((-1001), z)) else ((d_Mo_begins z).bind fun v_13 => (d_Mo_waysFrom 64 0 0 0 v_13).bind fun v_15 => if x1 = (-1) then (some ((q_Mo_bestLike v_15), v_15)) else (if inb x1 7 = true then ((d_Mo_orNobody ((q_Mo_bestWay v_15) x1.toNatClampNeg)).bind fun v_18 => some (v_18, v_15)) else none)))
theorem d_Mo_best_0 : decode b_Mo_best 0 = .ok (.iload_n 1, 1) := by decide +kernel
theorem d_Mo_best_1 : decode b_Mo_best 1 = .ok (.iconst (-1), 1) := by decide +kernel
theorem d_Mo_best_2 : decode b_Mo_best 2 = .ok (.if_icmp .eq 15, 3) := by decide +kernel
theorem d_Mo_best_5 : decode b_Mo_best 5 = .ok (.aload_n 0, 1) := by decide +kernel
theorem d_Mo_best_6 : decode b_Mo_best 6 = .ok (.iload_n 1, 1) := by decide +kernel
theorem d_Mo_best_7 : decode b_Mo_best 7 = .ok (.invokevirtual 160, 3) := by decide +kernel
theorem d_Mo_best_10 : decode b_Mo_best 10 = .ok (.ifCond .ne 7, 3) := by decide +kernel
theorem d_Mo_best_13 : decode b_Mo_best 13 = .ok (.sipush (-1001), 3) := by decide +kernel
theorem d_Mo_best_16 : decode b_Mo_best 16 = .ok (.ireturn, 1) := by decide +kernel
theorem d_Mo_best_17 : decode b_Mo_best 17 = .ok (.aload_n 0, 1) := by decide +kernel
theorem d_Mo_best_18 : decode b_Mo_best 18 = .ok (.invokevirtual 197, 3) := by decide +kernel
theorem d_Mo_best_21 : decode b_Mo_best 21 = .ok (.aload_n 0, 1) := by decide +kernel
theorem d_Mo_best_22 : decode b_Mo_best 22 = .ok (.iconst 0, 1) := by decide +kernel
theorem d_Mo_best_23 : decode b_Mo_best 23 = .ok (.iconst 0, 1) := by decide +kernel
theorem d_Mo_best_24 : decode b_Mo_best 24 = .ok (.iconst 0, 1) := by decide +kernel
theorem d_Mo_best_25 : decode b_Mo_best 25 = .ok (.invokevirtual 193, 3) := by decide +kernel
theorem d_Mo_best_28 : decode b_Mo_best 28 = .ok (.iload_n 1, 1) := by decide +kernel
theorem d_Mo_best_29 : decode b_Mo_best 29 = .ok (.iconst (-1), 1) := by decide +kernel
theorem d_Mo_best_30 : decode b_Mo_best 30 = .ok (.if_icmp .ne 10, 3) := by decide +kernel
theorem d_Mo_best_33 : decode b_Mo_best 33 = .ok (.aload_n 0, 1) := by decide +kernel
theorem d_Mo_best_34 : decode b_Mo_best 34 = .ok (.getfield 184, 3) := by decide +kernel
theorem d_Mo_best_37 : decode b_Mo_best 37 = .ok (.goto 12, 3) := by decide +kernel
theorem d_Mo_best_40 : decode b_Mo_best 40 = .ok (.aload_n 0, 1) := by decide +kernel
theorem d_Mo_best_41 : decode b_Mo_best 41 = .ok (.getfield 40, 3) := by decide +kernel
theorem d_Mo_best_44 : decode b_Mo_best 44 = .ok (.iload_n 1, 1) := by decide +kernel
theorem d_Mo_best_45 : decode b_Mo_best 45 = .ok (.iaload, 1) := by decide +kernel
theorem d_Mo_best_46 : decode b_Mo_best 46 = .ok (.invokestatic 163, 3) := by decide +kernel
theorem d_Mo_best_49 : decode b_Mo_best 49 = .ok (.ireturn, 1) := by decide +kernel
theorem o_Mo_best : OkV y_Mo_best "OwnsLiftModel" b_Mo_best 2 (some .int) 1 := ⟨⟨rfl, by decide +kernel, by decide +kernel, by decide +kernel⟩, g_1247, g_1248, g_81, g_1249⟩
set_option maxHeartbeats 4000000 in
set_option maxRecDepth 100000 in
theorem c_Mo_best (l : Launch) (D : va_G) (g : Nat → ClassId) (a : Nat → Nat) (x1 : Int32) (z : T_Mo) (v : Int32 × T_Mo) (h : d_Mo_best x1 z = some v) :
    MI l y_Mo_best b_Mo_best 2 .int ({ frames := 130, cells := 0, slots := 0, locals := 3865 } : Room) D g [.ref (a 0), .int x1] (ws_Mo g a z) (v.1) (ws_Mo g a v.2) := by
  have hd := h
  unfold d_Mo_best at hd
  refine enterI rfl (Nat.le_of_ble_eq_true rfl) (fun p e s m below meth c A ls hx hb hml hr hown hg hlk hK hA hP hD hS hCs hl => ?_)
  have hown : s.vm.findClass "OwnsLiftModel" = some m.cls := hown
  have hl : lv_has ls 2 [(0, .ref (a 0)), (1, .int x1)] := hl
  show GI p l e s m ({ frames := 130, cells := 0, slots := 0, locals := 3865 } : Room) ([.ref (a 0), .int x1] : List Value).toArray below meth c A D g (ws_Mo g a v.2) (v.1) s.heap [] (F0 m 0 ls [])
  refine lv_iload_n hx hb d_Mo_best_0 rfl (lv_at hl 1 rfl) ?_
  refine lv_iconst (v := (-1)) hx hb d_Mo_best_1 (by decide) ?_
  refine lv_icmp_eq (tgt := 17) hx hb d_Mo_best_2 (by decide) (fun h_1 => ?_) (fun h_1 => ?_)
  · have hd := ite_t hd h_1
    refine lv_aload_n hx hb d_Mo_best_17 rfl (lv_at hl 0 rfl) ?_
    obtain ⟨v_2, e_3, hd⟩ := bind_s hd
    refine callVV (ws' := ws_Mo g a v_2) (rest := []) (As := []) hx hb hml hown hg hK hP hD hS hA hCs hl.1 (c_Mo_begins l D g a z _ e_3) o_Mo_begins g_1250 (ci := 1) (q0 := 0) rfl rfl (List.range' 0 12) (segC1 rfl rfl) (by decide) rfl (segP1 rfl rfl) rfl rfl (Nat.le_of_ble_eq_true rfl) ⟨rfl, rfl, Nat.le_of_ble_eq_true rfl, Nat.le_of_ble_eq_true rfl⟩ d_Mo_best_18 (fun H locs hP hD hS => ?_)
    refine lv_aload_n hx hb d_Mo_best_21 rfl (lv_at hl 0 rfl) ?_
    refine lv_iconst (v := 0) hx hb d_Mo_best_22 (by decide) ?_
    refine lv_iconst (v := 0) hx hb d_Mo_best_23 (by decide) ?_
    refine lv_iconst (v := 0) hx hb d_Mo_best_24 (by decide) ?_
    obtain ⟨v_4, e_5, hd⟩ := bind_s hd
    refine callVV (ws' := ws_Mo g a v_4) (rest := []) (As := [.int 0, .int 0, .int 0]) hx hb hml hown hg hK hP hD hS hA hCs hl.1 (c_Mo_waysFrom 64 l D g a 0 0 0 v_2 _ e_5) o_Mo_waysFrom g_1254 (ci := 1) (q0 := 0) rfl rfl (List.range' 0 12) (segC1 rfl rfl) (by decide) rfl (segP1 rfl rfl) rfl rfl (Nat.le_of_ble_eq_true rfl) ⟨rfl, rfl, Nat.le_of_ble_eq_true rfl, Nat.le_of_ble_eq_true rfl⟩ d_Mo_best_25 (fun H locs hP hD hS => ?_)
    refine lv_iload_n hx hb d_Mo_best_28 rfl (lv_at hl 1 rfl) ?_
    refine lv_iconst (v := (-1)) hx hb d_Mo_best_29 (by decide) ?_
    refine lv_icmp_ne (tgt := 40) hx hb d_Mo_best_30 (by decide) (fun h_6 => ?_) (fun h_6 => ?_)
    · have hd := ite_f hd h_6
      refine lv_aload_n hx hb d_Mo_best_40 rfl (lv_at hl 0 rfl) ?_
      refine va_get (D := D) (ci := 1) (v := .ref (a 10)) (C := R_Mo) (T := F_Mo) (N := 26) hx hb hg i_Mo hown hK hP 0 rfl rfl 16 (by decide) (hg _ g_1008) (fun _ h9 => h9) rfl d_Mo_best_41 ?_
      refine lv_iload_n hx hb d_Mo_best_44 rfl (lv_at hl 1 rfl) ?_
      obtain ⟨h_9, hd⟩ := ite_s hd
      refine ialdK hx hb hK hP 10 0 rfl rfl (inb_t h_9) rfl d_Mo_best_45 ?_
      obtain ⟨v_7, e_8, hd⟩ := bind_s hd
      refine callSI (ws' := ws_Mo g a v_4) (rest := []) (As := [.int ((q_Mo_bestWay v_4) x1.toNatClampNeg)]) hx hb hml hown hg hK hP hD hS hA hCs hl.1 (c_Mo_orNobody l D g  ((q_Mo_bestWay v_4) x1.toNatClampNeg) _ e_8) o_Mo_orNobody g_1195 [] segC0 rfl rfl segP0 rfl rfl (Nat.le_of_ble_eq_true rfl) ⟨rfl, rfl, Nat.le_of_ble_eq_true rfl, Nat.le_of_ble_eq_true rfl⟩ d_Mo_best_46 (fun H locs hP hD hS => ?_)
      obtain rfl := Option.some.inj hd
      exact retI hx hb hr hlk hK hP hD hS d_Mo_best_49 rfl
    · have hd := ite_t hd h_6
      refine lv_aload_n hx hb d_Mo_best_33 rfl (lv_at hl 0 rfl) ?_
      refine va_get (D := D) (ci := 1) (v := .int (q_Mo_bestLike v_4)) (C := R_Mo) (T := F_Mo) (N := 26) hx hb hg i_Mo hown hK hP 0 rfl rfl 17 (by decide) (hg _ g_1009) (fun _ h9 => h9) rfl d_Mo_best_34 ?_
      refine lv_goto (tgt := 49) hx hb d_Mo_best_37 (by decide) ?_
      obtain rfl := Option.some.inj hd
      exact retI hx hb hr hlk hK hP hD hS d_Mo_best_49 rfl
  · have hd := ite_f hd h_1
    refine lv_aload_n hx hb d_Mo_best_5 rfl (lv_at hl 0 rfl) ?_
    refine lv_iload_n hx hb d_Mo_best_6 rfl (lv_at hl 1 rfl) ?_
    obtain ⟨v_10, e_11, hd⟩ := bind_s hd
    refine callVI (ws' := ws_Mo g a z) (rest := []) (As := [.int x1]) hx hb hml hown hg hK hP hD hS hA hCs hl.1 (c_Mo_isThing l D g a x1 z _ e_11) o_Mo_isThing g_1183 (ci := 1) (q0 := 0) rfl rfl (List.range' 0 12) (segC1 rfl rfl) (by decide) rfl (segP1 rfl rfl) rfl rfl (Nat.le_of_ble_eq_true rfl) ⟨rfl, rfl, Nat.le_of_ble_eq_true rfl, Nat.le_of_ble_eq_true rfl⟩ d_Mo_best_7 (fun H locs hP hD hS => ?_)
    refine lv_if_ne (tgt := 17) hx hb d_Mo_best_10 (by decide) (fun h_12 => ?_) (fun h_12 => ?_)
    · have hd := ite_f hd h_12
      refine lv_aload_n hx hb d_Mo_best_17 rfl (lv_at hl 0 rfl) ?_
      obtain ⟨v_13, e_14, hd⟩ := bind_s hd
      refine callVV (ws' := ws_Mo g a v_13) (rest := []) (As := []) hx hb hml hown hg hK hP hD hS hA hCs hl.1 (c_Mo_begins l D g a z _ e_14) o_Mo_begins g_1250 (ci := 1) (q0 := 0) rfl rfl (List.range' 0 12) (segC1 rfl rfl) (by decide) rfl (segP1 rfl rfl) rfl rfl (Nat.le_of_ble_eq_true rfl) ⟨rfl, rfl, Nat.le_of_ble_eq_true rfl, Nat.le_of_ble_eq_true rfl⟩ d_Mo_best_18 (fun H locs hP hD hS => ?_)
      refine lv_aload_n hx hb d_Mo_best_21 rfl (lv_at hl 0 rfl) ?_
      refine lv_iconst (v := 0) hx hb d_Mo_best_22 (by decide) ?_
      refine lv_iconst (v := 0) hx hb d_Mo_best_23 (by decide) ?_
      refine lv_iconst (v := 0) hx hb d_Mo_best_24 (by decide) ?_
      obtain ⟨v_15, e_16, hd⟩ := bind_s hd
      refine callVV (ws' := ws_Mo g a v_15) (rest := []) (As := [.int 0, .int 0, .int 0]) hx hb hml hown hg hK hP hD hS hA hCs hl.1 (c_Mo_waysFrom 64 l D g a 0 0 0 v_13 _ e_16) o_Mo_waysFrom g_1254 (ci := 1) (q0 := 0) rfl rfl (List.range' 0 12) (segC1 rfl rfl) (by decide) rfl (segP1 rfl rfl) rfl rfl (Nat.le_of_ble_eq_true rfl) ⟨rfl, rfl, Nat.le_of_ble_eq_true rfl, Nat.le_of_ble_eq_true rfl⟩ d_Mo_best_25 (fun H locs hP hD hS => ?_)
      refine lv_iload_n hx hb d_Mo_best_28 rfl (lv_at hl 1 rfl) ?_
      refine lv_iconst (v := (-1)) hx hb d_Mo_best_29 (by decide) ?_
      refine lv_icmp_ne (tgt := 40) hx hb d_Mo_best_30 (by decide) (fun h_17 => ?_) (fun h_17 => ?_)
      · have hd := ite_f hd h_17
        refine lv_aload_n hx hb d_Mo_best_40 rfl (lv_at hl 0 rfl) ?_
        refine va_get (D := D) (ci := 1) (v := .ref (a 10)) (C := R_Mo) (T := F_Mo) (N := 26) hx hb hg i_Mo hown hK hP 0 rfl rfl 16 (by decide) (hg _ g_1008) (fun _ h9 => h9) rfl d_Mo_best_41 ?_
        refine lv_iload_n hx hb d_Mo_best_44 rfl (lv_at hl 1 rfl) ?_
        obtain ⟨h_20, hd⟩ := ite_s hd
        refine ialdK hx hb hK hP 10 0 rfl rfl (inb_t h_20) rfl d_Mo_best_45 ?_
        obtain ⟨v_18, e_19, hd⟩ := bind_s hd
        refine callSI (ws' := ws_Mo g a v_15) (rest := []) (As := [.int ((q_Mo_bestWay v_15) x1.toNatClampNeg)]) hx hb hml hown hg hK hP hD hS hA hCs hl.1 (c_Mo_orNobody l D g  ((q_Mo_bestWay v_15) x1.toNatClampNeg) _ e_19) o_Mo_orNobody g_1195 [] segC0 rfl rfl segP0 rfl rfl (Nat.le_of_ble_eq_true rfl) ⟨rfl, rfl, Nat.le_of_ble_eq_true rfl, Nat.le_of_ble_eq_true rfl⟩ d_Mo_best_46 (fun H locs hP hD hS => ?_)
        obtain rfl := Option.some.inj hd
        exact retI hx hb hr hlk hK hP hD hS d_Mo_best_49 rfl
      · have hd := ite_t hd h_17
        refine lv_aload_n hx hb d_Mo_best_33 rfl (lv_at hl 0 rfl) ?_
        refine va_get (D := D) (ci := 1) (v := .int (q_Mo_bestLike v_15)) (C := R_Mo) (T := F_Mo) (N := 26) hx hb hg i_Mo hown hK hP 0 rfl rfl 17 (by decide) (hg _ g_1009) (fun _ h9 => h9) rfl d_Mo_best_34 ?_
        refine lv_goto (tgt := 49) hx hb d_Mo_best_37 (by decide) ?_
        obtain rfl := Option.some.inj hd
        exact retI hx hb hr hlk hK hP hD hS d_Mo_best_49 rfl
    · have hd := ite_t hd h_12
      refine lv_sipush (v := (-1001)) hx hb d_Mo_best_13 (by decide) ?_
      obtain rfl := Option.some.inj hd
      exact retI hx hb hr hlk hK hP hD hS d_Mo_best_16 rfl
-- OwnsLiftModel.most()I
def d_Mo_most (z : T_Mo) : Option (Int32 × T_Mo) :=
  (d_Mo_begins z).bind fun v_1 => (d_Mo_waysFrom 64 0 0 0 v_1).bind fun v_3 => some ((q_Mo_mostOwned v_3), v_3)
theorem d_Mo_most_0 : decode b_Mo_most 0 = .ok (.aload_n 0, 1) := by decide +kernel
theorem d_Mo_most_1 : decode b_Mo_most 1 = .ok (.invokevirtual 197, 3) := by decide +kernel
theorem d_Mo_most_4 : decode b_Mo_most 4 = .ok (.aload_n 0, 1) := by decide +kernel
theorem d_Mo_most_5 : decode b_Mo_most 5 = .ok (.iconst 0, 1) := by decide +kernel
theorem d_Mo_most_6 : decode b_Mo_most 6 = .ok (.iconst 0, 1) := by decide +kernel
theorem d_Mo_most_7 : decode b_Mo_most 7 = .ok (.iconst 0, 1) := by decide +kernel
theorem d_Mo_most_8 : decode b_Mo_most 8 = .ok (.invokevirtual 193, 3) := by decide +kernel
theorem d_Mo_most_11 : decode b_Mo_most 11 = .ok (.aload_n 0, 1) := by decide +kernel
theorem d_Mo_most_12 : decode b_Mo_most 12 = .ok (.getfield 187, 3) := by decide +kernel
theorem d_Mo_most_15 : decode b_Mo_most 15 = .ok (.ireturn, 1) := by decide +kernel
theorem o_Mo_most : OkV y_Mo_most "OwnsLiftModel" b_Mo_most 1 (some .int) 0 := ⟨⟨rfl, by decide +kernel, by decide +kernel, by decide +kernel⟩, g_1259, g_1260, g_81, g_1261⟩
set_option maxHeartbeats 4000000 in
set_option maxRecDepth 100000 in
theorem c_Mo_most (l : Launch) (D : va_G) (g : Nat → ClassId) (a : Nat → Nat) (z : T_Mo) (v : Int32 × T_Mo) (h : d_Mo_most z = some v) :
    MI l y_Mo_most b_Mo_most 1 .int ({ frames := 130, cells := 0, slots := 0, locals := 3865 } : Room) D g [.ref (a 0)] (ws_Mo g a z) (v.1) (ws_Mo g a v.2) := by
  have hd := h
  unfold d_Mo_most at hd
  refine enterI rfl (Nat.le_of_ble_eq_true rfl) (fun p e s m below meth c A ls hx hb hml hr hown hg hlk hK hA hP hD hS hCs hl => ?_)
  have hown : s.vm.findClass "OwnsLiftModel" = some m.cls := hown
  have hl : lv_has ls 1 [(0, .ref (a 0))] := hl
  show GI p l e s m ({ frames := 130, cells := 0, slots := 0, locals := 3865 } : Room) ([.ref (a 0)] : List Value).toArray below meth c A D g (ws_Mo g a v.2) (v.1) s.heap [] (F0 m 0 ls [])
  refine lv_aload_n hx hb d_Mo_most_0 rfl (lv_at hl 0 rfl) ?_
  obtain ⟨v_1, e_2, hd⟩ := bind_s hd
  refine callVV (ws' := ws_Mo g a v_1) (rest := []) (As := []) hx hb hml hown hg hK hP hD hS hA hCs hl.1 (c_Mo_begins l D g a z _ e_2) o_Mo_begins g_1250 (ci := 1) (q0 := 0) rfl rfl (List.range' 0 12) (segC1 rfl rfl) (by decide) rfl (segP1 rfl rfl) rfl rfl (Nat.le_of_ble_eq_true rfl) ⟨rfl, rfl, Nat.le_of_ble_eq_true rfl, Nat.le_of_ble_eq_true rfl⟩ d_Mo_most_1 (fun H locs hP hD hS => ?_)
  refine lv_aload_n hx hb d_Mo_most_4 rfl (lv_at hl 0 rfl) ?_
  refine lv_iconst (v := 0) hx hb d_Mo_most_5 (by decide) ?_
  refine lv_iconst (v := 0) hx hb d_Mo_most_6 (by decide) ?_
  refine lv_iconst (v := 0) hx hb d_Mo_most_7 (by decide) ?_
  obtain ⟨v_3, e_4, hd⟩ := bind_s hd
  refine callVV (ws' := ws_Mo g a v_3) (rest := []) (As := [.int 0, .int 0, .int 0]) hx hb hml hown hg hK hP hD hS hA hCs hl.1 (c_Mo_waysFrom 64 l D g a 0 0 0 v_1 _ e_4) o_Mo_waysFrom g_1254 (ci := 1) (q0 := 0) rfl rfl (List.range' 0 12) (segC1 rfl rfl) (by decide) rfl (segP1 rfl rfl) rfl rfl (Nat.le_of_ble_eq_true rfl) ⟨rfl, rfl, Nat.le_of_ble_eq_true rfl, Nat.le_of_ble_eq_true rfl⟩ d_Mo_most_8 (fun H locs hP hD hS => ?_)
  refine lv_aload_n hx hb d_Mo_most_11 rfl (lv_at hl 0 rfl) ?_
  refine va_get (D := D) (ci := 1) (v := .int (q_Mo_mostOwned v_3)) (C := R_Mo) (T := F_Mo) (N := 26) hx hb hg i_Mo hown hK hP 0 rfl rfl 18 (by decide) (hg _ g_1010) (fun _ h9 => h9) rfl d_Mo_most_12 ?_
  obtain rfl := Option.some.inj hd
  exact retI hx hb hr hlk hK hP hD hS d_Mo_most_15 rfl
-- OwnsLiftModel.train(I)I
def d_Mo_train (x1 : Int32) (z : T_Mo) : Option (Int32 × T_Mo) :=
  (d_Mo_isPerson x1 z).bind fun v_1 => if v_1 = 0 then (some ((-1), z)) else ((d_Mo_begins z).bind fun v_4 => (d_Mo_waysFrom 64 0 0 0 v_4).bind fun v_6 => if inb x1 4 = true then (if inb x1 4 = true then ((d_Mo_waysFrom 64 0 0 0 (u_Mo_lifts v_6 (upd (q_Mo_lifts v_6) x1.toNatClampNeg (((q_Mo_lifts v_6) x1.toNatClampNeg) + 1)))).bind fun v_8 => some ((q_Mo_bestLike v_8) - (q_Mo_bestLike v_6), v_8)) else none) else none)
theorem d_Mo_train_0 : decode b_Mo_train 0 = .ok (.aload_n 0, 1) := by decide +kernel
theorem d_Mo_train_1 : decode b_Mo_train 1 = .ok (.iload_n 1, 1) := by decide +kernel
theorem d_Mo_train_2 : decode b_Mo_train 2 = .ok (.invokevirtual 147, 3) := by decide +kernel
theorem d_Mo_train_5 : decode b_Mo_train 5 = .ok (.ifCond .ne 5, 3) := by decide +kernel
theorem d_Mo_train_8 : decode b_Mo_train 8 = .ok (.iconst (-1), 1) := by decide +kernel
theorem d_Mo_train_9 : decode b_Mo_train 9 = .ok (.ireturn, 1) := by decide +kernel
theorem d_Mo_train_10 : decode b_Mo_train 10 = .ok (.aload_n 0, 1) := by decide +kernel
theorem d_Mo_train_11 : decode b_Mo_train 11 = .ok (.invokevirtual 197, 3) := by decide +kernel
theorem d_Mo_train_14 : decode b_Mo_train 14 = .ok (.aload_n 0, 1) := by decide +kernel
theorem d_Mo_train_15 : decode b_Mo_train 15 = .ok (.iconst 0, 1) := by decide +kernel
theorem d_Mo_train_16 : decode b_Mo_train 16 = .ok (.iconst 0, 1) := by decide +kernel
theorem d_Mo_train_17 : decode b_Mo_train 17 = .ok (.iconst 0, 1) := by decide +kernel
theorem d_Mo_train_18 : decode b_Mo_train 18 = .ok (.invokevirtual 193, 3) := by decide +kernel
theorem d_Mo_train_21 : decode b_Mo_train 21 = .ok (.aload_n 0, 1) := by decide +kernel
theorem d_Mo_train_22 : decode b_Mo_train 22 = .ok (.getfield 184, 3) := by decide +kernel
theorem d_Mo_train_25 : decode b_Mo_train 25 = .ok (.istore_n 2, 1) := by decide +kernel
theorem d_Mo_train_26 : decode b_Mo_train 26 = .ok (.aload_n 0, 1) := by decide +kernel
theorem d_Mo_train_27 : decode b_Mo_train 27 = .ok (.getfield 31, 3) := by decide +kernel
theorem d_Mo_train_30 : decode b_Mo_train 30 = .ok (.iload_n 1, 1) := by decide +kernel
theorem d_Mo_train_31 : decode b_Mo_train 31 = .ok (.dup2, 1) := by decide +kernel
theorem d_Mo_train_32 : decode b_Mo_train 32 = .ok (.iaload, 1) := by decide +kernel
theorem d_Mo_train_33 : decode b_Mo_train 33 = .ok (.iconst 1, 1) := by decide +kernel
theorem d_Mo_train_34 : decode b_Mo_train 34 = .ok (.iadd, 1) := by decide +kernel
theorem d_Mo_train_35 : decode b_Mo_train 35 = .ok (.iastore, 1) := by decide +kernel
theorem d_Mo_train_36 : decode b_Mo_train 36 = .ok (.aload_n 0, 1) := by decide +kernel
theorem d_Mo_train_37 : decode b_Mo_train 37 = .ok (.iconst 0, 1) := by decide +kernel
theorem d_Mo_train_38 : decode b_Mo_train 38 = .ok (.iconst 0, 1) := by decide +kernel
theorem d_Mo_train_39 : decode b_Mo_train 39 = .ok (.iconst 0, 1) := by decide +kernel
theorem d_Mo_train_40 : decode b_Mo_train 40 = .ok (.invokevirtual 193, 3) := by decide +kernel
theorem d_Mo_train_43 : decode b_Mo_train 43 = .ok (.aload_n 0, 1) := by decide +kernel
theorem d_Mo_train_44 : decode b_Mo_train 44 = .ok (.getfield 184, 3) := by decide +kernel
theorem d_Mo_train_47 : decode b_Mo_train 47 = .ok (.iload_n 2, 1) := by decide +kernel
theorem d_Mo_train_48 : decode b_Mo_train 48 = .ok (.isub, 1) := by decide +kernel
theorem d_Mo_train_49 : decode b_Mo_train 49 = .ok (.ireturn, 1) := by decide +kernel
theorem o_Mo_train : OkV y_Mo_train "OwnsLiftModel" b_Mo_train 3 (some .int) 1 := ⟨⟨rfl, by decide +kernel, by decide +kernel, by decide +kernel⟩, g_1263, g_1264, g_81, g_1265⟩
set_option maxHeartbeats 4000000 in
set_option maxRecDepth 100000 in
theorem c_Mo_train (l : Launch) (D : va_G) (g : Nat → ClassId) (a : Nat → Nat) (x1 : Int32) (z : T_Mo) (v : Int32 × T_Mo) (h : d_Mo_train x1 z = some v) :
    MI l y_Mo_train b_Mo_train 3 .int ({ frames := 130, cells := 0, slots := 0, locals := 3865 } : Room) D g [.ref (a 0), .int x1] (ws_Mo g a z) (v.1) (ws_Mo g a v.2) := by
  have hd := h
  unfold d_Mo_train at hd
  refine enterI rfl (Nat.le_of_ble_eq_true rfl) (fun p e s m below meth c A ls hx hb hml hr hown hg hlk hK hA hP hD hS hCs hl => ?_)
  have hown : s.vm.findClass "OwnsLiftModel" = some m.cls := hown
  have hl : lv_has ls 3 [(0, .ref (a 0)), (1, .int x1)] := hl
  show GI p l e s m ({ frames := 130, cells := 0, slots := 0, locals := 3865 } : Room) ([.ref (a 0), .int x1] : List Value).toArray below meth c A D g (ws_Mo g a v.2) (v.1) s.heap [] (F0 m 0 ls [])
  refine lv_aload_n hx hb d_Mo_train_0 rfl (lv_at hl 0 rfl) ?_
  refine lv_iload_n hx hb d_Mo_train_1 rfl (lv_at hl 1 rfl) ?_
  obtain ⟨v_1, e_2, hd⟩ := bind_s hd
  refine callVI (ws' := ws_Mo g a z) (rest := []) (As := [.int x1]) hx hb hml hown hg hK hP hD hS hA hCs hl.1 (c_Mo_isPerson l D g a x1 z _ e_2) o_Mo_isPerson g_1147 (ci := 1) (q0 := 0) rfl rfl (List.range' 0 12) (segC1 rfl rfl) (by decide) rfl (segP1 rfl rfl) rfl rfl (Nat.le_of_ble_eq_true rfl) ⟨rfl, rfl, Nat.le_of_ble_eq_true rfl, Nat.le_of_ble_eq_true rfl⟩ d_Mo_train_2 (fun H locs hP hD hS => ?_)
  refine lv_if_ne (tgt := 10) hx hb d_Mo_train_5 (by decide) (fun h_3 => ?_) (fun h_3 => ?_)
  · have hd := ite_f hd h_3
    refine lv_aload_n hx hb d_Mo_train_10 rfl (lv_at hl 0 rfl) ?_
    obtain ⟨v_4, e_5, hd⟩ := bind_s hd
    refine callVV (ws' := ws_Mo g a v_4) (rest := []) (As := []) hx hb hml hown hg hK hP hD hS hA hCs hl.1 (c_Mo_begins l D g a z _ e_5) o_Mo_begins g_1250 (ci := 1) (q0 := 0) rfl rfl (List.range' 0 12) (segC1 rfl rfl) (by decide) rfl (segP1 rfl rfl) rfl rfl (Nat.le_of_ble_eq_true rfl) ⟨rfl, rfl, Nat.le_of_ble_eq_true rfl, Nat.le_of_ble_eq_true rfl⟩ d_Mo_train_11 (fun H locs hP hD hS => ?_)
    refine lv_aload_n hx hb d_Mo_train_14 rfl (lv_at hl 0 rfl) ?_
    refine lv_iconst (v := 0) hx hb d_Mo_train_15 (by decide) ?_
    refine lv_iconst (v := 0) hx hb d_Mo_train_16 (by decide) ?_
    refine lv_iconst (v := 0) hx hb d_Mo_train_17 (by decide) ?_
    obtain ⟨v_6, e_7, hd⟩ := bind_s hd
    refine callVV (ws' := ws_Mo g a v_6) (rest := []) (As := [.int 0, .int 0, .int 0]) hx hb hml hown hg hK hP hD hS hA hCs hl.1 (c_Mo_waysFrom 64 l D g a 0 0 0 v_4 _ e_7) o_Mo_waysFrom g_1254 (ci := 1) (q0 := 0) rfl rfl (List.range' 0 12) (segC1 rfl rfl) (by decide) rfl (segP1 rfl rfl) rfl rfl (Nat.le_of_ble_eq_true rfl) ⟨rfl, rfl, Nat.le_of_ble_eq_true rfl, Nat.le_of_ble_eq_true rfl⟩ d_Mo_train_18 (fun H locs hP hD hS => ?_)
    refine lv_aload_n hx hb d_Mo_train_21 rfl (lv_at hl 0 rfl) ?_
    refine va_get (D := D) (ci := 1) (v := .int (q_Mo_bestLike v_6)) (C := R_Mo) (T := F_Mo) (N := 26) hx hb hg i_Mo hown hK hP 0 rfl rfl 17 (by decide) (hg _ g_1009) (fun _ h9 => h9) rfl d_Mo_train_22 ?_
    refine lv_istore_n (lv' := [(2, .int (q_Mo_bestLike v_6)), (0, .ref (a 0)), (1, .int x1)]) hx hb d_Mo_train_25 rfl hl (by decide) rfl (fun ls hl => ?_)
    refine lv_aload_n hx hb d_Mo_train_26 rfl (lv_at hl 1 rfl) ?_
    refine va_get (D := D) (ci := 1) (v := .ref (a 7)) (C := R_Mo) (T := F_Mo) (N := 26) hx hb hg i_Mo hown hK hP 0 rfl rfl 13 (by decide) (hg _ g_1005) (fun _ h9 => h9) rfl d_Mo_train_27 ?_
    refine lv_iload_n hx hb d_Mo_train_30 rfl (lv_at hl 2 rfl) ?_
    refine lv_dup2_11 hx hb d_Mo_train_31 rfl rfl ?_
    obtain ⟨h_11, hd⟩ := ite_s hd
    refine ialdK hx hb hK hP 7 0 rfl rfl (inb_t h_11) rfl d_Mo_train_32 ?_
    refine lv_iconst (v := 1) hx hb d_Mo_train_33 (by decide) ?_
    refine lv_iadd hx hb d_Mo_train_34 ?_
    obtain ⟨h_10, hd⟩ := ite_s hd
    refine iastK hx hb hK hP hD hS 7 0 rfl rfl (inb_t h_10) rfl d_Mo_train_35 (fun H locs hP hD hS => ?_)
    have hP : va_P D classes (ws_Mo g a (u_Mo_lifts v_6 (upd (q_Mo_lifts v_6) x1.toNatClampNeg (((q_Mo_lifts v_6) x1.toNatClampNeg) + 1)))) H := hP
    have hD : va_D A (ws_Mo g a (u_Mo_lifts v_6 (upd (q_Mo_lifts v_6) x1.toNatClampNeg (((q_Mo_lifts v_6) x1.toNatClampNeg) + 1)))) := hD
    refine lv_aload_n hx hb d_Mo_train_36 rfl (lv_at hl 1 rfl) ?_
    refine lv_iconst (v := 0) hx hb d_Mo_train_37 (by decide) ?_
    refine lv_iconst (v := 0) hx hb d_Mo_train_38 (by decide) ?_
    refine lv_iconst (v := 0) hx hb d_Mo_train_39 (by decide) ?_
    obtain ⟨v_8, e_9, hd⟩ := bind_s hd
    refine callVV (ws' := ws_Mo g a v_8) (rest := []) (As := [.int 0, .int 0, .int 0]) hx hb hml hown hg hK hP hD hS hA hCs hl.1 (c_Mo_waysFrom 64 l D g a 0 0 0 (u_Mo_lifts v_6 (upd (q_Mo_lifts v_6) x1.toNatClampNeg (((q_Mo_lifts v_6) x1.toNatClampNeg) + 1))) _ e_9) o_Mo_waysFrom g_1254 (ci := 1) (q0 := 0) rfl rfl (List.range' 0 12) (segC1 rfl rfl) (by decide) rfl (segP1 rfl rfl) rfl rfl (Nat.le_of_ble_eq_true rfl) ⟨rfl, rfl, Nat.le_of_ble_eq_true rfl, Nat.le_of_ble_eq_true rfl⟩ d_Mo_train_40 (fun H locs hP hD hS => ?_)
    refine lv_aload_n hx hb d_Mo_train_43 rfl (lv_at hl 1 rfl) ?_
    refine va_get (D := D) (ci := 1) (v := .int (q_Mo_bestLike v_8)) (C := R_Mo) (T := F_Mo) (N := 26) hx hb hg i_Mo hown hK hP 0 rfl rfl 17 (by decide) (hg _ g_1009) (fun _ h9 => h9) rfl d_Mo_train_44 ?_
    refine lv_iload_n hx hb d_Mo_train_47 rfl (lv_at hl 0 rfl) ?_
    refine lv_isub hx hb d_Mo_train_48 ?_
    obtain rfl := Option.some.inj hd
    exact retI hx hb hr hlk hK hP hD hS d_Mo_train_49 rfl
  · have hd := ite_t hd h_3
    refine lv_iconst (v := (-1)) hx hb d_Mo_train_8 (by decide) ?_
    obtain rfl := Option.some.inj hd
    exact retI hx hb hr hlk hK hP hD hS d_Mo_train_9 rfl
-- recursion: Mo_movesFrom
def B_Mo_movesFrom_L64 (rc : Int32 → Int32 → T_Mo → Option (T_Mo)) (x1_f64 : Int32) (x2_f64 : Int32) (self64 : Int32 → T_Mo → Option (T_Mo)) (x3_64 : Int32) (z_64 : T_Mo) : Option (T_Mo) :=
  if ((q_Mo_s z_64) 0) ≤ x3_64 then (some (z_64)) else (if inb x3_64 5 = true then (if inb (58 + x1_f64) 901 = true then (if inb x3_64 4 = true then (if ((q_Mo_lifts z_64) x3_64.toNatClampNeg) < (((q_Mo_loads z_64) x3_64.toNatClampNeg) + ((q_Mo_s z_64) (58 + x1_f64).toNatClampNeg)) then (self64 (x3_64 + 1) z_64) else (if inb x3_64 5 = true then (if inb (58 + x1_f64) 901 = true then (if inb x3_64 5 = true then (if inb (65 + x1_f64) 901 = true then (if ((q_Mo_s (u_Mo_loads z_64 (upd (q_Mo_loads z_64) x3_64.toNatClampNeg (((q_Mo_loads z_64) x3_64.toNatClampNeg) + ((q_Mo_s z_64) (58 + x1_f64).toNatClampNeg))))) (65 + x1_f64).toNatClampNeg) = x3_64 then ((rc (x1_f64 + 1) (x2_f64 + 0) (u_Mo_loads z_64 (upd (q_Mo_loads z_64) x3_64.toNatClampNeg (((q_Mo_loads z_64) x3_64.toNatClampNeg) + ((q_Mo_s z_64) (58 + x1_f64).toNatClampNeg))))).bind fun v_11 => if inb x3_64 5 = true then (if inb (58 + x1_f64) 901 = true then (if inb x3_64 5 = true then (self64 (x3_64 + 1) (u_Mo_loads v_11 (upd (q_Mo_loads v_11) x3_64.toNatClampNeg (((q_Mo_loads v_11) x3_64.toNatClampNeg) - ((q_Mo_s v_11) (58 + x1_f64).toNatClampNeg))))) else none) else none) else none) else ((rc (x1_f64 + 1) (x2_f64 + 1) (u_Mo_loads z_64 (upd (q_Mo_loads z_64) x3_64.toNatClampNeg (((q_Mo_loads z_64) x3_64.toNatClampNeg) + ((q_Mo_s z_64) (58 + x1_f64).toNatClampNeg))))).bind fun v_6 => if inb x3_64 5 = true then (if inb (58 + x1_f64) 901 = true then (if inb x3_64 5 = true then (self64 (x3_64 + 1) (u_Mo_loads v_6 (upd (q_Mo_loads v_6) x3_64.toNatClampNeg (((q_Mo_loads v_6) x3_64.toNatClampNeg) - ((q_Mo_s v_6) (58 + x1_f64).toNatClampNeg))))) else none) else none) else none)) else none) else none) else none) else none)) else none) else none) else none)
def d_Mo_movesFrom_L64 (rc : Int32 → Int32 → T_Mo → Option (T_Mo)) (x1_f64 : Int32) (x2_f64 : Int32) (n : Nat) : Int32 → T_Mo → Option (T_Mo) := recN (fun _ _ => none) (fun self => B_Mo_movesFrom_L64 rc x1_f64 x2_f64 self) n
def B_Mo_movesFrom (rc : Int32 → Int32 → T_Mo → Option (T_Mo)) (x1 : Int32) (x2 : Int32) (z : T_Mo) : Option (T_Mo) :=
  if x1 = ((q_Mo_s z) 1) then (if (q_Mo_fewest z) = (-5) then (some ((u_Mo_fewest z x2))) else (if (q_Mo_fewest z) ≤ x2 then (some ((u_Mo_fewest z (q_Mo_fewest z)))) else (some ((u_Mo_fewest z x2))))) else (if inb (65 + x1) 901 = true then (if ((q_Mo_s z) (65 + x1).toNatClampNeg) = 4 then ((rc (x1 + 1) x2 z).bind fun v_23 => some (v_23)) else (d_Mo_movesFrom_L64 rc x1 x2  1000 0 z)) else none)
def d_Mo_movesFrom (n : Nat) : Int32 → Int32 → T_Mo → Option (T_Mo) := recN (fun _ _ _ => none) (fun rc => B_Mo_movesFrom rc) n
theorem d_Mo_movesFrom_0 : decode b_Mo_movesFrom 0 = .ok (.iload_n 1, 1) := by decide +kernel
theorem d_Mo_movesFrom_1 : decode b_Mo_movesFrom 1 = .ok (.aload_n 0, 1) := by decide +kernel
theorem d_Mo_movesFrom_2 : decode b_Mo_movesFrom 2 = .ok (.getfield 9, 3) := by decide +kernel
theorem d_Mo_movesFrom_5 : decode b_Mo_movesFrom 5 = .ok (.iconst 1, 1) := by decide +kernel
theorem d_Mo_movesFrom_6 : decode b_Mo_movesFrom 6 = .ok (.iaload, 1) := by decide +kernel
theorem d_Mo_movesFrom_7 : decode b_Mo_movesFrom 7 = .ok (.if_icmp .ne 33, 3) := by decide +kernel
theorem d_Mo_movesFrom_10 : decode b_Mo_movesFrom 10 = .ok (.aload_n 0, 1) := by decide +kernel
theorem d_Mo_movesFrom_11 : decode b_Mo_movesFrom 11 = .ok (.aload_n 0, 1) := by decide +kernel
theorem d_Mo_movesFrom_12 : decode b_Mo_movesFrom 12 = .ok (.getfield 190, 3) := by decide +kernel
theorem d_Mo_movesFrom_15 : decode b_Mo_movesFrom 15 = .ok (.bipush (-5), 2) := by decide +kernel
theorem d_Mo_movesFrom_17 : decode b_Mo_movesFrom 17 = .ok (.if_icmp .eq 11, 3) := by decide +kernel
theorem d_Mo_movesFrom_20 : decode b_Mo_movesFrom 20 = .ok (.iload_n 2, 1) := by decide +kernel
theorem d_Mo_movesFrom_21 : decode b_Mo_movesFrom 21 = .ok (.aload_n 0, 1) := by decide +kernel
theorem d_Mo_movesFrom_22 : decode b_Mo_movesFrom 22 = .ok (.getfield 190, 3) := by decide +kernel
theorem d_Mo_movesFrom_25 : decode b_Mo_movesFrom 25 = .ok (.if_icmp .ge 7, 3) := by decide +kernel
theorem d_Mo_movesFrom_28 : decode b_Mo_movesFrom 28 = .ok (.iload_n 2, 1) := by decide +kernel
theorem d_Mo_movesFrom_29 : decode b_Mo_movesFrom 29 = .ok (.goto 7, 3) := by decide +kernel
theorem d_Mo_movesFrom_32 : decode b_Mo_movesFrom 32 = .ok (.aload_n 0, 1) := by decide +kernel
theorem d_Mo_movesFrom_33 : decode b_Mo_movesFrom 33 = .ok (.getfield 190, 3) := by decide +kernel
theorem d_Mo_movesFrom_36 : decode b_Mo_movesFrom 36 = .ok (.putfield 190, 3) := by decide +kernel
theorem d_Mo_movesFrom_39 : decode b_Mo_movesFrom 39 = .ok (.return_, 1) := by decide +kernel
theorem d_Mo_movesFrom_40 : decode b_Mo_movesFrom 40 = .ok (.aload_n 0, 1) := by decide +kernel
theorem d_Mo_movesFrom_41 : decode b_Mo_movesFrom 41 = .ok (.getfield 9, 3) := by decide +kernel
theorem d_Mo_movesFrom_44 : decode b_Mo_movesFrom 44 = .ok (.bipush 65, 2) := by decide +kernel
theorem d_Mo_movesFrom_46 : decode b_Mo_movesFrom 46 = .ok (.iload_n 1, 1) := by decide +kernel
theorem d_Mo_movesFrom_47 : decode b_Mo_movesFrom 47 = .ok (.iadd, 1) := by decide +kernel
theorem d_Mo_movesFrom_48 : decode b_Mo_movesFrom 48 = .ok (.iaload, 1) := by decide +kernel
theorem d_Mo_movesFrom_49 : decode b_Mo_movesFrom 49 = .ok (.iconst 4, 1) := by decide +kernel
theorem d_Mo_movesFrom_50 : decode b_Mo_movesFrom 50 = .ok (.if_icmp .ne 12, 3) := by decide +kernel
theorem d_Mo_movesFrom_53 : decode b_Mo_movesFrom 53 = .ok (.aload_n 0, 1) := by decide +kernel
theorem d_Mo_movesFrom_54 : decode b_Mo_movesFrom 54 = .ok (.iload_n 1, 1) := by decide +kernel
theorem d_Mo_movesFrom_55 : decode b_Mo_movesFrom 55 = .ok (.iconst 1, 1) := by decide +kernel
theorem d_Mo_movesFrom_56 : decode b_Mo_movesFrom 56 = .ok (.iadd, 1) := by decide +kernel
theorem d_Mo_movesFrom_57 : decode b_Mo_movesFrom 57 = .ok (.iload_n 2, 1) := by decide +kernel
theorem d_Mo_movesFrom_58 : decode b_Mo_movesFrom 58 = .ok (.invokevirtual 200, 3) := by decide +kernel
theorem d_Mo_movesFrom_61 : decode b_Mo_movesFrom 61 = .ok (.return_, 1) := by decide +kernel
theorem d_Mo_movesFrom_62 : decode b_Mo_movesFrom 62 = .ok (.iconst 0, 1) := by decide +kernel
theorem d_Mo_movesFrom_63 : decode b_Mo_movesFrom 63 = .ok (.istore_n 3, 1) := by decide +kernel
theorem d_Mo_movesFrom_64 : decode b_Mo_movesFrom 64 = .ok (.iload_n 3, 1) := by decide +kernel
theorem d_Mo_movesFrom_65 : decode b_Mo_movesFrom 65 = .ok (.aload_n 0, 1) := by decide +kernel
theorem d_Mo_movesFrom_66 : decode b_Mo_movesFrom 66 = .ok (.getfield 9, 3) := by decide +kernel
theorem d_Mo_movesFrom_69 : decode b_Mo_movesFrom 69 = .ok (.iconst 0, 1) := by decide +kernel
theorem d_Mo_movesFrom_70 : decode b_Mo_movesFrom 70 = .ok (.iaload, 1) := by decide +kernel
theorem d_Mo_movesFrom_71 : decode b_Mo_movesFrom 71 = .ok (.if_icmp .ge 97, 3) := by decide +kernel
theorem d_Mo_movesFrom_74 : decode b_Mo_movesFrom 74 = .ok (.aload_n 0, 1) := by decide +kernel
theorem d_Mo_movesFrom_75 : decode b_Mo_movesFrom 75 = .ok (.getfield 34, 3) := by decide +kernel
theorem d_Mo_movesFrom_78 : decode b_Mo_movesFrom 78 = .ok (.iload_n 3, 1) := by decide +kernel
theorem d_Mo_movesFrom_79 : decode b_Mo_movesFrom 79 = .ok (.iaload, 1) := by decide +kernel
theorem d_Mo_movesFrom_80 : decode b_Mo_movesFrom 80 = .ok (.aload_n 0, 1) := by decide +kernel
theorem d_Mo_movesFrom_81 : decode b_Mo_movesFrom 81 = .ok (.getfield 9, 3) := by decide +kernel
theorem d_Mo_movesFrom_84 : decode b_Mo_movesFrom 84 = .ok (.bipush 58, 2) := by decide +kernel
theorem d_Mo_movesFrom_86 : decode b_Mo_movesFrom 86 = .ok (.iload_n 1, 1) := by decide +kernel
theorem d_Mo_movesFrom_87 : decode b_Mo_movesFrom 87 = .ok (.iadd, 1) := by decide +kernel
theorem d_Mo_movesFrom_88 : decode b_Mo_movesFrom 88 = .ok (.iaload, 1) := by decide +kernel
theorem d_Mo_movesFrom_89 : decode b_Mo_movesFrom 89 = .ok (.iadd, 1) := by decide +kernel
theorem d_Mo_movesFrom_90 : decode b_Mo_movesFrom 90 = .ok (.aload_n 0, 1) := by decide +kernel
theorem d_Mo_movesFrom_91 : decode b_Mo_movesFrom 91 = .ok (.getfield 31, 3) := by decide +kernel
theorem d_Mo_movesFrom_94 : decode b_Mo_movesFrom 94 = .ok (.iload_n 3, 1) := by decide +kernel
theorem d_Mo_movesFrom_95 : decode b_Mo_movesFrom 95 = .ok (.iaload, 1) := by decide +kernel
theorem d_Mo_movesFrom_96 : decode b_Mo_movesFrom 96 = .ok (.if_icmp .gt 66, 3) := by decide +kernel
theorem d_Mo_movesFrom_99 : decode b_Mo_movesFrom 99 = .ok (.aload_n 0, 1) := by decide +kernel
theorem d_Mo_movesFrom_100 : decode b_Mo_movesFrom 100 = .ok (.getfield 34, 3) := by decide +kernel
theorem d_Mo_movesFrom_103 : decode b_Mo_movesFrom 103 = .ok (.iload_n 3, 1) := by decide +kernel
theorem d_Mo_movesFrom_104 : decode b_Mo_movesFrom 104 = .ok (.dup2, 1) := by decide +kernel
theorem d_Mo_movesFrom_105 : decode b_Mo_movesFrom 105 = .ok (.iaload, 1) := by decide +kernel
theorem d_Mo_movesFrom_106 : decode b_Mo_movesFrom 106 = .ok (.aload_n 0, 1) := by decide +kernel
theorem d_Mo_movesFrom_107 : decode b_Mo_movesFrom 107 = .ok (.getfield 9, 3) := by decide +kernel
theorem d_Mo_movesFrom_110 : decode b_Mo_movesFrom 110 = .ok (.bipush 58, 2) := by decide +kernel
theorem d_Mo_movesFrom_112 : decode b_Mo_movesFrom 112 = .ok (.iload_n 1, 1) := by decide +kernel
theorem d_Mo_movesFrom_113 : decode b_Mo_movesFrom 113 = .ok (.iadd, 1) := by decide +kernel
theorem d_Mo_movesFrom_114 : decode b_Mo_movesFrom 114 = .ok (.iaload, 1) := by decide +kernel
theorem d_Mo_movesFrom_115 : decode b_Mo_movesFrom 115 = .ok (.iadd, 1) := by decide +kernel
theorem d_Mo_movesFrom_116 : decode b_Mo_movesFrom 116 = .ok (.iastore, 1) := by decide +kernel
theorem d_Mo_movesFrom_117 : decode b_Mo_movesFrom 117 = .ok (.aload_n 0, 1) := by decide +kernel
theorem d_Mo_movesFrom_118 : decode b_Mo_movesFrom 118 = .ok (.iload_n 1, 1) := by decide +kernel
theorem d_Mo_movesFrom_119 : decode b_Mo_movesFrom 119 = .ok (.iconst 1, 1) := by decide +kernel
theorem d_Mo_movesFrom_120 : decode b_Mo_movesFrom 120 = .ok (.iadd, 1) := by decide +kernel
theorem d_Mo_movesFrom_121 : decode b_Mo_movesFrom 121 = .ok (.iload_n 2, 1) := by decide +kernel
theorem d_Mo_movesFrom_122 : decode b_Mo_movesFrom 122 = .ok (.aload_n 0, 1) := by decide +kernel
theorem d_Mo_movesFrom_123 : decode b_Mo_movesFrom 123 = .ok (.getfield 9, 3) := by decide +kernel
theorem d_Mo_movesFrom_126 : decode b_Mo_movesFrom 126 = .ok (.bipush 65, 2) := by decide +kernel
theorem d_Mo_movesFrom_128 : decode b_Mo_movesFrom 128 = .ok (.iload_n 1, 1) := by decide +kernel
theorem d_Mo_movesFrom_129 : decode b_Mo_movesFrom 129 = .ok (.iadd, 1) := by decide +kernel
theorem d_Mo_movesFrom_130 : decode b_Mo_movesFrom 130 = .ok (.iaload, 1) := by decide +kernel
theorem d_Mo_movesFrom_131 : decode b_Mo_movesFrom 131 = .ok (.iload_n 3, 1) := by decide +kernel
theorem d_Mo_movesFrom_132 : decode b_Mo_movesFrom 132 = .ok (.if_icmp .ne 7, 3) := by decide +kernel
theorem d_Mo_movesFrom_135 : decode b_Mo_movesFrom 135 = .ok (.iconst 0, 1) := by decide +kernel
theorem d_Mo_movesFrom_136 : decode b_Mo_movesFrom 136 = .ok (.goto 4, 3) := by decide +kernel
theorem d_Mo_movesFrom_139 : decode b_Mo_movesFrom 139 = .ok (.iconst 1, 1) := by decide +kernel
theorem d_Mo_movesFrom_140 : decode b_Mo_movesFrom 140 = .ok (.iadd, 1) := by decide +kernel
theorem d_Mo_movesFrom_141 : decode b_Mo_movesFrom 141 = .ok (.invokevirtual 200, 3) := by decide +kernel
theorem d_Mo_movesFrom_144 : decode b_Mo_movesFrom 144 = .ok (.aload_n 0, 1) := by decide +kernel
theorem d_Mo_movesFrom_145 : decode b_Mo_movesFrom 145 = .ok (.getfield 34, 3) := by decide +kernel
theorem d_Mo_movesFrom_148 : decode b_Mo_movesFrom 148 = .ok (.iload_n 3, 1) := by decide +kernel
theorem d_Mo_movesFrom_149 : decode b_Mo_movesFrom 149 = .ok (.dup2, 1) := by decide +kernel
theorem d_Mo_movesFrom_150 : decode b_Mo_movesFrom 150 = .ok (.iaload, 1) := by decide +kernel
theorem d_Mo_movesFrom_151 : decode b_Mo_movesFrom 151 = .ok (.aload_n 0, 1) := by decide +kernel
theorem d_Mo_movesFrom_152 : decode b_Mo_movesFrom 152 = .ok (.getfield 9, 3) := by decide +kernel
theorem d_Mo_movesFrom_155 : decode b_Mo_movesFrom 155 = .ok (.bipush 58, 2) := by decide +kernel
theorem d_Mo_movesFrom_157 : decode b_Mo_movesFrom 157 = .ok (.iload_n 1, 1) := by decide +kernel
theorem d_Mo_movesFrom_158 : decode b_Mo_movesFrom 158 = .ok (.iadd, 1) := by decide +kernel
theorem d_Mo_movesFrom_159 : decode b_Mo_movesFrom 159 = .ok (.iaload, 1) := by decide +kernel
theorem d_Mo_movesFrom_160 : decode b_Mo_movesFrom 160 = .ok (.isub, 1) := by decide +kernel
theorem d_Mo_movesFrom_161 : decode b_Mo_movesFrom 161 = .ok (.iastore, 1) := by decide +kernel
theorem d_Mo_movesFrom_162 : decode b_Mo_movesFrom 162 = .ok (.iinc 3 1, 3) := by decide +kernel
theorem d_Mo_movesFrom_165 : decode b_Mo_movesFrom 165 = .ok (.goto (-101), 3) := by decide +kernel
theorem d_Mo_movesFrom_168 : decode b_Mo_movesFrom 168 = .ok (.return_, 1) := by decide +kernel
theorem o_Mo_movesFrom : OkV y_Mo_movesFrom "OwnsLiftModel" b_Mo_movesFrom 4 none 2 := ⟨⟨rfl, by decide +kernel, by decide +kernel, by decide +kernel⟩, g_1272, g_55, g_81, g_1273⟩

set_option maxHeartbeats 8000000 in
set_option maxRecDepth 100000 in
theorem cg_Mo_movesFrom : ∀ nr : Nat, (∀ (l : Launch) (D : va_G) (g : Nat → ClassId) (a : Nat → Nat) (x1 : Int32) (x2 : Int32) (z : T_Mo) (v : T_Mo) (h : d_Mo_movesFrom nr x1 x2 z = some v), MV l y_Mo_movesFrom b_Mo_movesFrom 4 ({ frames := 1 + 2 * nr, cells := 0, slots := 0, locals := 1 + 60 * nr } : Room) D g [.ref (a 0), .int x1, .int x2] (ws_Mo g a z) (ws_Mo g a v)) := by
  intro nr
  induction nr with
  | zero =>
    exact (by intro l D g a x1 x2 z v h; have h : none = some v := h; cases h)
  | succ nr ih =>
    refine ?_
    · intro l D g a x1 x2 z v h
      have hd : B_Mo_movesFrom (d_Mo_movesFrom nr) x1 x2 z = some v := h
      have ihc := ih
      generalize hrc : (d_Mo_movesFrom nr) = rc at hd
      have ih : ∀ (l : Launch) (D : va_G) (g : Nat → ClassId) (a : Nat → Nat) (x1 : Int32) (x2 : Int32) (z : T_Mo) (v : T_Mo) (h : rc x1 x2 z = some v), MV l y_Mo_movesFrom b_Mo_movesFrom 4 ({ frames := 1 + 2 * nr, cells := 0, slots := 0, locals := 1 + 60 * nr } : Room) D g [.ref (a 0), .int x1, .int x2] (ws_Mo g a z) (ws_Mo g a v) := fun l D g a x1 x2 z v h => ih l D g a x1 x2 z v (by rw [hrc]; exact h)
      clear ihc hrc
      unfold B_Mo_movesFrom at hd
      refine enterV rfl (Nat.le_of_ble_eq_true rfl) (fun p e s m below meth c A ls hx hb hml hr hown hg hlk hK hA hP hD hS hCs hl => ?_)
      have hown : s.vm.findClass "OwnsLiftModel" = some m.cls := hown
      have hl : lv_has ls 4 [(0, .ref (a 0)), (1, .int x1), (2, .int x2)] := hl
      show GV p l e s m ({ frames := 1 + 2 * (nr + 1), cells := 0, slots := 0, locals := 1 + 60 * (nr + 1) } : Room) ([.ref (a 0), .int x1, .int x2] : List Value).toArray below meth c A D g (ws_Mo g a v) s.heap [] (F0 m 0 ls [])
      refine lv_iload_n hx hb d_Mo_movesFrom_0 rfl (lv_at hl 1 rfl) ?_
      refine lv_aload_n hx hb d_Mo_movesFrom_1 rfl (lv_at hl 0 rfl) ?_
      refine va_get (D := D) (ci := 1) (v := .ref (a 1)) (C := R_Mo) (T := F_Mo) (N := 26) hx hb hg i_Mo hown hK hP 0 rfl rfl 1 (by decide) (hg _ g_993) (fun _ h9 => h9) rfl d_Mo_movesFrom_2 ?_
      refine lv_iconst (v := 1) hx hb d_Mo_movesFrom_5 (by decide) ?_
      refine ialdK hx hb hK hP 1 0 rfl rfl (inb_t (by decide +kernel)) (k := 1) (by decide +kernel) d_Mo_movesFrom_6 ?_
      refine lv_icmp_ne (tgt := 40) hx hb d_Mo_movesFrom_7 (by decide) (fun h_1 => ?_) (fun h_1 => ?_)
      · have hd := ite_f hd h_1
        refine lv_aload_n hx hb d_Mo_movesFrom_40 rfl (lv_at hl 0 rfl) ?_
        refine va_get (D := D) (ci := 1) (v := .ref (a 1)) (C := R_Mo) (T := F_Mo) (N := 26) hx hb hg i_Mo hown hK hP 0 rfl rfl 1 (by decide) (hg _ g_993) (fun _ h9 => h9) rfl d_Mo_movesFrom_41 ?_
        refine lv_bipush (v := 65) hx hb d_Mo_movesFrom_44 (by decide) ?_
        refine lv_iload_n hx hb d_Mo_movesFrom_46 rfl (lv_at hl 1 rfl) ?_
        refine lv_iadd hx hb d_Mo_movesFrom_47 ?_
        obtain ⟨h_25, hd⟩ := ite_s hd
        refine ialdK hx hb hK hP 1 0 rfl rfl (inb_t h_25) rfl d_Mo_movesFrom_48 ?_
        refine lv_iconst (v := 4) hx hb d_Mo_movesFrom_49 (by decide) ?_
        refine lv_icmp_ne (tgt := 62) hx hb d_Mo_movesFrom_50 (by decide) (fun h_2 => ?_) (fun h_2 => ?_)
        · have hd := ite_f hd h_2
          refine lv_iconst (v := 0) hx hb d_Mo_movesFrom_62 (by decide) ?_
          refine lv_istore_n (lv' := [(3, .int 0), (0, .ref (a 0)), (1, .int x1), (2, .int x2)]) hx hb d_Mo_movesFrom_63 rfl hl (by decide) rfl (fun ls hl => ?_)
          have lp64 : ∀ (x1_f64 : Int32) (x2_f64 : Int32) (n : Nat) (x3_64 : Int32) (z_64 : T_Mo) (H : Heap) (locs : List Loc) (ls : Array Slot), va_P D classes (ws_Mo g a z_64) H → va_D A (ws_Mo g a z_64) → va_S A s.heap H locs → lv_has ls 4 [(0, .ref (a 0)), (1, .int x1_f64), (2, .int x2_f64), (3, .int x3_64)] → d_Mo_movesFrom_L64 rc x1_f64 x2_f64 n x3_64 z_64 = some v → GV p l e s m ({ frames := 1 + 2 * (nr + 1), cells := 0, slots := 0, locals := 1 + 60 * (nr + 1) } : Room) ([.ref (a 0), .int x1, .int x2] : List Value).toArray below meth c A D g (ws_Mo g a v) H locs (F0 m 64 ls []) := by
            intro x1_f64 x2_f64 n
            induction n with
            | zero =>
              intro  x3_64 z_64 H locs ls hP hD hS hl hd
              have hd : none = some v := hd
              cases hd
            | succ n ih64 =>
              intro  x3_64 z_64 H locs ls hP hD hS hl hd
              have hd : B_Mo_movesFrom_L64 rc x1_f64 x2_f64 (d_Mo_movesFrom_L64 rc x1_f64 x2_f64 n) x3_64 z_64 = some v := hd
              generalize d_Mo_movesFrom_L64 rc x1_f64 x2_f64 n = self64 at ih64 hd
              unfold B_Mo_movesFrom_L64 at hd
              refine lv_iload_n hx hb d_Mo_movesFrom_64 rfl (lv_at hl 3 rfl) ?_
              refine lv_aload_n hx hb d_Mo_movesFrom_65 rfl (lv_at hl 0 rfl) ?_
              refine va_get (D := D) (ci := 1) (v := .ref (a 1)) (C := R_Mo) (T := F_Mo) (N := 26) hx hb hg i_Mo hown hK hP 0 rfl rfl 1 (by decide) (hg _ g_993) (fun _ h9 => h9) rfl d_Mo_movesFrom_66 ?_
              refine lv_iconst (v := 0) hx hb d_Mo_movesFrom_69 (by decide) ?_
              refine ialdK hx hb hK hP 1 0 rfl rfl (inb_t (by decide +kernel)) (k := 0) (by decide +kernel) d_Mo_movesFrom_70 ?_
              refine lv_icmp_ge (tgt := 168) hx hb d_Mo_movesFrom_71 (by decide) (fun h_3 => ?_) (fun h_3 => ?_)
              · have hd := ite_t hd h_3
                obtain rfl := Option.some.inj hd
                exact retV hx hb hr hlk hK hP hD hS d_Mo_movesFrom_168
              · have hd := ite_f hd h_3
                refine lv_aload_n hx hb d_Mo_movesFrom_74 rfl (lv_at hl 0 rfl) ?_
                refine va_get (D := D) (ci := 1) (v := .ref (a 8)) (C := R_Mo) (T := F_Mo) (N := 26) hx hb hg i_Mo hown hK hP 0 rfl rfl 14 (by decide) (hg _ g_1006) (fun _ h9 => h9) rfl d_Mo_movesFrom_75 ?_
                refine lv_iload_n hx hb d_Mo_movesFrom_78 rfl (lv_at hl 3 rfl) ?_
                obtain ⟨h_22, hd⟩ := ite_s hd
                refine ialdK hx hb hK hP 8 0 rfl rfl (inb_t h_22) rfl d_Mo_movesFrom_79 ?_
                refine lv_aload_n hx hb d_Mo_movesFrom_80 rfl (lv_at hl 0 rfl) ?_
                refine va_get (D := D) (ci := 1) (v := .ref (a 1)) (C := R_Mo) (T := F_Mo) (N := 26) hx hb hg i_Mo hown hK hP 0 rfl rfl 1 (by decide) (hg _ g_993) (fun _ h9 => h9) rfl d_Mo_movesFrom_81 ?_
                refine lv_bipush (v := 58) hx hb d_Mo_movesFrom_84 (by decide) ?_
                refine lv_iload_n hx hb d_Mo_movesFrom_86 rfl (lv_at hl 1 rfl) ?_
                refine lv_iadd hx hb d_Mo_movesFrom_87 ?_
                obtain ⟨h_21, hd⟩ := ite_s hd
                refine ialdK hx hb hK hP 1 0 rfl rfl (inb_t h_21) rfl d_Mo_movesFrom_88 ?_
                refine lv_iadd hx hb d_Mo_movesFrom_89 ?_
                refine lv_aload_n hx hb d_Mo_movesFrom_90 rfl (lv_at hl 0 rfl) ?_
                refine va_get (D := D) (ci := 1) (v := .ref (a 7)) (C := R_Mo) (T := F_Mo) (N := 26) hx hb hg i_Mo hown hK hP 0 rfl rfl 13 (by decide) (hg _ g_1005) (fun _ h9 => h9) rfl d_Mo_movesFrom_91 ?_
                refine lv_iload_n hx hb d_Mo_movesFrom_94 rfl (lv_at hl 3 rfl) ?_
                obtain ⟨h_20, hd⟩ := ite_s hd
                refine ialdK hx hb hK hP 7 0 rfl rfl (inb_t h_20) rfl d_Mo_movesFrom_95 ?_
                refine lv_icmp_gt (tgt := 162) hx hb d_Mo_movesFrom_96 (by decide) (fun h_4 => ?_) (fun h_4 => ?_)
                · have hd := ite_t hd h_4
                  refine lv_iinc (v := x3_64 + 1) (lv' := [(3, .int (x3_64 + 1)), (0, .ref (a 0)), (1, .int x1_f64), (2, .int x2_f64)]) hx hb d_Mo_movesFrom_162 hl (k := 3) rfl (by rfl) (by decide) rfl (fun ls hl => ?_)
                  refine lv_goto (tgt := 64) hx hb d_Mo_movesFrom_165 (by decide) ?_
                  exact ih64 (x3_64 + 1) z_64 _ _ _ hP hD hS (lv_sub hl [1, 2, 3, 0] rfl) hd
                · have hd := ite_f hd h_4
                  refine lv_aload_n hx hb d_Mo_movesFrom_99 rfl (lv_at hl 0 rfl) ?_
                  refine va_get (D := D) (ci := 1) (v := .ref (a 8)) (C := R_Mo) (T := F_Mo) (N := 26) hx hb hg i_Mo hown hK hP 0 rfl rfl 14 (by decide) (hg _ g_1006) (fun _ h9 => h9) rfl d_Mo_movesFrom_100 ?_
                  refine lv_iload_n hx hb d_Mo_movesFrom_103 rfl (lv_at hl 3 rfl) ?_
                  refine lv_dup2_11 hx hb d_Mo_movesFrom_104 rfl rfl ?_
                  obtain ⟨h_19, hd⟩ := ite_s hd
                  refine ialdK hx hb hK hP 8 0 rfl rfl (inb_t h_19) rfl d_Mo_movesFrom_105 ?_
                  refine lv_aload_n hx hb d_Mo_movesFrom_106 rfl (lv_at hl 0 rfl) ?_
                  refine va_get (D := D) (ci := 1) (v := .ref (a 1)) (C := R_Mo) (T := F_Mo) (N := 26) hx hb hg i_Mo hown hK hP 0 rfl rfl 1 (by decide) (hg _ g_993) (fun _ h9 => h9) rfl d_Mo_movesFrom_107 ?_
                  refine lv_bipush (v := 58) hx hb d_Mo_movesFrom_110 (by decide) ?_
                  refine lv_iload_n hx hb d_Mo_movesFrom_112 rfl (lv_at hl 1 rfl) ?_
                  refine lv_iadd hx hb d_Mo_movesFrom_113 ?_
                  obtain ⟨h_18, hd⟩ := ite_s hd
                  refine ialdK hx hb hK hP 1 0 rfl rfl (inb_t h_18) rfl d_Mo_movesFrom_114 ?_
                  refine lv_iadd hx hb d_Mo_movesFrom_115 ?_
                  obtain ⟨h_17, hd⟩ := ite_s hd
                  refine iastK hx hb hK hP hD hS 8 0 rfl rfl (inb_t h_17) rfl d_Mo_movesFrom_116 (fun H locs hP hD hS => ?_)
                  have hP : va_P D classes (ws_Mo g a (u_Mo_loads z_64 (upd (q_Mo_loads z_64) x3_64.toNatClampNeg (((q_Mo_loads z_64) x3_64.toNatClampNeg) + ((q_Mo_s z_64) (58 + x1_f64).toNatClampNeg))))) H := hP
                  have hD : va_D A (ws_Mo g a (u_Mo_loads z_64 (upd (q_Mo_loads z_64) x3_64.toNatClampNeg (((q_Mo_loads z_64) x3_64.toNatClampNeg) + ((q_Mo_s z_64) (58 + x1_f64).toNatClampNeg))))) := hD
                  refine lv_aload_n hx hb d_Mo_movesFrom_117 rfl (lv_at hl 0 rfl) ?_
                  refine lv_iload_n hx hb d_Mo_movesFrom_118 rfl (lv_at hl 1 rfl) ?_
                  refine lv_iconst (v := 1) hx hb d_Mo_movesFrom_119 (by decide) ?_
                  refine lv_iadd hx hb d_Mo_movesFrom_120 ?_
                  refine lv_iload_n hx hb d_Mo_movesFrom_121 rfl (lv_at hl 2 rfl) ?_
                  refine lv_aload_n hx hb d_Mo_movesFrom_122 rfl (lv_at hl 0 rfl) ?_
                  refine va_get (D := D) (ci := 1) (v := .ref (a 1)) (C := R_Mo) (T := F_Mo) (N := 26) hx hb hg i_Mo hown hK hP 0 rfl rfl 1 (by decide) (hg _ g_993) (fun _ h9 => h9) rfl d_Mo_movesFrom_123 ?_
                  refine lv_bipush (v := 65) hx hb d_Mo_movesFrom_126 (by decide) ?_
                  refine lv_iload_n hx hb d_Mo_movesFrom_128 rfl (lv_at hl 1 rfl) ?_
                  refine lv_iadd hx hb d_Mo_movesFrom_129 ?_
                  obtain ⟨h_16, hd⟩ := ite_s hd
                  refine ialdK hx hb hK hP 1 0 rfl rfl (inb_t h_16) rfl d_Mo_movesFrom_130 ?_
                  refine lv_iload_n hx hb d_Mo_movesFrom_131 rfl (lv_at hl 3 rfl) ?_
                  refine lv_icmp_ne (tgt := 139) hx hb d_Mo_movesFrom_132 (by decide) (fun h_5 => ?_) (fun h_5 => ?_)
                  · have hd := ite_f hd h_5
                    refine lv_iconst (v := 1) hx hb d_Mo_movesFrom_139 (by decide) ?_
                    refine lv_iadd hx hb d_Mo_movesFrom_140 ?_
                    obtain ⟨v_6, e_7, hd⟩ := bind_s hd
                    refine callVV (ws' := ws_Mo g a v_6) (rest := []) (As := [.int (x1_f64 + 1), .int (x2_f64 + 1)]) hx hb hml hown hg hK hP hD hS hA hCs hl.1 (ih l D g a (x1_f64 + 1) (x2_f64 + 1) (u_Mo_loads z_64 (upd (q_Mo_loads z_64) x3_64.toNatClampNeg (((q_Mo_loads z_64) x3_64.toNatClampNeg) + ((q_Mo_s z_64) (58 + x1_f64).toNatClampNeg)))) _ e_7) o_Mo_movesFrom g_1270 (ci := 1) (q0 := 0) rfl rfl (List.range' 0 12) (segC1 rfl rfl) (by decide) rfl (segP1 rfl rfl) rfl rfl (Nat.le_of_ble_eq_true rfl) ⟨rfl, rfl, by show _ ≤ _; (try dsimp only); omega, by show _ ≤ _; (try dsimp only); omega⟩ d_Mo_movesFrom_141 (fun H locs hP hD hS => ?_)
                    refine lv_aload_n hx hb d_Mo_movesFrom_144 rfl (lv_at hl 0 rfl) ?_
                    refine va_get (D := D) (ci := 1) (v := .ref (a 8)) (C := R_Mo) (T := F_Mo) (N := 26) hx hb hg i_Mo hown hK hP 0 rfl rfl 14 (by decide) (hg _ g_1006) (fun _ h9 => h9) rfl d_Mo_movesFrom_145 ?_
                    refine lv_iload_n hx hb d_Mo_movesFrom_148 rfl (lv_at hl 3 rfl) ?_
                    refine lv_dup2_11 hx hb d_Mo_movesFrom_149 rfl rfl ?_
                    obtain ⟨h_10, hd⟩ := ite_s hd
                    refine ialdK hx hb hK hP 8 0 rfl rfl (inb_t h_10) rfl d_Mo_movesFrom_150 ?_
                    refine lv_aload_n hx hb d_Mo_movesFrom_151 rfl (lv_at hl 0 rfl) ?_
                    refine va_get (D := D) (ci := 1) (v := .ref (a 1)) (C := R_Mo) (T := F_Mo) (N := 26) hx hb hg i_Mo hown hK hP 0 rfl rfl 1 (by decide) (hg _ g_993) (fun _ h9 => h9) rfl d_Mo_movesFrom_152 ?_
                    refine lv_bipush (v := 58) hx hb d_Mo_movesFrom_155 (by decide) ?_
                    refine lv_iload_n hx hb d_Mo_movesFrom_157 rfl (lv_at hl 1 rfl) ?_
                    refine lv_iadd hx hb d_Mo_movesFrom_158 ?_
                    obtain ⟨h_9, hd⟩ := ite_s hd
                    refine ialdK hx hb hK hP 1 0 rfl rfl (inb_t h_9) rfl d_Mo_movesFrom_159 ?_
                    refine lv_isub hx hb d_Mo_movesFrom_160 ?_
                    obtain ⟨h_8, hd⟩ := ite_s hd
                    refine iastK hx hb hK hP hD hS 8 0 rfl rfl (inb_t h_8) rfl d_Mo_movesFrom_161 (fun H locs hP hD hS => ?_)
                    have hP : va_P D classes (ws_Mo g a (u_Mo_loads v_6 (upd (q_Mo_loads v_6) x3_64.toNatClampNeg (((q_Mo_loads v_6) x3_64.toNatClampNeg) - ((q_Mo_s v_6) (58 + x1_f64).toNatClampNeg))))) H := hP
                    have hD : va_D A (ws_Mo g a (u_Mo_loads v_6 (upd (q_Mo_loads v_6) x3_64.toNatClampNeg (((q_Mo_loads v_6) x3_64.toNatClampNeg) - ((q_Mo_s v_6) (58 + x1_f64).toNatClampNeg))))) := hD
                    refine lv_iinc (v := x3_64 + 1) (lv' := [(3, .int (x3_64 + 1)), (0, .ref (a 0)), (1, .int x1_f64), (2, .int x2_f64)]) hx hb d_Mo_movesFrom_162 hl (k := 3) rfl (by rfl) (by decide) rfl (fun ls hl => ?_)
                    refine lv_goto (tgt := 64) hx hb d_Mo_movesFrom_165 (by decide) ?_
                    exact ih64 (x3_64 + 1) (u_Mo_loads v_6 (upd (q_Mo_loads v_6) x3_64.toNatClampNeg (((q_Mo_loads v_6) x3_64.toNatClampNeg) - ((q_Mo_s v_6) (58 + x1_f64).toNatClampNeg)))) _ _ _ hP hD hS (lv_sub hl [1, 2, 3, 0] rfl) hd
                  · have hd := ite_t hd h_5
                    refine lv_iconst (v := 0) hx hb d_Mo_movesFrom_135 (by decide) ?_
                    refine lv_goto (tgt := 140) hx hb d_Mo_movesFrom_136 (by decide) ?_
                    refine lv_iadd hx hb d_Mo_movesFrom_140 ?_
                    obtain ⟨v_11, e_12, hd⟩ := bind_s hd
                    refine callVV (ws' := ws_Mo g a v_11) (rest := []) (As := [.int (x1_f64 + 1), .int (x2_f64 + 0)]) hx hb hml hown hg hK hP hD hS hA hCs hl.1 (ih l D g a (x1_f64 + 1) (x2_f64 + 0) (u_Mo_loads z_64 (upd (q_Mo_loads z_64) x3_64.toNatClampNeg (((q_Mo_loads z_64) x3_64.toNatClampNeg) + ((q_Mo_s z_64) (58 + x1_f64).toNatClampNeg)))) _ e_12) o_Mo_movesFrom g_1270 (ci := 1) (q0 := 0) rfl rfl (List.range' 0 12) (segC1 rfl rfl) (by decide) rfl (segP1 rfl rfl) rfl rfl (Nat.le_of_ble_eq_true rfl) ⟨rfl, rfl, by show _ ≤ _; (try dsimp only); omega, by show _ ≤ _; (try dsimp only); omega⟩ d_Mo_movesFrom_141 (fun H locs hP hD hS => ?_)
                    refine lv_aload_n hx hb d_Mo_movesFrom_144 rfl (lv_at hl 0 rfl) ?_
                    refine va_get (D := D) (ci := 1) (v := .ref (a 8)) (C := R_Mo) (T := F_Mo) (N := 26) hx hb hg i_Mo hown hK hP 0 rfl rfl 14 (by decide) (hg _ g_1006) (fun _ h9 => h9) rfl d_Mo_movesFrom_145 ?_
                    refine lv_iload_n hx hb d_Mo_movesFrom_148 rfl (lv_at hl 3 rfl) ?_
                    refine lv_dup2_11 hx hb d_Mo_movesFrom_149 rfl rfl ?_
                    obtain ⟨h_15, hd⟩ := ite_s hd
                    refine ialdK hx hb hK hP 8 0 rfl rfl (inb_t h_15) rfl d_Mo_movesFrom_150 ?_
                    refine lv_aload_n hx hb d_Mo_movesFrom_151 rfl (lv_at hl 0 rfl) ?_
                    refine va_get (D := D) (ci := 1) (v := .ref (a 1)) (C := R_Mo) (T := F_Mo) (N := 26) hx hb hg i_Mo hown hK hP 0 rfl rfl 1 (by decide) (hg _ g_993) (fun _ h9 => h9) rfl d_Mo_movesFrom_152 ?_
                    refine lv_bipush (v := 58) hx hb d_Mo_movesFrom_155 (by decide) ?_
                    refine lv_iload_n hx hb d_Mo_movesFrom_157 rfl (lv_at hl 1 rfl) ?_
                    refine lv_iadd hx hb d_Mo_movesFrom_158 ?_
                    obtain ⟨h_14, hd⟩ := ite_s hd
                    refine ialdK hx hb hK hP 1 0 rfl rfl (inb_t h_14) rfl d_Mo_movesFrom_159 ?_
                    refine lv_isub hx hb d_Mo_movesFrom_160 ?_
                    obtain ⟨h_13, hd⟩ := ite_s hd
                    refine iastK hx hb hK hP hD hS 8 0 rfl rfl (inb_t h_13) rfl d_Mo_movesFrom_161 (fun H locs hP hD hS => ?_)
                    have hP : va_P D classes (ws_Mo g a (u_Mo_loads v_11 (upd (q_Mo_loads v_11) x3_64.toNatClampNeg (((q_Mo_loads v_11) x3_64.toNatClampNeg) - ((q_Mo_s v_11) (58 + x1_f64).toNatClampNeg))))) H := hP
                    have hD : va_D A (ws_Mo g a (u_Mo_loads v_11 (upd (q_Mo_loads v_11) x3_64.toNatClampNeg (((q_Mo_loads v_11) x3_64.toNatClampNeg) - ((q_Mo_s v_11) (58 + x1_f64).toNatClampNeg))))) := hD
                    refine lv_iinc (v := x3_64 + 1) (lv' := [(3, .int (x3_64 + 1)), (0, .ref (a 0)), (1, .int x1_f64), (2, .int x2_f64)]) hx hb d_Mo_movesFrom_162 hl (k := 3) rfl (by rfl) (by decide) rfl (fun ls hl => ?_)
                    refine lv_goto (tgt := 64) hx hb d_Mo_movesFrom_165 (by decide) ?_
                    exact ih64 (x3_64 + 1) (u_Mo_loads v_11 (upd (q_Mo_loads v_11) x3_64.toNatClampNeg (((q_Mo_loads v_11) x3_64.toNatClampNeg) - ((q_Mo_s v_11) (58 + x1_f64).toNatClampNeg)))) _ _ _ hP hD hS (lv_sub hl [1, 2, 3, 0] rfl) hd
          exact lp64 x1 x2 1000 0 z _ _ _ hP hD hS (lv_sub hl [1, 2, 3, 0] rfl) hd
        · have hd := ite_t hd h_2
          refine lv_aload_n hx hb d_Mo_movesFrom_53 rfl (lv_at hl 0 rfl) ?_
          refine lv_iload_n hx hb d_Mo_movesFrom_54 rfl (lv_at hl 1 rfl) ?_
          refine lv_iconst (v := 1) hx hb d_Mo_movesFrom_55 (by decide) ?_
          refine lv_iadd hx hb d_Mo_movesFrom_56 ?_
          refine lv_iload_n hx hb d_Mo_movesFrom_57 rfl (lv_at hl 2 rfl) ?_
          obtain ⟨v_23, e_24, hd⟩ := bind_s hd
          refine callVV (ws' := ws_Mo g a v_23) (rest := []) (As := [.int (x1 + 1), .int x2]) hx hb hml hown hg hK hP hD hS hA hCs hl.1 (ih l D g a (x1 + 1) x2 z _ e_24) o_Mo_movesFrom g_1270 (ci := 1) (q0 := 0) rfl rfl (List.range' 0 12) (segC1 rfl rfl) (by decide) rfl (segP1 rfl rfl) rfl rfl (Nat.le_of_ble_eq_true rfl) ⟨rfl, rfl, by show _ ≤ _; (try dsimp only); omega, by show _ ≤ _; (try dsimp only); omega⟩ d_Mo_movesFrom_58 (fun H locs hP hD hS => ?_)
          obtain rfl := Option.some.inj hd
          exact retV hx hb hr hlk hK hP hD hS d_Mo_movesFrom_61
      · have hd := ite_t hd h_1
        refine lv_aload_n hx hb d_Mo_movesFrom_10 rfl (lv_at hl 0 rfl) ?_
        refine lv_aload_n hx hb d_Mo_movesFrom_11 rfl (lv_at hl 0 rfl) ?_
        refine va_get (D := D) (ci := 1) (v := .int (q_Mo_fewest z)) (C := R_Mo) (T := F_Mo) (N := 26) hx hb hg i_Mo hown hK hP 0 rfl rfl 19 (by decide) (hg _ g_1011) (fun _ h9 => h9) rfl d_Mo_movesFrom_12 ?_
        refine lv_bipush (v := (-5)) hx hb d_Mo_movesFrom_15 (by decide) ?_
        refine lv_icmp_eq (tgt := 28) hx hb d_Mo_movesFrom_17 (by decide) (fun h_26 => ?_) (fun h_26 => ?_)
        · have hd := ite_t hd h_26
          refine lv_iload_n hx hb d_Mo_movesFrom_28 rfl (lv_at hl 2 rfl) ?_
          refine lv_goto (tgt := 36) hx hb d_Mo_movesFrom_29 (by decide) ?_
          refine va_put (D := D) (ci := 1) (v := .int x2) (ty := .int) (C := R_Mo) (T := F_Mo) (N := 26) hx hb hg i_Mo t_Mo t_Mo_ok n_Mo hown hK hP hD hS 0 rfl rfl 19 (by decide) (hg _ g_1011) (fun _ h9 => h9) rfl (by decide +kernel) rfl rfl (Nat.le_of_ble_eq_true rfl) d_Mo_movesFrom_36 (fun H locs hP hD hS => ?_)
          have hP : va_P D classes (ws_Mo g a (u_Mo_fewest z x2)) H := hP
          have hD : va_D A (ws_Mo g a (u_Mo_fewest z x2)) := hD
          obtain rfl := Option.some.inj hd
          exact retV hx hb hr hlk hK hP hD hS d_Mo_movesFrom_39
        · have hd := ite_f hd h_26
          refine lv_iload_n hx hb d_Mo_movesFrom_20 rfl (lv_at hl 2 rfl) ?_
          refine lv_aload_n hx hb d_Mo_movesFrom_21 rfl (lv_at hl 0 rfl) ?_
          refine va_get (D := D) (ci := 1) (v := .int (q_Mo_fewest z)) (C := R_Mo) (T := F_Mo) (N := 26) hx hb hg i_Mo hown hK hP 0 rfl rfl 19 (by decide) (hg _ g_1011) (fun _ h9 => h9) rfl d_Mo_movesFrom_22 ?_
          refine lv_icmp_ge (tgt := 32) hx hb d_Mo_movesFrom_25 (by decide) (fun h_27 => ?_) (fun h_27 => ?_)
          · have hd := ite_t hd h_27
            refine lv_aload_n hx hb d_Mo_movesFrom_32 rfl (lv_at hl 0 rfl) ?_
            refine va_get (D := D) (ci := 1) (v := .int (q_Mo_fewest z)) (C := R_Mo) (T := F_Mo) (N := 26) hx hb hg i_Mo hown hK hP 0 rfl rfl 19 (by decide) (hg _ g_1011) (fun _ h9 => h9) rfl d_Mo_movesFrom_33 ?_
            refine va_put (D := D) (ci := 1) (v := .int (q_Mo_fewest z)) (ty := .int) (C := R_Mo) (T := F_Mo) (N := 26) hx hb hg i_Mo t_Mo t_Mo_ok n_Mo hown hK hP hD hS 0 rfl rfl 19 (by decide) (hg _ g_1011) (fun _ h9 => h9) rfl (by decide +kernel) rfl rfl (Nat.le_of_ble_eq_true rfl) d_Mo_movesFrom_36 (fun H locs hP hD hS => ?_)
            have hP : va_P D classes (ws_Mo g a (u_Mo_fewest z (q_Mo_fewest z))) H := hP
            have hD : va_D A (ws_Mo g a (u_Mo_fewest z (q_Mo_fewest z))) := hD
            obtain rfl := Option.some.inj hd
            exact retV hx hb hr hlk hK hP hD hS d_Mo_movesFrom_39
          · have hd := ite_f hd h_27
            refine lv_iload_n hx hb d_Mo_movesFrom_28 rfl (lv_at hl 2 rfl) ?_
            refine lv_goto (tgt := 36) hx hb d_Mo_movesFrom_29 (by decide) ?_
            refine va_put (D := D) (ci := 1) (v := .int x2) (ty := .int) (C := R_Mo) (T := F_Mo) (N := 26) hx hb hg i_Mo t_Mo t_Mo_ok n_Mo hown hK hP hD hS 0 rfl rfl 19 (by decide) (hg _ g_1011) (fun _ h9 => h9) rfl (by decide +kernel) rfl rfl (Nat.le_of_ble_eq_true rfl) d_Mo_movesFrom_36 (fun H locs hP hD hS => ?_)
            have hP : va_P D classes (ws_Mo g a (u_Mo_fewest z x2)) H := hP
            have hD : va_D A (ws_Mo g a (u_Mo_fewest z x2)) := hD
            obtain rfl := Option.some.inj hd
            exact retV hx hb hr hlk hK hP hD hS d_Mo_movesFrom_39
theorem c_Mo_movesFrom (n : Nat) (l : Launch) (D : va_G) (g : Nat → ClassId) (a : Nat → Nat) (x1 : Int32) (x2 : Int32) (z : T_Mo) (v : T_Mo) (h : d_Mo_movesFrom n x1 x2 z = some v) :
    MV l y_Mo_movesFrom b_Mo_movesFrom 4 ({ frames := 1 + 2 * n, cells := 0, slots := 0, locals := 1 + 60 * n } : Room) D g [.ref (a 0), .int x1, .int x2] (ws_Mo g a z) (ws_Mo g a v) := (cg_Mo_movesFrom n) l D g a x1 x2 z v h
-- OwnsLiftModel.moved()I
def d_Mo_moved (z : T_Mo) : Option (Int32 × T_Mo) :=
  (d_Mo_begins z).bind fun v_1 => (d_Mo_movesFrom 64 0 0 v_1).bind fun v_3 => some ((q_Mo_fewest v_3), v_3)
theorem d_Mo_moved_0 : decode b_Mo_moved 0 = .ok (.aload_n 0, 1) := by decide +kernel
theorem d_Mo_moved_1 : decode b_Mo_moved 1 = .ok (.invokevirtual 197, 3) := by decide +kernel
theorem d_Mo_moved_4 : decode b_Mo_moved 4 = .ok (.aload_n 0, 1) := by decide +kernel
theorem d_Mo_moved_5 : decode b_Mo_moved 5 = .ok (.iconst 0, 1) := by decide +kernel
theorem d_Mo_moved_6 : decode b_Mo_moved 6 = .ok (.iconst 0, 1) := by decide +kernel
theorem d_Mo_moved_7 : decode b_Mo_moved 7 = .ok (.invokevirtual 200, 3) := by decide +kernel
theorem d_Mo_moved_10 : decode b_Mo_moved 10 = .ok (.aload_n 0, 1) := by decide +kernel
theorem d_Mo_moved_11 : decode b_Mo_moved 11 = .ok (.getfield 190, 3) := by decide +kernel
theorem d_Mo_moved_14 : decode b_Mo_moved 14 = .ok (.ireturn, 1) := by decide +kernel
theorem o_Mo_moved : OkV y_Mo_moved "OwnsLiftModel" b_Mo_moved 1 (some .int) 0 := ⟨⟨rfl, by decide +kernel, by decide +kernel, by decide +kernel⟩, g_1267, g_1268, g_81, g_1269⟩
set_option maxHeartbeats 4000000 in
set_option maxRecDepth 100000 in
theorem c_Mo_moved (l : Launch) (D : va_G) (g : Nat → ClassId) (a : Nat → Nat) (z : T_Mo) (v : Int32 × T_Mo) (h : d_Mo_moved z = some v) :
    MI l y_Mo_moved b_Mo_moved 1 .int ({ frames := 130, cells := 0, slots := 0, locals := 3864 } : Room) D g [.ref (a 0)] (ws_Mo g a z) (v.1) (ws_Mo g a v.2) := by
  have hd := h
  unfold d_Mo_moved at hd
  refine enterI rfl (Nat.le_of_ble_eq_true rfl) (fun p e s m below meth c A ls hx hb hml hr hown hg hlk hK hA hP hD hS hCs hl => ?_)
  have hown : s.vm.findClass "OwnsLiftModel" = some m.cls := hown
  have hl : lv_has ls 1 [(0, .ref (a 0))] := hl
  show GI p l e s m ({ frames := 130, cells := 0, slots := 0, locals := 3864 } : Room) ([.ref (a 0)] : List Value).toArray below meth c A D g (ws_Mo g a v.2) (v.1) s.heap [] (F0 m 0 ls [])
  refine lv_aload_n hx hb d_Mo_moved_0 rfl (lv_at hl 0 rfl) ?_
  obtain ⟨v_1, e_2, hd⟩ := bind_s hd
  refine callVV (ws' := ws_Mo g a v_1) (rest := []) (As := []) hx hb hml hown hg hK hP hD hS hA hCs hl.1 (c_Mo_begins l D g a z _ e_2) o_Mo_begins g_1250 (ci := 1) (q0 := 0) rfl rfl (List.range' 0 12) (segC1 rfl rfl) (by decide) rfl (segP1 rfl rfl) rfl rfl (Nat.le_of_ble_eq_true rfl) ⟨rfl, rfl, Nat.le_of_ble_eq_true rfl, Nat.le_of_ble_eq_true rfl⟩ d_Mo_moved_1 (fun H locs hP hD hS => ?_)
  refine lv_aload_n hx hb d_Mo_moved_4 rfl (lv_at hl 0 rfl) ?_
  refine lv_iconst (v := 0) hx hb d_Mo_moved_5 (by decide) ?_
  refine lv_iconst (v := 0) hx hb d_Mo_moved_6 (by decide) ?_
  obtain ⟨v_3, e_4, hd⟩ := bind_s hd
  refine callVV (ws' := ws_Mo g a v_3) (rest := []) (As := [.int 0, .int 0]) hx hb hml hown hg hK hP hD hS hA hCs hl.1 (c_Mo_movesFrom 64 l D g a 0 0 v_1 _ e_4) o_Mo_movesFrom g_1270 (ci := 1) (q0 := 0) rfl rfl (List.range' 0 12) (segC1 rfl rfl) (by decide) rfl (segP1 rfl rfl) rfl rfl (Nat.le_of_ble_eq_true rfl) ⟨rfl, rfl, Nat.le_of_ble_eq_true rfl, Nat.le_of_ble_eq_true rfl⟩ d_Mo_moved_7 (fun H locs hP hD hS => ?_)
  refine lv_aload_n hx hb d_Mo_moved_10 rfl (lv_at hl 0 rfl) ?_
  refine va_get (D := D) (ci := 1) (v := .int (q_Mo_fewest v_3)) (C := R_Mo) (T := F_Mo) (N := 26) hx hb hg i_Mo hown hK hP 0 rfl rfl 19 (by decide) (hg _ g_1011) (fun _ h9 => h9) rfl d_Mo_moved_11 ?_
  obtain rfl := Option.some.inj hd
  exact retI hx hb hr hlk hK hP hD hS d_Mo_moved_14 rfl
-- OwnsLiftModel.weightsOf(I)I
def B_Mo_weightsOf_L4 (x1_f4 : Int32) (z : T_Mo) (self4 : Int32 → Int32 → Option (Int32)) (x2_4 : Int32) (x3_4 : Int32) : Option (Int32) :=
  if ((q_Mo_s z) 1) ≤ x3_4 then (some (x2_4)) else (if ((x1_f4 >>> (x3_4 &&& 31)) &&& 1) = 1 then (if inb (58 + x3_4) 901 = true then (self4 (x2_4 + ((q_Mo_s z) (58 + x3_4).toNatClampNeg)) (x3_4 + 1)) else none) else (self4 (x2_4 + 0) (x3_4 + 1)))
def d_Mo_weightsOf_L4 (x1_f4 : Int32) (z : T_Mo) (n : Nat) : Int32 → Int32 → Option (Int32) := recN (fun _ _ => none) (fun self => B_Mo_weightsOf_L4 x1_f4 z self) n
def d_Mo_weightsOf (x1 : Int32) (z : T_Mo) : Option (Int32) :=
  d_Mo_weightsOf_L4 x1 z  1000 0 0
theorem d_Mo_weightsOf_0 : decode b_Mo_weightsOf 0 = .ok (.iconst 0, 1) := by decide +kernel
theorem d_Mo_weightsOf_1 : decode b_Mo_weightsOf 1 = .ok (.istore_n 2, 1) := by decide +kernel
theorem d_Mo_weightsOf_2 : decode b_Mo_weightsOf 2 = .ok (.iconst 0, 1) := by decide +kernel
theorem d_Mo_weightsOf_3 : decode b_Mo_weightsOf 3 = .ok (.istore_n 3, 1) := by decide +kernel
theorem d_Mo_weightsOf_4 : decode b_Mo_weightsOf 4 = .ok (.iload_n 3, 1) := by decide +kernel
theorem d_Mo_weightsOf_5 : decode b_Mo_weightsOf 5 = .ok (.aload_n 0, 1) := by decide +kernel
theorem d_Mo_weightsOf_6 : decode b_Mo_weightsOf 6 = .ok (.getfield 9, 3) := by decide +kernel
theorem d_Mo_weightsOf_9 : decode b_Mo_weightsOf 9 = .ok (.iconst 1, 1) := by decide +kernel
theorem d_Mo_weightsOf_10 : decode b_Mo_weightsOf 10 = .ok (.iaload, 1) := by decide +kernel
theorem d_Mo_weightsOf_11 : decode b_Mo_weightsOf 11 = .ok (.if_icmp .ge 34, 3) := by decide +kernel
theorem d_Mo_weightsOf_14 : decode b_Mo_weightsOf 14 = .ok (.iload_n 2, 1) := by decide +kernel
theorem d_Mo_weightsOf_15 : decode b_Mo_weightsOf 15 = .ok (.iload_n 1, 1) := by decide +kernel
theorem d_Mo_weightsOf_16 : decode b_Mo_weightsOf 16 = .ok (.iload_n 3, 1) := by decide +kernel
theorem d_Mo_weightsOf_17 : decode b_Mo_weightsOf 17 = .ok (.ishr, 1) := by decide +kernel
theorem d_Mo_weightsOf_18 : decode b_Mo_weightsOf 18 = .ok (.iconst 1, 1) := by decide +kernel
theorem d_Mo_weightsOf_19 : decode b_Mo_weightsOf 19 = .ok (.iand, 1) := by decide +kernel
theorem d_Mo_weightsOf_20 : decode b_Mo_weightsOf 20 = .ok (.iconst 1, 1) := by decide +kernel
theorem d_Mo_weightsOf_21 : decode b_Mo_weightsOf 21 = .ok (.if_icmp .ne 15, 3) := by decide +kernel
theorem d_Mo_weightsOf_24 : decode b_Mo_weightsOf 24 = .ok (.aload_n 0, 1) := by decide +kernel
theorem d_Mo_weightsOf_25 : decode b_Mo_weightsOf 25 = .ok (.getfield 9, 3) := by decide +kernel
theorem d_Mo_weightsOf_28 : decode b_Mo_weightsOf 28 = .ok (.bipush 58, 2) := by decide +kernel
theorem d_Mo_weightsOf_30 : decode b_Mo_weightsOf 30 = .ok (.iload_n 3, 1) := by decide +kernel
theorem d_Mo_weightsOf_31 : decode b_Mo_weightsOf 31 = .ok (.iadd, 1) := by decide +kernel
theorem d_Mo_weightsOf_32 : decode b_Mo_weightsOf 32 = .ok (.iaload, 1) := by decide +kernel
theorem d_Mo_weightsOf_33 : decode b_Mo_weightsOf 33 = .ok (.goto 4, 3) := by decide +kernel
theorem d_Mo_weightsOf_36 : decode b_Mo_weightsOf 36 = .ok (.iconst 0, 1) := by decide +kernel
theorem d_Mo_weightsOf_37 : decode b_Mo_weightsOf 37 = .ok (.iadd, 1) := by decide +kernel
theorem d_Mo_weightsOf_38 : decode b_Mo_weightsOf 38 = .ok (.istore_n 2, 1) := by decide +kernel
theorem d_Mo_weightsOf_39 : decode b_Mo_weightsOf 39 = .ok (.iinc 3 1, 3) := by decide +kernel
theorem d_Mo_weightsOf_42 : decode b_Mo_weightsOf 42 = .ok (.goto (-38), 3) := by decide +kernel
theorem d_Mo_weightsOf_45 : decode b_Mo_weightsOf 45 = .ok (.iload_n 2, 1) := by decide +kernel
theorem d_Mo_weightsOf_46 : decode b_Mo_weightsOf 46 = .ok (.ireturn, 1) := by decide +kernel
theorem o_Mo_weightsOf : OkV y_Mo_weightsOf "OwnsLiftModel" b_Mo_weightsOf 4 (some .int) 1 := ⟨⟨rfl, by decide +kernel, by decide +kernel, by decide +kernel⟩, g_1280, g_56, g_81, g_1281⟩
set_option maxHeartbeats 4000000 in
set_option maxRecDepth 100000 in
theorem c_Mo_weightsOf (l : Launch) (D : va_G) (g : Nat → ClassId) (a : Nat → Nat) (x1 : Int32) (z : T_Mo) (v : Int32) (h : d_Mo_weightsOf x1 z = some v) :
    MI l y_Mo_weightsOf b_Mo_weightsOf 4 .int ({ frames := 0, cells := 0, slots := 0, locals := 0 } : Room) D g [.ref (a 0), .int x1] (ws_Mo g a z) (v) (ws_Mo g a z) := by
  have hd := h
  unfold d_Mo_weightsOf at hd
  refine enterI rfl (Nat.le_of_ble_eq_true rfl) (fun p e s m below meth c A ls hx hb hml hr hown hg hlk hK hA hP hD hS hCs hl => ?_)
  have hown : s.vm.findClass "OwnsLiftModel" = some m.cls := hown
  have hl : lv_has ls 4 [(0, .ref (a 0)), (1, .int x1)] := hl
  show GI p l e s m ({ frames := 0, cells := 0, slots := 0, locals := 0 } : Room) ([.ref (a 0), .int x1] : List Value).toArray below meth c A D g (ws_Mo g a z) (v) s.heap [] (F0 m 0 ls [])
  refine lv_iconst (v := 0) hx hb d_Mo_weightsOf_0 (by decide) ?_
  refine lv_istore_n (lv' := [(2, .int 0), (0, .ref (a 0)), (1, .int x1)]) hx hb d_Mo_weightsOf_1 rfl hl (by decide) rfl (fun ls hl => ?_)
  refine lv_iconst (v := 0) hx hb d_Mo_weightsOf_2 (by decide) ?_
  refine lv_istore_n (lv' := [(3, .int 0), (2, .int 0), (0, .ref (a 0)), (1, .int x1)]) hx hb d_Mo_weightsOf_3 rfl hl (by decide) rfl (fun ls hl => ?_)
  have lp4 : ∀ (x1_f4 : Int32) (n : Nat) (x2_4 : Int32) (x3_4 : Int32) (H : Heap) (locs : List Loc) (ls : Array Slot), va_P D classes (ws_Mo g a z) H → va_D A (ws_Mo g a z) → va_S A s.heap H locs → lv_has ls 4 [(0, .ref (a 0)), (1, .int x1_f4), (2, .int x2_4), (3, .int x3_4)] → d_Mo_weightsOf_L4 x1_f4 z n x2_4 x3_4 = some v → GI p l e s m ({ frames := 0, cells := 0, slots := 0, locals := 0 } : Room) ([.ref (a 0), .int x1] : List Value).toArray below meth c A D g (ws_Mo g a z) (v) H locs (F0 m 4 ls []) := by
    intro x1_f4 n
    induction n with
    | zero =>
      intro  x2_4 x3_4 H locs ls hP hD hS hl hd
      have hd : none = some v := hd
      cases hd
    | succ n ih4 =>
      intro  x2_4 x3_4 H locs ls hP hD hS hl hd
      have hd : B_Mo_weightsOf_L4 x1_f4 z (d_Mo_weightsOf_L4 x1_f4 z n) x2_4 x3_4 = some v := hd
      generalize d_Mo_weightsOf_L4 x1_f4 z n = self4 at ih4 hd
      unfold B_Mo_weightsOf_L4 at hd
      refine lv_iload_n hx hb d_Mo_weightsOf_4 rfl (lv_at hl 3 rfl) ?_
      refine lv_aload_n hx hb d_Mo_weightsOf_5 rfl (lv_at hl 0 rfl) ?_
      refine va_get (D := D) (ci := 1) (v := .ref (a 1)) (C := R_Mo) (T := F_Mo) (N := 26) hx hb hg i_Mo hown hK hP 0 rfl rfl 1 (by decide) (hg _ g_993) (fun _ h9 => h9) rfl d_Mo_weightsOf_6 ?_
      refine lv_iconst (v := 1) hx hb d_Mo_weightsOf_9 (by decide) ?_
      refine ialdK hx hb hK hP 1 0 rfl rfl (inb_t (by decide +kernel)) (k := 1) (by decide +kernel) d_Mo_weightsOf_10 ?_
      refine lv_icmp_ge (tgt := 45) hx hb d_Mo_weightsOf_11 (by decide) (fun h_1 => ?_) (fun h_1 => ?_)
      · have hd := ite_t hd h_1
        refine lv_iload_n hx hb d_Mo_weightsOf_45 rfl (lv_at hl 2 rfl) ?_
        obtain rfl := Option.some.inj hd
        exact retI hx hb hr hlk hK hP hD hS d_Mo_weightsOf_46 rfl
      · have hd := ite_f hd h_1
        refine lv_iload_n hx hb d_Mo_weightsOf_14 rfl (lv_at hl 2 rfl) ?_
        refine lv_iload_n hx hb d_Mo_weightsOf_15 rfl (lv_at hl 1 rfl) ?_
        refine lv_iload_n hx hb d_Mo_weightsOf_16 rfl (lv_at hl 3 rfl) ?_
        refine lv_ishr hx hb d_Mo_weightsOf_17 ?_
        refine lv_iconst (v := 1) hx hb d_Mo_weightsOf_18 (by decide) ?_
        refine lv_iand hx hb d_Mo_weightsOf_19 ?_
        refine lv_iconst (v := 1) hx hb d_Mo_weightsOf_20 (by decide) ?_
        refine lv_icmp_ne (tgt := 36) hx hb d_Mo_weightsOf_21 (by decide) (fun h_2 => ?_) (fun h_2 => ?_)
        · have hd := ite_f hd h_2
          refine lv_iconst (v := 0) hx hb d_Mo_weightsOf_36 (by decide) ?_
          refine lv_iadd hx hb d_Mo_weightsOf_37 ?_
          refine lv_istore_n (lv' := [(2, .int (x2_4 + 0)), (0, .ref (a 0)), (1, .int x1_f4), (3, .int x3_4)]) hx hb d_Mo_weightsOf_38 rfl hl (by decide) rfl (fun ls hl => ?_)
          refine lv_iinc (v := x3_4 + 1) (lv' := [(3, .int (x3_4 + 1)), (2, .int (x2_4 + 0)), (0, .ref (a 0)), (1, .int x1_f4)]) hx hb d_Mo_weightsOf_39 hl (k := 3) rfl (by rfl) (by decide) rfl (fun ls hl => ?_)
          refine lv_goto (tgt := 4) hx hb d_Mo_weightsOf_42 (by decide) ?_
          exact ih4 (x2_4 + 0) (x3_4 + 1) _ _ _ hP hD hS (lv_sub hl [2, 3, 1, 0] rfl) hd
        · have hd := ite_t hd h_2
          refine lv_aload_n hx hb d_Mo_weightsOf_24 rfl (lv_at hl 0 rfl) ?_
          refine va_get (D := D) (ci := 1) (v := .ref (a 1)) (C := R_Mo) (T := F_Mo) (N := 26) hx hb hg i_Mo hown hK hP 0 rfl rfl 1 (by decide) (hg _ g_993) (fun _ h9 => h9) rfl d_Mo_weightsOf_25 ?_
          refine lv_bipush (v := 58) hx hb d_Mo_weightsOf_28 (by decide) ?_
          refine lv_iload_n hx hb d_Mo_weightsOf_30 rfl (lv_at hl 3 rfl) ?_
          refine lv_iadd hx hb d_Mo_weightsOf_31 ?_
          obtain ⟨h_3, hd⟩ := ite_s hd
          refine ialdK hx hb hK hP 1 0 rfl rfl (inb_t h_3) rfl d_Mo_weightsOf_32 ?_
          refine lv_goto (tgt := 37) hx hb d_Mo_weightsOf_33 (by decide) ?_
          refine lv_iadd hx hb d_Mo_weightsOf_37 ?_
          refine lv_istore_n (lv' := [(2, .int (x2_4 + ((q_Mo_s z) (58 + x3_4).toNatClampNeg))), (0, .ref (a 0)), (1, .int x1_f4), (3, .int x3_4)]) hx hb d_Mo_weightsOf_38 rfl hl (by decide) rfl (fun ls hl => ?_)
          refine lv_iinc (v := x3_4 + 1) (lv' := [(3, .int (x3_4 + 1)), (2, .int (x2_4 + ((q_Mo_s z) (58 + x3_4).toNatClampNeg))), (0, .ref (a 0)), (1, .int x1_f4)]) hx hb d_Mo_weightsOf_39 hl (k := 3) rfl (by rfl) (by decide) rfl (fun ls hl => ?_)
          refine lv_goto (tgt := 4) hx hb d_Mo_weightsOf_42 (by decide) ?_
          exact ih4 (x2_4 + ((q_Mo_s z) (58 + x3_4).toNatClampNeg)) (x3_4 + 1) _ _ _ hP hD hS (lv_sub hl [2, 3, 1, 0] rfl) hd
  exact lp4 x1 1000 0 0 _ _ _ hP hD hS (lv_sub hl [2, 3, 1, 0] rfl) hd

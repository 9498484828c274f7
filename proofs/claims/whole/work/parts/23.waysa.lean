-- OwnsLift$Shares.begin(LOwnsLift$Standing;)V
def B_Sh_begin_L18 (w : T_St) (k18_44 : T_Sh → Option (T_Sh)) (self18 : Int32 → T_Sh → Option (T_Sh)) (x2_18 : Int32) (z_18 : T_Sh) : Option (T_Sh) :=
  if (q_Sh_things z_18) ≤ x2_18 then (k18_44 z_18) else (if inb x2_18 7 = true then (if inb x2_18 7 = true then (self18 (x2_18 + 1) (u_Sh_weight z_18 (upd (q_Sh_weight z_18) x2_18.toNatClampNeg ((q_St_weight w) x2_18.toNatClampNeg)))) else none) else none)
def d_Sh_begin_L18 (w : T_St) (k18_44 : T_Sh → Option (T_Sh)) (n : Nat) : Int32 → T_Sh → Option (T_Sh) := recN (fun _ _ => none) (fun self => B_Sh_begin_L18 w k18_44 self) n
def B_Sh_begin_L46 (w : T_St) (self46 : Int32 → T_Sh → Option (T_Sh)) (x2_46 : Int32) (z_46 : T_Sh) : Option (T_Sh) :=
  if (q_Sh_people z_46) ≤ x2_46 then (if inb (q_Sh_people z_46) 5 = true then (some ((u_Sh_room z_46 (upd (q_Sh_room z_46) (q_Sh_people z_46).toNatClampNeg 350)))) else none) else (if inb x2_46 4 = true then (if inb x2_46 5 = true then (self46 (x2_46 + 1) (u_Sh_room z_46 (upd (q_Sh_room z_46) x2_46.toNatClampNeg ((q_St_lifts w) x2_46.toNatClampNeg)))) else none) else none)
def d_Sh_begin_L46 (w : T_St) (n : Nat) : Int32 → T_Sh → Option (T_Sh) := recN (fun _ _ => none) (fun self => B_Sh_begin_L46 w self) n
def d_Sh_begin (z : T_Sh) (w : T_St) : Option (T_Sh) :=
  d_Sh_begin_L18 w (fun z_18 => d_Sh_begin_L46 w  1000 0 z_18) 1000 0 (u_Sh_things (u_Sh_people z (q_St_people w)) (q_St_things w))
theorem d_Sh_begin_0 : decode b_Sh_begin 0 = .ok (.aload_n 0, 1) := by decide +kernel
theorem d_Sh_begin_1 : decode b_Sh_begin 1 = .ok (.aload_n 1, 1) := by decide +kernel
theorem d_Sh_begin_2 : decode b_Sh_begin 2 = .ok (.getfield 50, 3) := by decide +kernel
theorem d_Sh_begin_5 : decode b_Sh_begin 5 = .ok (.putfield 40, 3) := by decide +kernel
theorem d_Sh_begin_8 : decode b_Sh_begin 8 = .ok (.aload_n 0, 1) := by decide +kernel
theorem d_Sh_begin_9 : decode b_Sh_begin 9 = .ok (.aload_n 1, 1) := by decide +kernel
theorem d_Sh_begin_10 : decode b_Sh_begin 10 = .ok (.getfield 51, 3) := by decide +kernel
theorem d_Sh_begin_13 : decode b_Sh_begin 13 = .ok (.putfield 36, 3) := by decide +kernel
theorem d_Sh_begin_16 : decode b_Sh_begin 16 = .ok (.iconst 0, 1) := by decide +kernel
theorem d_Sh_begin_17 : decode b_Sh_begin 17 = .ok (.istore_n 2, 1) := by decide +kernel
theorem d_Sh_begin_18 : decode b_Sh_begin 18 = .ok (.iload_n 2, 1) := by decide +kernel
theorem d_Sh_begin_19 : decode b_Sh_begin 19 = .ok (.aload_n 0, 1) := by decide +kernel
theorem d_Sh_begin_20 : decode b_Sh_begin 20 = .ok (.getfield 36, 3) := by decide +kernel
theorem d_Sh_begin_23 : decode b_Sh_begin 23 = .ok (.if_icmp .ge 21, 3) := by decide +kernel
theorem d_Sh_begin_26 : decode b_Sh_begin 26 = .ok (.aload_n 0, 1) := by decide +kernel
theorem d_Sh_begin_27 : decode b_Sh_begin 27 = .ok (.getfield 20, 3) := by decide +kernel
theorem d_Sh_begin_30 : decode b_Sh_begin 30 = .ok (.iload_n 2, 1) := by decide +kernel
theorem d_Sh_begin_31 : decode b_Sh_begin 31 = .ok (.aload_n 1, 1) := by decide +kernel
theorem d_Sh_begin_32 : decode b_Sh_begin 32 = .ok (.getfield 52, 3) := by decide +kernel
theorem d_Sh_begin_35 : decode b_Sh_begin 35 = .ok (.iload_n 2, 1) := by decide +kernel
theorem d_Sh_begin_36 : decode b_Sh_begin 36 = .ok (.iaload, 1) := by decide +kernel
theorem d_Sh_begin_37 : decode b_Sh_begin 37 = .ok (.iastore, 1) := by decide +kernel
theorem d_Sh_begin_38 : decode b_Sh_begin 38 = .ok (.iinc 2 1, 3) := by decide +kernel
theorem d_Sh_begin_41 : decode b_Sh_begin 41 = .ok (.goto (-23), 3) := by decide +kernel
theorem d_Sh_begin_44 : decode b_Sh_begin 44 = .ok (.iconst 0, 1) := by decide +kernel
theorem d_Sh_begin_45 : decode b_Sh_begin 45 = .ok (.istore_n 2, 1) := by decide +kernel
theorem d_Sh_begin_46 : decode b_Sh_begin 46 = .ok (.iload_n 2, 1) := by decide +kernel
theorem d_Sh_begin_47 : decode b_Sh_begin 47 = .ok (.aload_n 0, 1) := by decide +kernel
theorem d_Sh_begin_48 : decode b_Sh_begin 48 = .ok (.getfield 40, 3) := by decide +kernel
theorem d_Sh_begin_51 : decode b_Sh_begin 51 = .ok (.if_icmp .ge 21, 3) := by decide +kernel
theorem d_Sh_begin_54 : decode b_Sh_begin 54 = .ok (.aload_n 0, 1) := by decide +kernel
theorem d_Sh_begin_55 : decode b_Sh_begin 55 = .ok (.getfield 23, 3) := by decide +kernel
theorem d_Sh_begin_58 : decode b_Sh_begin 58 = .ok (.iload_n 2, 1) := by decide +kernel
theorem d_Sh_begin_59 : decode b_Sh_begin 59 = .ok (.aload_n 1, 1) := by decide +kernel
theorem d_Sh_begin_60 : decode b_Sh_begin 60 = .ok (.getfield 53, 3) := by decide +kernel
theorem d_Sh_begin_63 : decode b_Sh_begin 63 = .ok (.iload_n 2, 1) := by decide +kernel
theorem d_Sh_begin_64 : decode b_Sh_begin 64 = .ok (.iaload, 1) := by decide +kernel
theorem d_Sh_begin_65 : decode b_Sh_begin 65 = .ok (.iastore, 1) := by decide +kernel
theorem d_Sh_begin_66 : decode b_Sh_begin 66 = .ok (.iinc 2 1, 3) := by decide +kernel
theorem d_Sh_begin_69 : decode b_Sh_begin 69 = .ok (.goto (-23), 3) := by decide +kernel
theorem d_Sh_begin_72 : decode b_Sh_begin 72 = .ok (.aload_n 0, 1) := by decide +kernel
theorem d_Sh_begin_73 : decode b_Sh_begin 73 = .ok (.getfield 23, 3) := by decide +kernel
theorem d_Sh_begin_76 : decode b_Sh_begin 76 = .ok (.aload_n 0, 1) := by decide +kernel
theorem d_Sh_begin_77 : decode b_Sh_begin 77 = .ok (.getfield 40, 3) := by decide +kernel
theorem d_Sh_begin_80 : decode b_Sh_begin 80 = .ok (.sipush 350, 3) := by decide +kernel
theorem d_Sh_begin_83 : decode b_Sh_begin 83 = .ok (.iastore, 1) := by decide +kernel
theorem d_Sh_begin_84 : decode b_Sh_begin 84 = .ok (.return_, 1) := by decide +kernel
theorem o_Sh_begin : OkV y_Sh_begin "OwnsLift$Shares" b_Sh_begin 3 none 1 := ⟨⟨rfl, by decide +kernel, by decide +kernel, by decide +kernel⟩, g_790, g_21, g_78, g_791⟩
set_option maxHeartbeats 4000000 in
set_option maxRecDepth 100000 in
theorem c_Sh_begin (l : Launch) (D : va_G) (g : Nat → ClassId) (a : Nat → Nat) (b : Nat → Nat) (z : T_Sh) (w : T_St) (v : T_Sh) (h : d_Sh_begin z w = some v) :
    MV l y_Sh_begin b_Sh_begin 3 ({ frames := 0, cells := 0, slots := 0, locals := 0 } : Room) D g [.ref (a 0), .ref (b 0)] (ws_Sh g a z ++ ws_St g b w) (ws_Sh g a v ++ ws_St g b w) := by
  have hd := h
  unfold d_Sh_begin at hd
  refine enterV rfl (Nat.le_of_ble_eq_true rfl) (fun p e s m below meth c A ls hx hb hml hr hown hg hlk hK hA hP hD hS hCs hl => ?_)
  have hown : s.vm.findClass "OwnsLift$Shares" = some m.cls := hown
  have hl : lv_has ls 3 [(0, .ref (a 0)), (1, .ref (b 0))] := hl
  show GV p l e s m ({ frames := 0, cells := 0, slots := 0, locals := 0 } : Room) ([.ref (a 0), .ref (b 0)] : List Value).toArray below meth c A D g (ws_Sh g a v ++ ws_St g b w) s.heap [] (F0 m 0 ls [])
  refine lv_aload_n hx hb d_Sh_begin_0 rfl (lv_at hl 0 rfl) ?_
  refine lv_aload_n hx hb d_Sh_begin_1 rfl (lv_at hl 1 rfl) ?_
  refine va_get (D := D) (ci := 9) (v := .int (q_St_people w)) (C := R_St) (T := F_St) (N := 7) hx hb hg i_St hown hK hP 14 rfl rfl 0 (by decide) (hg _ g_279) (fun _ h9 => h9) rfl d_Sh_begin_2 ?_
  refine va_put (D := D) (ci := 8) (v := .int (q_St_people w)) (ty := .int) (C := R_Sh) (T := F_Sh) (N := 10) hx hb hg i_Sh t_Sh t_Sh_ok n_Sh hown hK hP hD hS 0 rfl rfl 3 (by decide) (hg _ g_329) (fun _ h9 => h9) rfl (by decide +kernel) rfl rfl (Nat.le_of_ble_eq_true rfl) d_Sh_begin_5 (fun H locs hP hD hS => ?_)
  have hP : va_P D classes (ws_Sh g a (u_Sh_people z (q_St_people w)) ++ ws_St g b w) H := hP
  have hD : va_D A (ws_Sh g a (u_Sh_people z (q_St_people w)) ++ ws_St g b w) := hD
  refine lv_aload_n hx hb d_Sh_begin_8 rfl (lv_at hl 0 rfl) ?_
  refine lv_aload_n hx hb d_Sh_begin_9 rfl (lv_at hl 1 rfl) ?_
  refine va_get (D := D) (ci := 9) (v := .int (q_St_things w)) (C := R_St) (T := F_St) (N := 7) hx hb hg i_St hown hK hP 14 rfl rfl 1 (by decide) (hg _ g_282) (fun _ h9 => h9) rfl d_Sh_begin_10 ?_
  refine va_put (D := D) (ci := 8) (v := .int (q_St_things w)) (ty := .int) (C := R_Sh) (T := F_Sh) (N := 10) hx hb hg i_Sh t_Sh t_Sh_ok n_Sh hown hK hP hD hS 0 rfl rfl 4 (by decide) (hg _ g_330) (fun _ h9 => h9) rfl (by decide +kernel) rfl rfl (Nat.le_of_ble_eq_true rfl) d_Sh_begin_13 (fun H locs hP hD hS => ?_)
  have hP : va_P D classes (ws_Sh g a (u_Sh_things (u_Sh_people z (q_St_people w)) (q_St_things w)) ++ ws_St g b w) H := hP
  have hD : va_D A (ws_Sh g a (u_Sh_things (u_Sh_people z (q_St_people w)) (q_St_things w)) ++ ws_St g b w) := hD
  refine lv_iconst (v := 0) hx hb d_Sh_begin_16 (by decide) ?_
  refine lv_istore_n (lv' := [(2, .int 0), (0, .ref (a 0)), (1, .ref (b 0))]) hx hb d_Sh_begin_17 rfl hl (by decide) rfl (fun ls hl => ?_)
  have ex18_44 : ∀ (z_18 : T_Sh) (H : Heap) (locs : List Loc) (ls : Array Slot), va_P D classes (ws_Sh g a z_18 ++ ws_St g b w) H → va_D A (ws_Sh g a z_18 ++ ws_St g b w) → va_S A s.heap H locs → lv_has ls 3 [(0, .ref (a 0)), (1, .ref (b 0))] → (d_Sh_begin_L46 w  1000 0 z_18) = some v → GV p l e s m ({ frames := 0, cells := 0, slots := 0, locals := 0 } : Room) ([.ref (a 0), .ref (b 0)] : List Value).toArray below meth c A D g (ws_Sh g a v ++ ws_St g b w) H locs (F0 m 44 ls []) := by
    intro z_18 H locs ls hP hD hS hl hd
    refine lv_iconst (v := 0) hx hb d_Sh_begin_44 (by decide) ?_
    refine lv_istore_n (lv' := [(2, .int 0), (0, .ref (a 0)), (1, .ref (b 0))]) hx hb d_Sh_begin_45 rfl hl (by decide) rfl (fun ls hl => ?_)
    have lp46 : ∀ (n : Nat) (x2_46 : Int32) (z_46 : T_Sh) (H : Heap) (locs : List Loc) (ls : Array Slot), va_P D classes (ws_Sh g a z_46 ++ ws_St g b w) H → va_D A (ws_Sh g a z_46 ++ ws_St g b w) → va_S A s.heap H locs → lv_has ls 3 [(0, .ref (a 0)), (1, .ref (b 0)), (2, .int x2_46)] → d_Sh_begin_L46 w n x2_46 z_46 = some v → GV p l e s m ({ frames := 0, cells := 0, slots := 0, locals := 0 } : Room) ([.ref (a 0), .ref (b 0)] : List Value).toArray below meth c A D g (ws_Sh g a v ++ ws_St g b w) H locs (F0 m 46 ls []) := by
      intro n
      induction n with
      | zero =>
        intro  x2_46 z_46 H locs ls hP hD hS hl hd
        have hd : none = some v := hd
        cases hd
      | succ n ih46 =>
        intro  x2_46 z_46 H locs ls hP hD hS hl hd
        have hd : B_Sh_begin_L46 w (d_Sh_begin_L46 w n) x2_46 z_46 = some v := hd
        generalize d_Sh_begin_L46 w n = self46 at ih46 hd
        unfold B_Sh_begin_L46 at hd
        refine lv_iload_n hx hb d_Sh_begin_46 rfl (lv_at hl 2 rfl) ?_
        refine lv_aload_n hx hb d_Sh_begin_47 rfl (lv_at hl 0 rfl) ?_
        refine va_get (D := D) (ci := 8) (v := .int (q_Sh_people z_46)) (C := R_Sh) (T := F_Sh) (N := 10) hx hb hg i_Sh hown hK hP 0 rfl rfl 3 (by decide) (hg _ g_329) (fun _ h9 => h9) rfl d_Sh_begin_48 ?_
        refine lv_icmp_ge (tgt := 72) hx hb d_Sh_begin_51 (by decide) (fun h_4 => ?_) (fun h_4 => ?_)
        · have hd := ite_t hd h_4
          refine lv_aload_n hx hb d_Sh_begin_72 rfl (lv_at hl 0 rfl) ?_
          refine va_get (D := D) (ci := 8) (v := .ref (a 11)) (C := R_Sh) (T := F_Sh) (N := 10) hx hb hg i_Sh hown hK hP 0 rfl rfl 7 (by decide) (hg _ g_333) (fun _ h9 => h9) rfl d_Sh_begin_73 ?_
          refine lv_aload_n hx hb d_Sh_begin_76 rfl (lv_at hl 0 rfl) ?_
          refine va_get (D := D) (ci := 8) (v := .int (q_Sh_people z_46)) (C := R_Sh) (T := F_Sh) (N := 10) hx hb hg i_Sh hown hK hP 0 rfl rfl 3 (by decide) (hg _ g_329) (fun _ h9 => h9) rfl d_Sh_begin_77 ?_
          refine lv_sipush (v := 350) hx hb d_Sh_begin_80 (by decide) ?_
          obtain ⟨h_5, hd⟩ := ite_s hd
          refine iastK hx hb hK hP hD hS 11 0 rfl rfl (inb_t h_5) rfl d_Sh_begin_83 (fun H locs hP hD hS => ?_)
          have hP : va_P D classes (ws_Sh g a (u_Sh_room z_46 (upd (q_Sh_room z_46) (q_Sh_people z_46).toNatClampNeg 350)) ++ ws_St g b w) H := hP
          have hD : va_D A (ws_Sh g a (u_Sh_room z_46 (upd (q_Sh_room z_46) (q_Sh_people z_46).toNatClampNeg 350)) ++ ws_St g b w) := hD
          obtain rfl := Option.some.inj hd
          exact retV hx hb hr hlk hK hP hD hS d_Sh_begin_84
        · have hd := ite_f hd h_4
          refine lv_aload_n hx hb d_Sh_begin_54 rfl (lv_at hl 0 rfl) ?_
          refine va_get (D := D) (ci := 8) (v := .ref (a 11)) (C := R_Sh) (T := F_Sh) (N := 10) hx hb hg i_Sh hown hK hP 0 rfl rfl 7 (by decide) (hg _ g_333) (fun _ h9 => h9) rfl d_Sh_begin_55 ?_
          refine lv_iload_n hx hb d_Sh_begin_58 rfl (lv_at hl 2 rfl) ?_
          refine lv_aload_n hx hb d_Sh_begin_59 rfl (lv_at hl 1 rfl) ?_
          refine va_get (D := D) (ci := 9) (v := .ref (b 6)) (C := R_St) (T := F_St) (N := 7) hx hb hg i_St hown hK hP 14 rfl rfl 3 (by decide) (hg _ g_289) (fun _ h9 => h9) rfl d_Sh_begin_60 ?_
          refine lv_iload_n hx hb d_Sh_begin_63 rfl (lv_at hl 2 rfl) ?_
          obtain ⟨h_7, hd⟩ := ite_s hd
          refine ialdK hx hb hK hP 20 0 rfl rfl (inb_t h_7) rfl d_Sh_begin_64 ?_
          obtain ⟨h_6, hd⟩ := ite_s hd
          refine iastK hx hb hK hP hD hS 11 0 rfl rfl (inb_t h_6) rfl d_Sh_begin_65 (fun H locs hP hD hS => ?_)
          have hP : va_P D classes (ws_Sh g a (u_Sh_room z_46 (upd (q_Sh_room z_46) x2_46.toNatClampNeg ((q_St_lifts w) x2_46.toNatClampNeg))) ++ ws_St g b w) H := hP
          have hD : va_D A (ws_Sh g a (u_Sh_room z_46 (upd (q_Sh_room z_46) x2_46.toNatClampNeg ((q_St_lifts w) x2_46.toNatClampNeg))) ++ ws_St g b w) := hD
          refine lv_iinc (v := x2_46 + 1) (lv' := [(2, .int (x2_46 + 1)), (0, .ref (a 0)), (1, .ref (b 0))]) hx hb d_Sh_begin_66 hl (k := 2) rfl (by rfl) (by decide) rfl (fun ls hl => ?_)
          refine lv_goto (tgt := 46) hx hb d_Sh_begin_69 (by decide) ?_
          exact ih46 (x2_46 + 1) (u_Sh_room z_46 (upd (q_Sh_room z_46) x2_46.toNatClampNeg ((q_St_lifts w) x2_46.toNatClampNeg))) _ _ _ hP hD hS (lv_sub hl [1, 2, 0] rfl) hd
    exact lp46 1000 0 z_18 _ _ _ hP hD hS (lv_sub hl [1, 2, 0] rfl) hd
  have lp18 : ∀ (k18_44 : T_Sh → Option (T_Sh)) (hk18_44 : ∀ (z_18 : T_Sh) (H : Heap) (locs : List Loc) (ls : Array Slot), va_P D classes (ws_Sh g a z_18 ++ ws_St g b w) H → va_D A (ws_Sh g a z_18 ++ ws_St g b w) → va_S A s.heap H locs → lv_has ls 3 [(0, .ref (a 0)), (1, .ref (b 0))] → k18_44 z_18 = some v → GV p l e s m ({ frames := 0, cells := 0, slots := 0, locals := 0 } : Room) ([.ref (a 0), .ref (b 0)] : List Value).toArray below meth c A D g (ws_Sh g a v ++ ws_St g b w) H locs (F0 m 44 ls [])) (n : Nat) (x2_18 : Int32) (z_18 : T_Sh) (H : Heap) (locs : List Loc) (ls : Array Slot), va_P D classes (ws_Sh g a z_18 ++ ws_St g b w) H → va_D A (ws_Sh g a z_18 ++ ws_St g b w) → va_S A s.heap H locs → lv_has ls 3 [(0, .ref (a 0)), (1, .ref (b 0)), (2, .int x2_18)] → d_Sh_begin_L18 w k18_44 n x2_18 z_18 = some v → GV p l e s m ({ frames := 0, cells := 0, slots := 0, locals := 0 } : Room) ([.ref (a 0), .ref (b 0)] : List Value).toArray below meth c A D g (ws_Sh g a v ++ ws_St g b w) H locs (F0 m 18 ls []) := by
    intro k18_44 hk18_44 n
    induction n with
    | zero =>
      intro  x2_18 z_18 H locs ls hP hD hS hl hd
      have hd : none = some v := hd
      cases hd
    | succ n ih18 =>
      intro  x2_18 z_18 H locs ls hP hD hS hl hd
      have hd : B_Sh_begin_L18 w k18_44 (d_Sh_begin_L18 w k18_44 n) x2_18 z_18 = some v := hd
      generalize d_Sh_begin_L18 w k18_44 n = self18 at ih18 hd
      unfold B_Sh_begin_L18 at hd
      refine lv_iload_n hx hb d_Sh_begin_18 rfl (lv_at hl 2 rfl) ?_
      refine lv_aload_n hx hb d_Sh_begin_19 rfl (lv_at hl 0 rfl) ?_
      refine va_get (D := D) (ci := 8) (v := .int (q_Sh_things z_18)) (C := R_Sh) (T := F_Sh) (N := 10) hx hb hg i_Sh hown hK hP 0 rfl rfl 4 (by decide) (hg _ g_330) (fun _ h9 => h9) rfl d_Sh_begin_20 ?_
      refine lv_icmp_ge (tgt := 44) hx hb d_Sh_begin_23 (by decide) (fun h_1 => ?_) (fun h_1 => ?_)
      · have hd := ite_t hd h_1
        exact hk18_44 z_18 _ _ _ hP hD hS (lv_sub hl [0, 1] rfl) hd
      · have hd := ite_f hd h_1
        refine lv_aload_n hx hb d_Sh_begin_26 rfl (lv_at hl 0 rfl) ?_
        refine va_get (D := D) (ci := 8) (v := .ref (a 10)) (C := R_Sh) (T := F_Sh) (N := 10) hx hb hg i_Sh hown hK hP 0 rfl rfl 6 (by decide) (hg _ g_332) (fun _ h9 => h9) rfl d_Sh_begin_27 ?_
        refine lv_iload_n hx hb d_Sh_begin_30 rfl (lv_at hl 2 rfl) ?_
        refine lv_aload_n hx hb d_Sh_begin_31 rfl (lv_at hl 1 rfl) ?_
        refine va_get (D := D) (ci := 9) (v := .ref (b 8)) (C := R_St) (T := F_St) (N := 7) hx hb hg i_St hown hK hP 14 rfl rfl 5 (by decide) (hg _ g_295) (fun _ h9 => h9) rfl d_Sh_begin_32 ?_
        refine lv_iload_n hx hb d_Sh_begin_35 rfl (lv_at hl 2 rfl) ?_
        obtain ⟨h_3, hd⟩ := ite_s hd
        refine ialdK hx hb hK hP 22 0 rfl rfl (inb_t h_3) rfl d_Sh_begin_36 ?_
        obtain ⟨h_2, hd⟩ := ite_s hd
        refine iastK hx hb hK hP hD hS 10 0 rfl rfl (inb_t h_2) rfl d_Sh_begin_37 (fun H locs hP hD hS => ?_)
        have hP : va_P D classes (ws_Sh g a (u_Sh_weight z_18 (upd (q_Sh_weight z_18) x2_18.toNatClampNeg ((q_St_weight w) x2_18.toNatClampNeg))) ++ ws_St g b w) H := hP
        have hD : va_D A (ws_Sh g a (u_Sh_weight z_18 (upd (q_Sh_weight z_18) x2_18.toNatClampNeg ((q_St_weight w) x2_18.toNatClampNeg))) ++ ws_St g b w) := hD
        refine lv_iinc (v := x2_18 + 1) (lv' := [(2, .int (x2_18 + 1)), (0, .ref (a 0)), (1, .ref (b 0))]) hx hb d_Sh_begin_38 hl (k := 2) rfl (by rfl) (by decide) rfl (fun ls hl => ?_)
        refine lv_goto (tgt := 18) hx hb d_Sh_begin_41 (by decide) ?_
        exact ih18 (x2_18 + 1) (u_Sh_weight z_18 (upd (q_Sh_weight z_18) x2_18.toNatClampNeg ((q_St_weight w) x2_18.toNatClampNeg))) _ _ _ hP hD hS (lv_sub hl [1, 2, 0] rfl) hd
  exact lp18 _ ex18_44 1000 0 (u_Sh_things (u_Sh_people z (q_St_people w)) (q_St_things w)) _ _ _ hP hD hS (lv_sub hl [1, 2, 0] rfl) hd
-- OwnsLift$Shares.byLike(LOwnsLift$Standing;)V
def B_Sh_byLike_L17 (x2_f17 : Int32) (w : T_St) (k17_47 : T_Sh → Option (T_Sh)) (self17 : Int32 → T_Sh → Option (T_Sh)) (x3_17 : Int32) (z_17 : T_Sh) : Option (T_Sh) :=
  if (q_Sh_people z_17) ≤ x3_17 then (k17_47 z_17) else (if inb x2_f17 7 = true then (if inb x3_17 4 = true then (if inb x2_f17 7 = true then (if inb x3_17 5 = true then (self17 (x3_17 + 1) (u_Sh_worth z_17 (upd2 (q_Sh_worth z_17) x2_f17.toNatClampNeg x3_17.toNatClampNeg ((q_St_like w) x3_17.toNatClampNeg x2_f17.toNatClampNeg)))) else none) else none) else none) else none)
def d_Sh_byLike_L17 (x2_f17 : Int32) (w : T_St) (k17_47 : T_Sh → Option (T_Sh)) (n : Nat) : Int32 → T_Sh → Option (T_Sh) := recN (fun _ _ => none) (fun self => B_Sh_byLike_L17 x2_f17 w k17_47 self) n
def B_Sh_byLike_L7 (w : T_St) (self7 : Int32 → T_Sh → Option (T_Sh)) (x2_7 : Int32) (z_7 : T_Sh) : Option (T_Sh) :=
  if (q_Sh_things z_7) ≤ x2_7 then (some (z_7)) else (d_Sh_byLike_L17 x2_7 w (fun z_17 => if inb x2_7 7 = true then (if inb (q_Sh_people z_17) 5 = true then (self7 (x2_7 + 1) (u_Sh_worth z_17 (upd2 (q_Sh_worth z_17) x2_7.toNatClampNeg (q_Sh_people z_17).toNatClampNeg 0))) else none) else none) 1000 0 z_7)
def d_Sh_byLike_L7 (w : T_St) (n : Nat) : Int32 → T_Sh → Option (T_Sh) := recN (fun _ _ => none) (fun self => B_Sh_byLike_L7 w self) n
def d_Sh_byLike (z : T_Sh) (w : T_St) : Option (T_Sh) :=
  (d_Sh_begin z w).bind fun v_1 => d_Sh_byLike_L7 w  1000 0 v_1
theorem d_Sh_byLike_0 : decode b_Sh_byLike 0 = .ok (.aload_n 0, 1) := by decide +kernel
theorem d_Sh_byLike_1 : decode b_Sh_byLike 1 = .ok (.aload_n 1, 1) := by decide +kernel
theorem d_Sh_byLike_2 : decode b_Sh_byLike 2 = .ok (.invokevirtual 32, 3) := by decide +kernel
theorem d_Sh_byLike_5 : decode b_Sh_byLike 5 = .ok (.iconst 0, 1) := by decide +kernel
theorem d_Sh_byLike_6 : decode b_Sh_byLike 6 = .ok (.istore_n 2, 1) := by decide +kernel
theorem d_Sh_byLike_7 : decode b_Sh_byLike 7 = .ok (.iload_n 2, 1) := by decide +kernel
theorem d_Sh_byLike_8 : decode b_Sh_byLike 8 = .ok (.aload_n 0, 1) := by decide +kernel
theorem d_Sh_byLike_9 : decode b_Sh_byLike 9 = .ok (.getfield 36, 3) := by decide +kernel
theorem d_Sh_byLike_12 : decode b_Sh_byLike 12 = .ok (.if_icmp .ge 53, 3) := by decide +kernel
theorem d_Sh_byLike_15 : decode b_Sh_byLike 15 = .ok (.iconst 0, 1) := by decide +kernel
theorem d_Sh_byLike_16 : decode b_Sh_byLike 16 = .ok (.istore_n 3, 1) := by decide +kernel
theorem d_Sh_byLike_17 : decode b_Sh_byLike 17 = .ok (.iload_n 3, 1) := by decide +kernel
theorem d_Sh_byLike_18 : decode b_Sh_byLike 18 = .ok (.aload_n 0, 1) := by decide +kernel
theorem d_Sh_byLike_19 : decode b_Sh_byLike 19 = .ok (.getfield 40, 3) := by decide +kernel
theorem d_Sh_byLike_22 : decode b_Sh_byLike 22 = .ok (.if_icmp .ge 25, 3) := by decide +kernel
theorem d_Sh_byLike_25 : decode b_Sh_byLike 25 = .ok (.aload_n 0, 1) := by decide +kernel
theorem d_Sh_byLike_26 : decode b_Sh_byLike 26 = .ok (.getfield 17, 3) := by decide +kernel
theorem d_Sh_byLike_29 : decode b_Sh_byLike 29 = .ok (.iload_n 2, 1) := by decide +kernel
theorem d_Sh_byLike_30 : decode b_Sh_byLike 30 = .ok (.aaload, 1) := by decide +kernel
theorem d_Sh_byLike_31 : decode b_Sh_byLike 31 = .ok (.iload_n 3, 1) := by decide +kernel
theorem d_Sh_byLike_32 : decode b_Sh_byLike 32 = .ok (.aload_n 1, 1) := by decide +kernel
theorem d_Sh_byLike_33 : decode b_Sh_byLike 33 = .ok (.getfield 43, 3) := by decide +kernel
theorem d_Sh_byLike_36 : decode b_Sh_byLike 36 = .ok (.iload_n 3, 1) := by decide +kernel
theorem d_Sh_byLike_37 : decode b_Sh_byLike 37 = .ok (.aaload, 1) := by decide +kernel
theorem d_Sh_byLike_38 : decode b_Sh_byLike 38 = .ok (.iload_n 2, 1) := by decide +kernel
theorem d_Sh_byLike_39 : decode b_Sh_byLike 39 = .ok (.iaload, 1) := by decide +kernel
theorem d_Sh_byLike_40 : decode b_Sh_byLike 40 = .ok (.iastore, 1) := by decide +kernel
theorem d_Sh_byLike_41 : decode b_Sh_byLike 41 = .ok (.iinc 3 1, 3) := by decide +kernel
theorem d_Sh_byLike_44 : decode b_Sh_byLike 44 = .ok (.goto (-27), 3) := by decide +kernel
theorem d_Sh_byLike_47 : decode b_Sh_byLike 47 = .ok (.aload_n 0, 1) := by decide +kernel
theorem d_Sh_byLike_48 : decode b_Sh_byLike 48 = .ok (.getfield 17, 3) := by decide +kernel
theorem d_Sh_byLike_51 : decode b_Sh_byLike 51 = .ok (.iload_n 2, 1) := by decide +kernel
theorem d_Sh_byLike_52 : decode b_Sh_byLike 52 = .ok (.aaload, 1) := by decide +kernel
theorem d_Sh_byLike_53 : decode b_Sh_byLike 53 = .ok (.aload_n 0, 1) := by decide +kernel
theorem d_Sh_byLike_54 : decode b_Sh_byLike 54 = .ok (.getfield 40, 3) := by decide +kernel
theorem d_Sh_byLike_57 : decode b_Sh_byLike 57 = .ok (.iconst 0, 1) := by decide +kernel
theorem d_Sh_byLike_58 : decode b_Sh_byLike 58 = .ok (.iastore, 1) := by decide +kernel
theorem d_Sh_byLike_59 : decode b_Sh_byLike 59 = .ok (.iinc 2 1, 3) := by decide +kernel
theorem d_Sh_byLike_62 : decode b_Sh_byLike 62 = .ok (.goto (-55), 3) := by decide +kernel
theorem d_Sh_byLike_65 : decode b_Sh_byLike 65 = .ok (.return_, 1) := by decide +kernel
theorem o_Sh_byLike : OkV y_Sh_byLike "OwnsLift$Shares" b_Sh_byLike 4 none 1 := ⟨⟨rfl, by decide +kernel, by decide +kernel, by decide +kernel⟩, g_785, g_786, g_78, g_787⟩
set_option maxHeartbeats 4000000 in
set_option maxRecDepth 100000 in
theorem c_Sh_byLike (l : Launch) (D : va_G) (g : Nat → ClassId) (a : Nat → Nat) (b : Nat → Nat) (z : T_Sh) (w : T_St) (v : T_Sh) (h : d_Sh_byLike z w = some v) :
    MV l y_Sh_byLike b_Sh_byLike 4 ({ frames := 1, cells := 0, slots := 0, locals := 22 } : Room) D g [.ref (a 0), .ref (b 0)] (ws_Sh g a z ++ ws_St g b w) (ws_Sh g a v ++ ws_St g b w) := by
  have hd := h
  unfold d_Sh_byLike at hd
  refine enterV rfl (Nat.le_of_ble_eq_true rfl) (fun p e s m below meth c A ls hx hb hml hr hown hg hlk hK hA hP hD hS hCs hl => ?_)
  have hown : s.vm.findClass "OwnsLift$Shares" = some m.cls := hown
  have hl : lv_has ls 4 [(0, .ref (a 0)), (1, .ref (b 0))] := hl
  show GV p l e s m ({ frames := 1, cells := 0, slots := 0, locals := 22 } : Room) ([.ref (a 0), .ref (b 0)] : List Value).toArray below meth c A D g (ws_Sh g a v ++ ws_St g b w) s.heap [] (F0 m 0 ls [])
  refine lv_aload_n hx hb d_Sh_byLike_0 rfl (lv_at hl 0 rfl) ?_
  refine lv_aload_n hx hb d_Sh_byLike_1 rfl (lv_at hl 1 rfl) ?_
  obtain ⟨v_1, e_2, hd⟩ := bind_s hd
  refine callVV (ws' := ws_Sh g a v_1 ++ ws_St g b w) (rest := []) (As := [.ref (b 0)]) hx hb hml hown hg hK hP hD hS hA hCs hl.1 (c_Sh_begin l D g a b z w _ e_2) o_Sh_begin g_788 (ci := 8) (q0 := 0) rfl rfl (List.range' 0 14 ++ List.range' 14 10) (segC2 rfl rfl rfl rfl) (by decide) rfl (segP2 rfl rfl rfl) rfl rfl (Nat.le_of_ble_eq_true rfl) ⟨rfl, rfl, Nat.le_of_ble_eq_true rfl, Nat.le_of_ble_eq_true rfl⟩ d_Sh_byLike_2 (fun H locs hP hD hS => ?_)
  refine lv_iconst (v := 0) hx hb d_Sh_byLike_5 (by decide) ?_
  refine lv_istore_n (lv' := [(2, .int 0), (0, .ref (a 0)), (1, .ref (b 0))]) hx hb d_Sh_byLike_6 rfl hl (by decide) rfl (fun ls hl => ?_)
  have lp7 : ∀ (n : Nat) (x2_7 : Int32) (z_7 : T_Sh) (H : Heap) (locs : List Loc) (ls : Array Slot), va_P D classes (ws_Sh g a z_7 ++ ws_St g b w) H → va_D A (ws_Sh g a z_7 ++ ws_St g b w) → va_S A s.heap H locs → lv_has ls 4 [(0, .ref (a 0)), (1, .ref (b 0)), (2, .int x2_7)] → d_Sh_byLike_L7 w n x2_7 z_7 = some v → GV p l e s m ({ frames := 1, cells := 0, slots := 0, locals := 22 } : Room) ([.ref (a 0), .ref (b 0)] : List Value).toArray below meth c A D g (ws_Sh g a v ++ ws_St g b w) H locs (F0 m 7 ls []) := by
    intro n
    induction n with
    | zero =>
      intro  x2_7 z_7 H locs ls hP hD hS hl hd
      have hd : none = some v := hd
      cases hd
    | succ n ih7 =>
      intro  x2_7 z_7 H locs ls hP hD hS hl hd
      have hd : B_Sh_byLike_L7 w (d_Sh_byLike_L7 w n) x2_7 z_7 = some v := hd
      generalize d_Sh_byLike_L7 w n = self7 at ih7 hd
      unfold B_Sh_byLike_L7 at hd
      refine lv_iload_n hx hb d_Sh_byLike_7 rfl (lv_at hl 2 rfl) ?_
      refine lv_aload_n hx hb d_Sh_byLike_8 rfl (lv_at hl 0 rfl) ?_
      refine va_get (D := D) (ci := 8) (v := .int (q_Sh_things z_7)) (C := R_Sh) (T := F_Sh) (N := 10) hx hb hg i_Sh hown hK hP 0 rfl rfl 4 (by decide) (hg _ g_330) (fun _ h9 => h9) rfl d_Sh_byLike_9 ?_
      refine lv_icmp_ge (tgt := 65) hx hb d_Sh_byLike_12 (by decide) (fun h_3 => ?_) (fun h_3 => ?_)
      · have hd := ite_t hd h_3
        obtain rfl := Option.some.inj hd
        exact retV hx hb hr hlk hK hP hD hS d_Sh_byLike_65
      · have hd := ite_f hd h_3
        refine lv_iconst (v := 0) hx hb d_Sh_byLike_15 (by decide) ?_
        refine lv_istore_n (lv' := [(3, .int 0), (0, .ref (a 0)), (1, .ref (b 0)), (2, .int x2_7)]) hx hb d_Sh_byLike_16 rfl hl (by decide) rfl (fun ls hl => ?_)
        have ex17_47 : ∀ (z_17 : T_Sh) (H : Heap) (locs : List Loc) (ls : Array Slot), va_P D classes (ws_Sh g a z_17 ++ ws_St g b w) H → va_D A (ws_Sh g a z_17 ++ ws_St g b w) → va_S A s.heap H locs → lv_has ls 4 [(0, .ref (a 0)), (1, .ref (b 0)), (2, .int x2_7)] → (if inb x2_7 7 = true then (if inb (q_Sh_people z_17) 5 = true then (self7 (x2_7 + 1) (u_Sh_worth z_17 (upd2 (q_Sh_worth z_17) x2_7.toNatClampNeg (q_Sh_people z_17).toNatClampNeg 0))) else none) else none) = some v → GV p l e s m ({ frames := 1, cells := 0, slots := 0, locals := 22 } : Room) ([.ref (a 0), .ref (b 0)] : List Value).toArray below meth c A D g (ws_Sh g a v ++ ws_St g b w) H locs (F0 m 47 ls []) := by
          intro z_17 H locs ls hP hD hS hl hd
          refine lv_aload_n hx hb d_Sh_byLike_47 rfl (lv_at hl 0 rfl) ?_
          refine va_get (D := D) (ci := 8) (v := .ref (a 2)) (C := R_Sh) (T := F_Sh) (N := 10) hx hb hg i_Sh hown hK hP 0 rfl rfl 5 (by decide) (hg _ g_331) (fun _ h9 => h9) rfl d_Sh_byLike_48 ?_
          refine lv_iload_n hx hb d_Sh_byLike_51 rfl (lv_at hl 2 rfl) ?_
          obtain ⟨h_10, hd⟩ := ite_s hd
          refine aldA hx hb hK hP 2 rfl (inb_t h_10) d_Sh_byLike_52 ?_
          refine lv_aload_n hx hb d_Sh_byLike_53 rfl (lv_at hl 0 rfl) ?_
          refine va_get (D := D) (ci := 8) (v := .int (q_Sh_people z_17)) (C := R_Sh) (T := F_Sh) (N := 10) hx hb hg i_Sh hown hK hP 0 rfl rfl 3 (by decide) (hg _ g_329) (fun _ h9 => h9) rfl d_Sh_byLike_54 ?_
          refine lv_iconst (v := 0) hx hb d_Sh_byLike_57 (by decide) ?_
          obtain ⟨h_11, hd⟩ := ite_s hd
          have hset_12 := (show ∀ k, k < 7 → (ws_Sh g a z_17 ++ ws_St g b w).set (3 + k) (a (k + 3), .inl (g 0, 5, .inl (upd ((q_Sh_worth z_17) k) (q_Sh_people z_17).toNatClampNeg 0))) = ws_Sh g a (u_Sh_worth z_17 (upd2 (q_Sh_worth z_17) k (q_Sh_people z_17).toNatClampNeg 0)) ++ ws_St g b w from fun k hk => match k, hk with | 0, _ => rfl | 1, _ => rfl | 2, _ => rfl | 3, _ => rfl | 4, _ => rfl | 5, _ => rfl | 6, _ => rfl | k + 7, hk => absurd hk (by omega)) _ (vp_lt (inb_t h_10))
          refine iastK hx hb hK hP hD hS (3 + x2_7.toNatClampNeg) 0 ((show ∀ k, k < 7 → (ws_Sh g a z_17 ++ ws_St g b w)[3 + k]? = some (a (k + 3), .inl (g 0, 5, .inl ((q_Sh_worth z_17) k))) from fun k hk => match k, hk with | 0, _ => rfl | 1, _ => rfl | 2, _ => rfl | 3, _ => rfl | 4, _ => rfl | 5, _ => rfl | 6, _ => rfl | k + 7, hk => absurd hk (by omega)) _ (vp_lt (inb_t h_10))) rfl (inb_t h_11) rfl d_Sh_byLike_58 (fun H locs hP hD hS => ?_)
          rw [hset_12] at hP hD
          refine lv_iinc (v := x2_7 + 1) (lv' := [(2, .int (x2_7 + 1)), (0, .ref (a 0)), (1, .ref (b 0))]) hx hb d_Sh_byLike_59 hl (k := 2) rfl (by rfl) (by decide) rfl (fun ls hl => ?_)
          refine lv_goto (tgt := 7) hx hb d_Sh_byLike_62 (by decide) ?_
          exact ih7 (x2_7 + 1) (u_Sh_worth z_17 (upd2 (q_Sh_worth z_17) x2_7.toNatClampNeg (q_Sh_people z_17).toNatClampNeg 0)) _ _ _ hP hD hS (lv_sub hl [1, 2, 0] rfl) hd
        have lp17 : ∀ (x2_f17 : Int32) (k17_47 : T_Sh → Option (T_Sh)) (hk17_47 : ∀ (z_17 : T_Sh) (H : Heap) (locs : List Loc) (ls : Array Slot), va_P D classes (ws_Sh g a z_17 ++ ws_St g b w) H → va_D A (ws_Sh g a z_17 ++ ws_St g b w) → va_S A s.heap H locs → lv_has ls 4 [(0, .ref (a 0)), (1, .ref (b 0)), (2, .int x2_f17)] → k17_47 z_17 = some v → GV p l e s m ({ frames := 1, cells := 0, slots := 0, locals := 22 } : Room) ([.ref (a 0), .ref (b 0)] : List Value).toArray below meth c A D g (ws_Sh g a v ++ ws_St g b w) H locs (F0 m 47 ls [])) (n : Nat) (x3_17 : Int32) (z_17 : T_Sh) (H : Heap) (locs : List Loc) (ls : Array Slot), va_P D classes (ws_Sh g a z_17 ++ ws_St g b w) H → va_D A (ws_Sh g a z_17 ++ ws_St g b w) → va_S A s.heap H locs → lv_has ls 4 [(0, .ref (a 0)), (1, .ref (b 0)), (2, .int x2_f17), (3, .int x3_17)] → d_Sh_byLike_L17 x2_f17 w k17_47 n x3_17 z_17 = some v → GV p l e s m ({ frames := 1, cells := 0, slots := 0, locals := 22 } : Room) ([.ref (a 0), .ref (b 0)] : List Value).toArray below meth c A D g (ws_Sh g a v ++ ws_St g b w) H locs (F0 m 17 ls []) := by
          intro x2_f17 k17_47 hk17_47 n
          induction n with
          | zero =>
            intro  x3_17 z_17 H locs ls hP hD hS hl hd
            have hd : none = some v := hd
            cases hd
          | succ n ih17 =>
            intro  x3_17 z_17 H locs ls hP hD hS hl hd
            have hd : B_Sh_byLike_L17 x2_f17 w k17_47 (d_Sh_byLike_L17 x2_f17 w k17_47 n) x3_17 z_17 = some v := hd
            generalize d_Sh_byLike_L17 x2_f17 w k17_47 n = self17 at ih17 hd
            unfold B_Sh_byLike_L17 at hd
            refine lv_iload_n hx hb d_Sh_byLike_17 rfl (lv_at hl 3 rfl) ?_
            refine lv_aload_n hx hb d_Sh_byLike_18 rfl (lv_at hl 0 rfl) ?_
            refine va_get (D := D) (ci := 8) (v := .int (q_Sh_people z_17)) (C := R_Sh) (T := F_Sh) (N := 10) hx hb hg i_Sh hown hK hP 0 rfl rfl 3 (by decide) (hg _ g_329) (fun _ h9 => h9) rfl d_Sh_byLike_19 ?_
            refine lv_icmp_ge (tgt := 47) hx hb d_Sh_byLike_22 (by decide) (fun h_4 => ?_) (fun h_4 => ?_)
            · have hd := ite_t hd h_4
              exact hk17_47 z_17 _ _ _ hP hD hS (lv_sub hl [0, 1, 2] rfl) hd
            · have hd := ite_f hd h_4
              refine lv_aload_n hx hb d_Sh_byLike_25 rfl (lv_at hl 0 rfl) ?_
              refine va_get (D := D) (ci := 8) (v := .ref (a 2)) (C := R_Sh) (T := F_Sh) (N := 10) hx hb hg i_Sh hown hK hP 0 rfl rfl 5 (by decide) (hg _ g_331) (fun _ h9 => h9) rfl d_Sh_byLike_26 ?_
              refine lv_iload_n hx hb d_Sh_byLike_29 rfl (lv_at hl 2 rfl) ?_
              obtain ⟨h_5, hd⟩ := ite_s hd
              refine aldA hx hb hK hP 2 rfl (inb_t h_5) d_Sh_byLike_30 ?_
              refine lv_iload_n hx hb d_Sh_byLike_31 rfl (lv_at hl 3 rfl) ?_
              refine lv_aload_n hx hb d_Sh_byLike_32 rfl (lv_at hl 1 rfl) ?_
              refine va_get (D := D) (ci := 9) (v := .ref (b 1)) (C := R_St) (T := F_St) (N := 7) hx hb hg i_St hown hK hP 14 rfl rfl 2 (by decide) (hg _ g_285) (fun _ h9 => h9) rfl d_Sh_byLike_33 ?_
              refine lv_iload_n hx hb d_Sh_byLike_36 rfl (lv_at hl 3 rfl) ?_
              obtain ⟨h_6, hd⟩ := ite_s hd
              refine aldA hx hb hK hP 15 rfl (inb_t h_6) d_Sh_byLike_37 ?_
              refine lv_iload_n hx hb d_Sh_byLike_38 rfl (lv_at hl 2 rfl) ?_
              obtain ⟨h_7, hd⟩ := ite_s hd
              refine ialdK hx hb hK hP (16 + x3_17.toNatClampNeg) 0 ((show ∀ k, k < 4 → (ws_Sh g a z_17 ++ ws_St g b w)[16 + k]? = some (b (k + 2), .inl (g 0, 7, .inl ((q_St_like w) k))) from fun k hk => match k, hk with | 0, _ => rfl | 1, _ => rfl | 2, _ => rfl | 3, _ => rfl | k + 4, hk => absurd hk (by omega)) _ (vp_lt (inb_t h_6))) rfl (inb_t h_7) rfl d_Sh_byLike_39 ?_
              obtain ⟨h_8, hd⟩ := ite_s hd
              have hset_9 := (show ∀ k, k < 7 → (ws_Sh g a z_17 ++ ws_St g b w).set (3 + k) (a (k + 3), .inl (g 0, 5, .inl (upd ((q_Sh_worth z_17) k) x3_17.toNatClampNeg ((q_St_like w) x3_17.toNatClampNeg x2_f17.toNatClampNeg)))) = ws_Sh g a (u_Sh_worth z_17 (upd2 (q_Sh_worth z_17) k x3_17.toNatClampNeg ((q_St_like w) x3_17.toNatClampNeg x2_f17.toNatClampNeg))) ++ ws_St g b w from fun k hk => match k, hk with | 0, _ => rfl | 1, _ => rfl | 2, _ => rfl | 3, _ => rfl | 4, _ => rfl | 5, _ => rfl | 6, _ => rfl | k + 7, hk => absurd hk (by omega)) _ (vp_lt (inb_t h_5))
              refine iastK hx hb hK hP hD hS (3 + x2_f17.toNatClampNeg) 0 ((show ∀ k, k < 7 → (ws_Sh g a z_17 ++ ws_St g b w)[3 + k]? = some (a (k + 3), .inl (g 0, 5, .inl ((q_Sh_worth z_17) k))) from fun k hk => match k, hk with | 0, _ => rfl | 1, _ => rfl | 2, _ => rfl | 3, _ => rfl | 4, _ => rfl | 5, _ => rfl | 6, _ => rfl | k + 7, hk => absurd hk (by omega)) _ (vp_lt (inb_t h_5))) rfl (inb_t h_8) rfl d_Sh_byLike_40 (fun H locs hP hD hS => ?_)
              rw [hset_9] at hP hD
              refine lv_iinc (v := x3_17 + 1) (lv' := [(3, .int (x3_17 + 1)), (0, .ref (a 0)), (1, .ref (b 0)), (2, .int x2_f17)]) hx hb d_Sh_byLike_41 hl (k := 3) rfl (by rfl) (by decide) rfl (fun ls hl => ?_)
              refine lv_goto (tgt := 17) hx hb d_Sh_byLike_44 (by decide) ?_
              exact ih17 (x3_17 + 1) (u_Sh_worth z_17 (upd2 (q_Sh_worth z_17) x2_f17.toNatClampNeg x3_17.toNatClampNeg ((q_St_like w) x3_17.toNatClampNeg x2_f17.toNatClampNeg))) _ _ _ hP hD hS (lv_sub hl [1, 2, 3, 0] rfl) hd
        exact lp17 x2_7 _ ex17_47 1000 0 z_7 _ _ _ hP hD hS (lv_sub hl [1, 2, 3, 0] rfl) hd
  exact lp7 1000 0 v_1 _ _ _ hP hD hS (lv_sub hl [1, 2, 0] rfl) hd
-- recursion: Sh_deal
def B_Sh_deal_L59 (rc : Int32 → Int32 → T_Sh → Option (T_Sh)) (x1_f59 : Int32) (x2_f59 : Int32) (self59 : Int32 → T_Sh → Option (T_Sh)) (x3_59 : Int32) (z_59 : T_Sh) : Option (T_Sh) :=
  if (q_Sh_people z_59) < x3_59 then (some (z_59)) else (if inb x1_f59 7 = true then (if inb x3_59 5 = true then (if ((q_Sh_worth z_59) x1_f59.toNatClampNeg x3_59.toNatClampNeg) = (-1000000) then (self59 (x3_59 + 1) z_59) else (if inb x1_f59 7 = true then (if inb x3_59 5 = true then (if ((q_Sh_room z_59) x3_59.toNatClampNeg) < ((q_Sh_weight z_59) x1_f59.toNatClampNeg) then (self59 (x3_59 + 1) z_59) else (if (q_Sh_people z_59) ≤ x3_59 then (if inb x1_f59 7 = true then (if inb x3_59 5 = true then (if inb x1_f59 7 = true then (if inb x3_59 5 = true then (if inb x1_f59 7 = true then (if inb x3_59 5 = true then ((rc (x1_f59 + 1) (x2_f59 + ((q_Sh_worth (u_Sh_room (u_Sh_trial z_59 (upd (q_Sh_trial z_59) x1_f59.toNatClampNeg (-5))) (upd (q_Sh_room (u_Sh_trial z_59 (upd (q_Sh_trial z_59) x1_f59.toNatClampNeg (-5)))) x3_59.toNatClampNeg (((q_Sh_room (u_Sh_trial z_59 (upd (q_Sh_trial z_59) x1_f59.toNatClampNeg (-5)))) x3_59.toNatClampNeg) - ((q_Sh_weight (u_Sh_trial z_59 (upd (q_Sh_trial z_59) x1_f59.toNatClampNeg (-5)))) x1_f59.toNatClampNeg))))) x1_f59.toNatClampNeg x3_59.toNatClampNeg)) (u_Sh_room (u_Sh_trial z_59 (upd (q_Sh_trial z_59) x1_f59.toNatClampNeg (-5))) (upd (q_Sh_room (u_Sh_trial z_59 (upd (q_Sh_trial z_59) x1_f59.toNatClampNeg (-5)))) x3_59.toNatClampNeg (((q_Sh_room (u_Sh_trial z_59 (upd (q_Sh_trial z_59) x1_f59.toNatClampNeg (-5)))) x3_59.toNatClampNeg) - ((q_Sh_weight (u_Sh_trial z_59 (upd (q_Sh_trial z_59) x1_f59.toNatClampNeg (-5)))) x1_f59.toNatClampNeg))))).bind fun v_11 => if inb x3_59 5 = true then (if inb x1_f59 7 = true then (if inb x3_59 5 = true then (self59 (x3_59 + 1) (u_Sh_room v_11 (upd (q_Sh_room v_11) x3_59.toNatClampNeg (((q_Sh_room v_11) x3_59.toNatClampNeg) + ((q_Sh_weight v_11) x1_f59.toNatClampNeg))))) else none) else none) else none) else none) else none) else none) else none) else none) else none) else (if inb x1_f59 7 = true then (if inb x3_59 5 = true then (if inb x1_f59 7 = true then (if inb x3_59 5 = true then (if inb x1_f59 7 = true then (if inb x3_59 5 = true then ((rc (x1_f59 + 1) (x2_f59 + ((q_Sh_worth (u_Sh_room (u_Sh_trial z_59 (upd (q_Sh_trial z_59) x1_f59.toNatClampNeg x3_59)) (upd (q_Sh_room (u_Sh_trial z_59 (upd (q_Sh_trial z_59) x1_f59.toNatClampNeg x3_59))) x3_59.toNatClampNeg (((q_Sh_room (u_Sh_trial z_59 (upd (q_Sh_trial z_59) x1_f59.toNatClampNeg x3_59))) x3_59.toNatClampNeg) - ((q_Sh_weight (u_Sh_trial z_59 (upd (q_Sh_trial z_59) x1_f59.toNatClampNeg x3_59))) x1_f59.toNatClampNeg))))) x1_f59.toNatClampNeg x3_59.toNatClampNeg)) (u_Sh_room (u_Sh_trial z_59 (upd (q_Sh_trial z_59) x1_f59.toNatClampNeg x3_59)) (upd (q_Sh_room (u_Sh_trial z_59 (upd (q_Sh_trial z_59) x1_f59.toNatClampNeg x3_59))) x3_59.toNatClampNeg (((q_Sh_room (u_Sh_trial z_59 (upd (q_Sh_trial z_59) x1_f59.toNatClampNeg x3_59))) x3_59.toNatClampNeg) - ((q_Sh_weight (u_Sh_trial z_59 (upd (q_Sh_trial z_59) x1_f59.toNatClampNeg x3_59))) x1_f59.toNatClampNeg))))).bind fun v_22 => if inb x3_59 5 = true then (if inb x1_f59 7 = true then (if inb x3_59 5 = true then (self59 (x3_59 + 1) (u_Sh_room v_22 (upd (q_Sh_room v_22) x3_59.toNatClampNeg (((q_Sh_room v_22) x3_59.toNatClampNeg) + ((q_Sh_weight v_22) x1_f59.toNatClampNeg))))) else none) else none) else none) else none) else none) else none) else none) else none) else none))) else none) else none)) else none) else none)
def d_Sh_deal_L59 (rc : Int32 → Int32 → T_Sh → Option (T_Sh)) (x1_f59 : Int32) (x2_f59 : Int32) (n : Nat) : Int32 → T_Sh → Option (T_Sh) := recN (fun _ _ => none) (fun self => B_Sh_deal_L59 rc x1_f59 x2_f59 self) n
def B_Sh_deal (rc : Int32 → Int32 → T_Sh → Option (T_Sh)) (x1 : Int32) (x2 : Int32) (z : T_Sh) : Option (T_Sh) :=
  if (q_Sh_found z) = 0 then (if x1 < (q_Sh_things z) then (d_Sh_deal_L59 rc x1 x2  1000 0 z) else (some ((u_Sh_owner (u_Sh_sum (u_Sh_found z 1) x2) (va_cpy (q_Sh_trial (u_Sh_sum (u_Sh_found z 1) x2)) (q_Sh_owner (u_Sh_sum (u_Sh_found z 1) x2)) 0 0 7))))) else (if inb x1 8 = true then (if (q_Sh_sum z) < (x2 + ((q_Sh_hope z) x1.toNatClampNeg)) then (if x1 < (q_Sh_things z) then (d_Sh_deal_L59 rc x1 x2  1000 0 z) else (some ((u_Sh_owner (u_Sh_sum (u_Sh_found z 1) x2) (va_cpy (q_Sh_trial (u_Sh_sum (u_Sh_found z 1) x2)) (q_Sh_owner (u_Sh_sum (u_Sh_found z 1) x2)) 0 0 7))))) else (some (z))) else none)
def d_Sh_deal (n : Nat) : Int32 → Int32 → T_Sh → Option (T_Sh) := recN (fun _ _ _ => none) (fun rc => B_Sh_deal rc) n
theorem d_Sh_deal_0 : decode b_Sh_deal 0 = .ok (.aload_n 0, 1) := by decide +kernel
theorem d_Sh_deal_1 : decode b_Sh_deal 1 = .ok (.getfield 56, 3) := by decide +kernel
theorem d_Sh_deal_4 : decode b_Sh_deal 4 = .ok (.ifCond .eq 19, 3) := by decide +kernel
theorem d_Sh_deal_7 : decode b_Sh_deal 7 = .ok (.iload_n 2, 1) := by decide +kernel
theorem d_Sh_deal_8 : decode b_Sh_deal 8 = .ok (.aload_n 0, 1) := by decide +kernel
theorem d_Sh_deal_9 : decode b_Sh_deal 9 = .ok (.getfield 29, 3) := by decide +kernel
theorem d_Sh_deal_12 : decode b_Sh_deal 12 = .ok (.iload_n 1, 1) := by decide +kernel
theorem d_Sh_deal_13 : decode b_Sh_deal 13 = .ok (.iaload, 1) := by decide +kernel
theorem d_Sh_deal_14 : decode b_Sh_deal 14 = .ok (.iadd, 1) := by decide +kernel
theorem d_Sh_deal_15 : decode b_Sh_deal 15 = .ok (.aload_n 0, 1) := by decide +kernel
theorem d_Sh_deal_16 : decode b_Sh_deal 16 = .ok (.getfield 60, 3) := by decide +kernel
theorem d_Sh_deal_19 : decode b_Sh_deal 19 = .ok (.if_icmp .gt 4, 3) := by decide +kernel
theorem d_Sh_deal_22 : decode b_Sh_deal 22 = .ok (.return_, 1) := by decide +kernel
theorem d_Sh_deal_23 : decode b_Sh_deal 23 = .ok (.iload_n 1, 1) := by decide +kernel
theorem d_Sh_deal_24 : decode b_Sh_deal 24 = .ok (.aload_n 0, 1) := by decide +kernel
theorem d_Sh_deal_25 : decode b_Sh_deal 25 = .ok (.getfield 36, 3) := by decide +kernel
theorem d_Sh_deal_28 : decode b_Sh_deal 28 = .ok (.if_icmp .lt 29, 3) := by decide +kernel
theorem d_Sh_deal_31 : decode b_Sh_deal 31 = .ok (.aload_n 0, 1) := by decide +kernel
theorem d_Sh_deal_32 : decode b_Sh_deal 32 = .ok (.iconst 1, 1) := by decide +kernel
theorem d_Sh_deal_33 : decode b_Sh_deal 33 = .ok (.putfield 56, 3) := by decide +kernel
theorem d_Sh_deal_36 : decode b_Sh_deal 36 = .ok (.aload_n 0, 1) := by decide +kernel
theorem d_Sh_deal_37 : decode b_Sh_deal 37 = .ok (.iload_n 2, 1) := by decide +kernel
theorem d_Sh_deal_38 : decode b_Sh_deal 38 = .ok (.putfield 60, 3) := by decide +kernel
theorem d_Sh_deal_41 : decode b_Sh_deal 41 = .ok (.aload_n 0, 1) := by decide +kernel
theorem d_Sh_deal_42 : decode b_Sh_deal 42 = .ok (.getfield 26, 3) := by decide +kernel
theorem d_Sh_deal_45 : decode b_Sh_deal 45 = .ok (.iconst 0, 1) := by decide +kernel
theorem d_Sh_deal_46 : decode b_Sh_deal 46 = .ok (.aload_n 0, 1) := by decide +kernel
theorem d_Sh_deal_47 : decode b_Sh_deal 47 = .ok (.getfield 9, 3) := by decide +kernel
theorem d_Sh_deal_50 : decode b_Sh_deal 50 = .ok (.iconst 0, 1) := by decide +kernel
theorem d_Sh_deal_51 : decode b_Sh_deal 51 = .ok (.bipush 7, 2) := by decide +kernel
theorem d_Sh_deal_53 : decode b_Sh_deal 53 = .ok (.invokestatic 73, 3) := by decide +kernel
theorem d_Sh_deal_56 : decode b_Sh_deal 56 = .ok (.return_, 1) := by decide +kernel
theorem d_Sh_deal_57 : decode b_Sh_deal 57 = .ok (.iconst 0, 1) := by decide +kernel
theorem d_Sh_deal_58 : decode b_Sh_deal 58 = .ok (.istore_n 3, 1) := by decide +kernel
theorem d_Sh_deal_59 : decode b_Sh_deal 59 = .ok (.iload_n 3, 1) := by decide +kernel
theorem d_Sh_deal_60 : decode b_Sh_deal 60 = .ok (.aload_n 0, 1) := by decide +kernel
theorem d_Sh_deal_61 : decode b_Sh_deal 61 = .ok (.getfield 40, 3) := by decide +kernel
theorem d_Sh_deal_64 : decode b_Sh_deal 64 = .ok (.if_icmp .gt 104, 3) := by decide +kernel
theorem d_Sh_deal_67 : decode b_Sh_deal 67 = .ok (.aload_n 0, 1) := by decide +kernel
theorem d_Sh_deal_68 : decode b_Sh_deal 68 = .ok (.getfield 17, 3) := by decide +kernel
theorem d_Sh_deal_71 : decode b_Sh_deal 71 = .ok (.iload_n 1, 1) := by decide +kernel
theorem d_Sh_deal_72 : decode b_Sh_deal 72 = .ok (.aaload, 1) := by decide +kernel
theorem d_Sh_deal_73 : decode b_Sh_deal 73 = .ok (.iload_n 3, 1) := by decide +kernel
theorem d_Sh_deal_74 : decode b_Sh_deal 74 = .ok (.iaload, 1) := by decide +kernel
theorem d_Sh_deal_75 : decode b_Sh_deal 75 = .ok (.ldc 49, 2) := by decide +kernel
theorem d_Sh_deal_77 : decode b_Sh_deal 77 = .ok (.if_icmp .eq 85, 3) := by decide +kernel
theorem d_Sh_deal_80 : decode b_Sh_deal 80 = .ok (.aload_n 0, 1) := by decide +kernel
theorem d_Sh_deal_81 : decode b_Sh_deal 81 = .ok (.getfield 20, 3) := by decide +kernel
theorem d_Sh_deal_84 : decode b_Sh_deal 84 = .ok (.iload_n 1, 1) := by decide +kernel
theorem d_Sh_deal_85 : decode b_Sh_deal 85 = .ok (.iaload, 1) := by decide +kernel
theorem d_Sh_deal_86 : decode b_Sh_deal 86 = .ok (.aload_n 0, 1) := by decide +kernel
theorem d_Sh_deal_87 : decode b_Sh_deal 87 = .ok (.getfield 23, 3) := by decide +kernel
theorem d_Sh_deal_90 : decode b_Sh_deal 90 = .ok (.iload_n 3, 1) := by decide +kernel
theorem d_Sh_deal_91 : decode b_Sh_deal 91 = .ok (.iaload, 1) := by decide +kernel
theorem d_Sh_deal_92 : decode b_Sh_deal 92 = .ok (.if_icmp .gt 70, 3) := by decide +kernel
theorem d_Sh_deal_95 : decode b_Sh_deal 95 = .ok (.aload_n 0, 1) := by decide +kernel
theorem d_Sh_deal_96 : decode b_Sh_deal 96 = .ok (.getfield 26, 3) := by decide +kernel
theorem d_Sh_deal_99 : decode b_Sh_deal 99 = .ok (.iload_n 1, 1) := by decide +kernel
theorem d_Sh_deal_100 : decode b_Sh_deal 100 = .ok (.iload_n 3, 1) := by decide +kernel
theorem d_Sh_deal_101 : decode b_Sh_deal 101 = .ok (.aload_n 0, 1) := by decide +kernel
theorem d_Sh_deal_102 : decode b_Sh_deal 102 = .ok (.getfield 40, 3) := by decide +kernel
theorem d_Sh_deal_105 : decode b_Sh_deal 105 = .ok (.if_icmp .ge 7, 3) := by decide +kernel
theorem d_Sh_deal_108 : decode b_Sh_deal 108 = .ok (.iload_n 3, 1) := by decide +kernel
theorem d_Sh_deal_109 : decode b_Sh_deal 109 = .ok (.goto 5, 3) := by decide +kernel
theorem d_Sh_deal_112 : decode b_Sh_deal 112 = .ok (.bipush (-5), 2) := by decide +kernel
theorem d_Sh_deal_114 : decode b_Sh_deal 114 = .ok (.iastore, 1) := by decide +kernel
theorem d_Sh_deal_115 : decode b_Sh_deal 115 = .ok (.aload_n 0, 1) := by decide +kernel
theorem d_Sh_deal_116 : decode b_Sh_deal 116 = .ok (.getfield 23, 3) := by decide +kernel
theorem d_Sh_deal_119 : decode b_Sh_deal 119 = .ok (.iload_n 3, 1) := by decide +kernel
theorem d_Sh_deal_120 : decode b_Sh_deal 120 = .ok (.dup2, 1) := by decide +kernel
theorem d_Sh_deal_121 : decode b_Sh_deal 121 = .ok (.iaload, 1) := by decide +kernel
theorem d_Sh_deal_122 : decode b_Sh_deal 122 = .ok (.aload_n 0, 1) := by decide +kernel
theorem d_Sh_deal_123 : decode b_Sh_deal 123 = .ok (.getfield 20, 3) := by decide +kernel
theorem d_Sh_deal_126 : decode b_Sh_deal 126 = .ok (.iload_n 1, 1) := by decide +kernel
theorem d_Sh_deal_127 : decode b_Sh_deal 127 = .ok (.iaload, 1) := by decide +kernel
theorem d_Sh_deal_128 : decode b_Sh_deal 128 = .ok (.isub, 1) := by decide +kernel
theorem d_Sh_deal_129 : decode b_Sh_deal 129 = .ok (.iastore, 1) := by decide +kernel
theorem d_Sh_deal_130 : decode b_Sh_deal 130 = .ok (.aload_n 0, 1) := by decide +kernel
theorem d_Sh_deal_131 : decode b_Sh_deal 131 = .ok (.iload_n 1, 1) := by decide +kernel
theorem d_Sh_deal_132 : decode b_Sh_deal 132 = .ok (.iconst 1, 1) := by decide +kernel
theorem d_Sh_deal_133 : decode b_Sh_deal 133 = .ok (.iadd, 1) := by decide +kernel
theorem d_Sh_deal_134 : decode b_Sh_deal 134 = .ok (.iload_n 2, 1) := by decide +kernel
theorem d_Sh_deal_135 : decode b_Sh_deal 135 = .ok (.aload_n 0, 1) := by decide +kernel
theorem d_Sh_deal_136 : decode b_Sh_deal 136 = .ok (.getfield 17, 3) := by decide +kernel
theorem d_Sh_deal_139 : decode b_Sh_deal 139 = .ok (.iload_n 1, 1) := by decide +kernel
theorem d_Sh_deal_140 : decode b_Sh_deal 140 = .ok (.aaload, 1) := by decide +kernel
theorem d_Sh_deal_141 : decode b_Sh_deal 141 = .ok (.iload_n 3, 1) := by decide +kernel
theorem d_Sh_deal_142 : decode b_Sh_deal 142 = .ok (.iaload, 1) := by decide +kernel
theorem d_Sh_deal_143 : decode b_Sh_deal 143 = .ok (.iadd, 1) := by decide +kernel
theorem d_Sh_deal_144 : decode b_Sh_deal 144 = .ok (.invokevirtual 69, 3) := by decide +kernel
theorem d_Sh_deal_147 : decode b_Sh_deal 147 = .ok (.aload_n 0, 1) := by decide +kernel
theorem d_Sh_deal_148 : decode b_Sh_deal 148 = .ok (.getfield 23, 3) := by decide +kernel
theorem d_Sh_deal_151 : decode b_Sh_deal 151 = .ok (.iload_n 3, 1) := by decide +kernel
theorem d_Sh_deal_152 : decode b_Sh_deal 152 = .ok (.dup2, 1) := by decide +kernel
theorem d_Sh_deal_153 : decode b_Sh_deal 153 = .ok (.iaload, 1) := by decide +kernel
theorem d_Sh_deal_154 : decode b_Sh_deal 154 = .ok (.aload_n 0, 1) := by decide +kernel
theorem d_Sh_deal_155 : decode b_Sh_deal 155 = .ok (.getfield 20, 3) := by decide +kernel
theorem d_Sh_deal_158 : decode b_Sh_deal 158 = .ok (.iload_n 1, 1) := by decide +kernel
theorem d_Sh_deal_159 : decode b_Sh_deal 159 = .ok (.iaload, 1) := by decide +kernel
theorem d_Sh_deal_160 : decode b_Sh_deal 160 = .ok (.iadd, 1) := by decide +kernel
theorem d_Sh_deal_161 : decode b_Sh_deal 161 = .ok (.iastore, 1) := by decide +kernel
theorem d_Sh_deal_162 : decode b_Sh_deal 162 = .ok (.iinc 3 1, 3) := by decide +kernel
theorem d_Sh_deal_165 : decode b_Sh_deal 165 = .ok (.goto (-106), 3) := by decide +kernel
theorem d_Sh_deal_168 : decode b_Sh_deal 168 = .ok (.return_, 1) := by decide +kernel
theorem o_Sh_deal : OkV y_Sh_deal "OwnsLift$Shares" b_Sh_deal 4 none 2 := ⟨⟨rfl, by decide +kernel, by decide +kernel, by decide +kernel⟩, g_799, g_22, g_78, g_800⟩

set_option maxHeartbeats 8000000 in
set_option maxRecDepth 100000 in
theorem cg_Sh_deal : ∀ nr : Nat, (∀ (l : Launch) (D : va_G) (g : Nat → ClassId) (a : Nat → Nat) (x1 : Int32) (x2 : Int32) (z : T_Sh) (v : T_Sh) (h : d_Sh_deal nr x1 x2 z = some v), MV l y_Sh_deal b_Sh_deal 4 ({ frames := 2 + 2 * nr, cells := 0, slots := 0, locals := 71 + 60 * nr } : Room) D g [.ref (a 0), .int x1, .int x2] (ws_Sh g a z) (ws_Sh g a v)) := by
  intro nr
  induction nr with
  | zero =>
    exact (by intro l D g a x1 x2 z v h; have h : none = some v := h; cases h)
  | succ nr ih =>
    refine ?_
    · intro l D g a x1 x2 z v h
      have hd : B_Sh_deal (d_Sh_deal nr) x1 x2 z = some v := h
      have ihc := ih
      generalize hrc : (d_Sh_deal nr) = rc at hd
      have ih : ∀ (l : Launch) (D : va_G) (g : Nat → ClassId) (a : Nat → Nat) (x1 : Int32) (x2 : Int32) (z : T_Sh) (v : T_Sh) (h : rc x1 x2 z = some v), MV l y_Sh_deal b_Sh_deal 4 ({ frames := 2 + 2 * nr, cells := 0, slots := 0, locals := 71 + 60 * nr } : Room) D g [.ref (a 0), .int x1, .int x2] (ws_Sh g a z) (ws_Sh g a v) := fun l D g a x1 x2 z v h => ih l D g a x1 x2 z v (by rw [hrc]; exact h)
      clear ihc hrc
      unfold B_Sh_deal at hd
      refine enterV rfl (Nat.le_of_ble_eq_true rfl) (fun p e s m below meth c A ls hx hb hml hr hown hg hlk hK hA hP hD hS hCs hl => ?_)
      have hown : s.vm.findClass "OwnsLift$Shares" = some m.cls := hown
      have hl : lv_has ls 4 [(0, .ref (a 0)), (1, .int x1), (2, .int x2)] := hl
      show GV p l e s m ({ frames := 2 + 2 * (nr + 1), cells := 0, slots := 0, locals := 71 + 60 * (nr + 1) } : Room) ([.ref (a 0), .int x1, .int x2] : List Value).toArray below meth c A D g (ws_Sh g a v) s.heap [] (F0 m 0 ls [])
      refine lv_aload_n hx hb d_Sh_deal_0 rfl (lv_at hl 0 rfl) ?_
      refine va_get (D := D) (ci := 8) (v := .int (q_Sh_found z)) (C := R_Sh) (T := F_Sh) (N := 10) hx hb hg i_Sh hown hK hP 0 rfl rfl 0 (by decide) (hg _ g_323) (fun _ h9 => h9) rfl d_Sh_deal_1 ?_
      refine lv_if_eq (tgt := 23) hx hb d_Sh_deal_4 (by decide) (fun h_1 => ?_) (fun h_1 => ?_)
      · have hd := ite_t hd h_1
        refine lv_iload_n hx hb d_Sh_deal_23 rfl (lv_at hl 1 rfl) ?_
        refine lv_aload_n hx hb d_Sh_deal_24 rfl (lv_at hl 0 rfl) ?_
        refine va_get (D := D) (ci := 8) (v := .int (q_Sh_things z)) (C := R_Sh) (T := F_Sh) (N := 10) hx hb hg i_Sh hown hK hP 0 rfl rfl 4 (by decide) (hg _ g_330) (fun _ h9 => h9) rfl d_Sh_deal_25 ?_
        refine lv_icmp_lt (tgt := 57) hx hb d_Sh_deal_28 (by decide) (fun h_2 => ?_) (fun h_2 => ?_)
        · have hd := ite_t hd h_2
          refine lv_iconst (v := 0) hx hb d_Sh_deal_57 (by decide) ?_
          refine lv_istore_n (lv' := [(3, .int 0), (0, .ref (a 0)), (1, .int x1), (2, .int x2)]) hx hb d_Sh_deal_58 rfl hl (by decide) rfl (fun ls hl => ?_)
          have lp59 : ∀ (x1_f59 : Int32) (x2_f59 : Int32) (n : Nat) (x3_59 : Int32) (z_59 : T_Sh) (H : Heap) (locs : List Loc) (ls : Array Slot), va_P D classes (ws_Sh g a z_59) H → va_D A (ws_Sh g a z_59) → va_S A s.heap H locs → lv_has ls 4 [(0, .ref (a 0)), (1, .int x1_f59), (2, .int x2_f59), (3, .int x3_59)] → d_Sh_deal_L59 rc x1_f59 x2_f59 n x3_59 z_59 = some v → GV p l e s m ({ frames := 2 + 2 * (nr + 1), cells := 0, slots := 0, locals := 71 + 60 * (nr + 1) } : Room) ([.ref (a 0), .int x1, .int x2] : List Value).toArray below meth c A D g (ws_Sh g a v) H locs (F0 m 59 ls []) := by
            intro x1_f59 x2_f59 n
            induction n with
            | zero =>
              intro  x3_59 z_59 H locs ls hP hD hS hl hd
              have hd : none = some v := hd
              cases hd
            | succ n ih59 =>
              intro  x3_59 z_59 H locs ls hP hD hS hl hd
              have hd : B_Sh_deal_L59 rc x1_f59 x2_f59 (d_Sh_deal_L59 rc x1_f59 x2_f59 n) x3_59 z_59 = some v := hd
              generalize d_Sh_deal_L59 rc x1_f59 x2_f59 n = self59 at ih59 hd
              unfold B_Sh_deal_L59 at hd
              refine lv_iload_n hx hb d_Sh_deal_59 rfl (lv_at hl 3 rfl) ?_
              refine lv_aload_n hx hb d_Sh_deal_60 rfl (lv_at hl 0 rfl) ?_
              refine va_get (D := D) (ci := 8) (v := .int (q_Sh_people z_59)) (C := R_Sh) (T := F_Sh) (N := 10) hx hb hg i_Sh hown hK hP 0 rfl rfl 3 (by decide) (hg _ g_329) (fun _ h9 => h9) rfl d_Sh_deal_61 ?_
              refine lv_icmp_gt (tgt := 168) hx hb d_Sh_deal_64 (by decide) (fun h_3 => ?_) (fun h_3 => ?_)
              · have hd := ite_t hd h_3
                obtain rfl := Option.some.inj hd
                exact retV hx hb hr hlk hK hP hD hS d_Sh_deal_168
              · have hd := ite_f hd h_3
                refine lv_aload_n hx hb d_Sh_deal_67 rfl (lv_at hl 0 rfl) ?_
                refine va_get (D := D) (ci := 8) (v := .ref (a 2)) (C := R_Sh) (T := F_Sh) (N := 10) hx hb hg i_Sh hown hK hP 0 rfl rfl 5 (by decide) (hg _ g_331) (fun _ h9 => h9) rfl d_Sh_deal_68 ?_
                refine lv_iload_n hx hb d_Sh_deal_71 rfl (lv_at hl 1 rfl) ?_
                obtain ⟨h_4, hd⟩ := ite_s hd
                refine aldA hx hb hK hP 2 rfl (inb_t h_4) d_Sh_deal_72 ?_
                refine lv_iload_n hx hb d_Sh_deal_73 rfl (lv_at hl 3 rfl) ?_
                obtain ⟨h_5, hd⟩ := ite_s hd
                refine ialdK hx hb hK hP (3 + x1_f59.toNatClampNeg) 0 ((show ∀ k, k < 7 → (ws_Sh g a z_59)[3 + k]? = some (a (k + 3), .inl (g 0, 5, .inl ((q_Sh_worth z_59) k))) from fun k hk => match k, hk with | 0, _ => rfl | 1, _ => rfl | 2, _ => rfl | 3, _ => rfl | 4, _ => rfl | 5, _ => rfl | 6, _ => rfl | k + 7, hk => absurd hk (by omega)) _ (vp_lt (inb_t h_4))) rfl (inb_t h_5) rfl d_Sh_deal_74 ?_
                refine lv_ldc (v := (-1000000)) hx hb hown (hg _ g_802) d_Sh_deal_75 ?_
                refine lv_icmp_eq (tgt := 162) hx hb d_Sh_deal_77 (by decide) (fun h_6 => ?_) (fun h_6 => ?_)
                · have hd := ite_t hd h_6
                  refine lv_iinc (v := x3_59 + 1) (lv' := [(3, .int (x3_59 + 1)), (0, .ref (a 0)), (1, .int x1_f59), (2, .int x2_f59)]) hx hb d_Sh_deal_162 hl (k := 3) rfl (by rfl) (by decide) rfl (fun ls hl => ?_)
                  refine lv_goto (tgt := 59) hx hb d_Sh_deal_165 (by decide) ?_
                  exact ih59 (x3_59 + 1) z_59 _ _ _ hP hD hS (lv_sub hl [1, 2, 3, 0] rfl) hd
                · have hd := ite_f hd h_6
                  refine lv_aload_n hx hb d_Sh_deal_80 rfl (lv_at hl 0 rfl) ?_
                  refine va_get (D := D) (ci := 8) (v := .ref (a 10)) (C := R_Sh) (T := F_Sh) (N := 10) hx hb hg i_Sh hown hK hP 0 rfl rfl 6 (by decide) (hg _ g_332) (fun _ h9 => h9) rfl d_Sh_deal_81 ?_
                  refine lv_iload_n hx hb d_Sh_deal_84 rfl (lv_at hl 1 rfl) ?_
                  obtain ⟨h_32, hd⟩ := ite_s hd
                  refine ialdK hx hb hK hP 10 0 rfl rfl (inb_t h_32) rfl d_Sh_deal_85 ?_
                  refine lv_aload_n hx hb d_Sh_deal_86 rfl (lv_at hl 0 rfl) ?_
                  refine va_get (D := D) (ci := 8) (v := .ref (a 11)) (C := R_Sh) (T := F_Sh) (N := 10) hx hb hg i_Sh hown hK hP 0 rfl rfl 7 (by decide) (hg _ g_333) (fun _ h9 => h9) rfl d_Sh_deal_87 ?_
                  refine lv_iload_n hx hb d_Sh_deal_90 rfl (lv_at hl 3 rfl) ?_
                  obtain ⟨h_31, hd⟩ := ite_s hd
                  refine ialdK hx hb hK hP 11 0 rfl rfl (inb_t h_31) rfl d_Sh_deal_91 ?_
                  refine lv_icmp_gt (tgt := 162) hx hb d_Sh_deal_92 (by decide) (fun h_7 => ?_) (fun h_7 => ?_)
                  · have hd := ite_t hd h_7
                    refine lv_iinc (v := x3_59 + 1) (lv' := [(3, .int (x3_59 + 1)), (0, .ref (a 0)), (1, .int x1_f59), (2, .int x2_f59)]) hx hb d_Sh_deal_162 hl (k := 3) rfl (by rfl) (by decide) rfl (fun ls hl => ?_)
                    refine lv_goto (tgt := 59) hx hb d_Sh_deal_165 (by decide) ?_
                    exact ih59 (x3_59 + 1) z_59 _ _ _ hP hD hS (lv_sub hl [1, 2, 3, 0] rfl) hd
                  · have hd := ite_f hd h_7
                    refine lv_aload_n hx hb d_Sh_deal_95 rfl (lv_at hl 0 rfl) ?_
                    refine va_get (D := D) (ci := 8) (v := .ref (a 12)) (C := R_Sh) (T := F_Sh) (N := 10) hx hb hg i_Sh hown hK hP 0 rfl rfl 8 (by decide) (hg _ g_334) (fun _ h9 => h9) rfl d_Sh_deal_96 ?_
                    refine lv_iload_n hx hb d_Sh_deal_99 rfl (lv_at hl 1 rfl) ?_
                    refine lv_iload_n hx hb d_Sh_deal_100 rfl (lv_at hl 3 rfl) ?_
                    refine lv_aload_n hx hb d_Sh_deal_101 rfl (lv_at hl 0 rfl) ?_
                    refine va_get (D := D) (ci := 8) (v := .int (q_Sh_people z_59)) (C := R_Sh) (T := F_Sh) (N := 10) hx hb hg i_Sh hown hK hP 0 rfl rfl 3 (by decide) (hg _ g_329) (fun _ h9 => h9) rfl d_Sh_deal_102 ?_
                    refine lv_icmp_ge (tgt := 112) hx hb d_Sh_deal_105 (by decide) (fun h_8 => ?_) (fun h_8 => ?_)
                    · have hd := ite_t hd h_8
                      refine lv_bipush (v := (-5)) hx hb d_Sh_deal_112 (by decide) ?_
                      obtain ⟨h_19, hd⟩ := ite_s hd
                      refine iastK hx hb hK hP hD hS 12 0 rfl rfl (inb_t h_19) rfl d_Sh_deal_114 (fun H locs hP hD hS => ?_)
                      have hP : va_P D classes (ws_Sh g a (u_Sh_trial z_59 (upd (q_Sh_trial z_59) x1_f59.toNatClampNeg (-5)))) H := hP
                      have hD : va_D A (ws_Sh g a (u_Sh_trial z_59 (upd (q_Sh_trial z_59) x1_f59.toNatClampNeg (-5)))) := hD
                      refine lv_aload_n hx hb d_Sh_deal_115 rfl (lv_at hl 0 rfl) ?_
                      refine va_get (D := D) (ci := 8) (v := .ref (a 11)) (C := R_Sh) (T := F_Sh) (N := 10) hx hb hg i_Sh hown hK hP 0 rfl rfl 7 (by decide) (hg _ g_333) (fun _ h9 => h9) rfl d_Sh_deal_116 ?_
                      refine lv_iload_n hx hb d_Sh_deal_119 rfl (lv_at hl 3 rfl) ?_
                      refine lv_dup2_11 hx hb d_Sh_deal_120 rfl rfl ?_
                      obtain ⟨h_18, hd⟩ := ite_s hd
                      refine ialdK hx hb hK hP 11 0 rfl rfl (inb_t h_18) rfl d_Sh_deal_121 ?_
                      refine lv_aload_n hx hb d_Sh_deal_122 rfl (lv_at hl 0 rfl) ?_
                      refine va_get (D := D) (ci := 8) (v := .ref (a 10)) (C := R_Sh) (T := F_Sh) (N := 10) hx hb hg i_Sh hown hK hP 0 rfl rfl 6 (by decide) (hg _ g_332) (fun _ h9 => h9) rfl d_Sh_deal_123 ?_
                      refine lv_iload_n hx hb d_Sh_deal_126 rfl (lv_at hl 1 rfl) ?_
                      obtain ⟨h_17, hd⟩ := ite_s hd
                      refine ialdK hx hb hK hP 10 0 rfl rfl (inb_t h_17) rfl d_Sh_deal_127 ?_
                      refine lv_isub hx hb d_Sh_deal_128 ?_
                      obtain ⟨h_16, hd⟩ := ite_s hd
                      refine iastK hx hb hK hP hD hS 11 0 rfl rfl (inb_t h_16) rfl d_Sh_deal_129 (fun H locs hP hD hS => ?_)
                      have hP : va_P D classes (ws_Sh g a (u_Sh_room (u_Sh_trial z_59 (upd (q_Sh_trial z_59) x1_f59.toNatClampNeg (-5))) (upd (q_Sh_room (u_Sh_trial z_59 (upd (q_Sh_trial z_59) x1_f59.toNatClampNeg (-5)))) x3_59.toNatClampNeg (((q_Sh_room (u_Sh_trial z_59 (upd (q_Sh_trial z_59) x1_f59.toNatClampNeg (-5)))) x3_59.toNatClampNeg) - ((q_Sh_weight (u_Sh_trial z_59 (upd (q_Sh_trial z_59) x1_f59.toNatClampNeg (-5)))) x1_f59.toNatClampNeg))))) H := hP
                      have hD : va_D A (ws_Sh g a (u_Sh_room (u_Sh_trial z_59 (upd (q_Sh_trial z_59) x1_f59.toNatClampNeg (-5))) (upd (q_Sh_room (u_Sh_trial z_59 (upd (q_Sh_trial z_59) x1_f59.toNatClampNeg (-5)))) x3_59.toNatClampNeg (((q_Sh_room (u_Sh_trial z_59 (upd (q_Sh_trial z_59) x1_f59.toNatClampNeg (-5)))) x3_59.toNatClampNeg) - ((q_Sh_weight (u_Sh_trial z_59 (upd (q_Sh_trial z_59) x1_f59.toNatClampNeg (-5)))) x1_f59.toNatClampNeg))))) := hD
                      refine lv_aload_n hx hb d_Sh_deal_130 rfl (lv_at hl 0 rfl) ?_
                      refine lv_iload_n hx hb d_Sh_deal_131 rfl (lv_at hl 1 rfl) ?_
                      refine lv_iconst (v := 1) hx hb d_Sh_deal_132 (by decide) ?_
                      refine lv_iadd hx hb d_Sh_deal_133 ?_
                      refine lv_iload_n hx hb d_Sh_deal_134 rfl (lv_at hl 2 rfl) ?_
                      refine lv_aload_n hx hb d_Sh_deal_135 rfl (lv_at hl 0 rfl) ?_
                      refine va_get (D := D) (ci := 8) (v := .ref (a 2)) (C := R_Sh) (T := F_Sh) (N := 10) hx hb hg i_Sh hown hK hP 0 rfl rfl 5 (by decide) (hg _ g_331) (fun _ h9 => h9) rfl d_Sh_deal_136 ?_
                      refine lv_iload_n hx hb d_Sh_deal_139 rfl (lv_at hl 1 rfl) ?_
                      obtain ⟨h_9, hd⟩ := ite_s hd
                      refine aldA hx hb hK hP 2 rfl (inb_t h_9) d_Sh_deal_140 ?_
                      refine lv_iload_n hx hb d_Sh_deal_141 rfl (lv_at hl 3 rfl) ?_
                      obtain ⟨h_10, hd⟩ := ite_s hd
                      refine ialdK hx hb hK hP (3 + x1_f59.toNatClampNeg) 0 ((show ∀ k, k < 7 → (ws_Sh g a (u_Sh_room (u_Sh_trial z_59 (upd (q_Sh_trial z_59) x1_f59.toNatClampNeg (-5))) (upd (q_Sh_room (u_Sh_trial z_59 (upd (q_Sh_trial z_59) x1_f59.toNatClampNeg (-5)))) x3_59.toNatClampNeg (((q_Sh_room (u_Sh_trial z_59 (upd (q_Sh_trial z_59) x1_f59.toNatClampNeg (-5)))) x3_59.toNatClampNeg) - ((q_Sh_weight (u_Sh_trial z_59 (upd (q_Sh_trial z_59) x1_f59.toNatClampNeg (-5)))) x1_f59.toNatClampNeg)))))[3 + k]? = some (a (k + 3), .inl (g 0, 5, .inl ((q_Sh_worth (u_Sh_room (u_Sh_trial z_59 (upd (q_Sh_trial z_59) x1_f59.toNatClampNeg (-5))) (upd (q_Sh_room (u_Sh_trial z_59 (upd (q_Sh_trial z_59) x1_f59.toNatClampNeg (-5)))) x3_59.toNatClampNeg (((q_Sh_room (u_Sh_trial z_59 (upd (q_Sh_trial z_59) x1_f59.toNatClampNeg (-5)))) x3_59.toNatClampNeg) - ((q_Sh_weight (u_Sh_trial z_59 (upd (q_Sh_trial z_59) x1_f59.toNatClampNeg (-5)))) x1_f59.toNatClampNeg))))) k))) from fun k hk => match k, hk with | 0, _ => rfl | 1, _ => rfl | 2, _ => rfl | 3, _ => rfl | 4, _ => rfl | 5, _ => rfl | 6, _ => rfl | k + 7, hk => absurd hk (by omega)) _ (vp_lt (inb_t h_9))) rfl (inb_t h_10) rfl d_Sh_deal_142 ?_
                      refine lv_iadd hx hb d_Sh_deal_143 ?_
                      obtain ⟨v_11, e_12, hd⟩ := bind_s hd
                      refine callVV (ws' := ws_Sh g a v_11) (rest := []) (As := [.int (x1_f59 + 1), .int (x2_f59 + ((q_Sh_worth (u_Sh_room (u_Sh_trial z_59 (upd (q_Sh_trial z_59) x1_f59.toNatClampNeg (-5))) (upd (q_Sh_room (u_Sh_trial z_59 (upd (q_Sh_trial z_59) x1_f59.toNatClampNeg (-5)))) x3_59.toNatClampNeg (((q_Sh_room (u_Sh_trial z_59 (upd (q_Sh_trial z_59) x1_f59.toNatClampNeg (-5)))) x3_59.toNatClampNeg) - ((q_Sh_weight (u_Sh_trial z_59 (upd (q_Sh_trial z_59) x1_f59.toNatClampNeg (-5)))) x1_f59.toNatClampNeg))))) x1_f59.toNatClampNeg x3_59.toNatClampNeg))]) hx hb hml hown hg hK hP hD hS hA hCs hl.1 (ih l D g a (x1_f59 + 1) (x2_f59 + ((q_Sh_worth (u_Sh_room (u_Sh_trial z_59 (upd (q_Sh_trial z_59) x1_f59.toNatClampNeg (-5))) (upd (q_Sh_room (u_Sh_trial z_59 (upd (q_Sh_trial z_59) x1_f59.toNatClampNeg (-5)))) x3_59.toNatClampNeg (((q_Sh_room (u_Sh_trial z_59 (upd (q_Sh_trial z_59) x1_f59.toNatClampNeg (-5)))) x3_59.toNatClampNeg) - ((q_Sh_weight (u_Sh_trial z_59 (upd (q_Sh_trial z_59) x1_f59.toNatClampNeg (-5)))) x1_f59.toNatClampNeg))))) x1_f59.toNatClampNeg x3_59.toNatClampNeg)) (u_Sh_room (u_Sh_trial z_59 (upd (q_Sh_trial z_59) x1_f59.toNatClampNeg (-5))) (upd (q_Sh_room (u_Sh_trial z_59 (upd (q_Sh_trial z_59) x1_f59.toNatClampNeg (-5)))) x3_59.toNatClampNeg (((q_Sh_room (u_Sh_trial z_59 (upd (q_Sh_trial z_59) x1_f59.toNatClampNeg (-5)))) x3_59.toNatClampNeg) - ((q_Sh_weight (u_Sh_trial z_59 (upd (q_Sh_trial z_59) x1_f59.toNatClampNeg (-5)))) x1_f59.toNatClampNeg)))) _ e_12) o_Sh_deal g_797 (ci := 8) (q0 := 0) rfl rfl (List.range' 0 14) (segC1 rfl rfl) (by decide) rfl (segP1 rfl rfl) rfl rfl (Nat.le_of_ble_eq_true rfl) ⟨rfl, rfl, by show _ ≤ _; (try dsimp only); omega, by show _ ≤ _; (try dsimp only); omega⟩ d_Sh_deal_144 (fun H locs hP hD hS => ?_)
                      refine lv_aload_n hx hb d_Sh_deal_147 rfl (lv_at hl 0 rfl) ?_
                      refine va_get (D := D) (ci := 8) (v := .ref (a 11)) (C := R_Sh) (T := F_Sh) (N := 10) hx hb hg i_Sh hown hK hP 0 rfl rfl 7 (by decide) (hg _ g_333) (fun _ h9 => h9) rfl d_Sh_deal_148 ?_
                      refine lv_iload_n hx hb d_Sh_deal_151 rfl (lv_at hl 3 rfl) ?_
                      refine lv_dup2_11 hx hb d_Sh_deal_152 rfl rfl ?_
                      obtain ⟨h_15, hd⟩ := ite_s hd
                      refine ialdK hx hb hK hP 11 0 rfl rfl (inb_t h_15) rfl d_Sh_deal_153 ?_
                      refine lv_aload_n hx hb d_Sh_deal_154 rfl (lv_at hl 0 rfl) ?_
                      refine va_get (D := D) (ci := 8) (v := .ref (a 10)) (C := R_Sh) (T := F_Sh) (N := 10) hx hb hg i_Sh hown hK hP 0 rfl rfl 6 (by decide) (hg _ g_332) (fun _ h9 => h9) rfl d_Sh_deal_155 ?_
                      refine lv_iload_n hx hb d_Sh_deal_158 rfl (lv_at hl 1 rfl) ?_
                      obtain ⟨h_14, hd⟩ := ite_s hd
                      refine ialdK hx hb hK hP 10 0 rfl rfl (inb_t h_14) rfl d_Sh_deal_159 ?_
                      refine lv_iadd hx hb d_Sh_deal_160 ?_
                      obtain ⟨h_13, hd⟩ := ite_s hd
                      refine iastK hx hb hK hP hD hS 11 0 rfl rfl (inb_t h_13) rfl d_Sh_deal_161 (fun H locs hP hD hS => ?_)
                      have hP : va_P D classes (ws_Sh g a (u_Sh_room v_11 (upd (q_Sh_room v_11) x3_59.toNatClampNeg (((q_Sh_room v_11) x3_59.toNatClampNeg) + ((q_Sh_weight v_11) x1_f59.toNatClampNeg))))) H := hP
                      have hD : va_D A (ws_Sh g a (u_Sh_room v_11 (upd (q_Sh_room v_11) x3_59.toNatClampNeg (((q_Sh_room v_11) x3_59.toNatClampNeg) + ((q_Sh_weight v_11) x1_f59.toNatClampNeg))))) := hD
                      refine lv_iinc (v := x3_59 + 1) (lv' := [(3, .int (x3_59 + 1)), (0, .ref (a 0)), (1, .int x1_f59), (2, .int x2_f59)]) hx hb d_Sh_deal_162 hl (k := 3) rfl (by rfl) (by decide) rfl (fun ls hl => ?_)
                      refine lv_goto (tgt := 59) hx hb d_Sh_deal_165 (by decide) ?_
                      exact ih59 (x3_59 + 1) (u_Sh_room v_11 (upd (q_Sh_room v_11) x3_59.toNatClampNeg (((q_Sh_room v_11) x3_59.toNatClampNeg) + ((q_Sh_weight v_11) x1_f59.toNatClampNeg)))) _ _ _ hP hD hS (lv_sub hl [1, 2, 3, 0] rfl) hd
                    · have hd := ite_f hd h_8
                      refine lv_iload_n hx hb d_Sh_deal_108 rfl (lv_at hl 3 rfl) ?_
                      refine lv_goto (tgt := 114) hx hb d_Sh_deal_109 (by decide) ?_
                      obtain ⟨h_30, hd⟩ := ite_s hd
                      refine iastK hx hb hK hP hD hS 12 0 rfl rfl (inb_t h_30) rfl d_Sh_deal_114 (fun H locs hP hD hS => ?_)
                      have hP : va_P D classes (ws_Sh g a (u_Sh_trial z_59 (upd (q_Sh_trial z_59) x1_f59.toNatClampNeg x3_59))) H := hP
                      have hD : va_D A (ws_Sh g a (u_Sh_trial z_59 (upd (q_Sh_trial z_59) x1_f59.toNatClampNeg x3_59))) := hD
                      refine lv_aload_n hx hb d_Sh_deal_115 rfl (lv_at hl 0 rfl) ?_
                      refine va_get (D := D) (ci := 8) (v := .ref (a 11)) (C := R_Sh) (T := F_Sh) (N := 10) hx hb hg i_Sh hown hK hP 0 rfl rfl 7 (by decide) (hg _ g_333) (fun _ h9 => h9) rfl d_Sh_deal_116 ?_
                      refine lv_iload_n hx hb d_Sh_deal_119 rfl (lv_at hl 3 rfl) ?_
                      refine lv_dup2_11 hx hb d_Sh_deal_120 rfl rfl ?_
                      obtain ⟨h_29, hd⟩ := ite_s hd
                      refine ialdK hx hb hK hP 11 0 rfl rfl (inb_t h_29) rfl d_Sh_deal_121 ?_
                      refine lv_aload_n hx hb d_Sh_deal_122 rfl (lv_at hl 0 rfl) ?_
                      refine va_get (D := D) (ci := 8) (v := .ref (a 10)) (C := R_Sh) (T := F_Sh) (N := 10) hx hb hg i_Sh hown hK hP 0 rfl rfl 6 (by decide) (hg _ g_332) (fun _ h9 => h9) rfl d_Sh_deal_123 ?_
                      refine lv_iload_n hx hb d_Sh_deal_126 rfl (lv_at hl 1 rfl) ?_
                      obtain ⟨h_28, hd⟩ := ite_s hd
                      refine ialdK hx hb hK hP 10 0 rfl rfl (inb_t h_28) rfl d_Sh_deal_127 ?_
                      refine lv_isub hx hb d_Sh_deal_128 ?_
                      obtain ⟨h_27, hd⟩ := ite_s hd
                      refine iastK hx hb hK hP hD hS 11 0 rfl rfl (inb_t h_27) rfl d_Sh_deal_129 (fun H locs hP hD hS => ?_)
                      have hP : va_P D classes (ws_Sh g a (u_Sh_room (u_Sh_trial z_59 (upd (q_Sh_trial z_59) x1_f59.toNatClampNeg x3_59)) (upd (q_Sh_room (u_Sh_trial z_59 (upd (q_Sh_trial z_59) x1_f59.toNatClampNeg x3_59))) x3_59.toNatClampNeg (((q_Sh_room (u_Sh_trial z_59 (upd (q_Sh_trial z_59) x1_f59.toNatClampNeg x3_59))) x3_59.toNatClampNeg) - ((q_Sh_weight (u_Sh_trial z_59 (upd (q_Sh_trial z_59) x1_f59.toNatClampNeg x3_59))) x1_f59.toNatClampNeg))))) H := hP
                      have hD : va_D A (ws_Sh g a (u_Sh_room (u_Sh_trial z_59 (upd (q_Sh_trial z_59) x1_f59.toNatClampNeg x3_59)) (upd (q_Sh_room (u_Sh_trial z_59 (upd (q_Sh_trial z_59) x1_f59.toNatClampNeg x3_59))) x3_59.toNatClampNeg (((q_Sh_room (u_Sh_trial z_59 (upd (q_Sh_trial z_59) x1_f59.toNatClampNeg x3_59))) x3_59.toNatClampNeg) - ((q_Sh_weight (u_Sh_trial z_59 (upd (q_Sh_trial z_59) x1_f59.toNatClampNeg x3_59))) x1_f59.toNatClampNeg))))) := hD
                      refine lv_aload_n hx hb d_Sh_deal_130 rfl (lv_at hl 0 rfl) ?_
                      refine lv_iload_n hx hb d_Sh_deal_131 rfl (lv_at hl 1 rfl) ?_
                      refine lv_iconst (v := 1) hx hb d_Sh_deal_132 (by decide) ?_
                      refine lv_iadd hx hb d_Sh_deal_133 ?_
                      refine lv_iload_n hx hb d_Sh_deal_134 rfl (lv_at hl 2 rfl) ?_
                      refine lv_aload_n hx hb d_Sh_deal_135 rfl (lv_at hl 0 rfl) ?_
                      refine va_get (D := D) (ci := 8) (v := .ref (a 2)) (C := R_Sh) (T := F_Sh) (N := 10) hx hb hg i_Sh hown hK hP 0 rfl rfl 5 (by decide) (hg _ g_331) (fun _ h9 => h9) rfl d_Sh_deal_136 ?_
                      refine lv_iload_n hx hb d_Sh_deal_139 rfl (lv_at hl 1 rfl) ?_
                      obtain ⟨h_20, hd⟩ := ite_s hd
                      refine aldA hx hb hK hP 2 rfl (inb_t h_20) d_Sh_deal_140 ?_
                      refine lv_iload_n hx hb d_Sh_deal_141 rfl (lv_at hl 3 rfl) ?_
                      obtain ⟨h_21, hd⟩ := ite_s hd
                      refine ialdK hx hb hK hP (3 + x1_f59.toNatClampNeg) 0 ((show ∀ k, k < 7 → (ws_Sh g a (u_Sh_room (u_Sh_trial z_59 (upd (q_Sh_trial z_59) x1_f59.toNatClampNeg x3_59)) (upd (q_Sh_room (u_Sh_trial z_59 (upd (q_Sh_trial z_59) x1_f59.toNatClampNeg x3_59))) x3_59.toNatClampNeg (((q_Sh_room (u_Sh_trial z_59 (upd (q_Sh_trial z_59) x1_f59.toNatClampNeg x3_59))) x3_59.toNatClampNeg) - ((q_Sh_weight (u_Sh_trial z_59 (upd (q_Sh_trial z_59) x1_f59.toNatClampNeg x3_59))) x1_f59.toNatClampNeg)))))[3 + k]? = some (a (k + 3), .inl (g 0, 5, .inl ((q_Sh_worth (u_Sh_room (u_Sh_trial z_59 (upd (q_Sh_trial z_59) x1_f59.toNatClampNeg x3_59)) (upd (q_Sh_room (u_Sh_trial z_59 (upd (q_Sh_trial z_59) x1_f59.toNatClampNeg x3_59))) x3_59.toNatClampNeg (((q_Sh_room (u_Sh_trial z_59 (upd (q_Sh_trial z_59) x1_f59.toNatClampNeg x3_59))) x3_59.toNatClampNeg) - ((q_Sh_weight (u_Sh_trial z_59 (upd (q_Sh_trial z_59) x1_f59.toNatClampNeg x3_59))) x1_f59.toNatClampNeg))))) k))) from fun k hk => match k, hk with | 0, _ => rfl | 1, _ => rfl | 2, _ => rfl | 3, _ => rfl | 4, _ => rfl | 5, _ => rfl | 6, _ => rfl | k + 7, hk => absurd hk (by omega)) _ (vp_lt (inb_t h_20))) rfl (inb_t h_21) rfl d_Sh_deal_142 ?_
                      refine lv_iadd hx hb d_Sh_deal_143 ?_
                      obtain ⟨v_22, e_23, hd⟩ := bind_s hd
                      refine callVV (ws' := ws_Sh g a v_22) (rest := []) (As := [.int (x1_f59 + 1), .int (x2_f59 + ((q_Sh_worth (u_Sh_room (u_Sh_trial z_59 (upd (q_Sh_trial z_59) x1_f59.toNatClampNeg x3_59)) (upd (q_Sh_room (u_Sh_trial z_59 (upd (q_Sh_trial z_59) x1_f59.toNatClampNeg x3_59))) x3_59.toNatClampNeg (((q_Sh_room (u_Sh_trial z_59 (upd (q_Sh_trial z_59) x1_f59.toNatClampNeg x3_59))) x3_59.toNatClampNeg) - ((q_Sh_weight (u_Sh_trial z_59 (upd (q_Sh_trial z_59) x1_f59.toNatClampNeg x3_59))) x1_f59.toNatClampNeg))))) x1_f59.toNatClampNeg x3_59.toNatClampNeg))]) hx hb hml hown hg hK hP hD hS hA hCs hl.1 (ih l D g a (x1_f59 + 1) (x2_f59 + ((q_Sh_worth (u_Sh_room (u_Sh_trial z_59 (upd (q_Sh_trial z_59) x1_f59.toNatClampNeg x3_59)) (upd (q_Sh_room (u_Sh_trial z_59 (upd (q_Sh_trial z_59) x1_f59.toNatClampNeg x3_59))) x3_59.toNatClampNeg (((q_Sh_room (u_Sh_trial z_59 (upd (q_Sh_trial z_59) x1_f59.toNatClampNeg x3_59))) x3_59.toNatClampNeg) - ((q_Sh_weight (u_Sh_trial z_59 (upd (q_Sh_trial z_59) x1_f59.toNatClampNeg x3_59))) x1_f59.toNatClampNeg))))) x1_f59.toNatClampNeg x3_59.toNatClampNeg)) (u_Sh_room (u_Sh_trial z_59 (upd (q_Sh_trial z_59) x1_f59.toNatClampNeg x3_59)) (upd (q_Sh_room (u_Sh_trial z_59 (upd (q_Sh_trial z_59) x1_f59.toNatClampNeg x3_59))) x3_59.toNatClampNeg (((q_Sh_room (u_Sh_trial z_59 (upd (q_Sh_trial z_59) x1_f59.toNatClampNeg x3_59))) x3_59.toNatClampNeg) - ((q_Sh_weight (u_Sh_trial z_59 (upd (q_Sh_trial z_59) x1_f59.toNatClampNeg x3_59))) x1_f59.toNatClampNeg)))) _ e_23) o_Sh_deal g_797 (ci := 8) (q0 := 0) rfl rfl (List.range' 0 14) (segC1 rfl rfl) (by decide) rfl (segP1 rfl rfl) rfl rfl (Nat.le_of_ble_eq_true rfl) ⟨rfl, rfl, by show _ ≤ _; (try dsimp only); omega, by show _ ≤ _; (try dsimp only); omega⟩ d_Sh_deal_144 (fun H locs hP hD hS => ?_)
                      refine lv_aload_n hx hb d_Sh_deal_147 rfl (lv_at hl 0 rfl) ?_
                      refine va_get (D := D) (ci := 8) (v := .ref (a 11)) (C := R_Sh) (T := F_Sh) (N := 10) hx hb hg i_Sh hown hK hP 0 rfl rfl 7 (by decide) (hg _ g_333) (fun _ h9 => h9) rfl d_Sh_deal_148 ?_
                      refine lv_iload_n hx hb d_Sh_deal_151 rfl (lv_at hl 3 rfl) ?_
                      refine lv_dup2_11 hx hb d_Sh_deal_152 rfl rfl ?_
                      obtain ⟨h_26, hd⟩ := ite_s hd
                      refine ialdK hx hb hK hP 11 0 rfl rfl (inb_t h_26) rfl d_Sh_deal_153 ?_
                      refine lv_aload_n hx hb d_Sh_deal_154 rfl (lv_at hl 0 rfl) ?_
                      refine va_get (D := D) (ci := 8) (v := .ref (a 10)) (C := R_Sh) (T := F_Sh) (N := 10) hx hb hg i_Sh hown hK hP 0 rfl rfl 6 (by decide) (hg _ g_332) (fun _ h9 => h9) rfl d_Sh_deal_155 ?_
                      refine lv_iload_n hx hb d_Sh_deal_158 rfl (lv_at hl 1 rfl) ?_
                      obtain ⟨h_25, hd⟩ := ite_s hd
                      refine ialdK hx hb hK hP 10 0 rfl rfl (inb_t h_25) rfl d_Sh_deal_159 ?_
                      refine lv_iadd hx hb d_Sh_deal_160 ?_
                      obtain ⟨h_24, hd⟩ := ite_s hd
                      refine iastK hx hb hK hP hD hS 11 0 rfl rfl (inb_t h_24) rfl d_Sh_deal_161 (fun H locs hP hD hS => ?_)
                      have hP : va_P D classes (ws_Sh g a (u_Sh_room v_22 (upd (q_Sh_room v_22) x3_59.toNatClampNeg (((q_Sh_room v_22) x3_59.toNatClampNeg) + ((q_Sh_weight v_22) x1_f59.toNatClampNeg))))) H := hP
                      have hD : va_D A (ws_Sh g a (u_Sh_room v_22 (upd (q_Sh_room v_22) x3_59.toNatClampNeg (((q_Sh_room v_22) x3_59.toNatClampNeg) + ((q_Sh_weight v_22) x1_f59.toNatClampNeg))))) := hD
                      refine lv_iinc (v := x3_59 + 1) (lv' := [(3, .int (x3_59 + 1)), (0, .ref (a 0)), (1, .int x1_f59), (2, .int x2_f59)]) hx hb d_Sh_deal_162 hl (k := 3) rfl (by rfl) (by decide) rfl (fun ls hl => ?_)
                      refine lv_goto (tgt := 59) hx hb d_Sh_deal_165 (by decide) ?_
                      exact ih59 (x3_59 + 1) (u_Sh_room v_22 (upd (q_Sh_room v_22) x3_59.toNatClampNeg (((q_Sh_room v_22) x3_59.toNatClampNeg) + ((q_Sh_weight v_22) x1_f59.toNatClampNeg)))) _ _ _ hP hD hS (lv_sub hl [1, 2, 3, 0] rfl) hd
          exact lp59 x1 x2 1000 0 z _ _ _ hP hD hS (lv_sub hl [1, 2, 3, 0] rfl) hd
        · have hd := ite_f hd h_2
          refine lv_aload_n hx hb d_Sh_deal_31 rfl (lv_at hl 0 rfl) ?_
          refine lv_iconst (v := 1) hx hb d_Sh_deal_32 (by decide) ?_
          refine va_put (D := D) (ci := 8) (v := .int 1) (ty := .boolean) (C := R_Sh) (T := F_Sh) (N := 10) hx hb hg i_Sh t_Sh t_Sh_ok n_Sh hown hK hP hD hS 0 rfl rfl 0 (by decide) (hg _ g_323) (fun _ h9 => h9) rfl (by decide +kernel) (by decide +kernel) rfl (Nat.le_of_ble_eq_true rfl) d_Sh_deal_33 (fun H locs hP hD hS => ?_)
          have hP : va_P D classes (ws_Sh g a (u_Sh_found z 1)) H := hP
          have hD : va_D A (ws_Sh g a (u_Sh_found z 1)) := hD
          refine lv_aload_n hx hb d_Sh_deal_36 rfl (lv_at hl 0 rfl) ?_
          refine lv_iload_n hx hb d_Sh_deal_37 rfl (lv_at hl 2 rfl) ?_
          refine va_put (D := D) (ci := 8) (v := .int x2) (ty := .int) (C := R_Sh) (T := F_Sh) (N := 10) hx hb hg i_Sh t_Sh t_Sh_ok n_Sh hown hK hP hD hS 0 rfl rfl 1 (by decide) (hg _ g_325) (fun _ h9 => h9) rfl (by decide +kernel) rfl rfl (Nat.le_of_ble_eq_true rfl) d_Sh_deal_38 (fun H locs hP hD hS => ?_)
          have hP : va_P D classes (ws_Sh g a (u_Sh_sum (u_Sh_found z 1) x2)) H := hP
          have hD : va_D A (ws_Sh g a (u_Sh_sum (u_Sh_found z 1) x2)) := hD
          refine lv_aload_n hx hb d_Sh_deal_41 rfl (lv_at hl 0 rfl) ?_
          refine va_get (D := D) (ci := 8) (v := .ref (a 12)) (C := R_Sh) (T := F_Sh) (N := 10) hx hb hg i_Sh hown hK hP 0 rfl rfl 8 (by decide) (hg _ g_334) (fun _ h9 => h9) rfl d_Sh_deal_42 ?_
          refine lv_iconst (v := 0) hx hb d_Sh_deal_45 (by decide) ?_
          refine lv_aload_n hx hb d_Sh_deal_46 rfl (lv_at hl 0 rfl) ?_
          refine va_get (D := D) (ci := 8) (v := .ref (a 1)) (C := R_Sh) (T := F_Sh) (N := 10) hx hb hg i_Sh hown hK hP 0 rfl rfl 2 (by decide) (hg _ g_327) (fun _ h9 => h9) rfl d_Sh_deal_47 ?_
          refine lv_iconst (v := 0) hx hb d_Sh_deal_50 (by decide) ?_
          refine lv_bipush (v := 7) hx hb d_Sh_deal_51 (by decide) ?_
          refine copyK (N := 7) hx hb (hml.trans hl.1.symm) hown (hg _ g_801) hg hK hP hD hS 12 1 rfl rfl (by decide +kernel) (by decide +kernel) (by decide) (by decide) (by show _ ≤ _; (try dsimp only); omega) (Nat.le_trans (m := 71) (Nat.le_of_ble_eq_true (by decide +kernel)) (by show _ ≤ _; (try dsimp only); omega)) d_Sh_deal_53 (fun H locs hP hD hS => ?_)
          have hP : va_P D classes (ws_Sh g a (u_Sh_owner (u_Sh_sum (u_Sh_found z 1) x2) (va_cpy (q_Sh_trial (u_Sh_sum (u_Sh_found z 1) x2)) (q_Sh_owner (u_Sh_sum (u_Sh_found z 1) x2)) 0 0 7))) H := hP
          have hD : va_D A (ws_Sh g a (u_Sh_owner (u_Sh_sum (u_Sh_found z 1) x2) (va_cpy (q_Sh_trial (u_Sh_sum (u_Sh_found z 1) x2)) (q_Sh_owner (u_Sh_sum (u_Sh_found z 1) x2)) 0 0 7))) := hD
          obtain rfl := Option.some.inj hd
          exact retV hx hb hr hlk hK hP hD hS d_Sh_deal_56
      · have hd := ite_f hd h_1
        refine lv_iload_n hx hb d_Sh_deal_7 rfl (lv_at hl 2 rfl) ?_
        refine lv_aload_n hx hb d_Sh_deal_8 rfl (lv_at hl 0 rfl) ?_
        refine va_get (D := D) (ci := 8) (v := .ref (a 13)) (C := R_Sh) (T := F_Sh) (N := 10) hx hb hg i_Sh hown hK hP 0 rfl rfl 9 (by decide) (hg _ g_335) (fun _ h9 => h9) rfl d_Sh_deal_9 ?_
        refine lv_iload_n hx hb d_Sh_deal_12 rfl (lv_at hl 1 rfl) ?_
        obtain ⟨h_65, hd⟩ := ite_s hd
        refine ialdK hx hb hK hP 13 0 rfl rfl (inb_t h_65) rfl d_Sh_deal_13 ?_
        refine lv_iadd hx hb d_Sh_deal_14 ?_
        refine lv_aload_n hx hb d_Sh_deal_15 rfl (lv_at hl 0 rfl) ?_
        refine va_get (D := D) (ci := 8) (v := .int (q_Sh_sum z)) (C := R_Sh) (T := F_Sh) (N := 10) hx hb hg i_Sh hown hK hP 0 rfl rfl 1 (by decide) (hg _ g_325) (fun _ h9 => h9) rfl d_Sh_deal_16 ?_
        refine lv_icmp_gt (tgt := 23) hx hb d_Sh_deal_19 (by decide) (fun h_33 => ?_) (fun h_33 => ?_)
        · have hd := ite_t hd h_33
          refine lv_iload_n hx hb d_Sh_deal_23 rfl (lv_at hl 1 rfl) ?_
          refine lv_aload_n hx hb d_Sh_deal_24 rfl (lv_at hl 0 rfl) ?_
          refine va_get (D := D) (ci := 8) (v := .int (q_Sh_things z)) (C := R_Sh) (T := F_Sh) (N := 10) hx hb hg i_Sh hown hK hP 0 rfl rfl 4 (by decide) (hg _ g_330) (fun _ h9 => h9) rfl d_Sh_deal_25 ?_
          refine lv_icmp_lt (tgt := 57) hx hb d_Sh_deal_28 (by decide) (fun h_34 => ?_) (fun h_34 => ?_)
          · have hd := ite_t hd h_34
            refine lv_iconst (v := 0) hx hb d_Sh_deal_57 (by decide) ?_
            refine lv_istore_n (lv' := [(3, .int 0), (0, .ref (a 0)), (1, .int x1), (2, .int x2)]) hx hb d_Sh_deal_58 rfl hl (by decide) rfl (fun ls hl => ?_)
            have lp59 : ∀ (x1_f59 : Int32) (x2_f59 : Int32) (n : Nat) (x3_59 : Int32) (z_59 : T_Sh) (H : Heap) (locs : List Loc) (ls : Array Slot), va_P D classes (ws_Sh g a z_59) H → va_D A (ws_Sh g a z_59) → va_S A s.heap H locs → lv_has ls 4 [(0, .ref (a 0)), (1, .int x1_f59), (2, .int x2_f59), (3, .int x3_59)] → d_Sh_deal_L59 rc x1_f59 x2_f59 n x3_59 z_59 = some v → GV p l e s m ({ frames := 2 + 2 * (nr + 1), cells := 0, slots := 0, locals := 71 + 60 * (nr + 1) } : Room) ([.ref (a 0), .int x1, .int x2] : List Value).toArray below meth c A D g (ws_Sh g a v) H locs (F0 m 59 ls []) := by
              intro x1_f59 x2_f59 n
              induction n with
              | zero =>
                intro  x3_59 z_59 H locs ls hP hD hS hl hd
                have hd : none = some v := hd
                cases hd
              | succ n ih59 =>
                intro  x3_59 z_59 H locs ls hP hD hS hl hd
                have hd : B_Sh_deal_L59 rc x1_f59 x2_f59 (d_Sh_deal_L59 rc x1_f59 x2_f59 n) x3_59 z_59 = some v := hd
                generalize d_Sh_deal_L59 rc x1_f59 x2_f59 n = self59 at ih59 hd
                unfold B_Sh_deal_L59 at hd
                refine lv_iload_n hx hb d_Sh_deal_59 rfl (lv_at hl 3 rfl) ?_
                refine lv_aload_n hx hb d_Sh_deal_60 rfl (lv_at hl 0 rfl) ?_
                refine va_get (D := D) (ci := 8) (v := .int (q_Sh_people z_59)) (C := R_Sh) (T := F_Sh) (N := 10) hx hb hg i_Sh hown hK hP 0 rfl rfl 3 (by decide) (hg _ g_329) (fun _ h9 => h9) rfl d_Sh_deal_61 ?_
                refine lv_icmp_gt (tgt := 168) hx hb d_Sh_deal_64 (by decide) (fun h_35 => ?_) (fun h_35 => ?_)
                · have hd := ite_t hd h_35
                  obtain rfl := Option.some.inj hd
                  exact retV hx hb hr hlk hK hP hD hS d_Sh_deal_168
                · have hd := ite_f hd h_35
                  refine lv_aload_n hx hb d_Sh_deal_67 rfl (lv_at hl 0 rfl) ?_
                  refine va_get (D := D) (ci := 8) (v := .ref (a 2)) (C := R_Sh) (T := F_Sh) (N := 10) hx hb hg i_Sh hown hK hP 0 rfl rfl 5 (by decide) (hg _ g_331) (fun _ h9 => h9) rfl d_Sh_deal_68 ?_
                  refine lv_iload_n hx hb d_Sh_deal_71 rfl (lv_at hl 1 rfl) ?_
                  obtain ⟨h_36, hd⟩ := ite_s hd
                  refine aldA hx hb hK hP 2 rfl (inb_t h_36) d_Sh_deal_72 ?_
                  refine lv_iload_n hx hb d_Sh_deal_73 rfl (lv_at hl 3 rfl) ?_
                  obtain ⟨h_37, hd⟩ := ite_s hd
                  refine ialdK hx hb hK hP (3 + x1_f59.toNatClampNeg) 0 ((show ∀ k, k < 7 → (ws_Sh g a z_59)[3 + k]? = some (a (k + 3), .inl (g 0, 5, .inl ((q_Sh_worth z_59) k))) from fun k hk => match k, hk with | 0, _ => rfl | 1, _ => rfl | 2, _ => rfl | 3, _ => rfl | 4, _ => rfl | 5, _ => rfl | 6, _ => rfl | k + 7, hk => absurd hk (by omega)) _ (vp_lt (inb_t h_36))) rfl (inb_t h_37) rfl d_Sh_deal_74 ?_
                  refine lv_ldc (v := (-1000000)) hx hb hown (hg _ g_802) d_Sh_deal_75 ?_
                  refine lv_icmp_eq (tgt := 162) hx hb d_Sh_deal_77 (by decide) (fun h_38 => ?_) (fun h_38 => ?_)
                  · have hd := ite_t hd h_38
                    refine lv_iinc (v := x3_59 + 1) (lv' := [(3, .int (x3_59 + 1)), (0, .ref (a 0)), (1, .int x1_f59), (2, .int x2_f59)]) hx hb d_Sh_deal_162 hl (k := 3) rfl (by rfl) (by decide) rfl (fun ls hl => ?_)
                    refine lv_goto (tgt := 59) hx hb d_Sh_deal_165 (by decide) ?_
                    exact ih59 (x3_59 + 1) z_59 _ _ _ hP hD hS (lv_sub hl [1, 2, 3, 0] rfl) hd
                  · have hd := ite_f hd h_38
                    refine lv_aload_n hx hb d_Sh_deal_80 rfl (lv_at hl 0 rfl) ?_
                    refine va_get (D := D) (ci := 8) (v := .ref (a 10)) (C := R_Sh) (T := F_Sh) (N := 10) hx hb hg i_Sh hown hK hP 0 rfl rfl 6 (by decide) (hg _ g_332) (fun _ h9 => h9) rfl d_Sh_deal_81 ?_
                    refine lv_iload_n hx hb d_Sh_deal_84 rfl (lv_at hl 1 rfl) ?_
                    obtain ⟨h_64, hd⟩ := ite_s hd
                    refine ialdK hx hb hK hP 10 0 rfl rfl (inb_t h_64) rfl d_Sh_deal_85 ?_
                    refine lv_aload_n hx hb d_Sh_deal_86 rfl (lv_at hl 0 rfl) ?_
                    refine va_get (D := D) (ci := 8) (v := .ref (a 11)) (C := R_Sh) (T := F_Sh) (N := 10) hx hb hg i_Sh hown hK hP 0 rfl rfl 7 (by decide) (hg _ g_333) (fun _ h9 => h9) rfl d_Sh_deal_87 ?_
                    refine lv_iload_n hx hb d_Sh_deal_90 rfl (lv_at hl 3 rfl) ?_
                    obtain ⟨h_63, hd⟩ := ite_s hd
                    refine ialdK hx hb hK hP 11 0 rfl rfl (inb_t h_63) rfl d_Sh_deal_91 ?_
                    refine lv_icmp_gt (tgt := 162) hx hb d_Sh_deal_92 (by decide) (fun h_39 => ?_) (fun h_39 => ?_)
                    · have hd := ite_t hd h_39
                      refine lv_iinc (v := x3_59 + 1) (lv' := [(3, .int (x3_59 + 1)), (0, .ref (a 0)), (1, .int x1_f59), (2, .int x2_f59)]) hx hb d_Sh_deal_162 hl (k := 3) rfl (by rfl) (by decide) rfl (fun ls hl => ?_)
                      refine lv_goto (tgt := 59) hx hb d_Sh_deal_165 (by decide) ?_
                      exact ih59 (x3_59 + 1) z_59 _ _ _ hP hD hS (lv_sub hl [1, 2, 3, 0] rfl) hd
                    · have hd := ite_f hd h_39
                      refine lv_aload_n hx hb d_Sh_deal_95 rfl (lv_at hl 0 rfl) ?_
                      refine va_get (D := D) (ci := 8) (v := .ref (a 12)) (C := R_Sh) (T := F_Sh) (N := 10) hx hb hg i_Sh hown hK hP 0 rfl rfl 8 (by decide) (hg _ g_334) (fun _ h9 => h9) rfl d_Sh_deal_96 ?_
                      refine lv_iload_n hx hb d_Sh_deal_99 rfl (lv_at hl 1 rfl) ?_
                      refine lv_iload_n hx hb d_Sh_deal_100 rfl (lv_at hl 3 rfl) ?_
                      refine lv_aload_n hx hb d_Sh_deal_101 rfl (lv_at hl 0 rfl) ?_
                      refine va_get (D := D) (ci := 8) (v := .int (q_Sh_people z_59)) (C := R_Sh) (T := F_Sh) (N := 10) hx hb hg i_Sh hown hK hP 0 rfl rfl 3 (by decide) (hg _ g_329) (fun _ h9 => h9) rfl d_Sh_deal_102 ?_
                      refine lv_icmp_ge (tgt := 112) hx hb d_Sh_deal_105 (by decide) (fun h_40 => ?_) (fun h_40 => ?_)
                      · have hd := ite_t hd h_40
                        refine lv_bipush (v := (-5)) hx hb d_Sh_deal_112 (by decide) ?_
                        obtain ⟨h_51, hd⟩ := ite_s hd
                        refine iastK hx hb hK hP hD hS 12 0 rfl rfl (inb_t h_51) rfl d_Sh_deal_114 (fun H locs hP hD hS => ?_)
                        have hP : va_P D classes (ws_Sh g a (u_Sh_trial z_59 (upd (q_Sh_trial z_59) x1_f59.toNatClampNeg (-5)))) H := hP
                        have hD : va_D A (ws_Sh g a (u_Sh_trial z_59 (upd (q_Sh_trial z_59) x1_f59.toNatClampNeg (-5)))) := hD
                        refine lv_aload_n hx hb d_Sh_deal_115 rfl (lv_at hl 0 rfl) ?_
                        refine va_get (D := D) (ci := 8) (v := .ref (a 11)) (C := R_Sh) (T := F_Sh) (N := 10) hx hb hg i_Sh hown hK hP 0 rfl rfl 7 (by decide) (hg _ g_333) (fun _ h9 => h9) rfl d_Sh_deal_116 ?_
                        refine lv_iload_n hx hb d_Sh_deal_119 rfl (lv_at hl 3 rfl) ?_
                        refine lv_dup2_11 hx hb d_Sh_deal_120 rfl rfl ?_
                        obtain ⟨h_50, hd⟩ := ite_s hd
                        refine ialdK hx hb hK hP 11 0 rfl rfl (inb_t h_50) rfl d_Sh_deal_121 ?_
                        refine lv_aload_n hx hb d_Sh_deal_122 rfl (lv_at hl 0 rfl) ?_
                        refine va_get (D := D) (ci := 8) (v := .ref (a 10)) (C := R_Sh) (T := F_Sh) (N := 10) hx hb hg i_Sh hown hK hP 0 rfl rfl 6 (by decide) (hg _ g_332) (fun _ h9 => h9) rfl d_Sh_deal_123 ?_
                        refine lv_iload_n hx hb d_Sh_deal_126 rfl (lv_at hl 1 rfl) ?_
                        obtain ⟨h_49, hd⟩ := ite_s hd
                        refine ialdK hx hb hK hP 10 0 rfl rfl (inb_t h_49) rfl d_Sh_deal_127 ?_
                        refine lv_isub hx hb d_Sh_deal_128 ?_
                        obtain ⟨h_48, hd⟩ := ite_s hd
                        refine iastK hx hb hK hP hD hS 11 0 rfl rfl (inb_t h_48) rfl d_Sh_deal_129 (fun H locs hP hD hS => ?_)
                        have hP : va_P D classes (ws_Sh g a (u_Sh_room (u_Sh_trial z_59 (upd (q_Sh_trial z_59) x1_f59.toNatClampNeg (-5))) (upd (q_Sh_room (u_Sh_trial z_59 (upd (q_Sh_trial z_59) x1_f59.toNatClampNeg (-5)))) x3_59.toNatClampNeg (((q_Sh_room (u_Sh_trial z_59 (upd (q_Sh_trial z_59) x1_f59.toNatClampNeg (-5)))) x3_59.toNatClampNeg) - ((q_Sh_weight (u_Sh_trial z_59 (upd (q_Sh_trial z_59) x1_f59.toNatClampNeg (-5)))) x1_f59.toNatClampNeg))))) H := hP
                        have hD : va_D A (ws_Sh g a (u_Sh_room (u_Sh_trial z_59 (upd (q_Sh_trial z_59) x1_f59.toNatClampNeg (-5))) (upd (q_Sh_room (u_Sh_trial z_59 (upd (q_Sh_trial z_59) x1_f59.toNatClampNeg (-5)))) x3_59.toNatClampNeg (((q_Sh_room (u_Sh_trial z_59 (upd (q_Sh_trial z_59) x1_f59.toNatClampNeg (-5)))) x3_59.toNatClampNeg) - ((q_Sh_weight (u_Sh_trial z_59 (upd (q_Sh_trial z_59) x1_f59.toNatClampNeg (-5)))) x1_f59.toNatClampNeg))))) := hD
                        refine lv_aload_n hx hb d_Sh_deal_130 rfl (lv_at hl 0 rfl) ?_
                        refine lv_iload_n hx hb d_Sh_deal_131 rfl (lv_at hl 1 rfl) ?_
                        refine lv_iconst (v := 1) hx hb d_Sh_deal_132 (by decide) ?_
                        refine lv_iadd hx hb d_Sh_deal_133 ?_
                        refine lv_iload_n hx hb d_Sh_deal_134 rfl (lv_at hl 2 rfl) ?_
                        refine lv_aload_n hx hb d_Sh_deal_135 rfl (lv_at hl 0 rfl) ?_
                        refine va_get (D := D) (ci := 8) (v := .ref (a 2)) (C := R_Sh) (T := F_Sh) (N := 10) hx hb hg i_Sh hown hK hP 0 rfl rfl 5 (by decide) (hg _ g_331) (fun _ h9 => h9) rfl d_Sh_deal_136 ?_
                        refine lv_iload_n hx hb d_Sh_deal_139 rfl (lv_at hl 1 rfl) ?_
                        obtain ⟨h_41, hd⟩ := ite_s hd
                        refine aldA hx hb hK hP 2 rfl (inb_t h_41) d_Sh_deal_140 ?_
                        refine lv_iload_n hx hb d_Sh_deal_141 rfl (lv_at hl 3 rfl) ?_
                        obtain ⟨h_42, hd⟩ := ite_s hd
                        refine ialdK hx hb hK hP (3 + x1_f59.toNatClampNeg) 0 ((show ∀ k, k < 7 → (ws_Sh g a (u_Sh_room (u_Sh_trial z_59 (upd (q_Sh_trial z_59) x1_f59.toNatClampNeg (-5))) (upd (q_Sh_room (u_Sh_trial z_59 (upd (q_Sh_trial z_59) x1_f59.toNatClampNeg (-5)))) x3_59.toNatClampNeg (((q_Sh_room (u_Sh_trial z_59 (upd (q_Sh_trial z_59) x1_f59.toNatClampNeg (-5)))) x3_59.toNatClampNeg) - ((q_Sh_weight (u_Sh_trial z_59 (upd (q_Sh_trial z_59) x1_f59.toNatClampNeg (-5)))) x1_f59.toNatClampNeg)))))[3 + k]? = some (a (k + 3), .inl (g 0, 5, .inl ((q_Sh_worth (u_Sh_room (u_Sh_trial z_59 (upd (q_Sh_trial z_59) x1_f59.toNatClampNeg (-5))) (upd (q_Sh_room (u_Sh_trial z_59 (upd (q_Sh_trial z_59) x1_f59.toNatClampNeg (-5)))) x3_59.toNatClampNeg (((q_Sh_room (u_Sh_trial z_59 (upd (q_Sh_trial z_59) x1_f59.toNatClampNeg (-5)))) x3_59.toNatClampNeg) - ((q_Sh_weight (u_Sh_trial z_59 (upd (q_Sh_trial z_59) x1_f59.toNatClampNeg (-5)))) x1_f59.toNatClampNeg))))) k))) from fun k hk => match k, hk with | 0, _ => rfl | 1, _ => rfl | 2, _ => rfl | 3, _ => rfl | 4, _ => rfl | 5, _ => rfl | 6, _ => rfl | k + 7, hk => absurd hk (by omega)) _ (vp_lt (inb_t h_41))) rfl (inb_t h_42) rfl d_Sh_deal_142 ?_
                        refine lv_iadd hx hb d_Sh_deal_143 ?_
                        obtain ⟨v_43, e_44, hd⟩ := bind_s hd
                        refine callVV (ws' := ws_Sh g a v_43) (rest := []) (As := [.int (x1_f59 + 1), .int (x2_f59 + ((q_Sh_worth (u_Sh_room (u_Sh_trial z_59 (upd (q_Sh_trial z_59) x1_f59.toNatClampNeg (-5))) (upd (q_Sh_room (u_Sh_trial z_59 (upd (q_Sh_trial z_59) x1_f59.toNatClampNeg (-5)))) x3_59.toNatClampNeg (((q_Sh_room (u_Sh_trial z_59 (upd (q_Sh_trial z_59) x1_f59.toNatClampNeg (-5)))) x3_59.toNatClampNeg) - ((q_Sh_weight (u_Sh_trial z_59 (upd (q_Sh_trial z_59) x1_f59.toNatClampNeg (-5)))) x1_f59.toNatClampNeg))))) x1_f59.toNatClampNeg x3_59.toNatClampNeg))]) hx hb hml hown hg hK hP hD hS hA hCs hl.1 (ih l D g a (x1_f59 + 1) (x2_f59 + ((q_Sh_worth (u_Sh_room (u_Sh_trial z_59 (upd (q_Sh_trial z_59) x1_f59.toNatClampNeg (-5))) (upd (q_Sh_room (u_Sh_trial z_59 (upd (q_Sh_trial z_59) x1_f59.toNatClampNeg (-5)))) x3_59.toNatClampNeg (((q_Sh_room (u_Sh_trial z_59 (upd (q_Sh_trial z_59) x1_f59.toNatClampNeg (-5)))) x3_59.toNatClampNeg) - ((q_Sh_weight (u_Sh_trial z_59 (upd (q_Sh_trial z_59) x1_f59.toNatClampNeg (-5)))) x1_f59.toNatClampNeg))))) x1_f59.toNatClampNeg x3_59.toNatClampNeg)) (u_Sh_room (u_Sh_trial z_59 (upd (q_Sh_trial z_59) x1_f59.toNatClampNeg (-5))) (upd (q_Sh_room (u_Sh_trial z_59 (upd (q_Sh_trial z_59) x1_f59.toNatClampNeg (-5)))) x3_59.toNatClampNeg (((q_Sh_room (u_Sh_trial z_59 (upd (q_Sh_trial z_59) x1_f59.toNatClampNeg (-5)))) x3_59.toNatClampNeg) - ((q_Sh_weight (u_Sh_trial z_59 (upd (q_Sh_trial z_59) x1_f59.toNatClampNeg (-5)))) x1_f59.toNatClampNeg)))) _ e_44) o_Sh_deal g_797 (ci := 8) (q0 := 0) rfl rfl (List.range' 0 14) (segC1 rfl rfl) (by decide) rfl (segP1 rfl rfl) rfl rfl (Nat.le_of_ble_eq_true rfl) ⟨rfl, rfl, by show _ ≤ _; (try dsimp only); omega, by show _ ≤ _; (try dsimp only); omega⟩ d_Sh_deal_144 (fun H locs hP hD hS => ?_)
                        refine lv_aload_n hx hb d_Sh_deal_147 rfl (lv_at hl 0 rfl) ?_
                        refine va_get (D := D) (ci := 8) (v := .ref (a 11)) (C := R_Sh) (T := F_Sh) (N := 10) hx hb hg i_Sh hown hK hP 0 rfl rfl 7 (by decide) (hg _ g_333) (fun _ h9 => h9) rfl d_Sh_deal_148 ?_
                        refine lv_iload_n hx hb d_Sh_deal_151 rfl (lv_at hl 3 rfl) ?_
                        refine lv_dup2_11 hx hb d_Sh_deal_152 rfl rfl ?_
                        obtain ⟨h_47, hd⟩ := ite_s hd
                        refine ialdK hx hb hK hP 11 0 rfl rfl (inb_t h_47) rfl d_Sh_deal_153 ?_
                        refine lv_aload_n hx hb d_Sh_deal_154 rfl (lv_at hl 0 rfl) ?_
                        refine va_get (D := D) (ci := 8) (v := .ref (a 10)) (C := R_Sh) (T := F_Sh) (N := 10) hx hb hg i_Sh hown hK hP 0 rfl rfl 6 (by decide) (hg _ g_332) (fun _ h9 => h9) rfl d_Sh_deal_155 ?_
                        refine lv_iload_n hx hb d_Sh_deal_158 rfl (lv_at hl 1 rfl) ?_
                        obtain ⟨h_46, hd⟩ := ite_s hd
                        refine ialdK hx hb hK hP 10 0 rfl rfl (inb_t h_46) rfl d_Sh_deal_159 ?_
                        refine lv_iadd hx hb d_Sh_deal_160 ?_
                        obtain ⟨h_45, hd⟩ := ite_s hd
                        refine iastK hx hb hK hP hD hS 11 0 rfl rfl (inb_t h_45) rfl d_Sh_deal_161 (fun H locs hP hD hS => ?_)
                        have hP : va_P D classes (ws_Sh g a (u_Sh_room v_43 (upd (q_Sh_room v_43) x3_59.toNatClampNeg (((q_Sh_room v_43) x3_59.toNatClampNeg) + ((q_Sh_weight v_43) x1_f59.toNatClampNeg))))) H := hP
                        have hD : va_D A (ws_Sh g a (u_Sh_room v_43 (upd (q_Sh_room v_43) x3_59.toNatClampNeg (((q_Sh_room v_43) x3_59.toNatClampNeg) + ((q_Sh_weight v_43) x1_f59.toNatClampNeg))))) := hD
                        refine lv_iinc (v := x3_59 + 1) (lv' := [(3, .int (x3_59 + 1)), (0, .ref (a 0)), (1, .int x1_f59), (2, .int x2_f59)]) hx hb d_Sh_deal_162 hl (k := 3) rfl (by rfl) (by decide) rfl (fun ls hl => ?_)
                        refine lv_goto (tgt := 59) hx hb d_Sh_deal_165 (by decide) ?_
                        exact ih59 (x3_59 + 1) (u_Sh_room v_43 (upd (q_Sh_room v_43) x3_59.toNatClampNeg (((q_Sh_room v_43) x3_59.toNatClampNeg) + ((q_Sh_weight v_43) x1_f59.toNatClampNeg)))) _ _ _ hP hD hS (lv_sub hl [1, 2, 3, 0] rfl) hd
                      · have hd := ite_f hd h_40
                        refine lv_iload_n hx hb d_Sh_deal_108 rfl (lv_at hl 3 rfl) ?_
                        refine lv_goto (tgt := 114) hx hb d_Sh_deal_109 (by decide) ?_
                        obtain ⟨h_62, hd⟩ := ite_s hd
                        refine iastK hx hb hK hP hD hS 12 0 rfl rfl (inb_t h_62) rfl d_Sh_deal_114 (fun H locs hP hD hS => ?_)
                        have hP : va_P D classes (ws_Sh g a (u_Sh_trial z_59 (upd (q_Sh_trial z_59) x1_f59.toNatClampNeg x3_59))) H := hP
                        have hD : va_D A (ws_Sh g a (u_Sh_trial z_59 (upd (q_Sh_trial z_59) x1_f59.toNatClampNeg x3_59))) := hD
                        refine lv_aload_n hx hb d_Sh_deal_115 rfl (lv_at hl 0 rfl) ?_
                        refine va_get (D := D) (ci := 8) (v := .ref (a 11)) (C := R_Sh) (T := F_Sh) (N := 10) hx hb hg i_Sh hown hK hP 0 rfl rfl 7 (by decide) (hg _ g_333) (fun _ h9 => h9) rfl d_Sh_deal_116 ?_
                        refine lv_iload_n hx hb d_Sh_deal_119 rfl (lv_at hl 3 rfl) ?_
                        refine lv_dup2_11 hx hb d_Sh_deal_120 rfl rfl ?_
                        obtain ⟨h_61, hd⟩ := ite_s hd
                        refine ialdK hx hb hK hP 11 0 rfl rfl (inb_t h_61) rfl d_Sh_deal_121 ?_
                        refine lv_aload_n hx hb d_Sh_deal_122 rfl (lv_at hl 0 rfl) ?_
                        refine va_get (D := D) (ci := 8) (v := .ref (a 10)) (C := R_Sh) (T := F_Sh) (N := 10) hx hb hg i_Sh hown hK hP 0 rfl rfl 6 (by decide) (hg _ g_332) (fun _ h9 => h9) rfl d_Sh_deal_123 ?_
                        refine lv_iload_n hx hb d_Sh_deal_126 rfl (lv_at hl 1 rfl) ?_
                        obtain ⟨h_60, hd⟩ := ite_s hd
                        refine ialdK hx hb hK hP 10 0 rfl rfl (inb_t h_60) rfl d_Sh_deal_127 ?_
                        refine lv_isub hx hb d_Sh_deal_128 ?_
                        obtain ⟨h_59, hd⟩ := ite_s hd
                        refine iastK hx hb hK hP hD hS 11 0 rfl rfl (inb_t h_59) rfl d_Sh_deal_129 (fun H locs hP hD hS => ?_)
                        have hP : va_P D classes (ws_Sh g a (u_Sh_room (u_Sh_trial z_59 (upd (q_Sh_trial z_59) x1_f59.toNatClampNeg x3_59)) (upd (q_Sh_room (u_Sh_trial z_59 (upd (q_Sh_trial z_59) x1_f59.toNatClampNeg x3_59))) x3_59.toNatClampNeg (((q_Sh_room (u_Sh_trial z_59 (upd (q_Sh_trial z_59) x1_f59.toNatClampNeg x3_59))) x3_59.toNatClampNeg) - ((q_Sh_weight (u_Sh_trial z_59 (upd (q_Sh_trial z_59) x1_f59.toNatClampNeg x3_59))) x1_f59.toNatClampNeg))))) H := hP
                        have hD : va_D A (ws_Sh g a (u_Sh_room (u_Sh_trial z_59 (upd (q_Sh_trial z_59) x1_f59.toNatClampNeg x3_59)) (upd (q_Sh_room (u_Sh_trial z_59 (upd (q_Sh_trial z_59) x1_f59.toNatClampNeg x3_59))) x3_59.toNatClampNeg (((q_Sh_room (u_Sh_trial z_59 (upd (q_Sh_trial z_59) x1_f59.toNatClampNeg x3_59))) x3_59.toNatClampNeg) - ((q_Sh_weight (u_Sh_trial z_59 (upd (q_Sh_trial z_59) x1_f59.toNatClampNeg x3_59))) x1_f59.toNatClampNeg))))) := hD
                        refine lv_aload_n hx hb d_Sh_deal_130 rfl (lv_at hl 0 rfl) ?_
                        refine lv_iload_n hx hb d_Sh_deal_131 rfl (lv_at hl 1 rfl) ?_
                        refine lv_iconst (v := 1) hx hb d_Sh_deal_132 (by decide) ?_
                        refine lv_iadd hx hb d_Sh_deal_133 ?_
                        refine lv_iload_n hx hb d_Sh_deal_134 rfl (lv_at hl 2 rfl) ?_
                        refine lv_aload_n hx hb d_Sh_deal_135 rfl (lv_at hl 0 rfl) ?_
                        refine va_get (D := D) (ci := 8) (v := .ref (a 2)) (C := R_Sh) (T := F_Sh) (N := 10) hx hb hg i_Sh hown hK hP 0 rfl rfl 5 (by decide) (hg _ g_331) (fun _ h9 => h9) rfl d_Sh_deal_136 ?_
                        refine lv_iload_n hx hb d_Sh_deal_139 rfl (lv_at hl 1 rfl) ?_
                        obtain ⟨h_52, hd⟩ := ite_s hd
                        refine aldA hx hb hK hP 2 rfl (inb_t h_52) d_Sh_deal_140 ?_
                        refine lv_iload_n hx hb d_Sh_deal_141 rfl (lv_at hl 3 rfl) ?_
                        obtain ⟨h_53, hd⟩ := ite_s hd
                        refine ialdK hx hb hK hP (3 + x1_f59.toNatClampNeg) 0 ((show ∀ k, k < 7 → (ws_Sh g a (u_Sh_room (u_Sh_trial z_59 (upd (q_Sh_trial z_59) x1_f59.toNatClampNeg x3_59)) (upd (q_Sh_room (u_Sh_trial z_59 (upd (q_Sh_trial z_59) x1_f59.toNatClampNeg x3_59))) x3_59.toNatClampNeg (((q_Sh_room (u_Sh_trial z_59 (upd (q_Sh_trial z_59) x1_f59.toNatClampNeg x3_59))) x3_59.toNatClampNeg) - ((q_Sh_weight (u_Sh_trial z_59 (upd (q_Sh_trial z_59) x1_f59.toNatClampNeg x3_59))) x1_f59.toNatClampNeg)))))[3 + k]? = some (a (k + 3), .inl (g 0, 5, .inl ((q_Sh_worth (u_Sh_room (u_Sh_trial z_59 (upd (q_Sh_trial z_59) x1_f59.toNatClampNeg x3_59)) (upd (q_Sh_room (u_Sh_trial z_59 (upd (q_Sh_trial z_59) x1_f59.toNatClampNeg x3_59))) x3_59.toNatClampNeg (((q_Sh_room (u_Sh_trial z_59 (upd (q_Sh_trial z_59) x1_f59.toNatClampNeg x3_59))) x3_59.toNatClampNeg) - ((q_Sh_weight (u_Sh_trial z_59 (upd (q_Sh_trial z_59) x1_f59.toNatClampNeg x3_59))) x1_f59.toNatClampNeg))))) k))) from fun k hk => match k, hk with | 0, _ => rfl | 1, _ => rfl | 2, _ => rfl | 3, _ => rfl | 4, _ => rfl | 5, _ => rfl | 6, _ => rfl | k + 7, hk => absurd hk (by omega)) _ (vp_lt (inb_t h_52))) rfl (inb_t h_53) rfl d_Sh_deal_142 ?_
                        refine lv_iadd hx hb d_Sh_deal_143 ?_
                        obtain ⟨v_54, e_55, hd⟩ := bind_s hd
                        refine callVV (ws' := ws_Sh g a v_54) (rest := []) (As := [.int (x1_f59 + 1), .int (x2_f59 + ((q_Sh_worth (u_Sh_room (u_Sh_trial z_59 (upd (q_Sh_trial z_59) x1_f59.toNatClampNeg x3_59)) (upd (q_Sh_room (u_Sh_trial z_59 (upd (q_Sh_trial z_59) x1_f59.toNatClampNeg x3_59))) x3_59.toNatClampNeg (((q_Sh_room (u_Sh_trial z_59 (upd (q_Sh_trial z_59) x1_f59.toNatClampNeg x3_59))) x3_59.toNatClampNeg) - ((q_Sh_weight (u_Sh_trial z_59 (upd (q_Sh_trial z_59) x1_f59.toNatClampNeg x3_59))) x1_f59.toNatClampNeg))))) x1_f59.toNatClampNeg x3_59.toNatClampNeg))]) hx hb hml hown hg hK hP hD hS hA hCs hl.1 (ih l D g a (x1_f59 + 1) (x2_f59 + ((q_Sh_worth (u_Sh_room (u_Sh_trial z_59 (upd (q_Sh_trial z_59) x1_f59.toNatClampNeg x3_59)) (upd (q_Sh_room (u_Sh_trial z_59 (upd (q_Sh_trial z_59) x1_f59.toNatClampNeg x3_59))) x3_59.toNatClampNeg (((q_Sh_room (u_Sh_trial z_59 (upd (q_Sh_trial z_59) x1_f59.toNatClampNeg x3_59))) x3_59.toNatClampNeg) - ((q_Sh_weight (u_Sh_trial z_59 (upd (q_Sh_trial z_59) x1_f59.toNatClampNeg x3_59))) x1_f59.toNatClampNeg))))) x1_f59.toNatClampNeg x3_59.toNatClampNeg)) (u_Sh_room (u_Sh_trial z_59 (upd (q_Sh_trial z_59) x1_f59.toNatClampNeg x3_59)) (upd (q_Sh_room (u_Sh_trial z_59 (upd (q_Sh_trial z_59) x1_f59.toNatClampNeg x3_59))) x3_59.toNatClampNeg (((q_Sh_room (u_Sh_trial z_59 (upd (q_Sh_trial z_59) x1_f59.toNatClampNeg x3_59))) x3_59.toNatClampNeg) - ((q_Sh_weight (u_Sh_trial z_59 (upd (q_Sh_trial z_59) x1_f59.toNatClampNeg x3_59))) x1_f59.toNatClampNeg)))) _ e_55) o_Sh_deal g_797 (ci := 8) (q0 := 0) rfl rfl (List.range' 0 14) (segC1 rfl rfl) (by decide) rfl (segP1 rfl rfl) rfl rfl (Nat.le_of_ble_eq_true rfl) ⟨rfl, rfl, by show _ ≤ _; (try dsimp only); omega, by show _ ≤ _; (try dsimp only); omega⟩ d_Sh_deal_144 (fun H locs hP hD hS => ?_)
                        refine lv_aload_n hx hb d_Sh_deal_147 rfl (lv_at hl 0 rfl) ?_
                        refine va_get (D := D) (ci := 8) (v := .ref (a 11)) (C := R_Sh) (T := F_Sh) (N := 10) hx hb hg i_Sh hown hK hP 0 rfl rfl 7 (by decide) (hg _ g_333) (fun _ h9 => h9) rfl d_Sh_deal_148 ?_
                        refine lv_iload_n hx hb d_Sh_deal_151 rfl (lv_at hl 3 rfl) ?_
                        refine lv_dup2_11 hx hb d_Sh_deal_152 rfl rfl ?_
                        obtain ⟨h_58, hd⟩ := ite_s hd
                        refine ialdK hx hb hK hP 11 0 rfl rfl (inb_t h_58) rfl d_Sh_deal_153 ?_
                        refine lv_aload_n hx hb d_Sh_deal_154 rfl (lv_at hl 0 rfl) ?_
                        refine va_get (D := D) (ci := 8) (v := .ref (a 10)) (C := R_Sh) (T := F_Sh) (N := 10) hx hb hg i_Sh hown hK hP 0 rfl rfl 6 (by decide) (hg _ g_332) (fun _ h9 => h9) rfl d_Sh_deal_155 ?_
                        refine lv_iload_n hx hb d_Sh_deal_158 rfl (lv_at hl 1 rfl) ?_
                        obtain ⟨h_57, hd⟩ := ite_s hd
                        refine ialdK hx hb hK hP 10 0 rfl rfl (inb_t h_57) rfl d_Sh_deal_159 ?_
                        refine lv_iadd hx hb d_Sh_deal_160 ?_
                        obtain ⟨h_56, hd⟩ := ite_s hd
                        refine iastK hx hb hK hP hD hS 11 0 rfl rfl (inb_t h_56) rfl d_Sh_deal_161 (fun H locs hP hD hS => ?_)
                        have hP : va_P D classes (ws_Sh g a (u_Sh_room v_54 (upd (q_Sh_room v_54) x3_59.toNatClampNeg (((q_Sh_room v_54) x3_59.toNatClampNeg) + ((q_Sh_weight v_54) x1_f59.toNatClampNeg))))) H := hP
                        have hD : va_D A (ws_Sh g a (u_Sh_room v_54 (upd (q_Sh_room v_54) x3_59.toNatClampNeg (((q_Sh_room v_54) x3_59.toNatClampNeg) + ((q_Sh_weight v_54) x1_f59.toNatClampNeg))))) := hD
                        refine lv_iinc (v := x3_59 + 1) (lv' := [(3, .int (x3_59 + 1)), (0, .ref (a 0)), (1, .int x1_f59), (2, .int x2_f59)]) hx hb d_Sh_deal_162 hl (k := 3) rfl (by rfl) (by decide) rfl (fun ls hl => ?_)
                        refine lv_goto (tgt := 59) hx hb d_Sh_deal_165 (by decide) ?_
                        exact ih59 (x3_59 + 1) (u_Sh_room v_54 (upd (q_Sh_room v_54) x3_59.toNatClampNeg (((q_Sh_room v_54) x3_59.toNatClampNeg) + ((q_Sh_weight v_54) x1_f59.toNatClampNeg)))) _ _ _ hP hD hS (lv_sub hl [1, 2, 3, 0] rfl) hd
            exact lp59 x1 x2 1000 0 z _ _ _ hP hD hS (lv_sub hl [1, 2, 3, 0] rfl) hd
          · have hd := ite_f hd h_34
            refine lv_aload_n hx hb d_Sh_deal_31 rfl (lv_at hl 0 rfl) ?_
            refine lv_iconst (v := 1) hx hb d_Sh_deal_32 (by decide) ?_
            refine va_put (D := D) (ci := 8) (v := .int 1) (ty := .boolean) (C := R_Sh) (T := F_Sh) (N := 10) hx hb hg i_Sh t_Sh t_Sh_ok n_Sh hown hK hP hD hS 0 rfl rfl 0 (by decide) (hg _ g_323) (fun _ h9 => h9) rfl (by decide +kernel) (by decide +kernel) rfl (Nat.le_of_ble_eq_true rfl) d_Sh_deal_33 (fun H locs hP hD hS => ?_)
            have hP : va_P D classes (ws_Sh g a (u_Sh_found z 1)) H := hP
            have hD : va_D A (ws_Sh g a (u_Sh_found z 1)) := hD
            refine lv_aload_n hx hb d_Sh_deal_36 rfl (lv_at hl 0 rfl) ?_
            refine lv_iload_n hx hb d_Sh_deal_37 rfl (lv_at hl 2 rfl) ?_
            refine va_put (D := D) (ci := 8) (v := .int x2) (ty := .int) (C := R_Sh) (T := F_Sh) (N := 10) hx hb hg i_Sh t_Sh t_Sh_ok n_Sh hown hK hP hD hS 0 rfl rfl 1 (by decide) (hg _ g_325) (fun _ h9 => h9) rfl (by decide +kernel) rfl rfl (Nat.le_of_ble_eq_true rfl) d_Sh_deal_38 (fun H locs hP hD hS => ?_)
            have hP : va_P D classes (ws_Sh g a (u_Sh_sum (u_Sh_found z 1) x2)) H := hP
            have hD : va_D A (ws_Sh g a (u_Sh_sum (u_Sh_found z 1) x2)) := hD
            refine lv_aload_n hx hb d_Sh_deal_41 rfl (lv_at hl 0 rfl) ?_
            refine va_get (D := D) (ci := 8) (v := .ref (a 12)) (C := R_Sh) (T := F_Sh) (N := 10) hx hb hg i_Sh hown hK hP 0 rfl rfl 8 (by decide) (hg _ g_334) (fun _ h9 => h9) rfl d_Sh_deal_42 ?_
            refine lv_iconst (v := 0) hx hb d_Sh_deal_45 (by decide) ?_
            refine lv_aload_n hx hb d_Sh_deal_46 rfl (lv_at hl 0 rfl) ?_
            refine va_get (D := D) (ci := 8) (v := .ref (a 1)) (C := R_Sh) (T := F_Sh) (N := 10) hx hb hg i_Sh hown hK hP 0 rfl rfl 2 (by decide) (hg _ g_327) (fun _ h9 => h9) rfl d_Sh_deal_47 ?_
            refine lv_iconst (v := 0) hx hb d_Sh_deal_50 (by decide) ?_
            refine lv_bipush (v := 7) hx hb d_Sh_deal_51 (by decide) ?_
            refine copyK (N := 7) hx hb (hml.trans hl.1.symm) hown (hg _ g_801) hg hK hP hD hS 12 1 rfl rfl (by decide +kernel) (by decide +kernel) (by decide) (by decide) (by show _ ≤ _; (try dsimp only); omega) (Nat.le_trans (m := 71) (Nat.le_of_ble_eq_true (by decide +kernel)) (by show _ ≤ _; (try dsimp only); omega)) d_Sh_deal_53 (fun H locs hP hD hS => ?_)
            have hP : va_P D classes (ws_Sh g a (u_Sh_owner (u_Sh_sum (u_Sh_found z 1) x2) (va_cpy (q_Sh_trial (u_Sh_sum (u_Sh_found z 1) x2)) (q_Sh_owner (u_Sh_sum (u_Sh_found z 1) x2)) 0 0 7))) H := hP
            have hD : va_D A (ws_Sh g a (u_Sh_owner (u_Sh_sum (u_Sh_found z 1) x2) (va_cpy (q_Sh_trial (u_Sh_sum (u_Sh_found z 1) x2)) (q_Sh_owner (u_Sh_sum (u_Sh_found z 1) x2)) 0 0 7))) := hD
            obtain rfl := Option.some.inj hd
            exact retV hx hb hr hlk hK hP hD hS d_Sh_deal_56
        · have hd := ite_f hd h_33
          obtain rfl := Option.some.inj hd
          exact retV hx hb hr hlk hK hP hD hS d_Sh_deal_22
theorem c_Sh_deal (n : Nat) (l : Launch) (D : va_G) (g : Nat → ClassId) (a : Nat → Nat) (x1 : Int32) (x2 : Int32) (z : T_Sh) (v : T_Sh) (h : d_Sh_deal n x1 x2 z = some v) :
    MV l y_Sh_deal b_Sh_deal 4 ({ frames := 2 + 2 * n, cells := 0, slots := 0, locals := 71 + 60 * n } : Room) D g [.ref (a 0), .int x1, .int x2] (ws_Sh g a z) (ws_Sh g a v) := (cg_Sh_deal n) l D g a x1 x2 z v h
-- OwnsLift$Shares.solve()V
def B_Sh_solve_L45 (x1_f45 : Int32) (z_f45 : T_Sh) (k45_91 : Int32 → Option (T_Sh)) (self45 : Int32 → Int32 → Option (T_Sh)) (x2_45 : Int32) (x3_45 : Int32) : Option (T_Sh) :=
  if (q_Sh_people z_f45) ≤ x3_45 then (k45_91 x2_45) else (if inb x1_f45 7 = true then (if inb x3_45 5 = true then (if ((q_Sh_room z_f45) x3_45.toNatClampNeg) < ((q_Sh_weight z_f45) x1_f45.toNatClampNeg) then (self45 x2_45 (x3_45 + 1)) else (if inb x1_f45 7 = true then (if inb x3_45 5 = true then (self45 (if x2_45 < ((q_Sh_worth z_f45) x1_f45.toNatClampNeg x3_45.toNatClampNeg) then ((q_Sh_worth z_f45) x1_f45.toNatClampNeg x3_45.toNatClampNeg) else x2_45) (x3_45 + 1)) else none) else none)) else none) else none)
def d_Sh_solve_L45 (x1_f45 : Int32) (z_f45 : T_Sh) (k45_91 : Int32 → Option (T_Sh)) (n : Nat) : Int32 → Int32 → Option (T_Sh) := recN (fun _ _ => none) (fun self => B_Sh_solve_L45 x1_f45 z_f45 k45_91 self) n
def B_Sh_solve_L27 (self27 : Int32 → T_Sh → Option (T_Sh)) (x1_27 : Int32) (z_27 : T_Sh) : Option (T_Sh) :=
  if x1_27 < 0 then ((d_Sh_deal 64 0 0 z_27).bind fun v_2 => some (v_2)) else (if inb x1_27 7 = true then (if inb (q_Sh_people z_27) 5 = true then (d_Sh_solve_L45 x1_27 z_27 (fun x2_45 => if inb (x1_27 + 1) 8 = true then (if inb x1_27 8 = true then (self27 (x1_27 + (-1)) (u_Sh_hope z_27 (upd (q_Sh_hope z_27) x1_27.toNatClampNeg (((q_Sh_hope z_27) (x1_27 + 1).toNatClampNeg) + x2_45)))) else none) else none) 1000 ((q_Sh_worth z_27) x1_27.toNatClampNeg (q_Sh_people z_27).toNatClampNeg) 0) else none) else none)
def d_Sh_solve_L27 (n : Nat) : Int32 → T_Sh → Option (T_Sh) := recN (fun _ _ => none) (fun self => B_Sh_solve_L27 self) n
def d_Sh_solve (z : T_Sh) : Option (T_Sh) :=
  if inb (q_Sh_things (u_Sh_sum (u_Sh_found z 0) 0)) 8 = true then (d_Sh_solve_L27  1000 ((q_Sh_things (u_Sh_hope (u_Sh_sum (u_Sh_found z 0) 0) (upd (q_Sh_hope (u_Sh_sum (u_Sh_found z 0) 0)) (q_Sh_things (u_Sh_sum (u_Sh_found z 0) 0)).toNatClampNeg 0))) - 1) (u_Sh_hope (u_Sh_sum (u_Sh_found z 0) 0) (upd (q_Sh_hope (u_Sh_sum (u_Sh_found z 0) 0)) (q_Sh_things (u_Sh_sum (u_Sh_found z 0) 0)).toNatClampNeg 0))) else none
theorem d_Sh_solve_0 : decode b_Sh_solve 0 = .ok (.aload_n 0, 1) := by decide +kernel
theorem d_Sh_solve_1 : decode b_Sh_solve 1 = .ok (.iconst 0, 1) := by decide +kernel
theorem d_Sh_solve_2 : decode b_Sh_solve 2 = .ok (.putfield 56, 3) := by decide +kernel
theorem d_Sh_solve_5 : decode b_Sh_solve 5 = .ok (.aload_n 0, 1) := by decide +kernel
theorem d_Sh_solve_6 : decode b_Sh_solve 6 = .ok (.iconst 0, 1) := by decide +kernel
theorem d_Sh_solve_7 : decode b_Sh_solve 7 = .ok (.putfield 60, 3) := by decide +kernel
theorem d_Sh_solve_10 : decode b_Sh_solve 10 = .ok (.aload_n 0, 1) := by decide +kernel
theorem d_Sh_solve_11 : decode b_Sh_solve 11 = .ok (.getfield 29, 3) := by decide +kernel
theorem d_Sh_solve_14 : decode b_Sh_solve 14 = .ok (.aload_n 0, 1) := by decide +kernel
theorem d_Sh_solve_15 : decode b_Sh_solve 15 = .ok (.getfield 36, 3) := by decide +kernel
theorem d_Sh_solve_18 : decode b_Sh_solve 18 = .ok (.iconst 0, 1) := by decide +kernel
theorem d_Sh_solve_19 : decode b_Sh_solve 19 = .ok (.iastore, 1) := by decide +kernel
theorem d_Sh_solve_20 : decode b_Sh_solve 20 = .ok (.aload_n 0, 1) := by decide +kernel
theorem d_Sh_solve_21 : decode b_Sh_solve 21 = .ok (.getfield 36, 3) := by decide +kernel
theorem d_Sh_solve_24 : decode b_Sh_solve 24 = .ok (.iconst 1, 1) := by decide +kernel
theorem d_Sh_solve_25 : decode b_Sh_solve 25 = .ok (.isub, 1) := by decide +kernel
theorem d_Sh_solve_26 : decode b_Sh_solve 26 = .ok (.istore_n 1, 1) := by decide +kernel
theorem d_Sh_solve_27 : decode b_Sh_solve 27 = .ok (.iload_n 1, 1) := by decide +kernel
theorem d_Sh_solve_28 : decode b_Sh_solve 28 = .ok (.ifCond .lt 85, 3) := by decide +kernel
theorem d_Sh_solve_31 : decode b_Sh_solve 31 = .ok (.aload_n 0, 1) := by decide +kernel
theorem d_Sh_solve_32 : decode b_Sh_solve 32 = .ok (.getfield 17, 3) := by decide +kernel
theorem d_Sh_solve_35 : decode b_Sh_solve 35 = .ok (.iload_n 1, 1) := by decide +kernel
theorem d_Sh_solve_36 : decode b_Sh_solve 36 = .ok (.aaload, 1) := by decide +kernel
theorem d_Sh_solve_37 : decode b_Sh_solve 37 = .ok (.aload_n 0, 1) := by decide +kernel
theorem d_Sh_solve_38 : decode b_Sh_solve 38 = .ok (.getfield 40, 3) := by decide +kernel
theorem d_Sh_solve_41 : decode b_Sh_solve 41 = .ok (.iaload, 1) := by decide +kernel
theorem d_Sh_solve_42 : decode b_Sh_solve 42 = .ok (.istore_n 2, 1) := by decide +kernel
theorem d_Sh_solve_43 : decode b_Sh_solve 43 = .ok (.iconst 0, 1) := by decide +kernel
theorem d_Sh_solve_44 : decode b_Sh_solve 44 = .ok (.istore_n 3, 1) := by decide +kernel
theorem d_Sh_solve_45 : decode b_Sh_solve 45 = .ok (.iload_n 3, 1) := by decide +kernel
theorem d_Sh_solve_46 : decode b_Sh_solve 46 = .ok (.aload_n 0, 1) := by decide +kernel
theorem d_Sh_solve_47 : decode b_Sh_solve 47 = .ok (.getfield 40, 3) := by decide +kernel
theorem d_Sh_solve_50 : decode b_Sh_solve 50 = .ok (.if_icmp .ge 41, 3) := by decide +kernel
theorem d_Sh_solve_53 : decode b_Sh_solve 53 = .ok (.aload_n 0, 1) := by decide +kernel
theorem d_Sh_solve_54 : decode b_Sh_solve 54 = .ok (.getfield 20, 3) := by decide +kernel
theorem d_Sh_solve_57 : decode b_Sh_solve 57 = .ok (.iload_n 1, 1) := by decide +kernel
theorem d_Sh_solve_58 : decode b_Sh_solve 58 = .ok (.iaload, 1) := by decide +kernel
theorem d_Sh_solve_59 : decode b_Sh_solve 59 = .ok (.aload_n 0, 1) := by decide +kernel
theorem d_Sh_solve_60 : decode b_Sh_solve 60 = .ok (.getfield 23, 3) := by decide +kernel
theorem d_Sh_solve_63 : decode b_Sh_solve 63 = .ok (.iload_n 3, 1) := by decide +kernel
theorem d_Sh_solve_64 : decode b_Sh_solve 64 = .ok (.iaload, 1) := by decide +kernel
theorem d_Sh_solve_65 : decode b_Sh_solve 65 = .ok (.if_icmp .gt 18, 3) := by decide +kernel
theorem d_Sh_solve_68 : decode b_Sh_solve 68 = .ok (.iload_n 2, 1) := by decide +kernel
theorem d_Sh_solve_69 : decode b_Sh_solve 69 = .ok (.aload_n 0, 1) := by decide +kernel
theorem d_Sh_solve_70 : decode b_Sh_solve 70 = .ok (.getfield 17, 3) := by decide +kernel
theorem d_Sh_solve_73 : decode b_Sh_solve 73 = .ok (.iload_n 1, 1) := by decide +kernel
theorem d_Sh_solve_74 : decode b_Sh_solve 74 = .ok (.aaload, 1) := by decide +kernel
theorem d_Sh_solve_75 : decode b_Sh_solve 75 = .ok (.iload_n 3, 1) := by decide +kernel
theorem d_Sh_solve_76 : decode b_Sh_solve 76 = .ok (.iaload, 1) := by decide +kernel
theorem d_Sh_solve_77 : decode b_Sh_solve 77 = .ok (.invokestatic 63, 3) := by decide +kernel
theorem d_Sh_solve_80 : decode b_Sh_solve 80 = .ok (.goto 4, 3) := by decide +kernel
theorem d_Sh_solve_83 : decode b_Sh_solve 83 = .ok (.iload_n 2, 1) := by decide +kernel
theorem d_Sh_solve_84 : decode b_Sh_solve 84 = .ok (.istore_n 2, 1) := by decide +kernel
theorem d_Sh_solve_85 : decode b_Sh_solve 85 = .ok (.iinc 3 1, 3) := by decide +kernel
theorem d_Sh_solve_88 : decode b_Sh_solve 88 = .ok (.goto (-43), 3) := by decide +kernel
theorem d_Sh_solve_91 : decode b_Sh_solve 91 = .ok (.aload_n 0, 1) := by decide +kernel
theorem d_Sh_solve_92 : decode b_Sh_solve 92 = .ok (.getfield 29, 3) := by decide +kernel
theorem d_Sh_solve_95 : decode b_Sh_solve 95 = .ok (.iload_n 1, 1) := by decide +kernel
theorem d_Sh_solve_96 : decode b_Sh_solve 96 = .ok (.aload_n 0, 1) := by decide +kernel
theorem d_Sh_solve_97 : decode b_Sh_solve 97 = .ok (.getfield 29, 3) := by decide +kernel
theorem d_Sh_solve_100 : decode b_Sh_solve 100 = .ok (.iload_n 1, 1) := by decide +kernel
theorem d_Sh_solve_101 : decode b_Sh_solve 101 = .ok (.iconst 1, 1) := by decide +kernel
theorem d_Sh_solve_102 : decode b_Sh_solve 102 = .ok (.iadd, 1) := by decide +kernel
theorem d_Sh_solve_103 : decode b_Sh_solve 103 = .ok (.iaload, 1) := by decide +kernel
theorem d_Sh_solve_104 : decode b_Sh_solve 104 = .ok (.iload_n 2, 1) := by decide +kernel
theorem d_Sh_solve_105 : decode b_Sh_solve 105 = .ok (.iadd, 1) := by decide +kernel
theorem d_Sh_solve_106 : decode b_Sh_solve 106 = .ok (.iastore, 1) := by decide +kernel
theorem d_Sh_solve_107 : decode b_Sh_solve 107 = .ok (.iinc 1 (-1), 3) := by decide +kernel
theorem d_Sh_solve_110 : decode b_Sh_solve 110 = .ok (.goto (-83), 3) := by decide +kernel
theorem d_Sh_solve_113 : decode b_Sh_solve 113 = .ok (.aload_n 0, 1) := by decide +kernel
theorem d_Sh_solve_114 : decode b_Sh_solve 114 = .ok (.iconst 0, 1) := by decide +kernel
theorem d_Sh_solve_115 : decode b_Sh_solve 115 = .ok (.iconst 0, 1) := by decide +kernel
theorem d_Sh_solve_116 : decode b_Sh_solve 116 = .ok (.invokevirtual 69, 3) := by decide +kernel
theorem d_Sh_solve_119 : decode b_Sh_solve 119 = .ok (.return_, 1) := by decide +kernel
theorem o_Sh_solve : OkV y_Sh_solve "OwnsLift$Shares" b_Sh_solve 4 none 0 := ⟨⟨rfl, by decide +kernel, by decide +kernel, by decide +kernel⟩, g_793, g_794, g_78, g_795⟩
set_option maxHeartbeats 4000000 in
set_option maxRecDepth 100000 in
theorem c_Sh_solve (l : Launch) (D : va_G) (g : Nat → ClassId) (a : Nat → Nat) (z : T_Sh) (v : T_Sh) (h : d_Sh_solve z = some v) :
    MV l y_Sh_solve b_Sh_solve 4 ({ frames := 131, cells := 0, slots := 0, locals := 3934 } : Room) D g [.ref (a 0)] (ws_Sh g a z) (ws_Sh g a v) := by
  have hd := h
  unfold d_Sh_solve at hd
  refine enterV rfl (Nat.le_of_ble_eq_true rfl) (fun p e s m below meth c A ls hx hb hml hr hown hg hlk hK hA hP hD hS hCs hl => ?_)
  have hown : s.vm.findClass "OwnsLift$Shares" = some m.cls := hown
  have hl : lv_has ls 4 [(0, .ref (a 0))] := hl
  show GV p l e s m ({ frames := 131, cells := 0, slots := 0, locals := 3934 } : Room) ([.ref (a 0)] : List Value).toArray below meth c A D g (ws_Sh g a v) s.heap [] (F0 m 0 ls [])
  refine lv_aload_n hx hb d_Sh_solve_0 rfl (lv_at hl 0 rfl) ?_
  refine lv_iconst (v := 0) hx hb d_Sh_solve_1 (by decide) ?_
  refine va_put (D := D) (ci := 8) (v := .int 0) (ty := .boolean) (C := R_Sh) (T := F_Sh) (N := 10) hx hb hg i_Sh t_Sh t_Sh_ok n_Sh hown hK hP hD hS 0 rfl rfl 0 (by decide) (hg _ g_323) (fun _ h9 => h9) rfl (by decide +kernel) (by decide +kernel) rfl (Nat.le_of_ble_eq_true rfl) d_Sh_solve_2 (fun H locs hP hD hS => ?_)
  have hP : va_P D classes (ws_Sh g a (u_Sh_found z 0)) H := hP
  have hD : va_D A (ws_Sh g a (u_Sh_found z 0)) := hD
  refine lv_aload_n hx hb d_Sh_solve_5 rfl (lv_at hl 0 rfl) ?_
  refine lv_iconst (v := 0) hx hb d_Sh_solve_6 (by decide) ?_
  refine va_put (D := D) (ci := 8) (v := .int 0) (ty := .int) (C := R_Sh) (T := F_Sh) (N := 10) hx hb hg i_Sh t_Sh t_Sh_ok n_Sh hown hK hP hD hS 0 rfl rfl 1 (by decide) (hg _ g_325) (fun _ h9 => h9) rfl (by decide +kernel) rfl rfl (Nat.le_of_ble_eq_true rfl) d_Sh_solve_7 (fun H locs hP hD hS => ?_)
  have hP : va_P D classes (ws_Sh g a (u_Sh_sum (u_Sh_found z 0) 0)) H := hP
  have hD : va_D A (ws_Sh g a (u_Sh_sum (u_Sh_found z 0) 0)) := hD
  refine lv_aload_n hx hb d_Sh_solve_10 rfl (lv_at hl 0 rfl) ?_
  refine va_get (D := D) (ci := 8) (v := .ref (a 13)) (C := R_Sh) (T := F_Sh) (N := 10) hx hb hg i_Sh hown hK hP 0 rfl rfl 9 (by decide) (hg _ g_335) (fun _ h9 => h9) rfl d_Sh_solve_11 ?_
  refine lv_aload_n hx hb d_Sh_solve_14 rfl (lv_at hl 0 rfl) ?_
  refine va_get (D := D) (ci := 8) (v := .int (q_Sh_things (u_Sh_sum (u_Sh_found z 0) 0))) (C := R_Sh) (T := F_Sh) (N := 10) hx hb hg i_Sh hown hK hP 0 rfl rfl 4 (by decide) (hg _ g_330) (fun _ h9 => h9) rfl d_Sh_solve_15 ?_
  refine lv_iconst (v := 0) hx hb d_Sh_solve_18 (by decide) ?_
  obtain ⟨h_14, hd⟩ := ite_s hd
  refine iastK hx hb hK hP hD hS 13 0 rfl rfl (inb_t h_14) rfl d_Sh_solve_19 (fun H locs hP hD hS => ?_)
  have hP : va_P D classes (ws_Sh g a (u_Sh_hope (u_Sh_sum (u_Sh_found z 0) 0) (upd (q_Sh_hope (u_Sh_sum (u_Sh_found z 0) 0)) (q_Sh_things (u_Sh_sum (u_Sh_found z 0) 0)).toNatClampNeg 0))) H := hP
  have hD : va_D A (ws_Sh g a (u_Sh_hope (u_Sh_sum (u_Sh_found z 0) 0) (upd (q_Sh_hope (u_Sh_sum (u_Sh_found z 0) 0)) (q_Sh_things (u_Sh_sum (u_Sh_found z 0) 0)).toNatClampNeg 0))) := hD
  refine lv_aload_n hx hb d_Sh_solve_20 rfl (lv_at hl 0 rfl) ?_
  refine va_get (D := D) (ci := 8) (v := .int (q_Sh_things (u_Sh_hope (u_Sh_sum (u_Sh_found z 0) 0) (upd (q_Sh_hope (u_Sh_sum (u_Sh_found z 0) 0)) (q_Sh_things (u_Sh_sum (u_Sh_found z 0) 0)).toNatClampNeg 0)))) (C := R_Sh) (T := F_Sh) (N := 10) hx hb hg i_Sh hown hK hP 0 rfl rfl 4 (by decide) (hg _ g_330) (fun _ h9 => h9) rfl d_Sh_solve_21 ?_
  refine lv_iconst (v := 1) hx hb d_Sh_solve_24 (by decide) ?_
  refine lv_isub hx hb d_Sh_solve_25 ?_
  refine lv_istore_n (lv' := [(1, .int ((q_Sh_things (u_Sh_hope (u_Sh_sum (u_Sh_found z 0) 0) (upd (q_Sh_hope (u_Sh_sum (u_Sh_found z 0) 0)) (q_Sh_things (u_Sh_sum (u_Sh_found z 0) 0)).toNatClampNeg 0))) - 1)), (0, .ref (a 0))]) hx hb d_Sh_solve_26 rfl hl (by decide) rfl (fun ls hl => ?_)
  have lp27 : ∀ (n : Nat) (x1_27 : Int32) (z_27 : T_Sh) (H : Heap) (locs : List Loc) (ls : Array Slot), va_P D classes (ws_Sh g a z_27) H → va_D A (ws_Sh g a z_27) → va_S A s.heap H locs → lv_has ls 4 [(0, .ref (a 0)), (1, .int x1_27)] → d_Sh_solve_L27 n x1_27 z_27 = some v → GV p l e s m ({ frames := 131, cells := 0, slots := 0, locals := 3934 } : Room) ([.ref (a 0)] : List Value).toArray below meth c A D g (ws_Sh g a v) H locs (F0 m 27 ls []) := by
    intro n
    induction n with
    | zero =>
      intro  x1_27 z_27 H locs ls hP hD hS hl hd
      have hd : none = some v := hd
      cases hd
    | succ n ih27 =>
      intro  x1_27 z_27 H locs ls hP hD hS hl hd
      have hd : B_Sh_solve_L27 (d_Sh_solve_L27 n) x1_27 z_27 = some v := hd
      generalize d_Sh_solve_L27 n = self27 at ih27 hd
      unfold B_Sh_solve_L27 at hd
      refine lv_iload_n hx hb d_Sh_solve_27 rfl (lv_at hl 1 rfl) ?_
      refine lv_if_lt (tgt := 113) hx hb d_Sh_solve_28 (by decide) (fun h_1 => ?_) (fun h_1 => ?_)
      · have hd := ite_t hd h_1
        refine lv_aload_n hx hb d_Sh_solve_113 rfl (lv_at hl 0 rfl) ?_
        refine lv_iconst (v := 0) hx hb d_Sh_solve_114 (by decide) ?_
        refine lv_iconst (v := 0) hx hb d_Sh_solve_115 (by decide) ?_
        obtain ⟨v_2, e_3, hd⟩ := bind_s hd
        refine callVV (ws' := ws_Sh g a v_2) (rest := []) (As := [.int 0, .int 0]) hx hb hml hown hg hK hP hD hS hA hCs hl.1 (c_Sh_deal 64 l D g a 0 0 z_27 _ e_3) o_Sh_deal g_797 (ci := 8) (q0 := 0) rfl rfl (List.range' 0 14) (segC1 rfl rfl) (by decide) rfl (segP1 rfl rfl) rfl rfl (Nat.le_of_ble_eq_true rfl) ⟨rfl, rfl, Nat.le_of_ble_eq_true rfl, Nat.le_of_ble_eq_true rfl⟩ d_Sh_solve_116 (fun H locs hP hD hS => ?_)
        obtain rfl := Option.some.inj hd
        exact retV hx hb hr hlk hK hP hD hS d_Sh_solve_119
      · have hd := ite_f hd h_1
        refine lv_aload_n hx hb d_Sh_solve_31 rfl (lv_at hl 0 rfl) ?_
        refine va_get (D := D) (ci := 8) (v := .ref (a 2)) (C := R_Sh) (T := F_Sh) (N := 10) hx hb hg i_Sh hown hK hP 0 rfl rfl 5 (by decide) (hg _ g_331) (fun _ h9 => h9) rfl d_Sh_solve_32 ?_
        refine lv_iload_n hx hb d_Sh_solve_35 rfl (lv_at hl 1 rfl) ?_
        obtain ⟨h_4, hd⟩ := ite_s hd
        refine aldA hx hb hK hP 2 rfl (inb_t h_4) d_Sh_solve_36 ?_
        refine lv_aload_n hx hb d_Sh_solve_37 rfl (lv_at hl 0 rfl) ?_
        refine va_get (D := D) (ci := 8) (v := .int (q_Sh_people z_27)) (C := R_Sh) (T := F_Sh) (N := 10) hx hb hg i_Sh hown hK hP 0 rfl rfl 3 (by decide) (hg _ g_329) (fun _ h9 => h9) rfl d_Sh_solve_38 ?_
        obtain ⟨h_5, hd⟩ := ite_s hd
        refine ialdK hx hb hK hP (3 + x1_27.toNatClampNeg) 0 ((show ∀ k, k < 7 → (ws_Sh g a z_27)[3 + k]? = some (a (k + 3), .inl (g 0, 5, .inl ((q_Sh_worth z_27) k))) from fun k hk => match k, hk with | 0, _ => rfl | 1, _ => rfl | 2, _ => rfl | 3, _ => rfl | 4, _ => rfl | 5, _ => rfl | 6, _ => rfl | k + 7, hk => absurd hk (by omega)) _ (vp_lt (inb_t h_4))) rfl (inb_t h_5) rfl d_Sh_solve_41 ?_
        refine lv_istore_n (lv' := [(2, .int ((q_Sh_worth z_27) x1_27.toNatClampNeg (q_Sh_people z_27).toNatClampNeg)), (0, .ref (a 0)), (1, .int x1_27)]) hx hb d_Sh_solve_42 rfl hl (by decide) rfl (fun ls hl => ?_)
        refine lv_iconst (v := 0) hx hb d_Sh_solve_43 (by decide) ?_
        refine lv_istore_n (lv' := [(3, .int 0), (2, .int ((q_Sh_worth z_27) x1_27.toNatClampNeg (q_Sh_people z_27).toNatClampNeg)), (0, .ref (a 0)), (1, .int x1_27)]) hx hb d_Sh_solve_44 rfl hl (by decide) rfl (fun ls hl => ?_)
        have ex45_91 : ∀ (x2_45 : Int32) (H : Heap) (locs : List Loc) (ls : Array Slot), va_P D classes (ws_Sh g a z_27) H → va_D A (ws_Sh g a z_27) → va_S A s.heap H locs → lv_has ls 4 [(0, .ref (a 0)), (1, .int x1_27), (2, .int x2_45)] → (if inb (x1_27 + 1) 8 = true then (if inb x1_27 8 = true then (self27 (x1_27 + (-1)) (u_Sh_hope z_27 (upd (q_Sh_hope z_27) x1_27.toNatClampNeg (((q_Sh_hope z_27) (x1_27 + 1).toNatClampNeg) + x2_45)))) else none) else none) = some v → GV p l e s m ({ frames := 131, cells := 0, slots := 0, locals := 3934 } : Room) ([.ref (a 0)] : List Value).toArray below meth c A D g (ws_Sh g a v) H locs (F0 m 91 ls []) := by
          intro x2_45 H locs ls hP hD hS hl hd
          refine lv_aload_n hx hb d_Sh_solve_91 rfl (lv_at hl 0 rfl) ?_
          refine va_get (D := D) (ci := 8) (v := .ref (a 13)) (C := R_Sh) (T := F_Sh) (N := 10) hx hb hg i_Sh hown hK hP 0 rfl rfl 9 (by decide) (hg _ g_335) (fun _ h9 => h9) rfl d_Sh_solve_92 ?_
          refine lv_iload_n hx hb d_Sh_solve_95 rfl (lv_at hl 1 rfl) ?_
          refine lv_aload_n hx hb d_Sh_solve_96 rfl (lv_at hl 0 rfl) ?_
          refine va_get (D := D) (ci := 8) (v := .ref (a 13)) (C := R_Sh) (T := F_Sh) (N := 10) hx hb hg i_Sh hown hK hP 0 rfl rfl 9 (by decide) (hg _ g_335) (fun _ h9 => h9) rfl d_Sh_solve_97 ?_
          refine lv_iload_n hx hb d_Sh_solve_100 rfl (lv_at hl 1 rfl) ?_
          refine lv_iconst (v := 1) hx hb d_Sh_solve_101 (by decide) ?_
          refine lv_iadd hx hb d_Sh_solve_102 ?_
          obtain ⟨h_13, hd⟩ := ite_s hd
          refine ialdK hx hb hK hP 13 0 rfl rfl (inb_t h_13) rfl d_Sh_solve_103 ?_
          refine lv_iload_n hx hb d_Sh_solve_104 rfl (lv_at hl 2 rfl) ?_
          refine lv_iadd hx hb d_Sh_solve_105 ?_
          obtain ⟨h_12, hd⟩ := ite_s hd
          refine iastK hx hb hK hP hD hS 13 0 rfl rfl (inb_t h_12) rfl d_Sh_solve_106 (fun H locs hP hD hS => ?_)
          have hP : va_P D classes (ws_Sh g a (u_Sh_hope z_27 (upd (q_Sh_hope z_27) x1_27.toNatClampNeg (((q_Sh_hope z_27) (x1_27 + 1).toNatClampNeg) + x2_45)))) H := hP
          have hD : va_D A (ws_Sh g a (u_Sh_hope z_27 (upd (q_Sh_hope z_27) x1_27.toNatClampNeg (((q_Sh_hope z_27) (x1_27 + 1).toNatClampNeg) + x2_45)))) := hD
          refine lv_iinc (v := x1_27 + (-1)) (lv' := [(1, .int (x1_27 + (-1))), (0, .ref (a 0)), (2, .int x2_45)]) hx hb d_Sh_solve_107 hl (k := 1) rfl (by rfl) (by decide) rfl (fun ls hl => ?_)
          refine lv_goto (tgt := 27) hx hb d_Sh_solve_110 (by decide) ?_
          exact ih27 (x1_27 + (-1)) (u_Sh_hope z_27 (upd (q_Sh_hope z_27) x1_27.toNatClampNeg (((q_Sh_hope z_27) (x1_27 + 1).toNatClampNeg) + x2_45))) _ _ _ hP hD hS (lv_sub hl [1, 0] rfl) hd
        have lp45 : ∀ (x1_f45 : Int32) (z_f45 : T_Sh) (k45_91 : Int32 → Option (T_Sh)) (hk45_91 : ∀ (x2_45 : Int32) (H : Heap) (locs : List Loc) (ls : Array Slot), va_P D classes (ws_Sh g a z_f45) H → va_D A (ws_Sh g a z_f45) → va_S A s.heap H locs → lv_has ls 4 [(0, .ref (a 0)), (1, .int x1_f45), (2, .int x2_45)] → k45_91 x2_45 = some v → GV p l e s m ({ frames := 131, cells := 0, slots := 0, locals := 3934 } : Room) ([.ref (a 0)] : List Value).toArray below meth c A D g (ws_Sh g a v) H locs (F0 m 91 ls [])) (n : Nat) (x2_45 : Int32) (x3_45 : Int32) (H : Heap) (locs : List Loc) (ls : Array Slot), va_P D classes (ws_Sh g a z_f45) H → va_D A (ws_Sh g a z_f45) → va_S A s.heap H locs → lv_has ls 4 [(0, .ref (a 0)), (1, .int x1_f45), (2, .int x2_45), (3, .int x3_45)] → d_Sh_solve_L45 x1_f45 z_f45 k45_91 n x2_45 x3_45 = some v → GV p l e s m ({ frames := 131, cells := 0, slots := 0, locals := 3934 } : Room) ([.ref (a 0)] : List Value).toArray below meth c A D g (ws_Sh g a v) H locs (F0 m 45 ls []) := by
          intro x1_f45 z_f45 k45_91 hk45_91 n
          induction n with
          | zero =>
            intro  x2_45 x3_45 H locs ls hP hD hS hl hd
            have hd : none = some v := hd
            cases hd
          | succ n ih45 =>
            intro  x2_45 x3_45 H locs ls hP hD hS hl hd
            have hd : B_Sh_solve_L45 x1_f45 z_f45 k45_91 (d_Sh_solve_L45 x1_f45 z_f45 k45_91 n) x2_45 x3_45 = some v := hd
            generalize d_Sh_solve_L45 x1_f45 z_f45 k45_91 n = self45 at ih45 hd
            unfold B_Sh_solve_L45 at hd
            refine lv_iload_n hx hb d_Sh_solve_45 rfl (lv_at hl 3 rfl) ?_
            refine lv_aload_n hx hb d_Sh_solve_46 rfl (lv_at hl 0 rfl) ?_
            refine va_get (D := D) (ci := 8) (v := .int (q_Sh_people z_f45)) (C := R_Sh) (T := F_Sh) (N := 10) hx hb hg i_Sh hown hK hP 0 rfl rfl 3 (by decide) (hg _ g_329) (fun _ h9 => h9) rfl d_Sh_solve_47 ?_
            refine lv_icmp_ge (tgt := 91) hx hb d_Sh_solve_50 (by decide) (fun h_6 => ?_) (fun h_6 => ?_)
            · have hd := ite_t hd h_6
              exact hk45_91 x2_45 _ _ _ hP hD hS (lv_sub hl [0, 1, 2] rfl) hd
            · have hd := ite_f hd h_6
              refine lv_aload_n hx hb d_Sh_solve_53 rfl (lv_at hl 0 rfl) ?_
              refine va_get (D := D) (ci := 8) (v := .ref (a 10)) (C := R_Sh) (T := F_Sh) (N := 10) hx hb hg i_Sh hown hK hP 0 rfl rfl 6 (by decide) (hg _ g_332) (fun _ h9 => h9) rfl d_Sh_solve_54 ?_
              refine lv_iload_n hx hb d_Sh_solve_57 rfl (lv_at hl 1 rfl) ?_
              obtain ⟨h_11, hd⟩ := ite_s hd
              refine ialdK hx hb hK hP 10 0 rfl rfl (inb_t h_11) rfl d_Sh_solve_58 ?_
              refine lv_aload_n hx hb d_Sh_solve_59 rfl (lv_at hl 0 rfl) ?_
              refine va_get (D := D) (ci := 8) (v := .ref (a 11)) (C := R_Sh) (T := F_Sh) (N := 10) hx hb hg i_Sh hown hK hP 0 rfl rfl 7 (by decide) (hg _ g_333) (fun _ h9 => h9) rfl d_Sh_solve_60 ?_
              refine lv_iload_n hx hb d_Sh_solve_63 rfl (lv_at hl 3 rfl) ?_
              obtain ⟨h_10, hd⟩ := ite_s hd
              refine ialdK hx hb hK hP 11 0 rfl rfl (inb_t h_10) rfl d_Sh_solve_64 ?_
              refine lv_icmp_gt (tgt := 83) hx hb d_Sh_solve_65 (by decide) (fun h_7 => ?_) (fun h_7 => ?_)
              · have hd := ite_t hd h_7
                refine lv_iload_n hx hb d_Sh_solve_83 rfl (lv_at hl 2 rfl) ?_
                refine lv_istore_n (lv' := [(2, .int x2_45), (0, .ref (a 0)), (1, .int x1_f45), (3, .int x3_45)]) hx hb d_Sh_solve_84 rfl hl (by decide) rfl (fun ls hl => ?_)
                refine lv_iinc (v := x3_45 + 1) (lv' := [(3, .int (x3_45 + 1)), (2, .int x2_45), (0, .ref (a 0)), (1, .int x1_f45)]) hx hb d_Sh_solve_85 hl (k := 3) rfl (by rfl) (by decide) rfl (fun ls hl => ?_)
                refine lv_goto (tgt := 45) hx hb d_Sh_solve_88 (by decide) ?_
                exact ih45 x2_45 (x3_45 + 1) _ _ _ hP hD hS (lv_sub hl [2, 3, 1, 0] rfl) hd
              · have hd := ite_f hd h_7
                refine lv_iload_n hx hb d_Sh_solve_68 rfl (lv_at hl 2 rfl) ?_
                refine lv_aload_n hx hb d_Sh_solve_69 rfl (lv_at hl 0 rfl) ?_
                refine va_get (D := D) (ci := 8) (v := .ref (a 2)) (C := R_Sh) (T := F_Sh) (N := 10) hx hb hg i_Sh hown hK hP 0 rfl rfl 5 (by decide) (hg _ g_331) (fun _ h9 => h9) rfl d_Sh_solve_70 ?_
                refine lv_iload_n hx hb d_Sh_solve_73 rfl (lv_at hl 1 rfl) ?_
                obtain ⟨h_8, hd⟩ := ite_s hd
                refine aldA hx hb hK hP 2 rfl (inb_t h_8) d_Sh_solve_74 ?_
                refine lv_iload_n hx hb d_Sh_solve_75 rfl (lv_at hl 3 rfl) ?_
                obtain ⟨h_9, hd⟩ := ite_s hd
                refine ialdK hx hb hK hP (3 + x1_f45.toNatClampNeg) 0 ((show ∀ k, k < 7 → (ws_Sh g a z_f45)[3 + k]? = some (a (k + 3), .inl (g 0, 5, .inl ((q_Sh_worth z_f45) k))) from fun k hk => match k, hk with | 0, _ => rfl | 1, _ => rfl | 2, _ => rfl | 3, _ => rfl | 4, _ => rfl | 5, _ => rfl | 6, _ => rfl | k + 7, hk => absurd hk (by omega)) _ (vp_lt (inb_t h_8))) rfl (inb_t h_9) rfl d_Sh_solve_76 ?_
                refine va_mmax hx hb (hml.trans hl.1.symm) hown (hg _ g_796) (hg _ k_max_s) (hg _ k_math_i) (hg _ k_max_c) (Nat.le_of_ble_eq_true rfl) (Nat.le_of_ble_eq_true rfl) (Nat.zero_le _) (Nat.zero_le _) d_Sh_solve_77 ?_
                refine lv_goto (tgt := 84) hx hb d_Sh_solve_80 (by decide) ?_
                refine lv_istore_n (lv' := [(2, .int (if x2_45 < ((q_Sh_worth z_f45) x1_f45.toNatClampNeg x3_45.toNatClampNeg) then ((q_Sh_worth z_f45) x1_f45.toNatClampNeg x3_45.toNatClampNeg) else x2_45)), (0, .ref (a 0)), (1, .int x1_f45), (3, .int x3_45)]) hx hb d_Sh_solve_84 rfl hl (by decide) rfl (fun ls hl => ?_)
                refine lv_iinc (v := x3_45 + 1) (lv' := [(3, .int (x3_45 + 1)), (2, .int (if x2_45 < ((q_Sh_worth z_f45) x1_f45.toNatClampNeg x3_45.toNatClampNeg) then ((q_Sh_worth z_f45) x1_f45.toNatClampNeg x3_45.toNatClampNeg) else x2_45)), (0, .ref (a 0)), (1, .int x1_f45)]) hx hb d_Sh_solve_85 hl (k := 3) rfl (by rfl) (by decide) rfl (fun ls hl => ?_)
                refine lv_goto (tgt := 45) hx hb d_Sh_solve_88 (by decide) ?_
                exact ih45 (if x2_45 < ((q_Sh_worth z_f45) x1_f45.toNatClampNeg x3_45.toNatClampNeg) then ((q_Sh_worth z_f45) x1_f45.toNatClampNeg x3_45.toNatClampNeg) else x2_45) (x3_45 + 1) _ _ _ hP hD hS (lv_sub hl [2, 3, 1, 0] rfl) hd
        exact lp45 x1_27 z_27 _ ex45_91 1000 ((q_Sh_worth z_27) x1_27.toNatClampNeg (q_Sh_people z_27).toNatClampNeg) 0 _ _ _ hP hD hS (lv_sub hl [2, 3, 1, 0] rfl) hd
  exact lp27 1000 ((q_Sh_things (u_Sh_hope (u_Sh_sum (u_Sh_found z 0) 0) (upd (q_Sh_hope (u_Sh_sum (u_Sh_found z 0) 0)) (q_Sh_things (u_Sh_sum (u_Sh_found z 0) 0)).toNatClampNeg 0))) - 1) (u_Sh_hope (u_Sh_sum (u_Sh_found z 0) 0) (upd (q_Sh_hope (u_Sh_sum (u_Sh_found z 0) 0)) (q_Sh_things (u_Sh_sum (u_Sh_found z 0) 0)).toNatClampNeg 0)) _ _ _ hP hD hS (lv_sub hl [1, 0] rfl) hd
-- OwnsLift$Shares.byNumber(LOwnsLift$Standing;)V
def B_Sh_byNumber_L17 (x2_f17 : Int32) (w : T_St) (k17_40 : T_Sh → Option (T_Sh)) (self17 : Int32 → T_Sh → Option (T_Sh)) (x3_17 : Int32) (z_17 : T_Sh) : Option (T_Sh) :=
  if (q_Sh_people z_17) ≤ x3_17 then (k17_40 z_17) else (if inb x2_f17 7 = true then (if inb x3_17 5 = true then (self17 (x3_17 + 1) (u_Sh_worth z_17 (upd2 (q_Sh_worth z_17) x2_f17.toNatClampNeg x3_17.toNatClampNeg 1))) else none) else none)
def d_Sh_byNumber_L17 (x2_f17 : Int32) (w : T_St) (k17_40 : T_Sh → Option (T_Sh)) (n : Nat) : Int32 → T_Sh → Option (T_Sh) := recN (fun _ _ => none) (fun self => B_Sh_byNumber_L17 x2_f17 w k17_40 self) n
def B_Sh_byNumber_L7 (w : T_St) (self7 : Int32 → T_Sh → Option (T_Sh)) (x2_7 : Int32) (z_7 : T_Sh) : Option (T_Sh) :=
  if (q_Sh_things z_7) ≤ x2_7 then (some (z_7)) else (d_Sh_byNumber_L17 x2_7 w (fun z_17 => if inb x2_7 7 = true then (if inb (q_Sh_people z_17) 5 = true then (self7 (x2_7 + 1) (u_Sh_worth z_17 (upd2 (q_Sh_worth z_17) x2_7.toNatClampNeg (q_Sh_people z_17).toNatClampNeg 0))) else none) else none) 1000 0 z_7)
def d_Sh_byNumber_L7 (w : T_St) (n : Nat) : Int32 → T_Sh → Option (T_Sh) := recN (fun _ _ => none) (fun self => B_Sh_byNumber_L7 w self) n
def d_Sh_byNumber (z : T_Sh) (w : T_St) : Option (T_Sh) :=
  (d_Sh_begin z w).bind fun v_1 => d_Sh_byNumber_L7 w  1000 0 v_1
theorem d_Sh_byNumber_0 : decode b_Sh_byNumber 0 = .ok (.aload_n 0, 1) := by decide +kernel
theorem d_Sh_byNumber_1 : decode b_Sh_byNumber 1 = .ok (.aload_n 1, 1) := by decide +kernel
theorem d_Sh_byNumber_2 : decode b_Sh_byNumber 2 = .ok (.invokevirtual 32, 3) := by decide +kernel
theorem d_Sh_byNumber_5 : decode b_Sh_byNumber 5 = .ok (.iconst 0, 1) := by decide +kernel
theorem d_Sh_byNumber_6 : decode b_Sh_byNumber 6 = .ok (.istore_n 2, 1) := by decide +kernel
theorem d_Sh_byNumber_7 : decode b_Sh_byNumber 7 = .ok (.iload_n 2, 1) := by decide +kernel
theorem d_Sh_byNumber_8 : decode b_Sh_byNumber 8 = .ok (.aload_n 0, 1) := by decide +kernel
theorem d_Sh_byNumber_9 : decode b_Sh_byNumber 9 = .ok (.getfield 36, 3) := by decide +kernel
theorem d_Sh_byNumber_12 : decode b_Sh_byNumber 12 = .ok (.if_icmp .ge 46, 3) := by decide +kernel
theorem d_Sh_byNumber_15 : decode b_Sh_byNumber 15 = .ok (.iconst 0, 1) := by decide +kernel
theorem d_Sh_byNumber_16 : decode b_Sh_byNumber 16 = .ok (.istore_n 3, 1) := by decide +kernel
theorem d_Sh_byNumber_17 : decode b_Sh_byNumber 17 = .ok (.iload_n 3, 1) := by decide +kernel
theorem d_Sh_byNumber_18 : decode b_Sh_byNumber 18 = .ok (.aload_n 0, 1) := by decide +kernel
theorem d_Sh_byNumber_19 : decode b_Sh_byNumber 19 = .ok (.getfield 40, 3) := by decide +kernel
theorem d_Sh_byNumber_22 : decode b_Sh_byNumber 22 = .ok (.if_icmp .ge 18, 3) := by decide +kernel
theorem d_Sh_byNumber_25 : decode b_Sh_byNumber 25 = .ok (.aload_n 0, 1) := by decide +kernel
theorem d_Sh_byNumber_26 : decode b_Sh_byNumber 26 = .ok (.getfield 17, 3) := by decide +kernel
theorem d_Sh_byNumber_29 : decode b_Sh_byNumber 29 = .ok (.iload_n 2, 1) := by decide +kernel
theorem d_Sh_byNumber_30 : decode b_Sh_byNumber 30 = .ok (.aaload, 1) := by decide +kernel
theorem d_Sh_byNumber_31 : decode b_Sh_byNumber 31 = .ok (.iload_n 3, 1) := by decide +kernel
theorem d_Sh_byNumber_32 : decode b_Sh_byNumber 32 = .ok (.iconst 1, 1) := by decide +kernel
theorem d_Sh_byNumber_33 : decode b_Sh_byNumber 33 = .ok (.iastore, 1) := by decide +kernel
theorem d_Sh_byNumber_34 : decode b_Sh_byNumber 34 = .ok (.iinc 3 1, 3) := by decide +kernel
theorem d_Sh_byNumber_37 : decode b_Sh_byNumber 37 = .ok (.goto (-20), 3) := by decide +kernel
theorem d_Sh_byNumber_40 : decode b_Sh_byNumber 40 = .ok (.aload_n 0, 1) := by decide +kernel
theorem d_Sh_byNumber_41 : decode b_Sh_byNumber 41 = .ok (.getfield 17, 3) := by decide +kernel
theorem d_Sh_byNumber_44 : decode b_Sh_byNumber 44 = .ok (.iload_n 2, 1) := by decide +kernel
theorem d_Sh_byNumber_45 : decode b_Sh_byNumber 45 = .ok (.aaload, 1) := by decide +kernel
theorem d_Sh_byNumber_46 : decode b_Sh_byNumber 46 = .ok (.aload_n 0, 1) := by decide +kernel
theorem d_Sh_byNumber_47 : decode b_Sh_byNumber 47 = .ok (.getfield 40, 3) := by decide +kernel
theorem d_Sh_byNumber_50 : decode b_Sh_byNumber 50 = .ok (.iconst 0, 1) := by decide +kernel
theorem d_Sh_byNumber_51 : decode b_Sh_byNumber 51 = .ok (.iastore, 1) := by decide +kernel
theorem d_Sh_byNumber_52 : decode b_Sh_byNumber 52 = .ok (.iinc 2 1, 3) := by decide +kernel
theorem d_Sh_byNumber_55 : decode b_Sh_byNumber 55 = .ok (.goto (-48), 3) := by decide +kernel
theorem d_Sh_byNumber_58 : decode b_Sh_byNumber 58 = .ok (.return_, 1) := by decide +kernel
theorem o_Sh_byNumber : OkV y_Sh_byNumber "OwnsLift$Shares" b_Sh_byNumber 4 none 1 := ⟨⟨rfl, by decide +kernel, by decide +kernel, by decide +kernel⟩, g_808, g_809, g_78, g_810⟩
set_option maxHeartbeats 4000000 in
set_option maxRecDepth 100000 in
theorem c_Sh_byNumber (l : Launch) (D : va_G) (g : Nat → ClassId) (a : Nat → Nat) (b : Nat → Nat) (z : T_Sh) (w : T_St) (v : T_Sh) (h : d_Sh_byNumber z w = some v) :
    MV l y_Sh_byNumber b_Sh_byNumber 4 ({ frames := 1, cells := 0, slots := 0, locals := 22 } : Room) D g [.ref (a 0), .ref (b 0)] (ws_Sh g a z ++ ws_St g b w) (ws_Sh g a v ++ ws_St g b w) := by
  have hd := h
  unfold d_Sh_byNumber at hd
  refine enterV rfl (Nat.le_of_ble_eq_true rfl) (fun p e s m below meth c A ls hx hb hml hr hown hg hlk hK hA hP hD hS hCs hl => ?_)
  have hown : s.vm.findClass "OwnsLift$Shares" = some m.cls := hown
  have hl : lv_has ls 4 [(0, .ref (a 0)), (1, .ref (b 0))] := hl
  show GV p l e s m ({ frames := 1, cells := 0, slots := 0, locals := 22 } : Room) ([.ref (a 0), .ref (b 0)] : List Value).toArray below meth c A D g (ws_Sh g a v ++ ws_St g b w) s.heap [] (F0 m 0 ls [])
  refine lv_aload_n hx hb d_Sh_byNumber_0 rfl (lv_at hl 0 rfl) ?_
  refine lv_aload_n hx hb d_Sh_byNumber_1 rfl (lv_at hl 1 rfl) ?_
  obtain ⟨v_1, e_2, hd⟩ := bind_s hd
  refine callVV (ws' := ws_Sh g a v_1 ++ ws_St g b w) (rest := []) (As := [.ref (b 0)]) hx hb hml hown hg hK hP hD hS hA hCs hl.1 (c_Sh_begin l D g a b z w _ e_2) o_Sh_begin g_788 (ci := 8) (q0 := 0) rfl rfl (List.range' 0 14 ++ List.range' 14 10) (segC2 rfl rfl rfl rfl) (by decide) rfl (segP2 rfl rfl rfl) rfl rfl (Nat.le_of_ble_eq_true rfl) ⟨rfl, rfl, Nat.le_of_ble_eq_true rfl, Nat.le_of_ble_eq_true rfl⟩ d_Sh_byNumber_2 (fun H locs hP hD hS => ?_)
  refine lv_iconst (v := 0) hx hb d_Sh_byNumber_5 (by decide) ?_
  refine lv_istore_n (lv' := [(2, .int 0), (0, .ref (a 0)), (1, .ref (b 0))]) hx hb d_Sh_byNumber_6 rfl hl (by decide) rfl (fun ls hl => ?_)
  have lp7 : ∀ (n : Nat) (x2_7 : Int32) (z_7 : T_Sh) (H : Heap) (locs : List Loc) (ls : Array Slot), va_P D classes (ws_Sh g a z_7 ++ ws_St g b w) H → va_D A (ws_Sh g a z_7 ++ ws_St g b w) → va_S A s.heap H locs → lv_has ls 4 [(0, .ref (a 0)), (2, .int x2_7)] → d_Sh_byNumber_L7 w n x2_7 z_7 = some v → GV p l e s m ({ frames := 1, cells := 0, slots := 0, locals := 22 } : Room) ([.ref (a 0), .ref (b 0)] : List Value).toArray below meth c A D g (ws_Sh g a v ++ ws_St g b w) H locs (F0 m 7 ls []) := by
    intro n
    induction n with
    | zero =>
      intro  x2_7 z_7 H locs ls hP hD hS hl hd
      have hd : none = some v := hd
      cases hd
    | succ n ih7 =>
      intro  x2_7 z_7 H locs ls hP hD hS hl hd
      have hd : B_Sh_byNumber_L7 w (d_Sh_byNumber_L7 w n) x2_7 z_7 = some v := hd
      generalize d_Sh_byNumber_L7 w n = self7 at ih7 hd
      unfold B_Sh_byNumber_L7 at hd
      refine lv_iload_n hx hb d_Sh_byNumber_7 rfl (lv_at hl 1 rfl) ?_
      refine lv_aload_n hx hb d_Sh_byNumber_8 rfl (lv_at hl 0 rfl) ?_
      refine va_get (D := D) (ci := 8) (v := .int (q_Sh_things z_7)) (C := R_Sh) (T := F_Sh) (N := 10) hx hb hg i_Sh hown hK hP 0 rfl rfl 4 (by decide) (hg _ g_330) (fun _ h9 => h9) rfl d_Sh_byNumber_9 ?_
      refine lv_icmp_ge (tgt := 58) hx hb d_Sh_byNumber_12 (by decide) (fun h_3 => ?_) (fun h_3 => ?_)
      · have hd := ite_t hd h_3
        obtain rfl := Option.some.inj hd
        exact retV hx hb hr hlk hK hP hD hS d_Sh_byNumber_58
      · have hd := ite_f hd h_3
        refine lv_iconst (v := 0) hx hb d_Sh_byNumber_15 (by decide) ?_
        refine lv_istore_n (lv' := [(3, .int 0), (0, .ref (a 0)), (2, .int x2_7)]) hx hb d_Sh_byNumber_16 rfl hl (by decide) rfl (fun ls hl => ?_)
        have ex17_40 : ∀ (z_17 : T_Sh) (H : Heap) (locs : List Loc) (ls : Array Slot), va_P D classes (ws_Sh g a z_17 ++ ws_St g b w) H → va_D A (ws_Sh g a z_17 ++ ws_St g b w) → va_S A s.heap H locs → lv_has ls 4 [(0, .ref (a 0)), (2, .int x2_7)] → (if inb x2_7 7 = true then (if inb (q_Sh_people z_17) 5 = true then (self7 (x2_7 + 1) (u_Sh_worth z_17 (upd2 (q_Sh_worth z_17) x2_7.toNatClampNeg (q_Sh_people z_17).toNatClampNeg 0))) else none) else none) = some v → GV p l e s m ({ frames := 1, cells := 0, slots := 0, locals := 22 } : Room) ([.ref (a 0), .ref (b 0)] : List Value).toArray below meth c A D g (ws_Sh g a v ++ ws_St g b w) H locs (F0 m 40 ls []) := by
          intro z_17 H locs ls hP hD hS hl hd
          refine lv_aload_n hx hb d_Sh_byNumber_40 rfl (lv_at hl 0 rfl) ?_
          refine va_get (D := D) (ci := 8) (v := .ref (a 2)) (C := R_Sh) (T := F_Sh) (N := 10) hx hb hg i_Sh hown hK hP 0 rfl rfl 5 (by decide) (hg _ g_331) (fun _ h9 => h9) rfl d_Sh_byNumber_41 ?_
          refine lv_iload_n hx hb d_Sh_byNumber_44 rfl (lv_at hl 1 rfl) ?_
          obtain ⟨h_8, hd⟩ := ite_s hd
          refine aldA hx hb hK hP 2 rfl (inb_t h_8) d_Sh_byNumber_45 ?_
          refine lv_aload_n hx hb d_Sh_byNumber_46 rfl (lv_at hl 0 rfl) ?_
          refine va_get (D := D) (ci := 8) (v := .int (q_Sh_people z_17)) (C := R_Sh) (T := F_Sh) (N := 10) hx hb hg i_Sh hown hK hP 0 rfl rfl 3 (by decide) (hg _ g_329) (fun _ h9 => h9) rfl d_Sh_byNumber_47 ?_
          refine lv_iconst (v := 0) hx hb d_Sh_byNumber_50 (by decide) ?_
          obtain ⟨h_9, hd⟩ := ite_s hd
          have hset_10 := (show ∀ k, k < 7 → (ws_Sh g a z_17 ++ ws_St g b w).set (3 + k) (a (k + 3), .inl (g 0, 5, .inl (upd ((q_Sh_worth z_17) k) (q_Sh_people z_17).toNatClampNeg 0))) = ws_Sh g a (u_Sh_worth z_17 (upd2 (q_Sh_worth z_17) k (q_Sh_people z_17).toNatClampNeg 0)) ++ ws_St g b w from fun k hk => match k, hk with | 0, _ => rfl | 1, _ => rfl | 2, _ => rfl | 3, _ => rfl | 4, _ => rfl | 5, _ => rfl | 6, _ => rfl | k + 7, hk => absurd hk (by omega)) _ (vp_lt (inb_t h_8))
          refine iastK hx hb hK hP hD hS (3 + x2_7.toNatClampNeg) 0 ((show ∀ k, k < 7 → (ws_Sh g a z_17 ++ ws_St g b w)[3 + k]? = some (a (k + 3), .inl (g 0, 5, .inl ((q_Sh_worth z_17) k))) from fun k hk => match k, hk with | 0, _ => rfl | 1, _ => rfl | 2, _ => rfl | 3, _ => rfl | 4, _ => rfl | 5, _ => rfl | 6, _ => rfl | k + 7, hk => absurd hk (by omega)) _ (vp_lt (inb_t h_8))) rfl (inb_t h_9) rfl d_Sh_byNumber_51 (fun H locs hP hD hS => ?_)
          rw [hset_10] at hP hD
          refine lv_iinc (v := x2_7 + 1) (lv' := [(2, .int (x2_7 + 1)), (0, .ref (a 0))]) hx hb d_Sh_byNumber_52 hl (k := 1) rfl (by rfl) (by decide) rfl (fun ls hl => ?_)
          refine lv_goto (tgt := 7) hx hb d_Sh_byNumber_55 (by decide) ?_
          exact ih7 (x2_7 + 1) (u_Sh_worth z_17 (upd2 (q_Sh_worth z_17) x2_7.toNatClampNeg (q_Sh_people z_17).toNatClampNeg 0)) _ _ _ hP hD hS (lv_sub hl [1, 0] rfl) hd
        have lp17 : ∀ (x2_f17 : Int32) (k17_40 : T_Sh → Option (T_Sh)) (hk17_40 : ∀ (z_17 : T_Sh) (H : Heap) (locs : List Loc) (ls : Array Slot), va_P D classes (ws_Sh g a z_17 ++ ws_St g b w) H → va_D A (ws_Sh g a z_17 ++ ws_St g b w) → va_S A s.heap H locs → lv_has ls 4 [(0, .ref (a 0)), (2, .int x2_f17)] → k17_40 z_17 = some v → GV p l e s m ({ frames := 1, cells := 0, slots := 0, locals := 22 } : Room) ([.ref (a 0), .ref (b 0)] : List Value).toArray below meth c A D g (ws_Sh g a v ++ ws_St g b w) H locs (F0 m 40 ls [])) (n : Nat) (x3_17 : Int32) (z_17 : T_Sh) (H : Heap) (locs : List Loc) (ls : Array Slot), va_P D classes (ws_Sh g a z_17 ++ ws_St g b w) H → va_D A (ws_Sh g a z_17 ++ ws_St g b w) → va_S A s.heap H locs → lv_has ls 4 [(0, .ref (a 0)), (2, .int x2_f17), (3, .int x3_17)] → d_Sh_byNumber_L17 x2_f17 w k17_40 n x3_17 z_17 = some v → GV p l e s m ({ frames := 1, cells := 0, slots := 0, locals := 22 } : Room) ([.ref (a 0), .ref (b 0)] : List Value).toArray below meth c A D g (ws_Sh g a v ++ ws_St g b w) H locs (F0 m 17 ls []) := by
          intro x2_f17 k17_40 hk17_40 n
          induction n with
          | zero =>
            intro  x3_17 z_17 H locs ls hP hD hS hl hd
            have hd : none = some v := hd
            cases hd
          | succ n ih17 =>
            intro  x3_17 z_17 H locs ls hP hD hS hl hd
            have hd : B_Sh_byNumber_L17 x2_f17 w k17_40 (d_Sh_byNumber_L17 x2_f17 w k17_40 n) x3_17 z_17 = some v := hd
            generalize d_Sh_byNumber_L17 x2_f17 w k17_40 n = self17 at ih17 hd
            unfold B_Sh_byNumber_L17 at hd
            refine lv_iload_n hx hb d_Sh_byNumber_17 rfl (lv_at hl 2 rfl) ?_
            refine lv_aload_n hx hb d_Sh_byNumber_18 rfl (lv_at hl 0 rfl) ?_
            refine va_get (D := D) (ci := 8) (v := .int (q_Sh_people z_17)) (C := R_Sh) (T := F_Sh) (N := 10) hx hb hg i_Sh hown hK hP 0 rfl rfl 3 (by decide) (hg _ g_329) (fun _ h9 => h9) rfl d_Sh_byNumber_19 ?_
            refine lv_icmp_ge (tgt := 40) hx hb d_Sh_byNumber_22 (by decide) (fun h_4 => ?_) (fun h_4 => ?_)
            · have hd := ite_t hd h_4
              exact hk17_40 z_17 _ _ _ hP hD hS (lv_sub hl [0, 1] rfl) hd
            · have hd := ite_f hd h_4
              refine lv_aload_n hx hb d_Sh_byNumber_25 rfl (lv_at hl 0 rfl) ?_
              refine va_get (D := D) (ci := 8) (v := .ref (a 2)) (C := R_Sh) (T := F_Sh) (N := 10) hx hb hg i_Sh hown hK hP 0 rfl rfl 5 (by decide) (hg _ g_331) (fun _ h9 => h9) rfl d_Sh_byNumber_26 ?_
              refine lv_iload_n hx hb d_Sh_byNumber_29 rfl (lv_at hl 1 rfl) ?_
              obtain ⟨h_5, hd⟩ := ite_s hd
              refine aldA hx hb hK hP 2 rfl (inb_t h_5) d_Sh_byNumber_30 ?_
              refine lv_iload_n hx hb d_Sh_byNumber_31 rfl (lv_at hl 2 rfl) ?_
              refine lv_iconst (v := 1) hx hb d_Sh_byNumber_32 (by decide) ?_
              obtain ⟨h_6, hd⟩ := ite_s hd
              have hset_7 := (show ∀ k, k < 7 → (ws_Sh g a z_17 ++ ws_St g b w).set (3 + k) (a (k + 3), .inl (g 0, 5, .inl (upd ((q_Sh_worth z_17) k) x3_17.toNatClampNeg 1))) = ws_Sh g a (u_Sh_worth z_17 (upd2 (q_Sh_worth z_17) k x3_17.toNatClampNeg 1)) ++ ws_St g b w from fun k hk => match k, hk with | 0, _ => rfl | 1, _ => rfl | 2, _ => rfl | 3, _ => rfl | 4, _ => rfl | 5, _ => rfl | 6, _ => rfl | k + 7, hk => absurd hk (by omega)) _ (vp_lt (inb_t h_5))
              refine iastK hx hb hK hP hD hS (3 + x2_f17.toNatClampNeg) 0 ((show ∀ k, k < 7 → (ws_Sh g a z_17 ++ ws_St g b w)[3 + k]? = some (a (k + 3), .inl (g 0, 5, .inl ((q_Sh_worth z_17) k))) from fun k hk => match k, hk with | 0, _ => rfl | 1, _ => rfl | 2, _ => rfl | 3, _ => rfl | 4, _ => rfl | 5, _ => rfl | 6, _ => rfl | k + 7, hk => absurd hk (by omega)) _ (vp_lt (inb_t h_5))) rfl (inb_t h_6) rfl d_Sh_byNumber_33 (fun H locs hP hD hS => ?_)
              rw [hset_7] at hP hD
              refine lv_iinc (v := x3_17 + 1) (lv' := [(3, .int (x3_17 + 1)), (0, .ref (a 0)), (2, .int x2_f17)]) hx hb d_Sh_byNumber_34 hl (k := 2) rfl (by rfl) (by decide) rfl (fun ls hl => ?_)
              refine lv_goto (tgt := 17) hx hb d_Sh_byNumber_37 (by decide) ?_
              exact ih17 (x3_17 + 1) (u_Sh_worth z_17 (upd2 (q_Sh_worth z_17) x2_f17.toNatClampNeg x3_17.toNatClampNeg 1)) _ _ _ hP hD hS (lv_sub hl [1, 2, 0] rfl) hd
        exact lp17 x2_7 _ ex17_40 1000 0 z_7 _ _ _ hP hD hS (lv_sub hl [1, 2, 0] rfl) hd
  exact lp7 1000 0 v_1 _ _ _ hP hD hS (lv_sub hl [1, 0] rfl) hd
-- OwnsLift$Shares.byStaying(LOwnsLift$Standing;)V
def B_Sh_byStaying_L35 (x2_f35 : Int32) (x3_f35 : Int32) (w : T_St) (k35_84 : T_Sh → Option (T_Sh)) (self35 : Int32 → T_Sh → Option (T_Sh)) (x4_35 : Int32) (z_35 : T_Sh) : Option (T_Sh) :=
  if (q_Sh_people z_35) ≤ x4_35 then (k35_84 z_35) else (if inb x2_f35 7 = true then (if x3_f35 = 0 then (if inb x4_35 5 = true then (self35 (x4_35 + 1) (u_Sh_worth z_35 (upd2 (q_Sh_worth z_35) x2_f35.toNatClampNeg x4_35.toNatClampNeg (-1000000)))) else none) else (if inb x2_f35 7 = true then (if ((q_St_owner w) x2_f35.toNatClampNeg) = x4_35 then (if inb x4_35 5 = true then (self35 (x4_35 + 1) (u_Sh_worth z_35 (upd2 (q_Sh_worth z_35) x2_f35.toNatClampNeg x4_35.toNatClampNeg 0))) else none) else (if inb x4_35 5 = true then (self35 (x4_35 + 1) (u_Sh_worth z_35 (upd2 (q_Sh_worth z_35) x2_f35.toNatClampNeg x4_35.toNatClampNeg (-1)))) else none)) else none)) else none)
def d_Sh_byStaying_L35 (x2_f35 : Int32) (x3_f35 : Int32) (w : T_St) (k35_84 : T_Sh → Option (T_Sh)) (n : Nat) : Int32 → T_Sh → Option (T_Sh) := recN (fun _ _ => none) (fun self => B_Sh_byStaying_L35 x2_f35 x3_f35 w k35_84 self) n
def B_Sh_byStaying_L7 (w : T_St) (self7 : Int32 → T_Sh → Option (T_Sh)) (x2_7 : Int32) (z_7 : T_Sh) : Option (T_Sh) :=
  if (q_Sh_things z_7) ≤ x2_7 then (some (z_7)) else (if inb x2_7 7 = true then (if ((q_St_owner w) x2_7.toNatClampNeg) = (-5) then (d_Sh_byStaying_L35 x2_7 0 w (fun z_35 => if inb x2_7 7 = true then (if inb (q_Sh_people z_35) 5 = true then (self7 (x2_7 + 1) (u_Sh_worth z_35 (upd2 (q_Sh_worth z_35) x2_7.toNatClampNeg (q_Sh_people z_35).toNatClampNeg 0))) else none) else none) 1000 0 z_7) else (d_Sh_byStaying_L35 x2_7 1 w (fun z_35 => if inb x2_7 7 = true then (if inb (q_Sh_people z_35) 5 = true then (self7 (x2_7 + 1) (u_Sh_worth z_35 (upd2 (q_Sh_worth z_35) x2_7.toNatClampNeg (q_Sh_people z_35).toNatClampNeg (-1000000)))) else none) else none) 1000 0 z_7)) else none)
def d_Sh_byStaying_L7 (w : T_St) (n : Nat) : Int32 → T_Sh → Option (T_Sh) := recN (fun _ _ => none) (fun self => B_Sh_byStaying_L7 w self) n
def d_Sh_byStaying (z : T_Sh) (w : T_St) : Option (T_Sh) :=
  (d_Sh_begin z w).bind fun v_1 => d_Sh_byStaying_L7 w  1000 0 v_1
theorem d_Sh_byStaying_0 : decode b_Sh_byStaying 0 = .ok (.aload_n 0, 1) := by decide +kernel
theorem d_Sh_byStaying_1 : decode b_Sh_byStaying 1 = .ok (.aload_n 1, 1) := by decide +kernel
theorem d_Sh_byStaying_2 : decode b_Sh_byStaying 2 = .ok (.invokevirtual 32, 3) := by decide +kernel
theorem d_Sh_byStaying_5 : decode b_Sh_byStaying 5 = .ok (.iconst 0, 1) := by decide +kernel
theorem d_Sh_byStaying_6 : decode b_Sh_byStaying 6 = .ok (.istore_n 2, 1) := by decide +kernel
theorem d_Sh_byStaying_7 : decode b_Sh_byStaying 7 = .ok (.iload_n 2, 1) := by decide +kernel
theorem d_Sh_byStaying_8 : decode b_Sh_byStaying 8 = .ok (.aload_n 0, 1) := by decide +kernel
theorem d_Sh_byStaying_9 : decode b_Sh_byStaying 9 = .ok (.getfield 36, 3) := by decide +kernel
theorem d_Sh_byStaying_12 : decode b_Sh_byStaying 12 = .ok (.if_icmp .ge 99, 3) := by decide +kernel
theorem d_Sh_byStaying_15 : decode b_Sh_byStaying 15 = .ok (.aload_n 1, 1) := by decide +kernel
theorem d_Sh_byStaying_16 : decode b_Sh_byStaying 16 = .ok (.getfield 48, 3) := by decide +kernel
theorem d_Sh_byStaying_19 : decode b_Sh_byStaying 19 = .ok (.iload_n 2, 1) := by decide +kernel
theorem d_Sh_byStaying_20 : decode b_Sh_byStaying 20 = .ok (.iaload, 1) := by decide +kernel
theorem d_Sh_byStaying_21 : decode b_Sh_byStaying 21 = .ok (.bipush (-5), 2) := by decide +kernel
theorem d_Sh_byStaying_23 : decode b_Sh_byStaying 23 = .ok (.if_icmp .eq 7, 3) := by decide +kernel
theorem d_Sh_byStaying_26 : decode b_Sh_byStaying 26 = .ok (.iconst 1, 1) := by decide +kernel
theorem d_Sh_byStaying_27 : decode b_Sh_byStaying 27 = .ok (.goto 4, 3) := by decide +kernel
theorem d_Sh_byStaying_30 : decode b_Sh_byStaying 30 = .ok (.iconst 0, 1) := by decide +kernel
theorem d_Sh_byStaying_31 : decode b_Sh_byStaying 31 = .ok (.istore_n 3, 1) := by decide +kernel
theorem d_Sh_byStaying_32 : decode b_Sh_byStaying 32 = .ok (.iconst 0, 1) := by decide +kernel
theorem d_Sh_byStaying_33 : decode b_Sh_byStaying 33 = .ok (.istore 4, 2) := by decide +kernel
theorem d_Sh_byStaying_35 : decode b_Sh_byStaying 35 = .ok (.iload 4, 2) := by decide +kernel
theorem d_Sh_byStaying_37 : decode b_Sh_byStaying 37 = .ok (.aload_n 0, 1) := by decide +kernel
theorem d_Sh_byStaying_38 : decode b_Sh_byStaying 38 = .ok (.getfield 40, 3) := by decide +kernel
theorem d_Sh_byStaying_41 : decode b_Sh_byStaying 41 = .ok (.if_icmp .ge 43, 3) := by decide +kernel
theorem d_Sh_byStaying_44 : decode b_Sh_byStaying 44 = .ok (.aload_n 0, 1) := by decide +kernel
theorem d_Sh_byStaying_45 : decode b_Sh_byStaying 45 = .ok (.getfield 17, 3) := by decide +kernel
theorem d_Sh_byStaying_48 : decode b_Sh_byStaying 48 = .ok (.iload_n 2, 1) := by decide +kernel
theorem d_Sh_byStaying_49 : decode b_Sh_byStaying 49 = .ok (.aaload, 1) := by decide +kernel
theorem d_Sh_byStaying_50 : decode b_Sh_byStaying 50 = .ok (.iload 4, 2) := by decide +kernel
theorem d_Sh_byStaying_52 : decode b_Sh_byStaying 52 = .ok (.iload_n 3, 1) := by decide +kernel
theorem d_Sh_byStaying_53 : decode b_Sh_byStaying 53 = .ok (.ifCond .ne 8, 3) := by decide +kernel
theorem d_Sh_byStaying_56 : decode b_Sh_byStaying 56 = .ok (.ldc 49, 2) := by decide +kernel
theorem d_Sh_byStaying_58 : decode b_Sh_byStaying 58 = .ok (.goto 19, 3) := by decide +kernel
theorem d_Sh_byStaying_61 : decode b_Sh_byStaying 61 = .ok (.aload_n 1, 1) := by decide +kernel
theorem d_Sh_byStaying_62 : decode b_Sh_byStaying 62 = .ok (.getfield 48, 3) := by decide +kernel
theorem d_Sh_byStaying_65 : decode b_Sh_byStaying 65 = .ok (.iload_n 2, 1) := by decide +kernel
theorem d_Sh_byStaying_66 : decode b_Sh_byStaying 66 = .ok (.iaload, 1) := by decide +kernel
theorem d_Sh_byStaying_67 : decode b_Sh_byStaying 67 = .ok (.iload 4, 2) := by decide +kernel
theorem d_Sh_byStaying_69 : decode b_Sh_byStaying 69 = .ok (.if_icmp .ne 7, 3) := by decide +kernel
theorem d_Sh_byStaying_72 : decode b_Sh_byStaying 72 = .ok (.iconst 0, 1) := by decide +kernel
theorem d_Sh_byStaying_73 : decode b_Sh_byStaying 73 = .ok (.goto 4, 3) := by decide +kernel
theorem d_Sh_byStaying_76 : decode b_Sh_byStaying 76 = .ok (.iconst (-1), 1) := by decide +kernel
theorem d_Sh_byStaying_77 : decode b_Sh_byStaying 77 = .ok (.iastore, 1) := by decide +kernel
theorem d_Sh_byStaying_78 : decode b_Sh_byStaying 78 = .ok (.iinc 4 1, 3) := by decide +kernel
theorem d_Sh_byStaying_81 : decode b_Sh_byStaying 81 = .ok (.goto (-46), 3) := by decide +kernel
theorem d_Sh_byStaying_84 : decode b_Sh_byStaying 84 = .ok (.aload_n 0, 1) := by decide +kernel
theorem d_Sh_byStaying_85 : decode b_Sh_byStaying 85 = .ok (.getfield 17, 3) := by decide +kernel
theorem d_Sh_byStaying_88 : decode b_Sh_byStaying 88 = .ok (.iload_n 2, 1) := by decide +kernel
theorem d_Sh_byStaying_89 : decode b_Sh_byStaying 89 = .ok (.aaload, 1) := by decide +kernel
theorem d_Sh_byStaying_90 : decode b_Sh_byStaying 90 = .ok (.aload_n 0, 1) := by decide +kernel
theorem d_Sh_byStaying_91 : decode b_Sh_byStaying 91 = .ok (.getfield 40, 3) := by decide +kernel
theorem d_Sh_byStaying_94 : decode b_Sh_byStaying 94 = .ok (.iload_n 3, 1) := by decide +kernel
theorem d_Sh_byStaying_95 : decode b_Sh_byStaying 95 = .ok (.ifCond .eq 8, 3) := by decide +kernel
theorem d_Sh_byStaying_98 : decode b_Sh_byStaying 98 = .ok (.ldc 49, 2) := by decide +kernel
theorem d_Sh_byStaying_100 : decode b_Sh_byStaying 100 = .ok (.goto 4, 3) := by decide +kernel
theorem d_Sh_byStaying_103 : decode b_Sh_byStaying 103 = .ok (.iconst 0, 1) := by decide +kernel
theorem d_Sh_byStaying_104 : decode b_Sh_byStaying 104 = .ok (.iastore, 1) := by decide +kernel
theorem d_Sh_byStaying_105 : decode b_Sh_byStaying 105 = .ok (.iinc 2 1, 3) := by decide +kernel
theorem d_Sh_byStaying_108 : decode b_Sh_byStaying 108 = .ok (.goto (-101), 3) := by decide +kernel
theorem d_Sh_byStaying_111 : decode b_Sh_byStaying 111 = .ok (.return_, 1) := by decide +kernel
theorem o_Sh_byStaying : OkV y_Sh_byStaying "OwnsLift$Shares" b_Sh_byStaying 5 none 1 := ⟨⟨rfl, by decide +kernel, by decide +kernel, by decide +kernel⟩, g_820, g_821, g_78, g_822⟩
set_option maxHeartbeats 4000000 in
set_option maxRecDepth 100000 in
theorem c_Sh_byStaying (l : Launch) (D : va_G) (g : Nat → ClassId) (a : Nat → Nat) (b : Nat → Nat) (z : T_Sh) (w : T_St) (v : T_Sh) (h : d_Sh_byStaying z w = some v) :
    MV l y_Sh_byStaying b_Sh_byStaying 5 ({ frames := 1, cells := 0, slots := 0, locals := 22 } : Room) D g [.ref (a 0), .ref (b 0)] (ws_Sh g a z ++ ws_St g b w) (ws_Sh g a v ++ ws_St g b w) := by
  have hd := h
  unfold d_Sh_byStaying at hd
  refine enterV rfl (Nat.le_of_ble_eq_true rfl) (fun p e s m below meth c A ls hx hb hml hr hown hg hlk hK hA hP hD hS hCs hl => ?_)
  have hown : s.vm.findClass "OwnsLift$Shares" = some m.cls := hown
  have hl : lv_has ls 5 [(0, .ref (a 0)), (1, .ref (b 0))] := hl
  show GV p l e s m ({ frames := 1, cells := 0, slots := 0, locals := 22 } : Room) ([.ref (a 0), .ref (b 0)] : List Value).toArray below meth c A D g (ws_Sh g a v ++ ws_St g b w) s.heap [] (F0 m 0 ls [])
  refine lv_aload_n hx hb d_Sh_byStaying_0 rfl (lv_at hl 0 rfl) ?_
  refine lv_aload_n hx hb d_Sh_byStaying_1 rfl (lv_at hl 1 rfl) ?_
  obtain ⟨v_1, e_2, hd⟩ := bind_s hd
  refine callVV (ws' := ws_Sh g a v_1 ++ ws_St g b w) (rest := []) (As := [.ref (b 0)]) hx hb hml hown hg hK hP hD hS hA hCs hl.1 (c_Sh_begin l D g a b z w _ e_2) o_Sh_begin g_788 (ci := 8) (q0 := 0) rfl rfl (List.range' 0 14 ++ List.range' 14 10) (segC2 rfl rfl rfl rfl) (by decide) rfl (segP2 rfl rfl rfl) rfl rfl (Nat.le_of_ble_eq_true rfl) ⟨rfl, rfl, Nat.le_of_ble_eq_true rfl, Nat.le_of_ble_eq_true rfl⟩ d_Sh_byStaying_2 (fun H locs hP hD hS => ?_)
  refine lv_iconst (v := 0) hx hb d_Sh_byStaying_5 (by decide) ?_
  refine lv_istore_n (lv' := [(2, .int 0), (0, .ref (a 0)), (1, .ref (b 0))]) hx hb d_Sh_byStaying_6 rfl hl (by decide) rfl (fun ls hl => ?_)
  have lp7 : ∀ (n : Nat) (x2_7 : Int32) (z_7 : T_Sh) (H : Heap) (locs : List Loc) (ls : Array Slot), va_P D classes (ws_Sh g a z_7 ++ ws_St g b w) H → va_D A (ws_Sh g a z_7 ++ ws_St g b w) → va_S A s.heap H locs → lv_has ls 5 [(0, .ref (a 0)), (1, .ref (b 0)), (2, .int x2_7)] → d_Sh_byStaying_L7 w n x2_7 z_7 = some v → GV p l e s m ({ frames := 1, cells := 0, slots := 0, locals := 22 } : Room) ([.ref (a 0), .ref (b 0)] : List Value).toArray below meth c A D g (ws_Sh g a v ++ ws_St g b w) H locs (F0 m 7 ls []) := by
    intro n
    induction n with
    | zero =>
      intro  x2_7 z_7 H locs ls hP hD hS hl hd
      have hd : none = some v := hd
      cases hd
    | succ n ih7 =>
      intro  x2_7 z_7 H locs ls hP hD hS hl hd
      have hd : B_Sh_byStaying_L7 w (d_Sh_byStaying_L7 w n) x2_7 z_7 = some v := hd
      generalize d_Sh_byStaying_L7 w n = self7 at ih7 hd
      unfold B_Sh_byStaying_L7 at hd
      refine lv_iload_n hx hb d_Sh_byStaying_7 rfl (lv_at hl 2 rfl) ?_
      refine lv_aload_n hx hb d_Sh_byStaying_8 rfl (lv_at hl 0 rfl) ?_
      refine va_get (D := D) (ci := 8) (v := .int (q_Sh_things z_7)) (C := R_Sh) (T := F_Sh) (N := 10) hx hb hg i_Sh hown hK hP 0 rfl rfl 4 (by decide) (hg _ g_330) (fun _ h9 => h9) rfl d_Sh_byStaying_9 ?_
      refine lv_icmp_ge (tgt := 111) hx hb d_Sh_byStaying_12 (by decide) (fun h_3 => ?_) (fun h_3 => ?_)
      · have hd := ite_t hd h_3
        obtain rfl := Option.some.inj hd
        exact retV hx hb hr hlk hK hP hD hS d_Sh_byStaying_111
      · have hd := ite_f hd h_3
        refine lv_aload_n hx hb d_Sh_byStaying_15 rfl (lv_at hl 1 rfl) ?_
        refine va_get (D := D) (ci := 9) (v := .ref (b 9)) (C := R_St) (T := F_St) (N := 7) hx hb hg i_St hown hK hP 14 rfl rfl 6 (by decide) (hg _ g_298) (fun _ h9 => h9) rfl d_Sh_byStaying_16 ?_
        refine lv_iload_n hx hb d_Sh_byStaying_19 rfl (lv_at hl 2 rfl) ?_
        obtain ⟨h_33, hd⟩ := ite_s hd
        refine ialdK hx hb hK hP 23 0 rfl rfl (inb_t h_33) rfl d_Sh_byStaying_20 ?_
        refine lv_bipush (v := (-5)) hx hb d_Sh_byStaying_21 (by decide) ?_
        refine lv_icmp_eq (tgt := 30) hx hb d_Sh_byStaying_23 (by decide) (fun h_4 => ?_) (fun h_4 => ?_)
        · have hd := ite_t hd h_4
          refine lv_iconst (v := 0) hx hb d_Sh_byStaying_30 (by decide) ?_
          refine lv_istore_n (lv' := [(3, .int 0), (0, .ref (a 0)), (1, .ref (b 0)), (2, .int x2_7)]) hx hb d_Sh_byStaying_31 rfl hl (by decide) rfl (fun ls hl => ?_)
          refine lv_iconst (v := 0) hx hb d_Sh_byStaying_32 (by decide) ?_
          refine lv_istore (lv' := [(4, .int 0), (3, .int 0), (0, .ref (a 0)), (1, .ref (b 0)), (2, .int x2_7)]) hx hb d_Sh_byStaying_33 hl (by decide) rfl (fun ls hl => ?_)
          have ex35_84 : ∀ (z_35 : T_Sh) (H : Heap) (locs : List Loc) (ls : Array Slot), va_P D classes (ws_Sh g a z_35 ++ ws_St g b w) H → va_D A (ws_Sh g a z_35 ++ ws_St g b w) → va_S A s.heap H locs → lv_has ls 5 [(0, .ref (a 0)), (1, .ref (b 0)), (2, .int x2_7), (3, .int 0)] → (if inb x2_7 7 = true then (if inb (q_Sh_people z_35) 5 = true then (self7 (x2_7 + 1) (u_Sh_worth z_35 (upd2 (q_Sh_worth z_35) x2_7.toNatClampNeg (q_Sh_people z_35).toNatClampNeg 0))) else none) else none) = some v → GV p l e s m ({ frames := 1, cells := 0, slots := 0, locals := 22 } : Room) ([.ref (a 0), .ref (b 0)] : List Value).toArray below meth c A D g (ws_Sh g a v ++ ws_St g b w) H locs (F0 m 84 ls []) := by
            intro z_35 H locs ls hP hD hS hl hd
            refine lv_aload_n hx hb d_Sh_byStaying_84 rfl (lv_at hl 0 rfl) ?_
            refine va_get (D := D) (ci := 8) (v := .ref (a 2)) (C := R_Sh) (T := F_Sh) (N := 10) hx hb hg i_Sh hown hK hP 0 rfl rfl 5 (by decide) (hg _ g_331) (fun _ h9 => h9) rfl d_Sh_byStaying_85 ?_
            refine lv_iload_n hx hb d_Sh_byStaying_88 rfl (lv_at hl 2 rfl) ?_
            obtain ⟨h_16, hd⟩ := ite_s hd
            refine aldA hx hb hK hP 2 rfl (inb_t h_16) d_Sh_byStaying_89 ?_
            refine lv_aload_n hx hb d_Sh_byStaying_90 rfl (lv_at hl 0 rfl) ?_
            refine va_get (D := D) (ci := 8) (v := .int (q_Sh_people z_35)) (C := R_Sh) (T := F_Sh) (N := 10) hx hb hg i_Sh hown hK hP 0 rfl rfl 3 (by decide) (hg _ g_329) (fun _ h9 => h9) rfl d_Sh_byStaying_91 ?_
            refine lv_iload_n hx hb d_Sh_byStaying_94 rfl (lv_at hl 3 rfl) ?_
            refine lv_if_eq (tgt := 103) hx hb d_Sh_byStaying_95 (by decide) (fun _ => ?_) (fun h9 => absurd (by decide) h9)
            refine lv_iconst (v := 0) hx hb d_Sh_byStaying_103 (by decide) ?_
            obtain ⟨h_17, hd⟩ := ite_s hd
            have hset_18 := (show ∀ k, k < 7 → (ws_Sh g a z_35 ++ ws_St g b w).set (3 + k) (a (k + 3), .inl (g 0, 5, .inl (upd ((q_Sh_worth z_35) k) (q_Sh_people z_35).toNatClampNeg 0))) = ws_Sh g a (u_Sh_worth z_35 (upd2 (q_Sh_worth z_35) k (q_Sh_people z_35).toNatClampNeg 0)) ++ ws_St g b w from fun k hk => match k, hk with | 0, _ => rfl | 1, _ => rfl | 2, _ => rfl | 3, _ => rfl | 4, _ => rfl | 5, _ => rfl | 6, _ => rfl | k + 7, hk => absurd hk (by omega)) _ (vp_lt (inb_t h_16))
            refine iastK hx hb hK hP hD hS (3 + x2_7.toNatClampNeg) 0 ((show ∀ k, k < 7 → (ws_Sh g a z_35 ++ ws_St g b w)[3 + k]? = some (a (k + 3), .inl (g 0, 5, .inl ((q_Sh_worth z_35) k))) from fun k hk => match k, hk with | 0, _ => rfl | 1, _ => rfl | 2, _ => rfl | 3, _ => rfl | 4, _ => rfl | 5, _ => rfl | 6, _ => rfl | k + 7, hk => absurd hk (by omega)) _ (vp_lt (inb_t h_16))) rfl (inb_t h_17) rfl d_Sh_byStaying_104 (fun H locs hP hD hS => ?_)
            rw [hset_18] at hP hD
            refine lv_iinc (v := x2_7 + 1) (lv' := [(2, .int (x2_7 + 1)), (0, .ref (a 0)), (1, .ref (b 0)), (3, .int 0)]) hx hb d_Sh_byStaying_105 hl (k := 2) rfl (by rfl) (by decide) rfl (fun ls hl => ?_)
            refine lv_goto (tgt := 7) hx hb d_Sh_byStaying_108 (by decide) ?_
            exact ih7 (x2_7 + 1) (u_Sh_worth z_35 (upd2 (q_Sh_worth z_35) x2_7.toNatClampNeg (q_Sh_people z_35).toNatClampNeg 0)) _ _ _ hP hD hS (lv_sub hl [1, 2, 0] rfl) hd
          have lp35 : ∀ (x2_f35 : Int32) (x3_f35 : Int32) (k35_84 : T_Sh → Option (T_Sh)) (hk35_84 : ∀ (z_35 : T_Sh) (H : Heap) (locs : List Loc) (ls : Array Slot), va_P D classes (ws_Sh g a z_35 ++ ws_St g b w) H → va_D A (ws_Sh g a z_35 ++ ws_St g b w) → va_S A s.heap H locs → lv_has ls 5 [(0, .ref (a 0)), (1, .ref (b 0)), (2, .int x2_f35), (3, .int x3_f35)] → k35_84 z_35 = some v → GV p l e s m ({ frames := 1, cells := 0, slots := 0, locals := 22 } : Room) ([.ref (a 0), .ref (b 0)] : List Value).toArray below meth c A D g (ws_Sh g a v ++ ws_St g b w) H locs (F0 m 84 ls [])) (n : Nat) (x4_35 : Int32) (z_35 : T_Sh) (H : Heap) (locs : List Loc) (ls : Array Slot), va_P D classes (ws_Sh g a z_35 ++ ws_St g b w) H → va_D A (ws_Sh g a z_35 ++ ws_St g b w) → va_S A s.heap H locs → lv_has ls 5 [(0, .ref (a 0)), (1, .ref (b 0)), (2, .int x2_f35), (3, .int x3_f35), (4, .int x4_35)] → d_Sh_byStaying_L35 x2_f35 x3_f35 w k35_84 n x4_35 z_35 = some v → GV p l e s m ({ frames := 1, cells := 0, slots := 0, locals := 22 } : Room) ([.ref (a 0), .ref (b 0)] : List Value).toArray below meth c A D g (ws_Sh g a v ++ ws_St g b w) H locs (F0 m 35 ls []) := by
            intro x2_f35 x3_f35 k35_84 hk35_84 n
            induction n with
            | zero =>
              intro  x4_35 z_35 H locs ls hP hD hS hl hd
              have hd : none = some v := hd
              cases hd
            | succ n ih35 =>
              intro  x4_35 z_35 H locs ls hP hD hS hl hd
              have hd : B_Sh_byStaying_L35 x2_f35 x3_f35 w k35_84 (d_Sh_byStaying_L35 x2_f35 x3_f35 w k35_84 n) x4_35 z_35 = some v := hd
              generalize d_Sh_byStaying_L35 x2_f35 x3_f35 w k35_84 n = self35 at ih35 hd
              unfold B_Sh_byStaying_L35 at hd
              refine lv_iload hx hb d_Sh_byStaying_35 (lv_at hl 4 rfl) ?_
              refine lv_aload_n hx hb d_Sh_byStaying_37 rfl (lv_at hl 0 rfl) ?_
              refine va_get (D := D) (ci := 8) (v := .int (q_Sh_people z_35)) (C := R_Sh) (T := F_Sh) (N := 10) hx hb hg i_Sh hown hK hP 0 rfl rfl 3 (by decide) (hg _ g_329) (fun _ h9 => h9) rfl d_Sh_byStaying_38 ?_
              refine lv_icmp_ge (tgt := 84) hx hb d_Sh_byStaying_41 (by decide) (fun h_5 => ?_) (fun h_5 => ?_)
              · have hd := ite_t hd h_5
                exact hk35_84 z_35 _ _ _ hP hD hS (lv_sub hl [0, 1, 2, 3] rfl) hd
              · have hd := ite_f hd h_5
                refine lv_aload_n hx hb d_Sh_byStaying_44 rfl (lv_at hl 0 rfl) ?_
                refine va_get (D := D) (ci := 8) (v := .ref (a 2)) (C := R_Sh) (T := F_Sh) (N := 10) hx hb hg i_Sh hown hK hP 0 rfl rfl 5 (by decide) (hg _ g_331) (fun _ h9 => h9) rfl d_Sh_byStaying_45 ?_
                refine lv_iload_n hx hb d_Sh_byStaying_48 rfl (lv_at hl 2 rfl) ?_
                obtain ⟨h_6, hd⟩ := ite_s hd
                refine aldA hx hb hK hP 2 rfl (inb_t h_6) d_Sh_byStaying_49 ?_
                refine lv_iload hx hb d_Sh_byStaying_50 (lv_at hl 4 rfl) ?_
                refine lv_iload_n hx hb d_Sh_byStaying_52 rfl (lv_at hl 3 rfl) ?_
                refine lv_if_ne (tgt := 61) hx hb d_Sh_byStaying_53 (by decide) (fun h_7 => ?_) (fun h_7 => ?_)
                · have hd := ite_f hd h_7
                  refine lv_aload_n hx hb d_Sh_byStaying_61 rfl (lv_at hl 1 rfl) ?_
                  refine va_get (D := D) (ci := 9) (v := .ref (b 9)) (C := R_St) (T := F_St) (N := 7) hx hb hg i_St hown hK hP 14 rfl rfl 6 (by decide) (hg _ g_298) (fun _ h9 => h9) rfl d_Sh_byStaying_62 ?_
                  refine lv_iload_n hx hb d_Sh_byStaying_65 rfl (lv_at hl 2 rfl) ?_
                  obtain ⟨h_13, hd⟩ := ite_s hd
                  refine ialdK hx hb hK hP 23 0 rfl rfl (inb_t h_13) rfl d_Sh_byStaying_66 ?_
                  refine lv_iload hx hb d_Sh_byStaying_67 (lv_at hl 4 rfl) ?_
                  refine lv_icmp_ne (tgt := 76) hx hb d_Sh_byStaying_69 (by decide) (fun h_8 => ?_) (fun h_8 => ?_)
                  · have hd := ite_f hd h_8
                    refine lv_iconst (v := (-1)) hx hb d_Sh_byStaying_76 (by decide) ?_
                    obtain ⟨h_9, hd⟩ := ite_s hd
                    have hset_10 := (show ∀ k, k < 7 → (ws_Sh g a z_35 ++ ws_St g b w).set (3 + k) (a (k + 3), .inl (g 0, 5, .inl (upd ((q_Sh_worth z_35) k) x4_35.toNatClampNeg (-1)))) = ws_Sh g a (u_Sh_worth z_35 (upd2 (q_Sh_worth z_35) k x4_35.toNatClampNeg (-1))) ++ ws_St g b w from fun k hk => match k, hk with | 0, _ => rfl | 1, _ => rfl | 2, _ => rfl | 3, _ => rfl | 4, _ => rfl | 5, _ => rfl | 6, _ => rfl | k + 7, hk => absurd hk (by omega)) _ (vp_lt (inb_t h_6))
                    refine iastK hx hb hK hP hD hS (3 + x2_f35.toNatClampNeg) 0 ((show ∀ k, k < 7 → (ws_Sh g a z_35 ++ ws_St g b w)[3 + k]? = some (a (k + 3), .inl (g 0, 5, .inl ((q_Sh_worth z_35) k))) from fun k hk => match k, hk with | 0, _ => rfl | 1, _ => rfl | 2, _ => rfl | 3, _ => rfl | 4, _ => rfl | 5, _ => rfl | 6, _ => rfl | k + 7, hk => absurd hk (by omega)) _ (vp_lt (inb_t h_6))) rfl (inb_t h_9) rfl d_Sh_byStaying_77 (fun H locs hP hD hS => ?_)
                    rw [hset_10] at hP hD
                    refine lv_iinc (v := x4_35 + 1) (lv' := [(4, .int (x4_35 + 1)), (0, .ref (a 0)), (1, .ref (b 0)), (2, .int x2_f35), (3, .int x3_f35)]) hx hb d_Sh_byStaying_78 hl (k := 4) rfl (by rfl) (by decide) rfl (fun ls hl => ?_)
                    refine lv_goto (tgt := 35) hx hb d_Sh_byStaying_81 (by decide) ?_
                    exact ih35 (x4_35 + 1) (u_Sh_worth z_35 (upd2 (q_Sh_worth z_35) x2_f35.toNatClampNeg x4_35.toNatClampNeg (-1))) _ _ _ hP hD hS (lv_sub hl [1, 2, 3, 4, 0] rfl) hd
                  · have hd := ite_t hd h_8
                    refine lv_iconst (v := 0) hx hb d_Sh_byStaying_72 (by decide) ?_
                    refine lv_goto (tgt := 77) hx hb d_Sh_byStaying_73 (by decide) ?_
                    obtain ⟨h_11, hd⟩ := ite_s hd
                    have hset_12 := (show ∀ k, k < 7 → (ws_Sh g a z_35 ++ ws_St g b w).set (3 + k) (a (k + 3), .inl (g 0, 5, .inl (upd ((q_Sh_worth z_35) k) x4_35.toNatClampNeg 0))) = ws_Sh g a (u_Sh_worth z_35 (upd2 (q_Sh_worth z_35) k x4_35.toNatClampNeg 0)) ++ ws_St g b w from fun k hk => match k, hk with | 0, _ => rfl | 1, _ => rfl | 2, _ => rfl | 3, _ => rfl | 4, _ => rfl | 5, _ => rfl | 6, _ => rfl | k + 7, hk => absurd hk (by omega)) _ (vp_lt (inb_t h_6))
                    refine iastK hx hb hK hP hD hS (3 + x2_f35.toNatClampNeg) 0 ((show ∀ k, k < 7 → (ws_Sh g a z_35 ++ ws_St g b w)[3 + k]? = some (a (k + 3), .inl (g 0, 5, .inl ((q_Sh_worth z_35) k))) from fun k hk => match k, hk with | 0, _ => rfl | 1, _ => rfl | 2, _ => rfl | 3, _ => rfl | 4, _ => rfl | 5, _ => rfl | 6, _ => rfl | k + 7, hk => absurd hk (by omega)) _ (vp_lt (inb_t h_6))) rfl (inb_t h_11) rfl d_Sh_byStaying_77 (fun H locs hP hD hS => ?_)
                    rw [hset_12] at hP hD
                    refine lv_iinc (v := x4_35 + 1) (lv' := [(4, .int (x4_35 + 1)), (0, .ref (a 0)), (1, .ref (b 0)), (2, .int x2_f35), (3, .int x3_f35)]) hx hb d_Sh_byStaying_78 hl (k := 4) rfl (by rfl) (by decide) rfl (fun ls hl => ?_)
                    refine lv_goto (tgt := 35) hx hb d_Sh_byStaying_81 (by decide) ?_
                    exact ih35 (x4_35 + 1) (u_Sh_worth z_35 (upd2 (q_Sh_worth z_35) x2_f35.toNatClampNeg x4_35.toNatClampNeg 0)) _ _ _ hP hD hS (lv_sub hl [1, 2, 3, 4, 0] rfl) hd
                · have hd := ite_t hd h_7
                  refine lv_ldc (v := (-1000000)) hx hb hown (hg _ g_802) d_Sh_byStaying_56 ?_
                  refine lv_goto (tgt := 77) hx hb d_Sh_byStaying_58 (by decide) ?_
                  obtain ⟨h_14, hd⟩ := ite_s hd
                  have hset_15 := (show ∀ k, k < 7 → (ws_Sh g a z_35 ++ ws_St g b w).set (3 + k) (a (k + 3), .inl (g 0, 5, .inl (upd ((q_Sh_worth z_35) k) x4_35.toNatClampNeg (-1000000)))) = ws_Sh g a (u_Sh_worth z_35 (upd2 (q_Sh_worth z_35) k x4_35.toNatClampNeg (-1000000))) ++ ws_St g b w from fun k hk => match k, hk with | 0, _ => rfl | 1, _ => rfl | 2, _ => rfl | 3, _ => rfl | 4, _ => rfl | 5, _ => rfl | 6, _ => rfl | k + 7, hk => absurd hk (by omega)) _ (vp_lt (inb_t h_6))
                  refine iastK hx hb hK hP hD hS (3 + x2_f35.toNatClampNeg) 0 ((show ∀ k, k < 7 → (ws_Sh g a z_35 ++ ws_St g b w)[3 + k]? = some (a (k + 3), .inl (g 0, 5, .inl ((q_Sh_worth z_35) k))) from fun k hk => match k, hk with | 0, _ => rfl | 1, _ => rfl | 2, _ => rfl | 3, _ => rfl | 4, _ => rfl | 5, _ => rfl | 6, _ => rfl | k + 7, hk => absurd hk (by omega)) _ (vp_lt (inb_t h_6))) rfl (inb_t h_14) rfl d_Sh_byStaying_77 (fun H locs hP hD hS => ?_)
                  rw [hset_15] at hP hD
                  refine lv_iinc (v := x4_35 + 1) (lv' := [(4, .int (x4_35 + 1)), (0, .ref (a 0)), (1, .ref (b 0)), (2, .int x2_f35), (3, .int x3_f35)]) hx hb d_Sh_byStaying_78 hl (k := 4) rfl (by rfl) (by decide) rfl (fun ls hl => ?_)
                  refine lv_goto (tgt := 35) hx hb d_Sh_byStaying_81 (by decide) ?_
                  exact ih35 (x4_35 + 1) (u_Sh_worth z_35 (upd2 (q_Sh_worth z_35) x2_f35.toNatClampNeg x4_35.toNatClampNeg (-1000000))) _ _ _ hP hD hS (lv_sub hl [1, 2, 3, 4, 0] rfl) hd
          exact lp35 x2_7 0 _ ex35_84 1000 0 z_7 _ _ _ hP hD hS (lv_sub hl [2, 3, 4, 1, 0] rfl) hd
        · have hd := ite_f hd h_4
          refine lv_iconst (v := 1) hx hb d_Sh_byStaying_26 (by decide) ?_
          refine lv_goto (tgt := 31) hx hb d_Sh_byStaying_27 (by decide) ?_
          refine lv_istore_n (lv' := [(3, .int 1), (0, .ref (a 0)), (1, .ref (b 0)), (2, .int x2_7)]) hx hb d_Sh_byStaying_31 rfl hl (by decide) rfl (fun ls hl => ?_)
          refine lv_iconst (v := 0) hx hb d_Sh_byStaying_32 (by decide) ?_
          refine lv_istore (lv' := [(4, .int 0), (3, .int 1), (0, .ref (a 0)), (1, .ref (b 0)), (2, .int x2_7)]) hx hb d_Sh_byStaying_33 hl (by decide) rfl (fun ls hl => ?_)
          have ex35_84 : ∀ (z_35 : T_Sh) (H : Heap) (locs : List Loc) (ls : Array Slot), va_P D classes (ws_Sh g a z_35 ++ ws_St g b w) H → va_D A (ws_Sh g a z_35 ++ ws_St g b w) → va_S A s.heap H locs → lv_has ls 5 [(0, .ref (a 0)), (1, .ref (b 0)), (2, .int x2_7), (3, .int 1)] → (if inb x2_7 7 = true then (if inb (q_Sh_people z_35) 5 = true then (self7 (x2_7 + 1) (u_Sh_worth z_35 (upd2 (q_Sh_worth z_35) x2_7.toNatClampNeg (q_Sh_people z_35).toNatClampNeg (-1000000)))) else none) else none) = some v → GV p l e s m ({ frames := 1, cells := 0, slots := 0, locals := 22 } : Room) ([.ref (a 0), .ref (b 0)] : List Value).toArray below meth c A D g (ws_Sh g a v ++ ws_St g b w) H locs (F0 m 84 ls []) := by
            intro z_35 H locs ls hP hD hS hl hd
            refine lv_aload_n hx hb d_Sh_byStaying_84 rfl (lv_at hl 0 rfl) ?_
            refine va_get (D := D) (ci := 8) (v := .ref (a 2)) (C := R_Sh) (T := F_Sh) (N := 10) hx hb hg i_Sh hown hK hP 0 rfl rfl 5 (by decide) (hg _ g_331) (fun _ h9 => h9) rfl d_Sh_byStaying_85 ?_
            refine lv_iload_n hx hb d_Sh_byStaying_88 rfl (lv_at hl 2 rfl) ?_
            obtain ⟨h_30, hd⟩ := ite_s hd
            refine aldA hx hb hK hP 2 rfl (inb_t h_30) d_Sh_byStaying_89 ?_
            refine lv_aload_n hx hb d_Sh_byStaying_90 rfl (lv_at hl 0 rfl) ?_
            refine va_get (D := D) (ci := 8) (v := .int (q_Sh_people z_35)) (C := R_Sh) (T := F_Sh) (N := 10) hx hb hg i_Sh hown hK hP 0 rfl rfl 3 (by decide) (hg _ g_329) (fun _ h9 => h9) rfl d_Sh_byStaying_91 ?_
            refine lv_iload_n hx hb d_Sh_byStaying_94 rfl (lv_at hl 3 rfl) ?_
            refine lv_if_eq (tgt := 103) hx hb d_Sh_byStaying_95 (by decide) (fun h9 => absurd h9 (by decide)) (fun _ => ?_)
            refine lv_ldc (v := (-1000000)) hx hb hown (hg _ g_802) d_Sh_byStaying_98 ?_
            refine lv_goto (tgt := 104) hx hb d_Sh_byStaying_100 (by decide) ?_
            obtain ⟨h_31, hd⟩ := ite_s hd
            have hset_32 := (show ∀ k, k < 7 → (ws_Sh g a z_35 ++ ws_St g b w).set (3 + k) (a (k + 3), .inl (g 0, 5, .inl (upd ((q_Sh_worth z_35) k) (q_Sh_people z_35).toNatClampNeg (-1000000)))) = ws_Sh g a (u_Sh_worth z_35 (upd2 (q_Sh_worth z_35) k (q_Sh_people z_35).toNatClampNeg (-1000000))) ++ ws_St g b w from fun k hk => match k, hk with | 0, _ => rfl | 1, _ => rfl | 2, _ => rfl | 3, _ => rfl | 4, _ => rfl | 5, _ => rfl | 6, _ => rfl | k + 7, hk => absurd hk (by omega)) _ (vp_lt (inb_t h_30))
            refine iastK hx hb hK hP hD hS (3 + x2_7.toNatClampNeg) 0 ((show ∀ k, k < 7 → (ws_Sh g a z_35 ++ ws_St g b w)[3 + k]? = some (a (k + 3), .inl (g 0, 5, .inl ((q_Sh_worth z_35) k))) from fun k hk => match k, hk with | 0, _ => rfl | 1, _ => rfl | 2, _ => rfl | 3, _ => rfl | 4, _ => rfl | 5, _ => rfl | 6, _ => rfl | k + 7, hk => absurd hk (by omega)) _ (vp_lt (inb_t h_30))) rfl (inb_t h_31) rfl d_Sh_byStaying_104 (fun H locs hP hD hS => ?_)
            rw [hset_32] at hP hD
            refine lv_iinc (v := x2_7 + 1) (lv' := [(2, .int (x2_7 + 1)), (0, .ref (a 0)), (1, .ref (b 0)), (3, .int 1)]) hx hb d_Sh_byStaying_105 hl (k := 2) rfl (by rfl) (by decide) rfl (fun ls hl => ?_)
            refine lv_goto (tgt := 7) hx hb d_Sh_byStaying_108 (by decide) ?_
            exact ih7 (x2_7 + 1) (u_Sh_worth z_35 (upd2 (q_Sh_worth z_35) x2_7.toNatClampNeg (q_Sh_people z_35).toNatClampNeg (-1000000))) _ _ _ hP hD hS (lv_sub hl [1, 2, 0] rfl) hd
          have lp35 : ∀ (x2_f35 : Int32) (x3_f35 : Int32) (k35_84 : T_Sh → Option (T_Sh)) (hk35_84 : ∀ (z_35 : T_Sh) (H : Heap) (locs : List Loc) (ls : Array Slot), va_P D classes (ws_Sh g a z_35 ++ ws_St g b w) H → va_D A (ws_Sh g a z_35 ++ ws_St g b w) → va_S A s.heap H locs → lv_has ls 5 [(0, .ref (a 0)), (1, .ref (b 0)), (2, .int x2_f35), (3, .int x3_f35)] → k35_84 z_35 = some v → GV p l e s m ({ frames := 1, cells := 0, slots := 0, locals := 22 } : Room) ([.ref (a 0), .ref (b 0)] : List Value).toArray below meth c A D g (ws_Sh g a v ++ ws_St g b w) H locs (F0 m 84 ls [])) (n : Nat) (x4_35 : Int32) (z_35 : T_Sh) (H : Heap) (locs : List Loc) (ls : Array Slot), va_P D classes (ws_Sh g a z_35 ++ ws_St g b w) H → va_D A (ws_Sh g a z_35 ++ ws_St g b w) → va_S A s.heap H locs → lv_has ls 5 [(0, .ref (a 0)), (1, .ref (b 0)), (2, .int x2_f35), (3, .int x3_f35), (4, .int x4_35)] → d_Sh_byStaying_L35 x2_f35 x3_f35 w k35_84 n x4_35 z_35 = some v → GV p l e s m ({ frames := 1, cells := 0, slots := 0, locals := 22 } : Room) ([.ref (a 0), .ref (b 0)] : List Value).toArray below meth c A D g (ws_Sh g a v ++ ws_St g b w) H locs (F0 m 35 ls []) := by
            intro x2_f35 x3_f35 k35_84 hk35_84 n
            induction n with
            | zero =>
              intro  x4_35 z_35 H locs ls hP hD hS hl hd
              have hd : none = some v := hd
              cases hd
            | succ n ih35 =>
              intro  x4_35 z_35 H locs ls hP hD hS hl hd
              have hd : B_Sh_byStaying_L35 x2_f35 x3_f35 w k35_84 (d_Sh_byStaying_L35 x2_f35 x3_f35 w k35_84 n) x4_35 z_35 = some v := hd
              generalize d_Sh_byStaying_L35 x2_f35 x3_f35 w k35_84 n = self35 at ih35 hd
              unfold B_Sh_byStaying_L35 at hd
              refine lv_iload hx hb d_Sh_byStaying_35 (lv_at hl 4 rfl) ?_
              refine lv_aload_n hx hb d_Sh_byStaying_37 rfl (lv_at hl 0 rfl) ?_
              refine va_get (D := D) (ci := 8) (v := .int (q_Sh_people z_35)) (C := R_Sh) (T := F_Sh) (N := 10) hx hb hg i_Sh hown hK hP 0 rfl rfl 3 (by decide) (hg _ g_329) (fun _ h9 => h9) rfl d_Sh_byStaying_38 ?_
              refine lv_icmp_ge (tgt := 84) hx hb d_Sh_byStaying_41 (by decide) (fun h_19 => ?_) (fun h_19 => ?_)
              · have hd := ite_t hd h_19
                exact hk35_84 z_35 _ _ _ hP hD hS (lv_sub hl [0, 1, 2, 3] rfl) hd
              · have hd := ite_f hd h_19
                refine lv_aload_n hx hb d_Sh_byStaying_44 rfl (lv_at hl 0 rfl) ?_
                refine va_get (D := D) (ci := 8) (v := .ref (a 2)) (C := R_Sh) (T := F_Sh) (N := 10) hx hb hg i_Sh hown hK hP 0 rfl rfl 5 (by decide) (hg _ g_331) (fun _ h9 => h9) rfl d_Sh_byStaying_45 ?_
                refine lv_iload_n hx hb d_Sh_byStaying_48 rfl (lv_at hl 2 rfl) ?_
                obtain ⟨h_20, hd⟩ := ite_s hd
                refine aldA hx hb hK hP 2 rfl (inb_t h_20) d_Sh_byStaying_49 ?_
                refine lv_iload hx hb d_Sh_byStaying_50 (lv_at hl 4 rfl) ?_
                refine lv_iload_n hx hb d_Sh_byStaying_52 rfl (lv_at hl 3 rfl) ?_
                refine lv_if_ne (tgt := 61) hx hb d_Sh_byStaying_53 (by decide) (fun h_21 => ?_) (fun h_21 => ?_)
                · have hd := ite_f hd h_21
                  refine lv_aload_n hx hb d_Sh_byStaying_61 rfl (lv_at hl 1 rfl) ?_
                  refine va_get (D := D) (ci := 9) (v := .ref (b 9)) (C := R_St) (T := F_St) (N := 7) hx hb hg i_St hown hK hP 14 rfl rfl 6 (by decide) (hg _ g_298) (fun _ h9 => h9) rfl d_Sh_byStaying_62 ?_
                  refine lv_iload_n hx hb d_Sh_byStaying_65 rfl (lv_at hl 2 rfl) ?_
                  obtain ⟨h_27, hd⟩ := ite_s hd
                  refine ialdK hx hb hK hP 23 0 rfl rfl (inb_t h_27) rfl d_Sh_byStaying_66 ?_
                  refine lv_iload hx hb d_Sh_byStaying_67 (lv_at hl 4 rfl) ?_
                  refine lv_icmp_ne (tgt := 76) hx hb d_Sh_byStaying_69 (by decide) (fun h_22 => ?_) (fun h_22 => ?_)
                  · have hd := ite_f hd h_22
                    refine lv_iconst (v := (-1)) hx hb d_Sh_byStaying_76 (by decide) ?_
                    obtain ⟨h_23, hd⟩ := ite_s hd
                    have hset_24 := (show ∀ k, k < 7 → (ws_Sh g a z_35 ++ ws_St g b w).set (3 + k) (a (k + 3), .inl (g 0, 5, .inl (upd ((q_Sh_worth z_35) k) x4_35.toNatClampNeg (-1)))) = ws_Sh g a (u_Sh_worth z_35 (upd2 (q_Sh_worth z_35) k x4_35.toNatClampNeg (-1))) ++ ws_St g b w from fun k hk => match k, hk with | 0, _ => rfl | 1, _ => rfl | 2, _ => rfl | 3, _ => rfl | 4, _ => rfl | 5, _ => rfl | 6, _ => rfl | k + 7, hk => absurd hk (by omega)) _ (vp_lt (inb_t h_20))
                    refine iastK hx hb hK hP hD hS (3 + x2_f35.toNatClampNeg) 0 ((show ∀ k, k < 7 → (ws_Sh g a z_35 ++ ws_St g b w)[3 + k]? = some (a (k + 3), .inl (g 0, 5, .inl ((q_Sh_worth z_35) k))) from fun k hk => match k, hk with | 0, _ => rfl | 1, _ => rfl | 2, _ => rfl | 3, _ => rfl | 4, _ => rfl | 5, _ => rfl | 6, _ => rfl | k + 7, hk => absurd hk (by omega)) _ (vp_lt (inb_t h_20))) rfl (inb_t h_23) rfl d_Sh_byStaying_77 (fun H locs hP hD hS => ?_)
                    rw [hset_24] at hP hD
                    refine lv_iinc (v := x4_35 + 1) (lv' := [(4, .int (x4_35 + 1)), (0, .ref (a 0)), (1, .ref (b 0)), (2, .int x2_f35), (3, .int x3_f35)]) hx hb d_Sh_byStaying_78 hl (k := 4) rfl (by rfl) (by decide) rfl (fun ls hl => ?_)
                    refine lv_goto (tgt := 35) hx hb d_Sh_byStaying_81 (by decide) ?_
                    exact ih35 (x4_35 + 1) (u_Sh_worth z_35 (upd2 (q_Sh_worth z_35) x2_f35.toNatClampNeg x4_35.toNatClampNeg (-1))) _ _ _ hP hD hS (lv_sub hl [1, 2, 3, 4, 0] rfl) hd
                  · have hd := ite_t hd h_22
                    refine lv_iconst (v := 0) hx hb d_Sh_byStaying_72 (by decide) ?_
                    refine lv_goto (tgt := 77) hx hb d_Sh_byStaying_73 (by decide) ?_
                    obtain ⟨h_25, hd⟩ := ite_s hd
                    have hset_26 := (show ∀ k, k < 7 → (ws_Sh g a z_35 ++ ws_St g b w).set (3 + k) (a (k + 3), .inl (g 0, 5, .inl (upd ((q_Sh_worth z_35) k) x4_35.toNatClampNeg 0))) = ws_Sh g a (u_Sh_worth z_35 (upd2 (q_Sh_worth z_35) k x4_35.toNatClampNeg 0)) ++ ws_St g b w from fun k hk => match k, hk with | 0, _ => rfl | 1, _ => rfl | 2, _ => rfl | 3, _ => rfl | 4, _ => rfl | 5, _ => rfl | 6, _ => rfl | k + 7, hk => absurd hk (by omega)) _ (vp_lt (inb_t h_20))
                    refine iastK hx hb hK hP hD hS (3 + x2_f35.toNatClampNeg) 0 ((show ∀ k, k < 7 → (ws_Sh g a z_35 ++ ws_St g b w)[3 + k]? = some (a (k + 3), .inl (g 0, 5, .inl ((q_Sh_worth z_35) k))) from fun k hk => match k, hk with | 0, _ => rfl | 1, _ => rfl | 2, _ => rfl | 3, _ => rfl | 4, _ => rfl | 5, _ => rfl | 6, _ => rfl | k + 7, hk => absurd hk (by omega)) _ (vp_lt (inb_t h_20))) rfl (inb_t h_25) rfl d_Sh_byStaying_77 (fun H locs hP hD hS => ?_)
                    rw [hset_26] at hP hD
                    refine lv_iinc (v := x4_35 + 1) (lv' := [(4, .int (x4_35 + 1)), (0, .ref (a 0)), (1, .ref (b 0)), (2, .int x2_f35), (3, .int x3_f35)]) hx hb d_Sh_byStaying_78 hl (k := 4) rfl (by rfl) (by decide) rfl (fun ls hl => ?_)
                    refine lv_goto (tgt := 35) hx hb d_Sh_byStaying_81 (by decide) ?_
                    exact ih35 (x4_35 + 1) (u_Sh_worth z_35 (upd2 (q_Sh_worth z_35) x2_f35.toNatClampNeg x4_35.toNatClampNeg 0)) _ _ _ hP hD hS (lv_sub hl [1, 2, 3, 4, 0] rfl) hd
                · have hd := ite_t hd h_21
                  refine lv_ldc (v := (-1000000)) hx hb hown (hg _ g_802) d_Sh_byStaying_56 ?_
                  refine lv_goto (tgt := 77) hx hb d_Sh_byStaying_58 (by decide) ?_
                  obtain ⟨h_28, hd⟩ := ite_s hd
                  have hset_29 := (show ∀ k, k < 7 → (ws_Sh g a z_35 ++ ws_St g b w).set (3 + k) (a (k + 3), .inl (g 0, 5, .inl (upd ((q_Sh_worth z_35) k) x4_35.toNatClampNeg (-1000000)))) = ws_Sh g a (u_Sh_worth z_35 (upd2 (q_Sh_worth z_35) k x4_35.toNatClampNeg (-1000000))) ++ ws_St g b w from fun k hk => match k, hk with | 0, _ => rfl | 1, _ => rfl | 2, _ => rfl | 3, _ => rfl | 4, _ => rfl | 5, _ => rfl | 6, _ => rfl | k + 7, hk => absurd hk (by omega)) _ (vp_lt (inb_t h_20))
                  refine iastK hx hb hK hP hD hS (3 + x2_f35.toNatClampNeg) 0 ((show ∀ k, k < 7 → (ws_Sh g a z_35 ++ ws_St g b w)[3 + k]? = some (a (k + 3), .inl (g 0, 5, .inl ((q_Sh_worth z_35) k))) from fun k hk => match k, hk with | 0, _ => rfl | 1, _ => rfl | 2, _ => rfl | 3, _ => rfl | 4, _ => rfl | 5, _ => rfl | 6, _ => rfl | k + 7, hk => absurd hk (by omega)) _ (vp_lt (inb_t h_20))) rfl (inb_t h_28) rfl d_Sh_byStaying_77 (fun H locs hP hD hS => ?_)
                  rw [hset_29] at hP hD
                  refine lv_iinc (v := x4_35 + 1) (lv' := [(4, .int (x4_35 + 1)), (0, .ref (a 0)), (1, .ref (b 0)), (2, .int x2_f35), (3, .int x3_f35)]) hx hb d_Sh_byStaying_78 hl (k := 4) rfl (by rfl) (by decide) rfl (fun ls hl => ?_)
                  refine lv_goto (tgt := 35) hx hb d_Sh_byStaying_81 (by decide) ?_
                  exact ih35 (x4_35 + 1) (u_Sh_worth z_35 (upd2 (q_Sh_worth z_35) x2_f35.toNatClampNeg x4_35.toNatClampNeg (-1000000))) _ _ _ hP hD hS (lv_sub hl [1, 2, 3, 4, 0] rfl) hd
          exact lp35 x2_7 1 _ ex35_84 1000 0 z_7 _ _ _ hP hD hS (lv_sub hl [2, 3, 4, 1, 0] rfl) hd
  exact lp7 1000 0 v_1 _ _ _ hP hD hS (lv_sub hl [1, 2, 0] rfl) hd
-- OwnsLift$Sets.leastGiven(LOwnsLift$Standing;I)I
def B_Se_leastGiven_L19 (x1_f19 : Int32) (x2_f19 : Int32) (z : T_St) (self19 : Int32 → Int32 → Int32 → Option (Int32)) (x3_19 : Int32) (x4_19 : Int32) (x5_19 : Int32) : Option (Int32) :=
  if x2_f19 ≤ x5_19 then (some (x3_19)) else (if (x5_19 &&& (x2_f19 ^^^ (-1))) = 0 then ((d_St_weightOfSet (x2_f19 &&& (x5_19 ^^^ (-1))) z).bind fun v_7 => if inb x1_f19 4 = true then (if ((q_St_lifts z) x1_f19.toNatClampNeg) < v_7 then (self19 x3_19 x4_19 (x5_19 + 1)) else ((d_St_likeOfSet x1_f19 x5_19 z).bind fun v_10 => if x4_19 ≤ v_10 then (self19 x3_19 x4_19 (x5_19 + 1)) else ((d_St_likeOfSet x1_f19 x5_19 z).bind fun v_13 => self19 x5_19 v_13 (x5_19 + 1)))) else none) else (self19 x3_19 x4_19 (x5_19 + 1)))
def d_Se_leastGiven_L19 (x1_f19 : Int32) (x2_f19 : Int32) (z : T_St) (n : Nat) : Int32 → Int32 → Int32 → Option (Int32) := recN (fun _ _ _ => none) (fun self => B_Se_leastGiven_L19 x1_f19 x2_f19 z self) n
def d_Se_leastGiven (x1 : Int32) (z : T_St) : Option (Int32) :=
  (d_St_bits x1 z).bind fun v_1 => (d_St_likeOfSet x1 v_1 z).bind fun v_3 => d_Se_leastGiven_L19 x1 v_1 z  1000 v_1 v_3 0
theorem d_Se_leastGiven_0 : decode b_Se_leastGiven 0 = .ok (.aload_n 0, 1) := by decide +kernel
theorem d_Se_leastGiven_1 : decode b_Se_leastGiven 1 = .ok (.iload_n 1, 1) := by decide +kernel
theorem d_Se_leastGiven_2 : decode b_Se_leastGiven 2 = .ok (.invokevirtual 9, 3) := by decide +kernel
theorem d_Se_leastGiven_5 : decode b_Se_leastGiven 5 = .ok (.istore_n 2, 1) := by decide +kernel
theorem d_Se_leastGiven_6 : decode b_Se_leastGiven 6 = .ok (.iload_n 2, 1) := by decide +kernel
theorem d_Se_leastGiven_7 : decode b_Se_leastGiven 7 = .ok (.istore_n 3, 1) := by decide +kernel
theorem d_Se_leastGiven_8 : decode b_Se_leastGiven 8 = .ok (.aload_n 0, 1) := by decide +kernel
theorem d_Se_leastGiven_9 : decode b_Se_leastGiven 9 = .ok (.iload_n 1, 1) := by decide +kernel
theorem d_Se_leastGiven_10 : decode b_Se_leastGiven 10 = .ok (.iload_n 2, 1) := by decide +kernel
theorem d_Se_leastGiven_11 : decode b_Se_leastGiven 11 = .ok (.invokevirtual 15, 3) := by decide +kernel
theorem d_Se_leastGiven_14 : decode b_Se_leastGiven 14 = .ok (.istore 4, 2) := by decide +kernel
theorem d_Se_leastGiven_16 : decode b_Se_leastGiven 16 = .ok (.iconst 0, 1) := by decide +kernel
theorem d_Se_leastGiven_17 : decode b_Se_leastGiven 17 = .ok (.istore 5, 2) := by decide +kernel
theorem d_Se_leastGiven_19 : decode b_Se_leastGiven 19 = .ok (.iload 5, 2) := by decide +kernel
theorem d_Se_leastGiven_21 : decode b_Se_leastGiven 21 = .ok (.iload_n 2, 1) := by decide +kernel
theorem d_Se_leastGiven_22 : decode b_Se_leastGiven 22 = .ok (.if_icmp .ge 61, 3) := by decide +kernel
theorem d_Se_leastGiven_25 : decode b_Se_leastGiven 25 = .ok (.iload 5, 2) := by decide +kernel
theorem d_Se_leastGiven_27 : decode b_Se_leastGiven 27 = .ok (.iload_n 2, 1) := by decide +kernel
theorem d_Se_leastGiven_28 : decode b_Se_leastGiven 28 = .ok (.iconst (-1), 1) := by decide +kernel
theorem d_Se_leastGiven_29 : decode b_Se_leastGiven 29 = .ok (.ixor, 1) := by decide +kernel
theorem d_Se_leastGiven_30 : decode b_Se_leastGiven 30 = .ok (.iand, 1) := by decide +kernel
theorem d_Se_leastGiven_31 : decode b_Se_leastGiven 31 = .ok (.ifCond .ne 46, 3) := by decide +kernel
theorem d_Se_leastGiven_34 : decode b_Se_leastGiven 34 = .ok (.aload_n 0, 1) := by decide +kernel
theorem d_Se_leastGiven_35 : decode b_Se_leastGiven 35 = .ok (.iload_n 2, 1) := by decide +kernel
theorem d_Se_leastGiven_36 : decode b_Se_leastGiven 36 = .ok (.iload 5, 2) := by decide +kernel
theorem d_Se_leastGiven_38 : decode b_Se_leastGiven 38 = .ok (.iconst (-1), 1) := by decide +kernel
theorem d_Se_leastGiven_39 : decode b_Se_leastGiven 39 = .ok (.ixor, 1) := by decide +kernel
theorem d_Se_leastGiven_40 : decode b_Se_leastGiven 40 = .ok (.iand, 1) := by decide +kernel
theorem d_Se_leastGiven_41 : decode b_Se_leastGiven 41 = .ok (.invokevirtual 19, 3) := by decide +kernel
theorem d_Se_leastGiven_44 : decode b_Se_leastGiven 44 = .ok (.aload_n 0, 1) := by decide +kernel
theorem d_Se_leastGiven_45 : decode b_Se_leastGiven 45 = .ok (.getfield 22, 3) := by decide +kernel
theorem d_Se_leastGiven_48 : decode b_Se_leastGiven 48 = .ok (.iload_n 1, 1) := by decide +kernel
theorem d_Se_leastGiven_49 : decode b_Se_leastGiven 49 = .ok (.iaload, 1) := by decide +kernel
theorem d_Se_leastGiven_50 : decode b_Se_leastGiven 50 = .ok (.if_icmp .gt 27, 3) := by decide +kernel
theorem d_Se_leastGiven_53 : decode b_Se_leastGiven 53 = .ok (.aload_n 0, 1) := by decide +kernel
theorem d_Se_leastGiven_54 : decode b_Se_leastGiven 54 = .ok (.iload_n 1, 1) := by decide +kernel
theorem d_Se_leastGiven_55 : decode b_Se_leastGiven 55 = .ok (.iload 5, 2) := by decide +kernel
theorem d_Se_leastGiven_57 : decode b_Se_leastGiven 57 = .ok (.invokevirtual 15, 3) := by decide +kernel
theorem d_Se_leastGiven_60 : decode b_Se_leastGiven 60 = .ok (.iload 4, 2) := by decide +kernel
theorem d_Se_leastGiven_62 : decode b_Se_leastGiven 62 = .ok (.if_icmp .ge 15, 3) := by decide +kernel
theorem d_Se_leastGiven_65 : decode b_Se_leastGiven 65 = .ok (.iload 5, 2) := by decide +kernel
theorem d_Se_leastGiven_67 : decode b_Se_leastGiven 67 = .ok (.istore_n 3, 1) := by decide +kernel
theorem d_Se_leastGiven_68 : decode b_Se_leastGiven 68 = .ok (.aload_n 0, 1) := by decide +kernel
theorem d_Se_leastGiven_69 : decode b_Se_leastGiven 69 = .ok (.iload_n 1, 1) := by decide +kernel
theorem d_Se_leastGiven_70 : decode b_Se_leastGiven 70 = .ok (.iload 5, 2) := by decide +kernel
theorem d_Se_leastGiven_72 : decode b_Se_leastGiven 72 = .ok (.invokevirtual 15, 3) := by decide +kernel
theorem d_Se_leastGiven_75 : decode b_Se_leastGiven 75 = .ok (.istore 4, 2) := by decide +kernel
theorem d_Se_leastGiven_77 : decode b_Se_leastGiven 77 = .ok (.iinc 5 1, 3) := by decide +kernel
theorem d_Se_leastGiven_80 : decode b_Se_leastGiven 80 = .ok (.goto (-61), 3) := by decide +kernel
theorem d_Se_leastGiven_83 : decode b_Se_leastGiven 83 = .ok (.iload_n 3, 1) := by decide +kernel
theorem d_Se_leastGiven_84 : decode b_Se_leastGiven 84 = .ok (.ireturn, 1) := by decide +kernel
theorem o_Se_leastGiven : OkS y_Se_leastGiven b_Se_leastGiven 6 (some .int) 2 := ⟨⟨by decide +kernel, by decide +kernel, by decide +kernel⟩, g_828, g_89, g_829⟩
set_option maxHeartbeats 4000000 in
set_option maxRecDepth 100000 in
theorem c_Se_leastGiven (l : Launch) (D : va_G) (g : Nat → ClassId) (a : Nat → Nat) (x1 : Int32) (z : T_St) (v : Int32) (h : d_Se_leastGiven x1 z = some v) :
    MI l y_Se_leastGiven b_Se_leastGiven 6 .int ({ frames := 1, cells := 0, slots := 0, locals := 24 } : Room) D g [.ref (a 0), .int x1] (ws_St g a z) (v) (ws_St g a z) := by
  have hd := h
  unfold d_Se_leastGiven at hd
  refine enterI rfl (Nat.le_of_ble_eq_true rfl) (fun p e s m below meth c A ls hx hb hml hr hown hg hlk hK hA hP hD hS hCs hl => ?_)
  have hown : s.vm.findClass "OwnsLift$Sets" = some m.cls := hown
  have hl : lv_has ls 6 [(0, .ref (a 0)), (1, .int x1)] := hl
  show GI p l e s m ({ frames := 1, cells := 0, slots := 0, locals := 24 } : Room) ([.ref (a 0), .int x1] : List Value).toArray below meth c A D g (ws_St g a z) (v) s.heap [] (F0 m 0 ls [])
  refine lv_aload_n hx hb d_Se_leastGiven_0 rfl (lv_at hl 0 rfl) ?_
  refine lv_iload_n hx hb d_Se_leastGiven_1 rfl (lv_at hl 1 rfl) ?_
  obtain ⟨v_1, e_2, hd⟩ := bind_s hd
  refine callVI (ws' := ws_St g a z) (rest := []) (As := [.int x1]) hx hb hml hown hg hK hP hD hS hA hCs hl.1 (c_St_bits l D g a x1 z _ e_2) o_St_bits g_830 (ci := 9) (q0 := 0) rfl rfl (List.range' 0 10) (segC1 rfl rfl) (by decide) rfl (segP1 rfl rfl) rfl rfl (Nat.le_of_ble_eq_true rfl) ⟨rfl, rfl, Nat.le_of_ble_eq_true rfl, Nat.le_of_ble_eq_true rfl⟩ d_Se_leastGiven_2 (fun H locs hP hD hS => ?_)
  refine lv_istore_n (lv' := [(2, .int v_1), (0, .ref (a 0)), (1, .int x1)]) hx hb d_Se_leastGiven_5 rfl hl (by decide) rfl (fun ls hl => ?_)
  refine lv_iload_n hx hb d_Se_leastGiven_6 rfl (lv_at hl 0 rfl) ?_
  refine lv_istore_n (lv' := [(3, .int v_1), (2, .int v_1), (0, .ref (a 0)), (1, .int x1)]) hx hb d_Se_leastGiven_7 rfl hl (by decide) rfl (fun ls hl => ?_)
  refine lv_aload_n hx hb d_Se_leastGiven_8 rfl (lv_at hl 2 rfl) ?_
  refine lv_iload_n hx hb d_Se_leastGiven_9 rfl (lv_at hl 3 rfl) ?_
  refine lv_iload_n hx hb d_Se_leastGiven_10 rfl (lv_at hl 1 rfl) ?_
  obtain ⟨v_3, e_4, hd⟩ := bind_s hd
  refine callVI (ws' := ws_St g a z) (rest := []) (As := [.int x1, .int v_1]) hx hb hml hown hg hK hP hD hS hA hCs hl.1 (c_St_likeOfSet l D g a x1 v_1 z _ e_4) o_St_likeOfSet g_831 (ci := 9) (q0 := 0) rfl rfl (List.range' 0 10) (segC1 rfl rfl) (by decide) rfl (segP1 rfl rfl) rfl rfl (Nat.le_of_ble_eq_true rfl) ⟨rfl, rfl, Nat.le_of_ble_eq_true rfl, Nat.le_of_ble_eq_true rfl⟩ d_Se_leastGiven_11 (fun H locs hP hD hS => ?_)
  refine lv_istore (lv' := [(4, .int v_3), (3, .int v_1), (2, .int v_1), (0, .ref (a 0)), (1, .int x1)]) hx hb d_Se_leastGiven_14 hl (by decide) rfl (fun ls hl => ?_)
  refine lv_iconst (v := 0) hx hb d_Se_leastGiven_16 (by decide) ?_
  refine lv_istore (lv' := [(5, .int 0), (4, .int v_3), (3, .int v_1), (2, .int v_1), (0, .ref (a 0)), (1, .int x1)]) hx hb d_Se_leastGiven_17 hl (by decide) rfl (fun ls hl => ?_)
  have lp19 : ∀ (x1_f19 : Int32) (x2_f19 : Int32) (n : Nat) (x3_19 : Int32) (x4_19 : Int32) (x5_19 : Int32) (H : Heap) (locs : List Loc) (ls : Array Slot), va_P D classes (ws_St g a z) H → va_D A (ws_St g a z) → va_S A s.heap H locs → lv_has ls 6 [(0, .ref (a 0)), (1, .int x1_f19), (2, .int x2_f19), (3, .int x3_19), (4, .int x4_19), (5, .int x5_19)] → d_Se_leastGiven_L19 x1_f19 x2_f19 z n x3_19 x4_19 x5_19 = some v → GI p l e s m ({ frames := 1, cells := 0, slots := 0, locals := 24 } : Room) ([.ref (a 0), .int x1] : List Value).toArray below meth c A D g (ws_St g a z) (v) H locs (F0 m 19 ls []) := by
    intro x1_f19 x2_f19 n
    induction n with
    | zero =>
      intro  x3_19 x4_19 x5_19 H locs ls hP hD hS hl hd
      have hd : none = some v := hd
      cases hd
    | succ n ih19 =>
      intro  x3_19 x4_19 x5_19 H locs ls hP hD hS hl hd
      have hd : B_Se_leastGiven_L19 x1_f19 x2_f19 z (d_Se_leastGiven_L19 x1_f19 x2_f19 z n) x3_19 x4_19 x5_19 = some v := hd
      generalize d_Se_leastGiven_L19 x1_f19 x2_f19 z n = self19 at ih19 hd
      unfold B_Se_leastGiven_L19 at hd
      refine lv_iload hx hb d_Se_leastGiven_19 (lv_at hl 5 rfl) ?_
      refine lv_iload_n hx hb d_Se_leastGiven_21 rfl (lv_at hl 2 rfl) ?_
      refine lv_icmp_ge (tgt := 83) hx hb d_Se_leastGiven_22 (by decide) (fun h_5 => ?_) (fun h_5 => ?_)
      · have hd := ite_t hd h_5
        refine lv_iload_n hx hb d_Se_leastGiven_83 rfl (lv_at hl 3 rfl) ?_
        obtain rfl := Option.some.inj hd
        exact retI hx hb hr hlk hK hP hD hS d_Se_leastGiven_84 rfl
      · have hd := ite_f hd h_5
        refine lv_iload hx hb d_Se_leastGiven_25 (lv_at hl 5 rfl) ?_
        refine lv_iload_n hx hb d_Se_leastGiven_27 rfl (lv_at hl 2 rfl) ?_
        refine lv_iconst (v := (-1)) hx hb d_Se_leastGiven_28 (by decide) ?_
        refine lv_ixor hx hb d_Se_leastGiven_29 ?_
        refine lv_iand hx hb d_Se_leastGiven_30 ?_
        refine lv_if_ne (tgt := 77) hx hb d_Se_leastGiven_31 (by decide) (fun h_6 => ?_) (fun h_6 => ?_)
        · have hd := ite_f hd h_6
          refine lv_iinc (v := x5_19 + 1) (lv' := [(5, .int (x5_19 + 1)), (0, .ref (a 0)), (1, .int x1_f19), (2, .int x2_f19), (3, .int x3_19), (4, .int x4_19)]) hx hb d_Se_leastGiven_77 hl (k := 5) rfl (by rfl) (by decide) rfl (fun ls hl => ?_)
          refine lv_goto (tgt := 19) hx hb d_Se_leastGiven_80 (by decide) ?_
          exact ih19 x3_19 x4_19 (x5_19 + 1) _ _ _ hP hD hS (lv_sub hl [1, 2, 3, 4, 5, 0] rfl) hd
        · have hd := ite_t hd h_6
          refine lv_aload_n hx hb d_Se_leastGiven_34 rfl (lv_at hl 0 rfl) ?_
          refine lv_iload_n hx hb d_Se_leastGiven_35 rfl (lv_at hl 2 rfl) ?_
          refine lv_iload hx hb d_Se_leastGiven_36 (lv_at hl 5 rfl) ?_
          refine lv_iconst (v := (-1)) hx hb d_Se_leastGiven_38 (by decide) ?_
          refine lv_ixor hx hb d_Se_leastGiven_39 ?_
          refine lv_iand hx hb d_Se_leastGiven_40 ?_
          obtain ⟨v_7, e_8, hd⟩ := bind_s hd
          refine callVI (ws' := ws_St g a z) (rest := []) (As := [.int (x2_f19 &&& (x5_19 ^^^ (-1)))]) hx hb hml hown hg hK hP hD hS hA hCs hl.1 (c_St_weightOfSet l D g a (x2_f19 &&& (x5_19 ^^^ (-1))) z _ e_8) o_St_weightOfSet g_835 (ci := 9) (q0 := 0) rfl rfl (List.range' 0 10) (segC1 rfl rfl) (by decide) rfl (segP1 rfl rfl) rfl rfl (Nat.le_of_ble_eq_true rfl) ⟨rfl, rfl, Nat.le_of_ble_eq_true rfl, Nat.le_of_ble_eq_true rfl⟩ d_Se_leastGiven_41 (fun H locs hP hD hS => ?_)
          refine lv_aload_n hx hb d_Se_leastGiven_44 rfl (lv_at hl 0 rfl) ?_
          refine va_get (D := D) (ci := 9) (v := .ref (a 6)) (C := R_St) (T := F_St) (N := 7) hx hb hg i_St hown hK hP 0 rfl rfl 3 (by decide) (hg _ g_288) (fun _ h9 => h9) rfl d_Se_leastGiven_45 ?_
          refine lv_iload_n hx hb d_Se_leastGiven_48 rfl (lv_at hl 1 rfl) ?_
          obtain ⟨h_15, hd⟩ := ite_s hd
          refine ialdK hx hb hK hP 6 0 rfl rfl (inb_t h_15) rfl d_Se_leastGiven_49 ?_
          refine lv_icmp_gt (tgt := 77) hx hb d_Se_leastGiven_50 (by decide) (fun h_9 => ?_) (fun h_9 => ?_)
          · have hd := ite_t hd h_9
            refine lv_iinc (v := x5_19 + 1) (lv' := [(5, .int (x5_19 + 1)), (0, .ref (a 0)), (1, .int x1_f19), (2, .int x2_f19), (3, .int x3_19), (4, .int x4_19)]) hx hb d_Se_leastGiven_77 hl (k := 5) rfl (by rfl) (by decide) rfl (fun ls hl => ?_)
            refine lv_goto (tgt := 19) hx hb d_Se_leastGiven_80 (by decide) ?_
            exact ih19 x3_19 x4_19 (x5_19 + 1) _ _ _ hP hD hS (lv_sub hl [1, 2, 3, 4, 5, 0] rfl) hd
          · have hd := ite_f hd h_9
            refine lv_aload_n hx hb d_Se_leastGiven_53 rfl (lv_at hl 0 rfl) ?_
            refine lv_iload_n hx hb d_Se_leastGiven_54 rfl (lv_at hl 1 rfl) ?_
            refine lv_iload hx hb d_Se_leastGiven_55 (lv_at hl 5 rfl) ?_
            obtain ⟨v_10, e_11, hd⟩ := bind_s hd
            refine callVI (ws' := ws_St g a z) (rest := []) (As := [.int x1_f19, .int x5_19]) hx hb hml hown hg hK hP hD hS hA hCs hl.1 (c_St_likeOfSet l D g a x1_f19 x5_19 z _ e_11) o_St_likeOfSet g_831 (ci := 9) (q0 := 0) rfl rfl (List.range' 0 10) (segC1 rfl rfl) (by decide) rfl (segP1 rfl rfl) rfl rfl (Nat.le_of_ble_eq_true rfl) ⟨rfl, rfl, Nat.le_of_ble_eq_true rfl, Nat.le_of_ble_eq_true rfl⟩ d_Se_leastGiven_57 (fun H locs hP hD hS => ?_)
            refine lv_iload hx hb d_Se_leastGiven_60 (lv_at hl 4 rfl) ?_
            refine lv_icmp_ge (tgt := 77) hx hb d_Se_leastGiven_62 (by decide) (fun h_12 => ?_) (fun h_12 => ?_)
            · have hd := ite_t hd h_12
              refine lv_iinc (v := x5_19 + 1) (lv' := [(5, .int (x5_19 + 1)), (0, .ref (a 0)), (1, .int x1_f19), (2, .int x2_f19), (3, .int x3_19), (4, .int x4_19)]) hx hb d_Se_leastGiven_77 hl (k := 5) rfl (by rfl) (by decide) rfl (fun ls hl => ?_)
              refine lv_goto (tgt := 19) hx hb d_Se_leastGiven_80 (by decide) ?_
              exact ih19 x3_19 x4_19 (x5_19 + 1) _ _ _ hP hD hS (lv_sub hl [1, 2, 3, 4, 5, 0] rfl) hd
            · have hd := ite_f hd h_12
              refine lv_iload hx hb d_Se_leastGiven_65 (lv_at hl 5 rfl) ?_
              refine lv_istore_n (lv' := [(3, .int x5_19), (0, .ref (a 0)), (1, .int x1_f19), (2, .int x2_f19), (4, .int x4_19), (5, .int x5_19)]) hx hb d_Se_leastGiven_67 rfl hl (by decide) rfl (fun ls hl => ?_)
              refine lv_aload_n hx hb d_Se_leastGiven_68 rfl (lv_at hl 1 rfl) ?_
              refine lv_iload_n hx hb d_Se_leastGiven_69 rfl (lv_at hl 2 rfl) ?_
              refine lv_iload hx hb d_Se_leastGiven_70 (lv_at hl 5 rfl) ?_
              obtain ⟨v_13, e_14, hd⟩ := bind_s hd
              refine callVI (ws' := ws_St g a z) (rest := []) (As := [.int x1_f19, .int x5_19]) hx hb hml hown hg hK hP hD hS hA hCs hl.1 (c_St_likeOfSet l D g a x1_f19 x5_19 z _ e_14) o_St_likeOfSet g_831 (ci := 9) (q0 := 0) rfl rfl (List.range' 0 10) (segC1 rfl rfl) (by decide) rfl (segP1 rfl rfl) rfl rfl (Nat.le_of_ble_eq_true rfl) ⟨rfl, rfl, Nat.le_of_ble_eq_true rfl, Nat.le_of_ble_eq_true rfl⟩ d_Se_leastGiven_72 (fun H locs hP hD hS => ?_)
              refine lv_istore (lv' := [(4, .int v_13), (3, .int x5_19), (0, .ref (a 0)), (1, .int x1_f19), (2, .int x2_f19), (5, .int x5_19)]) hx hb d_Se_leastGiven_75 hl (by decide) rfl (fun ls hl => ?_)
              refine lv_iinc (v := x5_19 + 1) (lv' := [(5, .int (x5_19 + 1)), (4, .int v_13), (3, .int x5_19), (0, .ref (a 0)), (1, .int x1_f19), (2, .int x2_f19)]) hx hb d_Se_leastGiven_77 hl (k := 5) rfl (by rfl) (by decide) rfl (fun ls hl => ?_)
              refine lv_goto (tgt := 19) hx hb d_Se_leastGiven_80 (by decide) ?_
              exact ih19 x5_19 v_13 (x5_19 + 1) _ _ _ hP hD hS (lv_sub hl [3, 4, 5, 2, 1, 0] rfl) hd
  exact lp19 x1 v_1 1000 v_1 v_3 0 _ _ _ hP hD hS (lv_sub hl [4, 5, 3, 2, 1, 0] rfl) hd

/-! New arrays of numbers, and the ends of a constructor. -/
section CT
variable {p : Program} {l : Launch} {e : Env} {R : Room} {s : State} {m : MethodId} {args : Array Value} {below : List Frame} {meth : Method} {c : Code} {H : Heap} {locs : List Loc} {cells slots : Nat} {Q : State → Prop}
variable {cc : ByteArray} {pc : Nat} {ls : Array Slot} {rest : List Value} {D : va_G} {g : Nat → ClassId} {A : Nat → Prop} {ws : va_W}
theorem newI (hx : p.tables.exec = Jvm.exec) (hb : c.code = cc) (hg : ∀ w ∈ GW, w.before args s = true) (hK : va_K D classes (TY g) s) (hP : va_P D classes ws H) (hD : va_D A ws) (hS : va_S A s.heap H locs) (hA : ∀ q, s.heap.size ≤ q → A q)
    {n : Int32} {N : Nat} (hn : ¬ n < 0) (hN : n.toNatClampNeg = N) (hb4 : N * 4 ≤ 536870912) (hc : cells + 1 ≤ R.cells) (hs : slots + N ≤ R.slots) (hdg : decode cc pc = .ok (.newarray .int, 2))
    (kk : ∀ (q : Nat) (H1 : Heap), va_P D classes (ws ++ [(q, .inl (g 0, N, .inl (fun _ => 0)))]) H1 → va_D A (ws ++ [(q, .inl (g 0, N, .inl (fun _ => 0)))]) → va_S A s.heap H1 locs → W p l e R s m args below meth c H1 locs (cells + 1) (slots + N) Q (F0 m (pc + 2) ls (.ref q :: rest))) :
    W p l e R s m args below meth c H locs cells slots Q (F0 m pc ls (.int n :: rest)) := by
  refine va_newa (atype := .int) (ty := .int) (a0 := (N, .inl (fun _ => 0))) hx hb (hg _ g_130) rfl hK hP hD hS hA (fun cA => rfl) hn hN hb4 hc hs hdg (fun q cA H1 hK1 hP1 hD1 hS1 => ?_)
  have h1 : s.vm.findClass ("[" ++ FieldType.int.toString) = some cA := (hK1.2 3 (cA, .int) rfl).2
  have h2 : s.vm.findClass ("[" ++ FieldType.int.toString) = some (g 0) := (hK.2 0 (g 0, .int) rfl).2
  have e9 : cA = g 0 := Option.some.inj (h1.symm.trans h2)
  subst e9
  exact kk q H1 hP1 hD1 hS1
theorem newZ (hx : p.tables.exec = Jvm.exec) (hb : c.code = cc) (hg : ∀ w ∈ GW, w.before args s = true) (hK : va_K D classes (TY g) s) (hP : va_P D classes ws H) (hD : va_D A ws) (hS : va_S A s.heap H locs) (hA : ∀ q, s.heap.size ≤ q → A q)
    {n : Int32} {N : Nat} (hn : ¬ n < 0) (hN : n.toNatClampNeg = N) (hb4 : N * 1 ≤ 536870912) (hc : cells + 1 ≤ R.cells) (hs : slots + N ≤ R.slots) (hdg : decode cc pc = .ok (.newarray .boolean, 2))
    (kk : ∀ (q : Nat) (H1 : Heap), va_P D classes (ws ++ [(q, .inl (g 1, N, .inl (fun _ => 0)))]) H1 → va_D A (ws ++ [(q, .inl (g 1, N, .inl (fun _ => 0)))]) → va_S A s.heap H1 locs → W p l e R s m args below meth c H1 locs (cells + 1) (slots + N) Q (F0 m (pc + 2) ls (.ref q :: rest))) :
    W p l e R s m args below meth c H locs cells slots Q (F0 m pc ls (.int n :: rest)) := by
  refine va_newa (atype := .boolean) (ty := .boolean) (a0 := (N, .inl (fun _ => 0))) hx hb (hg _ g_1071) rfl hK hP hD hS hA (fun cA => rfl) hn hN hb4 hc hs hdg (fun q cA H1 hK1 hP1 hD1 hS1 => ?_)
  have h1 : s.vm.findClass ("[" ++ FieldType.boolean.toString) = some cA := (hK1.2 3 (cA, .boolean) rfl).2
  have h2 : s.vm.findClass ("[" ++ FieldType.boolean.toString) = some (g 1) := (hK.2 1 (g 1, .boolean) rfl).2
  have e9 : cA = g 1 := Option.some.inj (h1.symm.trans h2)
  subst e9
  exact kk q H1 hP1 hD1 hS1
end CT
/-- a constructor: the blank object of class ci at h0 becomes the picture post, whose first cell it is; the other cells are new -/
def MC (l : Launch) (y : MethodName) (b : ByteArray) (n : Nat) (rm : Room) (D : va_G) (g : Nat → ClassId) (h0 : Nat) (ws : va_W) (post : (Nat → Nat) → va_W) (mc ms : Nat) : Prop :=
  ∀ sz, Met l y (.code y b n none :: GW) rm (va_Pc [.ref h0] (PreW D g ws sz)) (va_Qv (fun (a : Nat → Nat) => a 0 = h0) (fun a t => PstW D g (post a) (va_A ws sz) () t) (va_A ws sz)) mc ms (va_A ws sz)
theorem enterC {l : Launch} {y : MethodName} {b : ByteArray} {n : Nat} {rm : Room} {D : va_G} {g : Nat → ClassId} {h0 : Nat} {ws : va_W} {post : (Nat → Nat) → va_W} {mc ms : Nat} (hy : plainName y.cls = true) (hyn : y.name = "<init>") (hn : 1 ≤ n)
    (body : ∀ (p : Program) (e : Env) (s : State) (m : MethodId) (below : List Frame) (meth : Method) (c : Code) (A : Nat → Prop) (ls : Array Slot), p.tables.exec = Jvm.exec → c.code = b → c.maxLocals = n → meth.sig.returnType = none → s.vm.findClass y.cls = some m.cls → meth.name = "<init>" →
      (∀ w ∈ GW, w.before ([Value.ref h0] : List Value).toArray s = true) → meth.locks = false → va_K D classes (TY g) s → (∀ q, s.heap.size ≤ q → A q) → va_P D classes ws s.heap → va_D A ws → va_S A s.heap s.heap [] → Cst g A s s.heap → lv_has ls n [(0, .ref h0)] →
      W p l e rm s m ([Value.ref h0] : List Value).toArray below meth c s.heap [] 0 0 (MQ below (va_Qv (fun (a : Nat → Nat) => a 0 = h0) (fun a t => PstW D g (post a) A () t) A) ([Value.ref h0] : List Value).toArray s mc ms A) (F0 m 0 ls [])) : MC l y b n rm D g h0 ws post mc ms := by
  intro sz
  refine Met.ofW (cc := b) (maxL := n) (ret := none) hy rfl ?_
  intro p e s m args below meth c s₁ B hml hv
  obtain ⟨rfl, hsz, hP, hK, hD0, hCs⟩ := hv
  subst hsz
  rw [lg_entry_eq]
  exact body p e s m below meth c (va_A ws s.heap.size) _ B.exec B.bytes hml B.returns (findClass_of_methodNamed B.named) ((name_of_methodNamed B.named B.method).1.trans hyn) (fun w hw => atoms_spec (ws := .code y b n none :: GW) B.pre w (List.mem_cons_of_mem _ hw)) B.notSynchronized hK (fun q h => Or.inr h) hP hD0.self va_S.rf hCs (lv_entry [.ref h0] hn)
theorem d_La_init_0 : decode b_La_init 0 = .ok (.aload_n 0, 1) := by decide +kernel
theorem d_La_init_1 : decode b_La_init 1 = .ok (.invokespecial 3, 3) := by decide +kernel
theorem d_La_init_4 : decode b_La_init 4 = .ok (.aload_n 0, 1) := by decide +kernel
theorem d_La_init_5 : decode b_La_init 5 = .ok (.bipush 10, 2) := by decide +kernel
theorem d_La_init_7 : decode b_La_init 7 = .ok (.newarray .int, 2) := by decide +kernel
theorem d_La_init_9 : decode b_La_init 9 = .ok (.putfield 9, 3) := by decide +kernel
theorem d_La_init_12 : decode b_La_init 12 = .ok (.aload_n 0, 1) := by decide +kernel
theorem d_La_init_13 : decode b_La_init 13 = .ok (.bipush 10, 2) := by decide +kernel
theorem d_La_init_15 : decode b_La_init 15 = .ok (.newarray .int, 2) := by decide +kernel
theorem d_La_init_17 : decode b_La_init 17 = .ok (.putfield 15, 3) := by decide +kernel
theorem d_La_init_20 : decode b_La_init 20 = .ok (.aload_n 0, 1) := by decide +kernel
theorem d_La_init_21 : decode b_La_init 21 = .ok (.bipush 10, 2) := by decide +kernel
theorem d_La_init_23 : decode b_La_init 23 = .ok (.newarray .int, 2) := by decide +kernel
theorem d_La_init_25 : decode b_La_init 25 = .ok (.putfield 18, 3) := by decide +kernel
theorem d_La_init_28 : decode b_La_init 28 = .ok (.aload_n 0, 1) := by decide +kernel
theorem d_La_init_29 : decode b_La_init 29 = .ok (.bipush 100, 2) := by decide +kernel
theorem d_La_init_31 : decode b_La_init 31 = .ok (.newarray .int, 2) := by decide +kernel
theorem d_La_init_33 : decode b_La_init 33 = .ok (.putfield 21, 3) := by decide +kernel
theorem d_La_init_36 : decode b_La_init 36 = .ok (.return_, 1) := by decide +kernel
def i_T_La : T_La := (0, (fun _ => 0), (fun _ => 0), (fun _ => 0), (fun _ => 0), 0)
set_option maxHeartbeats 4000000 in
set_option maxRecDepth 100000 in
theorem c_La_init (l : Launch) (D : va_G) (g : Nat → ClassId) (h0 : Nat) :
    MC l y_La_init b_La_init 1 ({ frames := 1, cells := 4, slots := 130, locals := 12 } : Room) D g h0 [(h0, .inr (4, [.int 0, .null, .null, .null, .null, .int 0]))] (fun a => ws_La g a i_T_La) 4 130 := by
  refine enterC rfl rfl (Nat.le_of_ble_eq_true rfl) (fun p e s m below meth c A ls hx hb hml hr hown hin hg hlk hK hA hP hD hS hCs hl => ?_)
  have hown : s.vm.findClass "OwnsLift$Land" = some m.cls := hown
  refine lv_aload_n hx hb d_La_init_0 rfl (lv_at hl 0 rfl) ?_
  refine W.objInit hx hb hown (hg (.methodLink "OwnsLift$Land" 3 objectInit) g_110) (hg (.instanceMethod objectInit) g_97) (hg (.code objectInit ⟨#[0xb1]⟩ 1 none) g_98) rfl (by rw [hml]; exact hl.1) rfl d_La_init_1 (Nat.le_of_ble_eq_true rfl) (Nat.le_of_ble_eq_true rfl) ?_
  refine W.eq (g2 := F0 m 4 ls []) rfl ?_
  refine lv_aload_n hx hb d_La_init_4 rfl (lv_at hl 0 rfl) ?_
  refine lv_bipush (v := 10) hx hb d_La_init_5 (by decide) ?_
  refine newI (N := 10) hx hb hg hK hP hD hS hA (by decide) (by decide +kernel) (Nat.le_of_ble_eq_true rfl) (Nat.le_of_ble_eq_true rfl) (Nat.le_of_ble_eq_true rfl) d_La_init_7 (fun q7 H hP hD hS => ?_)
  have hP : va_P D classes ([(h0, .inr (4, [.int 0, .null, .null, .null, .null, .int 0])), (q7, .inl (g 0, 10, .inl (fun _ => 0)))]) H := hP
  have hD : va_D A ([(h0, .inr (4, [.int 0, .null, .null, .null, .null, .int 0])), (q7, .inl (g 0, 10, .inl (fun _ => 0)))]) := hD
  refine W.widen (k := 1) (n := 10) (by omega) (by omega) ?_
  refine va_putF (D := D) (ci := 4) (v := .ref q7) (ty := .array .int) (C := R_La) (T := F_La) (N := 6) hx hb hg i_La t_La t_La_ok n_La hown hK hP hD hS 0 rfl rfl 1 (by decide) (hg _ g_112) (fun _ h9 => h9) rfl hin rfl (by decide +kernel) rfl rfl (Nat.le_of_ble_eq_true rfl) d_La_init_9 (fun H locs hP hD hS => ?_)
  have hP : va_P D classes ([(h0, .inr (4, [.int 0, .ref q7, .null, .null, .null, .int 0])), (q7, .inl (g 0, 10, .inl (fun _ => 0)))]) H := hP
  have hD : va_D A ([(h0, .inr (4, [.int 0, .ref q7, .null, .null, .null, .int 0])), (q7, .inl (g 0, 10, .inl (fun _ => 0)))]) := hD
  refine lv_aload_n hx hb d_La_init_12 rfl (lv_at hl 0 rfl) ?_
  refine lv_bipush (v := 10) hx hb d_La_init_13 (by decide) ?_
  refine newI (N := 10) hx hb hg hK hP hD hS hA (by decide) (by decide +kernel) (Nat.le_of_ble_eq_true rfl) (Nat.le_of_ble_eq_true rfl) (Nat.le_of_ble_eq_true rfl) d_La_init_15 (fun q15 H hP hD hS => ?_)
  have hP : va_P D classes ([(h0, .inr (4, [.int 0, .ref q7, .null, .null, .null, .int 0])), (q7, .inl (g 0, 10, .inl (fun _ => 0))), (q15, .inl (g 0, 10, .inl (fun _ => 0)))]) H := hP
  have hD : va_D A ([(h0, .inr (4, [.int 0, .ref q7, .null, .null, .null, .int 0])), (q7, .inl (g 0, 10, .inl (fun _ => 0))), (q15, .inl (g 0, 10, .inl (fun _ => 0)))]) := hD
  refine W.widen (k := 2) (n := 20) (by omega) (by omega) ?_
  refine va_putF (D := D) (ci := 4) (v := .ref q15) (ty := .array .int) (C := R_La) (T := F_La) (N := 6) hx hb hg i_La t_La t_La_ok n_La hown hK hP hD hS 0 rfl rfl 2 (by decide) (hg _ g_113) (fun _ h9 => h9) rfl hin rfl (by decide +kernel) rfl rfl (Nat.le_of_ble_eq_true rfl) d_La_init_17 (fun H locs hP hD hS => ?_)
  have hP : va_P D classes ([(h0, .inr (4, [.int 0, .ref q7, .ref q15, .null, .null, .int 0])), (q7, .inl (g 0, 10, .inl (fun _ => 0))), (q15, .inl (g 0, 10, .inl (fun _ => 0)))]) H := hP
  have hD : va_D A ([(h0, .inr (4, [.int 0, .ref q7, .ref q15, .null, .null, .int 0])), (q7, .inl (g 0, 10, .inl (fun _ => 0))), (q15, .inl (g 0, 10, .inl (fun _ => 0)))]) := hD
  refine lv_aload_n hx hb d_La_init_20 rfl (lv_at hl 0 rfl) ?_
  refine lv_bipush (v := 10) hx hb d_La_init_21 (by decide) ?_
  refine newI (N := 10) hx hb hg hK hP hD hS hA (by decide) (by decide +kernel) (Nat.le_of_ble_eq_true rfl) (Nat.le_of_ble_eq_true rfl) (Nat.le_of_ble_eq_true rfl) d_La_init_23 (fun q23 H hP hD hS => ?_)
  have hP : va_P D classes ([(h0, .inr (4, [.int 0, .ref q7, .ref q15, .null, .null, .int 0])), (q7, .inl (g 0, 10, .inl (fun _ => 0))), (q15, .inl (g 0, 10, .inl (fun _ => 0))), (q23, .inl (g 0, 10, .inl (fun _ => 0)))]) H := hP
  have hD : va_D A ([(h0, .inr (4, [.int 0, .ref q7, .ref q15, .null, .null, .int 0])), (q7, .inl (g 0, 10, .inl (fun _ => 0))), (q15, .inl (g 0, 10, .inl (fun _ => 0))), (q23, .inl (g 0, 10, .inl (fun _ => 0)))]) := hD
  refine W.widen (k := 3) (n := 30) (by omega) (by omega) ?_
  refine va_putF (D := D) (ci := 4) (v := .ref q23) (ty := .array .int) (C := R_La) (T := F_La) (N := 6) hx hb hg i_La t_La t_La_ok n_La hown hK hP hD hS 0 rfl rfl 3 (by decide) (hg _ g_114) (fun _ h9 => h9) rfl hin rfl (by decide +kernel) rfl rfl (Nat.le_of_ble_eq_true rfl) d_La_init_25 (fun H locs hP hD hS => ?_)
  have hP : va_P D classes ([(h0, .inr (4, [.int 0, .ref q7, .ref q15, .ref q23, .null, .int 0])), (q7, .inl (g 0, 10, .inl (fun _ => 0))), (q15, .inl (g 0, 10, .inl (fun _ => 0))), (q23, .inl (g 0, 10, .inl (fun _ => 0)))]) H := hP
  have hD : va_D A ([(h0, .inr (4, [.int 0, .ref q7, .ref q15, .ref q23, .null, .int 0])), (q7, .inl (g 0, 10, .inl (fun _ => 0))), (q15, .inl (g 0, 10, .inl (fun _ => 0))), (q23, .inl (g 0, 10, .inl (fun _ => 0)))]) := hD
  refine lv_aload_n hx hb d_La_init_28 rfl (lv_at hl 0 rfl) ?_
  refine lv_bipush (v := 100) hx hb d_La_init_29 (by decide) ?_
  refine newI (N := 100) hx hb hg hK hP hD hS hA (by decide) (by decide +kernel) (Nat.le_of_ble_eq_true rfl) (Nat.le_of_ble_eq_true rfl) (Nat.le_of_ble_eq_true rfl) d_La_init_31 (fun q31 H hP hD hS => ?_)
  have hP : va_P D classes ([(h0, .inr (4, [.int 0, .ref q7, .ref q15, .ref q23, .null, .int 0])), (q7, .inl (g 0, 10, .inl (fun _ => 0))), (q15, .inl (g 0, 10, .inl (fun _ => 0))), (q23, .inl (g 0, 10, .inl (fun _ => 0))), (q31, .inl (g 0, 100, .inl (fun _ => 0)))]) H := hP
  have hD : va_D A ([(h0, .inr (4, [.int 0, .ref q7, .ref q15, .ref q23, .null, .int 0])), (q7, .inl (g 0, 10, .inl (fun _ => 0))), (q15, .inl (g 0, 10, .inl (fun _ => 0))), (q23, .inl (g 0, 10, .inl (fun _ => 0))), (q31, .inl (g 0, 100, .inl (fun _ => 0)))]) := hD
  refine W.widen (k := 4) (n := 130) (by omega) (by omega) ?_
  refine va_putF (D := D) (ci := 4) (v := .ref q31) (ty := .array .int) (C := R_La) (T := F_La) (N := 6) hx hb hg i_La t_La t_La_ok n_La hown hK hP hD hS 0 rfl rfl 4 (by decide) (hg _ g_115) (fun _ h9 => h9) rfl hin rfl (by decide +kernel) rfl rfl (Nat.le_of_ble_eq_true rfl) d_La_init_33 (fun H locs hP hD hS => ?_)
  have hP : va_P D classes ([(h0, .inr (4, [.int 0, .ref q7, .ref q15, .ref q23, .ref q31, .int 0])), (q7, .inl (g 0, 10, .inl (fun _ => 0))), (q15, .inl (g 0, 10, .inl (fun _ => 0))), (q23, .inl (g 0, 10, .inl (fun _ => 0))), (q31, .inl (g 0, 100, .inl (fun _ => 0)))]) H := hP
  have hD : va_D A ([(h0, .inr (4, [.int 0, .ref q7, .ref q15, .ref q23, .ref q31, .int 0])), (q7, .inl (g 0, 10, .inl (fun _ => 0))), (q15, .inl (g 0, 10, .inl (fun _ => 0))), (q23, .inl (g 0, 10, .inl (fun _ => 0))), (q31, .inl (g 0, 100, .inl (fun _ => 0)))]) := hD
  have hP : va_P D classes (ws_La g (fun i => ([h0, q7, q15, q23, q31] : List Nat).getD i 0) i_T_La) H := hP
  have hD : va_D A (ws_La g (fun i => ([h0, q7, q15, q23, q31] : List Nat).getD i 0) i_T_La) := hD
  exact W.vret hx hb hr (fun t ht hW => ⟨⟨(fun i => ([h0, q7, q15, q23, q31] : List Nat).getD i 0), rfl, rfl, by rw [ht]; exact hP, va_K.moved hW.alike hK, hD⟩, hS.F ht⟩) hS.2.2 d_La_init_36 hlk
theorem d_Th_init_0 : decode b_Th_init 0 = .ok (.aload_n 0, 1) := by decide +kernel
theorem d_Th_init_1 : decode b_Th_init 1 = .ok (.invokespecial 3, 3) := by decide +kernel
theorem d_Th_init_4 : decode b_Th_init 4 = .ok (.aload_n 0, 1) := by decide +kernel
theorem d_Th_init_5 : decode b_Th_init 5 = .ok (.bipush 7, 2) := by decide +kernel
theorem d_Th_init_7 : decode b_Th_init 7 = .ok (.newarray .int, 2) := by decide +kernel
theorem d_Th_init_9 : decode b_Th_init 9 = .ok (.putfield 9, 3) := by decide +kernel
theorem d_Th_init_12 : decode b_Th_init 12 = .ok (.aload_n 0, 1) := by decide +kernel
theorem d_Th_init_13 : decode b_Th_init 13 = .ok (.bipush 7, 2) := by decide +kernel
theorem d_Th_init_15 : decode b_Th_init 15 = .ok (.newarray .int, 2) := by decide +kernel
theorem d_Th_init_17 : decode b_Th_init 17 = .ok (.putfield 15, 3) := by decide +kernel
theorem d_Th_init_20 : decode b_Th_init 20 = .ok (.return_, 1) := by decide +kernel
def i_T_Th : T_Th := (0, (fun _ => 0), (fun _ => 0))
set_option maxHeartbeats 4000000 in
set_option maxRecDepth 100000 in
theorem c_Th_init (l : Launch) (D : va_G) (g : Nat → ClassId) (h0 : Nat) :
    MC l y_Th_init b_Th_init 1 ({ frames := 1, cells := 2, slots := 14, locals := 12 } : Room) D g h0 [(h0, .inr (10, [.int 0, .null, .null]))] (fun a => ws_Th g a i_T_Th) 2 14 := by
  refine enterC rfl rfl (Nat.le_of_ble_eq_true rfl) (fun p e s m below meth c A ls hx hb hml hr hown hin hg hlk hK hA hP hD hS hCs hl => ?_)
  have hown : s.vm.findClass "OwnsLift$Things" = some m.cls := hown
  refine lv_aload_n hx hb d_Th_init_0 rfl (lv_at hl 0 rfl) ?_
  refine W.objInit hx hb hown (hg (.methodLink "OwnsLift$Things" 3 objectInit) g_183) (hg (.instanceMethod objectInit) g_97) (hg (.code objectInit ⟨#[0xb1]⟩ 1 none) g_98) rfl (by rw [hml]; exact hl.1) rfl d_Th_init_1 (Nat.le_of_ble_eq_true rfl) (Nat.le_of_ble_eq_true rfl) ?_
  refine W.eq (g2 := F0 m 4 ls []) rfl ?_
  refine lv_aload_n hx hb d_Th_init_4 rfl (lv_at hl 0 rfl) ?_
  refine lv_bipush (v := 7) hx hb d_Th_init_5 (by decide) ?_
  refine newI (N := 7) hx hb hg hK hP hD hS hA (by decide) (by decide +kernel) (Nat.le_of_ble_eq_true rfl) (Nat.le_of_ble_eq_true rfl) (Nat.le_of_ble_eq_true rfl) d_Th_init_7 (fun q7 H hP hD hS => ?_)
  have hP : va_P D classes ([(h0, .inr (10, [.int 0, .null, .null])), (q7, .inl (g 0, 7, .inl (fun _ => 0)))]) H := hP
  have hD : va_D A ([(h0, .inr (10, [.int 0, .null, .null])), (q7, .inl (g 0, 7, .inl (fun _ => 0)))]) := hD
  refine W.widen (k := 1) (n := 7) (by omega) (by omega) ?_
  refine va_putF (D := D) (ci := 10) (v := .ref q7) (ty := .array .int) (C := R_Th) (T := F_Th) (N := 3) hx hb hg i_Th t_Th t_Th_ok n_Th hown hK hP hD hS 0 rfl rfl 1 (by decide) (hg _ g_188) (fun _ h9 => h9) rfl hin rfl (by decide +kernel) rfl rfl (Nat.le_of_ble_eq_true rfl) d_Th_init_9 (fun H locs hP hD hS => ?_)
  have hP : va_P D classes ([(h0, .inr (10, [.int 0, .ref q7, .null])), (q7, .inl (g 0, 7, .inl (fun _ => 0)))]) H := hP
  have hD : va_D A ([(h0, .inr (10, [.int 0, .ref q7, .null])), (q7, .inl (g 0, 7, .inl (fun _ => 0)))]) := hD
  refine lv_aload_n hx hb d_Th_init_12 rfl (lv_at hl 0 rfl) ?_
  refine lv_bipush (v := 7) hx hb d_Th_init_13 (by decide) ?_
  refine newI (N := 7) hx hb hg hK hP hD hS hA (by decide) (by decide +kernel) (Nat.le_of_ble_eq_true rfl) (Nat.le_of_ble_eq_true rfl) (Nat.le_of_ble_eq_true rfl) d_Th_init_15 (fun q15 H hP hD hS => ?_)
  have hP : va_P D classes ([(h0, .inr (10, [.int 0, .ref q7, .null])), (q7, .inl (g 0, 7, .inl (fun _ => 0))), (q15, .inl (g 0, 7, .inl (fun _ => 0)))]) H := hP
  have hD : va_D A ([(h0, .inr (10, [.int 0, .ref q7, .null])), (q7, .inl (g 0, 7, .inl (fun _ => 0))), (q15, .inl (g 0, 7, .inl (fun _ => 0)))]) := hD
  refine W.widen (k := 2) (n := 14) (by omega) (by omega) ?_
  refine va_putF (D := D) (ci := 10) (v := .ref q15) (ty := .array .int) (C := R_Th) (T := F_Th) (N := 3) hx hb hg i_Th t_Th t_Th_ok n_Th hown hK hP hD hS 0 rfl rfl 2 (by decide) (hg _ g_192) (fun _ h9 => h9) rfl hin rfl (by decide +kernel) rfl rfl (Nat.le_of_ble_eq_true rfl) d_Th_init_17 (fun H locs hP hD hS => ?_)
  have hP : va_P D classes ([(h0, .inr (10, [.int 0, .ref q7, .ref q15])), (q7, .inl (g 0, 7, .inl (fun _ => 0))), (q15, .inl (g 0, 7, .inl (fun _ => 0)))]) H := hP
  have hD : va_D A ([(h0, .inr (10, [.int 0, .ref q7, .ref q15])), (q7, .inl (g 0, 7, .inl (fun _ => 0))), (q15, .inl (g 0, 7, .inl (fun _ => 0)))]) := hD
  have hP : va_P D classes (ws_Th g (fun i => ([h0, q7, q15] : List Nat).getD i 0) i_T_Th) H := hP
  have hD : va_D A (ws_Th g (fun i => ([h0, q7, q15] : List Nat).getD i 0) i_T_Th) := hD
  exact W.vret hx hb hr (fun t ht hW => ⟨⟨(fun i => ([h0, q7, q15] : List Nat).getD i 0), rfl, rfl, by rw [ht]; exact hP, va_K.moved hW.alike hK, hD⟩, hS.F ht⟩) hS.2.2 d_Th_init_20 hlk
theorem d_Ac_init_0 : decode b_Ac_init 0 = .ok (.aload_n 0, 1) := by decide +kernel
theorem d_Ac_init_1 : decode b_Ac_init 1 = .ok (.invokespecial 3, 3) := by decide +kernel
theorem d_Ac_init_4 : decode b_Ac_init 4 = .ok (.aload_n 0, 1) := by decide +kernel
theorem d_Ac_init_5 : decode b_Ac_init 5 = .ok (.bipush 20, 2) := by decide +kernel
theorem d_Ac_init_7 : decode b_Ac_init 7 = .ok (.newarray .int, 2) := by decide +kernel
theorem d_Ac_init_9 : decode b_Ac_init 9 = .ok (.putfield 9, 3) := by decide +kernel
theorem d_Ac_init_12 : decode b_Ac_init 12 = .ok (.return_, 1) := by decide +kernel
def i_T_Ac : T_Ac := ((fun _ => 0), 0, 0, 0, 0)
set_option maxHeartbeats 4000000 in
set_option maxRecDepth 100000 in
theorem c_Ac_init (l : Launch) (D : va_G) (g : Nat → ClassId) (h0 : Nat) :
    MC l y_Ac_init b_Ac_init 1 ({ frames := 1, cells := 1, slots := 20, locals := 12 } : Room) D g h0 [(h0, .inr (2, [.null, .int 0, .int 0, .int 0, .int 0]))] (fun a => ws_Ac g a i_T_Ac) 1 20 := by
  refine enterC rfl rfl (Nat.le_of_ble_eq_true rfl) (fun p e s m below meth c A ls hx hb hml hr hown hin hg hlk hK hA hP hD hS hCs hl => ?_)
  have hown : s.vm.findClass "OwnsLift$Acts" = some m.cls := hown
  refine lv_aload_n hx hb d_Ac_init_0 rfl (lv_at hl 0 rfl) ?_
  refine W.objInit hx hb hown (hg (.methodLink "OwnsLift$Acts" 3 objectInit) g_377) (hg (.instanceMethod objectInit) g_97) (hg (.code objectInit ⟨#[0xb1]⟩ 1 none) g_98) rfl (by rw [hml]; exact hl.1) rfl d_Ac_init_1 (Nat.le_of_ble_eq_true rfl) (Nat.le_of_ble_eq_true rfl) ?_
  refine W.eq (g2 := F0 m 4 ls []) rfl ?_
  refine lv_aload_n hx hb d_Ac_init_4 rfl (lv_at hl 0 rfl) ?_
  refine lv_bipush (v := 20) hx hb d_Ac_init_5 (by decide) ?_
  refine newI (N := 20) hx hb hg hK hP hD hS hA (by decide) (by decide +kernel) (Nat.le_of_ble_eq_true rfl) (Nat.le_of_ble_eq_true rfl) (Nat.le_of_ble_eq_true rfl) d_Ac_init_7 (fun q7 H hP hD hS => ?_)
  have hP : va_P D classes ([(h0, .inr (2, [.null, .int 0, .int 0, .int 0, .int 0])), (q7, .inl (g 0, 20, .inl (fun _ => 0)))]) H := hP
  have hD : va_D A ([(h0, .inr (2, [.null, .int 0, .int 0, .int 0, .int 0])), (q7, .inl (g 0, 20, .inl (fun _ => 0)))]) := hD
  refine W.widen (k := 1) (n := 20) (by omega) (by omega) ?_
  refine va_putF (D := D) (ci := 2) (v := .ref q7) (ty := .array .int) (C := R_Ac) (T := F_Ac) (N := 5) hx hb hg i_Ac t_Ac t_Ac_ok n_Ac hown hK hP hD hS 0 rfl rfl 0 (by decide) (hg _ g_378) (fun _ h9 => h9) rfl hin rfl (by decide +kernel) rfl rfl (Nat.le_of_ble_eq_true rfl) d_Ac_init_9 (fun H locs hP hD hS => ?_)
  have hP : va_P D classes ([(h0, .inr (2, [.ref q7, .int 0, .int 0, .int 0, .int 0])), (q7, .inl (g 0, 20, .inl (fun _ => 0)))]) H := hP
  have hD : va_D A ([(h0, .inr (2, [.ref q7, .int 0, .int 0, .int 0, .int 0])), (q7, .inl (g 0, 20, .inl (fun _ => 0)))]) := hD
  have hP : va_P D classes (ws_Ac g (fun i => ([h0, q7] : List Nat).getD i 0) i_T_Ac) H := hP
  have hD : va_D A (ws_Ac g (fun i => ([h0, q7] : List Nat).getD i 0) i_T_Ac) := hD
  exact W.vret hx hb hr (fun t ht hW => ⟨⟨(fun i => ([h0, q7] : List Nat).getD i 0), rfl, rfl, by rw [ht]; exact hP, va_K.moved hW.alike hK, hD⟩, hS.F ht⟩) hS.2.2 d_Ac_init_12 hlk
theorem d_Fr_init_0 : decode b_Fr_init 0 = .ok (.aload_n 0, 1) := by decide +kernel
theorem d_Fr_init_1 : decode b_Fr_init 1 = .ok (.invokespecial 1, 3) := by decide +kernel
theorem d_Fr_init_4 : decode b_Fr_init 4 = .ok (.aload_n 0, 1) := by decide +kernel
theorem d_Fr_init_5 : decode b_Fr_init 5 = .ok (.lconst 1, 1) := by decide +kernel
theorem d_Fr_init_6 : decode b_Fr_init 6 = .ok (.putfield 7, 3) := by decide +kernel
theorem d_Fr_init_9 : decode b_Fr_init 9 = .ok (.return_, 1) := by decide +kernel
def i_T_Fr : T_Fr := (0, 1)
set_option maxHeartbeats 4000000 in
set_option maxRecDepth 100000 in
theorem c_Fr_init (l : Launch) (D : va_G) (g : Nat → ClassId) (h0 : Nat) :
    MC l y_Fr_init b_Fr_init 1 ({ frames := 1, cells := 0, slots := 0, locals := 12 } : Room) D g h0 [(h0, .inr (3, [.long 0, .long 0]))] (fun a => ws_Fr g a i_T_Fr) 0 0 := by
  refine enterC rfl rfl (Nat.le_of_ble_eq_true rfl) (fun p e s m below meth c A ls hx hb hml hr hown hin hg hlk hK hA hP hD hS hCs hl => ?_)
  have hown : s.vm.findClass "OwnsLift$Fraction" = some m.cls := hown
  refine lv_aload_n hx hb d_Fr_init_0 rfl (lv_at hl 0 rfl) ?_
  refine W.objInit hx hb hown (hg (.methodLink "OwnsLift$Fraction" 1 objectInit) g_362) (hg (.instanceMethod objectInit) g_97) (hg (.code objectInit ⟨#[0xb1]⟩ 1 none) g_98) rfl (by rw [hml]; exact hl.1) rfl d_Fr_init_1 (Nat.le_of_ble_eq_true rfl) (Nat.le_of_ble_eq_true rfl) ?_
  refine W.eq (g2 := F0 m 4 ls []) rfl ?_
  refine lv_aload_n hx hb d_Fr_init_4 rfl (lv_at hl 0 rfl) ?_
  refine lv_lconst (v := 1) hx hb d_Fr_init_5 (by decide) ?_
  refine va_put (D := D) (ci := 3) (v := .long 1) (ty := .long) (C := R_Fr) (T := F_Fr) (N := 2) hx hb hg i_Fr t_Fr t_Fr_ok n_Fr hown hK hP hD hS 0 rfl rfl 1 (by decide) (hg _ g_365) (fun _ h9 => h9) rfl (by decide +kernel) rfl rfl (Nat.le_of_ble_eq_true rfl) d_Fr_init_6 (fun H locs hP hD hS => ?_)
  have hP : va_P D classes ([(h0, .inr (3, [.long 0, .long 1]))]) H := hP
  have hD : va_D A ([(h0, .inr (3, [.long 0, .long 1]))]) := hD
  have hP : va_P D classes (ws_Fr g (fun i => ([h0] : List Nat).getD i 0) i_T_Fr) H := hP
  have hD : va_D A (ws_Fr g (fun i => ([h0] : List Nat).getD i 0) i_T_Fr) := hD
  exact W.vret hx hb hr (fun t ht hW => ⟨⟨(fun i => ([h0] : List Nat).getD i 0), rfl, rfl, by rw [ht]; exact hP, va_K.moved hW.alike hK, hD⟩, hS.F ht⟩) hS.2.2 d_Fr_init_9 hlk
theorem d_Mo_init_0 : decode b_Mo_init 0 = .ok (.aload_n 0, 1) := by decide +kernel
theorem d_Mo_init_1 : decode b_Mo_init 1 = .ok (.invokespecial 3, 3) := by decide +kernel
theorem d_Mo_init_4 : decode b_Mo_init 4 = .ok (.aload_n 0, 1) := by decide +kernel
theorem d_Mo_init_5 : decode b_Mo_init 5 = .ok (.sipush 901, 3) := by decide +kernel
theorem d_Mo_init_8 : decode b_Mo_init 8 = .ok (.newarray .int, 2) := by decide +kernel
theorem d_Mo_init_10 : decode b_Mo_init 10 = .ok (.putfield 9, 3) := by decide +kernel
theorem d_Mo_init_13 : decode b_Mo_init 13 = .ok (.aload_n 0, 1) := by decide +kernel
theorem d_Mo_init_14 : decode b_Mo_init 14 = .ok (.sipush 901, 3) := by decide +kernel
theorem d_Mo_init_17 : decode b_Mo_init 17 = .ok (.newarray .int, 2) := by decide +kernel
theorem d_Mo_init_19 : decode b_Mo_init 19 = .ok (.putfield 15, 3) := by decide +kernel
theorem d_Mo_init_22 : decode b_Mo_init 22 = .ok (.aload_n 0, 1) := by decide +kernel
theorem d_Mo_init_23 : decode b_Mo_init 23 = .ok (.bipush 7, 2) := by decide +kernel
theorem d_Mo_init_25 : decode b_Mo_init 25 = .ok (.newarray .int, 2) := by decide +kernel
theorem d_Mo_init_27 : decode b_Mo_init 27 = .ok (.putfield 18, 3) := by decide +kernel
theorem d_Mo_init_30 : decode b_Mo_init 30 = .ok (.aload_n 0, 1) := by decide +kernel
theorem d_Mo_init_31 : decode b_Mo_init 31 = .ok (.bipush 6, 2) := by decide +kernel
theorem d_Mo_init_33 : decode b_Mo_init 33 = .ok (.newarray .int, 2) := by decide +kernel
theorem d_Mo_init_35 : decode b_Mo_init 35 = .ok (.putfield 21, 3) := by decide +kernel
theorem d_Mo_init_38 : decode b_Mo_init 38 = .ok (.aload_n 0, 1) := by decide +kernel
theorem d_Mo_init_39 : decode b_Mo_init 39 = .ok (.bipush 64, 2) := by decide +kernel
theorem d_Mo_init_41 : decode b_Mo_init 41 = .ok (.newarray .boolean, 2) := by decide +kernel
theorem d_Mo_init_43 : decode b_Mo_init 43 = .ok (.putfield 24, 3) := by decide +kernel
theorem d_Mo_init_46 : decode b_Mo_init 46 = .ok (.aload_n 0, 1) := by decide +kernel
theorem d_Mo_init_47 : decode b_Mo_init 47 = .ok (.bipush 28, 2) := by decide +kernel
theorem d_Mo_init_49 : decode b_Mo_init 49 = .ok (.newarray .int, 2) := by decide +kernel
theorem d_Mo_init_51 : decode b_Mo_init 51 = .ok (.putfield 28, 3) := by decide +kernel
theorem d_Mo_init_54 : decode b_Mo_init 54 = .ok (.aload_n 0, 1) := by decide +kernel
theorem d_Mo_init_55 : decode b_Mo_init 55 = .ok (.iconst 4, 1) := by decide +kernel
theorem d_Mo_init_56 : decode b_Mo_init 56 = .ok (.newarray .int, 2) := by decide +kernel
theorem d_Mo_init_58 : decode b_Mo_init 58 = .ok (.putfield 31, 3) := by decide +kernel
theorem d_Mo_init_61 : decode b_Mo_init 61 = .ok (.aload_n 0, 1) := by decide +kernel
theorem d_Mo_init_62 : decode b_Mo_init 62 = .ok (.iconst 5, 1) := by decide +kernel
theorem d_Mo_init_63 : decode b_Mo_init 63 = .ok (.newarray .int, 2) := by decide +kernel
theorem d_Mo_init_65 : decode b_Mo_init 65 = .ok (.putfield 34, 3) := by decide +kernel
theorem d_Mo_init_68 : decode b_Mo_init 68 = .ok (.aload_n 0, 1) := by decide +kernel
theorem d_Mo_init_69 : decode b_Mo_init 69 = .ok (.bipush 7, 2) := by decide +kernel
theorem d_Mo_init_71 : decode b_Mo_init 71 = .ok (.newarray .int, 2) := by decide +kernel
theorem d_Mo_init_73 : decode b_Mo_init 73 = .ok (.putfield 37, 3) := by decide +kernel
theorem d_Mo_init_76 : decode b_Mo_init 76 = .ok (.aload_n 0, 1) := by decide +kernel
theorem d_Mo_init_77 : decode b_Mo_init 77 = .ok (.bipush 7, 2) := by decide +kernel
theorem d_Mo_init_79 : decode b_Mo_init 79 = .ok (.newarray .int, 2) := by decide +kernel
theorem d_Mo_init_81 : decode b_Mo_init 81 = .ok (.putfield 40, 3) := by decide +kernel
theorem d_Mo_init_84 : decode b_Mo_init 84 = .ok (.aload_n 0, 1) := by decide +kernel
theorem d_Mo_init_85 : decode b_Mo_init 85 = .ok (.bipush 20, 2) := by decide +kernel
theorem d_Mo_init_87 : decode b_Mo_init 87 = .ok (.newarray .int, 2) := by decide +kernel
theorem d_Mo_init_89 : decode b_Mo_init 89 = .ok (.putfield 43, 3) := by decide +kernel
theorem d_Mo_init_92 : decode b_Mo_init 92 = .ok (.aload_n 0, 1) := by decide +kernel
theorem d_Mo_init_93 : decode b_Mo_init 93 = .ok (.getfield 9, 3) := by decide +kernel
theorem d_Mo_init_96 : decode b_Mo_init 96 = .ok (.iconst 5, 1) := by decide +kernel
theorem d_Mo_init_97 : decode b_Mo_init 97 = .ok (.iconst (-1), 1) := by decide +kernel
theorem d_Mo_init_98 : decode b_Mo_init 98 = .ok (.iastore, 1) := by decide +kernel
theorem d_Mo_init_99 : decode b_Mo_init 99 = .ok (.return_, 1) := by decide +kernel
def i_T_Mo : T_Mo := (0, (upd (fun _ => 0) 5 (-1)), (fun _ => 0), (fun _ => 0), 0, 0, 0, 0, 0, 0, (fun _ => 0), (fun _ => 0), (fun _ => 0), (fun _ => 0), (fun _ => 0), (fun _ => 0), (fun _ => 0), 0, 0, 0, 0, (fun _ => 0), 0, 0, 0, 0)
set_option maxHeartbeats 4000000 in
set_option maxRecDepth 100000 in
theorem c_Mo_init (l : Launch) (D : va_G) (g : Nat → ClassId) (h0 : Nat) :
    MC l y_Mo_init b_Mo_init 1 ({ frames := 1, cells := 11, slots := 1950, locals := 12 } : Room) D g h0 [(h0, .inr (1, [.int 0, .null, .null, .null, .int 0, .int 0, .int 0, .int 0, .int 0, .int 0, .null, .null, .null, .null, .null, .null, .null, .int 0, .int 0, .int 0, .int 0, .null, .int 0, .int 0, .int 0, .int 0]))] (fun a => ws_Mo g a i_T_Mo) 11 1950 := by
  refine enterC rfl rfl (Nat.le_of_ble_eq_true rfl) (fun p e s m below meth c A ls hx hb hml hr hown hin hg hlk hK hA hP hD hS hCs hl => ?_)
  have hown : s.vm.findClass "OwnsLiftModel" = some m.cls := hown
  refine lv_aload_n hx hb d_Mo_init_0 rfl (lv_at hl 0 rfl) ?_
  refine W.objInit hx hb hown (hg (.methodLink "OwnsLiftModel" 3 objectInit) g_992) (hg (.instanceMethod objectInit) g_97) (hg (.code objectInit ⟨#[0xb1]⟩ 1 none) g_98) rfl (by rw [hml]; exact hl.1) rfl d_Mo_init_1 (Nat.le_of_ble_eq_true rfl) (Nat.le_of_ble_eq_true rfl) ?_
  refine W.eq (g2 := F0 m 4 ls []) rfl ?_
  refine lv_aload_n hx hb d_Mo_init_4 rfl (lv_at hl 0 rfl) ?_
  refine lv_sipush (v := 901) hx hb d_Mo_init_5 (by decide) ?_
  refine newI (N := 901) hx hb hg hK hP hD hS hA (by decide) (by decide +kernel) (Nat.le_of_ble_eq_true rfl) (Nat.le_of_ble_eq_true rfl) (Nat.le_of_ble_eq_true rfl) d_Mo_init_8 (fun q8 H hP hD hS => ?_)
  have hP : va_P D classes ([(h0, .inr (1, [.int 0, .null, .null, .null, .int 0, .int 0, .int 0, .int 0, .int 0, .int 0, .null, .null, .null, .null, .null, .null, .null, .int 0, .int 0, .int 0, .int 0, .null, .int 0, .int 0, .int 0, .int 0])), (q8, .inl (g 0, 901, .inl (fun _ => 0)))]) H := hP
  have hD : va_D A ([(h0, .inr (1, [.int 0, .null, .null, .null, .int 0, .int 0, .int 0, .int 0, .int 0, .int 0, .null, .null, .null, .null, .null, .null, .null, .int 0, .int 0, .int 0, .int 0, .null, .int 0, .int 0, .int 0, .int 0])), (q8, .inl (g 0, 901, .inl (fun _ => 0)))]) := hD
  refine W.widen (k := 1) (n := 901) (by omega) (by omega) ?_
  refine va_putF (D := D) (ci := 1) (v := .ref q8) (ty := .array .int) (C := R_Mo) (T := F_Mo) (N := 26) hx hb hg i_Mo t_Mo t_Mo_ok n_Mo hown hK hP hD hS 0 rfl rfl 1 (by decide) (hg _ g_993) (fun _ h9 => h9) rfl hin rfl (by decide +kernel) rfl rfl (Nat.le_of_ble_eq_true rfl) d_Mo_init_10 (fun H locs hP hD hS => ?_)
  have hP : va_P D classes ([(h0, .inr (1, [.int 0, .ref q8, .null, .null, .int 0, .int 0, .int 0, .int 0, .int 0, .int 0, .null, .null, .null, .null, .null, .null, .null, .int 0, .int 0, .int 0, .int 0, .null, .int 0, .int 0, .int 0, .int 0])), (q8, .inl (g 0, 901, .inl (fun _ => 0)))]) H := hP
  have hD : va_D A ([(h0, .inr (1, [.int 0, .ref q8, .null, .null, .int 0, .int 0, .int 0, .int 0, .int 0, .int 0, .null, .null, .null, .null, .null, .null, .null, .int 0, .int 0, .int 0, .int 0, .null, .int 0, .int 0, .int 0, .int 0])), (q8, .inl (g 0, 901, .inl (fun _ => 0)))]) := hD
  refine lv_aload_n hx hb d_Mo_init_13 rfl (lv_at hl 0 rfl) ?_
  refine lv_sipush (v := 901) hx hb d_Mo_init_14 (by decide) ?_
  refine newI (N := 901) hx hb hg hK hP hD hS hA (by decide) (by decide +kernel) (Nat.le_of_ble_eq_true rfl) (Nat.le_of_ble_eq_true rfl) (Nat.le_of_ble_eq_true rfl) d_Mo_init_17 (fun q17 H hP hD hS => ?_)
  have hP : va_P D classes ([(h0, .inr (1, [.int 0, .ref q8, .null, .null, .int 0, .int 0, .int 0, .int 0, .int 0, .int 0, .null, .null, .null, .null, .null, .null, .null, .int 0, .int 0, .int 0, .int 0, .null, .int 0, .int 0, .int 0, .int 0])), (q8, .inl (g 0, 901, .inl (fun _ => 0))), (q17, .inl (g 0, 901, .inl (fun _ => 0)))]) H := hP
  have hD : va_D A ([(h0, .inr (1, [.int 0, .ref q8, .null, .null, .int 0, .int 0, .int 0, .int 0, .int 0, .int 0, .null, .null, .null, .null, .null, .null, .null, .int 0, .int 0, .int 0, .int 0, .null, .int 0, .int 0, .int 0, .int 0])), (q8, .inl (g 0, 901, .inl (fun _ => 0))), (q17, .inl (g 0, 901, .inl (fun _ => 0)))]) := hD
  refine W.widen (k := 2) (n := 1802) (by omega) (by omega) ?_
  refine va_putF (D := D) (ci := 1) (v := .ref q17) (ty := .array .int) (C := R_Mo) (T := F_Mo) (N := 26) hx hb hg i_Mo t_Mo t_Mo_ok n_Mo hown hK hP hD hS 0 rfl rfl 2 (by decide) (hg _ g_994) (fun _ h9 => h9) rfl hin rfl (by decide +kernel) rfl rfl (Nat.le_of_ble_eq_true rfl) d_Mo_init_19 (fun H locs hP hD hS => ?_)
  have hP : va_P D classes ([(h0, .inr (1, [.int 0, .ref q8, .ref q17, .null, .int 0, .int 0, .int 0, .int 0, .int 0, .int 0, .null, .null, .null, .null, .null, .null, .null, .int 0, .int 0, .int 0, .int 0, .null, .int 0, .int 0, .int 0, .int 0])), (q8, .inl (g 0, 901, .inl (fun _ => 0))), (q17, .inl (g 0, 901, .inl (fun _ => 0)))]) H := hP
  have hD : va_D A ([(h0, .inr (1, [.int 0, .ref q8, .ref q17, .null, .int 0, .int 0, .int 0, .int 0, .int 0, .int 0, .null, .null, .null, .null, .null, .null, .null, .int 0, .int 0, .int 0, .int 0, .null, .int 0, .int 0, .int 0, .int 0])), (q8, .inl (g 0, 901, .inl (fun _ => 0))), (q17, .inl (g 0, 901, .inl (fun _ => 0)))]) := hD
  refine lv_aload_n hx hb d_Mo_init_22 rfl (lv_at hl 0 rfl) ?_
  refine lv_bipush (v := 7) hx hb d_Mo_init_23 (by decide) ?_
  refine newI (N := 7) hx hb hg hK hP hD hS hA (by decide) (by decide +kernel) (Nat.le_of_ble_eq_true rfl) (Nat.le_of_ble_eq_true rfl) (Nat.le_of_ble_eq_true rfl) d_Mo_init_25 (fun q25 H hP hD hS => ?_)
  have hP : va_P D classes ([(h0, .inr (1, [.int 0, .ref q8, .ref q17, .null, .int 0, .int 0, .int 0, .int 0, .int 0, .int 0, .null, .null, .null, .null, .null, .null, .null, .int 0, .int 0, .int 0, .int 0, .null, .int 0, .int 0, .int 0, .int 0])), (q8, .inl (g 0, 901, .inl (fun _ => 0))), (q17, .inl (g 0, 901, .inl (fun _ => 0))), (q25, .inl (g 0, 7, .inl (fun _ => 0)))]) H := hP
  have hD : va_D A ([(h0, .inr (1, [.int 0, .ref q8, .ref q17, .null, .int 0, .int 0, .int 0, .int 0, .int 0, .int 0, .null, .null, .null, .null, .null, .null, .null, .int 0, .int 0, .int 0, .int 0, .null, .int 0, .int 0, .int 0, .int 0])), (q8, .inl (g 0, 901, .inl (fun _ => 0))), (q17, .inl (g 0, 901, .inl (fun _ => 0))), (q25, .inl (g 0, 7, .inl (fun _ => 0)))]) := hD
  refine W.widen (k := 3) (n := 1809) (by omega) (by omega) ?_
  refine va_putF (D := D) (ci := 1) (v := .ref q25) (ty := .array .int) (C := R_Mo) (T := F_Mo) (N := 26) hx hb hg i_Mo t_Mo t_Mo_ok n_Mo hown hK hP hD hS 0 rfl rfl 3 (by decide) (hg _ g_995) (fun _ h9 => h9) rfl hin rfl (by decide +kernel) rfl rfl (Nat.le_of_ble_eq_true rfl) d_Mo_init_27 (fun H locs hP hD hS => ?_)
  have hP : va_P D classes ([(h0, .inr (1, [.int 0, .ref q8, .ref q17, .ref q25, .int 0, .int 0, .int 0, .int 0, .int 0, .int 0, .null, .null, .null, .null, .null, .null, .null, .int 0, .int 0, .int 0, .int 0, .null, .int 0, .int 0, .int 0, .int 0])), (q8, .inl (g 0, 901, .inl (fun _ => 0))), (q17, .inl (g 0, 901, .inl (fun _ => 0))), (q25, .inl (g 0, 7, .inl (fun _ => 0)))]) H := hP
  have hD : va_D A ([(h0, .inr (1, [.int 0, .ref q8, .ref q17, .ref q25, .int 0, .int 0, .int 0, .int 0, .int 0, .int 0, .null, .null, .null, .null, .null, .null, .null, .int 0, .int 0, .int 0, .int 0, .null, .int 0, .int 0, .int 0, .int 0])), (q8, .inl (g 0, 901, .inl (fun _ => 0))), (q17, .inl (g 0, 901, .inl (fun _ => 0))), (q25, .inl (g 0, 7, .inl (fun _ => 0)))]) := hD
  refine lv_aload_n hx hb d_Mo_init_30 rfl (lv_at hl 0 rfl) ?_
  refine lv_bipush (v := 6) hx hb d_Mo_init_31 (by decide) ?_
  refine newI (N := 6) hx hb hg hK hP hD hS hA (by decide) (by decide +kernel) (Nat.le_of_ble_eq_true rfl) (Nat.le_of_ble_eq_true rfl) (Nat.le_of_ble_eq_true rfl) d_Mo_init_33 (fun q33 H hP hD hS => ?_)
  have hP : va_P D classes ([(h0, .inr (1, [.int 0, .ref q8, .ref q17, .ref q25, .int 0, .int 0, .int 0, .int 0, .int 0, .int 0, .null, .null, .null, .null, .null, .null, .null, .int 0, .int 0, .int 0, .int 0, .null, .int 0, .int 0, .int 0, .int 0])), (q8, .inl (g 0, 901, .inl (fun _ => 0))), (q17, .inl (g 0, 901, .inl (fun _ => 0))), (q25, .inl (g 0, 7, .inl (fun _ => 0))), (q33, .inl (g 0, 6, .inl (fun _ => 0)))]) H := hP
  have hD : va_D A ([(h0, .inr (1, [.int 0, .ref q8, .ref q17, .ref q25, .int 0, .int 0, .int 0, .int 0, .int 0, .int 0, .null, .null, .null, .null, .null, .null, .null, .int 0, .int 0, .int 0, .int 0, .null, .int 0, .int 0, .int 0, .int 0])), (q8, .inl (g 0, 901, .inl (fun _ => 0))), (q17, .inl (g 0, 901, .inl (fun _ => 0))), (q25, .inl (g 0, 7, .inl (fun _ => 0))), (q33, .inl (g 0, 6, .inl (fun _ => 0)))]) := hD
  refine W.widen (k := 4) (n := 1815) (by omega) (by omega) ?_
  refine va_putF (D := D) (ci := 1) (v := .ref q33) (ty := .array .int) (C := R_Mo) (T := F_Mo) (N := 26) hx hb hg i_Mo t_Mo t_Mo_ok n_Mo hown hK hP hD hS 0 rfl rfl 10 (by decide) (hg _ g_1002) (fun _ h9 => h9) rfl hin rfl (by decide +kernel) rfl rfl (Nat.le_of_ble_eq_true rfl) d_Mo_init_35 (fun H locs hP hD hS => ?_)
  have hP : va_P D classes ([(h0, .inr (1, [.int 0, .ref q8, .ref q17, .ref q25, .int 0, .int 0, .int 0, .int 0, .int 0, .int 0, .ref q33, .null, .null, .null, .null, .null, .null, .int 0, .int 0, .int 0, .int 0, .null, .int 0, .int 0, .int 0, .int 0])), (q8, .inl (g 0, 901, .inl (fun _ => 0))), (q17, .inl (g 0, 901, .inl (fun _ => 0))), (q25, .inl (g 0, 7, .inl (fun _ => 0))), (q33, .inl (g 0, 6, .inl (fun _ => 0)))]) H := hP
  have hD : va_D A ([(h0, .inr (1, [.int 0, .ref q8, .ref q17, .ref q25, .int 0, .int 0, .int 0, .int 0, .int 0, .int 0, .ref q33, .null, .null, .null, .null, .null, .null, .int 0, .int 0, .int 0, .int 0, .null, .int 0, .int 0, .int 0, .int 0])), (q8, .inl (g 0, 901, .inl (fun _ => 0))), (q17, .inl (g 0, 901, .inl (fun _ => 0))), (q25, .inl (g 0, 7, .inl (fun _ => 0))), (q33, .inl (g 0, 6, .inl (fun _ => 0)))]) := hD
  refine lv_aload_n hx hb d_Mo_init_38 rfl (lv_at hl 0 rfl) ?_
  refine lv_bipush (v := 64) hx hb d_Mo_init_39 (by decide) ?_
  refine newZ (N := 64) hx hb hg hK hP hD hS hA (by decide) (by decide +kernel) (Nat.le_of_ble_eq_true rfl) (Nat.le_of_ble_eq_true rfl) (Nat.le_of_ble_eq_true rfl) d_Mo_init_41 (fun q41 H hP hD hS => ?_)
  have hP : va_P D classes ([(h0, .inr (1, [.int 0, .ref q8, .ref q17, .ref q25, .int 0, .int 0, .int 0, .int 0, .int 0, .int 0, .ref q33, .null, .null, .null, .null, .null, .null, .int 0, .int 0, .int 0, .int 0, .null, .int 0, .int 0, .int 0, .int 0])), (q8, .inl (g 0, 901, .inl (fun _ => 0))), (q17, .inl (g 0, 901, .inl (fun _ => 0))), (q25, .inl (g 0, 7, .inl (fun _ => 0))), (q33, .inl (g 0, 6, .inl (fun _ => 0))), (q41, .inl (g 1, 64, .inl (fun _ => 0)))]) H := hP
  have hD : va_D A ([(h0, .inr (1, [.int 0, .ref q8, .ref q17, .ref q25, .int 0, .int 0, .int 0, .int 0, .int 0, .int 0, .ref q33, .null, .null, .null, .null, .null, .null, .int 0, .int 0, .int 0, .int 0, .null, .int 0, .int 0, .int 0, .int 0])), (q8, .inl (g 0, 901, .inl (fun _ => 0))), (q17, .inl (g 0, 901, .inl (fun _ => 0))), (q25, .inl (g 0, 7, .inl (fun _ => 0))), (q33, .inl (g 0, 6, .inl (fun _ => 0))), (q41, .inl (g 1, 64, .inl (fun _ => 0)))]) := hD
  refine W.widen (k := 5) (n := 1879) (by omega) (by omega) ?_
  refine va_putF (D := D) (ci := 1) (v := .ref q41) (ty := .array .boolean) (C := R_Mo) (T := F_Mo) (N := 26) hx hb hg i_Mo t_Mo t_Mo_ok n_Mo hown hK hP hD hS 0 rfl rfl 11 (by decide) (hg _ g_1003) (fun _ h9 => h9) rfl hin rfl (by decide +kernel) rfl rfl (Nat.le_of_ble_eq_true rfl) d_Mo_init_43 (fun H locs hP hD hS => ?_)
  have hP : va_P D classes ([(h0, .inr (1, [.int 0, .ref q8, .ref q17, .ref q25, .int 0, .int 0, .int 0, .int 0, .int 0, .int 0, .ref q33, .ref q41, .null, .null, .null, .null, .null, .int 0, .int 0, .int 0, .int 0, .null, .int 0, .int 0, .int 0, .int 0])), (q8, .inl (g 0, 901, .inl (fun _ => 0))), (q17, .inl (g 0, 901, .inl (fun _ => 0))), (q25, .inl (g 0, 7, .inl (fun _ => 0))), (q33, .inl (g 0, 6, .inl (fun _ => 0))), (q41, .inl (g 1, 64, .inl (fun _ => 0)))]) H := hP
  have hD : va_D A ([(h0, .inr (1, [.int 0, .ref q8, .ref q17, .ref q25, .int 0, .int 0, .int 0, .int 0, .int 0, .int 0, .ref q33, .ref q41, .null, .null, .null, .null, .null, .int 0, .int 0, .int 0, .int 0, .null, .int 0, .int 0, .int 0, .int 0])), (q8, .inl (g 0, 901, .inl (fun _ => 0))), (q17, .inl (g 0, 901, .inl (fun _ => 0))), (q25, .inl (g 0, 7, .inl (fun _ => 0))), (q33, .inl (g 0, 6, .inl (fun _ => 0))), (q41, .inl (g 1, 64, .inl (fun _ => 0)))]) := hD
  refine lv_aload_n hx hb d_Mo_init_46 rfl (lv_at hl 0 rfl) ?_
  refine lv_bipush (v := 28) hx hb d_Mo_init_47 (by decide) ?_
  refine newI (N := 28) hx hb hg hK hP hD hS hA (by decide) (by decide +kernel) (Nat.le_of_ble_eq_true rfl) (Nat.le_of_ble_eq_true rfl) (Nat.le_of_ble_eq_true rfl) d_Mo_init_49 (fun q49 H hP hD hS => ?_)
  have hP : va_P D classes ([(h0, .inr (1, [.int 0, .ref q8, .ref q17, .ref q25, .int 0, .int 0, .int 0, .int 0, .int 0, .int 0, .ref q33, .ref q41, .null, .null, .null, .null, .null, .int 0, .int 0, .int 0, .int 0, .null, .int 0, .int 0, .int 0, .int 0])), (q8, .inl (g 0, 901, .inl (fun _ => 0))), (q17, .inl (g 0, 901, .inl (fun _ => 0))), (q25, .inl (g 0, 7, .inl (fun _ => 0))), (q33, .inl (g 0, 6, .inl (fun _ => 0))), (q41, .inl (g 1, 64, .inl (fun _ => 0))), (q49, .inl (g 0, 28, .inl (fun _ => 0)))]) H := hP
  have hD : va_D A ([(h0, .inr (1, [.int 0, .ref q8, .ref q17, .ref q25, .int 0, .int 0, .int 0, .int 0, .int 0, .int 0, .ref q33, .ref q41, .null, .null, .null, .null, .null, .int 0, .int 0, .int 0, .int 0, .null, .int 0, .int 0, .int 0, .int 0])), (q8, .inl (g 0, 901, .inl (fun _ => 0))), (q17, .inl (g 0, 901, .inl (fun _ => 0))), (q25, .inl (g 0, 7, .inl (fun _ => 0))), (q33, .inl (g 0, 6, .inl (fun _ => 0))), (q41, .inl (g 1, 64, .inl (fun _ => 0))), (q49, .inl (g 0, 28, .inl (fun _ => 0)))]) := hD
  refine W.widen (k := 6) (n := 1907) (by omega) (by omega) ?_
  refine va_putF (D := D) (ci := 1) (v := .ref q49) (ty := .array .int) (C := R_Mo) (T := F_Mo) (N := 26) hx hb hg i_Mo t_Mo t_Mo_ok n_Mo hown hK hP hD hS 0 rfl rfl 12 (by decide) (hg _ g_1004) (fun _ h9 => h9) rfl hin rfl (by decide +kernel) rfl rfl (Nat.le_of_ble_eq_true rfl) d_Mo_init_51 (fun H locs hP hD hS => ?_)
  have hP : va_P D classes ([(h0, .inr (1, [.int 0, .ref q8, .ref q17, .ref q25, .int 0, .int 0, .int 0, .int 0, .int 0, .int 0, .ref q33, .ref q41, .ref q49, .null, .null, .null, .null, .int 0, .int 0, .int 0, .int 0, .null, .int 0, .int 0, .int 0, .int 0])), (q8, .inl (g 0, 901, .inl (fun _ => 0))), (q17, .inl (g 0, 901, .inl (fun _ => 0))), (q25, .inl (g 0, 7, .inl (fun _ => 0))), (q33, .inl (g 0, 6, .inl (fun _ => 0))), (q41, .inl (g 1, 64, .inl (fun _ => 0))), (q49, .inl (g 0, 28, .inl (fun _ => 0)))]) H := hP
  have hD : va_D A ([(h0, .inr (1, [.int 0, .ref q8, .ref q17, .ref q25, .int 0, .int 0, .int 0, .int 0, .int 0, .int 0, .ref q33, .ref q41, .ref q49, .null, .null, .null, .null, .int 0, .int 0, .int 0, .int 0, .null, .int 0, .int 0, .int 0, .int 0])), (q8, .inl (g 0, 901, .inl (fun _ => 0))), (q17, .inl (g 0, 901, .inl (fun _ => 0))), (q25, .inl (g 0, 7, .inl (fun _ => 0))), (q33, .inl (g 0, 6, .inl (fun _ => 0))), (q41, .inl (g 1, 64, .inl (fun _ => 0))), (q49, .inl (g 0, 28, .inl (fun _ => 0)))]) := hD
  refine lv_aload_n hx hb d_Mo_init_54 rfl (lv_at hl 0 rfl) ?_
  refine lv_iconst (v := 4) hx hb d_Mo_init_55 (by decide) ?_
  refine newI (N := 4) hx hb hg hK hP hD hS hA (by decide) (by decide +kernel) (Nat.le_of_ble_eq_true rfl) (Nat.le_of_ble_eq_true rfl) (Nat.le_of_ble_eq_true rfl) d_Mo_init_56 (fun q56 H hP hD hS => ?_)
  have hP : va_P D classes ([(h0, .inr (1, [.int 0, .ref q8, .ref q17, .ref q25, .int 0, .int 0, .int 0, .int 0, .int 0, .int 0, .ref q33, .ref q41, .ref q49, .null, .null, .null, .null, .int 0, .int 0, .int 0, .int 0, .null, .int 0, .int 0, .int 0, .int 0])), (q8, .inl (g 0, 901, .inl (fun _ => 0))), (q17, .inl (g 0, 901, .inl (fun _ => 0))), (q25, .inl (g 0, 7, .inl (fun _ => 0))), (q33, .inl (g 0, 6, .inl (fun _ => 0))), (q41, .inl (g 1, 64, .inl (fun _ => 0))), (q49, .inl (g 0, 28, .inl (fun _ => 0))), (q56, .inl (g 0, 4, .inl (fun _ => 0)))]) H := hP
  have hD : va_D A ([(h0, .inr (1, [.int 0, .ref q8, .ref q17, .ref q25, .int 0, .int 0, .int 0, .int 0, .int 0, .int 0, .ref q33, .ref q41, .ref q49, .null, .null, .null, .null, .int 0, .int 0, .int 0, .int 0, .null, .int 0, .int 0, .int 0, .int 0])), (q8, .inl (g 0, 901, .inl (fun _ => 0))), (q17, .inl (g 0, 901, .inl (fun _ => 0))), (q25, .inl (g 0, 7, .inl (fun _ => 0))), (q33, .inl (g 0, 6, .inl (fun _ => 0))), (q41, .inl (g 1, 64, .inl (fun _ => 0))), (q49, .inl (g 0, 28, .inl (fun _ => 0))), (q56, .inl (g 0, 4, .inl (fun _ => 0)))]) := hD
  refine W.widen (k := 7) (n := 1911) (by omega) (by omega) ?_
  refine va_putF (D := D) (ci := 1) (v := .ref q56) (ty := .array .int) (C := R_Mo) (T := F_Mo) (N := 26) hx hb hg i_Mo t_Mo t_Mo_ok n_Mo hown hK hP hD hS 0 rfl rfl 13 (by decide) (hg _ g_1005) (fun _ h9 => h9) rfl hin rfl (by decide +kernel) rfl rfl (Nat.le_of_ble_eq_true rfl) d_Mo_init_58 (fun H locs hP hD hS => ?_)
  have hP : va_P D classes ([(h0, .inr (1, [.int 0, .ref q8, .ref q17, .ref q25, .int 0, .int 0, .int 0, .int 0, .int 0, .int 0, .ref q33, .ref q41, .ref q49, .ref q56, .null, .null, .null, .int 0, .int 0, .int 0, .int 0, .null, .int 0, .int 0, .int 0, .int 0])), (q8, .inl (g 0, 901, .inl (fun _ => 0))), (q17, .inl (g 0, 901, .inl (fun _ => 0))), (q25, .inl (g 0, 7, .inl (fun _ => 0))), (q33, .inl (g 0, 6, .inl (fun _ => 0))), (q41, .inl (g 1, 64, .inl (fun _ => 0))), (q49, .inl (g 0, 28, .inl (fun _ => 0))), (q56, .inl (g 0, 4, .inl (fun _ => 0)))]) H := hP
  have hD : va_D A ([(h0, .inr (1, [.int 0, .ref q8, .ref q17, .ref q25, .int 0, .int 0, .int 0, .int 0, .int 0, .int 0, .ref q33, .ref q41, .ref q49, .ref q56, .null, .null, .null, .int 0, .int 0, .int 0, .int 0, .null, .int 0, .int 0, .int 0, .int 0])), (q8, .inl (g 0, 901, .inl (fun _ => 0))), (q17, .inl (g 0, 901, .inl (fun _ => 0))), (q25, .inl (g 0, 7, .inl (fun _ => 0))), (q33, .inl (g 0, 6, .inl (fun _ => 0))), (q41, .inl (g 1, 64, .inl (fun _ => 0))), (q49, .inl (g 0, 28, .inl (fun _ => 0))), (q56, .inl (g 0, 4, .inl (fun _ => 0)))]) := hD
  refine lv_aload_n hx hb d_Mo_init_61 rfl (lv_at hl 0 rfl) ?_
  refine lv_iconst (v := 5) hx hb d_Mo_init_62 (by decide) ?_
  refine newI (N := 5) hx hb hg hK hP hD hS hA (by decide) (by decide +kernel) (Nat.le_of_ble_eq_true rfl) (Nat.le_of_ble_eq_true rfl) (Nat.le_of_ble_eq_true rfl) d_Mo_init_63 (fun q63 H hP hD hS => ?_)
  have hP : va_P D classes ([(h0, .inr (1, [.int 0, .ref q8, .ref q17, .ref q25, .int 0, .int 0, .int 0, .int 0, .int 0, .int 0, .ref q33, .ref q41, .ref q49, .ref q56, .null, .null, .null, .int 0, .int 0, .int 0, .int 0, .null, .int 0, .int 0, .int 0, .int 0])), (q8, .inl (g 0, 901, .inl (fun _ => 0))), (q17, .inl (g 0, 901, .inl (fun _ => 0))), (q25, .inl (g 0, 7, .inl (fun _ => 0))), (q33, .inl (g 0, 6, .inl (fun _ => 0))), (q41, .inl (g 1, 64, .inl (fun _ => 0))), (q49, .inl (g 0, 28, .inl (fun _ => 0))), (q56, .inl (g 0, 4, .inl (fun _ => 0))), (q63, .inl (g 0, 5, .inl (fun _ => 0)))]) H := hP
  have hD : va_D A ([(h0, .inr (1, [.int 0, .ref q8, .ref q17, .ref q25, .int 0, .int 0, .int 0, .int 0, .int 0, .int 0, .ref q33, .ref q41, .ref q49, .ref q56, .null, .null, .null, .int 0, .int 0, .int 0, .int 0, .null, .int 0, .int 0, .int 0, .int 0])), (q8, .inl (g 0, 901, .inl (fun _ => 0))), (q17, .inl (g 0, 901, .inl (fun _ => 0))), (q25, .inl (g 0, 7, .inl (fun _ => 0))), (q33, .inl (g 0, 6, .inl (fun _ => 0))), (q41, .inl (g 1, 64, .inl (fun _ => 0))), (q49, .inl (g 0, 28, .inl (fun _ => 0))), (q56, .inl (g 0, 4, .inl (fun _ => 0))), (q63, .inl (g 0, 5, .inl (fun _ => 0)))]) := hD
  refine W.widen (k := 8) (n := 1916) (by omega) (by omega) ?_
  refine va_putF (D := D) (ci := 1) (v := .ref q63) (ty := .array .int) (C := R_Mo) (T := F_Mo) (N := 26) hx hb hg i_Mo t_Mo t_Mo_ok n_Mo hown hK hP hD hS 0 rfl rfl 14 (by decide) (hg _ g_1006) (fun _ h9 => h9) rfl hin rfl (by decide +kernel) rfl rfl (Nat.le_of_ble_eq_true rfl) d_Mo_init_65 (fun H locs hP hD hS => ?_)
  have hP : va_P D classes ([(h0, .inr (1, [.int 0, .ref q8, .ref q17, .ref q25, .int 0, .int 0, .int 0, .int 0, .int 0, .int 0, .ref q33, .ref q41, .ref q49, .ref q56, .ref q63, .null, .null, .int 0, .int 0, .int 0, .int 0, .null, .int 0, .int 0, .int 0, .int 0])), (q8, .inl (g 0, 901, .inl (fun _ => 0))), (q17, .inl (g 0, 901, .inl (fun _ => 0))), (q25, .inl (g 0, 7, .inl (fun _ => 0))), (q33, .inl (g 0, 6, .inl (fun _ => 0))), (q41, .inl (g 1, 64, .inl (fun _ => 0))), (q49, .inl (g 0, 28, .inl (fun _ => 0))), (q56, .inl (g 0, 4, .inl (fun _ => 0))), (q63, .inl (g 0, 5, .inl (fun _ => 0)))]) H := hP
  have hD : va_D A ([(h0, .inr (1, [.int 0, .ref q8, .ref q17, .ref q25, .int 0, .int 0, .int 0, .int 0, .int 0, .int 0, .ref q33, .ref q41, .ref q49, .ref q56, .ref q63, .null, .null, .int 0, .int 0, .int 0, .int 0, .null, .int 0, .int 0, .int 0, .int 0])), (q8, .inl (g 0, 901, .inl (fun _ => 0))), (q17, .inl (g 0, 901, .inl (fun _ => 0))), (q25, .inl (g 0, 7, .inl (fun _ => 0))), (q33, .inl (g 0, 6, .inl (fun _ => 0))), (q41, .inl (g 1, 64, .inl (fun _ => 0))), (q49, .inl (g 0, 28, .inl (fun _ => 0))), (q56, .inl (g 0, 4, .inl (fun _ => 0))), (q63, .inl (g 0, 5, .inl (fun _ => 0)))]) := hD
  refine lv_aload_n hx hb d_Mo_init_68 rfl (lv_at hl 0 rfl) ?_
  refine lv_bipush (v := 7) hx hb d_Mo_init_69 (by decide) ?_
  refine newI (N := 7) hx hb hg hK hP hD hS hA (by decide) (by decide +kernel) (Nat.le_of_ble_eq_true rfl) (Nat.le_of_ble_eq_true rfl) (Nat.le_of_ble_eq_true rfl) d_Mo_init_71 (fun q71 H hP hD hS => ?_)
  have hP : va_P D classes ([(h0, .inr (1, [.int 0, .ref q8, .ref q17, .ref q25, .int 0, .int 0, .int 0, .int 0, .int 0, .int 0, .ref q33, .ref q41, .ref q49, .ref q56, .ref q63, .null, .null, .int 0, .int 0, .int 0, .int 0, .null, .int 0, .int 0, .int 0, .int 0])), (q8, .inl (g 0, 901, .inl (fun _ => 0))), (q17, .inl (g 0, 901, .inl (fun _ => 0))), (q25, .inl (g 0, 7, .inl (fun _ => 0))), (q33, .inl (g 0, 6, .inl (fun _ => 0))), (q41, .inl (g 1, 64, .inl (fun _ => 0))), (q49, .inl (g 0, 28, .inl (fun _ => 0))), (q56, .inl (g 0, 4, .inl (fun _ => 0))), (q63, .inl (g 0, 5, .inl (fun _ => 0))), (q71, .inl (g 0, 7, .inl (fun _ => 0)))]) H := hP
  have hD : va_D A ([(h0, .inr (1, [.int 0, .ref q8, .ref q17, .ref q25, .int 0, .int 0, .int 0, .int 0, .int 0, .int 0, .ref q33, .ref q41, .ref q49, .ref q56, .ref q63, .null, .null, .int 0, .int 0, .int 0, .int 0, .null, .int 0, .int 0, .int 0, .int 0])), (q8, .inl (g 0, 901, .inl (fun _ => 0))), (q17, .inl (g 0, 901, .inl (fun _ => 0))), (q25, .inl (g 0, 7, .inl (fun _ => 0))), (q33, .inl (g 0, 6, .inl (fun _ => 0))), (q41, .inl (g 1, 64, .inl (fun _ => 0))), (q49, .inl (g 0, 28, .inl (fun _ => 0))), (q56, .inl (g 0, 4, .inl (fun _ => 0))), (q63, .inl (g 0, 5, .inl (fun _ => 0))), (q71, .inl (g 0, 7, .inl (fun _ => 0)))]) := hD
  refine W.widen (k := 9) (n := 1923) (by omega) (by omega) ?_
  refine va_putF (D := D) (ci := 1) (v := .ref q71) (ty := .array .int) (C := R_Mo) (T := F_Mo) (N := 26) hx hb hg i_Mo t_Mo t_Mo_ok n_Mo hown hK hP hD hS 0 rfl rfl 15 (by decide) (hg _ g_1007) (fun _ h9 => h9) rfl hin rfl (by decide +kernel) rfl rfl (Nat.le_of_ble_eq_true rfl) d_Mo_init_73 (fun H locs hP hD hS => ?_)
  have hP : va_P D classes ([(h0, .inr (1, [.int 0, .ref q8, .ref q17, .ref q25, .int 0, .int 0, .int 0, .int 0, .int 0, .int 0, .ref q33, .ref q41, .ref q49, .ref q56, .ref q63, .ref q71, .null, .int 0, .int 0, .int 0, .int 0, .null, .int 0, .int 0, .int 0, .int 0])), (q8, .inl (g 0, 901, .inl (fun _ => 0))), (q17, .inl (g 0, 901, .inl (fun _ => 0))), (q25, .inl (g 0, 7, .inl (fun _ => 0))), (q33, .inl (g 0, 6, .inl (fun _ => 0))), (q41, .inl (g 1, 64, .inl (fun _ => 0))), (q49, .inl (g 0, 28, .inl (fun _ => 0))), (q56, .inl (g 0, 4, .inl (fun _ => 0))), (q63, .inl (g 0, 5, .inl (fun _ => 0))), (q71, .inl (g 0, 7, .inl (fun _ => 0)))]) H := hP
  have hD : va_D A ([(h0, .inr (1, [.int 0, .ref q8, .ref q17, .ref q25, .int 0, .int 0, .int 0, .int 0, .int 0, .int 0, .ref q33, .ref q41, .ref q49, .ref q56, .ref q63, .ref q71, .null, .int 0, .int 0, .int 0, .int 0, .null, .int 0, .int 0, .int 0, .int 0])), (q8, .inl (g 0, 901, .inl (fun _ => 0))), (q17, .inl (g 0, 901, .inl (fun _ => 0))), (q25, .inl (g 0, 7, .inl (fun _ => 0))), (q33, .inl (g 0, 6, .inl (fun _ => 0))), (q41, .inl (g 1, 64, .inl (fun _ => 0))), (q49, .inl (g 0, 28, .inl (fun _ => 0))), (q56, .inl (g 0, 4, .inl (fun _ => 0))), (q63, .inl (g 0, 5, .inl (fun _ => 0))), (q71, .inl (g 0, 7, .inl (fun _ => 0)))]) := hD
  refine lv_aload_n hx hb d_Mo_init_76 rfl (lv_at hl 0 rfl) ?_
  refine lv_bipush (v := 7) hx hb d_Mo_init_77 (by decide) ?_
  refine newI (N := 7) hx hb hg hK hP hD hS hA (by decide) (by decide +kernel) (Nat.le_of_ble_eq_true rfl) (Nat.le_of_ble_eq_true rfl) (Nat.le_of_ble_eq_true rfl) d_Mo_init_79 (fun q79 H hP hD hS => ?_)
  have hP : va_P D classes ([(h0, .inr (1, [.int 0, .ref q8, .ref q17, .ref q25, .int 0, .int 0, .int 0, .int 0, .int 0, .int 0, .ref q33, .ref q41, .ref q49, .ref q56, .ref q63, .ref q71, .null, .int 0, .int 0, .int 0, .int 0, .null, .int 0, .int 0, .int 0, .int 0])), (q8, .inl (g 0, 901, .inl (fun _ => 0))), (q17, .inl (g 0, 901, .inl (fun _ => 0))), (q25, .inl (g 0, 7, .inl (fun _ => 0))), (q33, .inl (g 0, 6, .inl (fun _ => 0))), (q41, .inl (g 1, 64, .inl (fun _ => 0))), (q49, .inl (g 0, 28, .inl (fun _ => 0))), (q56, .inl (g 0, 4, .inl (fun _ => 0))), (q63, .inl (g 0, 5, .inl (fun _ => 0))), (q71, .inl (g 0, 7, .inl (fun _ => 0))), (q79, .inl (g 0, 7, .inl (fun _ => 0)))]) H := hP
  have hD : va_D A ([(h0, .inr (1, [.int 0, .ref q8, .ref q17, .ref q25, .int 0, .int 0, .int 0, .int 0, .int 0, .int 0, .ref q33, .ref q41, .ref q49, .ref q56, .ref q63, .ref q71, .null, .int 0, .int 0, .int 0, .int 0, .null, .int 0, .int 0, .int 0, .int 0])), (q8, .inl (g 0, 901, .inl (fun _ => 0))), (q17, .inl (g 0, 901, .inl (fun _ => 0))), (q25, .inl (g 0, 7, .inl (fun _ => 0))), (q33, .inl (g 0, 6, .inl (fun _ => 0))), (q41, .inl (g 1, 64, .inl (fun _ => 0))), (q49, .inl (g 0, 28, .inl (fun _ => 0))), (q56, .inl (g 0, 4, .inl (fun _ => 0))), (q63, .inl (g 0, 5, .inl (fun _ => 0))), (q71, .inl (g 0, 7, .inl (fun _ => 0))), (q79, .inl (g 0, 7, .inl (fun _ => 0)))]) := hD
  refine W.widen (k := 10) (n := 1930) (by omega) (by omega) ?_
  refine va_putF (D := D) (ci := 1) (v := .ref q79) (ty := .array .int) (C := R_Mo) (T := F_Mo) (N := 26) hx hb hg i_Mo t_Mo t_Mo_ok n_Mo hown hK hP hD hS 0 rfl rfl 16 (by decide) (hg _ g_1008) (fun _ h9 => h9) rfl hin rfl (by decide +kernel) rfl rfl (Nat.le_of_ble_eq_true rfl) d_Mo_init_81 (fun H locs hP hD hS => ?_)
  have hP : va_P D classes ([(h0, .inr (1, [.int 0, .ref q8, .ref q17, .ref q25, .int 0, .int 0, .int 0, .int 0, .int 0, .int 0, .ref q33, .ref q41, .ref q49, .ref q56, .ref q63, .ref q71, .ref q79, .int 0, .int 0, .int 0, .int 0, .null, .int 0, .int 0, .int 0, .int 0])), (q8, .inl (g 0, 901, .inl (fun _ => 0))), (q17, .inl (g 0, 901, .inl (fun _ => 0))), (q25, .inl (g 0, 7, .inl (fun _ => 0))), (q33, .inl (g 0, 6, .inl (fun _ => 0))), (q41, .inl (g 1, 64, .inl (fun _ => 0))), (q49, .inl (g 0, 28, .inl (fun _ => 0))), (q56, .inl (g 0, 4, .inl (fun _ => 0))), (q63, .inl (g 0, 5, .inl (fun _ => 0))), (q71, .inl (g 0, 7, .inl (fun _ => 0))), (q79, .inl (g 0, 7, .inl (fun _ => 0)))]) H := hP
  have hD : va_D A ([(h0, .inr (1, [.int 0, .ref q8, .ref q17, .ref q25, .int 0, .int 0, .int 0, .int 0, .int 0, .int 0, .ref q33, .ref q41, .ref q49, .ref q56, .ref q63, .ref q71, .ref q79, .int 0, .int 0, .int 0, .int 0, .null, .int 0, .int 0, .int 0, .int 0])), (q8, .inl (g 0, 901, .inl (fun _ => 0))), (q17, .inl (g 0, 901, .inl (fun _ => 0))), (q25, .inl (g 0, 7, .inl (fun _ => 0))), (q33, .inl (g 0, 6, .inl (fun _ => 0))), (q41, .inl (g 1, 64, .inl (fun _ => 0))), (q49, .inl (g 0, 28, .inl (fun _ => 0))), (q56, .inl (g 0, 4, .inl (fun _ => 0))), (q63, .inl (g 0, 5, .inl (fun _ => 0))), (q71, .inl (g 0, 7, .inl (fun _ => 0))), (q79, .inl (g 0, 7, .inl (fun _ => 0)))]) := hD
  refine lv_aload_n hx hb d_Mo_init_84 rfl (lv_at hl 0 rfl) ?_
  refine lv_bipush (v := 20) hx hb d_Mo_init_85 (by decide) ?_
  refine newI (N := 20) hx hb hg hK hP hD hS hA (by decide) (by decide +kernel) (Nat.le_of_ble_eq_true rfl) (Nat.le_of_ble_eq_true rfl) (Nat.le_of_ble_eq_true rfl) d_Mo_init_87 (fun q87 H hP hD hS => ?_)
  have hP : va_P D classes ([(h0, .inr (1, [.int 0, .ref q8, .ref q17, .ref q25, .int 0, .int 0, .int 0, .int 0, .int 0, .int 0, .ref q33, .ref q41, .ref q49, .ref q56, .ref q63, .ref q71, .ref q79, .int 0, .int 0, .int 0, .int 0, .null, .int 0, .int 0, .int 0, .int 0])), (q8, .inl (g 0, 901, .inl (fun _ => 0))), (q17, .inl (g 0, 901, .inl (fun _ => 0))), (q25, .inl (g 0, 7, .inl (fun _ => 0))), (q33, .inl (g 0, 6, .inl (fun _ => 0))), (q41, .inl (g 1, 64, .inl (fun _ => 0))), (q49, .inl (g 0, 28, .inl (fun _ => 0))), (q56, .inl (g 0, 4, .inl (fun _ => 0))), (q63, .inl (g 0, 5, .inl (fun _ => 0))), (q71, .inl (g 0, 7, .inl (fun _ => 0))), (q79, .inl (g 0, 7, .inl (fun _ => 0))), (q87, .inl (g 0, 20, .inl (fun _ => 0)))]) H := hP
  have hD : va_D A ([(h0, .inr (1, [.int 0, .ref q8, .ref q17, .ref q25, .int 0, .int 0, .int 0, .int 0, .int 0, .int 0, .ref q33, .ref q41, .ref q49, .ref q56, .ref q63, .ref q71, .ref q79, .int 0, .int 0, .int 0, .int 0, .null, .int 0, .int 0, .int 0, .int 0])), (q8, .inl (g 0, 901, .inl (fun _ => 0))), (q17, .inl (g 0, 901, .inl (fun _ => 0))), (q25, .inl (g 0, 7, .inl (fun _ => 0))), (q33, .inl (g 0, 6, .inl (fun _ => 0))), (q41, .inl (g 1, 64, .inl (fun _ => 0))), (q49, .inl (g 0, 28, .inl (fun _ => 0))), (q56, .inl (g 0, 4, .inl (fun _ => 0))), (q63, .inl (g 0, 5, .inl (fun _ => 0))), (q71, .inl (g 0, 7, .inl (fun _ => 0))), (q79, .inl (g 0, 7, .inl (fun _ => 0))), (q87, .inl (g 0, 20, .inl (fun _ => 0)))]) := hD
  refine W.widen (k := 11) (n := 1950) (by omega) (by omega) ?_
  refine va_putF (D := D) (ci := 1) (v := .ref q87) (ty := .array .int) (C := R_Mo) (T := F_Mo) (N := 26) hx hb hg i_Mo t_Mo t_Mo_ok n_Mo hown hK hP hD hS 0 rfl rfl 21 (by decide) (hg _ g_1013) (fun _ h9 => h9) rfl hin rfl (by decide +kernel) rfl rfl (Nat.le_of_ble_eq_true rfl) d_Mo_init_89 (fun H locs hP hD hS => ?_)
  have hP : va_P D classes ([(h0, .inr (1, [.int 0, .ref q8, .ref q17, .ref q25, .int 0, .int 0, .int 0, .int 0, .int 0, .int 0, .ref q33, .ref q41, .ref q49, .ref q56, .ref q63, .ref q71, .ref q79, .int 0, .int 0, .int 0, .int 0, .ref q87, .int 0, .int 0, .int 0, .int 0])), (q8, .inl (g 0, 901, .inl (fun _ => 0))), (q17, .inl (g 0, 901, .inl (fun _ => 0))), (q25, .inl (g 0, 7, .inl (fun _ => 0))), (q33, .inl (g 0, 6, .inl (fun _ => 0))), (q41, .inl (g 1, 64, .inl (fun _ => 0))), (q49, .inl (g 0, 28, .inl (fun _ => 0))), (q56, .inl (g 0, 4, .inl (fun _ => 0))), (q63, .inl (g 0, 5, .inl (fun _ => 0))), (q71, .inl (g 0, 7, .inl (fun _ => 0))), (q79, .inl (g 0, 7, .inl (fun _ => 0))), (q87, .inl (g 0, 20, .inl (fun _ => 0)))]) H := hP
  have hD : va_D A ([(h0, .inr (1, [.int 0, .ref q8, .ref q17, .ref q25, .int 0, .int 0, .int 0, .int 0, .int 0, .int 0, .ref q33, .ref q41, .ref q49, .ref q56, .ref q63, .ref q71, .ref q79, .int 0, .int 0, .int 0, .int 0, .ref q87, .int 0, .int 0, .int 0, .int 0])), (q8, .inl (g 0, 901, .inl (fun _ => 0))), (q17, .inl (g 0, 901, .inl (fun _ => 0))), (q25, .inl (g 0, 7, .inl (fun _ => 0))), (q33, .inl (g 0, 6, .inl (fun _ => 0))), (q41, .inl (g 1, 64, .inl (fun _ => 0))), (q49, .inl (g 0, 28, .inl (fun _ => 0))), (q56, .inl (g 0, 4, .inl (fun _ => 0))), (q63, .inl (g 0, 5, .inl (fun _ => 0))), (q71, .inl (g 0, 7, .inl (fun _ => 0))), (q79, .inl (g 0, 7, .inl (fun _ => 0))), (q87, .inl (g 0, 20, .inl (fun _ => 0)))]) := hD
  refine lv_aload_n hx hb d_Mo_init_92 rfl (lv_at hl 0 rfl) ?_
  refine va_get (D := D) (ci := 1) (v := .ref q8) (C := R_Mo) (T := F_Mo) (N := 26) hx hb hg i_Mo hown hK hP 0 rfl rfl 1 (by decide) (hg _ g_993) (fun _ h9 => h9) rfl d_Mo_init_93 ?_
  refine lv_iconst (v := 5) hx hb d_Mo_init_96 (by decide) ?_
  refine lv_iconst (v := (-1)) hx hb d_Mo_init_97 (by decide) ?_
  refine va_iast hx hb hK hP hD hS 1 0 rfl rfl (inb_t (by decide +kernel)) d_Mo_init_98 (fun H locs hP hD hS => ?_)
  have hP : va_P D classes ([(h0, .inr (1, [.int 0, .ref q8, .ref q17, .ref q25, .int 0, .int 0, .int 0, .int 0, .int 0, .int 0, .ref q33, .ref q41, .ref q49, .ref q56, .ref q63, .ref q71, .ref q79, .int 0, .int 0, .int 0, .int 0, .ref q87, .int 0, .int 0, .int 0, .int 0])), (q8, .inl (g 0, 901, .inl (upd (fun _ => 0) 5 (-1)))), (q17, .inl (g 0, 901, .inl (fun _ => 0))), (q25, .inl (g 0, 7, .inl (fun _ => 0))), (q33, .inl (g 0, 6, .inl (fun _ => 0))), (q41, .inl (g 1, 64, .inl (fun _ => 0))), (q49, .inl (g 0, 28, .inl (fun _ => 0))), (q56, .inl (g 0, 4, .inl (fun _ => 0))), (q63, .inl (g 0, 5, .inl (fun _ => 0))), (q71, .inl (g 0, 7, .inl (fun _ => 0))), (q79, .inl (g 0, 7, .inl (fun _ => 0))), (q87, .inl (g 0, 20, .inl (fun _ => 0)))]) H := hP
  have hD : va_D A ([(h0, .inr (1, [.int 0, .ref q8, .ref q17, .ref q25, .int 0, .int 0, .int 0, .int 0, .int 0, .int 0, .ref q33, .ref q41, .ref q49, .ref q56, .ref q63, .ref q71, .ref q79, .int 0, .int 0, .int 0, .int 0, .ref q87, .int 0, .int 0, .int 0, .int 0])), (q8, .inl (g 0, 901, .inl (upd (fun _ => 0) 5 (-1)))), (q17, .inl (g 0, 901, .inl (fun _ => 0))), (q25, .inl (g 0, 7, .inl (fun _ => 0))), (q33, .inl (g 0, 6, .inl (fun _ => 0))), (q41, .inl (g 1, 64, .inl (fun _ => 0))), (q49, .inl (g 0, 28, .inl (fun _ => 0))), (q56, .inl (g 0, 4, .inl (fun _ => 0))), (q63, .inl (g 0, 5, .inl (fun _ => 0))), (q71, .inl (g 0, 7, .inl (fun _ => 0))), (q79, .inl (g 0, 7, .inl (fun _ => 0))), (q87, .inl (g 0, 20, .inl (fun _ => 0)))]) := hD
  have hP : va_P D classes (ws_Mo g (fun i => ([h0, q8, q17, q25, q33, q41, q49, q56, q63, q71, q79, q87] : List Nat).getD i 0) i_T_Mo) H := hP
  have hD : va_D A (ws_Mo g (fun i => ([h0, q8, q17, q25, q33, q41, q49, q56, q63, q71, q79, q87] : List Nat).getD i 0) i_T_Mo) := hD
  exact W.vret hx hb hr (fun t ht hW => ⟨⟨(fun i => ([h0, q8, q17, q25, q33, q41, q49, q56, q63, q71, q79, q87] : List Nat).getD i 0), rfl, rfl, by rw [ht]; exact hP, va_K.moved hW.alike hK, hD⟩, hS.F ht⟩) hS.2.2 d_Mo_init_99 hlk

/-! Contracts over worlds: a method's start, its ends, its calls, as rows of one form. -/
/-! What never changes: the texts of the program, its tables, and the words on them. g names addresses: g (10 + i) a text, g (30 + i) its bytes, g 50 and g 51 the tables. -/
def lenC : List Nat := [4, 4, 4, 3, 6, 3, 3, 3, 5, 4]
def bytC : List (List Int32) := [[108, 105, 107, 101], [108, 105, 102, 116], [119, 101, 97, 114], [105, 108, 108], [112, 107, 97, 116, 119, 121], [60, 61, 62], [107, 101, 32], [102, 116, 32], [119, 101, 97, 114, 32], [105, 108, 108, 32]]
def aboveC (j : Nat) : Int32 := ([(-1), 0, 0, 0, 1, 2, 3] : List Int32).getD j 0
def bodiesC (j : Nat) : Int32 := ([1, 2, 3, 11, 0, 0, 0, 21, 0, 0, 0, 31, 0, 0, 41, 51, 0, 0, 0, 61, 0] : List Int32).getD j 0
def CsH (g : Nat → ClassId) (A : Nat → Prop) (U : State) (H : Heap) : Prop :=
  vk_S 10 lenC bytC (fun i => g (10 + i)) (fun i => g (30 + i)) A U H ∧ va_Z "java/lang/String" "COMPACT_STRINGS" "Z" (.int 1) A U H ∧ va_Zq "jdk/internal/util/Preconditions" "SIOOBE_FORMATTER" "Ljava/util/function/BiFunction;" A U H ∧
  va_Z "OwnsLift" "ABOVE" "[I" (.ref (g 50)) A U H ∧ va_T .int (g 50) 7 (fun j => .int (aboveC j)) A U H ∧ va_Z "OwnsLift" "BODIES" "[I" (.ref (g 51)) A U H ∧ va_T .int (g 51) 21 (fun j => .int (bodiesC j)) A U H
def CsR (g : Nat → ClassId) (U : State) : Prop := ∀ q ∈ ([("OwnsLift$Reader", 80, "like", 0), ("OwnsLift$Reader", 82, "lift", 1), ("OwnsLift$Reader", 84, "wear", 2), ("OwnsLift$Reader", 86, "ill", 3), ("OwnsLift$Reader", 102, "pkatwy", 4), ("OwnsLift$Reader", 107, "<=>", 5), ("OwnsLiftModel", 114, "ke ", 6), ("OwnsLiftModel", 96, "pkatwy", 4), ("OwnsLiftModel", 102, "<=>", 5), ("OwnsLiftModel", 120, "ft ", 7), ("OwnsLiftModel", 125, "wear ", 8), ("OwnsLiftModel", 127, "ill ", 9)] : List (String × Nat × String × Nat)), vk_R q.1 q.2.1 q.2.2.1 (g (10 + q.2.2.2)) U
def nestL : List (String × Nat × MethodName) := [("OwnsLift", 11, ⟨"OwnsLift$Realm", "<init>", "()V"⟩), ("OwnsLift$Realm", 17, ⟨"OwnsLift$Land", "<init>", "()V"⟩), ("OwnsLift$Realm", 24, ⟨"OwnsLift$People", "<init>", "()V"⟩), ("OwnsLift$Realm", 31, ⟨"OwnsLift$Things", "<init>", "()V"⟩), ("OwnsLift", 23, ⟨"OwnsLift$Reader", "<init>", "()V"⟩), ("OwnsLift$Reader", 11, ⟨"OwnsLift$Land", "<init>", "()V"⟩), ("OwnsLift", 30, ⟨"OwnsLift$Standing", "<init>", "()V"⟩), ("OwnsLift", 37, ⟨"OwnsLift$Shares", "<init>", "()V"⟩), ("OwnsLift", 44, ⟨"OwnsLift$Fraction", "<init>", "()V"⟩), ("OwnsLift", 51, ⟨"OwnsLift$Acts", "<init>", "()V"⟩), ("OwnsLift", 273, ⟨"OwnsLift$Acts", "run", "(IIII)I"⟩)]
def CsN (U : State) : Prop := ∀ q ∈ nestL, va_Nw (.methodLinkNest q.1 q.2.1 q.2.2 "OwnsLift") U
def CsW (g : Nat → ClassId) (U : State) : Prop := CsN U ∧ va_Nw (.fieldLinkNest "OwnsLift$Acts" 49 "OwnsLift" "BODIES" "[I" "OwnsLift") U ∧ va_Nw (.fieldLinkNest "OwnsLift$Acts" 46 "OwnsLift" "ABOVE" "[I" "OwnsLift") U ∧ CsR g U
def Cst (g : Nat → ClassId) (A : Nat → Prop) (U : State) (H : Heap) : Prop := CsH g A U H ∧ CsW g U
theorem CsH.moved {g : Nat → ClassId} {A : Nat → Prop} {u U : State} {H : Heap} (hvm : u.vm.Alike U.vm) (h : CsH g A u H) : CsH g A U H :=
  ⟨h.1.moved hvm, h.2.1.moved hvm, h.2.2.1.moved hvm, h.2.2.2.1.moved hvm, h.2.2.2.2.1.moved hvm, h.2.2.2.2.2.1.moved hvm, h.2.2.2.2.2.2.moved hvm⟩
theorem CsH.kept {g : Nat → ClassId} {A : Nat → Prop} {U : State} {H H1 : Heap} (h : CsH g A U H) (hq : ∀ a : Nat, a < H.size → ¬ A a → H1[a]? = H[a]?) : CsH g A U H1 :=
  ⟨h.1.kept hq, h.2.1.kept hq, h.2.2.1.kept hq, h.2.2.2.1.kept hq, h.2.2.2.2.1.kept hq, h.2.2.2.2.2.1.kept hq, h.2.2.2.2.2.2.kept hq⟩
theorem CsH.narrow {g : Nat → ClassId} {A B : Nat → Prop} {U : State} {H : Heap} (h : CsH g A U H) (hAB : ∀ q, B q → A q) : CsH g B U H :=
  ⟨h.1.narrow hAB, h.2.1.narrow hAB, h.2.2.1.narrow hAB, h.2.2.2.1.narrow hAB, h.2.2.2.2.1.narrow hAB, h.2.2.2.2.2.1.narrow hAB, h.2.2.2.2.2.2.narrow hAB⟩
theorem CsW.warm {g : Nat → ClassId} {s U : State} (hW : s.WarmedH U.vm) (h : CsW g s) : CsW g U := ⟨fun q hq => va_Nw.warmM hW (h.1 q hq), va_Nw.warmF hW h.2.1, va_Nw.warmF hW h.2.2.1, fun q hq => (h.2.2.2 q hq).warm hW⟩
theorem CsW.same {g : Nat → ClassId} {s U : State} (hv : U.vm = s.vm) (h : CsW g s) : CsW g U := ⟨fun q hq => va_Nw.same rfl hv.symm (h.1 q hq), va_Nw.same rfl hv.symm h.2.1, va_Nw.same rfl hv.symm h.2.2.1, fun q hq => (h.2.2.2 q hq).same hv⟩
theorem Cst.step {g : Nat → ClassId} {A B : Nat → Prop} {s U : State} {H : Heap} {locs : List Loc} (h : Cst g A s s.heap) (hS : va_S A s.heap H locs) (hW : s.WarmedH U.vm) (hU : U.heap = H) (hAB : ∀ q, B q → A q) : Cst g B U U.heap :=
  ⟨by rw [hU]; exact ((h.1.kept hS.2.1).narrow hAB).moved hW.alike, h.2.warm hW⟩
abbrev TY (g : Nat → ClassId) : List (ClassId × FieldType) := [(g 0, .int), (g 1, .boolean), (g 2, .array .int)]
def PreW (D : va_G) (g : Nat → ClassId) (ws : va_W) (sz : Nat) (U : State) : Prop := U.heap.size = sz ∧ va_P D classes ws U.heap ∧ va_K D classes (TY g) U ∧ va_D (fun _ => True) ws ∧ Cst g (va_A ws sz) U U.heap
def PstW (D : va_G) (g : Nat → ClassId) (ws : va_W) (A : Nat → Prop) (_ : Unit) (t : State) : Prop := va_P D classes ws t.heap ∧ va_K D classes (TY g) t ∧ va_D A ws
def MI (l : Launch) (y : MethodName) (b : ByteArray) (n : Nat) (rt : FieldType) (rm : Room) (D : va_G) (g : Nat → ClassId) (av : List Value) (ws : va_W) (r : Int32) (ws' : va_W) : Prop :=
  ∀ sz, Met l y (.code y b n (some rt) :: GW) rm (va_Pc av (PreW D g ws sz)) (va_Qi (fun (r' : Int32) (_ : Unit) => r' = r) (PstW D g ws' (va_A ws sz)) (va_A ws sz)) 0 0 (va_A ws sz)
def ML (l : Launch) (y : MethodName) (b : ByteArray) (n : Nat) (rm : Room) (D : va_G) (g : Nat → ClassId) (av : List Value) (ws : va_W) (r : Int64) (ws' : va_W) : Prop :=
  ∀ sz, Met l y (.code y b n (some .long) :: GW) rm (va_Pc av (PreW D g ws sz)) (va_Ql (fun (r' : Int64) (_ : Unit) => r' = r) (PstW D g ws' (va_A ws sz)) (va_A ws sz)) 0 0 (va_A ws sz)
def MV (l : Launch) (y : MethodName) (b : ByteArray) (n : Nat) (rm : Room) (D : va_G) (g : Nat → ClassId) (av : List Value) (ws : va_W) (ws' : va_W) : Prop :=
  ∀ sz, Met l y (.code y b n none :: GW) rm (va_Pc av (PreW D g ws sz)) (va_Qv (fun (_ : Unit) => True) (PstW D g ws' (va_A ws sz)) (va_A ws sz)) 0 0 (va_A ws sz)
/-- an answer that is one of the texts: its number -/
def MS (l : Launch) (y : MethodName) (b : ByteArray) (n : Nat) (rm : Room) (D : va_G) (g : Nat → ClassId) (av : List Value) (ws : va_W) (r : Nat) (ws' : va_W) : Prop :=
  ∀ sz, Met l y (.code y b n (some (.object "java/lang/String")) :: GW) rm (va_Pc av (PreW D g ws sz)) (va_Qr (fun (_ : Unit) => True) (fun u q t => q = g (10 + r) ∧ PstW D g ws' (va_A ws sz) u t) (va_A ws sz)) 0 0 (va_A ws sz)
theorem fbW (D : va_G) (g : Nat → ClassId) (av : List Value) (ws : va_W) (sz : Nat) : FrameBlind (va_Pc av (PreW D g ws sz)) := fun a U gg mk q => by
  obtain ⟨q0, q1, qP, qK, qD, qC⟩ := q
  exact ⟨q0, q1, qP, va_K.moved (u := U) (U := U.calling gg mk a) (Vm.Alike.refl U.vm) qK, qD, CsH.moved (u := U) (U := U.calling gg mk a) (Vm.Alike.refl U.vm) qC.1, qC.2.same rfl⟩
theorem enterI {l : Launch} {y : MethodName} {b : ByteArray} {n : Nat} {rt : FieldType} {rm : Room} {D : va_G} {g : Nat → ClassId} {av : List Value} {ws ws' : va_W} {r : Int32} (hy : plainName y.cls = true) (hn : (lg_sl av).length ≤ n)
    (body : ∀ (p : Program) (e : Env) (s : State) (m : MethodId) (below : List Frame) (meth : Method) (c : Code) (A : Nat → Prop) (ls : Array Slot), p.tables.exec = Jvm.exec → c.code = b → c.maxLocals = n → meth.sig.returnType = some rt → s.vm.findClass y.cls = some m.cls →
      (∀ w ∈ GW, w.before av.toArray s = true) → meth.locks = false → va_K D classes (TY g) s → (∀ q, s.heap.size ≤ q → A q) → va_P D classes ws s.heap → va_D A ws → va_S A s.heap s.heap [] → Cst g A s s.heap → lv_has ls n (lv_args 0 av) →
      W p l e rm s m av.toArray below meth c s.heap [] 0 0 (MQ below (va_Qi (fun (r' : Int32) (_ : Unit) => r' = r) (PstW D g ws' A) A) av.toArray s 0 0 A) (F0 m 0 ls [])) : MI l y b n rt rm D g av ws r ws' := by
  intro sz
  refine Met.ofW (cc := b) (maxL := n) (ret := some rt) hy rfl ?_
  intro p e s m args below meth c s₁ B hml hv
  obtain ⟨rfl, hsz, hP, hK, hD0, hCs⟩ := hv
  subst hsz
  rw [lg_entry_eq]
  exact body p e s m below meth c (va_A ws s.heap.size) _ B.exec B.bytes hml B.returns (findClass_of_methodNamed B.named) (fun w hw => atoms_spec (ws := .code y b n (some rt) :: GW) B.pre w (List.mem_cons_of_mem _ hw)) B.notSynchronized hK (fun q h => Or.inr h) hP hD0.self va_S.rf hCs (lv_entry av hn)
theorem enterL {l : Launch} {y : MethodName} {b : ByteArray} {n : Nat} {rm : Room} {D : va_G} {g : Nat → ClassId} {av : List Value} {ws ws' : va_W} {r : Int64} (hy : plainName y.cls = true) (hn : (lg_sl av).length ≤ n)
    (body : ∀ (p : Program) (e : Env) (s : State) (m : MethodId) (below : List Frame) (meth : Method) (c : Code) (A : Nat → Prop) (ls : Array Slot), p.tables.exec = Jvm.exec → c.code = b → c.maxLocals = n → meth.sig.returnType = some .long → s.vm.findClass y.cls = some m.cls →
      (∀ w ∈ GW, w.before av.toArray s = true) → meth.locks = false → va_K D classes (TY g) s → (∀ q, s.heap.size ≤ q → A q) → va_P D classes ws s.heap → va_D A ws → va_S A s.heap s.heap [] → Cst g A s s.heap → lv_has ls n (lv_args 0 av) →
      W p l e rm s m av.toArray below meth c s.heap [] 0 0 (MQ below (va_Ql (fun (r' : Int64) (_ : Unit) => r' = r) (PstW D g ws' A) A) av.toArray s 0 0 A) (F0 m 0 ls [])) : ML l y b n rm D g av ws r ws' := by
  intro sz
  refine Met.ofW (cc := b) (maxL := n) (ret := some .long) hy rfl ?_
  intro p e s m args below meth c s₁ B hml hv
  obtain ⟨rfl, hsz, hP, hK, hD0, hCs⟩ := hv
  subst hsz
  rw [lg_entry_eq]
  exact body p e s m below meth c (va_A ws s.heap.size) _ B.exec B.bytes hml B.returns (findClass_of_methodNamed B.named) (fun w hw => atoms_spec (ws := .code y b n (some .long) :: GW) B.pre w (List.mem_cons_of_mem _ hw)) B.notSynchronized hK (fun q h => Or.inr h) hP hD0.self va_S.rf hCs (lv_entry av hn)
theorem enterV {l : Launch} {y : MethodName} {b : ByteArray} {n : Nat} {rm : Room} {D : va_G} {g : Nat → ClassId} {av : List Value} {ws ws' : va_W} (hy : plainName y.cls = true) (hn : (lg_sl av).length ≤ n)
    (body : ∀ (p : Program) (e : Env) (s : State) (m : MethodId) (below : List Frame) (meth : Method) (c : Code) (A : Nat → Prop) (ls : Array Slot), p.tables.exec = Jvm.exec → c.code = b → c.maxLocals = n → meth.sig.returnType = none → s.vm.findClass y.cls = some m.cls →
      (∀ w ∈ GW, w.before av.toArray s = true) → meth.locks = false → va_K D classes (TY g) s → (∀ q, s.heap.size ≤ q → A q) → va_P D classes ws s.heap → va_D A ws → va_S A s.heap s.heap [] → Cst g A s s.heap → lv_has ls n (lv_args 0 av) →
      W p l e rm s m av.toArray below meth c s.heap [] 0 0 (MQ below (va_Qv (fun (_ : Unit) => True) (PstW D g ws' A) A) av.toArray s 0 0 A) (F0 m 0 ls [])) : MV l y b n rm D g av ws ws' := by
  intro sz
  refine Met.ofW (cc := b) (maxL := n) (ret := none) hy rfl ?_
  intro p e s m args below meth c s₁ B hml hv
  obtain ⟨rfl, hsz, hP, hK, hD0, hCs⟩ := hv
  subst hsz
  rw [lg_entry_eq]
  exact body p e s m below meth c (va_A ws s.heap.size) _ B.exec B.bytes hml B.returns (findClass_of_methodNamed B.named) (fun w hw => atoms_spec (ws := .code y b n none :: GW) B.pre w (List.mem_cons_of_mem _ hw)) B.notSynchronized hK (fun q h => Or.inr h) hP hD0.self va_S.rf hCs (lv_entry av hn)
theorem enterS {l : Launch} {y : MethodName} {b : ByteArray} {n : Nat} {rm : Room} {D : va_G} {g : Nat → ClassId} {av : List Value} {ws ws' : va_W} {r : Nat} (hy : plainName y.cls = true) (hn : (lg_sl av).length ≤ n)
    (body : ∀ (p : Program) (e : Env) (s : State) (m : MethodId) (below : List Frame) (meth : Method) (c : Code) (A : Nat → Prop) (ls : Array Slot), p.tables.exec = Jvm.exec → c.code = b → c.maxLocals = n → meth.sig.returnType = some (.object "java/lang/String") → s.vm.findClass y.cls = some m.cls →
      (∀ w ∈ GW, w.before av.toArray s = true) → meth.locks = false → va_K D classes (TY g) s → (∀ q, s.heap.size ≤ q → A q) → va_P D classes ws s.heap → va_D A ws → va_S A s.heap s.heap [] → Cst g A s s.heap → lv_has ls n (lv_args 0 av) →
      W p l e rm s m av.toArray below meth c s.heap [] 0 0 (MQ below (va_Qr (fun (_ : Unit) => True) (fun u q t => q = g (10 + r) ∧ PstW D g ws' A u t) A) av.toArray s 0 0 A) (F0 m 0 ls [])) : MS l y b n rm D g av ws r ws' := by
  intro sz
  refine Met.ofW (cc := b) (maxL := n) (ret := some (.object "java/lang/String")) hy rfl ?_
  intro p e s m args below meth c s₁ B hml hv
  obtain ⟨rfl, hsz, hP, hK, hD0, hCs⟩ := hv
  subst hsz
  rw [lg_entry_eq]
  exact body p e s m below meth c (va_A ws s.heap.size) _ B.exec B.bytes hml B.returns (findClass_of_methodNamed B.named) (fun w hw => atoms_spec (ws := .code y b n (some (.object "java/lang/String")) :: GW) B.pre w (List.mem_cons_of_mem _ hw)) B.notSynchronized hK (fun q h => Or.inr h) hP hD0.self va_S.rf hCs (lv_entry av hn)
section FR
variable {p : Program} {l : Launch} {e : Env} {R : Room} {s : State} {m : MethodId} {args : Array Value} {below : List Frame} {meth : Method} {c : Code} {H : Heap} {locs : List Loc} {Q : State → Prop}
variable {cc : ByteArray} {pc : Nat} {ls : Array Slot} {rest st As : List Value} {D : va_G} {g : Nat → ClassId} {A : Nat → Prop} {ws wc w1 ws' : va_W}
theorem retI (hx : p.tables.exec = Jvm.exec) (hb : c.code = cc) (hr : meth.sig.returnType = some .int) (hlk : meth.locks = false) (hK : va_K D classes (TY g) s) (hP : va_P D classes ws' H) (hD : va_D A ws') (hS : va_S A s.heap H locs) (hdg : decode cc pc = .ok (.ireturn, 1)) {v r : Int32} (hv : v = r) :
    W p l e R s m args below meth c H locs 0 0 (MQ below (va_Qi (fun (r' : Int32) (_ : Unit) => r' = r) (PstW D g ws' A) A) args s 0 0 A) (F0 m pc ls [.int v]) :=
  W.iret hx hb hr (fun t ht hW => ⟨⟨v, (), rfl, hv, by rw [ht]; exact hP, va_K.moved hW.alike hK, hD⟩, hS.F ht⟩) hS.2.2 hdg hlk
theorem retZ (hx : p.tables.exec = Jvm.exec) (hb : c.code = cc) (hr : meth.sig.returnType = some .boolean) (hlk : meth.locks = false) (hK : va_K D classes (TY g) s) (hP : va_P D classes ws' H) (hD : va_D A ws') (hS : va_S A s.heap H locs) (hdg : decode cc pc = .ok (.ireturn, 1)) {v r : Int32} (hv : v = r) (hn : narrow .boolean (.int v) = .int v) :
    W p l e R s m args below meth c H locs 0 0 (MQ below (va_Qi (fun (r' : Int32) (_ : Unit) => r' = r) (PstW D g ws' A) A) args s 0 0 A) (F0 m pc ls [.int v]) :=
  W.zret hx hb hr hn (fun t ht hW => ⟨⟨v, (), rfl, hv, by rw [ht]; exact hP, va_K.moved hW.alike hK, hD⟩, hS.F ht⟩) hS.2.2 hdg hlk
theorem retL (hx : p.tables.exec = Jvm.exec) (hb : c.code = cc) (hr : meth.sig.returnType = some .long) (hlk : meth.locks = false) (hK : va_K D classes (TY g) s) (hP : va_P D classes ws' H) (hD : va_D A ws') (hS : va_S A s.heap H locs) (hdg : decode cc pc = .ok (.lreturn, 1)) {v r : Int64} (hv : v = r) :
    W p l e R s m args below meth c H locs 0 0 (MQ below (va_Ql (fun (r' : Int64) (_ : Unit) => r' = r) (PstW D g ws' A) A) args s 0 0 A) (F0 m pc ls [.long v]) :=
  W.lret hx hb hr (fun t ht hW => ⟨⟨v, (), rfl, hv, by rw [ht]; exact hP, va_K.moved hW.alike hK, hD⟩, hS.F ht⟩) hS.2.2 hdg hlk
theorem retV (hx : p.tables.exec = Jvm.exec) (hb : c.code = cc) (hr : meth.sig.returnType = none) (hlk : meth.locks = false) (hK : va_K D classes (TY g) s) (hP : va_P D classes ws' H) (hD : va_D A ws') (hS : va_S A s.heap H locs) (hdg : decode cc pc = .ok (.return_, 1)) :
    W p l e R s m args below meth c H locs 0 0 (MQ below (va_Qv (fun (_ : Unit) => True) (PstW D g ws' A) A) args s 0 0 A) (F0 m pc ls []) :=
  W.vret hx hb hr (fun t ht hW => ⟨⟨(), rfl, trivial, by rw [ht]; exact hP, va_K.moved hW.alike hK, hD⟩, hS.F ht⟩) hS.2.2 hdg hlk
theorem retS (hx : p.tables.exec = Jvm.exec) (hb : c.code = cc) (hr : meth.sig.returnType = some (.object "java/lang/String")) (hlk : meth.locks = false) (hK : va_K D classes (TY g) s) (hP : va_P D classes ws' H) (hD : va_D A ws') (hS : va_S A s.heap H locs) (hdg : decode cc pc = .ok (.areturn, 1)) {v r : Nat} (hv : v = r) :
    W p l e R s m args below meth c H locs 0 0 (MQ below (va_Qr (fun (_ : Unit) => True) (fun u q t => q = g (10 + r) ∧ PstW D g ws' A u t) A) args s 0 0 A) (F0 m pc ls [.ref (g (10 + v))]) :=
  W.aret hx hb hr (Or.inl ⟨_, rfl⟩) (Or.inr ⟨_, rfl⟩) (fun t ht hW => ⟨⟨(), g (10 + v), rfl, trivial, by rw [hv], by rw [ht]; exact hP, va_K.moved hW.alike hK, hD⟩, hS.F ht⟩) hS.2.2 hdg hlk
theorem retY (hx : p.tables.exec = Jvm.exec) (hb : c.code = cc) {ty : FieldType} (hr : meth.sig.returnType = some ty) (hlk : meth.locks = false) (hK : va_K D classes (TY g) s) (hP : va_P D classes ws' H) (hD : va_D A ws') (hS : va_S A s.heap H locs) (hdg : decode cc pc = .ok (.ireturn, 1)) {v r : Int32} (hv : v = r) (hn : narrow ty (.int v) = .int v) :
    W p l e R s m args below meth c H locs 0 0 (MQ below (va_Qi (fun (r' : Int32) (_ : Unit) => r' = r) (PstW D g ws' A) A) args s 0 0 A) (F0 m pc ls [.int v]) :=
  W.zret hx hb hr hn (fun t ht hW => ⟨⟨v, (), rfl, hv, by rw [ht]; exact hP, va_K.moved hW.alike hK, hD⟩, hS.F ht⟩) hS.2.2 hdg hlk
/-- what the tables say of a method that is called on an object, and of one that is called without -/
def OkV (y : MethodName) (C : String) (b : ByteArray) (n : Nat) (rt : Option FieldType) (k : Nat) : Prop := (y.cls = C ∧ y.cls ≠ "java/lang/invoke/MethodHandle" ∧ y.cls ≠ "java/lang/invoke/VarHandle" ∧ (parseMethodDescriptor y.desc).map (fun d => d.parameters.length) = some k) ∧ Cond.instanceMethod y ∈ GW ∧ Cond.selects C y y ∈ GW ∧ Cond.initialized C ∈ GW ∧ Cond.code y b n rt ∈ GW
def OkS (y : MethodName) (b : ByteArray) (n : Nat) (rt : Option FieldType) (k : Nat) : Prop := (y.cls ≠ "java/lang/invoke/MethodHandle" ∧ y.cls ≠ "java/lang/invoke/VarHandle" ∧ (parseMethodDescriptor y.desc).map (fun d => d.parameters.length) = some k) ∧ Cond.static y ∈ GW ∧ Cond.initialized y.cls ∈ GW ∧ Cond.code y b n rt ∈ GW
theorem goodV {own C : String} {idx n k : Nat} {y : MethodName} {b : ByteArray} {rt : Option FieldType} (h : OkV y C b n rt k) (kl : Cond.methodLink own idx y ∈ GW) : GoodIn GW (wsV own idx C y (.code y b n rt :: GW)) := fun w hw => by
  rcases List.mem_append.mp hw with hw | hw
  · simp only [List.mem_cons, List.not_mem_nil, or_false] at hw
    rcases hw with rfl | rfl | rfl | rfl
    · exact gw_good kl
    · exact gw_good h.2.1
    · exact gw_good h.2.2.1
    · exact gw_good h.2.2.2.1
  · exact gw_cons h.2.2.2.2 w hw
/-- a world with some of its places filled anew -/
def patch : va_W → List Nat → va_W → va_W
  | ws, i :: is, q :: w1 => patch (ws.set i q) is w1
  | ws, _, _ => ws
theorem patch_get : ∀ (isC : List Nat) (ws w1 : va_W), va_nd isC = true → (∀ i ∈ isC, i < ws.length) → isC.length = w1.length → ∀ k : Nat, (∀ j : Nat, isC[j]? = some k → (patch ws isC w1)[k]? = w1[j]?) ∧ (k ∉ isC → (patch ws isC w1)[k]? = ws[k]?)
  | [], ws, w1, _, _, _, k => ⟨fun j h => by simp at h, fun _ => by cases w1 <;> rfl⟩
  | i :: is, ws, [], _, _, hl, k => by simp at hl
  | i :: is, ws, q :: w1, hn, hb, hl, k => by
    simp only [va_nd, Bool.and_eq_true, decide_eq_true_eq] at hn
    have hb0 : i < ws.length := hb i List.mem_cons_self
    obtain ⟨h1, h2⟩ := patch_get is (ws.set i q) w1 hn.2 (fun x hx => by rw [List.length_set]; exact hb x (List.mem_cons_of_mem _ hx)) (by simpa using hl) k
    refine ⟨fun j hj => ?_, fun hk => ?_⟩
    · cases j with
      | zero =>
        rw [List.getElem?_cons_zero] at hj
        cases hj
        show (patch (ws.set i q) is w1)[i]? = _
        rw [h2 hn.1, List.getElem?_set_self hb0, List.getElem?_cons_zero]
      | succ j =>
        rw [List.getElem?_cons_succ] at hj
        show (patch (ws.set i q) is w1)[k]? = _
        rw [h1 j hj, List.getElem?_cons_succ]
    · have hki : i ≠ k := fun h => hk (h ▸ List.mem_cons_self)
      show (patch (ws.set i q) is w1)[k]? = _
      rw [h2 (fun h => hk (List.mem_cons_of_mem _ h)), List.getElem?_set_ne hki]
/-- a stretch of a world, and a world with a stretch filled anew, in one pass -/
def cutS : va_W → Nat → Nat → va_W
  | _ :: xs, i + 1, n => cutS xs i n
  | x :: xs, 0, n + 1 => x :: cutS xs 0 n
  | _, _, _ => []
def splice : va_W → Nat → va_W → va_W
  | x :: xs, i + 1, w => x :: splice xs i w
  | _ :: xs, 0, q :: w => q :: splice xs 0 w
  | ws, _, _ => ws
theorem splice_nil : ∀ (ws : va_W) (i : Nat), splice ws i [] = ws
  | [], i => by cases i <;> rfl
  | x :: xs, 0 => rfl
  | x :: xs, i + 1 => by show x :: splice xs i [] = _; rw [splice_nil xs i]
theorem splice_set : ∀ (ws : va_W) (i : Nat) (q : Nat × va_E) (w : va_W), splice ws i (q :: w) = splice (ws.set i q) (i + 1) w
  | [], i, q, w => by cases i <;> rfl
  | x :: xs, 0, q, w => rfl
  | x :: xs, i + 1, q, w => by show x :: splice xs i (q :: w) = x :: splice (xs.set i q) (i + 1) w; rw [splice_set xs i q w]
theorem splice_patch : ∀ (w ws : va_W) (i : Nat), patch ws (List.range' i w.length) w = splice ws i w
  | [], ws, i => by rw [splice_nil]; cases ws <;> rfl
  | q :: w, ws, i => by
    show patch (ws.set i q) (List.range' (i + 1) w.length) w = _
    rw [splice_patch w (ws.set i q) (i + 1), splice_set]
theorem patch_app : ∀ (i1 i2 : List Nat) (w1 w2 ws : va_W), i1.length = w1.length → patch ws (i1 ++ i2) (w1 ++ w2) = patch (patch ws i1 w1) i2 w2
  | [], i2, [], w2, ws, _ => by cases ws <;> rfl
  | [], i2, q :: w1, w2, ws, h => by simp at h
  | i :: i1, i2, [], w2, ws, h => by simp at h
  | i :: i1, i2, q :: w1, w2, ws, h => by
    show patch (ws.set i q) (i1 ++ i2) (w1 ++ w2) = patch (patch (ws.set i q) i1 w1) i2 w2
    exact patch_app i1 i2 w1 w2 _ (by simpa using h)
theorem cut_get : ∀ (ws : va_W) (i n j : Nat), j < n → i + j < ws.length → (cutS ws i n)[j]? = ws[i + j]?
  | [], i, n, j, _, h => by simp at h
  | x :: xs, i + 1, n, j, hj, h => by
    show (cutS xs i n)[j]? = _
    rw [cut_get xs i n j hj (by simp at h; omega), show i + 1 + j = (i + j) + 1 by omega, List.getElem?_cons_succ]
  | x :: xs, 0, 0, j, hj, _ => by omega
  | x :: xs, 0, n + 1, 0, _, _ => rfl
  | x :: xs, 0, n + 1, j + 1, hj, h => by
    show (x :: cutS xs 0 n)[j + 1]? = _
    rw [List.getElem?_cons_succ, cut_get xs 0 n j (by omega) (by simp at h; omega), show 0 + (j + 1) = (0 + j) + 1 by omega, List.getElem?_cons_succ]
theorem cut_len : ∀ (ws : va_W) (i n : Nat), (cutS ws i n).length = n → 0 < n → i + n ≤ ws.length
  | [], i, n, h, h0 => by cases i <;> cases n <;> simp [cutS] at h <;> omega
  | x :: xs, i + 1, n, h, h0 => by
    have := cut_len xs i n h h0
    simp; omega
  | x :: xs, 0, 0, _, h0 => by omega
  | x :: xs, 0, n + 1, h, _ => by
    have h : (cutS xs 0 n).length + 1 = n + 1 := h
    by_cases hn : 0 < n
    · have := cut_len xs 0 n (by omega) hn
      simp; omega
    · simp; omega
theorem segC1 {i n : Nat} (h : cutS ws i n = wc) (hn : wc.length = n) : (List.range' i n).map (fun k => ws[k]?) = wc.map some := by
  subst h
  refine List.ext_getElem? fun j => ?_
  rw [List.getElem?_map, List.getElem?_map]
  by_cases hj : j < n
  · have hl := cut_len ws i n hn (by omega)
    rw [List.getElem?_range' hj, cut_get ws i n j hj (by omega), Option.map_some, List.getElem?_eq_getElem (show i + 1 * j < ws.length by omega), List.getElem?_eq_getElem (show i + j < ws.length by omega), Option.map_some]
    simp
  · have e1 : (List.range' i n)[j]? = none := List.getElem?_eq_none (by simp; omega)
    have e2 : (cutS ws i n)[j]? = none := List.getElem?_eq_none (by omega)
    rw [e1, e2]
    rfl
theorem segP1 {i n : Nat} (h : splice ws i w1 = ws') (hn : w1.length = n) : patch ws (List.range' i n) w1 = ws' := by
  subst hn
  rw [splice_patch]; exact h
theorem segC2 {wa wb : va_W} {i n j k : Nat} (h : cutS ws i n = wa) (hn : wa.length = n) (h2 : cutS ws j k = wb) (hk : wb.length = k) : (List.range' i n ++ List.range' j k).map (fun k => ws[k]?) = (wa ++ wb).map some := by
  rw [List.map_append, List.map_append, segC1 h hn, segC1 h2 hk]
theorem segP2 {wa wb : va_W} {i n j k : Nat} (h : splice (splice ws i wa) j wb = ws') (hn : wa.length = n) (hk : wb.length = k) : patch ws (List.range' i n ++ List.range' j k) (wa ++ wb) = ws' := by
  subst hn; subst hk
  rw [patch_app _ _ _ _ _ (by simp), splice_patch, splice_patch]; exact h
theorem segC0 : ([] : List Nat).map (fun k => ws[k]?) = ([] : va_W).map some := rfl
theorem segP0 : patch ws [] [] = ws := by cases ws <;> rfl
/-- what the caller keeps around a call -/
theorem mid (hP : va_P D classes ws H) (hD : va_D A ws) (isC : List Nat) (hC : isC.map (fun i => ws[i]?) = wc.map some) (hnC : va_nd isC = true) (had : w1.map Prod.fst = wc.map Prod.fst) (hpt : patch ws isC w1 = ws')
    {H1 : Heap} (hk : ∀ q : Nat, q < H.size → ¬ va_A wc H.size q → H1[q]? = H[q]?) (hP1 : va_P D classes w1 H1) : va_P D classes ws' H1 ∧ va_D A ws' := by
  subst hpt
  have hlen : isC.length = wc.length := by have := congrArg List.length hC; simpa using this
  have hl1 : w1.length = wc.length := by have := congrArg List.length had; simpa using this
  have at' : ∀ (j : Nat) (i : Nat), isC[j]? = some i → ∃ q, wc[j]? = some q ∧ ws[i]? = some q := by
    intro j i hj
    have h1 : (isC.map (fun i => ws[i]?))[j]? = some (ws[i]?) := by rw [List.getElem?_map, hj]; rfl
    rw [hC, List.getElem?_map] at h1
    cases hw : wc[j]? with
    | none => rw [hw] at h1; cases h1
    | some q => rw [hw] at h1; exact ⟨q, rfl, (Option.some.inj h1).symm⟩
  have hb : ∀ i ∈ isC, i < ws.length := by
    intro i hi
    obtain ⟨j, hj⟩ := List.getElem?_of_mem hi
    obtain ⟨q, -, h2⟩ := at' j i hj
    exact (List.getElem?_eq_some_iff.mp h2).1
  have G := patch_get isC ws w1 hnC hb (by omega)
  have key : ∀ (k : Nat) (q : Nat × va_E), (patch ws isC w1)[k]? = some q → ∃ q0 : Nat × va_E, ws[k]? = some q0 ∧ q0.1 = q.1 ∧ ((∃ j : Nat, isC[j]? = some k ∧ w1[j]? = some q) ∨ (k ∉ isC ∧ q0 = q)) := by
    intro k q hq
    by_cases hkc : k ∈ isC
    · obtain ⟨j, hj⟩ := List.getElem?_of_mem hkc
      obtain ⟨q0, h1, h2⟩ := at' j k hj
      have h3 : w1[j]? = some q := by rw [← (G k).1 j hj]; exact hq
      have h4 : (w1.map Prod.fst)[j]? = (wc.map Prod.fst)[j]? := by rw [had]
      rw [List.getElem?_map, List.getElem?_map, h3, h1] at h4
      exact ⟨q0, h2, (Option.some.inj h4).symm, Or.inl ⟨j, hj, h3⟩⟩
    · rw [(G k).2 hkc] at hq
      exact ⟨q, hq, rfl, Or.inr ⟨hkc, rfl⟩⟩
  refine ⟨fun k q hq => ?_, fun i j x y hx hy hxy => ?_, fun k q hq => ?_⟩
  · obtain ⟨q0, h1, h2, h3⟩ := key k q hq
    rcases h3 with ⟨j, -, h4⟩ | ⟨hkc, rfl⟩
    · exact hP1 j q h4
    · have hl := (hP k q0 h1).lt
      refine (hP k q0 h1).kept (hk q0.1 hl fun h => ?_)
      rcases h with ⟨k2, e, h⟩ | h
      · have hk2 : k2 < isC.length := by rw [hlen]; exact (List.getElem?_eq_some_iff.mp h).1
        obtain ⟨i2, hi2⟩ : ∃ i2, isC[k2]? = some i2 := ⟨isC[k2], List.getElem?_eq_getElem hk2⟩
        obtain ⟨q3, h5, h6⟩ := at' k2 i2 hi2
        rw [h] at h5
        cases h5
        have := hD.1 k i2 q0 _ h1 h6 rfl
        subst this
        exact hkc (List.mem_of_getElem? hi2)
      · omega
  · obtain ⟨x0, h1, h2, -⟩ := key i x hx
    obtain ⟨y0, h3, h4, -⟩ := key j y hy
    exact hD.1 i j x0 y0 h1 h3 (h2.trans (hxy.trans h4.symm))
  · obtain ⟨q0, h1, h2, -⟩ := key k q hq
    rw [← h2]
    exact hD.2 k q0 h1
theorem cut {w2 : va_W} (hP : va_P D classes ws H) (isC : List Nat) (hC : isC.map (fun i => ws[i]?) = w2.map some) : va_P D classes w2 H := by
  intro k q hk
  have h1 : (isC.map (fun i => ws[i]?))[k]? = some (some q) := by rw [hC, List.getElem?_map, hk]; rfl
  rw [List.getElem?_map] at h1
  cases hi : isC[k]? with
  | none => rw [hi] at h1; cases h1
  | some i => rw [hi] at h1; exact hP i q (Option.some.inj h1)
theorem callVI {own C : String} {idx n k nL ci q0 : Nat} {y : MethodName} {b : ByteArray} {rt : FieldType} {rm : Room} {a : Addr} {r : Int32} {T : u_T} {N : Nat} {fs : List Value} (hx : p.tables.exec = Jvm.exec) (hb : c.code = cc) (hml : c.maxLocals = nL) (hown : s.vm.findClass own = some m.cls) (hg : ∀ w ∈ GW, w.before args s = true)
    (hK : va_K D classes (TY g) s) (hP : va_P D classes ws H) (hD : va_D A ws) (hS : va_S A s.heap H locs) (hA : ∀ q, s.heap.size ≤ q → A q) (hCs : Cst g A s s.heap) (hlz : ls.size = nL) (hM : MI l y b n rt rm D g (.ref a :: As) wc r w1) (ok : OkV y C b n (some rt) k) (kl : Cond.methodLink own idx y ∈ GW)
    (hc : classes[ci]? = some (C, T, N)) (he : ws[q0]? = some (a, .inr (ci, fs))) (isC : List Nat) (hC : isC.map (fun i => ws[i]?) = wc.map some) (hnC : va_nd isC = true) (had : w1.map Prod.fst = wc.map Prod.fst) (hpt : patch ws isC w1 = ws')
    (hn : As.length = k) (hst : st = As.reverse ++ .ref a :: rest) (hW : (rest.map fun v => v.category).sum ≤ 8) (hR' : rm.cells = 0 ∧ rm.slots = 0 ∧ rm.frames + 1 ≤ R.frames ∧ 8 + (n + 11) + rm.locals ≤ R.locals) (hdg : decode cc pc = .ok (.invokevirtual idx, 3))
    (kk : ∀ (H1 : Heap) (locs1 : List Loc), va_P D classes ws' H1 → va_D A ws' → va_S A s.heap H1 locs1 → W p l e R s m args below meth c H1 locs1 0 0 Q (F0 m (pc + 3) ls (.int r :: rest))) : W p l e R s m args below meth c H locs 0 0 Q (F0 m pc ls st) := by
  have hPc := cut hP isC hC
  have hDc := hD.sub isC hnC hC
  have hFc := va_free (wc := wc) hD hS hA isC hC
  refine va_calli (va_runV (As := As) (rest := rest) ⟨hx, hb, hml, hown, hg⟩ (hM H.size) (cwV (Ts := GW) k hg (goodV ok kl) rfl hR'.1 hR'.2.1 ok.1 ⟨hR'.2.2.1, hR'.2.2.2⟩) ⟨fbW D g _ wc H.size, va_recv hK hP hc he, fun U hU hW => ⟨rfl, by rw [hU], by rw [hU]; exact hPc, va_K.moved hW.alike hK, hDc.weaken (fun _ _ _ _ => trivial), hCs.step hS hW hU hFc⟩⟩ rfl hn hlz hst (lv_room hW) hdg ⟨Nat.zero_le _, Nat.zero_le _⟩) hS (fun q _ h => hFc q h) hFc (fun r1 u t H1 locs ht hvm hw hB hz1 hk1 hS => ?_)
  obtain ⟨hP1, hK1, hD1⟩ := hB
  rw [ht] at hP1
  obtain ⟨hP, hD⟩ := mid hP hD isC hC hnC had hpt hk1 hP1
  have hw : r1 = r := hw
  rw [hw]
  exact kk H1 locs hP hD hS
theorem callVL {own C : String} {idx n k nL ci q0 : Nat} {y : MethodName} {b : ByteArray} {rm : Room} {a : Addr} {r : Int64} {T : u_T} {N : Nat} {fs : List Value} (hx : p.tables.exec = Jvm.exec) (hb : c.code = cc) (hml : c.maxLocals = nL) (hown : s.vm.findClass own = some m.cls) (hg : ∀ w ∈ GW, w.before args s = true)
    (hK : va_K D classes (TY g) s) (hP : va_P D classes ws H) (hD : va_D A ws) (hS : va_S A s.heap H locs) (hA : ∀ q, s.heap.size ≤ q → A q) (hCs : Cst g A s s.heap) (hlz : ls.size = nL) (hM : ML l y b n rm D g (.ref a :: As) wc r w1) (ok : OkV y C b n (some .long) k) (kl : Cond.methodLink own idx y ∈ GW)
    (hc : classes[ci]? = some (C, T, N)) (he : ws[q0]? = some (a, .inr (ci, fs))) (isC : List Nat) (hC : isC.map (fun i => ws[i]?) = wc.map some) (hnC : va_nd isC = true) (had : w1.map Prod.fst = wc.map Prod.fst) (hpt : patch ws isC w1 = ws')
    (hn : As.length = k) (hst : st = As.reverse ++ .ref a :: rest) (hW : (rest.map fun v => v.category).sum ≤ 8) (hR' : rm.cells = 0 ∧ rm.slots = 0 ∧ rm.frames + 1 ≤ R.frames ∧ 8 + (n + 11) + rm.locals ≤ R.locals) (hdg : decode cc pc = .ok (.invokevirtual idx, 3))
    (kk : ∀ (H1 : Heap) (locs1 : List Loc), va_P D classes ws' H1 → va_D A ws' → va_S A s.heap H1 locs1 → W p l e R s m args below meth c H1 locs1 0 0 Q (F0 m (pc + 3) ls (.long r :: rest))) : W p l e R s m args below meth c H locs 0 0 Q (F0 m pc ls st) := by
  have hPc := cut hP isC hC
  have hDc := hD.sub isC hnC hC
  have hFc := va_free (wc := wc) hD hS hA isC hC
  refine va_calll (va_runV (As := As) (rest := rest) ⟨hx, hb, hml, hown, hg⟩ (hM H.size) (cwV (Ts := GW) k hg (goodV ok kl) rfl hR'.1 hR'.2.1 ok.1 ⟨hR'.2.2.1, hR'.2.2.2⟩) ⟨fbW D g _ wc H.size, va_recv hK hP hc he, fun U hU hW => ⟨rfl, by rw [hU], by rw [hU]; exact hPc, va_K.moved hW.alike hK, hDc.weaken (fun _ _ _ _ => trivial), hCs.step hS hW hU hFc⟩⟩ rfl hn hlz hst (lv_room hW) hdg ⟨Nat.zero_le _, Nat.zero_le _⟩) hS (fun q _ h => hFc q h) hFc (fun r1 u t H1 locs ht hvm hw hB hz1 hk1 hS => ?_)
  obtain ⟨hP1, hK1, hD1⟩ := hB
  rw [ht] at hP1
  obtain ⟨hP, hD⟩ := mid hP hD isC hC hnC had hpt hk1 hP1
  have hw : r1 = r := hw
  rw [hw]
  exact kk H1 locs hP hD hS
theorem callVV {own C : String} {idx n k nL ci q0 : Nat} {y : MethodName} {b : ByteArray} {rm : Room} {a : Addr} {T : u_T} {N : Nat} {fs : List Value} (hx : p.tables.exec = Jvm.exec) (hb : c.code = cc) (hml : c.maxLocals = nL) (hown : s.vm.findClass own = some m.cls) (hg : ∀ w ∈ GW, w.before args s = true)
    (hK : va_K D classes (TY g) s) (hP : va_P D classes ws H) (hD : va_D A ws) (hS : va_S A s.heap H locs) (hA : ∀ q, s.heap.size ≤ q → A q) (hCs : Cst g A s s.heap) (hlz : ls.size = nL) (hM : MV l y b n rm D g (.ref a :: As) wc w1) (ok : OkV y C b n none k) (kl : Cond.methodLink own idx y ∈ GW)
    (hc : classes[ci]? = some (C, T, N)) (he : ws[q0]? = some (a, .inr (ci, fs))) (isC : List Nat) (hC : isC.map (fun i => ws[i]?) = wc.map some) (hnC : va_nd isC = true) (had : w1.map Prod.fst = wc.map Prod.fst) (hpt : patch ws isC w1 = ws')
    (hn : As.length = k) (hst : st = As.reverse ++ .ref a :: rest) (hW : (rest.map fun v => v.category).sum ≤ 8) (hR' : rm.cells = 0 ∧ rm.slots = 0 ∧ rm.frames + 1 ≤ R.frames ∧ 8 + (n + 11) + rm.locals ≤ R.locals) (hdg : decode cc pc = .ok (.invokevirtual idx, 3))
    (kk : ∀ (H1 : Heap) (locs1 : List Loc), va_P D classes ws' H1 → va_D A ws' → va_S A s.heap H1 locs1 → W p l e R s m args below meth c H1 locs1 0 0 Q (F0 m (pc + 3) ls rest)) : W p l e R s m args below meth c H locs 0 0 Q (F0 m pc ls st) := by
  have hPc := cut hP isC hC
  have hDc := hD.sub isC hnC hC
  have hFc := va_free (wc := wc) hD hS hA isC hC
  refine va_callv (va_runV (As := As) (rest := rest) ⟨hx, hb, hml, hown, hg⟩ (hM H.size) (cwV (Ts := GW) k hg (goodV ok kl) rfl hR'.1 hR'.2.1 ok.1 ⟨hR'.2.2.1, hR'.2.2.2⟩) ⟨fbW D g _ wc H.size, va_recv hK hP hc he, fun U hU hW => ⟨rfl, by rw [hU], by rw [hU]; exact hPc, va_K.moved hW.alike hK, hDc.weaken (fun _ _ _ _ => trivial), hCs.step hS hW hU hFc⟩⟩ rfl hn hlz hst (lv_room hW) hdg ⟨Nat.zero_le _, Nat.zero_le _⟩) hS (fun q _ h => hFc q h) hFc (fun u t H1 locs ht hvm hw hB hz1 hk1 hS => ?_)
  obtain ⟨hP1, hK1, hD1⟩ := hB
  rw [ht] at hP1
  obtain ⟨hP, hD⟩ := mid hP hD isC hC hnC had hpt hk1 hP1
  exact kk H1 locs hP hD hS
/-- a static method, called within its class or from another -/
theorem callSI {own : String} {idx n k nL : Nat} {y : MethodName} {b : ByteArray} {rt : FieldType} {rm : Room} {r : Int32} (hx : p.tables.exec = Jvm.exec) (hb : c.code = cc) (hml : c.maxLocals = nL) (hown : s.vm.findClass own = some m.cls) (hg : ∀ w ∈ GW, w.before args s = true)
    (hK : va_K D classes (TY g) s) (hP : va_P D classes ws H) (hD : va_D A ws) (hS : va_S A s.heap H locs) (hA : ∀ q, s.heap.size ≤ q → A q) (hCs : Cst g A s s.heap) (hlz : ls.size = nL) (hM : MI l y b n rt rm D g As wc r w1) (ok : OkS y b n (some rt) k) (kl : Cond.methodLink own idx y ∈ GW)
    (isC : List Nat) (hC : isC.map (fun i => ws[i]?) = wc.map some) (hnC : va_nd isC = true) (had : w1.map Prod.fst = wc.map Prod.fst) (hpt : patch ws isC w1 = ws')
    (hn : As.length = k) (hst : st = As.reverse ++ rest) (hW : (rest.map fun v => v.category).sum ≤ 8) (hR' : rm.cells = 0 ∧ rm.slots = 0 ∧ rm.frames + 1 ≤ R.frames ∧ 8 + (n + 11) + rm.locals ≤ R.locals) (hdg : decode cc pc = .ok (.invokestatic idx, 3))
    (kk : ∀ (H1 : Heap) (locs1 : List Loc), va_P D classes ws' H1 → va_D A ws' → va_S A s.heap H1 locs1 → W p l e R s m args below meth c H1 locs1 0 0 Q (F0 m (pc + 3) ls (.int r :: rest))) : W p l e R s m args below meth c H locs 0 0 Q (F0 m pc ls st) := by
  have hPc := cut hP isC hC
  have hDc := hD.sub isC hnC hC
  have hFc := va_free (wc := wc) hD hS hA isC hC
  refine va_calli (va_runS (As := As) (rest := rest) ⟨hx, hb, hml, hown, hg⟩ (hM H.size) ⟨callB_of (Ts := GW) k hg (gw_cons ok.2.2.2) rfl hR'.1 hR'.2.1 (hg _ ok.2.2.1) (hg _ kl) ok.1 ⟨hR'.2.2.1, hR'.2.2.2⟩, hg _ ok.2.1⟩ ⟨fbW D g _ wc H.size, fun U hU hW => ⟨rfl, by rw [hU], by rw [hU]; exact hPc, va_K.moved hW.alike hK, hDc.weaken (fun _ _ _ _ => trivial), hCs.step hS hW hU hFc⟩⟩ rfl hn hlz hst (lv_room hW) hdg ⟨Nat.zero_le _, Nat.zero_le _⟩) hS (fun q _ h => hFc q h) hFc (fun r1 u t H1 locs ht hvm hw hB hz1 hk1 hS => ?_)
  obtain ⟨hP1, hK1, hD1⟩ := hB
  rw [ht] at hP1
  obtain ⟨hP, hD⟩ := mid hP hD isC hC hnC had hpt hk1 hP1
  have hw : r1 = r := hw
  rw [hw]
  exact kk H1 locs hP hD hS
theorem callSL {own : String} {idx n k nL : Nat} {y : MethodName} {b : ByteArray} {rm : Room} {r : Int64} (hx : p.tables.exec = Jvm.exec) (hb : c.code = cc) (hml : c.maxLocals = nL) (hown : s.vm.findClass own = some m.cls) (hg : ∀ w ∈ GW, w.before args s = true)
    (hK : va_K D classes (TY g) s) (hP : va_P D classes ws H) (hD : va_D A ws) (hS : va_S A s.heap H locs) (hA : ∀ q, s.heap.size ≤ q → A q) (hCs : Cst g A s s.heap) (hlz : ls.size = nL) (hM : ML l y b n rm D g As wc r w1) (ok : OkS y b n (some .long) k) (kl : Cond.methodLink own idx y ∈ GW)
    (isC : List Nat) (hC : isC.map (fun i => ws[i]?) = wc.map some) (hnC : va_nd isC = true) (had : w1.map Prod.fst = wc.map Prod.fst) (hpt : patch ws isC w1 = ws')
    (hn : As.length = k) (hst : st = As.reverse ++ rest) (hW : (rest.map fun v => v.category).sum ≤ 8) (hR' : rm.cells = 0 ∧ rm.slots = 0 ∧ rm.frames + 1 ≤ R.frames ∧ 8 + (n + 11) + rm.locals ≤ R.locals) (hdg : decode cc pc = .ok (.invokestatic idx, 3))
    (kk : ∀ (H1 : Heap) (locs1 : List Loc), va_P D classes ws' H1 → va_D A ws' → va_S A s.heap H1 locs1 → W p l e R s m args below meth c H1 locs1 0 0 Q (F0 m (pc + 3) ls (.long r :: rest))) : W p l e R s m args below meth c H locs 0 0 Q (F0 m pc ls st) := by
  have hPc := cut hP isC hC
  have hDc := hD.sub isC hnC hC
  have hFc := va_free (wc := wc) hD hS hA isC hC
  refine va_calll (va_runS (As := As) (rest := rest) ⟨hx, hb, hml, hown, hg⟩ (hM H.size) ⟨callB_of (Ts := GW) k hg (gw_cons ok.2.2.2) rfl hR'.1 hR'.2.1 (hg _ ok.2.2.1) (hg _ kl) ok.1 ⟨hR'.2.2.1, hR'.2.2.2⟩, hg _ ok.2.1⟩ ⟨fbW D g _ wc H.size, fun U hU hW => ⟨rfl, by rw [hU], by rw [hU]; exact hPc, va_K.moved hW.alike hK, hDc.weaken (fun _ _ _ _ => trivial), hCs.step hS hW hU hFc⟩⟩ rfl hn hlz hst (lv_room hW) hdg ⟨Nat.zero_le _, Nat.zero_le _⟩) hS (fun q _ h => hFc q h) hFc (fun r1 u t H1 locs ht hvm hw hB hz1 hk1 hS => ?_)
  obtain ⟨hP1, hK1, hD1⟩ := hB
  rw [ht] at hP1
  obtain ⟨hP, hD⟩ := mid hP hD isC hC hnC had hpt hk1 hP1
  have hw : r1 = r := hw
  rw [hw]
  exact kk H1 locs hP hD hS
/-- a private method of a nest mate -/
theorem callNI {own C : String} {idx n k nL ci q0 : Nat} {y : MethodName} {b : ByteArray} {rt : FieldType} {rm : Room} {a : Addr} {r : Int32} {T : u_T} {N : Nat} {fs : List Value} (hx : p.tables.exec = Jvm.exec) (hb : c.code = cc) (hml : c.maxLocals = nL) (hown : s.vm.findClass own = some m.cls) (hg : ∀ w ∈ GW, w.before args s = true)
    (hK : va_K D classes (TY g) s) (hP : va_P D classes ws H) (hD : va_D A ws) (hS : va_S A s.heap H locs) (hA : ∀ q, s.heap.size ≤ q → A q) (hCs : Cst g A s s.heap) (hlz : ls.size = nL) (hM : MI l y b n rt rm D g (.ref a :: As) wc r w1) (ok : OkV y C b n (some rt) k) (kl : va_Nw (.methodLinkNest own idx y "OwnsLift") s)
    (hc : classes[ci]? = some (C, T, N)) (he : ws[q0]? = some (a, .inr (ci, fs))) (isC : List Nat) (hC : isC.map (fun i => ws[i]?) = wc.map some) (hnC : va_nd isC = true) (had : w1.map Prod.fst = wc.map Prod.fst) (hpt : patch ws isC w1 = ws')
    (hn : As.length = k) (hst : st = As.reverse ++ .ref a :: rest) (hW : (rest.map fun v => v.category).sum ≤ 8) (hR' : rm.cells = 0 ∧ rm.slots = 0 ∧ rm.frames + 1 ≤ R.frames ∧ 8 + (n + 11) + rm.locals ≤ R.locals) (hdg : decode cc pc = .ok (.invokevirtual idx, 3))
    (kk : ∀ (H1 : Heap) (locs1 : List Loc), va_P D classes ws' H1 → va_D A ws' → va_S A s.heap H1 locs1 → W p l e R s m args below meth c H1 locs1 0 0 Q (F0 m (pc + 3) ls (.int r :: rest))) : W p l e R s m args below meth c H locs 0 0 Q (F0 m pc ls st) := by
  have hPc := cut hP isC hC
  have hDc := hD.sub isC hnC hC
  have hFc := va_free (wc := wc) hD hS hA isC hC
  refine va_calli (va_runVN (As := As) (rest := rest) ⟨hx, hb, hml, hown, hg⟩ (hM H.size) ⟨va_cnB (Ts := GW) k hg (gw_cons ok.2.2.2.2) rfl hR'.1 hR'.2.1 kl (by have h9 := hg _ ok.2.2.2.1; rw [ok.1.1]; exact h9) ok.1.2 ⟨hR'.2.2.1, hR'.2.2.2⟩, hg _ ok.2.1, hg _ ok.2.2.1⟩ ⟨fbW D g _ wc H.size, va_recv hK hP hc he, fun U hU hW => ⟨rfl, by rw [hU], by rw [hU]; exact hPc, va_K.moved hW.alike hK, hDc.weaken (fun _ _ _ _ => trivial), hCs.step hS hW hU hFc⟩⟩ rfl hn hlz hst (lv_room hW) hdg ⟨Nat.zero_le _, Nat.zero_le _⟩) hS (fun q _ h => hFc q h) hFc (fun r1 u t H1 locs ht hvm hw hB hz1 hk1 hS => ?_)
  obtain ⟨hP1, hK1, hD1⟩ := hB
  rw [ht] at hP1
  obtain ⟨hP, hD⟩ := mid hP hD isC hC hnC had hpt hk1 hP1
  have hw : r1 = r := hw
  rw [hw]
  exact kk H1 locs hP hD hS
/-- a method called on one of the texts -/
theorem callTI {own C : String} {idx n k nL : Nat} {y : MethodName} {b : ByteArray} {rt : FieldType} {rm : Room} {a : Addr} {r : Int32} (hx : p.tables.exec = Jvm.exec) (hb : c.code = cc) (hml : c.maxLocals = nL) (hown : s.vm.findClass own = some m.cls) (hg : ∀ w ∈ GW, w.before args s = true)
    (hK : va_K D classes (TY g) s) (hP : va_P D classes ws H) (hD : va_D A ws) (hS : va_S A s.heap H locs) (hA : ∀ q, s.heap.size ≤ q → A q) (hCs : Cst g A s s.heap) (hlz : ls.size = nL) (hM : MI l y b n rt rm D g (.ref a :: As) wc r w1) (ok : OkV y C b n (some rt) k) (kl : Cond.methodLink own idx y ∈ GW)
    (hrc : ∃ cell : Cell, H[a]? = some cell ∧ cell.vm.isStatics = false ∧ s.vm.findClass C = some cell.cls) (isC : List Nat) (hC : isC.map (fun i => ws[i]?) = wc.map some) (hnC : va_nd isC = true) (had : w1.map Prod.fst = wc.map Prod.fst) (hpt : patch ws isC w1 = ws')
    (hn : As.length = k) (hst : st = As.reverse ++ .ref a :: rest) (hW : (rest.map fun v => v.category).sum ≤ 8) (hR' : rm.cells = 0 ∧ rm.slots = 0 ∧ rm.frames + 1 ≤ R.frames ∧ 8 + (n + 11) + rm.locals ≤ R.locals) (hdg : decode cc pc = .ok (.invokevirtual idx, 3))
    (kk : ∀ (H1 : Heap) (locs1 : List Loc), va_P D classes ws' H1 → va_D A ws' → va_S A s.heap H1 locs1 → W p l e R s m args below meth c H1 locs1 0 0 Q (F0 m (pc + 3) ls (.int r :: rest))) : W p l e R s m args below meth c H locs 0 0 Q (F0 m pc ls st) := by
  have hPc := cut hP isC hC
  have hDc := hD.sub isC hnC hC
  have hFc := va_free (wc := wc) hD hS hA isC hC
  refine va_calli (va_runV (As := As) (rest := rest) ⟨hx, hb, hml, hown, hg⟩ (hM H.size) (cwV (Ts := GW) k hg (goodV ok kl) rfl hR'.1 hR'.2.1 ok.1 ⟨hR'.2.2.1, hR'.2.2.2⟩) ⟨fbW D g _ wc H.size, hrc, fun U hU hW => ⟨rfl, by rw [hU], by rw [hU]; exact hPc, va_K.moved hW.alike hK, hDc.weaken (fun _ _ _ _ => trivial), hCs.step hS hW hU hFc⟩⟩ rfl hn hlz hst (lv_room hW) hdg ⟨Nat.zero_le _, Nat.zero_le _⟩) hS (fun q _ h => hFc q h) hFc (fun r1 u t H1 locs ht hvm hw hB hz1 hk1 hS => ?_)
  obtain ⟨hP1, hK1, hD1⟩ := hB
  rw [ht] at hP1
  obtain ⟨hP, hD⟩ := mid hP hD isC hC hnC had hpt hk1 hP1
  have hw : r1 = r := hw
  rw [hw]
  exact kk H1 locs hP hD hS
theorem callSV {own : String} {idx n k nL : Nat} {y : MethodName} {b : ByteArray} {rm : Room} (hx : p.tables.exec = Jvm.exec) (hb : c.code = cc) (hml : c.maxLocals = nL) (hown : s.vm.findClass own = some m.cls) (hg : ∀ w ∈ GW, w.before args s = true)
    (hK : va_K D classes (TY g) s) (hP : va_P D classes ws H) (hD : va_D A ws) (hS : va_S A s.heap H locs) (hA : ∀ q, s.heap.size ≤ q → A q) (hCs : Cst g A s s.heap) (hlz : ls.size = nL) (hM : MV l y b n rm D g As wc w1) (ok : OkS y b n none k) (kl : Cond.methodLink own idx y ∈ GW)
    (isC : List Nat) (hC : isC.map (fun i => ws[i]?) = wc.map some) (hnC : va_nd isC = true) (had : w1.map Prod.fst = wc.map Prod.fst) (hpt : patch ws isC w1 = ws')
    (hn : As.length = k) (hst : st = As.reverse ++ rest) (hW : (rest.map fun v => v.category).sum ≤ 8) (hR' : rm.cells = 0 ∧ rm.slots = 0 ∧ rm.frames + 1 ≤ R.frames ∧ 8 + (n + 11) + rm.locals ≤ R.locals) (hdg : decode cc pc = .ok (.invokestatic idx, 3))
    (kk : ∀ (H1 : Heap) (locs1 : List Loc), va_P D classes ws' H1 → va_D A ws' → va_S A s.heap H1 locs1 → W p l e R s m args below meth c H1 locs1 0 0 Q (F0 m (pc + 3) ls rest)) : W p l e R s m args below meth c H locs 0 0 Q (F0 m pc ls st) := by
  have hPc := cut hP isC hC
  have hDc := hD.sub isC hnC hC
  have hFc := va_free (wc := wc) hD hS hA isC hC
  refine va_callv (va_runS (As := As) (rest := rest) ⟨hx, hb, hml, hown, hg⟩ (hM H.size) ⟨callB_of (Ts := GW) k hg (gw_cons ok.2.2.2) rfl hR'.1 hR'.2.1 (hg _ ok.2.2.1) (hg _ kl) ok.1 ⟨hR'.2.2.1, hR'.2.2.2⟩, hg _ ok.2.1⟩ ⟨fbW D g _ wc H.size, fun U hU hW => ⟨rfl, by rw [hU], by rw [hU]; exact hPc, va_K.moved hW.alike hK, hDc.weaken (fun _ _ _ _ => trivial), hCs.step hS hW hU hFc⟩⟩ rfl hn hlz hst (lv_room hW) hdg ⟨Nat.zero_le _, Nat.zero_le _⟩) hS (fun q _ h => hFc q h) hFc (fun u t H1 locs ht hvm hw hB hz1 hk1 hS => ?_)
  obtain ⟨hP1, hK1, hD1⟩ := hB
  rw [ht] at hP1
  obtain ⟨hP, hD⟩ := mid hP hD isC hC hnC had hpt hk1 hP1
  exact kk H1 locs hP hD hS
theorem callSS {own : String} {idx n k nL : Nat} {y : MethodName} {b : ByteArray} {rm : Room} {r : Nat} (hx : p.tables.exec = Jvm.exec) (hb : c.code = cc) (hml : c.maxLocals = nL) (hown : s.vm.findClass own = some m.cls) (hg : ∀ w ∈ GW, w.before args s = true)
    (hK : va_K D classes (TY g) s) (hP : va_P D classes ws H) (hD : va_D A ws) (hS : va_S A s.heap H locs) (hA : ∀ q, s.heap.size ≤ q → A q) (hCs : Cst g A s s.heap) (hlz : ls.size = nL) (hM : MS l y b n rm D g As wc r w1) (ok : OkS y b n (some (.object "java/lang/String")) k) (kl : Cond.methodLink own idx y ∈ GW)
    (isC : List Nat) (hC : isC.map (fun i => ws[i]?) = wc.map some) (hnC : va_nd isC = true) (had : w1.map Prod.fst = wc.map Prod.fst) (hpt : patch ws isC w1 = ws')
    (hn : As.length = k) (hst : st = As.reverse ++ rest) (hW : (rest.map fun v => v.category).sum ≤ 8) (hR' : rm.cells = 0 ∧ rm.slots = 0 ∧ rm.frames + 1 ≤ R.frames ∧ 8 + (n + 11) + rm.locals ≤ R.locals) (hdg : decode cc pc = .ok (.invokestatic idx, 3))
    (kk : ∀ (H1 : Heap) (locs1 : List Loc), va_P D classes ws' H1 → va_D A ws' → va_S A s.heap H1 locs1 → W p l e R s m args below meth c H1 locs1 0 0 Q (F0 m (pc + 3) ls (.ref (g (10 + r)) :: rest))) : W p l e R s m args below meth c H locs 0 0 Q (F0 m pc ls st) := by
  have hPc := cut hP isC hC
  have hDc := hD.sub isC hnC hC
  have hFc := va_free (wc := wc) hD hS hA isC hC
  refine va_callr (va_runS (As := As) (rest := rest) ⟨hx, hb, hml, hown, hg⟩ (hM H.size) ⟨callB_of (Ts := GW) k hg (gw_cons ok.2.2.2) rfl hR'.1 hR'.2.1 (hg _ ok.2.2.1) (hg _ kl) ok.1 ⟨hR'.2.2.1, hR'.2.2.2⟩, hg _ ok.2.1⟩ ⟨fbW D g _ wc H.size, fun U hU hW => ⟨rfl, by rw [hU], by rw [hU]; exact hPc, va_K.moved hW.alike hK, hDc.weaken (fun _ _ _ _ => trivial), hCs.step hS hW hU hFc⟩⟩ rfl hn hlz hst (lv_room hW) hdg ⟨Nat.zero_le _, Nat.zero_le _⟩) hS (fun q _ h => hFc q h) hFc (fun u r1 t H1 locs ht hvm hw hB hz1 hk1 hS => ?_)
  obtain ⟨hw9, hP1, hK1, hD1⟩ := hB
  rw [ht] at hP1
  obtain ⟨hP, hD⟩ := mid hP hD isC hC hnC had hpt hk1 hP1
  rw [hw9]
  exact kk H1 locs hP hD hS
theorem aldA (hx : p.tables.exec = Jvm.exec) (hb : c.code = cc) (hK : va_K D classes (TY g) s) (hP : va_P D classes ws H) (q0 : Nat) {a : Addr} {n : Nat} {f : Nat → Nat} (ha : ws[q0]? = some (a, .inl (g 2, n, .inr (.inr (.inr (.inr (fun j => some (f j)))))))) {i : Int32} (hin : vp_in i n) (hdg : decode cc pc = .ok (.aaload, 1))
    (kk : W p l e R s m args below meth c H locs 0 0 Q (F0 m (pc + 1) ls (.ref (f i.toNatClampNeg) :: rest))) : W p l e R s m args below meth c H locs 0 0 Q (F0 m pc ls (.int i :: .ref a :: rest)) := by
  have hlt : i.toNatClampNeg < n := Nat.not_le.mp fun q => hin (Or.inr q)
  exact W.aald (v := va_rf (some (f i.toNatClampNeg))) (ty := .array .int) hx hb (hP q0 _ ha) ((hK.2 2 _ rfl).1 n (fun j => va_rf (some (f j)))) rfl (fun q => by cases q) (by show ¬ (i < 0 ∨ (arrV _ _ _).slots.size ≤ _); rw [arrV_size]; exact hin) (by show (arrV _ _ _).slots[_]? = _; rw [arrV_read _ _ hlt]) rfl rfl hdg kk
end FR
/-- is an index in an array of n places -/
def inb (i : Int32) (n : Nat) : Bool := !(decide (i < 0) || decide (n ≤ i.toNatClampNeg))
theorem inb_t {i : Int32} {n : Nat} (h : inb i n = true) : vp_in i n := by
  intro q
  rcases q with q | q <;> simp [inb, q] at h
theorem ite_s {α : Type} {c : Prop} [Decidable c] {a : Option α} {r : α} (h : (if c then a else none) = some r) : c ∧ a = some r := by
  by_cases hc : c
  · rw [if_pos hc] at h; exact ⟨hc, h⟩
  · rw [if_neg hc] at h; cases h
theorem ite_n {α : Type} {c : Prop} [Decidable c] {a : Option α} {r : α} (h : (if c then none else a) = some r) : ¬ c ∧ a = some r := by
  by_cases hc : c
  · rw [if_pos hc] at h; cases h
  · rw [if_neg hc] at h; exact ⟨hc, h⟩
theorem ite_t {α : Type} {c : Prop} [Decidable c] {a b r : α} (h : (if c then a else b) = r) (hc : c) : a = r := by rw [if_pos hc] at h; exact h
theorem ite_f {α : Type} {c : Prop} [Decidable c] {a b r : α} (h : (if c then a else b) = r) (hc : ¬ c) : b = r := by rw [if_neg hc] at h; exact h
theorem bind_s {α β : Type} {o : Option α} {f : α → Option β} {r : β} (h : o.bind f = some r) : ∃ q, o = some q ∧ f q = some r := by
  cases o with
  | none => cases h
  | some q => exact ⟨q, rfl, h⟩

/-! More rows of one form: array places by number, copies, switches, and the goals of a method's body. -/
abbrev GI (p : Program) (l : Launch) (e : Env) (s : State) (m : MethodId) (R : Room) (args : Array Value) (below : List Frame) (meth : Method) (c : Code) (A : Nat → Prop) (D : va_G) (g : Nat → ClassId) (ws' : va_W) (r : Int32) (H : Heap) (locs : List Loc) (fr : JFrame) : Prop :=
  W p l e R s m args below meth c H locs 0 0 (MQ below (va_Qi (fun (r' : Int32) (_ : Unit) => r' = r) (PstW D g ws' A) A) args s 0 0 A) fr
abbrev GL (p : Program) (l : Launch) (e : Env) (s : State) (m : MethodId) (R : Room) (args : Array Value) (below : List Frame) (meth : Method) (c : Code) (A : Nat → Prop) (D : va_G) (g : Nat → ClassId) (ws' : va_W) (r : Int64) (H : Heap) (locs : List Loc) (fr : JFrame) : Prop :=
  W p l e R s m args below meth c H locs 0 0 (MQ below (va_Ql (fun (r' : Int64) (_ : Unit) => r' = r) (PstW D g ws' A) A) args s 0 0 A) fr
abbrev GV (p : Program) (l : Launch) (e : Env) (s : State) (m : MethodId) (R : Room) (args : Array Value) (below : List Frame) (meth : Method) (c : Code) (A : Nat → Prop) (D : va_G) (g : Nat → ClassId) (ws' : va_W) (H : Heap) (locs : List Loc) (fr : JFrame) : Prop :=
  W p l e R s m args below meth c H locs 0 0 (MQ below (va_Qv (fun (_ : Unit) => True) (PstW D g ws' A) A) args s 0 0 A) fr
abbrev GS (p : Program) (l : Launch) (e : Env) (s : State) (m : MethodId) (R : Room) (args : Array Value) (below : List Frame) (meth : Method) (c : Code) (A : Nat → Prop) (D : va_G) (g : Nat → ClassId) (ws' : va_W) (r : Nat) (H : Heap) (locs : List Loc) (fr : JFrame) : Prop :=
  W p l e R s m args below meth c H locs 0 0 (MQ below (va_Qr (fun (_ : Unit) => True) (fun u q t => q = g (10 + r) ∧ PstW D g ws' A u t) A) args s 0 0 A) fr
def recN {α : Type} (z : α) (f : α → α) : Nat → α
  | 0 => z
  | n + 1 => f (recN z f n)
def upd2 (M : Nat → Nat → Int32) (k j : Nat) (x : Int32) : Nat → Nat → Int32 := fun i => if i = k then upd (M k) j x else M i
def updR (M : Nat → Nat → Int32) (k : Nat) (f : Nat → Int32) : Nat → Nat → Int32 := fun i => if i = k then f else M i
theorem vp_lt {i : Int32} {n : Nat} (h : vp_in i n) : i.toNatClampNeg < n := Nat.not_le.mp fun q => h (Or.inr q)
theorem tab_out {x : Int32} (lo hi : Int) (h : ∀ k : Int, lo ≤ k → k ≤ hi → x.toInt ≠ k) : x.toInt < lo ∨ hi < x.toInt := by
  by_cases h1 : x.toInt < lo
  · exact Or.inl h1
  · by_cases h2 : hi < x.toInt
    · exact Or.inr h2
    · exact absurd rfl (h x.toInt (by omega) (by omega))
theorem k_max_s : Cond.static Lib.Math.max.name ∈ GW := g_508
theorem k_max_c : Cond.code Lib.Math.max.name Lib.Math.max.code 2 (some .int) ∈ GW := g_509
theorem k_min_s : Cond.static Lib.Math.min.name ∈ GW := g_560
theorem k_min_c : Cond.code Lib.Math.min.name Lib.Math.min.code 2 (some .int) ∈ GW := g_561
theorem k_math_i : Cond.initialized "java/lang/Math" ∈ GW := g_87
section KR
variable {p : Program} {l : Launch} {e : Env} {R : Room} {s : State} {m : MethodId} {args : Array Value} {below : List Frame} {meth : Method} {c : Code} {H : Heap} {locs : List Loc} {Q : State → Prop}
variable {cc : ByteArray} {pc : Nat} {ls : Array Slot} {rest : List Value} {D : va_G} {g : Nat → ClassId} {A : Nat → Prop} {ws : va_W}
theorem ialdK (hx : p.tables.exec = Jvm.exec) (hb : c.code = cc) (hK : va_K D classes (TY g) s) (hP : va_P D classes ws H) (q0 t0 : Nat) {a : Addr} {cA : ClassId} {n : Nat} {f : Nat → Int32} (ha : ws[q0]? = some (a, .inl (cA, n, .inl f))) (ht : (TY g)[t0]? = some (cA, .int)) {i : Int32} {k : Nat} (hin : vp_in i n) (hk : i.toNatClampNeg = k) (hdg : decode cc pc = .ok (.iaload, 1))
    (kk : W p l e R s m args below meth c H locs 0 0 Q (F0 m (pc + 1) ls (.int (f k) :: rest))) : W p l e R s m args below meth c H locs 0 0 Q (F0 m pc ls (.int i :: .ref a :: rest)) := by
  subst hk
  exact va_iald hx hb hK hP q0 t0 ha ht hin hdg kk
theorem zaldK (hx : p.tables.exec = Jvm.exec) (hb : c.code = cc) (hK : va_K D classes (TY g) s) (hP : va_P D classes ws H) (q0 t0 : Nat) {a : Addr} {cA : ClassId} {n : Nat} {f : Nat → Int32} (ha : ws[q0]? = some (a, .inl (cA, n, .inl f))) (ht : (TY g)[t0]? = some (cA, .boolean)) {i : Int32} {k : Nat} (hin : vp_in i n) (hk : i.toNatClampNeg = k) (hdg : decode cc pc = .ok (.baload, 1))
    (kk : W p l e R s m args below meth c H locs 0 0 Q (F0 m (pc + 1) ls (.int (f k) :: rest))) : W p l e R s m args below meth c H locs 0 0 Q (F0 m pc ls (.int i :: .ref a :: rest)) := by
  subst hk
  exact va_zald hx hb hK hP q0 t0 ha ht hin hdg kk
theorem iastK (hx : p.tables.exec = Jvm.exec) (hb : c.code = cc) (hK : va_K D classes (TY g) s) (hP : va_P D classes ws H) (hD : va_D A ws) (hS : va_S A s.heap H locs) (q0 t0 : Nat) {a : Addr} {cA : ClassId} {n : Nat} {f : Nat → Int32} (ha : ws[q0]? = some (a, .inl (cA, n, .inl f))) (ht : (TY g)[t0]? = some (cA, .int)) {i x : Int32} {k : Nat} (hin : vp_in i n) (hk : i.toNatClampNeg = k) (hdg : decode cc pc = .ok (.iastore, 1))
    (kk : ∀ (H1 : Heap) (locs1 : List Loc), va_P D classes (ws.set q0 (a, .inl (cA, n, .inl (upd f k x)))) H1 → va_D A (ws.set q0 (a, .inl (cA, n, .inl (upd f k x)))) → va_S A s.heap H1 locs1 → W p l e R s m args below meth c H1 locs1 0 0 Q (F0 m (pc + 1) ls rest)) : W p l e R s m args below meth c H locs 0 0 Q (F0 m pc ls (.int x :: .int i :: .ref a :: rest)) := by
  subst hk
  exact va_iast hx hb hK hP hD hS q0 t0 ha ht hin hdg kk
theorem zastK (hx : p.tables.exec = Jvm.exec) (hb : c.code = cc) (hK : va_K D classes (TY g) s) (hP : va_P D classes ws H) (hD : va_D A ws) (hS : va_S A s.heap H locs) (q0 t0 : Nat) {a : Addr} {cA : ClassId} {n : Nat} {f : Nat → Int32} (ha : ws[q0]? = some (a, .inl (cA, n, .inl f))) (ht : (TY g)[t0]? = some (cA, .boolean)) {i x : Int32} {k : Nat} (hin : vp_in i n) (hk : i.toNatClampNeg = k) (hdg : decode cc pc = .ok (.bastore, 1))
    (kk : ∀ (H1 : Heap) (locs1 : List Loc), va_P D classes (ws.set q0 (a, .inl (cA, n, .inl (upd f k (vp_nar .boolean x))))) H1 → va_D A (ws.set q0 (a, .inl (cA, n, .inl (upd f k (vp_nar .boolean x))))) → va_S A s.heap H1 locs1 → W p l e R s m args below meth c H1 locs1 0 0 Q (F0 m (pc + 1) ls rest)) : W p l e R s m args below meth c H locs 0 0 Q (F0 m pc ls (.int x :: .int i :: .ref a :: rest)) := by
  subst hk
  exact va_zast hx hb hK hP hD hS q0 t0 ha ht hin hdg kk
theorem copyK {own : String} {index N : Nat} (hx : p.tables.exec = Jvm.exec) (hb : c.code = cc) (hml : c.maxLocals = ls.size) (hown : s.vm.findClass own = some m.cls) (hlink : (Cond.methodLink own index arraycopyName).before args s = true) (hg : ∀ w ∈ GW, w.before args s = true)
    (hK : va_K D classes (TY g) s) (hP : va_P D classes ws H) (hD : va_D A ws) (hS : va_S A s.heap H locs) (q0 q1 : Nat) {a a0 : Nat} {n0 n1 : Nat} {f f1 : Nat → Int32} (ha0 : ws[q0]? = some (a0, .inl (g 0, n0, .inl f))) (ha1 : ws[q1]? = some (a, .inl (g 0, n1, .inl f1))) {n : Int32} (hN : n.toNatClampNeg = N) (h3 : ¬ n < 0) (h4 : N ≤ n0) (h5 : N ≤ n1)
    (hframes : 1 ≤ R.frames) (hlocals : (rest.map fun v => v.category).sum + (nativeFrameWords "java/lang/System" "arraycopy" 5 + 11) ≤ R.locals) (hdg : decode cc pc = .ok (.invokestatic index, 3))
    (kk : ∀ (H1 : Heap) (locs1 : List Loc), va_P D classes (ws.set q1 (a, .inl (g 0, n1, .inl (va_cpy f f1 0 0 N)))) H1 → va_D A (ws.set q1 (a, .inl (g 0, n1, .inl (va_cpy f f1 0 0 N)))) → va_S A s.heap H1 locs1 → W p l e R s m args below meth c H1 locs1 0 0 Q (F0 m (pc + 3) ls rest)) :
    W p l e R s m args below meth c H locs 0 0 Q (F0 m pc ls (.int n :: .int 0 :: .ref a :: .int 0 :: .ref a0 :: rest)) := by
  have hz : (0 : Int32).toNatClampNeg = 0 := by decide +kernel
  refine va_copyi hx hb hml hown hlink (hg _ g_435) (hg _ g_434) (hg _ g_82) hK hP hD hS q0 q1 0 0 ha0 ha1 rfl rfl rfl (by decide) (by decide) h3 (by rw [hz, hN]; omega) (by rw [hz, hN]; omega) (fun _ _ => rfl) hframes hlocals hdg ?_
  rw [hz, hN]
  exact kk
end KR

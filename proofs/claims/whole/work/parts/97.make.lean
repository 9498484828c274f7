/-! Constructors that make grids, or call constructors. -/
theorem arrV_congr {cI : ClassId} {n : Nat} {f f' : Nat → Value} (h : ∀ j, j < n → f j = f' j) : arrV cI n f = arrV cI n f' := by
  unfold arrV
  congr 1
  exact congrArg Array.ofFn (funext fun j => h j.val j.isLt)
/-- two entries that say the same -/
def ceq (x y : va_E) : Prop := x = y ∨ ∃ (cA : ClassId) (n : Nat) (F F' : Nat → Nat), x = .inl (cA, n, .inr (.inr (.inr (.inr (fun j => some (F j)))))) ∧ y = .inl (cA, n, .inr (.inr (.inr (.inr (fun j => some (F' j)))))) ∧ ∀ j, j < n → F j = F' j
def Weq : va_W → va_W → Prop
  | [], [] => True
  | p :: w, q :: w' => (p.1 = q.1 ∧ ceq p.2 q.2) ∧ Weq w w'
  | _, _ => False
theorem Weq.at {D : va_G} {H : Heap} : ∀ {w w' : va_W}, Weq w w' → ∀ (k : Nat) (q : Nat × va_E), w'[k]? = some q → ∃ p, w[k]? = some p ∧ p.1 = q.1 ∧ (va_at D classes p H → va_at D classes q H)
  | [], [], _, k, q, hk => by cases hk
  | p :: w, q' :: w', h, 0, q, hk => by
    cases hk
    refine ⟨p, rfl, h.1.1, fun hp => ?_⟩
    obtain ⟨a, x⟩ := p
    obtain ⟨b, y⟩ := q'
    have e1 : a = b := h.1.1
    subst e1
    rcases h.1.2 with e2 | ⟨cA, n, F, F', e2, e3, e4⟩
    · have e2 : x = y := e2
      subst e2
      exact hp
    · have e2 : x = _ := e2
      have e3 : y = _ := e3
      subst e2
      subst e3
      have hp : H[a]? = some (arrV cA n (fun j => va_rf (some (F j)))) := hp
      show H[a]? = some (arrV cA n (fun j => va_rf (some (F' j))))
      rw [hp, arrV_congr (fun j hj => by rw [e4 j hj])]
  | p :: w, q' :: w', h, k + 1, q, hk => Weq.at h.2 k q hk
theorem Weq.len : ∀ {w w' : va_W}, Weq w w' → w.length = w'.length
  | [], [], _ => rfl
  | _ :: _, _ :: _, h => by rw [List.length_cons, List.length_cons, Weq.len h.2]
theorem va_P.conv {D : va_G} {w w' : va_W} {H : Heap} (hP : va_P D classes w H) (h : Weq w w') : va_P D classes w' H := fun k q hk => by
  obtain ⟨p, h1, -, h3⟩ := h.at (D := D) (H := H) k q hk
  exact h3 (hP k p h1)
theorem va_D.conv {A : Nat → Prop} {D : va_G} {H : Heap} {w w' : va_W} (hD : va_D A w) (h : Weq w w') : va_D A w' := by
  refine ⟨fun i j p q hi hj hpq => ?_, fun k q hk => ?_⟩
  · obtain ⟨p1, h1, h2, -⟩ := h.at (D := D) (H := H) i p hi
    obtain ⟨q1, h3, h4, -⟩ := h.at (D := D) (H := H) j q hj
    exact hD.1 i j p1 q1 h1 h3 (h2.trans (hpq.trans h4.symm))
  · obtain ⟨p1, h1, h2, -⟩ := h.at (D := D) (H := H) k q hk
    rw [← h2]
    exact hD.2 k p1 h1
/-- a grid's cells -/
def gW (g : Nat → ClassId) (n k q : Nat) : va_W := (q, .inl (g 2, n, .inr (.inr (.inr (.inr (fun j => some (q + 1 + j))))))) :: (List.range n).map (fun j => (q + 1 + j, .inl (g 0, k, .inl (fun _ => 0))))
theorem gW_at {g : Nat → ClassId} {n k q : Nat} : ∀ (i : Nat) (x : Nat × va_E), (gW g n k q)[i]? = some x → x.1 = q + i ∧ i < n + 1 ∧ ((i = 0 ∧ x.2 = .inl (g 2, n, .inr (.inr (.inr (.inr (fun j => some (q + 1 + j))))))) ∨ (∃ j, j < n ∧ i = j + 1 ∧ x.2 = .inl (g 0, k, .inl (fun _ => 0))))
  | 0, x, h => by
    cases h
    exact ⟨rfl, by omega, Or.inl ⟨rfl, rfl⟩⟩
  | i + 1, x, h => by
    have h : ((List.range n).map (fun j => ((q + 1 + j, .inl (g 0, k, .inl (fun _ => 0))) : Nat × va_E)))[i]? = some x := h
    rw [List.getElem?_map] at h
    by_cases hi : i < n
    · rw [List.getElem?_range hi] at h
      cases h
      exact ⟨by show q + 1 + i = q + (i + 1); omega, by omega, Or.inr ⟨i, hi, rfl, rfl⟩⟩
    · rw [List.getElem?_eq_none (by rw [List.length_range]; omega)] at h
      cases h
section MK2
variable {p : Program} {l : Launch} {e : Env} {R : Room} {s : State} {m : MethodId} {args : Array Value} {below : List Frame} {meth : Method} {c : Code} {H : Heap} {locs : List Loc} {cells slots : Nat} {Q : State → Prop}
variable {cc : ByteArray} {pc : Nat} {ls : Array Slot} {rest : List Value} {D : va_G} {g : Nat → ClassId} {A : Nat → Prop} {ws : va_W}
theorem newG {own : String} {idx : Nat} (hx : p.tables.exec = Jvm.exec) (hb : c.code = cc) (hg : ∀ w ∈ GW, w.before args s = true) (hown : s.vm.findClass own = some m.cls) (kl : Cond.classLink own idx "[[I" ∈ GW) (hAO : AO g s) (hK : va_K D classes (TY g) s) (hP : va_P D classes ws H) (hD : va_D A ws) (hS : va_S A s.heap H locs) (hA : ∀ q, s.heap.size ≤ q → A q)
    {x y : Int32} {n k : Nat} (hx0 : ¬ x < 0) (hy0 : ¬ y < 0) (hn : x.toNatClampNeg = n) (hk : y.toNatClampNeg = k) (hn9 : n ≤ 1000) (hk9 : k ≤ 1000) (hc : cells + (1 + n) ≤ R.cells) (hs : slots + (n + n * k) ≤ R.slots) (hdg : decode cc pc = .ok (.multianewarray idx 2, 4))
    (kk : ∀ (q : Nat) (H1 : Heap) (locs1 : List Loc), va_P D classes (ws ++ gW g n k q) H1 → va_D A (ws ++ gW g n k q) → va_S A s.heap H1 locs1 → W p l e R s m args below meth c H1 locs1 (cells + 1 + n) (slots + n + n * k) Q (F0 m (pc + 4) ls (.ref q :: rest))) :
    W p l e R s m args below meth c H locs cells slots Q (F0 m pc ls (.int y :: .int x :: rest)) := by
  have h2 : s.vm.findClass "[[I" = some (g 2) := (hK.2 2 (g 2, .array .int) rfl).2
  refine W.grid hx hb hown (hg _ kl) hAO (hK.2 0 (g 0, .int) rfl).1 h2 rfl hdg rfl hx0 hy0 hn hk hn9 hk9 hc hs (fun H1 z1 z2 z3 z4 => ?_)
  have hlt : ∀ (i : Nat) (x : Nat × va_E), ws[i]? = some x → x.1 < H.size := fun i x hi => (hP i x hi).lt
  refine kk H.size H1 _ ?_ ?_ ⟨by have := hS.1; omega, fun q h1 h2 => (z4 q (Nat.lt_of_lt_of_le h1 hS.1)).trans (hS.2.1 q h1 h2), fun q hq => ?_⟩
  · refine (hP.kept (fun i x hi => z4 x.1 (hlt i x hi))).app (fun i x hi => ?_)
    obtain ⟨a1, a2, a3⟩ := gW_at i x hi
    obtain ⟨b, v⟩ := x
    have a1 : b = H.size + i := a1
    rcases a3 with ⟨r1, r2⟩ | ⟨j, r1, r2, r3⟩
    · have r2 : v = _ := r2
      subst r1 r2 a1
      show H1[H.size + 0]? = some (arrV (g 2) n (fun j => va_rf (some (H.size + 1 + j))))
      rw [Nat.add_zero, z2]
      refine congrArg some (arrV_congr (fun j hj => ?_))
      unfold gF
      rw [if_pos hj]
      rfl
    · have r3 : v = _ := r3
      subst r2 r3 a1
      show H1[H.size + (j + 1)]? = some (arrV (g 0) k (fun _ => .int 0))
      rw [show H.size + (j + 1) = H.size + 1 + j by omega]
      exact z3 j r1
  · refine va_D.app hD ⟨fun i j x y hi hj hxy => ?_, fun i x hi => ?_⟩ (fun i j x y hi hj hxy => ?_)
    · have h3 := (gW_at i x hi).1
      have h4 := (gW_at j y hj).1
      omega
    · have h3 := (gW_at i x hi).1
      rw [h3]
      exact hA _ (by have := hS.1; omega)
    · have h3 := hlt i x hi
      have h4 := (gW_at j y hj).1
      omega
  · rcases List.mem_append.mp hq with h3 | h3
    · exact hS.2.2 q h3
    · obtain ⟨j, -, rfl⟩ := List.mem_map.mp h3
      exact hA _ hS.1
/-- a new object -/
theorem newO {own C : String} {T : u_T} {N ci idx : Nat} (hx : p.tables.exec = Jvm.exec) (hb : c.code = cc) (hg : ∀ w ∈ GW, w.before args s = true) (hin : ∀ w ∈ u_ws C T N, w ∈ GW) (ty : Nat → FieldType) (hty : ∀ k, k < N → parseFieldDescriptor (T k).2.2.1 = some (ty k)) (hown : s.vm.findClass own = some m.cls) (k1 : Cond.classLink own idx C ∈ GW) (k2 : Cond.instantiable C N ∈ GW) (k3 : Cond.initialized C ∈ GW)
    (hK : va_K D classes (TY g) s) (hP : va_P D classes ws H) (hD : va_D A ws) (hS : va_S A s.heap H locs) (hA : ∀ q, s.heap.size ≤ q → A q) (hc : classes[ci]? = some (C, T, N)) {fs : List Value} (hfs : ∀ j, j < N → defaultValue (ty j) = vp_V fs j) (hcells : cells + 1 ≤ R.cells) (hslots : slots + N ≤ R.slots) (hdg : decode cc pc = .ok (.new idx, 3))
    (kk : ∀ (q : Nat) (H1 : Heap), va_P D classes (ws ++ [(q, .inr (ci, fs))]) H1 → va_D A (ws ++ [(q, .inr (ci, fs))]) → va_S A s.heap H1 locs →
      W p l e R s m args below meth c H1 locs (cells + 1) (slots + N) Q (F0 m (pc + 3) ls (.ref q :: rest))) : W p l e R s m args below meth c H locs cells slots Q (F0 m pc ls rest) :=
  va_new hx hb hg hin ty hty hown (hg _ k1) (hg _ k2) (hg _ k3) hK hP hD hS hA hc hfs hcells hslots hdg kk
theorem behindC {ws : va_W} {h0 : Nat} {e0 : va_E} {w1 : va_W} (hP : va_P D classes (ws ++ [(h0, e0)]) H) (hD : va_D A (ws ++ [(h0, e0)])) (hF : ∀ q, va_A [(h0, e0)] H.size q → A q) {H1 : Heap} (hk : ∀ q : Nat, q < H.size → ¬ va_A [(h0, e0)] H.size q → H1[q]? = H[q]?) (hP1 : va_P D classes w1 H1) (hD1 : va_D (va_A [(h0, e0)] H.size) w1) : va_P D classes (ws ++ w1) H1 ∧ va_D A (ws ++ w1) := by
  have hl : ∀ (k : Nat) (q : Nat × va_E), ws[k]? = some q → (ws ++ [(h0, e0)])[k]? = some q := fun k q hq => by
    rw [List.getElem?_append_left (List.getElem?_eq_some_iff.mp hq).1]
    exact hq
  have h9 : (ws ++ [(h0, e0)])[ws.length]? = some (h0, e0) := by
    rw [List.getElem?_append_right (Nat.le_refl _), Nat.sub_self]
    rfl
  have hn : ∀ (k : Nat) (q : Nat × va_E), ws[k]? = some q → q.1 < H.size ∧ ¬ va_A [(h0, e0)] H.size q.1 := fun k q hq => by
    have h1 := (hP k q (hl k q hq)).lt
    refine ⟨h1, fun h2 => ?_⟩
    rcases h2 with ⟨j, e, h3⟩ | h3
    · match j, h3 with
      | 0, h3 =>
        have h4 : h0 = q.1 := congrArg Prod.fst (Option.some.inj h3)
        have h5 := hD.1 k ws.length q (h0, e0) (hl k q hq) h9 h4.symm
        have h6 := (List.getElem?_eq_some_iff.mp hq).1
        omega
      | j + 1, h3 => cases h3
    · exact absurd h1 (Nat.not_lt.mpr h3)
  refine ⟨(va_P.kept (fun k q hq => hP k q (hl k q hq)) (fun k q hq => hk q.1 (hn k q hq).1 (hn k q hq).2)).app hP1, va_D.app ⟨fun i j x y hi hj hxy => hD.1 i j x y (hl i x hi) (hl j y hj) hxy, fun k q hq => hD.2 k q (hl k q hq)⟩ (hD1.weaken (fun k q _ h => hF _ h)) (fun i j x y hi hj hxy => ?_)⟩
  exact (hn i x hi).2 (by rw [hxy]; exact hD1.2 j y hj)
end MK2
/-- as MC, with the grids' classes -/
def MC2 (l : Launch) (y : MethodName) (b : ByteArray) (n : Nat) (rm : Room) (D : va_G) (g : Nat → ClassId) (h0 : Nat) (ws : va_W) (post : (Nat → Nat) → va_W) (mc ms : Nat) : Prop :=
  ∀ sz, Met l y (.code y b n none :: GW) rm (va_Pc [.ref h0] (fun U => PreW D g ws sz U ∧ AO g U)) (va_Qv (fun (a : Nat → Nat) => a 0 = h0) (fun a t => PstW D g (post a) (va_A ws sz) () t) (va_A ws sz)) mc ms (va_A ws sz)
theorem fb2 (D : va_G) (g : Nat → ClassId) (av : List Value) (ws : va_W) (sz : Nat) : FrameBlind (va_Pc av (fun U => PreW D g ws sz U ∧ AO g U)) := fun a U gg mk q => by
  obtain ⟨q0, ⟨q1, qP, qK, qD, qC⟩, q2⟩ := q
  exact ⟨q0, ⟨q1, qP, va_K.moved (u := U) (U := U.calling gg mk a) (Vm.Alike.refl U.vm) qK, qD, CsH.moved (u := U) (U := U.calling gg mk a) (Vm.Alike.refl U.vm) qC.1, qC.2.same rfl⟩, q2⟩
theorem enterC2 {l : Launch} {y : MethodName} {b : ByteArray} {n : Nat} {rm : Room} {D : va_G} {g : Nat → ClassId} {h0 : Nat} {ws : va_W} {post : (Nat → Nat) → va_W} {mc ms : Nat} (hy : plainName y.cls = true) (hyn : y.name = "<init>") (hn : 1 ≤ n)
    (body : ∀ (p : Program) (e : Env) (s : State) (m : MethodId) (below : List Frame) (meth : Method) (c : Code) (A : Nat → Prop) (ls : Array Slot), p.tables.exec = Jvm.exec → c.code = b → c.maxLocals = n → meth.sig.returnType = none → s.vm.findClass y.cls = some m.cls → meth.name = "<init>" →
      (∀ w ∈ GW, w.before ([Value.ref h0] : List Value).toArray s = true) → meth.locks = false → va_K D classes (TY g) s → (∀ q, s.heap.size ≤ q → A q) → va_P D classes ws s.heap → va_D A ws → va_S A s.heap s.heap [] → Cst g A s s.heap → lv_has ls n [(0, .ref h0)] → AO g s →
      W p l e rm s m ([Value.ref h0] : List Value).toArray below meth c s.heap [] 0 0 (MQ below (va_Qv (fun (a : Nat → Nat) => a 0 = h0) (fun a t => PstW D g (post a) A () t) A) ([Value.ref h0] : List Value).toArray s mc ms A) (F0 m 0 ls [])) : MC2 l y b n rm D g h0 ws post mc ms := by
  intro sz
  refine Met.ofW (cc := b) (maxL := n) (ret := none) hy rfl ?_
  intro p e s m args below meth c s₁ B hml hv
  obtain ⟨rfl, ⟨hsz, hP, hK, hD0, hCs⟩, hAO⟩ := hv
  subst hsz
  rw [lg_entry_eq]
  exact body p e s m below meth c (va_A ws s.heap.size) _ B.exec B.bytes hml B.returns (findClass_of_methodNamed B.named) ((name_of_methodNamed B.named B.method).1.trans hyn) (fun w hw => atoms_spec (ws := .code y b n none :: GW) B.pre w (List.mem_cons_of_mem _ hw)) B.notSynchronized hK (fun q h => Or.inr h) hP hD0.self va_S.rf hCs (lv_entry [.ref h0] hn) hAO
/-- what the tables say of a constructor -/
def OkC (y : MethodName) (b : ByteArray) (n : Nat) : Prop := (y.cls ≠ "java/lang/invoke/MethodHandle" ∧ y.cls ≠ "java/lang/invoke/VarHandle" ∧ (parseMethodDescriptor y.desc).map (fun d => d.parameters.length) = some 0) ∧ y.name = "<init>" ∧ Cond.instanceMethod y ∈ GW ∧ Cond.initialized y.cls ∈ GW ∧ Cond.code y b n none ∈ GW
section CN
variable {p : Program} {l : Launch} {e : Env} {R : Room} {s : State} {m : MethodId} {args : Array Value} {below : List Frame} {meth : Method} {c : Code} {H : Heap} {locs : List Loc} {cells slots : Nat} {Q : State → Prop}
variable {cc : ByteArray} {pc : Nat} {ls : Array Slot} {rest : List Value} {D : va_G} {g : Nat → ClassId} {A : Nat → Prop} {ws : va_W} {post : (Nat → Nat) → va_W} {e0 : va_E} {mc ms idx n nL : Nat} {own : String} {y : MethodName} {b : ByteArray} {rm : Room} {h0 : Nat}
/-- the constructor of a nest mate -/
theorem callNC (hx : p.tables.exec = Jvm.exec) (hb : c.code = cc) (hml : c.maxLocals = nL) (hown : s.vm.findClass own = some m.cls) (hg : ∀ w ∈ GW, w.before args s = true) (hK : va_K D classes (TY g) s) (hP : va_P D classes (ws ++ [(h0, e0)]) H) (hD : va_D A (ws ++ [(h0, e0)])) (hS : va_S A s.heap H locs) (hA : ∀ q, s.heap.size ≤ q → A q) (hCs : Cst g A s s.heap) (hlz : ls.size = nL)
    (hM : MC l y b n rm D g h0 [(h0, e0)] post mc ms) (ok : OkC y b n) (kl : va_Nw (.methodLinkNest own idx y "OwnsLift") s) (hW : (rest.map fun v => v.category).sum ≤ 8) (hR' : rm.cells = mc ∧ rm.slots = ms ∧ rm.frames + 1 ≤ R.frames ∧ 8 + (n + 11) + rm.locals ≤ R.locals) (hfit : cells + mc ≤ R.cells ∧ slots + ms ≤ R.slots) (hdg : decode cc pc = .ok (.invokespecial idx, 3))
    (kk : ∀ (a : Nat → Nat) (H1 : Heap) (locs1 : List Loc), a 0 = h0 → va_P D classes (ws ++ post a) H1 → va_D A (ws ++ post a) → va_S A s.heap H1 locs1 → W p l e R s m args below meth c H1 locs1 (cells + mc) (slots + ms) Q (F0 m (pc + 3) ls rest)) : W p l e R s m args below meth c H locs cells slots Q (F0 m pc ls (.ref h0 :: rest)) := by
  have hC : ([ws.length] : List Nat).map (fun i => (ws ++ [(h0, e0)])[i]?) = ([(h0, e0)] : va_W).map some := by simp
  have hPc := cut hP [ws.length] hC
  have hDc := hD.sub [ws.length] rfl hC
  have hFc := va_free (wc := [(h0, e0)]) hD hS hA [ws.length] hC
  refine va_callv (va_runIN (As := []) (rest := rest) ⟨hx, hb, hml, hown, hg⟩ (hM H.size) ⟨va_cnB (Ts := GW) 0 hg (gw_cons ok.2.2.2.2) rfl hR'.1 hR'.2.1 kl (hg _ ok.2.2.2.1) ok.1 ⟨hR'.2.2.1, hR'.2.2.2⟩, ok.2.1, hg _ ok.2.2.1⟩ ⟨fbW D g _ _ H.size, fun U hU hW => ⟨rfl, by rw [hU], by rw [hU]; exact hPc, va_K.moved hW.alike hK, hDc.weaken (fun _ _ _ _ => trivial), hCs.step hS hW hU hFc⟩⟩ rfl rfl hlz rfl (lv_room hW) hdg hfit) hS (fun q _ h => hFc q h) hFc (fun u t H1 locs1 ht hvm hw hB hz1 hk1 hS1 => ?_)
  obtain ⟨hP1, hK1, hD1⟩ := hB
  rw [ht] at hP1
  obtain ⟨hP2, hD2⟩ := behindC hP hD hFc hk1 hP1 hD1
  exact kk u H1 locs1 hw hP2 hD2 hS1
theorem callNC2 (hAO : AO g s) (hx : p.tables.exec = Jvm.exec) (hb : c.code = cc) (hml : c.maxLocals = nL) (hown : s.vm.findClass own = some m.cls) (hg : ∀ w ∈ GW, w.before args s = true) (hK : va_K D classes (TY g) s) (hP : va_P D classes (ws ++ [(h0, e0)]) H) (hD : va_D A (ws ++ [(h0, e0)])) (hS : va_S A s.heap H locs) (hA : ∀ q, s.heap.size ≤ q → A q) (hCs : Cst g A s s.heap) (hlz : ls.size = nL)
    (hM : MC2 l y b n rm D g h0 [(h0, e0)] post mc ms) (ok : OkC y b n) (kl : va_Nw (.methodLinkNest own idx y "OwnsLift") s) (hW : (rest.map fun v => v.category).sum ≤ 8) (hR' : rm.cells = mc ∧ rm.slots = ms ∧ rm.frames + 1 ≤ R.frames ∧ 8 + (n + 11) + rm.locals ≤ R.locals) (hfit : cells + mc ≤ R.cells ∧ slots + ms ≤ R.slots) (hdg : decode cc pc = .ok (.invokespecial idx, 3))
    (kk : ∀ (a : Nat → Nat) (H1 : Heap) (locs1 : List Loc), a 0 = h0 → va_P D classes (ws ++ post a) H1 → va_D A (ws ++ post a) → va_S A s.heap H1 locs1 → W p l e R s m args below meth c H1 locs1 (cells + mc) (slots + ms) Q (F0 m (pc + 3) ls rest)) : W p l e R s m args below meth c H locs cells slots Q (F0 m pc ls (.ref h0 :: rest)) := by
  have hC : ([ws.length] : List Nat).map (fun i => (ws ++ [(h0, e0)])[i]?) = ([(h0, e0)] : va_W).map some := by simp
  have hPc := cut hP [ws.length] hC
  have hDc := hD.sub [ws.length] rfl hC
  have hFc := va_free (wc := [(h0, e0)]) hD hS hA [ws.length] hC
  refine va_callv (va_runIN (As := []) (rest := rest) ⟨hx, hb, hml, hown, hg⟩ (hM H.size) ⟨va_cnB (Ts := GW) 0 hg (gw_cons ok.2.2.2.2) rfl hR'.1 hR'.2.1 kl (hg _ ok.2.2.2.1) ok.1 ⟨hR'.2.2.1, hR'.2.2.2⟩, ok.2.1, hg _ ok.2.2.1⟩ ⟨fb2 D g _ _ H.size, fun U hU hW => ⟨rfl, ⟨by rw [hU], by rw [hU]; exact hPc, va_K.moved hW.alike hK, hDc.weaken (fun _ _ _ _ => trivial), hCs.step hS hW hU hFc⟩, hAO.moved hW.alike⟩⟩ rfl rfl hlz rfl (lv_room hW) hdg hfit) hS (fun q _ h => hFc q h) hFc (fun u t H1 locs1 ht hvm hw hB hz1 hk1 hS1 => ?_)
  obtain ⟨hP1, hK1, hD1⟩ := hB
  rw [ht] at hP1
  obtain ⟨hP2, hD2⟩ := behindC hP hD hFc hk1 hP1 hD1
  exact kk u H1 locs1 hw hP2 hD2 hS1
/-- the law's own two -/
theorem callIC (hx : p.tables.exec = Jvm.exec) (hb : c.code = cc) (hml : c.maxLocals = nL) (hown : s.vm.findClass own = some m.cls) (hg : ∀ w ∈ GW, w.before args s = true) (hK : va_K D classes (TY g) s) (hP : va_P D classes (ws ++ [(h0, e0)]) H) (hD : va_D A (ws ++ [(h0, e0)])) (hS : va_S A s.heap H locs) (hA : ∀ q, s.heap.size ≤ q → A q) (hCs : Cst g A s s.heap) (hlz : ls.size = nL)
    (hM : MC l y b n rm D g h0 [(h0, e0)] post mc ms) (ok : OkC y b n) (kl : Cond.methodLink own idx y ∈ GW) (hW : (rest.map fun v => v.category).sum ≤ 8) (hR' : rm.cells = mc ∧ rm.slots = ms ∧ rm.frames + 1 ≤ R.frames ∧ 8 + (n + 11) + rm.locals ≤ R.locals) (hfit : cells + mc ≤ R.cells ∧ slots + ms ≤ R.slots) (hdg : decode cc pc = .ok (.invokespecial idx, 3))
    (kk : ∀ (a : Nat → Nat) (H1 : Heap) (locs1 : List Loc), a 0 = h0 → va_P D classes (ws ++ post a) H1 → va_D A (ws ++ post a) → va_S A s.heap H1 locs1 → W p l e R s m args below meth c H1 locs1 (cells + mc) (slots + ms) Q (F0 m (pc + 3) ls rest)) : W p l e R s m args below meth c H locs cells slots Q (F0 m pc ls (.ref h0 :: rest)) := by
  have hC : ([ws.length] : List Nat).map (fun i => (ws ++ [(h0, e0)])[i]?) = ([(h0, e0)] : va_W).map some := by simp
  have hPc := cut hP [ws.length] hC
  have hDc := hD.sub [ws.length] rfl hC
  have hFc := va_free (wc := [(h0, e0)]) hD hS hA [ws.length] hC
  refine va_callv (va_runI (As := []) (rest := rest) ⟨hx, hb, hml, hown, hg⟩ (hM H.size) ⟨callB_of (Ts := GW) 0 hg (gw_cons ok.2.2.2.2) rfl hR'.1 hR'.2.1 (hg _ ok.2.2.2.1) (hg _ kl) ok.1 ⟨hR'.2.2.1, hR'.2.2.2⟩, ok.2.1, hg _ ok.2.2.1⟩ ⟨fbW D g _ _ H.size, fun U hU hW => ⟨rfl, by rw [hU], by rw [hU]; exact hPc, va_K.moved hW.alike hK, hDc.weaken (fun _ _ _ _ => trivial), hCs.step hS hW hU hFc⟩⟩ rfl rfl hlz rfl (lv_room hW) hdg hfit) hS (fun q _ h => hFc q h) hFc (fun u t H1 locs1 ht hvm hw hB hz1 hk1 hS1 => ?_)
  obtain ⟨hP1, hK1, hD1⟩ := hB
  rw [ht] at hP1
  obtain ⟨hP2, hD2⟩ := behindC hP hD hFc hk1 hP1 hD1
  exact kk u H1 locs1 hw hP2 hD2 hS1
theorem callIC2 (hAO : AO g s) (hx : p.tables.exec = Jvm.exec) (hb : c.code = cc) (hml : c.maxLocals = nL) (hown : s.vm.findClass own = some m.cls) (hg : ∀ w ∈ GW, w.before args s = true) (hK : va_K D classes (TY g) s) (hP : va_P D classes (ws ++ [(h0, e0)]) H) (hD : va_D A (ws ++ [(h0, e0)])) (hS : va_S A s.heap H locs) (hA : ∀ q, s.heap.size ≤ q → A q) (hCs : Cst g A s s.heap) (hlz : ls.size = nL)
    (hM : MC2 l y b n rm D g h0 [(h0, e0)] post mc ms) (ok : OkC y b n) (kl : Cond.methodLink own idx y ∈ GW) (hW : (rest.map fun v => v.category).sum ≤ 8) (hR' : rm.cells = mc ∧ rm.slots = ms ∧ rm.frames + 1 ≤ R.frames ∧ 8 + (n + 11) + rm.locals ≤ R.locals) (hfit : cells + mc ≤ R.cells ∧ slots + ms ≤ R.slots) (hdg : decode cc pc = .ok (.invokespecial idx, 3))
    (kk : ∀ (a : Nat → Nat) (H1 : Heap) (locs1 : List Loc), a 0 = h0 → va_P D classes (ws ++ post a) H1 → va_D A (ws ++ post a) → va_S A s.heap H1 locs1 → W p l e R s m args below meth c H1 locs1 (cells + mc) (slots + ms) Q (F0 m (pc + 3) ls rest)) : W p l e R s m args below meth c H locs cells slots Q (F0 m pc ls (.ref h0 :: rest)) := by
  have hC : ([ws.length] : List Nat).map (fun i => (ws ++ [(h0, e0)])[i]?) = ([(h0, e0)] : va_W).map some := by simp
  have hPc := cut hP [ws.length] hC
  have hDc := hD.sub [ws.length] rfl hC
  have hFc := va_free (wc := [(h0, e0)]) hD hS hA [ws.length] hC
  refine va_callv (va_runI (As := []) (rest := rest) ⟨hx, hb, hml, hown, hg⟩ (hM H.size) ⟨callB_of (Ts := GW) 0 hg (gw_cons ok.2.2.2.2) rfl hR'.1 hR'.2.1 (hg _ ok.2.2.2.1) (hg _ kl) ok.1 ⟨hR'.2.2.1, hR'.2.2.2⟩, ok.2.1, hg _ ok.2.2.1⟩ ⟨fb2 D g _ _ H.size, fun U hU hW => ⟨rfl, ⟨by rw [hU], by rw [hU]; exact hPc, va_K.moved hW.alike hK, hDc.weaken (fun _ _ _ _ => trivial), hCs.step hS hW hU hFc⟩, hAO.moved hW.alike⟩⟩ rfl rfl hlz rfl (lv_room hW) hdg hfit) hS (fun q _ h => hFc q h) hFc (fun u t H1 locs1 ht hvm hw hB hz1 hk1 hS1 => ?_)
  obtain ⟨hP1, hK1, hD1⟩ := hB
  rw [ht] at hP1
  obtain ⟨hP2, hD2⟩ := behindC hP hD hFc hk1 hP1 hD1
  exact kk u H1 locs1 hw hP2 hD2 hS1
end CN

/-! A new grid: a row of rows, and its rows behind one another. -/
/-- the class of grids is made of the class of rows -/
def AO (g : Nat → ClassId) (U : State) : Prop := ∃ kA : Class, U.vm.classes[g 2]? = some kA ∧ kA.kind = .array (g 0) (.array .int)
theorem AO.moved {g : Nat → ClassId} {u U : State} (hvm : u.vm.Alike U.vm) (h : AO g u) : AO g U := by
  obtain ⟨kA, h1, h2⟩ := h
  obtain ⟨k1, h3, h4⟩ := hvm.2.2 _ _ h1
  exact ⟨k1, h3, by rw [h4]; exact h2⟩
theorem AO.of {g : Nat → ClassId} {args : Array Value} {s : State} (h : (Cond.arrayOver (.array .int)).before args s = true) (h0 : s.vm.findClass (FieldType.array .int).toString = some (g 0)) (h2 : s.vm.findClass ("[" ++ (FieldType.array .int).toString) = some (g 2)) : AO g s := by
  have h : (Cond.arrayOver (.array .int)).holds args s none s [] = true := h
  simp only [Cond.holds, Cond.value, beq_iff_eq, h0, Option.bind_some, Option.bind_eq_some_iff, Option.map_eq_some_iff] at h
  obtain ⟨c, hi, k, hk, hb⟩ := h
  obtain ⟨hlt, hp, -⟩ := Array.findIdx?_eq_some_iff_getElem.mp hi
  have hkk : s.vm.classes[c] = k := (Array.getElem?_eq_some_iff.mp hk).2
  rw [hkk] at hp
  cases hkind : k.kind with
  | array component ty =>
    rw [hkind] at hb hp
    simp at hb hp
    have hc : c = g 2 := Option.some.inj (hb.2.symm.trans h2)
    subst hc
    exact ⟨k, hk, by rw [hkind, hp, hb.1]⟩
  | _ => rw [hkind] at hb; simp at hb
/-- what the row of rows holds when i rows are made -/
def gF (h0 i : Nat) (j : Nat) : Value := if j < i then .ref (h0 + 1 + j) else .null
theorem gF_s (h0 i : Nat) : updV (gF h0 i) i (.ref (h0 + 1 + i)) = gF h0 (i + 1) := by
  funext j
  unfold updV gF
  by_cases e : j = i
  · subst e
    rw [if_pos rfl, if_pos (Nat.lt_succ_self _)]
  · rw [if_neg e]
    by_cases q : j < i
    · rw [if_pos q, if_pos (by omega)]
    · rw [if_neg q, if_neg (by omega)]
def Gr (g : Nat → ClassId) (H : Heap) (vm : Vm) (n k h0 i : Nat) (U : State) : Prop :=
  U.vm = vm ∧ U.heap.size = h0 + 1 + i ∧ U.heap[h0]? = some (arrV (g 2) n (gF h0 i)) ∧ (∀ j, j < i → U.heap[h0 + 1 + j]? = some (arrV (g 0) k (fun _ => .int 0))) ∧ ∀ a, a < h0 → U.heap[a]? = H[a]?
theorem Gr.step {g : Nat → ClassId} {H : Heap} {vm : Vm} {n k h0 i : Nat} {U : State} (h : Gr g H vm n k h0 i U) : Gr g H vm n k h0 (i + 1) ((U.pushCell (arrV (g 0) k fun _ => .int 0)).setCell h0 ((arrV (g 2) n (gF h0 i)).setSlot i (.ref (h0 + 1 + i)))) := by
  obtain ⟨a, b, c, d, f⟩ := h
  have hlt : h0 < U.heap.size := by omega
  have hc : (U.pushCell (arrV (g 0) k fun _ => .int 0)).heap[h0]? = some (arrV (g 2) n (gF h0 i)) := by rw [State.heap_pushCell_of_lt (h := hlt)]; exact c
  refine ⟨a, ?_, ?_, fun j hj => ?_, fun q hq => ?_⟩
  · show ((U.pushCell (arrV (g 0) k fun _ => .int 0)).heap.setIfInBounds h0 _).size = _
    rw [Array.size_setIfInBounds]
    show (U.heap.push _).size = _
    rw [Array.size_push, b]
    omega
  · rw [State.heap_setCell_self hc, arrV_store, gF_s]
  · rw [State.heap_setCell_other (show h0 ≠ h0 + 1 + j by omega)]
    rcases Nat.lt_or_ge j i with hj2 | hj2
    · rw [State.heap_pushCell_of_lt _ _ (show h0 + 1 + j < U.heap.size by rw [b]; omega)]
      exact d j hj2
    · have e : j = i := by omega
      subst e
      rw [← b]
      exact State.heap_pushCell_size _ _
  · rw [State.heap_setCell_other (show h0 ≠ q by omega), State.heap_pushCell_of_lt _ _ (show q < U.heap.size by omega)]
    exact f q hq
/-- the states while the rows are made -/
def gU (g : Nat → ClassId) (n k h0 : Nat) (V : State) : Nat → State
  | 0 => V.pushCell (arrV (g 2) n (gF h0 0))
  | i + 1 => ((gU g n k h0 V i).pushCell (arrV (g 0) k fun _ => .int 0)).setCell h0 ((arrV (g 2) n (gF h0 i)).setSlot i (.ref (h0 + 1 + i)))
section GRID
variable {p : Program} {l : Launch} {e : Env} {R : Room} {s : State} {m : MethodId} {args : Array Value} {below : List Frame} {meth : Method} {c : Code} {H : Heap} {locs : List Loc} {cells slots : Nat} {Q : State → Prop}
theorem gridStep {g : Nat → ClassId} {vm : Vm} {n k h0 i : Nat} {U : State} (hG : Gr g H vm n k h0 i U) (X : Stand p l e R s m args below meth c U (locs ++ (List.range i).map fun j => ⟨h0, j⟩) (cells + 1 + i) (slots + n + i * k)) :
    Stand p l e R s m args below meth c ((U.pushCell (arrV (g 0) k fun _ => .int 0)).setCell h0 ((arrV (g 2) n (gF h0 i)).setSlot i (.ref (h0 + 1 + i)))) (locs ++ (List.range (i + 1)).map fun j => ⟨h0, j⟩) (cells + 1 + (i + 1)) (slots + n + (i + 1) * k) := by
  have hlt : h0 < U.heap.size := by have := hG.2.1; omega
  have hc : (U.pushCell (arrV (g 0) k fun _ => .int 0)).heap[h0]? = some (arrV (g 2) n (gF h0 i)) := by rw [State.heap_pushCell_of_lt (h := hlt)]; exact hG.2.2.1
  have h := (X.pushed (arrV (g 0) k fun _ => .int 0)).stored hc i (.ref (h0 + 1 + i))
  rw [arrV_size, List.append_assoc] at h
  rw [List.range_succ, List.map_append, show slots + n + (i + 1) * k = slots + n + i * k + k by rw [Nat.succ_mul]; omega]
  exact h
theorem W.grid {cc : ByteArray} {g : Nat → ClassId} (hexec : p.tables.exec = Jvm.exec) (hb : c.code = cc) {own : String} {index : Nat} (hown : s.vm.findClass own = some m.cls) (hcl : (Cond.classLink own index "[[I").before args s = true)
    (hAO : AO g s) (hg0 : ArrOfT s (g 0) .int) (hg2 : s.vm.findClass "[[I" = some (g 2)) {f : JFrame} (hf : f.method = m) (hdg : decode cc f.pc = .ok (.multianewarray index 2, 4)) {x y : Int32} {rest : List Value} (hst : f.stack = .int y :: .int x :: rest)
    (hx : ¬ x < 0) (hy : ¬ y < 0) {n k : Nat} (hn : x.toNatClampNeg = n) (hk : y.toNatClampNeg = k) (hn9 : n ≤ 1000) (hk9 : k ≤ 1000) (hc : cells + (1 + n) ≤ R.cells) (hs : slots + (n + n * k) ≤ R.slots)
    (kk : ∀ (H' : Heap), H'.size = H.size + 1 + n → H'[H.size]? = some (arrV (g 2) n (gF H.size n)) → (∀ j, j < n → H'[H.size + 1 + j]? = some (arrV (g 0) k (fun _ => .int 0))) → (∀ a, a < H.size → H'[a]? = H[a]?) →
      W p l e R s m args below meth c H' (locs ++ (List.range n).map fun j => ⟨H.size, j⟩) (cells + 1 + n) (slots + n + n * k) Q { f with pc := f.pc + 4, stack := .ref H.size :: rest }) : W p l e R s m args below meth c H locs cells slots Q f := by
  intro T hT X
  subst hT
  subst hf
  have hpl : e.platform.magicAccessors = ({} : Platform).magicAccessors := by rw [X.admits.platform]
  obtain ⟨kA, hkA, hkindA⟩ := hAO
  obtain ⟨-, kC, hkC, cc0, hkindC⟩ := hg0 0 (fun _ => .null)
  obtain ⟨c0, hfc0, hl⟩ := Cond.classLink_spec hown hcl e.platform hpl
  have ec : c0 = g 2 := Option.some.inj (hfc0.symm.trans hg2)
  subst ec
  obtain ⟨hg₁, hwarm₁, hready₁⟩ := State.classEntry (e := e) X.warmed hl
  generalize T.vm.noted f.method.cls index (.cls (g 2)) = vm₁ at hg₁ hwarm₁ hready₁
  obtain ⟨kA₁, hkA₁, heA⟩ := hwarm₁.alike.2.2 _ _ hkA
  obtain ⟨kC₁, hkC₁, heC⟩ := hwarm₁.alike.2.2 _ _ hkC
  have hkindA₁ : kA₁.kind = .array (g 0) (.array .int) := by rw [heA]; exact hkindA
  have hkindC₁ : kC₁.kind = .array cc0 .int := by rw [heC]; exact hkindC
  have X₁ := X.noted hwarm₁
  have hal : e.platform.arrayLengthLimit = _ := Launch.admits_arrayLengthLimit X.admits
  have hah : e.platform.maxHeapBytes = _ := Launch.admits_maxHeapBytes X.admits
  have hl1 : ¬ n > e.platform.arrayLengthLimit := by rw [hal]; omega
  have hl2 : ¬ k > e.platform.arrayLengthLimit := by rw [hal]; omega
  have hh1 : ¬ n * componentBytes (.array .int) > e.platform.maxHeapBytes := by rw [hah]; show ¬ n * 4 > _; omega
  have hh2 : ¬ k * componentBytes .int > e.platform.maxHeapBytes := by rw [hah]; show ¬ k * 4 > _; omega
  have hbase : Gr g T.heap vm₁ n k T.heap.size 0 (gU g n k T.heap.size (T.setVm vm₁) 0) := by
    refine ⟨rfl, ?_, State.heap_pushCell_size _ _, fun j hj => absurd hj (Nat.not_lt_zero _), fun a ha => State.heap_pushCell_of_lt _ _ ha⟩
    show (T.heap.push _).size = _
    rw [Array.size_push]
  have hXb : Stand p l e R s f.method args below meth c (gU g n k T.heap.size (T.setVm vm₁) 0) (locs ++ (List.range 0).map fun j => ⟨T.heap.size, j⟩) (cells + 1 + 0) (slots + n + 0 * k) := by
    have h := X₁.pushed (arrV (g 2) n (gF T.heap.size 0))
    rw [arrV_size] at h
    rw [Nat.zero_mul]
    simpa [gU] using h
  have hGX : ∀ i, Gr g T.heap vm₁ n k T.heap.size i (gU g n k T.heap.size (T.setVm vm₁) i) ∧ Stand p l e R s f.method args below meth c (gU g n k T.heap.size (T.setVm vm₁) i) (locs ++ (List.range i).map fun j => ⟨T.heap.size, j⟩) (cells + 1 + i) (slots + n + i * k) := by
    intro i
    induction i with
    | zero => exact ⟨hbase, hXb⟩
    | succ i ih => exact ⟨ih.1.step, gridStep ih.1 ih.2⟩
  obtain ⟨hGn, hXn⟩ := hGX n
  obtain ⟨t, a1, b1⟩ := kk _ hGn.2.1 hGn.2.2.1 hGn.2.2.2.1 hGn.2.2.2.2 (gU g n k T.heap.size (T.setVm vm₁) n) rfl hXn
  refine ⟨t, ?_, b1⟩
  clear kk b1
  have key : ∀ (d : Bool) (acts : List Action) (E : CtlPost) (QQ : Addr → Pre), (∀ d' acts', QQ T.heap.size d' acts' ((gU g n k T.heap.size (T.setVm vm₁) n).setTop { f with stack := rest })) →
      wp (multianewarray.make (g 2) [x, y]) QQ E e d acts ((T.setVm vm₁).setTop { f with stack := rest }) := by
    intro d acts E QQ hQ
    obtain ⟨hr1, hr2⟩ := X₁.roomAbove (a := 1) (b := n) (by omega) (by omega)
    have hfind : ([y].find? (· < 0)) = none := by simp [hy]
    rw [multianewarray.make]
    simp only [wp_bind', W.ite, hx, if_false, wp_pure', W.theClass, State.vm_setTop, State.vm_setVm, hkA₁, hkindA₁, Option.some.injEq, exists_eq_left', hn]
    refine W.newArray_of (k := kA₁) (comp := g 0) (type := .array .int) hkA₁ hkindA₁ hl1 hh1 (by show T.heap.size < _; exact hr1) (by show T.slotsUsed + n ≤ _; exact hr2) rfl (fun acts1 => ?_)
    simp only [hfind]
    rw [ite_self, wp_bind', Std.Legacy.Range.forIn_eq_forIn_range']
    have hsz : ([:n] : Std.Legacy.Range).size = n := by simp [Std.Legacy.Range.size]
    rw [hsz]
    show wp (forIn (List.range' 0 n 1) PUnit.unit _) _ E e d acts1 _
    refine wp_forIn_inv (fun r U => ∃ i, i ≤ n ∧ r = List.range' i (n - i) ∧ U = (gU g n k T.heap.size (T.setVm vm₁) i).setTop { f with stack := rest }) _ _ ⟨0, Nat.zero_le _, rfl, ?_⟩ ?_ ?_
    · show _ = (gU g n k T.heap.size (T.setVm vm₁) 0).setTop _
      unfold gU
      rw [show gF T.heap.size 0 = fun _ => Value.null from rfl, ← arrV_new]
      rfl
    · rintro j r U d' acts' Q' ⟨i, hi, hr, rfl⟩ hnext
      have hlt : i < n := by
        rcases Nat.lt_or_ge i n with h | h
        · exact h
        · rw [show n - i = 0 by omega] at hr
          cases hr
      rw [show n - i = (n - (i + 1)) + 1 by omega, List.range'_succ] at hr
      obtain ⟨rfl, rfl⟩ := List.cons.inj hr
      obtain ⟨hG, hX⟩ := hGX j
      have hmul : (j + 1) * k ≤ n * k := Nat.mul_le_mul_right k hlt
      rw [Nat.succ_mul] at hmul
      obtain ⟨q1, q2⟩ := hX.roomAbove (a := 1) (b := k) (by omega) (by omega)
      have hnx : ∀ U', U' = gU g n k T.heap.size (T.setVm vm₁) (j + 1) → ∀ d'' acts'', Q' (ForInStep.yield PUnit.unit) d'' acts'' (U'.setTop { f with stack := rest }) := fun U' hU d'' acts'' => hnext _ d'' acts'' ⟨j + 1, hlt, rfl, by rw [hU]⟩
      clear hnext
      have hgs : gU g n k T.heap.size (T.setVm vm₁) (j + 1) = ((gU g n k T.heap.size (T.setVm vm₁) j).pushCell (arrV (g 0) k fun _ => .int 0)).setCell T.heap.size ((arrV (g 2) n (gF T.heap.size j)).setSlot j (.ref (T.heap.size + 1 + j))) := rfl
      rw [hgs] at hnx
      generalize gU g n k T.heap.size (T.setVm vm₁) j = V at *
      simp only [wp_bind']
      rw [multianewarray.make]
      simp only [wp_bind', W.ite, hy, if_false, wp_pure', W.theClass, State.vm_setTop, hG.1, hk]
      refine ⟨kC₁, hkC₁, ?_⟩
      rw [hkindC₁]
      refine W.newArray_of (k := kC₁) (comp := cc0) (type := .int) (init := defaultValue .int) (by show V.vm.classes[g 0]? = _; rw [hG.1]; exact hkC₁) hkindC₁ hl2 hh2 (by show V.heap.size < _; exact q1) (by show V.slotsUsed + k ≤ _; exact q2) rfl (fun acts2 => ?_)
      have eD : ({ cls := g 0, slots := Array.replicate k (defaultValue .int), vm := .none } : Cell) = arrV (g 0) k (fun _ => .int 0) := arrV_new _ _ _
      have hlt0 : T.heap.size < V.heap.size := by have := hG.2.1; omega
      have hcell : (V.pushCell (arrV (g 0) k fun _ => .int 0)).heap[T.heap.size]? = some (arrV (g 2) n (gF T.heap.size j)) := by rw [State.heap_pushCell_of_lt (h := hlt0)]; exact hG.2.2.1
      rw [State.pushCell_setTop, eD]
      simp only [wp_bind', W.writeLoc, wp_pure', State.heap_setTop]
      refine ⟨arrV (g 2) n (gF T.heap.size j), hcell, by simp [arrV], by rw [arrV_size]; exact hlt, ?_, ?_⟩
      · simp [State.fitsSlot, State.slotType?, arrV, hG.1, hkA₁, hkindA₁]
        rfl
      · rw [State.setCell_setTop, hG.2.1]
        exact hnx _ rfl _ _
    · rintro U d' acts' ⟨i, hi, hr, rfl⟩
      have hin : i = n := by
        rcases Nat.lt_or_ge i n with h | h
        · rw [show n - i = (n - (i + 1)) + 1 by omega, List.range'_succ] at hr
          cases hr
        · omega
      subst hin
      simp only [wp_pure']
      exact hQ d' acts'
  subst hb
  jvm_step X.here [hexec, hdg]
  simp only [multianewarray.sem, wp_bind', W.resolveClassAt_links (State.method?_setTop f X.here.top) hg₁]
  rw [W.popN, if_neg (by decide)]
  refine ⟨f, State.topJava?_setTop' (s := T.setVm vm₁) f X.here.top, [.int x, .int y], rest, rfl, hst, ?_⟩
  simp only [List.mapM_cons, List.mapM_nil, wp_bind', wp_pure']
  have eS : ((T.setTop f).setVm vm₁).setTop { f with stack := rest } = (T.setVm vm₁).setTop { f with stack := rest } := by
    show ((T.setVm vm₁).setTop f).setTop _ = _
    rw [State.setTop_setTop]
  rw [eS]
  refine key _ _ _ _ (fun d' acts' => ?_)
  simp only [wp_bind', W.mark, W.pushRef, State.topJava?_setTop' _ hXn.here.top, Option.some.injEq, exists_eq_left', State.setTop_setTop, State.heap_setTop]
  intro acts
  simp [jvm, hXn.here.top]
  exact a1
end GRID

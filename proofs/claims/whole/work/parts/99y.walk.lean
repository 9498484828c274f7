/-! THE LAW, from its entry. -/
set_option maxHeartbeats 8000000 in
set_option maxRecDepth 100000 in
theorem whole_start {p : Program} {e : Env} {s : State} {m : MethodId} {below : List Frame} {meth : Method} {c : Code} (l : Launch) (hflags : l.flags = flags0) {b L : Nat} {xs : Nat → Int32} (hL : L ≤ 320) (C0 : lw_At p s m meth c b L xs) : W p l e room_1 s m #[Value.ref b] below meth c s.heap [] 0 0 (lw_Z below #[Value.ref b] s) (entryFrame m ([Value.ref b] : List Value).toArray 4) := by
  obtain ⟨D, g, hK, hCs, hAO⟩ := at_start C0
  obtain ⟨hx, hb, hr, hml, hown, hts, hX, hbl, hlocks, hgv⟩ := id C0
  have hg : ∀ w ∈ GW, w.before #[Value.ref b] s = true := fun w hw => hts w (List.mem_filter.mp hw).1
  have hA : ∀ q : Nat, s.heap.size ≤ q → (fun q : Nat => s.heap.size ≤ q) q := fun _ h => h
  have hS : va_S (fun q : Nat => s.heap.size ≤ q) s.heap s.heap [] := va_S.rf
  have hP : va_P D classes [] s.heap := fun k q h => by simp at h
  have hD : va_D (fun q : Nat => s.heap.size ≤ q) [] := ⟨fun i j p q h => by simp at h, fun k q h => by simp at h⟩
  have hl := lv_entry ([.ref b]) (n := 4) (Nat.le_of_ble_eq_true rfl)
  rw [lg_entry_eq]
  generalize (lg_sl ([.ref b]) ++ List.replicate (4 - (lg_sl ([.ref b])).length) Slot.unset).toArray = ls at hl ⊢
  have hl : lv_has ls 4 [(0, .ref b)] := hl
  refine newO (C := R_OL) (T := F_OL) (N := 8) (ci := 0) hx hb hg i_OL t_OL t_OL_ok hown g_91 g_92 g_71 hK hP hD hS hA rfl bl_OL (Nat.le_of_ble_eq_true rfl) (Nat.le_of_ble_eq_true rfl) d_law_0 (fun q0 H hP hD hS => ?_)
  refine W.widen (k := 1) (n := 8) (by omega) (by omega) ?_
  refine lv_dup hx hb d_law_3 rfl ?_
  refine callIC2 (nL := 4) hAO hx hb hml hown hg hK hP hD hS hA hCs hl.1 (c_OL_init l D g q0) oc_OL g_93 (Nat.le_of_ble_eq_true rfl) ⟨rfl, rfl, Nat.le_of_ble_eq_true rfl, Nat.le_of_ble_eq_true rfl⟩ ⟨Nat.le_of_ble_eq_true rfl, Nat.le_of_ble_eq_true rfl⟩ d_law_4 (fun a1 H locs ha hP9 hD9 hS => ?_)
  subst ha
  have hP : va_P D classes (ws_OL g a1 i_T_OL) H := hP9
  have hD : va_D (fun q : Nat => s.heap.size ≤ q) (ws_OL g a1 i_T_OL) := hD9
  refine W.widen (k := 83) (n := 1128) (by omega) (by omega) ?_
  refine lv_astore_n (lv' := [(1, .ref (a1 0)), (0, .ref b)]) hx hb d_law_7 rfl hl (by decide) rfl (fun ls hl => ?_)
  refine newO (C := R_Mo) (T := F_Mo) (N := 26) (ci := 1) hx hb hg i_Mo t_Mo t_Mo_ok hown g_987 g_988 g_81 hK hP hD hS hA rfl bl_Mo (Nat.le_of_ble_eq_true rfl) (Nat.le_of_ble_eq_true rfl) d_law_8 (fun q8 H hP hD hS => ?_)
  refine W.widen (k := 84) (n := 1154) (by omega) (by omega) ?_
  refine lv_dup hx hb d_law_11 rfl ?_
  refine callIC (nL := 4) hx hb hml hown hg hK hP hD hS hA hCs hl.1 (c_Mo_init l D g q8) oc_Mo g_989 (Nat.le_of_ble_eq_true rfl) ⟨rfl, rfl, Nat.le_of_ble_eq_true rfl, Nat.le_of_ble_eq_true rfl⟩ ⟨Nat.le_of_ble_eq_true rfl, Nat.le_of_ble_eq_true rfl⟩ d_law_12 (fun a2 H locs ha hP9 hD9 hS => ?_)
  subst ha
  refine W.widen (k := 600000) (n := 7302250) (Nat.le_of_ble_eq_true rfl) (Nat.le_of_ble_eq_true rfl) ?_
  refine lv_astore_n (lv' := [(2, .ref (a2 0)), (1, .ref (a1 0)), (0, .ref b)]) hx hb d_law_15 rfl hl (by decide) rfl (fun ls hl => ?_)
  refine lv_iconst (v := 0) hx hb d_law_16 (by decide) ?_
  refine lv_istore_n (lv' := [(3, .int 0), (2, .ref (a2 0)), (1, .ref (a1 0)), (0, .ref b)]) hx hb d_law_17 rfl hl (by decide) rfl (fun ls hl => ?_)
  exact law_loop hL C0 hK hCs s_feed s_land s_person s_of s_strength s_row s_thing s_at s_give s_like s_when s_bench s_year s_best s_most s_train s_moved s_gives s_parts s_swap s_rest s_fair s_had s_odds s_see s_looked s_act s_trace s_as s_image s_undo s_count 401 0 0 (by omega) (by omega) rfl i_T_OL i_T_Mo H locs ls rl_0 hP9 hD9 hS (lv_sub hl [3, 2, 1, 0] rfl)

def R_OL : String := "OwnsLift"
def F_OL : u_T := fun k => match k with
  | 0 => ("OwnsLift", "now", "LOwnsLift$Realm;", true)
  | 1 => ("OwnsLift", "kept", "LOwnsLift$Realm;", true)
  | 2 => ("OwnsLift", "hasImage", "Z", false)
  | 3 => ("OwnsLift", "reader", "LOwnsLift$Reader;", true)
  | 4 => ("OwnsLift", "standing", "LOwnsLift$Standing;", true)
  | 5 => ("OwnsLift", "shares", "LOwnsLift$Shares;", true)
  | 6 => ("OwnsLift", "fraction", "LOwnsLift$Fraction;", true)
  | _ => ("OwnsLift", "acts", "LOwnsLift$Acts;", true)
def t_OL : Nat → FieldType := fun k => match k with
  | 0 => .object "OwnsLift$Realm"
  | 1 => .object "OwnsLift$Realm"
  | 2 => .boolean
  | 3 => .object "OwnsLift$Reader"
  | 4 => .object "OwnsLift$Standing"
  | 5 => .object "OwnsLift$Shares"
  | 6 => .object "OwnsLift$Fraction"
  | _ => .object "OwnsLift$Acts"
theorem n_OL : ∀ a, a < 8 → ∀ b, b < 8 → a ≠ b → (F_OL a).2.1 ≠ (F_OL b).2.1 := by decide +kernel
theorem t_OL_ok : ∀ k, k < 8 → parseFieldDescriptor (F_OL k).2.2.1 = some (t_OL k) := by decide +kernel
theorem i_OL : ∀ w ∈ u_ws R_OL F_OL 8, w ∈ GW := by
  have h : ∀ k, k < 8 → u_lay R_OL F_OL k ∈ GW := by
    intro k hk
    match k, hk with
    | 0, _ => exact gt_2 94 (by decide +kernel) rfl
    | 1, _ => exact gt_2 96 (by decide +kernel) rfl
    | 2, _ => exact gt_2 98 (by decide +kernel) rfl
    | 3, _ => exact gt_2 100 (by decide +kernel) rfl
    | 4, _ => exact gt_2 102 (by decide +kernel) rfl
    | 5, _ => exact gt_2 104 (by decide +kernel) rfl
    | 6, _ => exact gt_2 106 (by decide +kernel) rfl
    | 7, _ => exact gt_2 108 (by decide +kernel) rfl
    | k + 8, hk => exact absurd hk (by omega)
  intro w hw
  obtain ⟨k, hk, rfl⟩ := List.mem_map.mp hw
  exact h k (List.mem_range.mp hk)
def R_Mo : String := "OwnsLiftModel"
def F_Mo : u_T := fun k => match k with
  | 0 => ("OwnsLiftModel", "thrown", "I", false)
  | 1 => ("OwnsLiftModel", "s", "[I", true)
  | 2 => ("OwnsLiftModel", "image", "[I", true)
  | 3 => ("OwnsLiftModel", "owners", "[I", true)
  | 4 => ("OwnsLiftModel", "hasImage", "Z", false)
  | 5 => ("OwnsLiftModel", "act", "I", false)
  | 6 => ("OwnsLiftModel", "spot", "I", false)
  | 7 => ("OwnsLiftModel", "end", "I", false)
  | 8 => ("OwnsLiftModel", "isWrong", "Z", false)
  | 9 => ("OwnsLiftModel", "open", "I", false)
  | 10 => ("OwnsLiftModel", "by", "[I", true)
  | 11 => ("OwnsLiftModel", "truths", "[Z", true)
  | 12 => ("OwnsLiftModel", "likes", "[I", true)
  | 13 => ("OwnsLiftModel", "lifts", "[I", true)
  | 14 => ("OwnsLiftModel", "loads", "[I", true)
  | 15 => ("OwnsLiftModel", "way", "[I", true)
  | 16 => ("OwnsLiftModel", "bestWay", "[I", true)
  | 17 => ("OwnsLiftModel", "bestLike", "I", false)
  | 18 => ("OwnsLiftModel", "mostOwned", "I", false)
  | 19 => ("OwnsLiftModel", "fewest", "I", false)
  | 20 => ("OwnsLiftModel", "swaps", "I", false)
  | 21 => ("OwnsLiftModel", "bodies", "[I", true)
  | 22 => ("OwnsLiftModel", "ran", "I", false)
  | 23 => ("OwnsLiftModel", "kind", "I", false)
  | 24 => ("OwnsLiftModel", "number", "I", false)
  | _ => ("OwnsLiftModel", "tellsV", "I", false)
def t_Mo : Nat → FieldType := fun k => match k with
  | 0 => .int
  | 1 => .array .int
  | 2 => .array .int
  | 3 => .array .int
  | 4 => .boolean
  | 5 => .int
  | 6 => .int
  | 7 => .int
  | 8 => .boolean
  | 9 => .int
  | 10 => .array .int
  | 11 => .array .boolean
  | 12 => .array .int
  | 13 => .array .int
  | 14 => .array .int
  | 15 => .array .int
  | 16 => .array .int
  | 17 => .int
  | 18 => .int
  | 19 => .int
  | 20 => .int
  | 21 => .array .int
  | 22 => .int
  | 23 => .int
  | 24 => .int
  | _ => .int
theorem n_Mo : ∀ a, a < 26 → ∀ b, b < 26 → a ≠ b → (F_Mo a).2.1 ≠ (F_Mo b).2.1 := by decide +kernel
theorem t_Mo_ok : ∀ k, k < 26 → parseFieldDescriptor (F_Mo k).2.2.1 = some (t_Mo k) := by decide +kernel
theorem i_Mo : ∀ w ∈ u_ws R_Mo F_Mo 26, w ∈ GW := by
  have h : ∀ k, k < 26 → u_lay R_Mo F_Mo k ∈ GW := by
    intro k hk
    match k, hk with
    | 0, _ => exact gt_4 228 (by decide +kernel) rfl
    | 1, _ => exact gt_4 230 (by decide +kernel) rfl
    | 2, _ => exact gt_4 232 (by decide +kernel) rfl
    | 3, _ => exact gt_4 234 (by decide +kernel) rfl
    | 4, _ => exact gt_4 236 (by decide +kernel) rfl
    | 5, _ => exact gt_4 238 (by decide +kernel) rfl
    | 6, _ => exact gt_5 0 (by decide +kernel) rfl
    | 7, _ => exact gt_5 2 (by decide +kernel) rfl
    | 8, _ => exact gt_5 4 (by decide +kernel) rfl
    | 9, _ => exact gt_5 6 (by decide +kernel) rfl
    | 10, _ => exact gt_5 8 (by decide +kernel) rfl
    | 11, _ => exact gt_5 10 (by decide +kernel) rfl
    | 12, _ => exact gt_5 12 (by decide +kernel) rfl
    | 13, _ => exact gt_5 14 (by decide +kernel) rfl
    | 14, _ => exact gt_5 16 (by decide +kernel) rfl
    | 15, _ => exact gt_5 18 (by decide +kernel) rfl
    | 16, _ => exact gt_5 20 (by decide +kernel) rfl
    | 17, _ => exact gt_5 22 (by decide +kernel) rfl
    | 18, _ => exact gt_5 24 (by decide +kernel) rfl
    | 19, _ => exact gt_5 26 (by decide +kernel) rfl
    | 20, _ => exact gt_5 28 (by decide +kernel) rfl
    | 21, _ => exact gt_5 30 (by decide +kernel) rfl
    | 22, _ => exact gt_5 32 (by decide +kernel) rfl
    | 23, _ => exact gt_5 34 (by decide +kernel) rfl
    | 24, _ => exact gt_5 36 (by decide +kernel) rfl
    | 25, _ => exact gt_5 38 (by decide +kernel) rfl
    | k + 26, hk => exact absurd hk (by omega)
  intro w hw
  obtain ⟨k, hk, rfl⟩ := List.mem_map.mp hw
  exact h k (List.mem_range.mp hk)
def R_Ac : String := "OwnsLift$Acts"
def F_Ac : u_T := fun k => match k with
  | 0 => ("OwnsLift$Acts", "bodies", "[I", true)
  | 1 => ("OwnsLift$Acts", "ran", "I", false)
  | 2 => ("OwnsLift$Acts", "number", "I", false)
  | 3 => ("OwnsLift$Acts", "v", "I", false)
  | _ => ("OwnsLift$Acts", "kind", "I", false)
def t_Ac : Nat → FieldType := fun k => match k with
  | 0 => .array .int
  | 1 => .int
  | 2 => .int
  | 3 => .int
  | _ => .int
theorem n_Ac : ∀ a, a < 5 → ∀ b, b < 5 → a ≠ b → (F_Ac a).2.1 ≠ (F_Ac b).2.1 := by decide +kernel
theorem t_Ac_ok : ∀ k, k < 5 → parseFieldDescriptor (F_Ac k).2.2.1 = some (t_Ac k) := by decide +kernel
theorem i_Ac : ∀ w ∈ u_ws R_Ac F_Ac 5, w ∈ GW := by
  have h : ∀ k, k < 5 → u_lay R_Ac F_Ac k ∈ GW := by
    intro k hk
    match k, hk with
    | 0, _ => exact gt_2 75 (by decide +kernel) rfl
    | 1, _ => exact gt_2 77 (by decide +kernel) rfl
    | 2, _ => exact gt_2 79 (by decide +kernel) rfl
    | 3, _ => exact gt_2 81 (by decide +kernel) rfl
    | 4, _ => exact gt_2 83 (by decide +kernel) rfl
    | k + 5, hk => exact absurd hk (by omega)
  intro w hw
  obtain ⟨k, hk, rfl⟩ := List.mem_map.mp hw
  exact h k (List.mem_range.mp hk)
def R_Fr : String := "OwnsLift$Fraction"
def F_Fr : u_T := fun k => match k with
  | 0 => ("OwnsLift$Fraction", "above", "J", false)
  | _ => ("OwnsLift$Fraction", "below", "J", false)
def t_Fr : Nat → FieldType := fun k => match k with
  | 0 => .long
  | _ => .long
theorem n_Fr : ∀ a, a < 2 → ∀ b, b < 2 → a ≠ b → (F_Fr a).2.1 ≠ (F_Fr b).2.1 := by decide +kernel
theorem t_Fr_ok : ∀ k, k < 2 → parseFieldDescriptor (F_Fr k).2.2.1 = some (t_Fr k) := by decide +kernel
theorem i_Fr : ∀ w ∈ u_ws R_Fr F_Fr 2, w ∈ GW := by
  have h : ∀ k, k < 2 → u_lay R_Fr F_Fr k ∈ GW := by
    intro k hk
    match k, hk with
    | 0, _ => exact gt_2 57 (by decide +kernel) rfl
    | 1, _ => exact gt_2 59 (by decide +kernel) rfl
    | k + 2, hk => exact absurd hk (by omega)
  intro w hw
  obtain ⟨k, hk, rfl⟩ := List.mem_map.mp hw
  exact h k (List.mem_range.mp hk)
def R_La : String := "OwnsLift$Land"
def F_La : u_T := fun k => match k with
  | 0 => ("OwnsLift$Land", "clauses", "I", false)
  | 1 => ("OwnsLift$Land", "word", "[I", true)
  | 2 => ("OwnsLift$Land", "n", "[I", true)
  | 3 => ("OwnsLift$Land", "end", "[I", true)
  | 4 => ("OwnsLift$Land", "code", "[I", true)
  | _ => ("OwnsLift$Land", "codes", "I", false)
def t_La : Nat → FieldType := fun k => match k with
  | 0 => .int
  | 1 => .array .int
  | 2 => .array .int
  | 3 => .array .int
  | 4 => .array .int
  | _ => .int
theorem n_La : ∀ a, a < 6 → ∀ b, b < 6 → a ≠ b → (F_La a).2.1 ≠ (F_La b).2.1 := by decide +kernel
theorem t_La_ok : ∀ k, k < 6 → parseFieldDescriptor (F_La k).2.2.1 = some (t_La k) := by decide +kernel
theorem i_La : ∀ w ∈ u_ws R_La F_La 6, w ∈ GW := by
  have h : ∀ k, k < 6 → u_lay R_La F_La k ∈ GW := by
    intro k hk
    match k, hk with
    | 0, _ => exact gt_1 47 (by decide +kernel) rfl
    | 1, _ => exact gt_1 49 (by decide +kernel) rfl
    | 2, _ => exact gt_1 51 (by decide +kernel) rfl
    | 3, _ => exact gt_1 53 (by decide +kernel) rfl
    | 4, _ => exact gt_1 55 (by decide +kernel) rfl
    | 5, _ => exact gt_1 57 (by decide +kernel) rfl
    | k + 6, hk => exact absurd hk (by omega)
  intro w hw
  obtain ⟨k, hk, rfl⟩ := List.mem_map.mp hw
  exact h k (List.mem_range.mp hk)
def R_Pe : String := "OwnsLift$People"
def F_Pe : u_T := fun k => match k with
  | 0 => ("OwnsLift$People", "size", "I", false)
  | 1 => ("OwnsLift$People", "kind", "[I", true)
  | 2 => ("OwnsLift$People", "v", "[I", true)
  | 3 => ("OwnsLift$People", "strength", "[I", true)
  | 4 => ("OwnsLift$People", "age", "[I", true)
  | 5 => ("OwnsLift$People", "rowSize", "[I", true)
  | _ => ("OwnsLift$People", "rows", "[[I", true)
def t_Pe : Nat → FieldType := fun k => match k with
  | 0 => .int
  | 1 => .array .int
  | 2 => .array .int
  | 3 => .array .int
  | 4 => .array .int
  | 5 => .array .int
  | _ => .array (.array .int)
theorem n_Pe : ∀ a, a < 7 → ∀ b, b < 7 → a ≠ b → (F_Pe a).2.1 ≠ (F_Pe b).2.1 := by decide +kernel
theorem t_Pe_ok : ∀ k, k < 7 → parseFieldDescriptor (F_Pe k).2.2.1 = some (t_Pe k) := by decide +kernel
theorem i_Pe : ∀ w ∈ u_ws R_Pe F_Pe 7, w ∈ GW := by
  have h : ∀ k, k < 7 → u_lay R_Pe F_Pe k ∈ GW := by
    intro k hk
    match k, hk with
    | 0, _ => exact gt_1 93 (by decide +kernel) rfl
    | 1, _ => exact gt_1 95 (by decide +kernel) rfl
    | 2, _ => exact gt_1 97 (by decide +kernel) rfl
    | 3, _ => exact gt_1 99 (by decide +kernel) rfl
    | 4, _ => exact gt_1 101 (by decide +kernel) rfl
    | 5, _ => exact gt_1 103 (by decide +kernel) rfl
    | 6, _ => exact gt_1 105 (by decide +kernel) rfl
    | k + 7, hk => exact absurd hk (by omega)
  intro w hw
  obtain ⟨k, hk, rfl⟩ := List.mem_map.mp hw
  exact h k (List.mem_range.mp hk)
def R_Rd : String := "OwnsLift$Reader"
def F_Rd : u_T := fun k => match k with
  | 0 => ("OwnsLift$Reader", "draft", "LOwnsLift$Land;", true)
  | 1 => ("OwnsLift$Reader", "place", "I", false)
  | 2 => ("OwnsLift$Reader", "text", "[I", true)
  | _ => ("OwnsLift$Reader", "size", "I", false)
def t_Rd : Nat → FieldType := fun k => match k with
  | 0 => .object "OwnsLift$Land"
  | 1 => .int
  | 2 => .array .int
  | _ => .int
theorem n_Rd : ∀ a, a < 4 → ∀ b, b < 4 → a ≠ b → (F_Rd a).2.1 ≠ (F_Rd b).2.1 := by decide +kernel
theorem t_Rd_ok : ∀ k, k < 4 → parseFieldDescriptor (F_Rd k).2.2.1 = some (t_Rd k) := by decide +kernel
theorem i_Rd : ∀ w ∈ u_ws R_Rd F_Rd 4, w ∈ GW := by
  have h : ∀ k, k < 4 → u_lay R_Rd F_Rd k ∈ GW := by
    intro k hk
    match k, hk with
    | 0, _ => exact gt_1 192 (by decide +kernel) rfl
    | 1, _ => exact gt_1 194 (by decide +kernel) rfl
    | 2, _ => exact gt_1 196 (by decide +kernel) rfl
    | 3, _ => exact gt_1 198 (by decide +kernel) rfl
    | k + 4, hk => exact absurd hk (by omega)
  intro w hw
  obtain ⟨k, hk, rfl⟩ := List.mem_map.mp hw
  exact h k (List.mem_range.mp hk)
def R_Re : String := "OwnsLift$Realm"
def F_Re : u_T := fun k => match k with
  | 0 => ("OwnsLift$Realm", "tape", "[I", true)
  | 1 => ("OwnsLift$Realm", "signs", "I", false)
  | 2 => ("OwnsLift$Realm", "land", "LOwnsLift$Land;", true)
  | 3 => ("OwnsLift$Realm", "lands", "I", false)
  | 4 => ("OwnsLift$Realm", "people", "LOwnsLift$People;", true)
  | 5 => ("OwnsLift$Realm", "things", "LOwnsLift$Things;", true)
  | 6 => ("OwnsLift$Realm", "year", "I", false)
  | 7 => ("OwnsLift$Realm", "seenWho", "[I", true)
  | 8 => ("OwnsLift$Realm", "seenCould", "[I", true)
  | 9 => ("OwnsLift$Realm", "seen", "I", false)
  | _ => ("OwnsLift$Realm", "facts", "[I", true)
def t_Re : Nat → FieldType := fun k => match k with
  | 0 => .array .int
  | 1 => .int
  | 2 => .object "OwnsLift$Land"
  | 3 => .int
  | 4 => .object "OwnsLift$People"
  | 5 => .object "OwnsLift$Things"
  | 6 => .int
  | 7 => .array .int
  | 8 => .array .int
  | 9 => .int
  | _ => .array .int
theorem n_Re : ∀ a, a < 11 → ∀ b, b < 11 → a ≠ b → (F_Re a).2.1 ≠ (F_Re b).2.1 := by decide +kernel
theorem t_Re_ok : ∀ k, k < 11 → parseFieldDescriptor (F_Re k).2.2.1 = some (t_Re k) := by decide +kernel
theorem i_Re : ∀ w ∈ u_ws R_Re F_Re 11, w ∈ GW := by
  have h : ∀ k, k < 11 → u_lay R_Re F_Re k ∈ GW := by
    intro k hk
    match k, hk with
    | 0, _ => exact gt_1 155 (by decide +kernel) rfl
    | 1, _ => exact gt_1 157 (by decide +kernel) rfl
    | 2, _ => exact gt_1 159 (by decide +kernel) rfl
    | 3, _ => exact gt_1 161 (by decide +kernel) rfl
    | 4, _ => exact gt_1 163 (by decide +kernel) rfl
    | 5, _ => exact gt_1 165 (by decide +kernel) rfl
    | 6, _ => exact gt_1 167 (by decide +kernel) rfl
    | 7, _ => exact gt_1 169 (by decide +kernel) rfl
    | 8, _ => exact gt_1 171 (by decide +kernel) rfl
    | 9, _ => exact gt_1 173 (by decide +kernel) rfl
    | 10, _ => exact gt_1 175 (by decide +kernel) rfl
    | k + 11, hk => exact absurd hk (by omega)
  intro w hw
  obtain ⟨k, hk, rfl⟩ := List.mem_map.mp hw
  exact h k (List.mem_range.mp hk)
def R_Sh : String := "OwnsLift$Shares"
def F_Sh : u_T := fun k => match k with
  | 0 => ("OwnsLift$Shares", "found", "Z", false)
  | 1 => ("OwnsLift$Shares", "sum", "I", false)
  | 2 => ("OwnsLift$Shares", "owner", "[I", true)
  | 3 => ("OwnsLift$Shares", "people", "I", false)
  | 4 => ("OwnsLift$Shares", "things", "I", false)
  | 5 => ("OwnsLift$Shares", "worth", "[[I", true)
  | 6 => ("OwnsLift$Shares", "weight", "[I", true)
  | 7 => ("OwnsLift$Shares", "room", "[I", true)
  | 8 => ("OwnsLift$Shares", "trial", "[I", true)
  | _ => ("OwnsLift$Shares", "hope", "[I", true)
def t_Sh : Nat → FieldType := fun k => match k with
  | 0 => .boolean
  | 1 => .int
  | 2 => .array .int
  | 3 => .int
  | 4 => .int
  | 5 => .array (.array .int)
  | 6 => .array .int
  | 7 => .array .int
  | 8 => .array .int
  | _ => .array .int
theorem n_Sh : ∀ a, a < 10 → ∀ b, b < 10 → a ≠ b → (F_Sh a).2.1 ≠ (F_Sh b).2.1 := by decide +kernel
theorem t_Sh_ok : ∀ k, k < 10 → parseFieldDescriptor (F_Sh k).2.2.1 = some (t_Sh k) := by decide +kernel
theorem i_Sh : ∀ w ∈ u_ws R_Sh F_Sh 10, w ∈ GW := by
  have h : ∀ k, k < 10 → u_lay R_Sh F_Sh k ∈ GW := by
    intro k hk
    match k, hk with
    | 0, _ => exact gt_2 26 (by decide +kernel) rfl
    | 1, _ => exact gt_2 28 (by decide +kernel) rfl
    | 2, _ => exact gt_2 30 (by decide +kernel) rfl
    | 3, _ => exact gt_2 32 (by decide +kernel) rfl
    | 4, _ => exact gt_2 34 (by decide +kernel) rfl
    | 5, _ => exact gt_2 36 (by decide +kernel) rfl
    | 6, _ => exact gt_2 38 (by decide +kernel) rfl
    | 7, _ => exact gt_2 40 (by decide +kernel) rfl
    | 8, _ => exact gt_2 42 (by decide +kernel) rfl
    | 9, _ => exact gt_2 44 (by decide +kernel) rfl
    | k + 10, hk => exact absurd hk (by omega)
  intro w hw
  obtain ⟨k, hk, rfl⟩ := List.mem_map.mp hw
  exact h k (List.mem_range.mp hk)
def R_St : String := "OwnsLift$Standing"
def F_St : u_T := fun k => match k with
  | 0 => ("OwnsLift$Standing", "people", "I", false)
  | 1 => ("OwnsLift$Standing", "things", "I", false)
  | 2 => ("OwnsLift$Standing", "like", "[[I", true)
  | 3 => ("OwnsLift$Standing", "lifts", "[I", true)
  | 4 => ("OwnsLift$Standing", "ill", "[I", true)
  | 5 => ("OwnsLift$Standing", "weight", "[I", true)
  | _ => ("OwnsLift$Standing", "owner", "[I", true)
def t_St : Nat → FieldType := fun k => match k with
  | 0 => .int
  | 1 => .int
  | 2 => .array (.array .int)
  | 3 => .array .int
  | 4 => .array .int
  | 5 => .array .int
  | _ => .array .int
theorem n_St : ∀ a, a < 7 → ∀ b, b < 7 → a ≠ b → (F_St a).2.1 ≠ (F_St b).2.1 := by decide +kernel
theorem t_St_ok : ∀ k, k < 7 → parseFieldDescriptor (F_St k).2.2.1 = some (t_St k) := by decide +kernel
theorem i_St : ∀ w ∈ u_ws R_St F_St 7, w ∈ GW := by
  have h : ∀ k, k < 7 → u_lay R_St F_St k ∈ GW := by
    intro k hk
    match k, hk with
    | 0, _ => exact gt_1 231 (by decide +kernel) rfl
    | 1, _ => exact gt_1 233 (by decide +kernel) rfl
    | 2, _ => exact gt_1 235 (by decide +kernel) rfl
    | 3, _ => exact gt_1 237 (by decide +kernel) rfl
    | 4, _ => exact gt_1 239 (by decide +kernel) rfl
    | 5, _ => exact gt_2 1 (by decide +kernel) rfl
    | 6, _ => exact gt_2 3 (by decide +kernel) rfl
    | k + 7, hk => exact absurd hk (by omega)
  intro w hw
  obtain ⟨k, hk, rfl⟩ := List.mem_map.mp hw
  exact h k (List.mem_range.mp hk)
def R_Th : String := "OwnsLift$Things"
def F_Th : u_T := fun k => match k with
  | 0 => ("OwnsLift$Things", "size", "I", false)
  | 1 => ("OwnsLift$Things", "weight", "[I", true)
  | _ => ("OwnsLift$Things", "owner", "[I", true)
def t_Th : Nat → FieldType := fun k => match k with
  | 0 => .int
  | 1 => .array .int
  | _ => .array .int
theorem n_Th : ∀ a, a < 3 → ∀ b, b < 3 → a ≠ b → (F_Th a).2.1 ≠ (F_Th b).2.1 := by decide +kernel
theorem t_Th_ok : ∀ k, k < 3 → parseFieldDescriptor (F_Th k).2.2.1 = some (t_Th k) := by decide +kernel
theorem i_Th : ∀ w ∈ u_ws R_Th F_Th 3, w ∈ GW := by
  have h : ∀ k, k < 3 → u_lay R_Th F_Th k ∈ GW := by
    intro k hk
    match k, hk with
    | 0, _ => exact gt_1 125 (by decide +kernel) rfl
    | 1, _ => exact gt_1 127 (by decide +kernel) rfl
    | 2, _ => exact gt_1 129 (by decide +kernel) rfl
    | k + 3, hk => exact absurd hk (by omega)
  intro w hw
  obtain ⟨k, hk, rfl⟩ := List.mem_map.mp hw
  exact h k (List.mem_range.mp hk)
abbrev classes : List vw_C := [(R_OL, F_OL, 8), (R_Mo, F_Mo, 26), (R_Ac, F_Ac, 5), (R_Fr, F_Fr, 2), (R_La, F_La, 6), (R_Pe, F_Pe, 7), (R_Rd, F_Rd, 4), (R_Re, F_Re, 11), (R_Sh, F_Sh, 10), (R_St, F_St, 7), (R_Th, F_Th, 3)]
abbrev T_Ac : Type := (Nat → Int32) × Int32 × Int32 × Int32 × Int32
abbrev q_Ac_bodies (z : T_Ac) : Nat → Int32 := z.1
abbrev q_Ac_ran (z : T_Ac) : Int32 := z.2.1
abbrev q_Ac_number (z : T_Ac) : Int32 := z.2.2.1
abbrev q_Ac_v (z : T_Ac) : Int32 := z.2.2.2.1
abbrev q_Ac_kind (z : T_Ac) : Int32 := z.2.2.2.2
abbrev u_Ac_bodies (z : T_Ac) (x : Nat → Int32) : T_Ac := (x, z.2.1, z.2.2.1, z.2.2.2.1, z.2.2.2.2)
abbrev u_Ac_ran (z : T_Ac) (x : Int32) : T_Ac := (z.1, x, z.2.2.1, z.2.2.2.1, z.2.2.2.2)
abbrev u_Ac_number (z : T_Ac) (x : Int32) : T_Ac := (z.1, z.2.1, x, z.2.2.2.1, z.2.2.2.2)
abbrev u_Ac_v (z : T_Ac) (x : Int32) : T_Ac := (z.1, z.2.1, z.2.2.1, x, z.2.2.2.2)
abbrev u_Ac_kind (z : T_Ac) (x : Int32) : T_Ac := (z.1, z.2.1, z.2.2.1, z.2.2.2.1, x)
def ws_Ac (g : Nat → ClassId) (a : Nat → Nat) (z : T_Ac) : va_W :=
  [(a 0, .inr (2, [.ref (a 1), .int (q_Ac_ran z), .int (q_Ac_number z), .int (q_Ac_v z), .int (q_Ac_kind z)])),
   (a 1, .inl (g 0, 20, .inl (q_Ac_bodies z)))]
abbrev T_Fr : Type := Int64 × Int64
abbrev q_Fr_above (z : T_Fr) : Int64 := z.1
abbrev q_Fr_below (z : T_Fr) : Int64 := z.2
abbrev u_Fr_above (z : T_Fr) (x : Int64) : T_Fr := (x, z.2)
abbrev u_Fr_below (z : T_Fr) (x : Int64) : T_Fr := (z.1, x)
def ws_Fr (g : Nat → ClassId) (a : Nat → Nat) (z : T_Fr) : va_W :=
  [(a 0, .inr (3, [.long (q_Fr_above z), .long (q_Fr_below z)]))]
abbrev T_La : Type := Int32 × (Nat → Int32) × (Nat → Int32) × (Nat → Int32) × (Nat → Int32) × Int32
abbrev q_La_clauses (z : T_La) : Int32 := z.1
abbrev q_La_word (z : T_La) : Nat → Int32 := z.2.1
abbrev q_La_n (z : T_La) : Nat → Int32 := z.2.2.1
abbrev q_La_end (z : T_La) : Nat → Int32 := z.2.2.2.1
abbrev q_La_code (z : T_La) : Nat → Int32 := z.2.2.2.2.1
abbrev q_La_codes (z : T_La) : Int32 := z.2.2.2.2.2
abbrev u_La_clauses (z : T_La) (x : Int32) : T_La := (x, z.2.1, z.2.2.1, z.2.2.2.1, z.2.2.2.2.1, z.2.2.2.2.2)
abbrev u_La_word (z : T_La) (x : Nat → Int32) : T_La := (z.1, x, z.2.2.1, z.2.2.2.1, z.2.2.2.2.1, z.2.2.2.2.2)
abbrev u_La_n (z : T_La) (x : Nat → Int32) : T_La := (z.1, z.2.1, x, z.2.2.2.1, z.2.2.2.2.1, z.2.2.2.2.2)
abbrev u_La_end (z : T_La) (x : Nat → Int32) : T_La := (z.1, z.2.1, z.2.2.1, x, z.2.2.2.2.1, z.2.2.2.2.2)
abbrev u_La_code (z : T_La) (x : Nat → Int32) : T_La := (z.1, z.2.1, z.2.2.1, z.2.2.2.1, x, z.2.2.2.2.2)
abbrev u_La_codes (z : T_La) (x : Int32) : T_La := (z.1, z.2.1, z.2.2.1, z.2.2.2.1, z.2.2.2.2.1, x)
def ws_La (g : Nat → ClassId) (a : Nat → Nat) (z : T_La) : va_W :=
  [(a 0, .inr (4, [.int (q_La_clauses z), .ref (a 1), .ref (a 2), .ref (a 3), .ref (a 4), .int (q_La_codes z)])),
   (a 1, .inl (g 0, 10, .inl (q_La_word z))),
   (a 2, .inl (g 0, 10, .inl (q_La_n z))),
   (a 3, .inl (g 0, 10, .inl (q_La_end z))),
   (a 4, .inl (g 0, 100, .inl (q_La_code z)))]
abbrev T_Pe : Type := Int32 × (Nat → Int32) × (Nat → Int32) × (Nat → Int32) × (Nat → Int32) × (Nat → Int32) × (Nat → Nat → Int32)
abbrev q_Pe_size (z : T_Pe) : Int32 := z.1
abbrev q_Pe_kind (z : T_Pe) : Nat → Int32 := z.2.1
abbrev q_Pe_v (z : T_Pe) : Nat → Int32 := z.2.2.1
abbrev q_Pe_strength (z : T_Pe) : Nat → Int32 := z.2.2.2.1
abbrev q_Pe_age (z : T_Pe) : Nat → Int32 := z.2.2.2.2.1
abbrev q_Pe_rowSize (z : T_Pe) : Nat → Int32 := z.2.2.2.2.2.1
abbrev q_Pe_rows (z : T_Pe) : Nat → Nat → Int32 := z.2.2.2.2.2.2
abbrev u_Pe_size (z : T_Pe) (x : Int32) : T_Pe := (x, z.2.1, z.2.2.1, z.2.2.2.1, z.2.2.2.2.1, z.2.2.2.2.2.1, z.2.2.2.2.2.2)
abbrev u_Pe_kind (z : T_Pe) (x : Nat → Int32) : T_Pe := (z.1, x, z.2.2.1, z.2.2.2.1, z.2.2.2.2.1, z.2.2.2.2.2.1, z.2.2.2.2.2.2)
abbrev u_Pe_v (z : T_Pe) (x : Nat → Int32) : T_Pe := (z.1, z.2.1, x, z.2.2.2.1, z.2.2.2.2.1, z.2.2.2.2.2.1, z.2.2.2.2.2.2)
abbrev u_Pe_strength (z : T_Pe) (x : Nat → Int32) : T_Pe := (z.1, z.2.1, z.2.2.1, x, z.2.2.2.2.1, z.2.2.2.2.2.1, z.2.2.2.2.2.2)
abbrev u_Pe_age (z : T_Pe) (x : Nat → Int32) : T_Pe := (z.1, z.2.1, z.2.2.1, z.2.2.2.1, x, z.2.2.2.2.2.1, z.2.2.2.2.2.2)
abbrev u_Pe_rowSize (z : T_Pe) (x : Nat → Int32) : T_Pe := (z.1, z.2.1, z.2.2.1, z.2.2.2.1, z.2.2.2.2.1, x, z.2.2.2.2.2.2)
abbrev u_Pe_rows (z : T_Pe) (x : Nat → Nat → Int32) : T_Pe := (z.1, z.2.1, z.2.2.1, z.2.2.2.1, z.2.2.2.2.1, z.2.2.2.2.2.1, x)
def ws_Pe (g : Nat → ClassId) (a : Nat → Nat) (z : T_Pe) : va_W :=
  [(a 0, .inr (5, [.int (q_Pe_size z), .ref (a 1), .ref (a 2), .ref (a 3), .ref (a 4), .ref (a 5), .ref (a 6)])),
   (a 1, .inl (g 0, 4, .inl (q_Pe_kind z))),
   (a 2, .inl (g 0, 4, .inl (q_Pe_v z))),
   (a 3, .inl (g 0, 4, .inl (q_Pe_strength z))),
   (a 4, .inl (g 0, 4, .inl (q_Pe_age z))),
   (a 5, .inl (g 0, 4, .inl (q_Pe_rowSize z))),
   (a 6, .inl (g 2, 4, .inr (.inr (.inr (.inr (fun j => some (a (j + 7)))))))),
   (a 7, .inl (g 0, 7, .inl ((q_Pe_rows z) 0))),
   (a 8, .inl (g 0, 7, .inl ((q_Pe_rows z) 1))),
   (a 9, .inl (g 0, 7, .inl ((q_Pe_rows z) 2))),
   (a 10, .inl (g 0, 7, .inl ((q_Pe_rows z) 3)))]
abbrev T_Th : Type := Int32 × (Nat → Int32) × (Nat → Int32)
abbrev q_Th_size (z : T_Th) : Int32 := z.1
abbrev q_Th_weight (z : T_Th) : Nat → Int32 := z.2.1
abbrev q_Th_owner (z : T_Th) : Nat → Int32 := z.2.2
abbrev u_Th_size (z : T_Th) (x : Int32) : T_Th := (x, z.2.1, z.2.2)
abbrev u_Th_weight (z : T_Th) (x : Nat → Int32) : T_Th := (z.1, x, z.2.2)
abbrev u_Th_owner (z : T_Th) (x : Nat → Int32) : T_Th := (z.1, z.2.1, x)
def ws_Th (g : Nat → ClassId) (a : Nat → Nat) (z : T_Th) : va_W :=
  [(a 0, .inr (10, [.int (q_Th_size z), .ref (a 1), .ref (a 2)])),
   (a 1, .inl (g 0, 7, .inl (q_Th_weight z))),
   (a 2, .inl (g 0, 7, .inl (q_Th_owner z)))]
abbrev T_St : Type := Int32 × Int32 × (Nat → Nat → Int32) × (Nat → Int32) × (Nat → Int32) × (Nat → Int32) × (Nat → Int32)
abbrev q_St_people (z : T_St) : Int32 := z.1
abbrev q_St_things (z : T_St) : Int32 := z.2.1
abbrev q_St_like (z : T_St) : Nat → Nat → Int32 := z.2.2.1
abbrev q_St_lifts (z : T_St) : Nat → Int32 := z.2.2.2.1
abbrev q_St_ill (z : T_St) : Nat → Int32 := z.2.2.2.2.1
abbrev q_St_weight (z : T_St) : Nat → Int32 := z.2.2.2.2.2.1
abbrev q_St_owner (z : T_St) : Nat → Int32 := z.2.2.2.2.2.2
abbrev u_St_people (z : T_St) (x : Int32) : T_St := (x, z.2.1, z.2.2.1, z.2.2.2.1, z.2.2.2.2.1, z.2.2.2.2.2.1, z.2.2.2.2.2.2)
abbrev u_St_things (z : T_St) (x : Int32) : T_St := (z.1, x, z.2.2.1, z.2.2.2.1, z.2.2.2.2.1, z.2.2.2.2.2.1, z.2.2.2.2.2.2)
abbrev u_St_like (z : T_St) (x : Nat → Nat → Int32) : T_St := (z.1, z.2.1, x, z.2.2.2.1, z.2.2.2.2.1, z.2.2.2.2.2.1, z.2.2.2.2.2.2)
abbrev u_St_lifts (z : T_St) (x : Nat → Int32) : T_St := (z.1, z.2.1, z.2.2.1, x, z.2.2.2.2.1, z.2.2.2.2.2.1, z.2.2.2.2.2.2)
abbrev u_St_ill (z : T_St) (x : Nat → Int32) : T_St := (z.1, z.2.1, z.2.2.1, z.2.2.2.1, x, z.2.2.2.2.2.1, z.2.2.2.2.2.2)
abbrev u_St_weight (z : T_St) (x : Nat → Int32) : T_St := (z.1, z.2.1, z.2.2.1, z.2.2.2.1, z.2.2.2.2.1, x, z.2.2.2.2.2.2)
abbrev u_St_owner (z : T_St) (x : Nat → Int32) : T_St := (z.1, z.2.1, z.2.2.1, z.2.2.2.1, z.2.2.2.2.1, z.2.2.2.2.2.1, x)
def ws_St (g : Nat → ClassId) (a : Nat → Nat) (z : T_St) : va_W :=
  [(a 0, .inr (9, [.int (q_St_people z), .int (q_St_things z), .ref (a 1), .ref (a 6), .ref (a 7), .ref (a 8), .ref (a 9)])),
   (a 1, .inl (g 2, 4, .inr (.inr (.inr (.inr (fun j => some (a (j + 2)))))))),
   (a 2, .inl (g 0, 7, .inl ((q_St_like z) 0))),
   (a 3, .inl (g 0, 7, .inl ((q_St_like z) 1))),
   (a 4, .inl (g 0, 7, .inl ((q_St_like z) 2))),
   (a 5, .inl (g 0, 7, .inl ((q_St_like z) 3))),
   (a 6, .inl (g 0, 4, .inl (q_St_lifts z))),
   (a 7, .inl (g 0, 4, .inl (q_St_ill z))),
   (a 8, .inl (g 0, 7, .inl (q_St_weight z))),
   (a 9, .inl (g 0, 7, .inl (q_St_owner z)))]
abbrev T_Sh : Type := Int32 × Int32 × (Nat → Int32) × Int32 × Int32 × (Nat → Nat → Int32) × (Nat → Int32) × (Nat → Int32) × (Nat → Int32) × (Nat → Int32)
abbrev q_Sh_found (z : T_Sh) : Int32 := z.1
abbrev q_Sh_sum (z : T_Sh) : Int32 := z.2.1
abbrev q_Sh_owner (z : T_Sh) : Nat → Int32 := z.2.2.1
abbrev q_Sh_people (z : T_Sh) : Int32 := z.2.2.2.1
abbrev q_Sh_things (z : T_Sh) : Int32 := z.2.2.2.2.1
abbrev q_Sh_worth (z : T_Sh) : Nat → Nat → Int32 := z.2.2.2.2.2.1
abbrev q_Sh_weight (z : T_Sh) : Nat → Int32 := z.2.2.2.2.2.2.1
abbrev q_Sh_room (z : T_Sh) : Nat → Int32 := z.2.2.2.2.2.2.2.1
abbrev q_Sh_trial (z : T_Sh) : Nat → Int32 := z.2.2.2.2.2.2.2.2.1
abbrev q_Sh_hope (z : T_Sh) : Nat → Int32 := z.2.2.2.2.2.2.2.2.2
abbrev u_Sh_found (z : T_Sh) (x : Int32) : T_Sh := (x, z.2.1, z.2.2.1, z.2.2.2.1, z.2.2.2.2.1, z.2.2.2.2.2.1, z.2.2.2.2.2.2.1, z.2.2.2.2.2.2.2.1, z.2.2.2.2.2.2.2.2.1, z.2.2.2.2.2.2.2.2.2)
abbrev u_Sh_sum (z : T_Sh) (x : Int32) : T_Sh := (z.1, x, z.2.2.1, z.2.2.2.1, z.2.2.2.2.1, z.2.2.2.2.2.1, z.2.2.2.2.2.2.1, z.2.2.2.2.2.2.2.1, z.2.2.2.2.2.2.2.2.1, z.2.2.2.2.2.2.2.2.2)
abbrev u_Sh_owner (z : T_Sh) (x : Nat → Int32) : T_Sh := (z.1, z.2.1, x, z.2.2.2.1, z.2.2.2.2.1, z.2.2.2.2.2.1, z.2.2.2.2.2.2.1, z.2.2.2.2.2.2.2.1, z.2.2.2.2.2.2.2.2.1, z.2.2.2.2.2.2.2.2.2)
abbrev u_Sh_people (z : T_Sh) (x : Int32) : T_Sh := (z.1, z.2.1, z.2.2.1, x, z.2.2.2.2.1, z.2.2.2.2.2.1, z.2.2.2.2.2.2.1, z.2.2.2.2.2.2.2.1, z.2.2.2.2.2.2.2.2.1, z.2.2.2.2.2.2.2.2.2)
abbrev u_Sh_things (z : T_Sh) (x : Int32) : T_Sh := (z.1, z.2.1, z.2.2.1, z.2.2.2.1, x, z.2.2.2.2.2.1, z.2.2.2.2.2.2.1, z.2.2.2.2.2.2.2.1, z.2.2.2.2.2.2.2.2.1, z.2.2.2.2.2.2.2.2.2)
abbrev u_Sh_worth (z : T_Sh) (x : Nat → Nat → Int32) : T_Sh := (z.1, z.2.1, z.2.2.1, z.2.2.2.1, z.2.2.2.2.1, x, z.2.2.2.2.2.2.1, z.2.2.2.2.2.2.2.1, z.2.2.2.2.2.2.2.2.1, z.2.2.2.2.2.2.2.2.2)
abbrev u_Sh_weight (z : T_Sh) (x : Nat → Int32) : T_Sh := (z.1, z.2.1, z.2.2.1, z.2.2.2.1, z.2.2.2.2.1, z.2.2.2.2.2.1, x, z.2.2.2.2.2.2.2.1, z.2.2.2.2.2.2.2.2.1, z.2.2.2.2.2.2.2.2.2)
abbrev u_Sh_room (z : T_Sh) (x : Nat → Int32) : T_Sh := (z.1, z.2.1, z.2.2.1, z.2.2.2.1, z.2.2.2.2.1, z.2.2.2.2.2.1, z.2.2.2.2.2.2.1, x, z.2.2.2.2.2.2.2.2.1, z.2.2.2.2.2.2.2.2.2)
abbrev u_Sh_trial (z : T_Sh) (x : Nat → Int32) : T_Sh := (z.1, z.2.1, z.2.2.1, z.2.2.2.1, z.2.2.2.2.1, z.2.2.2.2.2.1, z.2.2.2.2.2.2.1, z.2.2.2.2.2.2.2.1, x, z.2.2.2.2.2.2.2.2.2)
abbrev u_Sh_hope (z : T_Sh) (x : Nat → Int32) : T_Sh := (z.1, z.2.1, z.2.2.1, z.2.2.2.1, z.2.2.2.2.1, z.2.2.2.2.2.1, z.2.2.2.2.2.2.1, z.2.2.2.2.2.2.2.1, z.2.2.2.2.2.2.2.2.1, x)
def ws_Sh (g : Nat → ClassId) (a : Nat → Nat) (z : T_Sh) : va_W :=
  [(a 0, .inr (8, [.int (q_Sh_found z), .int (q_Sh_sum z), .ref (a 1), .int (q_Sh_people z), .int (q_Sh_things z), .ref (a 2), .ref (a 10), .ref (a 11), .ref (a 12), .ref (a 13)])),
   (a 1, .inl (g 0, 7, .inl (q_Sh_owner z))),
   (a 2, .inl (g 2, 7, .inr (.inr (.inr (.inr (fun j => some (a (j + 3)))))))),
   (a 3, .inl (g 0, 5, .inl ((q_Sh_worth z) 0))),
   (a 4, .inl (g 0, 5, .inl ((q_Sh_worth z) 1))),
   (a 5, .inl (g 0, 5, .inl ((q_Sh_worth z) 2))),
   (a 6, .inl (g 0, 5, .inl ((q_Sh_worth z) 3))),
   (a 7, .inl (g 0, 5, .inl ((q_Sh_worth z) 4))),
   (a 8, .inl (g 0, 5, .inl ((q_Sh_worth z) 5))),
   (a 9, .inl (g 0, 5, .inl ((q_Sh_worth z) 6))),
   (a 10, .inl (g 0, 7, .inl (q_Sh_weight z))),
   (a 11, .inl (g 0, 5, .inl (q_Sh_room z))),
   (a 12, .inl (g 0, 7, .inl (q_Sh_trial z))),
   (a 13, .inl (g 0, 8, .inl (q_Sh_hope z)))]
abbrev T_Rd : Type := T_La × Int32 × (Nat → Int32) × Int32
abbrev q_Rd_draft (z : T_Rd) : T_La := z.1
abbrev q_Rd_place (z : T_Rd) : Int32 := z.2.1
abbrev q_Rd_text (z : T_Rd) : Nat → Int32 := z.2.2.1
abbrev q_Rd_size (z : T_Rd) : Int32 := z.2.2.2
abbrev u_Rd_draft (z : T_Rd) (x : T_La) : T_Rd := (x, z.2.1, z.2.2.1, z.2.2.2)
abbrev u_Rd_place (z : T_Rd) (x : Int32) : T_Rd := (z.1, x, z.2.2.1, z.2.2.2)
abbrev u_Rd_text (z : T_Rd) (x : Nat → Int32) : T_Rd := (z.1, z.2.1, x, z.2.2.2)
abbrev u_Rd_size (z : T_Rd) (x : Int32) : T_Rd := (z.1, z.2.1, z.2.2.1, x)
def ws_Rd (g : Nat → ClassId) (a : Nat → Nat) (z : T_Rd) : va_W :=
  [(a 0, .inr (6, [.ref (a 1), .int (q_Rd_place z), .ref (a 6), .int (q_Rd_size z)])),
   (a 1, .inr (4, [.int (q_La_clauses (q_Rd_draft z)), .ref (a 2), .ref (a 3), .ref (a 4), .ref (a 5), .int (q_La_codes (q_Rd_draft z))])),
   (a 2, .inl (g 0, 10, .inl (q_La_word (q_Rd_draft z)))),
   (a 3, .inl (g 0, 10, .inl (q_La_n (q_Rd_draft z)))),
   (a 4, .inl (g 0, 10, .inl (q_La_end (q_Rd_draft z)))),
   (a 5, .inl (g 0, 100, .inl (q_La_code (q_Rd_draft z)))),
   (a 6, .inl (g 0, 100, .inl (q_Rd_text z)))]
abbrev T_Re : Type := (Nat → Int32) × Int32 × T_La × Int32 × T_Pe × T_Th × Int32 × (Nat → Int32) × (Nat → Int32) × Int32 × (Nat → Int32)
abbrev q_Re_tape (z : T_Re) : Nat → Int32 := z.1
abbrev q_Re_signs (z : T_Re) : Int32 := z.2.1
abbrev q_Re_land (z : T_Re) : T_La := z.2.2.1
abbrev q_Re_lands (z : T_Re) : Int32 := z.2.2.2.1
abbrev q_Re_people (z : T_Re) : T_Pe := z.2.2.2.2.1
abbrev q_Re_things (z : T_Re) : T_Th := z.2.2.2.2.2.1
abbrev q_Re_year (z : T_Re) : Int32 := z.2.2.2.2.2.2.1
abbrev q_Re_seenWho (z : T_Re) : Nat → Int32 := z.2.2.2.2.2.2.2.1
abbrev q_Re_seenCould (z : T_Re) : Nat → Int32 := z.2.2.2.2.2.2.2.2.1
abbrev q_Re_seen (z : T_Re) : Int32 := z.2.2.2.2.2.2.2.2.2.1
abbrev q_Re_facts (z : T_Re) : Nat → Int32 := z.2.2.2.2.2.2.2.2.2.2
abbrev u_Re_tape (z : T_Re) (x : Nat → Int32) : T_Re := (x, z.2.1, z.2.2.1, z.2.2.2.1, z.2.2.2.2.1, z.2.2.2.2.2.1, z.2.2.2.2.2.2.1, z.2.2.2.2.2.2.2.1, z.2.2.2.2.2.2.2.2.1, z.2.2.2.2.2.2.2.2.2.1, z.2.2.2.2.2.2.2.2.2.2)
abbrev u_Re_signs (z : T_Re) (x : Int32) : T_Re := (z.1, x, z.2.2.1, z.2.2.2.1, z.2.2.2.2.1, z.2.2.2.2.2.1, z.2.2.2.2.2.2.1, z.2.2.2.2.2.2.2.1, z.2.2.2.2.2.2.2.2.1, z.2.2.2.2.2.2.2.2.2.1, z.2.2.2.2.2.2.2.2.2.2)
abbrev u_Re_land (z : T_Re) (x : T_La) : T_Re := (z.1, z.2.1, x, z.2.2.2.1, z.2.2.2.2.1, z.2.2.2.2.2.1, z.2.2.2.2.2.2.1, z.2.2.2.2.2.2.2.1, z.2.2.2.2.2.2.2.2.1, z.2.2.2.2.2.2.2.2.2.1, z.2.2.2.2.2.2.2.2.2.2)
abbrev u_Re_lands (z : T_Re) (x : Int32) : T_Re := (z.1, z.2.1, z.2.2.1, x, z.2.2.2.2.1, z.2.2.2.2.2.1, z.2.2.2.2.2.2.1, z.2.2.2.2.2.2.2.1, z.2.2.2.2.2.2.2.2.1, z.2.2.2.2.2.2.2.2.2.1, z.2.2.2.2.2.2.2.2.2.2)
abbrev u_Re_people (z : T_Re) (x : T_Pe) : T_Re := (z.1, z.2.1, z.2.2.1, z.2.2.2.1, x, z.2.2.2.2.2.1, z.2.2.2.2.2.2.1, z.2.2.2.2.2.2.2.1, z.2.2.2.2.2.2.2.2.1, z.2.2.2.2.2.2.2.2.2.1, z.2.2.2.2.2.2.2.2.2.2)
abbrev u_Re_things (z : T_Re) (x : T_Th) : T_Re := (z.1, z.2.1, z.2.2.1, z.2.2.2.1, z.2.2.2.2.1, x, z.2.2.2.2.2.2.1, z.2.2.2.2.2.2.2.1, z.2.2.2.2.2.2.2.2.1, z.2.2.2.2.2.2.2.2.2.1, z.2.2.2.2.2.2.2.2.2.2)
abbrev u_Re_year (z : T_Re) (x : Int32) : T_Re := (z.1, z.2.1, z.2.2.1, z.2.2.2.1, z.2.2.2.2.1, z.2.2.2.2.2.1, x, z.2.2.2.2.2.2.2.1, z.2.2.2.2.2.2.2.2.1, z.2.2.2.2.2.2.2.2.2.1, z.2.2.2.2.2.2.2.2.2.2)
abbrev u_Re_seenWho (z : T_Re) (x : Nat → Int32) : T_Re := (z.1, z.2.1, z.2.2.1, z.2.2.2.1, z.2.2.2.2.1, z.2.2.2.2.2.1, z.2.2.2.2.2.2.1, x, z.2.2.2.2.2.2.2.2.1, z.2.2.2.2.2.2.2.2.2.1, z.2.2.2.2.2.2.2.2.2.2)
abbrev u_Re_seenCould (z : T_Re) (x : Nat → Int32) : T_Re := (z.1, z.2.1, z.2.2.1, z.2.2.2.1, z.2.2.2.2.1, z.2.2.2.2.2.1, z.2.2.2.2.2.2.1, z.2.2.2.2.2.2.2.1, x, z.2.2.2.2.2.2.2.2.2.1, z.2.2.2.2.2.2.2.2.2.2)
abbrev u_Re_seen (z : T_Re) (x : Int32) : T_Re := (z.1, z.2.1, z.2.2.1, z.2.2.2.1, z.2.2.2.2.1, z.2.2.2.2.2.1, z.2.2.2.2.2.2.1, z.2.2.2.2.2.2.2.1, z.2.2.2.2.2.2.2.2.1, x, z.2.2.2.2.2.2.2.2.2.2)
abbrev u_Re_facts (z : T_Re) (x : Nat → Int32) : T_Re := (z.1, z.2.1, z.2.2.1, z.2.2.2.1, z.2.2.2.2.1, z.2.2.2.2.2.1, z.2.2.2.2.2.2.1, z.2.2.2.2.2.2.2.1, z.2.2.2.2.2.2.2.2.1, z.2.2.2.2.2.2.2.2.2.1, x)
def ws_Re (g : Nat → ClassId) (a : Nat → Nat) (z : T_Re) : va_W :=
  [(a 0, .inr (7, [.ref (a 1), .int (q_Re_signs z), .ref (a 2), .int (q_Re_lands z), .ref (a 7), .ref (a 18), .int (q_Re_year z), .ref (a 21), .ref (a 22), .int (q_Re_seen z), .ref (a 23)])),
   (a 1, .inl (g 0, 100, .inl (q_Re_tape z))),
   (a 2, .inr (4, [.int (q_La_clauses (q_Re_land z)), .ref (a 3), .ref (a 4), .ref (a 5), .ref (a 6), .int (q_La_codes (q_Re_land z))])),
   (a 3, .inl (g 0, 10, .inl (q_La_word (q_Re_land z)))),
   (a 4, .inl (g 0, 10, .inl (q_La_n (q_Re_land z)))),
   (a 5, .inl (g 0, 10, .inl (q_La_end (q_Re_land z)))),
   (a 6, .inl (g 0, 100, .inl (q_La_code (q_Re_land z)))),
   (a 7, .inr (5, [.int (q_Pe_size (q_Re_people z)), .ref (a 8), .ref (a 9), .ref (a 10), .ref (a 11), .ref (a 12), .ref (a 13)])),
   (a 8, .inl (g 0, 4, .inl (q_Pe_kind (q_Re_people z)))),
   (a 9, .inl (g 0, 4, .inl (q_Pe_v (q_Re_people z)))),
   (a 10, .inl (g 0, 4, .inl (q_Pe_strength (q_Re_people z)))),
   (a 11, .inl (g 0, 4, .inl (q_Pe_age (q_Re_people z)))),
   (a 12, .inl (g 0, 4, .inl (q_Pe_rowSize (q_Re_people z)))),
   (a 13, .inl (g 2, 4, .inr (.inr (.inr (.inr (fun j => some (a (j + 14)))))))),
   (a 14, .inl (g 0, 7, .inl ((q_Pe_rows (q_Re_people z)) 0))),
   (a 15, .inl (g 0, 7, .inl ((q_Pe_rows (q_Re_people z)) 1))),
   (a 16, .inl (g 0, 7, .inl ((q_Pe_rows (q_Re_people z)) 2))),
   (a 17, .inl (g 0, 7, .inl ((q_Pe_rows (q_Re_people z)) 3))),
   (a 18, .inr (10, [.int (q_Th_size (q_Re_things z)), .ref (a 19), .ref (a 20)])),
   (a 19, .inl (g 0, 7, .inl (q_Th_weight (q_Re_things z)))),
   (a 20, .inl (g 0, 7, .inl (q_Th_owner (q_Re_things z)))),
   (a 21, .inl (g 0, 12, .inl (q_Re_seenWho z))),
   (a 22, .inl (g 0, 12, .inl (q_Re_seenCould z))),
   (a 23, .inl (g 0, 6, .inl (q_Re_facts z)))]
abbrev T_OL : Type := T_Re × T_Re × Int32 × T_Rd × T_St × T_Sh × T_Fr × T_Ac
abbrev q_OL_now (z : T_OL) : T_Re := z.1
abbrev q_OL_kept (z : T_OL) : T_Re := z.2.1
abbrev q_OL_hasImage (z : T_OL) : Int32 := z.2.2.1
abbrev q_OL_reader (z : T_OL) : T_Rd := z.2.2.2.1
abbrev q_OL_standing (z : T_OL) : T_St := z.2.2.2.2.1
abbrev q_OL_shares (z : T_OL) : T_Sh := z.2.2.2.2.2.1
abbrev q_OL_fraction (z : T_OL) : T_Fr := z.2.2.2.2.2.2.1
abbrev q_OL_acts (z : T_OL) : T_Ac := z.2.2.2.2.2.2.2
abbrev u_OL_now (z : T_OL) (x : T_Re) : T_OL := (x, z.2.1, z.2.2.1, z.2.2.2.1, z.2.2.2.2.1, z.2.2.2.2.2.1, z.2.2.2.2.2.2.1, z.2.2.2.2.2.2.2)
abbrev u_OL_kept (z : T_OL) (x : T_Re) : T_OL := (z.1, x, z.2.2.1, z.2.2.2.1, z.2.2.2.2.1, z.2.2.2.2.2.1, z.2.2.2.2.2.2.1, z.2.2.2.2.2.2.2)
abbrev u_OL_hasImage (z : T_OL) (x : Int32) : T_OL := (z.1, z.2.1, x, z.2.2.2.1, z.2.2.2.2.1, z.2.2.2.2.2.1, z.2.2.2.2.2.2.1, z.2.2.2.2.2.2.2)
abbrev u_OL_reader (z : T_OL) (x : T_Rd) : T_OL := (z.1, z.2.1, z.2.2.1, x, z.2.2.2.2.1, z.2.2.2.2.2.1, z.2.2.2.2.2.2.1, z.2.2.2.2.2.2.2)
abbrev u_OL_standing (z : T_OL) (x : T_St) : T_OL := (z.1, z.2.1, z.2.2.1, z.2.2.2.1, x, z.2.2.2.2.2.1, z.2.2.2.2.2.2.1, z.2.2.2.2.2.2.2)
abbrev u_OL_shares (z : T_OL) (x : T_Sh) : T_OL := (z.1, z.2.1, z.2.2.1, z.2.2.2.1, z.2.2.2.2.1, x, z.2.2.2.2.2.2.1, z.2.2.2.2.2.2.2)
abbrev u_OL_fraction (z : T_OL) (x : T_Fr) : T_OL := (z.1, z.2.1, z.2.2.1, z.2.2.2.1, z.2.2.2.2.1, z.2.2.2.2.2.1, x, z.2.2.2.2.2.2.2)
abbrev u_OL_acts (z : T_OL) (x : T_Ac) : T_OL := (z.1, z.2.1, z.2.2.1, z.2.2.2.1, z.2.2.2.2.1, z.2.2.2.2.2.1, z.2.2.2.2.2.2.1, x)
def ws_OL (g : Nat → ClassId) (a : Nat → Nat) (z : T_OL) : va_W :=
  [(a 0, .inr (0, [.ref (a 1), .ref (a 25), .int (q_OL_hasImage z), .ref (a 49), .ref (a 56), .ref (a 66), .ref (a 80), .ref (a 81)])),
   (a 1, .inr (7, [.ref (a 2), .int (q_Re_signs (q_OL_now z)), .ref (a 3), .int (q_Re_lands (q_OL_now z)), .ref (a 8), .ref (a 19), .int (q_Re_year (q_OL_now z)), .ref (a 22), .ref (a 23), .int (q_Re_seen (q_OL_now z)), .ref (a 24)])),
   (a 2, .inl (g 0, 100, .inl (q_Re_tape (q_OL_now z)))),
   (a 3, .inr (4, [.int (q_La_clauses (q_Re_land (q_OL_now z))), .ref (a 4), .ref (a 5), .ref (a 6), .ref (a 7), .int (q_La_codes (q_Re_land (q_OL_now z)))])),
   (a 4, .inl (g 0, 10, .inl (q_La_word (q_Re_land (q_OL_now z))))),
   (a 5, .inl (g 0, 10, .inl (q_La_n (q_Re_land (q_OL_now z))))),
   (a 6, .inl (g 0, 10, .inl (q_La_end (q_Re_land (q_OL_now z))))),
   (a 7, .inl (g 0, 100, .inl (q_La_code (q_Re_land (q_OL_now z))))),
   (a 8, .inr (5, [.int (q_Pe_size (q_Re_people (q_OL_now z))), .ref (a 9), .ref (a 10), .ref (a 11), .ref (a 12), .ref (a 13), .ref (a 14)])),
   (a 9, .inl (g 0, 4, .inl (q_Pe_kind (q_Re_people (q_OL_now z))))),
   (a 10, .inl (g 0, 4, .inl (q_Pe_v (q_Re_people (q_OL_now z))))),
   (a 11, .inl (g 0, 4, .inl (q_Pe_strength (q_Re_people (q_OL_now z))))),
   (a 12, .inl (g 0, 4, .inl (q_Pe_age (q_Re_people (q_OL_now z))))),
   (a 13, .inl (g 0, 4, .inl (q_Pe_rowSize (q_Re_people (q_OL_now z))))),
   (a 14, .inl (g 2, 4, .inr (.inr (.inr (.inr (fun j => some (a (j + 15)))))))),
   (a 15, .inl (g 0, 7, .inl ((q_Pe_rows (q_Re_people (q_OL_now z))) 0))),
   (a 16, .inl (g 0, 7, .inl ((q_Pe_rows (q_Re_people (q_OL_now z))) 1))),
   (a 17, .inl (g 0, 7, .inl ((q_Pe_rows (q_Re_people (q_OL_now z))) 2))),
   (a 18, .inl (g 0, 7, .inl ((q_Pe_rows (q_Re_people (q_OL_now z))) 3))),
   (a 19, .inr (10, [.int (q_Th_size (q_Re_things (q_OL_now z))), .ref (a 20), .ref (a 21)])),
   (a 20, .inl (g 0, 7, .inl (q_Th_weight (q_Re_things (q_OL_now z))))),
   (a 21, .inl (g 0, 7, .inl (q_Th_owner (q_Re_things (q_OL_now z))))),
   (a 22, .inl (g 0, 12, .inl (q_Re_seenWho (q_OL_now z)))),
   (a 23, .inl (g 0, 12, .inl (q_Re_seenCould (q_OL_now z)))),
   (a 24, .inl (g 0, 6, .inl (q_Re_facts (q_OL_now z)))),
   (a 25, .inr (7, [.ref (a 26), .int (q_Re_signs (q_OL_kept z)), .ref (a 27), .int (q_Re_lands (q_OL_kept z)), .ref (a 32), .ref (a 43), .int (q_Re_year (q_OL_kept z)), .ref (a 46), .ref (a 47), .int (q_Re_seen (q_OL_kept z)), .ref (a 48)])),
   (a 26, .inl (g 0, 100, .inl (q_Re_tape (q_OL_kept z)))),
   (a 27, .inr (4, [.int (q_La_clauses (q_Re_land (q_OL_kept z))), .ref (a 28), .ref (a 29), .ref (a 30), .ref (a 31), .int (q_La_codes (q_Re_land (q_OL_kept z)))])),
   (a 28, .inl (g 0, 10, .inl (q_La_word (q_Re_land (q_OL_kept z))))),
   (a 29, .inl (g 0, 10, .inl (q_La_n (q_Re_land (q_OL_kept z))))),
   (a 30, .inl (g 0, 10, .inl (q_La_end (q_Re_land (q_OL_kept z))))),
   (a 31, .inl (g 0, 100, .inl (q_La_code (q_Re_land (q_OL_kept z))))),
   (a 32, .inr (5, [.int (q_Pe_size (q_Re_people (q_OL_kept z))), .ref (a 33), .ref (a 34), .ref (a 35), .ref (a 36), .ref (a 37), .ref (a 38)])),
   (a 33, .inl (g 0, 4, .inl (q_Pe_kind (q_Re_people (q_OL_kept z))))),
   (a 34, .inl (g 0, 4, .inl (q_Pe_v (q_Re_people (q_OL_kept z))))),
   (a 35, .inl (g 0, 4, .inl (q_Pe_strength (q_Re_people (q_OL_kept z))))),
   (a 36, .inl (g 0, 4, .inl (q_Pe_age (q_Re_people (q_OL_kept z))))),
   (a 37, .inl (g 0, 4, .inl (q_Pe_rowSize (q_Re_people (q_OL_kept z))))),
   (a 38, .inl (g 2, 4, .inr (.inr (.inr (.inr (fun j => some (a (j + 39)))))))),
   (a 39, .inl (g 0, 7, .inl ((q_Pe_rows (q_Re_people (q_OL_kept z))) 0))),
   (a 40, .inl (g 0, 7, .inl ((q_Pe_rows (q_Re_people (q_OL_kept z))) 1))),
   (a 41, .inl (g 0, 7, .inl ((q_Pe_rows (q_Re_people (q_OL_kept z))) 2))),
   (a 42, .inl (g 0, 7, .inl ((q_Pe_rows (q_Re_people (q_OL_kept z))) 3))),
   (a 43, .inr (10, [.int (q_Th_size (q_Re_things (q_OL_kept z))), .ref (a 44), .ref (a 45)])),
   (a 44, .inl (g 0, 7, .inl (q_Th_weight (q_Re_things (q_OL_kept z))))),
   (a 45, .inl (g 0, 7, .inl (q_Th_owner (q_Re_things (q_OL_kept z))))),
   (a 46, .inl (g 0, 12, .inl (q_Re_seenWho (q_OL_kept z)))),
   (a 47, .inl (g 0, 12, .inl (q_Re_seenCould (q_OL_kept z)))),
   (a 48, .inl (g 0, 6, .inl (q_Re_facts (q_OL_kept z)))),
   (a 49, .inr (6, [.ref (a 50), .int (q_Rd_place (q_OL_reader z)), .ref (a 55), .int (q_Rd_size (q_OL_reader z))])),
   (a 50, .inr (4, [.int (q_La_clauses (q_Rd_draft (q_OL_reader z))), .ref (a 51), .ref (a 52), .ref (a 53), .ref (a 54), .int (q_La_codes (q_Rd_draft (q_OL_reader z)))])),
   (a 51, .inl (g 0, 10, .inl (q_La_word (q_Rd_draft (q_OL_reader z))))),
   (a 52, .inl (g 0, 10, .inl (q_La_n (q_Rd_draft (q_OL_reader z))))),
   (a 53, .inl (g 0, 10, .inl (q_La_end (q_Rd_draft (q_OL_reader z))))),
   (a 54, .inl (g 0, 100, .inl (q_La_code (q_Rd_draft (q_OL_reader z))))),
   (a 55, .inl (g 0, 100, .inl (q_Rd_text (q_OL_reader z)))),
   (a 56, .inr (9, [.int (q_St_people (q_OL_standing z)), .int (q_St_things (q_OL_standing z)), .ref (a 57), .ref (a 62), .ref (a 63), .ref (a 64), .ref (a 65)])),
   (a 57, .inl (g 2, 4, .inr (.inr (.inr (.inr (fun j => some (a (j + 58)))))))),
   (a 58, .inl (g 0, 7, .inl ((q_St_like (q_OL_standing z)) 0))),
   (a 59, .inl (g 0, 7, .inl ((q_St_like (q_OL_standing z)) 1))),
   (a 60, .inl (g 0, 7, .inl ((q_St_like (q_OL_standing z)) 2))),
   (a 61, .inl (g 0, 7, .inl ((q_St_like (q_OL_standing z)) 3))),
   (a 62, .inl (g 0, 4, .inl (q_St_lifts (q_OL_standing z)))),
   (a 63, .inl (g 0, 4, .inl (q_St_ill (q_OL_standing z)))),
   (a 64, .inl (g 0, 7, .inl (q_St_weight (q_OL_standing z)))),
   (a 65, .inl (g 0, 7, .inl (q_St_owner (q_OL_standing z)))),
   (a 66, .inr (8, [.int (q_Sh_found (q_OL_shares z)), .int (q_Sh_sum (q_OL_shares z)), .ref (a 67), .int (q_Sh_people (q_OL_shares z)), .int (q_Sh_things (q_OL_shares z)), .ref (a 68), .ref (a 76), .ref (a 77), .ref (a 78), .ref (a 79)])),
   (a 67, .inl (g 0, 7, .inl (q_Sh_owner (q_OL_shares z)))),
   (a 68, .inl (g 2, 7, .inr (.inr (.inr (.inr (fun j => some (a (j + 69)))))))),
   (a 69, .inl (g 0, 5, .inl ((q_Sh_worth (q_OL_shares z)) 0))),
   (a 70, .inl (g 0, 5, .inl ((q_Sh_worth (q_OL_shares z)) 1))),
   (a 71, .inl (g 0, 5, .inl ((q_Sh_worth (q_OL_shares z)) 2))),
   (a 72, .inl (g 0, 5, .inl ((q_Sh_worth (q_OL_shares z)) 3))),
   (a 73, .inl (g 0, 5, .inl ((q_Sh_worth (q_OL_shares z)) 4))),
   (a 74, .inl (g 0, 5, .inl ((q_Sh_worth (q_OL_shares z)) 5))),
   (a 75, .inl (g 0, 5, .inl ((q_Sh_worth (q_OL_shares z)) 6))),
   (a 76, .inl (g 0, 7, .inl (q_Sh_weight (q_OL_shares z)))),
   (a 77, .inl (g 0, 5, .inl (q_Sh_room (q_OL_shares z)))),
   (a 78, .inl (g 0, 7, .inl (q_Sh_trial (q_OL_shares z)))),
   (a 79, .inl (g 0, 8, .inl (q_Sh_hope (q_OL_shares z)))),
   (a 80, .inr (3, [.long (q_Fr_above (q_OL_fraction z)), .long (q_Fr_below (q_OL_fraction z))])),
   (a 81, .inr (2, [.ref (a 82), .int (q_Ac_ran (q_OL_acts z)), .int (q_Ac_number (q_OL_acts z)), .int (q_Ac_v (q_OL_acts z)), .int (q_Ac_kind (q_OL_acts z))])),
   (a 82, .inl (g 0, 20, .inl (q_Ac_bodies (q_OL_acts z))))]
abbrev T_Mo : Type := Int32 × (Nat → Int32) × (Nat → Int32) × (Nat → Int32) × Int32 × Int32 × Int32 × Int32 × Int32 × Int32 × (Nat → Int32) × (Nat → Int32) × (Nat → Int32) × (Nat → Int32) × (Nat → Int32) × (Nat → Int32) × (Nat → Int32) × Int32 × Int32 × Int32 × Int32 × (Nat → Int32) × Int32 × Int32 × Int32 × Int32
abbrev q_Mo_thrown (z : T_Mo) : Int32 := z.1
abbrev q_Mo_s (z : T_Mo) : Nat → Int32 := z.2.1
abbrev q_Mo_image (z : T_Mo) : Nat → Int32 := z.2.2.1
abbrev q_Mo_owners (z : T_Mo) : Nat → Int32 := z.2.2.2.1
abbrev q_Mo_hasImage (z : T_Mo) : Int32 := z.2.2.2.2.1
abbrev q_Mo_act (z : T_Mo) : Int32 := z.2.2.2.2.2.1
abbrev q_Mo_spot (z : T_Mo) : Int32 := z.2.2.2.2.2.2.1
abbrev q_Mo_end (z : T_Mo) : Int32 := z.2.2.2.2.2.2.2.1
abbrev q_Mo_isWrong (z : T_Mo) : Int32 := z.2.2.2.2.2.2.2.2.1
abbrev q_Mo_open (z : T_Mo) : Int32 := z.2.2.2.2.2.2.2.2.2.1
abbrev q_Mo_by (z : T_Mo) : Nat → Int32 := z.2.2.2.2.2.2.2.2.2.2.1
abbrev q_Mo_truths (z : T_Mo) : Nat → Int32 := z.2.2.2.2.2.2.2.2.2.2.2.1
abbrev q_Mo_likes (z : T_Mo) : Nat → Int32 := z.2.2.2.2.2.2.2.2.2.2.2.2.1
abbrev q_Mo_lifts (z : T_Mo) : Nat → Int32 := z.2.2.2.2.2.2.2.2.2.2.2.2.2.1
abbrev q_Mo_loads (z : T_Mo) : Nat → Int32 := z.2.2.2.2.2.2.2.2.2.2.2.2.2.2.1
abbrev q_Mo_way (z : T_Mo) : Nat → Int32 := z.2.2.2.2.2.2.2.2.2.2.2.2.2.2.2.1
abbrev q_Mo_bestWay (z : T_Mo) : Nat → Int32 := z.2.2.2.2.2.2.2.2.2.2.2.2.2.2.2.2.1
abbrev q_Mo_bestLike (z : T_Mo) : Int32 := z.2.2.2.2.2.2.2.2.2.2.2.2.2.2.2.2.2.1
abbrev q_Mo_mostOwned (z : T_Mo) : Int32 := z.2.2.2.2.2.2.2.2.2.2.2.2.2.2.2.2.2.2.1
abbrev q_Mo_fewest (z : T_Mo) : Int32 := z.2.2.2.2.2.2.2.2.2.2.2.2.2.2.2.2.2.2.2.1
abbrev q_Mo_swaps (z : T_Mo) : Int32 := z.2.2.2.2.2.2.2.2.2.2.2.2.2.2.2.2.2.2.2.2.1
abbrev q_Mo_bodies (z : T_Mo) : Nat → Int32 := z.2.2.2.2.2.2.2.2.2.2.2.2.2.2.2.2.2.2.2.2.2.1
abbrev q_Mo_ran (z : T_Mo) : Int32 := z.2.2.2.2.2.2.2.2.2.2.2.2.2.2.2.2.2.2.2.2.2.2.1
abbrev q_Mo_kind (z : T_Mo) : Int32 := z.2.2.2.2.2.2.2.2.2.2.2.2.2.2.2.2.2.2.2.2.2.2.2.1
abbrev q_Mo_number (z : T_Mo) : Int32 := z.2.2.2.2.2.2.2.2.2.2.2.2.2.2.2.2.2.2.2.2.2.2.2.2.1
abbrev q_Mo_tellsV (z : T_Mo) : Int32 := z.2.2.2.2.2.2.2.2.2.2.2.2.2.2.2.2.2.2.2.2.2.2.2.2.2
abbrev u_Mo_thrown (z : T_Mo) (x : Int32) : T_Mo := (x, z.2.1, z.2.2.1, z.2.2.2.1, z.2.2.2.2.1, z.2.2.2.2.2.1, z.2.2.2.2.2.2.1, z.2.2.2.2.2.2.2.1, z.2.2.2.2.2.2.2.2.1, z.2.2.2.2.2.2.2.2.2.1, z.2.2.2.2.2.2.2.2.2.2.1, z.2.2.2.2.2.2.2.2.2.2.2.1, z.2.2.2.2.2.2.2.2.2.2.2.2.1, z.2.2.2.2.2.2.2.2.2.2.2.2.2.1, z.2.2.2.2.2.2.2.2.2.2.2.2.2.2.1, z.2.2.2.2.2.2.2.2.2.2.2.2.2.2.2.1, z.2.2.2.2.2.2.2.2.2.2.2.2.2.2.2.2.1, z.2.2.2.2.2.2.2.2.2.2.2.2.2.2.2.2.2.1, z.2.2.2.2.2.2.2.2.2.2.2.2.2.2.2.2.2.2.1, z.2.2.2.2.2.2.2.2.2.2.2.2.2.2.2.2.2.2.2.1, z.2.2.2.2.2.2.2.2.2.2.2.2.2.2.2.2.2.2.2.2.1, z.2.2.2.2.2.2.2.2.2.2.2.2.2.2.2.2.2.2.2.2.2.1, z.2.2.2.2.2.2.2.2.2.2.2.2.2.2.2.2.2.2.2.2.2.2.1, z.2.2.2.2.2.2.2.2.2.2.2.2.2.2.2.2.2.2.2.2.2.2.2.1, z.2.2.2.2.2.2.2.2.2.2.2.2.2.2.2.2.2.2.2.2.2.2.2.2.1, z.2.2.2.2.2.2.2.2.2.2.2.2.2.2.2.2.2.2.2.2.2.2.2.2.2)
abbrev u_Mo_s (z : T_Mo) (x : Nat → Int32) : T_Mo := (z.1, x, z.2.2.1, z.2.2.2.1, z.2.2.2.2.1, z.2.2.2.2.2.1, z.2.2.2.2.2.2.1, z.2.2.2.2.2.2.2.1, z.2.2.2.2.2.2.2.2.1, z.2.2.2.2.2.2.2.2.2.1, z.2.2.2.2.2.2.2.2.2.2.1, z.2.2.2.2.2.2.2.2.2.2.2.1, z.2.2.2.2.2.2.2.2.2.2.2.2.1, z.2.2.2.2.2.2.2.2.2.2.2.2.2.1, z.2.2.2.2.2.2.2.2.2.2.2.2.2.2.1, z.2.2.2.2.2.2.2.2.2.2.2.2.2.2.2.1, z.2.2.2.2.2.2.2.2.2.2.2.2.2.2.2.2.1, z.2.2.2.2.2.2.2.2.2.2.2.2.2.2.2.2.2.1, z.2.2.2.2.2.2.2.2.2.2.2.2.2.2.2.2.2.2.1, z.2.2.2.2.2.2.2.2.2.2.2.2.2.2.2.2.2.2.2.1, z.2.2.2.2.2.2.2.2.2.2.2.2.2.2.2.2.2.2.2.2.1, z.2.2.2.2.2.2.2.2.2.2.2.2.2.2.2.2.2.2.2.2.2.1, z.2.2.2.2.2.2.2.2.2.2.2.2.2.2.2.2.2.2.2.2.2.2.1, z.2.2.2.2.2.2.2.2.2.2.2.2.2.2.2.2.2.2.2.2.2.2.2.1, z.2.2.2.2.2.2.2.2.2.2.2.2.2.2.2.2.2.2.2.2.2.2.2.2.1, z.2.2.2.2.2.2.2.2.2.2.2.2.2.2.2.2.2.2.2.2.2.2.2.2.2)
abbrev u_Mo_image (z : T_Mo) (x : Nat → Int32) : T_Mo := (z.1, z.2.1, x, z.2.2.2.1, z.2.2.2.2.1, z.2.2.2.2.2.1, z.2.2.2.2.2.2.1, z.2.2.2.2.2.2.2.1, z.2.2.2.2.2.2.2.2.1, z.2.2.2.2.2.2.2.2.2.1, z.2.2.2.2.2.2.2.2.2.2.1, z.2.2.2.2.2.2.2.2.2.2.2.1, z.2.2.2.2.2.2.2.2.2.2.2.2.1, z.2.2.2.2.2.2.2.2.2.2.2.2.2.1, z.2.2.2.2.2.2.2.2.2.2.2.2.2.2.1, z.2.2.2.2.2.2.2.2.2.2.2.2.2.2.2.1, z.2.2.2.2.2.2.2.2.2.2.2.2.2.2.2.2.1, z.2.2.2.2.2.2.2.2.2.2.2.2.2.2.2.2.2.1, z.2.2.2.2.2.2.2.2.2.2.2.2.2.2.2.2.2.2.1, z.2.2.2.2.2.2.2.2.2.2.2.2.2.2.2.2.2.2.2.1, z.2.2.2.2.2.2.2.2.2.2.2.2.2.2.2.2.2.2.2.2.1, z.2.2.2.2.2.2.2.2.2.2.2.2.2.2.2.2.2.2.2.2.2.1, z.2.2.2.2.2.2.2.2.2.2.2.2.2.2.2.2.2.2.2.2.2.2.1, z.2.2.2.2.2.2.2.2.2.2.2.2.2.2.2.2.2.2.2.2.2.2.2.1, z.2.2.2.2.2.2.2.2.2.2.2.2.2.2.2.2.2.2.2.2.2.2.2.2.1, z.2.2.2.2.2.2.2.2.2.2.2.2.2.2.2.2.2.2.2.2.2.2.2.2.2)
abbrev u_Mo_owners (z : T_Mo) (x : Nat → Int32) : T_Mo := (z.1, z.2.1, z.2.2.1, x, z.2.2.2.2.1, z.2.2.2.2.2.1, z.2.2.2.2.2.2.1, z.2.2.2.2.2.2.2.1, z.2.2.2.2.2.2.2.2.1, z.2.2.2.2.2.2.2.2.2.1, z.2.2.2.2.2.2.2.2.2.2.1, z.2.2.2.2.2.2.2.2.2.2.2.1, z.2.2.2.2.2.2.2.2.2.2.2.2.1, z.2.2.2.2.2.2.2.2.2.2.2.2.2.1, z.2.2.2.2.2.2.2.2.2.2.2.2.2.2.1, z.2.2.2.2.2.2.2.2.2.2.2.2.2.2.2.1, z.2.2.2.2.2.2.2.2.2.2.2.2.2.2.2.2.1, z.2.2.2.2.2.2.2.2.2.2.2.2.2.2.2.2.2.1, z.2.2.2.2.2.2.2.2.2.2.2.2.2.2.2.2.2.2.1, z.2.2.2.2.2.2.2.2.2.2.2.2.2.2.2.2.2.2.2.1, z.2.2.2.2.2.2.2.2.2.2.2.2.2.2.2.2.2.2.2.2.1, z.2.2.2.2.2.2.2.2.2.2.2.2.2.2.2.2.2.2.2.2.2.1, z.2.2.2.2.2.2.2.2.2.2.2.2.2.2.2.2.2.2.2.2.2.2.1, z.2.2.2.2.2.2.2.2.2.2.2.2.2.2.2.2.2.2.2.2.2.2.2.1, z.2.2.2.2.2.2.2.2.2.2.2.2.2.2.2.2.2.2.2.2.2.2.2.2.1, z.2.2.2.2.2.2.2.2.2.2.2.2.2.2.2.2.2.2.2.2.2.2.2.2.2)
abbrev u_Mo_hasImage (z : T_Mo) (x : Int32) : T_Mo := (z.1, z.2.1, z.2.2.1, z.2.2.2.1, x, z.2.2.2.2.2.1, z.2.2.2.2.2.2.1, z.2.2.2.2.2.2.2.1, z.2.2.2.2.2.2.2.2.1, z.2.2.2.2.2.2.2.2.2.1, z.2.2.2.2.2.2.2.2.2.2.1, z.2.2.2.2.2.2.2.2.2.2.2.1, z.2.2.2.2.2.2.2.2.2.2.2.2.1, z.2.2.2.2.2.2.2.2.2.2.2.2.2.1, z.2.2.2.2.2.2.2.2.2.2.2.2.2.2.1, z.2.2.2.2.2.2.2.2.2.2.2.2.2.2.2.1, z.2.2.2.2.2.2.2.2.2.2.2.2.2.2.2.2.1, z.2.2.2.2.2.2.2.2.2.2.2.2.2.2.2.2.2.1, z.2.2.2.2.2.2.2.2.2.2.2.2.2.2.2.2.2.2.1, z.2.2.2.2.2.2.2.2.2.2.2.2.2.2.2.2.2.2.2.1, z.2.2.2.2.2.2.2.2.2.2.2.2.2.2.2.2.2.2.2.2.1, z.2.2.2.2.2.2.2.2.2.2.2.2.2.2.2.2.2.2.2.2.2.1, z.2.2.2.2.2.2.2.2.2.2.2.2.2.2.2.2.2.2.2.2.2.2.1, z.2.2.2.2.2.2.2.2.2.2.2.2.2.2.2.2.2.2.2.2.2.2.2.1, z.2.2.2.2.2.2.2.2.2.2.2.2.2.2.2.2.2.2.2.2.2.2.2.2.1, z.2.2.2.2.2.2.2.2.2.2.2.2.2.2.2.2.2.2.2.2.2.2.2.2.2)
abbrev u_Mo_act (z : T_Mo) (x : Int32) : T_Mo := (z.1, z.2.1, z.2.2.1, z.2.2.2.1, z.2.2.2.2.1, x, z.2.2.2.2.2.2.1, z.2.2.2.2.2.2.2.1, z.2.2.2.2.2.2.2.2.1, z.2.2.2.2.2.2.2.2.2.1, z.2.2.2.2.2.2.2.2.2.2.1, z.2.2.2.2.2.2.2.2.2.2.2.1, z.2.2.2.2.2.2.2.2.2.2.2.2.1, z.2.2.2.2.2.2.2.2.2.2.2.2.2.1, z.2.2.2.2.2.2.2.2.2.2.2.2.2.2.1, z.2.2.2.2.2.2.2.2.2.2.2.2.2.2.2.1, z.2.2.2.2.2.2.2.2.2.2.2.2.2.2.2.2.1, z.2.2.2.2.2.2.2.2.2.2.2.2.2.2.2.2.2.1, z.2.2.2.2.2.2.2.2.2.2.2.2.2.2.2.2.2.2.1, z.2.2.2.2.2.2.2.2.2.2.2.2.2.2.2.2.2.2.2.1, z.2.2.2.2.2.2.2.2.2.2.2.2.2.2.2.2.2.2.2.2.1, z.2.2.2.2.2.2.2.2.2.2.2.2.2.2.2.2.2.2.2.2.2.1, z.2.2.2.2.2.2.2.2.2.2.2.2.2.2.2.2.2.2.2.2.2.2.1, z.2.2.2.2.2.2.2.2.2.2.2.2.2.2.2.2.2.2.2.2.2.2.2.1, z.2.2.2.2.2.2.2.2.2.2.2.2.2.2.2.2.2.2.2.2.2.2.2.2.1, z.2.2.2.2.2.2.2.2.2.2.2.2.2.2.2.2.2.2.2.2.2.2.2.2.2)
abbrev u_Mo_spot (z : T_Mo) (x : Int32) : T_Mo := (z.1, z.2.1, z.2.2.1, z.2.2.2.1, z.2.2.2.2.1, z.2.2.2.2.2.1, x, z.2.2.2.2.2.2.2.1, z.2.2.2.2.2.2.2.2.1, z.2.2.2.2.2.2.2.2.2.1, z.2.2.2.2.2.2.2.2.2.2.1, z.2.2.2.2.2.2.2.2.2.2.2.1, z.2.2.2.2.2.2.2.2.2.2.2.2.1, z.2.2.2.2.2.2.2.2.2.2.2.2.2.1, z.2.2.2.2.2.2.2.2.2.2.2.2.2.2.1, z.2.2.2.2.2.2.2.2.2.2.2.2.2.2.2.1, z.2.2.2.2.2.2.2.2.2.2.2.2.2.2.2.2.1, z.2.2.2.2.2.2.2.2.2.2.2.2.2.2.2.2.2.1, z.2.2.2.2.2.2.2.2.2.2.2.2.2.2.2.2.2.2.1, z.2.2.2.2.2.2.2.2.2.2.2.2.2.2.2.2.2.2.2.1, z.2.2.2.2.2.2.2.2.2.2.2.2.2.2.2.2.2.2.2.2.1, z.2.2.2.2.2.2.2.2.2.2.2.2.2.2.2.2.2.2.2.2.2.1, z.2.2.2.2.2.2.2.2.2.2.2.2.2.2.2.2.2.2.2.2.2.2.1, z.2.2.2.2.2.2.2.2.2.2.2.2.2.2.2.2.2.2.2.2.2.2.2.1, z.2.2.2.2.2.2.2.2.2.2.2.2.2.2.2.2.2.2.2.2.2.2.2.2.1, z.2.2.2.2.2.2.2.2.2.2.2.2.2.2.2.2.2.2.2.2.2.2.2.2.2)
abbrev u_Mo_end (z : T_Mo) (x : Int32) : T_Mo := (z.1, z.2.1, z.2.2.1, z.2.2.2.1, z.2.2.2.2.1, z.2.2.2.2.2.1, z.2.2.2.2.2.2.1, x, z.2.2.2.2.2.2.2.2.1, z.2.2.2.2.2.2.2.2.2.1, z.2.2.2.2.2.2.2.2.2.2.1, z.2.2.2.2.2.2.2.2.2.2.2.1, z.2.2.2.2.2.2.2.2.2.2.2.2.1, z.2.2.2.2.2.2.2.2.2.2.2.2.2.1, z.2.2.2.2.2.2.2.2.2.2.2.2.2.2.1, z.2.2.2.2.2.2.2.2.2.2.2.2.2.2.2.1, z.2.2.2.2.2.2.2.2.2.2.2.2.2.2.2.2.1, z.2.2.2.2.2.2.2.2.2.2.2.2.2.2.2.2.2.1, z.2.2.2.2.2.2.2.2.2.2.2.2.2.2.2.2.2.2.1, z.2.2.2.2.2.2.2.2.2.2.2.2.2.2.2.2.2.2.2.1, z.2.2.2.2.2.2.2.2.2.2.2.2.2.2.2.2.2.2.2.2.1, z.2.2.2.2.2.2.2.2.2.2.2.2.2.2.2.2.2.2.2.2.2.1, z.2.2.2.2.2.2.2.2.2.2.2.2.2.2.2.2.2.2.2.2.2.2.1, z.2.2.2.2.2.2.2.2.2.2.2.2.2.2.2.2.2.2.2.2.2.2.2.1, z.2.2.2.2.2.2.2.2.2.2.2.2.2.2.2.2.2.2.2.2.2.2.2.2.1, z.2.2.2.2.2.2.2.2.2.2.2.2.2.2.2.2.2.2.2.2.2.2.2.2.2)
abbrev u_Mo_isWrong (z : T_Mo) (x : Int32) : T_Mo := (z.1, z.2.1, z.2.2.1, z.2.2.2.1, z.2.2.2.2.1, z.2.2.2.2.2.1, z.2.2.2.2.2.2.1, z.2.2.2.2.2.2.2.1, x, z.2.2.2.2.2.2.2.2.2.1, z.2.2.2.2.2.2.2.2.2.2.1, z.2.2.2.2.2.2.2.2.2.2.2.1, z.2.2.2.2.2.2.2.2.2.2.2.2.1, z.2.2.2.2.2.2.2.2.2.2.2.2.2.1, z.2.2.2.2.2.2.2.2.2.2.2.2.2.2.1, z.2.2.2.2.2.2.2.2.2.2.2.2.2.2.2.1, z.2.2.2.2.2.2.2.2.2.2.2.2.2.2.2.2.1, z.2.2.2.2.2.2.2.2.2.2.2.2.2.2.2.2.2.1, z.2.2.2.2.2.2.2.2.2.2.2.2.2.2.2.2.2.2.1, z.2.2.2.2.2.2.2.2.2.2.2.2.2.2.2.2.2.2.2.1, z.2.2.2.2.2.2.2.2.2.2.2.2.2.2.2.2.2.2.2.2.1, z.2.2.2.2.2.2.2.2.2.2.2.2.2.2.2.2.2.2.2.2.2.1, z.2.2.2.2.2.2.2.2.2.2.2.2.2.2.2.2.2.2.2.2.2.2.1, z.2.2.2.2.2.2.2.2.2.2.2.2.2.2.2.2.2.2.2.2.2.2.2.1, z.2.2.2.2.2.2.2.2.2.2.2.2.2.2.2.2.2.2.2.2.2.2.2.2.1, z.2.2.2.2.2.2.2.2.2.2.2.2.2.2.2.2.2.2.2.2.2.2.2.2.2)
abbrev u_Mo_open (z : T_Mo) (x : Int32) : T_Mo := (z.1, z.2.1, z.2.2.1, z.2.2.2.1, z.2.2.2.2.1, z.2.2.2.2.2.1, z.2.2.2.2.2.2.1, z.2.2.2.2.2.2.2.1, z.2.2.2.2.2.2.2.2.1, x, z.2.2.2.2.2.2.2.2.2.2.1, z.2.2.2.2.2.2.2.2.2.2.2.1, z.2.2.2.2.2.2.2.2.2.2.2.2.1, z.2.2.2.2.2.2.2.2.2.2.2.2.2.1, z.2.2.2.2.2.2.2.2.2.2.2.2.2.2.1, z.2.2.2.2.2.2.2.2.2.2.2.2.2.2.2.1, z.2.2.2.2.2.2.2.2.2.2.2.2.2.2.2.2.1, z.2.2.2.2.2.2.2.2.2.2.2.2.2.2.2.2.2.1, z.2.2.2.2.2.2.2.2.2.2.2.2.2.2.2.2.2.2.1, z.2.2.2.2.2.2.2.2.2.2.2.2.2.2.2.2.2.2.2.1, z.2.2.2.2.2.2.2.2.2.2.2.2.2.2.2.2.2.2.2.2.1, z.2.2.2.2.2.2.2.2.2.2.2.2.2.2.2.2.2.2.2.2.2.1, z.2.2.2.2.2.2.2.2.2.2.2.2.2.2.2.2.2.2.2.2.2.2.1, z.2.2.2.2.2.2.2.2.2.2.2.2.2.2.2.2.2.2.2.2.2.2.2.1, z.2.2.2.2.2.2.2.2.2.2.2.2.2.2.2.2.2.2.2.2.2.2.2.2.1, z.2.2.2.2.2.2.2.2.2.2.2.2.2.2.2.2.2.2.2.2.2.2.2.2.2)
abbrev u_Mo_by (z : T_Mo) (x : Nat → Int32) : T_Mo := (z.1, z.2.1, z.2.2.1, z.2.2.2.1, z.2.2.2.2.1, z.2.2.2.2.2.1, z.2.2.2.2.2.2.1, z.2.2.2.2.2.2.2.1, z.2.2.2.2.2.2.2.2.1, z.2.2.2.2.2.2.2.2.2.1, x, z.2.2.2.2.2.2.2.2.2.2.2.1, z.2.2.2.2.2.2.2.2.2.2.2.2.1, z.2.2.2.2.2.2.2.2.2.2.2.2.2.1, z.2.2.2.2.2.2.2.2.2.2.2.2.2.2.1, z.2.2.2.2.2.2.2.2.2.2.2.2.2.2.2.1, z.2.2.2.2.2.2.2.2.2.2.2.2.2.2.2.2.1, z.2.2.2.2.2.2.2.2.2.2.2.2.2.2.2.2.2.1, z.2.2.2.2.2.2.2.2.2.2.2.2.2.2.2.2.2.2.1, z.2.2.2.2.2.2.2.2.2.2.2.2.2.2.2.2.2.2.2.1, z.2.2.2.2.2.2.2.2.2.2.2.2.2.2.2.2.2.2.2.2.1, z.2.2.2.2.2.2.2.2.2.2.2.2.2.2.2.2.2.2.2.2.2.1, z.2.2.2.2.2.2.2.2.2.2.2.2.2.2.2.2.2.2.2.2.2.2.1, z.2.2.2.2.2.2.2.2.2.2.2.2.2.2.2.2.2.2.2.2.2.2.2.1, z.2.2.2.2.2.2.2.2.2.2.2.2.2.2.2.2.2.2.2.2.2.2.2.2.1, z.2.2.2.2.2.2.2.2.2.2.2.2.2.2.2.2.2.2.2.2.2.2.2.2.2)
abbrev u_Mo_truths (z : T_Mo) (x : Nat → Int32) : T_Mo := (z.1, z.2.1, z.2.2.1, z.2.2.2.1, z.2.2.2.2.1, z.2.2.2.2.2.1, z.2.2.2.2.2.2.1, z.2.2.2.2.2.2.2.1, z.2.2.2.2.2.2.2.2.1, z.2.2.2.2.2.2.2.2.2.1, z.2.2.2.2.2.2.2.2.2.2.1, x, z.2.2.2.2.2.2.2.2.2.2.2.2.1, z.2.2.2.2.2.2.2.2.2.2.2.2.2.1, z.2.2.2.2.2.2.2.2.2.2.2.2.2.2.1, z.2.2.2.2.2.2.2.2.2.2.2.2.2.2.2.1, z.2.2.2.2.2.2.2.2.2.2.2.2.2.2.2.2.1, z.2.2.2.2.2.2.2.2.2.2.2.2.2.2.2.2.2.1, z.2.2.2.2.2.2.2.2.2.2.2.2.2.2.2.2.2.2.1, z.2.2.2.2.2.2.2.2.2.2.2.2.2.2.2.2.2.2.2.1, z.2.2.2.2.2.2.2.2.2.2.2.2.2.2.2.2.2.2.2.2.1, z.2.2.2.2.2.2.2.2.2.2.2.2.2.2.2.2.2.2.2.2.2.1, z.2.2.2.2.2.2.2.2.2.2.2.2.2.2.2.2.2.2.2.2.2.2.1, z.2.2.2.2.2.2.2.2.2.2.2.2.2.2.2.2.2.2.2.2.2.2.2.1, z.2.2.2.2.2.2.2.2.2.2.2.2.2.2.2.2.2.2.2.2.2.2.2.2.1, z.2.2.2.2.2.2.2.2.2.2.2.2.2.2.2.2.2.2.2.2.2.2.2.2.2)
abbrev u_Mo_likes (z : T_Mo) (x : Nat → Int32) : T_Mo := (z.1, z.2.1, z.2.2.1, z.2.2.2.1, z.2.2.2.2.1, z.2.2.2.2.2.1, z.2.2.2.2.2.2.1, z.2.2.2.2.2.2.2.1, z.2.2.2.2.2.2.2.2.1, z.2.2.2.2.2.2.2.2.2.1, z.2.2.2.2.2.2.2.2.2.2.1, z.2.2.2.2.2.2.2.2.2.2.2.1, x, z.2.2.2.2.2.2.2.2.2.2.2.2.2.1, z.2.2.2.2.2.2.2.2.2.2.2.2.2.2.1, z.2.2.2.2.2.2.2.2.2.2.2.2.2.2.2.1, z.2.2.2.2.2.2.2.2.2.2.2.2.2.2.2.2.1, z.2.2.2.2.2.2.2.2.2.2.2.2.2.2.2.2.2.1, z.2.2.2.2.2.2.2.2.2.2.2.2.2.2.2.2.2.2.1, z.2.2.2.2.2.2.2.2.2.2.2.2.2.2.2.2.2.2.2.1, z.2.2.2.2.2.2.2.2.2.2.2.2.2.2.2.2.2.2.2.2.1, z.2.2.2.2.2.2.2.2.2.2.2.2.2.2.2.2.2.2.2.2.2.1, z.2.2.2.2.2.2.2.2.2.2.2.2.2.2.2.2.2.2.2.2.2.2.1, z.2.2.2.2.2.2.2.2.2.2.2.2.2.2.2.2.2.2.2.2.2.2.2.1, z.2.2.2.2.2.2.2.2.2.2.2.2.2.2.2.2.2.2.2.2.2.2.2.2.1, z.2.2.2.2.2.2.2.2.2.2.2.2.2.2.2.2.2.2.2.2.2.2.2.2.2)
abbrev u_Mo_lifts (z : T_Mo) (x : Nat → Int32) : T_Mo := (z.1, z.2.1, z.2.2.1, z.2.2.2.1, z.2.2.2.2.1, z.2.2.2.2.2.1, z.2.2.2.2.2.2.1, z.2.2.2.2.2.2.2.1, z.2.2.2.2.2.2.2.2.1, z.2.2.2.2.2.2.2.2.2.1, z.2.2.2.2.2.2.2.2.2.2.1, z.2.2.2.2.2.2.2.2.2.2.2.1, z.2.2.2.2.2.2.2.2.2.2.2.2.1, x, z.2.2.2.2.2.2.2.2.2.2.2.2.2.2.1, z.2.2.2.2.2.2.2.2.2.2.2.2.2.2.2.1, z.2.2.2.2.2.2.2.2.2.2.2.2.2.2.2.2.1, z.2.2.2.2.2.2.2.2.2.2.2.2.2.2.2.2.2.1, z.2.2.2.2.2.2.2.2.2.2.2.2.2.2.2.2.2.2.1, z.2.2.2.2.2.2.2.2.2.2.2.2.2.2.2.2.2.2.2.1, z.2.2.2.2.2.2.2.2.2.2.2.2.2.2.2.2.2.2.2.2.1, z.2.2.2.2.2.2.2.2.2.2.2.2.2.2.2.2.2.2.2.2.2.1, z.2.2.2.2.2.2.2.2.2.2.2.2.2.2.2.2.2.2.2.2.2.2.1, z.2.2.2.2.2.2.2.2.2.2.2.2.2.2.2.2.2.2.2.2.2.2.2.1, z.2.2.2.2.2.2.2.2.2.2.2.2.2.2.2.2.2.2.2.2.2.2.2.2.1, z.2.2.2.2.2.2.2.2.2.2.2.2.2.2.2.2.2.2.2.2.2.2.2.2.2)
abbrev u_Mo_loads (z : T_Mo) (x : Nat → Int32) : T_Mo := (z.1, z.2.1, z.2.2.1, z.2.2.2.1, z.2.2.2.2.1, z.2.2.2.2.2.1, z.2.2.2.2.2.2.1, z.2.2.2.2.2.2.2.1, z.2.2.2.2.2.2.2.2.1, z.2.2.2.2.2.2.2.2.2.1, z.2.2.2.2.2.2.2.2.2.2.1, z.2.2.2.2.2.2.2.2.2.2.2.1, z.2.2.2.2.2.2.2.2.2.2.2.2.1, z.2.2.2.2.2.2.2.2.2.2.2.2.2.1, x, z.2.2.2.2.2.2.2.2.2.2.2.2.2.2.2.1, z.2.2.2.2.2.2.2.2.2.2.2.2.2.2.2.2.1, z.2.2.2.2.2.2.2.2.2.2.2.2.2.2.2.2.2.1, z.2.2.2.2.2.2.2.2.2.2.2.2.2.2.2.2.2.2.1, z.2.2.2.2.2.2.2.2.2.2.2.2.2.2.2.2.2.2.2.1, z.2.2.2.2.2.2.2.2.2.2.2.2.2.2.2.2.2.2.2.2.1, z.2.2.2.2.2.2.2.2.2.2.2.2.2.2.2.2.2.2.2.2.2.1, z.2.2.2.2.2.2.2.2.2.2.2.2.2.2.2.2.2.2.2.2.2.2.1, z.2.2.2.2.2.2.2.2.2.2.2.2.2.2.2.2.2.2.2.2.2.2.2.1, z.2.2.2.2.2.2.2.2.2.2.2.2.2.2.2.2.2.2.2.2.2.2.2.2.1, z.2.2.2.2.2.2.2.2.2.2.2.2.2.2.2.2.2.2.2.2.2.2.2.2.2)
abbrev u_Mo_way (z : T_Mo) (x : Nat → Int32) : T_Mo := (z.1, z.2.1, z.2.2.1, z.2.2.2.1, z.2.2.2.2.1, z.2.2.2.2.2.1, z.2.2.2.2.2.2.1, z.2.2.2.2.2.2.2.1, z.2.2.2.2.2.2.2.2.1, z.2.2.2.2.2.2.2.2.2.1, z.2.2.2.2.2.2.2.2.2.2.1, z.2.2.2.2.2.2.2.2.2.2.2.1, z.2.2.2.2.2.2.2.2.2.2.2.2.1, z.2.2.2.2.2.2.2.2.2.2.2.2.2.1, z.2.2.2.2.2.2.2.2.2.2.2.2.2.2.1, x, z.2.2.2.2.2.2.2.2.2.2.2.2.2.2.2.2.1, z.2.2.2.2.2.2.2.2.2.2.2.2.2.2.2.2.2.1, z.2.2.2.2.2.2.2.2.2.2.2.2.2.2.2.2.2.2.1, z.2.2.2.2.2.2.2.2.2.2.2.2.2.2.2.2.2.2.2.1, z.2.2.2.2.2.2.2.2.2.2.2.2.2.2.2.2.2.2.2.2.1, z.2.2.2.2.2.2.2.2.2.2.2.2.2.2.2.2.2.2.2.2.2.1, z.2.2.2.2.2.2.2.2.2.2.2.2.2.2.2.2.2.2.2.2.2.2.1, z.2.2.2.2.2.2.2.2.2.2.2.2.2.2.2.2.2.2.2.2.2.2.2.1, z.2.2.2.2.2.2.2.2.2.2.2.2.2.2.2.2.2.2.2.2.2.2.2.2.1, z.2.2.2.2.2.2.2.2.2.2.2.2.2.2.2.2.2.2.2.2.2.2.2.2.2)
abbrev u_Mo_bestWay (z : T_Mo) (x : Nat → Int32) : T_Mo := (z.1, z.2.1, z.2.2.1, z.2.2.2.1, z.2.2.2.2.1, z.2.2.2.2.2.1, z.2.2.2.2.2.2.1, z.2.2.2.2.2.2.2.1, z.2.2.2.2.2.2.2.2.1, z.2.2.2.2.2.2.2.2.2.1, z.2.2.2.2.2.2.2.2.2.2.1, z.2.2.2.2.2.2.2.2.2.2.2.1, z.2.2.2.2.2.2.2.2.2.2.2.2.1, z.2.2.2.2.2.2.2.2.2.2.2.2.2.1, z.2.2.2.2.2.2.2.2.2.2.2.2.2.2.1, z.2.2.2.2.2.2.2.2.2.2.2.2.2.2.2.1, x, z.2.2.2.2.2.2.2.2.2.2.2.2.2.2.2.2.2.1, z.2.2.2.2.2.2.2.2.2.2.2.2.2.2.2.2.2.2.1, z.2.2.2.2.2.2.2.2.2.2.2.2.2.2.2.2.2.2.2.1, z.2.2.2.2.2.2.2.2.2.2.2.2.2.2.2.2.2.2.2.2.1, z.2.2.2.2.2.2.2.2.2.2.2.2.2.2.2.2.2.2.2.2.2.1, z.2.2.2.2.2.2.2.2.2.2.2.2.2.2.2.2.2.2.2.2.2.2.1, z.2.2.2.2.2.2.2.2.2.2.2.2.2.2.2.2.2.2.2.2.2.2.2.1, z.2.2.2.2.2.2.2.2.2.2.2.2.2.2.2.2.2.2.2.2.2.2.2.2.1, z.2.2.2.2.2.2.2.2.2.2.2.2.2.2.2.2.2.2.2.2.2.2.2.2.2)
abbrev u_Mo_bestLike (z : T_Mo) (x : Int32) : T_Mo := (z.1, z.2.1, z.2.2.1, z.2.2.2.1, z.2.2.2.2.1, z.2.2.2.2.2.1, z.2.2.2.2.2.2.1, z.2.2.2.2.2.2.2.1, z.2.2.2.2.2.2.2.2.1, z.2.2.2.2.2.2.2.2.2.1, z.2.2.2.2.2.2.2.2.2.2.1, z.2.2.2.2.2.2.2.2.2.2.2.1, z.2.2.2.2.2.2.2.2.2.2.2.2.1, z.2.2.2.2.2.2.2.2.2.2.2.2.2.1, z.2.2.2.2.2.2.2.2.2.2.2.2.2.2.1, z.2.2.2.2.2.2.2.2.2.2.2.2.2.2.2.1, z.2.2.2.2.2.2.2.2.2.2.2.2.2.2.2.2.1, x, z.2.2.2.2.2.2.2.2.2.2.2.2.2.2.2.2.2.2.1, z.2.2.2.2.2.2.2.2.2.2.2.2.2.2.2.2.2.2.2.1, z.2.2.2.2.2.2.2.2.2.2.2.2.2.2.2.2.2.2.2.2.1, z.2.2.2.2.2.2.2.2.2.2.2.2.2.2.2.2.2.2.2.2.2.1, z.2.2.2.2.2.2.2.2.2.2.2.2.2.2.2.2.2.2.2.2.2.2.1, z.2.2.2.2.2.2.2.2.2.2.2.2.2.2.2.2.2.2.2.2.2.2.2.1, z.2.2.2.2.2.2.2.2.2.2.2.2.2.2.2.2.2.2.2.2.2.2.2.2.1, z.2.2.2.2.2.2.2.2.2.2.2.2.2.2.2.2.2.2.2.2.2.2.2.2.2)
abbrev u_Mo_mostOwned (z : T_Mo) (x : Int32) : T_Mo := (z.1, z.2.1, z.2.2.1, z.2.2.2.1, z.2.2.2.2.1, z.2.2.2.2.2.1, z.2.2.2.2.2.2.1, z.2.2.2.2.2.2.2.1, z.2.2.2.2.2.2.2.2.1, z.2.2.2.2.2.2.2.2.2.1, z.2.2.2.2.2.2.2.2.2.2.1, z.2.2.2.2.2.2.2.2.2.2.2.1, z.2.2.2.2.2.2.2.2.2.2.2.2.1, z.2.2.2.2.2.2.2.2.2.2.2.2.2.1, z.2.2.2.2.2.2.2.2.2.2.2.2.2.2.1, z.2.2.2.2.2.2.2.2.2.2.2.2.2.2.2.1, z.2.2.2.2.2.2.2.2.2.2.2.2.2.2.2.2.1, z.2.2.2.2.2.2.2.2.2.2.2.2.2.2.2.2.2.1, x, z.2.2.2.2.2.2.2.2.2.2.2.2.2.2.2.2.2.2.2.1, z.2.2.2.2.2.2.2.2.2.2.2.2.2.2.2.2.2.2.2.2.1, z.2.2.2.2.2.2.2.2.2.2.2.2.2.2.2.2.2.2.2.2.2.1, z.2.2.2.2.2.2.2.2.2.2.2.2.2.2.2.2.2.2.2.2.2.2.1, z.2.2.2.2.2.2.2.2.2.2.2.2.2.2.2.2.2.2.2.2.2.2.2.1, z.2.2.2.2.2.2.2.2.2.2.2.2.2.2.2.2.2.2.2.2.2.2.2.2.1, z.2.2.2.2.2.2.2.2.2.2.2.2.2.2.2.2.2.2.2.2.2.2.2.2.2)
abbrev u_Mo_fewest (z : T_Mo) (x : Int32) : T_Mo := (z.1, z.2.1, z.2.2.1, z.2.2.2.1, z.2.2.2.2.1, z.2.2.2.2.2.1, z.2.2.2.2.2.2.1, z.2.2.2.2.2.2.2.1, z.2.2.2.2.2.2.2.2.1, z.2.2.2.2.2.2.2.2.2.1, z.2.2.2.2.2.2.2.2.2.2.1, z.2.2.2.2.2.2.2.2.2.2.2.1, z.2.2.2.2.2.2.2.2.2.2.2.2.1, z.2.2.2.2.2.2.2.2.2.2.2.2.2.1, z.2.2.2.2.2.2.2.2.2.2.2.2.2.2.1, z.2.2.2.2.2.2.2.2.2.2.2.2.2.2.2.1, z.2.2.2.2.2.2.2.2.2.2.2.2.2.2.2.2.1, z.2.2.2.2.2.2.2.2.2.2.2.2.2.2.2.2.2.1, z.2.2.2.2.2.2.2.2.2.2.2.2.2.2.2.2.2.2.1, x, z.2.2.2.2.2.2.2.2.2.2.2.2.2.2.2.2.2.2.2.2.1, z.2.2.2.2.2.2.2.2.2.2.2.2.2.2.2.2.2.2.2.2.2.1, z.2.2.2.2.2.2.2.2.2.2.2.2.2.2.2.2.2.2.2.2.2.2.1, z.2.2.2.2.2.2.2.2.2.2.2.2.2.2.2.2.2.2.2.2.2.2.2.1, z.2.2.2.2.2.2.2.2.2.2.2.2.2.2.2.2.2.2.2.2.2.2.2.2.1, z.2.2.2.2.2.2.2.2.2.2.2.2.2.2.2.2.2.2.2.2.2.2.2.2.2)
abbrev u_Mo_swaps (z : T_Mo) (x : Int32) : T_Mo := (z.1, z.2.1, z.2.2.1, z.2.2.2.1, z.2.2.2.2.1, z.2.2.2.2.2.1, z.2.2.2.2.2.2.1, z.2.2.2.2.2.2.2.1, z.2.2.2.2.2.2.2.2.1, z.2.2.2.2.2.2.2.2.2.1, z.2.2.2.2.2.2.2.2.2.2.1, z.2.2.2.2.2.2.2.2.2.2.2.1, z.2.2.2.2.2.2.2.2.2.2.2.2.1, z.2.2.2.2.2.2.2.2.2.2.2.2.2.1, z.2.2.2.2.2.2.2.2.2.2.2.2.2.2.1, z.2.2.2.2.2.2.2.2.2.2.2.2.2.2.2.1, z.2.2.2.2.2.2.2.2.2.2.2.2.2.2.2.2.1, z.2.2.2.2.2.2.2.2.2.2.2.2.2.2.2.2.2.1, z.2.2.2.2.2.2.2.2.2.2.2.2.2.2.2.2.2.2.1, z.2.2.2.2.2.2.2.2.2.2.2.2.2.2.2.2.2.2.2.1, x, z.2.2.2.2.2.2.2.2.2.2.2.2.2.2.2.2.2.2.2.2.2.1, z.2.2.2.2.2.2.2.2.2.2.2.2.2.2.2.2.2.2.2.2.2.2.1, z.2.2.2.2.2.2.2.2.2.2.2.2.2.2.2.2.2.2.2.2.2.2.2.1, z.2.2.2.2.2.2.2.2.2.2.2.2.2.2.2.2.2.2.2.2.2.2.2.2.1, z.2.2.2.2.2.2.2.2.2.2.2.2.2.2.2.2.2.2.2.2.2.2.2.2.2)
abbrev u_Mo_bodies (z : T_Mo) (x : Nat → Int32) : T_Mo := (z.1, z.2.1, z.2.2.1, z.2.2.2.1, z.2.2.2.2.1, z.2.2.2.2.2.1, z.2.2.2.2.2.2.1, z.2.2.2.2.2.2.2.1, z.2.2.2.2.2.2.2.2.1, z.2.2.2.2.2.2.2.2.2.1, z.2.2.2.2.2.2.2.2.2.2.1, z.2.2.2.2.2.2.2.2.2.2.2.1, z.2.2.2.2.2.2.2.2.2.2.2.2.1, z.2.2.2.2.2.2.2.2.2.2.2.2.2.1, z.2.2.2.2.2.2.2.2.2.2.2.2.2.2.1, z.2.2.2.2.2.2.2.2.2.2.2.2.2.2.2.1, z.2.2.2.2.2.2.2.2.2.2.2.2.2.2.2.2.1, z.2.2.2.2.2.2.2.2.2.2.2.2.2.2.2.2.2.1, z.2.2.2.2.2.2.2.2.2.2.2.2.2.2.2.2.2.2.1, z.2.2.2.2.2.2.2.2.2.2.2.2.2.2.2.2.2.2.2.1, z.2.2.2.2.2.2.2.2.2.2.2.2.2.2.2.2.2.2.2.2.1, x, z.2.2.2.2.2.2.2.2.2.2.2.2.2.2.2.2.2.2.2.2.2.2.1, z.2.2.2.2.2.2.2.2.2.2.2.2.2.2.2.2.2.2.2.2.2.2.2.1, z.2.2.2.2.2.2.2.2.2.2.2.2.2.2.2.2.2.2.2.2.2.2.2.2.1, z.2.2.2.2.2.2.2.2.2.2.2.2.2.2.2.2.2.2.2.2.2.2.2.2.2)
abbrev u_Mo_ran (z : T_Mo) (x : Int32) : T_Mo := (z.1, z.2.1, z.2.2.1, z.2.2.2.1, z.2.2.2.2.1, z.2.2.2.2.2.1, z.2.2.2.2.2.2.1, z.2.2.2.2.2.2.2.1, z.2.2.2.2.2.2.2.2.1, z.2.2.2.2.2.2.2.2.2.1, z.2.2.2.2.2.2.2.2.2.2.1, z.2.2.2.2.2.2.2.2.2.2.2.1, z.2.2.2.2.2.2.2.2.2.2.2.2.1, z.2.2.2.2.2.2.2.2.2.2.2.2.2.1, z.2.2.2.2.2.2.2.2.2.2.2.2.2.2.1, z.2.2.2.2.2.2.2.2.2.2.2.2.2.2.2.1, z.2.2.2.2.2.2.2.2.2.2.2.2.2.2.2.2.1, z.2.2.2.2.2.2.2.2.2.2.2.2.2.2.2.2.2.1, z.2.2.2.2.2.2.2.2.2.2.2.2.2.2.2.2.2.2.1, z.2.2.2.2.2.2.2.2.2.2.2.2.2.2.2.2.2.2.2.1, z.2.2.2.2.2.2.2.2.2.2.2.2.2.2.2.2.2.2.2.2.1, z.2.2.2.2.2.2.2.2.2.2.2.2.2.2.2.2.2.2.2.2.2.1, x, z.2.2.2.2.2.2.2.2.2.2.2.2.2.2.2.2.2.2.2.2.2.2.2.1, z.2.2.2.2.2.2.2.2.2.2.2.2.2.2.2.2.2.2.2.2.2.2.2.2.1, z.2.2.2.2.2.2.2.2.2.2.2.2.2.2.2.2.2.2.2.2.2.2.2.2.2)
abbrev u_Mo_kind (z : T_Mo) (x : Int32) : T_Mo := (z.1, z.2.1, z.2.2.1, z.2.2.2.1, z.2.2.2.2.1, z.2.2.2.2.2.1, z.2.2.2.2.2.2.1, z.2.2.2.2.2.2.2.1, z.2.2.2.2.2.2.2.2.1, z.2.2.2.2.2.2.2.2.2.1, z.2.2.2.2.2.2.2.2.2.2.1, z.2.2.2.2.2.2.2.2.2.2.2.1, z.2.2.2.2.2.2.2.2.2.2.2.2.1, z.2.2.2.2.2.2.2.2.2.2.2.2.2.1, z.2.2.2.2.2.2.2.2.2.2.2.2.2.2.1, z.2.2.2.2.2.2.2.2.2.2.2.2.2.2.2.1, z.2.2.2.2.2.2.2.2.2.2.2.2.2.2.2.2.1, z.2.2.2.2.2.2.2.2.2.2.2.2.2.2.2.2.2.1, z.2.2.2.2.2.2.2.2.2.2.2.2.2.2.2.2.2.2.1, z.2.2.2.2.2.2.2.2.2.2.2.2.2.2.2.2.2.2.2.1, z.2.2.2.2.2.2.2.2.2.2.2.2.2.2.2.2.2.2.2.2.1, z.2.2.2.2.2.2.2.2.2.2.2.2.2.2.2.2.2.2.2.2.2.1, z.2.2.2.2.2.2.2.2.2.2.2.2.2.2.2.2.2.2.2.2.2.2.1, x, z.2.2.2.2.2.2.2.2.2.2.2.2.2.2.2.2.2.2.2.2.2.2.2.2.1, z.2.2.2.2.2.2.2.2.2.2.2.2.2.2.2.2.2.2.2.2.2.2.2.2.2)
abbrev u_Mo_number (z : T_Mo) (x : Int32) : T_Mo := (z.1, z.2.1, z.2.2.1, z.2.2.2.1, z.2.2.2.2.1, z.2.2.2.2.2.1, z.2.2.2.2.2.2.1, z.2.2.2.2.2.2.2.1, z.2.2.2.2.2.2.2.2.1, z.2.2.2.2.2.2.2.2.2.1, z.2.2.2.2.2.2.2.2.2.2.1, z.2.2.2.2.2.2.2.2.2.2.2.1, z.2.2.2.2.2.2.2.2.2.2.2.2.1, z.2.2.2.2.2.2.2.2.2.2.2.2.2.1, z.2.2.2.2.2.2.2.2.2.2.2.2.2.2.1, z.2.2.2.2.2.2.2.2.2.2.2.2.2.2.2.1, z.2.2.2.2.2.2.2.2.2.2.2.2.2.2.2.2.1, z.2.2.2.2.2.2.2.2.2.2.2.2.2.2.2.2.2.1, z.2.2.2.2.2.2.2.2.2.2.2.2.2.2.2.2.2.2.1, z.2.2.2.2.2.2.2.2.2.2.2.2.2.2.2.2.2.2.2.1, z.2.2.2.2.2.2.2.2.2.2.2.2.2.2.2.2.2.2.2.2.1, z.2.2.2.2.2.2.2.2.2.2.2.2.2.2.2.2.2.2.2.2.2.1, z.2.2.2.2.2.2.2.2.2.2.2.2.2.2.2.2.2.2.2.2.2.2.1, z.2.2.2.2.2.2.2.2.2.2.2.2.2.2.2.2.2.2.2.2.2.2.2.1, x, z.2.2.2.2.2.2.2.2.2.2.2.2.2.2.2.2.2.2.2.2.2.2.2.2.2)
abbrev u_Mo_tellsV (z : T_Mo) (x : Int32) : T_Mo := (z.1, z.2.1, z.2.2.1, z.2.2.2.1, z.2.2.2.2.1, z.2.2.2.2.2.1, z.2.2.2.2.2.2.1, z.2.2.2.2.2.2.2.1, z.2.2.2.2.2.2.2.2.1, z.2.2.2.2.2.2.2.2.2.1, z.2.2.2.2.2.2.2.2.2.2.1, z.2.2.2.2.2.2.2.2.2.2.2.1, z.2.2.2.2.2.2.2.2.2.2.2.2.1, z.2.2.2.2.2.2.2.2.2.2.2.2.2.1, z.2.2.2.2.2.2.2.2.2.2.2.2.2.2.1, z.2.2.2.2.2.2.2.2.2.2.2.2.2.2.2.1, z.2.2.2.2.2.2.2.2.2.2.2.2.2.2.2.2.1, z.2.2.2.2.2.2.2.2.2.2.2.2.2.2.2.2.2.1, z.2.2.2.2.2.2.2.2.2.2.2.2.2.2.2.2.2.2.1, z.2.2.2.2.2.2.2.2.2.2.2.2.2.2.2.2.2.2.2.1, z.2.2.2.2.2.2.2.2.2.2.2.2.2.2.2.2.2.2.2.2.1, z.2.2.2.2.2.2.2.2.2.2.2.2.2.2.2.2.2.2.2.2.2.1, z.2.2.2.2.2.2.2.2.2.2.2.2.2.2.2.2.2.2.2.2.2.2.1, z.2.2.2.2.2.2.2.2.2.2.2.2.2.2.2.2.2.2.2.2.2.2.2.1, z.2.2.2.2.2.2.2.2.2.2.2.2.2.2.2.2.2.2.2.2.2.2.2.2.1, x)
def ws_Mo (g : Nat → ClassId) (a : Nat → Nat) (z : T_Mo) : va_W :=
  [(a 0, .inr (1, [.int (q_Mo_thrown z), .ref (a 1), .ref (a 2), .ref (a 3), .int (q_Mo_hasImage z), .int (q_Mo_act z), .int (q_Mo_spot z), .int (q_Mo_end z), .int (q_Mo_isWrong z), .int (q_Mo_open z), .ref (a 4), .ref (a 5), .ref (a 6), .ref (a 7), .ref (a 8), .ref (a 9), .ref (a 10), .int (q_Mo_bestLike z), .int (q_Mo_mostOwned z), .int (q_Mo_fewest z), .int (q_Mo_swaps z), .ref (a 11), .int (q_Mo_ran z), .int (q_Mo_kind z), .int (q_Mo_number z), .int (q_Mo_tellsV z)])),
   (a 1, .inl (g 0, 901, .inl (q_Mo_s z))),
   (a 2, .inl (g 0, 901, .inl (q_Mo_image z))),
   (a 3, .inl (g 0, 7, .inl (q_Mo_owners z))),
   (a 4, .inl (g 0, 6, .inl (q_Mo_by z))),
   (a 5, .inl (g 1, 64, .inl (q_Mo_truths z))),
   (a 6, .inl (g 0, 28, .inl (q_Mo_likes z))),
   (a 7, .inl (g 0, 4, .inl (q_Mo_lifts z))),
   (a 8, .inl (g 0, 5, .inl (q_Mo_loads z))),
   (a 9, .inl (g 0, 7, .inl (q_Mo_way z))),
   (a 10, .inl (g 0, 7, .inl (q_Mo_bestWay z))),
   (a 11, .inl (g 0, 20, .inl (q_Mo_bodies z)))]
def sh (a : Nat → Nat) (k : Nat) : Nat → Nat := fun i => a (i + k)
def y_OL_init : MethodName := ⟨"OwnsLift", "<init>", "()V"⟩
abbrev b_OL_init : ByteArray := prog_1_method_1_code
def y_OL_feed : MethodName := ⟨"OwnsLift", "feed", "(I)I"⟩
abbrev b_OL_feed : ByteArray := prog_1_method_2_code
def y_OL_land : MethodName := ⟨"OwnsLift", "land", "()I"⟩
abbrev b_OL_land : ByteArray := prog_1_method_3_code
def y_OL_person : MethodName := ⟨"OwnsLift", "person", "(IIII)I"⟩
abbrev b_OL_person : ByteArray := prog_1_method_4_code
def y_OL_of : MethodName := ⟨"OwnsLift", "of", "(II)I"⟩
abbrev b_OL_of : ByteArray := prog_1_method_5_code
def y_OL_strength : MethodName := ⟨"OwnsLift", "strength", "(II)I"⟩
abbrev b_OL_strength : ByteArray := prog_1_method_6_code
def y_OL_row : MethodName := ⟨"OwnsLift", "row", "(II)I"⟩
abbrev b_OL_row : ByteArray := prog_1_method_7_code
def y_OL_thing : MethodName := ⟨"OwnsLift", "thing", "(I)I"⟩
abbrev b_OL_thing : ByteArray := prog_1_method_8_code
def y_OL_at : MethodName := ⟨"OwnsLift", "at", "(II)I"⟩
abbrev b_OL_at : ByteArray := prog_1_method_9_code
def y_OL_give : MethodName := ⟨"OwnsLift", "give", "(II)I"⟩
abbrev b_OL_give : ByteArray := prog_1_method_10_code
def y_OL_like : MethodName := ⟨"OwnsLift", "like", "(II)I"⟩
abbrev b_OL_like : ByteArray := prog_1_method_11_code
def y_OL_when : MethodName := ⟨"OwnsLift", "when", "()I"⟩
abbrev b_OL_when : ByteArray := prog_1_method_12_code
def y_OL_bench : MethodName := ⟨"OwnsLift", "bench", "(I)I"⟩
abbrev b_OL_bench : ByteArray := prog_1_method_13_code
def y_OL_year : MethodName := ⟨"OwnsLift", "year", "()I"⟩
abbrev b_OL_year : ByteArray := prog_1_method_14_code
def y_OL_best : MethodName := ⟨"OwnsLift", "best", "(I)I"⟩
abbrev b_OL_best : ByteArray := prog_1_method_15_code
def y_OL_most : MethodName := ⟨"OwnsLift", "most", "()I"⟩
abbrev b_OL_most : ByteArray := prog_1_method_16_code
def y_OL_train : MethodName := ⟨"OwnsLift", "train", "(I)I"⟩
abbrev b_OL_train : ByteArray := prog_1_method_17_code
def y_OL_moved : MethodName := ⟨"OwnsLift", "moved", "()I"⟩
abbrev b_OL_moved : ByteArray := prog_1_method_18_code
def y_OL_gives : MethodName := ⟨"OwnsLift", "gives", "(II)I"⟩
abbrev b_OL_gives : ByteArray := prog_1_method_19_code
def y_OL_parts : MethodName := ⟨"OwnsLift", "parts", "(II)J"⟩
abbrev b_OL_parts : ByteArray := prog_1_method_20_code
def y_OL_swap : MethodName := ⟨"OwnsLift", "swap", "(I)I"⟩
abbrev b_OL_swap : ByteArray := prog_1_method_21_code
def y_OL_rest : MethodName := ⟨"OwnsLift", "rest", "()I"⟩
abbrev b_OL_rest : ByteArray := prog_1_method_22_code
def y_OL_fair : MethodName := ⟨"OwnsLift", "fair", "(III)I"⟩
abbrev b_OL_fair : ByteArray := prog_1_method_23_code
def y_OL_had : MethodName := ⟨"OwnsLift", "had", "(II)I"⟩
abbrev b_OL_had : ByteArray := prog_1_method_24_code
def y_OL_odds : MethodName := ⟨"OwnsLift", "odds", "(I)J"⟩
abbrev b_OL_odds : ByteArray := prog_1_method_25_code
def y_OL_see : MethodName := ⟨"OwnsLift", "see", "(IZ)I"⟩
abbrev b_OL_see : ByteArray := prog_1_method_26_code
def y_OL_looked : MethodName := ⟨"OwnsLift", "looked", "()I"⟩
abbrev b_OL_looked : ByteArray := prog_1_method_27_code
def y_OL_act : MethodName := ⟨"OwnsLift", "act", "(III)I"⟩
abbrev b_OL_act : ByteArray := prog_1_method_28_code
def y_OL_trace : MethodName := ⟨"OwnsLift", "trace", "(I)I"⟩
abbrev b_OL_trace : ByteArray := prog_1_method_29_code
def y_OL_as : MethodName := ⟨"OwnsLift", "as", "(II)I"⟩
abbrev b_OL_as : ByteArray := prog_1_method_30_code
def y_OL_image : MethodName := ⟨"OwnsLift", "image", "()I"⟩
abbrev b_OL_image : ByteArray := prog_1_method_31_code
def y_OL_undo : MethodName := ⟨"OwnsLift", "undo", "()I"⟩
abbrev b_OL_undo : ByteArray := prog_1_method_32_code
def y_OL_count : MethodName := ⟨"OwnsLift", "count", "(I)I"⟩
abbrev b_OL_count : ByteArray := prog_1_method_33_code
def y_OL_within : MethodName := ⟨"OwnsLift", "within", "(II)Z"⟩
abbrev b_OL_within : ByteArray := prog_1_method_34_code
def y_OL_isKind : MethodName := ⟨"OwnsLift", "isKind", "(I)Z"⟩
abbrev b_OL_isKind : ByteArray := prog_1_method_35_code
def y_Mo_init : MethodName := ⟨"OwnsLiftModel", "<init>", "()V"⟩
abbrev b_Mo_init : ByteArray := prog_14_method_1_code
def y_Mo_in : MethodName := ⟨"OwnsLiftModel", "in", "(III)Z"⟩
abbrev b_Mo_in : ByteArray := prog_14_method_3_code
def y_Mo_isPerson : MethodName := ⟨"OwnsLiftModel", "isPerson", "(I)Z"⟩
abbrev b_Mo_isPerson : ByteArray := prog_14_method_4_code
def y_Mo_isThing : MethodName := ⟨"OwnsLiftModel", "isThing", "(I)Z"⟩
abbrev b_Mo_isThing : ByteArray := prog_14_method_5_code
def y_Mo_feed : MethodName := ⟨"OwnsLiftModel", "feed", "(I)I"⟩
abbrev b_Mo_feed : ByteArray := prog_14_method_6_code
def y_Mo_here : MethodName := ⟨"OwnsLiftModel", "here", "()I"⟩
abbrev b_Mo_here : ByteArray := prog_14_method_7_code
def y_Mo_must : MethodName := ⟨"OwnsLiftModel", "must", "(I)V"⟩
abbrev b_Mo_must : ByteArray := prog_14_method_8_code
def y_Mo_spells : MethodName := ⟨"OwnsLiftModel", "spells", "(Ljava/lang/String;)V"⟩
abbrev b_Mo_spells : ByteArray := prog_14_method_9_code
def y_Mo_figures : MethodName := ⟨"OwnsLiftModel", "figures", "()I"⟩
abbrev b_Mo_figures : ByteArray := prog_14_method_10_code
def y_Mo_among : MethodName := ⟨"OwnsLiftModel", "among", "(Ljava/lang/String;)I"⟩
abbrev b_Mo_among : ByteArray := prog_14_method_11_code
def y_Mo_emits : MethodName := ⟨"OwnsLiftModel", "emits", "(I)V"⟩
abbrev b_Mo_emits : ByteArray := prog_14_method_12_code
def y_Mo_factor : MethodName := ⟨"OwnsLiftModel", "factor", "()V"⟩
abbrev b_Mo_factor : ByteArray := prog_14_method_13_code
def y_Mo_every : MethodName := ⟨"OwnsLiftModel", "every", "()V"⟩
abbrev b_Mo_every : ByteArray := prog_14_method_14_code
def y_Mo_some : MethodName := ⟨"OwnsLiftModel", "some", "()V"⟩
abbrev b_Mo_some : ByteArray := prog_14_method_15_code
def y_Mo_much : MethodName := ⟨"OwnsLiftModel", "much", "(ILjava/lang/String;)V"⟩
abbrev b_Mo_much : ByteArray := prog_14_method_16_code
def y_Mo_clauseOfL : MethodName := ⟨"OwnsLiftModel", "clauseOfL", "()V"⟩
abbrev b_Mo_clauseOfL : ByteArray := prog_14_method_17_code
def y_Mo_clauseHere : MethodName := ⟨"OwnsLiftModel", "clauseHere", "()V"⟩
abbrev b_Mo_clauseHere : ByteArray := prog_14_method_18_code
def y_Mo_land : MethodName := ⟨"OwnsLiftModel", "land", "()I"⟩
abbrev b_Mo_land : ByteArray := prog_14_method_19_code
def y_Mo_sumOf : MethodName := ⟨"OwnsLiftModel", "sumOf", "(I)I"⟩
abbrev b_Mo_sumOf : ByteArray := prog_14_method_20_code
def y_Mo_tells : MethodName := ⟨"OwnsLiftModel", "tells", "(III)I"⟩
abbrev b_Mo_tells : ByteArray := prog_14_method_21_code
def y_Mo_likeOf : MethodName := ⟨"OwnsLiftModel", "likeOf", "(II)I"⟩
abbrev b_Mo_likeOf : ByteArray := prog_14_method_22_code
def y_Mo_liftsOf : MethodName := ⟨"OwnsLiftModel", "liftsOf", "(I)I"⟩
abbrev b_Mo_liftsOf : ByteArray := prog_14_method_23_code
def y_Mo_illOf : MethodName := ⟨"OwnsLiftModel", "illOf", "(I)I"⟩
abbrev b_Mo_illOf : ByteArray := prog_14_method_24_code
def y_Mo_looksForAll : MethodName := ⟨"OwnsLiftModel", "looksForAll", "()V"⟩
abbrev b_Mo_looksForAll : ByteArray := prog_14_method_25_code
def y_Mo_person : MethodName := ⟨"OwnsLiftModel", "person", "(IIII)I"⟩
abbrev b_Mo_person : ByteArray := prog_14_method_26_code
def y_Mo_loadOf : MethodName := ⟨"OwnsLiftModel", "loadOf", "(I)I"⟩
abbrev b_Mo_loadOf : ByteArray := prog_14_method_27_code
def y_Mo_thingsOf : MethodName := ⟨"OwnsLiftModel", "thingsOf", "(I)I"⟩
abbrev b_Mo_thingsOf : ByteArray := prog_14_method_28_code
def y_Mo_of : MethodName := ⟨"OwnsLiftModel", "of", "(II)I"⟩
abbrev b_Mo_of : ByteArray := prog_14_method_29_code
def y_Mo_strength : MethodName := ⟨"OwnsLiftModel", "strength", "(II)I"⟩
abbrev b_Mo_strength : ByteArray := prog_14_method_30_code
def y_Mo_row : MethodName := ⟨"OwnsLiftModel", "row", "(II)I"⟩
abbrev b_Mo_row : ByteArray := prog_14_method_31_code
def y_Mo_thing : MethodName := ⟨"OwnsLiftModel", "thing", "(I)I"⟩
abbrev b_Mo_thing : ByteArray := prog_14_method_32_code
def y_Mo_orNobody : MethodName := ⟨"OwnsLiftModel", "orNobody", "(I)I"⟩
abbrev b_Mo_orNobody : ByteArray := prog_14_method_33_code
def y_Mo_at : MethodName := ⟨"OwnsLiftModel", "at", "(II)I"⟩
abbrev b_Mo_at : ByteArray := prog_14_method_34_code
def y_Mo_give : MethodName := ⟨"OwnsLiftModel", "give", "(II)I"⟩
abbrev b_Mo_give : ByteArray := prog_14_method_35_code
def y_Mo_like : MethodName := ⟨"OwnsLiftModel", "like", "(II)I"⟩
abbrev b_Mo_like : ByteArray := prog_14_method_36_code
def y_Mo_when : MethodName := ⟨"OwnsLiftModel", "when", "()I"⟩
abbrev b_Mo_when : ByteArray := prog_14_method_37_code
def y_Mo_isAhead : MethodName := ⟨"OwnsLiftModel", "isAhead", "(III)Z"⟩
abbrev b_Mo_isAhead : ByteArray := prog_14_method_38_code
def y_Mo_toldThing : MethodName := ⟨"OwnsLiftModel", "toldThing", "(I)I"⟩
abbrev b_Mo_toldThing : ByteArray := prog_14_method_39_code
def y_Mo_drops : MethodName := ⟨"OwnsLiftModel", "drops", "(I)I"⟩
abbrev b_Mo_drops : ByteArray := prog_14_method_40_code
def y_Mo_becomes : MethodName := ⟨"OwnsLiftModel", "becomes", "(II)I"⟩
abbrev b_Mo_becomes : ByteArray := prog_14_method_41_code
def y_Mo_benches : MethodName := ⟨"OwnsLiftModel", "benches", "(I)I"⟩
abbrev b_Mo_benches : ByteArray := prog_14_method_42_code
def y_Mo_bench : MethodName := ⟨"OwnsLiftModel", "bench", "(I)I"⟩
abbrev b_Mo_bench : ByteArray := prog_14_method_43_code
def y_Mo_year : MethodName := ⟨"OwnsLiftModel", "year", "()I"⟩
abbrev b_Mo_year : ByteArray := prog_14_method_44_code
def y_Mo_begins : MethodName := ⟨"OwnsLiftModel", "begins", "()V"⟩
abbrev b_Mo_begins : ByteArray := prog_14_method_45_code
def y_Mo_waysFrom : MethodName := ⟨"OwnsLiftModel", "waysFrom", "(III)V"⟩
abbrev b_Mo_waysFrom : ByteArray := prog_14_method_46_code
def y_Mo_best : MethodName := ⟨"OwnsLiftModel", "best", "(I)I"⟩
abbrev b_Mo_best : ByteArray := prog_14_method_47_code
def y_Mo_most : MethodName := ⟨"OwnsLiftModel", "most", "()I"⟩
abbrev b_Mo_most : ByteArray := prog_14_method_48_code
def y_Mo_train : MethodName := ⟨"OwnsLiftModel", "train", "(I)I"⟩
abbrev b_Mo_train : ByteArray := prog_14_method_49_code
def y_Mo_movesFrom : MethodName := ⟨"OwnsLiftModel", "movesFrom", "(II)V"⟩
abbrev b_Mo_movesFrom : ByteArray := prog_14_method_50_code
def y_Mo_moved : MethodName := ⟨"OwnsLiftModel", "moved", "()I"⟩
abbrev b_Mo_moved : ByteArray := prog_14_method_51_code
def y_Mo_weightsOf : MethodName := ⟨"OwnsLiftModel", "weightsOf", "(I)I"⟩
abbrev b_Mo_weightsOf : ByteArray := prog_14_method_52_code
def y_Mo_likesOf : MethodName := ⟨"OwnsLiftModel", "likesOf", "(II)I"⟩
abbrev b_Mo_likesOf : ByteArray := prog_14_method_53_code
def y_Mo_gives : MethodName := ⟨"OwnsLiftModel", "gives", "(II)I"⟩
abbrev b_Mo_gives : ByteArray := prog_14_method_54_code
def y_Mo_lowest : MethodName := ⟨"OwnsLiftModel", "lowest", "(JJI)J"⟩
abbrev b_Mo_lowest : ByteArray := prog_14_method_55_code
def y_Mo_dearestOf : MethodName := ⟨"OwnsLiftModel", "dearestOf", "(II)I"⟩
abbrev b_Mo_dearestOf : ByteArray := prog_14_method_56_code
def y_Mo_parts : MethodName := ⟨"OwnsLiftModel", "parts", "(II)J"⟩
abbrev b_Mo_parts : ByteArray := prog_14_method_57_code
def y_Mo_canSwap : MethodName := ⟨"OwnsLiftModel", "canSwap", "(II)Z"⟩
abbrev b_Mo_canSwap : ByteArray := prog_14_method_58_code
def y_Mo_firstSwap : MethodName := ⟨"OwnsLiftModel", "firstSwap", "()I"⟩
abbrev b_Mo_firstSwap : ByteArray := prog_14_method_59_code
def y_Mo_swap : MethodName := ⟨"OwnsLiftModel", "swap", "(I)I"⟩
abbrev b_Mo_swap : ByteArray := prog_14_method_60_code
def y_Mo_keeps : MethodName := ⟨"OwnsLiftModel", "keeps", "()V"⟩
abbrev b_Mo_keeps : ByteArray := prog_14_method_61_code
def y_Mo_goesBack : MethodName := ⟨"OwnsLiftModel", "goesBack", "()V"⟩
abbrev b_Mo_goesBack : ByteArray := prog_14_method_62_code
def y_Mo_rest : MethodName := ⟨"OwnsLiftModel", "rest", "()I"⟩
abbrev b_Mo_rest : ByteArray := prog_14_method_63_code
def y_Mo_fair : MethodName := ⟨"OwnsLiftModel", "fair", "(III)I"⟩
abbrev b_Mo_fair : ByteArray := prog_14_method_64_code
def y_Mo_had : MethodName := ⟨"OwnsLiftModel", "had", "(II)I"⟩
abbrev b_Mo_had : ByteArray := prog_14_method_65_code
def y_Mo_odds : MethodName := ⟨"OwnsLiftModel", "odds", "(I)J"⟩
abbrev b_Mo_odds : ByteArray := prog_14_method_66_code
def y_Mo_see : MethodName := ⟨"OwnsLiftModel", "see", "(IZ)I"⟩
abbrev b_Mo_see : ByteArray := prog_14_method_67_code
def y_Mo_looked : MethodName := ⟨"OwnsLiftModel", "looked", "()I"⟩
abbrev b_Mo_looked : ByteArray := prog_14_method_68_code
def y_Mo_ranBody : MethodName := ⟨"OwnsLiftModel", "ranBody", "(I)V"⟩
abbrev b_Mo_ranBody : ByteArray := prog_14_method_69_code
def y_Mo_isUnder : MethodName := ⟨"OwnsLiftModel", "isUnder", "(II)Z"⟩
abbrev b_Mo_isUnder : ByteArray := prog_14_method_70_code
def y_Mo_plainLifts : MethodName := ⟨"OwnsLiftModel", "plainLifts", "(I)I"⟩
abbrev b_Mo_plainLifts : ByteArray := prog_14_method_71_code
def y_Mo_liftsActs : MethodName := ⟨"OwnsLiftModel", "liftsActs", "(I)I"⟩
abbrev b_Mo_liftsActs : ByteArray := prog_14_method_72_code
def y_Mo_plainDrops : MethodName := ⟨"OwnsLiftModel", "plainDrops", "(I)I"⟩
abbrev b_Mo_plainDrops : ByteArray := prog_14_method_73_code
def y_Mo_dropsActs : MethodName := ⟨"OwnsLiftModel", "dropsActs", "(I)I"⟩
abbrev b_Mo_dropsActs : ByteArray := prog_14_method_74_code
def y_Mo_plainTells : MethodName := ⟨"OwnsLiftModel", "plainTells", "(I)I"⟩
abbrev b_Mo_plainTells : ByteArray := prog_14_method_75_code
def y_Mo_tellsActs : MethodName := ⟨"OwnsLiftModel", "tellsActs", "(I)I"⟩
abbrev b_Mo_tellsActs : ByteArray := prog_14_method_76_code
def y_Mo_act : MethodName := ⟨"OwnsLiftModel", "act", "(III)I"⟩
abbrev b_Mo_act : ByteArray := prog_14_method_77_code
def y_Mo_trace : MethodName := ⟨"OwnsLiftModel", "trace", "(I)I"⟩
abbrev b_Mo_trace : ByteArray := prog_14_method_78_code
def y_Mo_as : MethodName := ⟨"OwnsLiftModel", "as", "(II)I"⟩
abbrev b_Mo_as : ByteArray := prog_14_method_79_code
def y_Mo_image : MethodName := ⟨"OwnsLiftModel", "image", "()I"⟩
abbrev b_Mo_image : ByteArray := prog_14_method_80_code
def y_Mo_undo : MethodName := ⟨"OwnsLiftModel", "undo", "()I"⟩
abbrev b_Mo_undo : ByteArray := prog_14_method_81_code
def y_Mo_count : MethodName := ⟨"OwnsLiftModel", "count", "(I)I"⟩
abbrev b_Mo_count : ByteArray := prog_14_method_82_code
def y_Ac_init : MethodName := ⟨"OwnsLift$Acts", "<init>", "()V"⟩
abbrev b_Ac_init : ByteArray := prog_2_method_1_code
def y_Ac_forget : MethodName := ⟨"OwnsLift$Acts", "forget", "()V"⟩
abbrev b_Ac_forget : ByteArray := prog_2_method_2_code
def y_Ac_take : MethodName := ⟨"OwnsLift$Acts", "take", "(LOwnsLift$People;I)V"⟩
abbrev b_Ac_take : ByteArray := prog_2_method_3_code
def y_Ac_run : MethodName := ⟨"OwnsLift$Acts", "run", "(IIII)I"⟩
abbrev b_Ac_run : ByteArray := prog_2_method_4_code
def y_Ac_bodyOf : MethodName := ⟨"OwnsLift$Acts", "bodyOf", "(II)I"⟩
abbrev b_Ac_bodyOf : ByteArray := prog_2_method_5_code
def y_Ac_note : MethodName := ⟨"OwnsLift$Acts", "note", "(I)V"⟩
abbrev b_Ac_note : ByteArray := prog_2_method_6_code
def y_Fr_init : MethodName := ⟨"OwnsLift$Fraction", "<init>", "()V"⟩
abbrev b_Fr_init : ByteArray := prog_3_method_1_code
def y_Fr_put : MethodName := ⟨"OwnsLift$Fraction", "put", "(JJ)V"⟩
abbrev b_Fr_put : ByteArray := prog_3_method_2_code
def y_Fr_common : MethodName := ⟨"OwnsLift$Fraction", "common", "(JJ)J"⟩
abbrev b_Fr_common : ByteArray := prog_3_method_3_code
def y_La_init : MethodName := ⟨"OwnsLift$Land", "<init>", "()V"⟩
abbrev b_La_init : ByteArray := prog_4_method_1_code
def y_La_clear : MethodName := ⟨"OwnsLift$Land", "clear", "()V"⟩
abbrev b_La_clear : ByteArray := prog_4_method_2_code
def y_La_emit : MethodName := ⟨"OwnsLift$Land", "emit", "(I)V"⟩
abbrev b_La_emit : ByteArray := prog_4_method_3_code
def y_La_close : MethodName := ⟨"OwnsLift$Land", "close", "(II)V"⟩
abbrev b_La_close : ByteArray := prog_4_method_4_code
def y_La_together : MethodName := ⟨"OwnsLift$Land", "together", "(I[I)I"⟩
abbrev b_La_together : ByteArray := prog_4_method_5_code
def y_La_holds : MethodName := ⟨"OwnsLift$Land", "holds", "(II[I)Z"⟩
abbrev b_La_holds : ByteArray := prog_4_method_6_code
def y_La_passes : MethodName := ⟨"OwnsLift$Land", "passes", "(I[I)Z"⟩
abbrev b_La_passes : ByteArray := prog_4_method_7_code
def y_La_copyFrom : MethodName := ⟨"OwnsLift$Land", "copyFrom", "(LOwnsLift$Land;)V"⟩
abbrev b_La_copyFrom : ByteArray := prog_4_method_8_code
def y_Pe_init : MethodName := ⟨"OwnsLift$People", "<init>", "()V"⟩
abbrev b_Pe_init : ByteArray := prog_5_method_1_code
def y_Pe_has : MethodName := ⟨"OwnsLift$People", "has", "(I)Z"⟩
abbrev b_Pe_has : ByteArray := prog_5_method_2_code
def y_Pe_add : MethodName := ⟨"OwnsLift$People", "add", "(IIII)I"⟩
abbrev b_Pe_add : ByteArray := prog_5_method_3_code
def y_Pe_addToRow : MethodName := ⟨"OwnsLift$People", "addToRow", "(II)I"⟩
abbrev b_Pe_addToRow : ByteArray := prog_5_method_4_code
def y_Pe_copyFrom : MethodName := ⟨"OwnsLift$People", "copyFrom", "(LOwnsLift$People;)V"⟩
abbrev b_Pe_copyFrom : ByteArray := prog_5_method_5_code
def y_Rd_init : MethodName := ⟨"OwnsLift$Reader", "<init>", "()V"⟩
abbrev b_Rd_init : ByteArray := prog_6_method_1_code
def y_Rd_read : MethodName := ⟨"OwnsLift$Reader", "read", "([II)Z"⟩
abbrev b_Rd_read : ByteArray := prog_6_method_2_code
def y_Rd_clause : MethodName := ⟨"OwnsLift$Reader", "clause", "()Z"⟩
abbrev b_Rd_clause : ByteArray := prog_6_method_3_code
def y_Rd_word : MethodName := ⟨"OwnsLift$Reader", "word", "()I"⟩
abbrev b_Rd_word : ByteArray := prog_6_method_4_code
def y_Rd_spelling : MethodName := ⟨"OwnsLift$Reader", "spelling", "(I)Ljava/lang/String;"⟩
abbrev b_Rd_spelling : ByteArray := prog_6_method_5_code
def y_Rd_alike : MethodName := ⟨"OwnsLift$Reader", "alike", "(Ljava/lang/String;)I"⟩
abbrev b_Rd_alike : ByteArray := prog_6_method_6_code
def y_Rd_either : MethodName := ⟨"OwnsLift$Reader", "either", "(I)Z"⟩
abbrev b_Rd_either : ByteArray := prog_6_method_7_code
def y_Rd_factor : MethodName := ⟨"OwnsLift$Reader", "factor", "(I)Z"⟩
abbrev b_Rd_factor : ByteArray := prog_6_method_8_code
def y_Rd_test : MethodName := ⟨"OwnsLift$Reader", "test", "()Z"⟩
abbrev b_Rd_test : ByteArray := prog_6_method_9_code
def y_Rd_number : MethodName := ⟨"OwnsLift$Reader", "number", "()I"⟩
abbrev b_Rd_number : ByteArray := prog_6_method_10_code
def y_Rd_digitHere : MethodName := ⟨"OwnsLift$Reader", "digitHere", "()Z"⟩
abbrev b_Rd_digitHere : ByteArray := prog_6_method_11_code
def y_Rd_eat : MethodName := ⟨"OwnsLift$Reader", "eat", "(C)Z"⟩
abbrev b_Rd_eat : ByteArray := prog_6_method_12_code
def y_Rd_oneOf : MethodName := ⟨"OwnsLift$Reader", "oneOf", "(Ljava/lang/String;)I"⟩
abbrev b_Rd_oneOf : ByteArray := prog_6_method_13_code
def y_Re_init : MethodName := ⟨"OwnsLift$Realm", "<init>", "()V"⟩
abbrev b_Re_init : ByteArray := prog_7_method_1_code
def y_Re_likeOf : MethodName := ⟨"OwnsLift$Realm", "likeOf", "(II)I"⟩
abbrev b_Re_likeOf : ByteArray := prog_7_method_2_code
def y_Re_liftsOf : MethodName := ⟨"OwnsLift$Realm", "liftsOf", "(I)I"⟩
abbrev b_Re_liftsOf : ByteArray := prog_7_method_3_code
def y_Re_illOf : MethodName := ⟨"OwnsLift$Realm", "illOf", "(I)I"⟩
abbrev b_Re_illOf : ByteArray := prog_7_method_4_code
def y_Re_wearOf : MethodName := ⟨"OwnsLift$Realm", "wearOf", "(I)I"⟩
abbrev b_Re_wearOf : ByteArray := prog_7_method_5_code
def y_Re_pass : MethodName := ⟨"OwnsLift$Realm", "pass", "()V"⟩
abbrev b_Re_pass : ByteArray := prog_7_method_6_code
def y_Re_tellPerson : MethodName := ⟨"OwnsLift$Realm", "tellPerson", "(I)V"⟩
abbrev b_Re_tellPerson : ByteArray := prog_7_method_7_code
def y_Re_tellNobody : MethodName := ⟨"OwnsLift$Realm", "tellNobody", "()V"⟩
abbrev b_Re_tellNobody : ByteArray := prog_7_method_8_code
def y_Re_tellThing : MethodName := ⟨"OwnsLift$Realm", "tellThing", "(I)V"⟩
abbrev b_Re_tellThing : ByteArray := prog_7_method_9_code
def y_Re_tellNoThing : MethodName := ⟨"OwnsLift$Realm", "tellNoThing", "()V"⟩
abbrev b_Re_tellNoThing : ByteArray := prog_7_method_10_code
def y_Re_copyFrom : MethodName := ⟨"OwnsLift$Realm", "copyFrom", "(LOwnsLift$Realm;)V"⟩
abbrev b_Re_copyFrom : ByteArray := prog_7_method_11_code
def y_Se_leastGiven : MethodName := ⟨"OwnsLift$Sets", "leastGiven", "(LOwnsLift$Standing;I)I"⟩
abbrev b_Se_leastGiven : ByteArray := prog_8_method_2_code
def y_Se_fairNumber : MethodName := ⟨"OwnsLift$Sets", "fairNumber", "(LOwnsLift$Standing;II)I"⟩
abbrev b_Se_fairNumber : ByteArray := prog_8_method_3_code
def y_Se_fairLeast : MethodName := ⟨"OwnsLift$Sets", "fairLeast", "(LOwnsLift$Standing;II)I"⟩
abbrev b_Se_fairLeast : ByteArray := prog_8_method_4_code
def y_Se_partsFairly : MethodName := ⟨"OwnsLift$Sets", "partsFairly", "(LOwnsLift$Standing;III)Z"⟩
abbrev b_Se_partsFairly : ByteArray := prog_8_method_5_code
def y_Se_weighingNumber : MethodName := ⟨"OwnsLift$Sets", "weighingNumber", "(LOwnsLift$Standing;I)I"⟩
abbrev b_Se_weighingNumber : ByteArray := prog_8_method_6_code
def y_Se_weighingLeast : MethodName := ⟨"OwnsLift$Sets", "weighingLeast", "(LOwnsLift$Standing;I)I"⟩
abbrev b_Se_weighingLeast : ByteArray := prog_8_method_7_code
def y_Sh_init : MethodName := ⟨"OwnsLift$Shares", "<init>", "()V"⟩
abbrev b_Sh_init : ByteArray := prog_9_method_1_code
def y_Sh_byLike : MethodName := ⟨"OwnsLift$Shares", "byLike", "(LOwnsLift$Standing;)V"⟩
abbrev b_Sh_byLike : ByteArray := prog_9_method_2_code
def y_Sh_byNumber : MethodName := ⟨"OwnsLift$Shares", "byNumber", "(LOwnsLift$Standing;)V"⟩
abbrev b_Sh_byNumber : ByteArray := prog_9_method_3_code
def y_Sh_byStaying : MethodName := ⟨"OwnsLift$Shares", "byStaying", "(LOwnsLift$Standing;)V"⟩
abbrev b_Sh_byStaying : ByteArray := prog_9_method_4_code
def y_Sh_begin : MethodName := ⟨"OwnsLift$Shares", "begin", "(LOwnsLift$Standing;)V"⟩
abbrev b_Sh_begin : ByteArray := prog_9_method_5_code
def y_Sh_solve : MethodName := ⟨"OwnsLift$Shares", "solve", "()V"⟩
abbrev b_Sh_solve : ByteArray := prog_9_method_6_code
def y_Sh_deal : MethodName := ⟨"OwnsLift$Shares", "deal", "(II)V"⟩
abbrev b_Sh_deal : ByteArray := prog_9_method_7_code
def y_St_init : MethodName := ⟨"OwnsLift$Standing", "<init>", "()V"⟩
abbrev b_St_init : ByteArray := prog_10_method_1_code
def y_St_take : MethodName := ⟨"OwnsLift$Standing", "take", "(LOwnsLift$Realm;)V"⟩
abbrev b_St_take : ByteArray := prog_10_method_2_code
def y_St_bits : MethodName := ⟨"OwnsLift$Standing", "bits", "(I)I"⟩
abbrev b_St_bits : ByteArray := prog_10_method_3_code
def y_St_load : MethodName := ⟨"OwnsLift$Standing", "load", "(I)I"⟩
abbrev b_St_load : ByteArray := prog_10_method_4_code
def y_St_over : MethodName := ⟨"OwnsLift$Standing", "over", "(I)Z"⟩
abbrev b_St_over : ByteArray := prog_10_method_5_code
def y_St_weightOfSet : MethodName := ⟨"OwnsLift$Standing", "weightOfSet", "(I)I"⟩
abbrev b_St_weightOfSet : ByteArray := prog_10_method_6_code
def y_St_likeOfSet : MethodName := ⟨"OwnsLift$Standing", "likeOfSet", "(II)I"⟩
abbrev b_St_likeOfSet : ByteArray := prog_10_method_7_code
def y_St_lighten : MethodName := ⟨"OwnsLift$Standing", "lighten", "(LOwnsLift$People;I)I"⟩
abbrev b_St_lighten : ByteArray := prog_10_method_8_code
def y_St_choose : MethodName := ⟨"OwnsLift$Standing", "choose", "(LOwnsLift$People;I)I"⟩
abbrev b_St_choose : ByteArray := prog_10_method_9_code
def y_St_toldFirst : MethodName := ⟨"OwnsLift$Standing", "toldFirst", "(LOwnsLift$People;I)I"⟩
abbrev b_St_toldFirst : ByteArray := prog_10_method_10_code
def y_St_goesAhead : MethodName := ⟨"OwnsLift$Standing", "goesAhead", "(IIII)Z"⟩
abbrev b_St_goesAhead : ByteArray := prog_10_method_11_code
def y_St_dearer : MethodName := ⟨"OwnsLift$Standing", "dearer", "(III)Z"⟩
abbrev b_St_dearer : ByteArray := prog_10_method_12_code
def y_St_heir : MethodName := ⟨"OwnsLift$Standing", "heir", "(III)I"⟩
abbrev b_St_heir : ByteArray := prog_10_method_13_code
def y_St_fillByParts : MethodName := ⟨"OwnsLift$Standing", "fillByParts", "(ILOwnsLift$Fraction;)V"⟩
abbrev b_St_fillByParts : ByteArray := prog_10_method_14_code
def y_St_dearestOf : MethodName := ⟨"OwnsLift$Standing", "dearestOf", "(II)I"⟩
abbrev b_St_dearestOf : ByteArray := prog_10_method_15_code
def y_St_weighOdds : MethodName := ⟨"OwnsLift$Standing", "weighOdds", "(LOwnsLift$Fraction;)V"⟩
abbrev b_St_weighOdds : ByteArray := prog_10_method_16_code
def y_Sw_number : MethodName := ⟨"OwnsLift$Swaps", "number", "(LOwnsLift$Standing;)I"⟩
abbrev b_Sw_number : ByteArray := prog_11_method_2_code
def y_Sw_first : MethodName := ⟨"OwnsLift$Swaps", "first", "(LOwnsLift$Standing;)I"⟩
abbrev b_Sw_first : ByteArray := prog_11_method_3_code
def y_Sw_untilNone : MethodName := ⟨"OwnsLift$Swaps", "untilNone", "(LOwnsLift$Standing;)I"⟩
abbrev b_Sw_untilNone : ByteArray := prog_11_method_4_code
def y_Sw_serves : MethodName := ⟨"OwnsLift$Swaps", "serves", "(LOwnsLift$Standing;II)Z"⟩
abbrev b_Sw_serves : ByteArray := prog_11_method_5_code
def y_Sw_gains : MethodName := ⟨"OwnsLift$Swaps", "gains", "(LOwnsLift$Standing;III)Z"⟩
abbrev b_Sw_gains : ByteArray := prog_11_method_6_code
def y_Th_init : MethodName := ⟨"OwnsLift$Things", "<init>", "()V"⟩
abbrev b_Th_init : ByteArray := prog_12_method_1_code
def y_Th_has : MethodName := ⟨"OwnsLift$Things", "has", "(I)Z"⟩
abbrev b_Th_has : ByteArray := prog_12_method_2_code
def y_Th_add : MethodName := ⟨"OwnsLift$Things", "add", "(I)I"⟩
abbrev b_Th_add : ByteArray := prog_12_method_3_code
def y_Th_copyFrom : MethodName := ⟨"OwnsLift$Things", "copyFrom", "(LOwnsLift$Things;)V"⟩
abbrev b_Th_copyFrom : ByteArray := prog_12_method_4_code

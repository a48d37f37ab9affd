/-! names, by program out of the printed claim -/
def pgR0 : String := "PlaneGroups"
def pgR1 : String := "PlaneGroups$Reached"
def pgR2 : String := "PlaneGroups$Moves"
def pgR3 : String := "PlaneGroups$Picture"
def pgR4 : String := "PlaneGroups$Symmetries"
def pgR5 : String := "PlaneGroups$PointClasses"
def pgR6 : String := "PlaneGroups$Signature"
def pgR7 : String := "PlaneGroups$Halves"
def pgR8 : String := "PlaneGroups$Generators"
def pgR9 : String := "PlaneGroupsModel"
def pgR10 : String := "java/lang/Math"
def pgR11 : String := "PlaneGroupsLaw"
def pgR : Nat → String := fun k => match k with
  | 0 => pgR0
  | 1 => pgR1
  | 2 => pgR2
  | 3 => pgR3
  | 4 => pgR4
  | 5 => pgR5
  | 6 => pgR6
  | 7 => pgR7
  | 8 => pgR8
  | 9 => pgR9
  | 10 => pgR10
  | _ => pgR11
def pgT0 : u_T := fun k => match k with
  | 0 => ("PlaneGroups", "moves", "LPlaneGroups$Moves;", true)
  | 1 => ("PlaneGroups", "picture", "LPlaneGroups$Picture;", true)
  | 2 => ("PlaneGroups", "symmetries", "LPlaneGroups$Symmetries;", true)
  | 3 => ("PlaneGroups", "classes", "LPlaneGroups$PointClasses;", true)
  | 4 => ("PlaneGroups", "signature", "LPlaneGroups$Signature;", true)
  | 5 => ("PlaneGroups", "halved", "LPlaneGroups$Halves;", true)
  | _ => ("PlaneGroups", "generators", "LPlaneGroups$Generators;", true)
def pgY0 : Nat → FieldType := fun k => match k with
  | 0 => .object "PlaneGroups$Moves"
  | 1 => .object "PlaneGroups$Picture"
  | 2 => .object "PlaneGroups$Symmetries"
  | 3 => .object "PlaneGroups$PointClasses"
  | 4 => .object "PlaneGroups$Signature"
  | 5 => .object "PlaneGroups$Halves"
  | _ => .object "PlaneGroups$Generators"
theorem pgN0 : ∀ a, a < 7 → ∀ b, b < 7 → a ≠ b → (pgT0 a).2.1 ≠ (pgT0 b).2.1 := by decide +kernel
theorem pgY0_ok : ∀ k, k < 7 → parseFieldDescriptor (pgT0 k).2.2.1 = some (pgY0 k) := by decide +kernel
set_option maxRecDepth 100000 in
theorem pgU0 : ∀ w ∈ u_ws pgR0 pgT0 7, w ∈ lw_tbl := by
  intro w h
  have e : u_ws pgR0 pgT0 7 = ([361, 363, 365, 367, 369, 371, 373] : List Nat).filterMap (fun i => lw_tbl[i]?) := rfl
  rw [e] at h
  obtain ⟨i, -, hi⟩ := List.mem_filterMap.mp h
  exact List.mem_of_getElem? hi
def pgT1 : u_T := fun k => match k with
  | 0 => ("PlaneGroups$Reached", "seen", "[Z", true)
  | 1 => ("PlaneGroups$Reached", "order", "[I", true)
  | _ => ("PlaneGroups$Reached", "filled", "I", false)
def pgY1 : Nat → FieldType := fun k => match k with
  | 0 => .array .boolean
  | 1 => .array .int
  | _ => .int
theorem pgN1 : ∀ a, a < 3 → ∀ b, b < 3 → a ≠ b → (pgT1 a).2.1 ≠ (pgT1 b).2.1 := by decide +kernel
theorem pgY1_ok : ∀ k, k < 3 → parseFieldDescriptor (pgT1 k).2.2.1 = some (pgY1 k) := by decide +kernel
set_option maxRecDepth 100000 in
theorem pgU1 : ∀ w ∈ u_ws pgR1 pgT1 3, w ∈ lw_tbl := by
  intro w h
  have e : u_ws pgR1 pgT1 3 = ([100, 102, 104] : List Nat).filterMap (fun i => lw_tbl[i]?) := rfl
  rw [e] at h
  obtain ⟨i, -, hi⟩ := List.mem_filterMap.mp h
  exact List.mem_of_getElem? hi
def pgT2 : u_T := fun k => match k with
  | 0 => ("PlaneGroups$Moves", "matrices", "[I", true)
  | 1 => ("PlaneGroups$Moves", "sort", "I", false)
  | 2 => ("PlaneGroups$Moves", "size", "I", false)
  | _ => ("PlaneGroups$Moves", "round", "I", false)
def pgY2 : Nat → FieldType := fun k => match k with
  | 0 => .array .int
  | 1 => .int
  | 2 => .int
  | _ => .int
theorem pgN2 : ∀ a, a < 4 → ∀ b, b < 4 → a ≠ b → (pgT2 a).2.1 ≠ (pgT2 b).2.1 := by decide +kernel
theorem pgY2_ok : ∀ k, k < 4 → parseFieldDescriptor (pgT2 k).2.2.1 = some (pgY2 k) := by decide +kernel
set_option maxRecDepth 100000 in
theorem pgU2 : ∀ w ∈ u_ws pgR2 pgT2 4, w ∈ lw_tbl := by
  intro w h
  have e : u_ws pgR2 pgT2 4 = ([127, 129, 131, 133] : List Nat).filterMap (fun i => lw_tbl[i]?) := rfl
  rw [e] at h
  obtain ⟨i, -, hi⟩ := List.mem_filterMap.mp h
  exact List.mem_of_getElem? hi
def pgT3 : u_T := fun k => match k with
  | 0 => ("PlaneGroups$Picture", "moves", "LPlaneGroups$Moves;", true)
  | 1 => ("PlaneGroups$Picture", "colours", "[I", true)
  | 2 => ("PlaneGroups$Picture", "shares", "[I", true)
  | _ => ("PlaneGroups$Picture", "image", "[I", true)
def pgY3 : Nat → FieldType := fun k => match k with
  | 0 => .object "PlaneGroups$Moves"
  | 1 => .array .int
  | 2 => .array .int
  | _ => .array .int
theorem pgN3 : ∀ a, a < 4 → ∀ b, b < 4 → a ≠ b → (pgT3 a).2.1 ≠ (pgT3 b).2.1 := by decide +kernel
theorem pgY3_ok : ∀ k, k < 4 → parseFieldDescriptor (pgT3 k).2.2.1 = some (pgY3 k) := by decide +kernel
set_option maxRecDepth 100000 in
theorem pgU3 : ∀ w ∈ u_ws pgR3 pgT3 4, w ∈ lw_tbl := by
  intro w h
  have e : u_ws pgR3 pgT3 4 = ([151, 153, 155, 157] : List Nat).filterMap (fun i => lw_tbl[i]?) := rfl
  rw [e] at h
  obtain ⟨i, -, hi⟩ := List.mem_filterMap.mp h
  exact List.mem_of_getElem? hi
def pgT4 : u_T := fun k => match k with
  | 0 => ("PlaneGroups$Symmetries", "moves", "LPlaneGroups$Moves;", true)
  | 1 => ("PlaneGroups$Symmetries", "picture", "LPlaneGroups$Picture;", true)
  | 2 => ("PlaneGroups$Symmetries", "across", "[I", true)
  | 3 => ("PlaneGroups$Symmetries", "along", "[I", true)
  | 4 => ("PlaneGroups$Symmetries", "a", "I", false)
  | 5 => ("PlaneGroups$Symmetries", "b", "I", false)
  | 6 => ("PlaneGroups$Symmetries", "c", "I", false)
  | 7 => ("PlaneGroups$Symmetries", "linears", "I", false)
  | 8 => ("PlaneGroups$Symmetries", "changes", "I", false)
  | _ => ("PlaneGroups$Symmetries", "known", "Z", false)
def pgY4 : Nat → FieldType := fun k => match k with
  | 0 => .object "PlaneGroups$Moves"
  | 1 => .object "PlaneGroups$Picture"
  | 2 => .array .int
  | 3 => .array .int
  | 4 => .int
  | 5 => .int
  | 6 => .int
  | 7 => .int
  | 8 => .int
  | _ => .boolean
theorem pgN4 : ∀ a, a < 10 → ∀ b, b < 10 → a ≠ b → (pgT4 a).2.1 ≠ (pgT4 b).2.1 := by decide +kernel
theorem pgY4_ok : ∀ k, k < 10 → parseFieldDescriptor (pgT4 k).2.2.1 = some (pgY4 k) := by decide +kernel
set_option maxRecDepth 100000 in
theorem pgU4 : ∀ w ∈ u_ws pgR4 pgT4 10, w ∈ lw_tbl := by
  intro w h
  have e : u_ws pgR4 pgT4 10 = ([193, 195, 197, 199, 201, 203, 205, 207, 209, 211] : List Nat).filterMap (fun i => lw_tbl[i]?) := rfl
  rw [e] at h
  obtain ⟨i, -, hi⟩ := List.mem_filterMap.mp h
  exact List.mem_of_getElem? hi
def pgT5 : u_T := fun k => match k with
  | 0 => ("PlaneGroups$PointClasses", "moves", "LPlaneGroups$Moves;", true)
  | 1 => ("PlaneGroups$PointClasses", "symmetries", "LPlaneGroups$Symmetries;", true)
  | 2 => ("PlaneGroups$PointClasses", "firsts", "[I", true)
  | 3 => ("PlaneGroups$PointClasses", "found", "I", false)
  | _ => ("PlaneGroups$PointClasses", "known", "Z", false)
def pgY5 : Nat → FieldType := fun k => match k with
  | 0 => .object "PlaneGroups$Moves"
  | 1 => .object "PlaneGroups$Symmetries"
  | 2 => .array .int
  | 3 => .int
  | _ => .boolean
theorem pgN5 : ∀ a, a < 5 → ∀ b, b < 5 → a ≠ b → (pgT5 a).2.1 ≠ (pgT5 b).2.1 := by decide +kernel
theorem pgY5_ok : ∀ k, k < 5 → parseFieldDescriptor (pgT5 k).2.2.1 = some (pgY5 k) := by decide +kernel
set_option maxRecDepth 100000 in
theorem pgU5 : ∀ w ∈ u_ws pgR5 pgT5 5, w ∈ lw_tbl := by
  intro w h
  have e : u_ws pgR5 pgT5 5 = ([226, 228, 230, 232, 234] : List Nat).filterMap (fun i => lw_tbl[i]?) := rfl
  rw [e] at h
  obtain ⟨i, -, hi⟩ := List.mem_filterMap.mp h
  exact List.mem_of_getElem? hi
def pgT6 : u_T := fun k => match k with
  | 0 => ("PlaneGroups$Signature", "moves", "LPlaneGroups$Moves;", true)
  | 1 => ("PlaneGroups$Signature", "symmetries", "LPlaneGroups$Symmetries;", true)
  | 2 => ("PlaneGroups$Signature", "mirrored", "LPlaneGroups$Reached;", true)
  | 3 => ("PlaneGroups$Signature", "cones", "[I", true)
  | 4 => ("PlaneGroups$Signature", "corners", "[I", true)
  | 5 => ("PlaneGroups$Signature", "width", "I", false)
  | 6 => ("PlaneGroups$Signature", "height", "I", false)
  | 7 => ("PlaneGroups$Signature", "edges", "I", false)
  | 8 => ("PlaneGroups$Signature", "crosses", "I", false)
  | 9 => ("PlaneGroups$Signature", "handles", "I", false)
  | 10 => ("PlaneGroups$Signature", "most", "I", false)
  | _ => ("PlaneGroups$Signature", "known", "Z", false)
def pgY6 : Nat → FieldType := fun k => match k with
  | 0 => .object "PlaneGroups$Moves"
  | 1 => .object "PlaneGroups$Symmetries"
  | 2 => .object "PlaneGroups$Reached"
  | 3 => .array .int
  | 4 => .array .int
  | 5 => .int
  | 6 => .int
  | 7 => .int
  | 8 => .int
  | 9 => .int
  | 10 => .int
  | _ => .boolean
theorem pgN6 : ∀ a, a < 12 → ∀ b, b < 12 → a ≠ b → (pgT6 a).2.1 ≠ (pgT6 b).2.1 := by decide +kernel
theorem pgY6_ok : ∀ k, k < 12 → parseFieldDescriptor (pgT6 k).2.2.1 = some (pgY6 k) := by decide +kernel
set_option maxRecDepth 100000 in
theorem pgU6 : ∀ w ∈ u_ws pgR6 pgT6 12, w ∈ lw_tbl := by
  intro w h
  have e : u_ws pgR6 pgT6 12 = ([261, 263, 265, 267, 269, 271, 273, 275, 277, 279, 281, 283] : List Nat).filterMap (fun i => lw_tbl[i]?) := rfl
  rw [e] at h
  obtain ⟨i, -, hi⟩ := List.mem_filterMap.mp h
  exact List.mem_of_getElem? hi
def pgT7 : u_T := fun k => match k with
  | 0 => ("PlaneGroups$Halves", "moves", "LPlaneGroups$Moves;", true)
  | 1 => ("PlaneGroups$Halves", "symmetries", "LPlaneGroups$Symmetries;", true)
  | 2 => ("PlaneGroups$Halves", "group", "LPlaneGroups$Reached;", true)
  | 3 => ("PlaneGroups$Halves", "needed", "[I", true)
  | 4 => ("PlaneGroups$Halves", "used", "I", false)
  | 5 => ("PlaneGroups$Halves", "answer", "I", false)
  | _ => ("PlaneGroups$Halves", "known", "Z", false)
def pgY7 : Nat → FieldType := fun k => match k with
  | 0 => .object "PlaneGroups$Moves"
  | 1 => .object "PlaneGroups$Symmetries"
  | 2 => .object "PlaneGroups$Reached"
  | 3 => .array .int
  | 4 => .int
  | 5 => .int
  | _ => .boolean
theorem pgN7 : ∀ a, a < 7 → ∀ b, b < 7 → a ≠ b → (pgT7 a).2.1 ≠ (pgT7 b).2.1 := by decide +kernel
theorem pgY7_ok : ∀ k, k < 7 → parseFieldDescriptor (pgT7 k).2.2.1 = some (pgY7 k) := by decide +kernel
set_option maxRecDepth 100000 in
theorem pgU7 : ∀ w ∈ u_ws pgR7 pgT7 7, w ∈ lw_tbl := by
  intro w h
  have e : u_ws pgR7 pgT7 7 = ([300, 302, 304, 306, 308, 310, 312] : List Nat).filterMap (fun i => lw_tbl[i]?) := rfl
  rw [e] at h
  obtain ⟨i, -, hi⟩ := List.mem_filterMap.mp h
  exact List.mem_of_getElem? hi
def pgT8 : u_T := fun k => match k with
  | 0 => ("PlaneGroups$Generators", "moves", "LPlaneGroups$Moves;", true)
  | 1 => ("PlaneGroups$Generators", "picture", "LPlaneGroups$Picture;", true)
  | 2 => ("PlaneGroups$Generators", "reached", "LPlaneGroups$Reached;", true)
  | 3 => ("PlaneGroups$Generators", "codes", "[I", true)
  | _ => ("PlaneGroups$Generators", "filled", "I", false)
def pgY8 : Nat → FieldType := fun k => match k with
  | 0 => .object "PlaneGroups$Moves"
  | 1 => .object "PlaneGroups$Picture"
  | 2 => .object "PlaneGroups$Reached"
  | 3 => .array .int
  | _ => .int
theorem pgN8 : ∀ a, a < 5 → ∀ b, b < 5 → a ≠ b → (pgT8 a).2.1 ≠ (pgT8 b).2.1 := by decide +kernel
theorem pgY8_ok : ∀ k, k < 5 → parseFieldDescriptor (pgT8 k).2.2.1 = some (pgY8 k) := by decide +kernel
set_option maxRecDepth 100000 in
theorem pgU8 : ∀ w ∈ u_ws pgR8 pgT8 5, w ∈ lw_tbl := by
  intro w h
  have e : u_ws pgR8 pgT8 5 = ([327, 329, 331, 333, 335] : List Nat).filterMap (fun i => lw_tbl[i]?) := rfl
  rw [e] at h
  obtain ⟨i, -, hi⟩ := List.mem_filterMap.mp h
  exact List.mem_of_getElem? hi
def pgT9 : u_T := fun k => match k with
  | 0 => ("PlaneGroupsModel", "sort", "I", false)
  | 1 => ("PlaneGroupsModel", "n", "I", false)
  | 2 => ("PlaneGroupsModel", "colours", "[I", true)
  | 3 => ("PlaneGroupsModel", "generators", "I", false)
  | 4 => ("PlaneGroupsModel", "generator", "[I", true)
  | 5 => ("PlaneGroupsModel", "symmetries", "[I", true)
  | 6 => ("PlaneGroupsModel", "many", "I", false)
  | 7 => ("PlaneGroupsModel", "hasSymmetries", "Z", false)
  | 8 => ("PlaneGroupsModel", "hasPlaces", "Z", false)
  | 9 => ("PlaneGroupsModel", "turns", "[I", true)
  | 10 => ("PlaneGroupsModel", "mirrors", "[I", true)
  | 11 => ("PlaneGroupsModel", "fixing", "[I", true)
  | 12 => ("PlaneGroupsModel", "classOf", "[I", true)
  | 13 => ("PlaneGroupsModel", "classes", "I", false)
  | 14 => ("PlaneGroupsModel", "group", "[I", true)
  | 15 => ("PlaneGroupsModel", "movedX", "J", false)
  | 16 => ("PlaneGroupsModel", "movedY", "J", false)
  | 17 => ("PlaneGroupsModel", "oneX", "[I", true)
  | 18 => ("PlaneGroupsModel", "oneY", "[I", true)
  | 19 => ("PlaneGroupsModel", "otherX", "[I", true)
  | 20 => ("PlaneGroupsModel", "otherY", "[I", true)
  | 21 => ("PlaneGroupsModel", "becomes", "[I", true)
  | 22 => ("PlaneGroupsModel", "waysSeen", "[J", true)
  | 23 => ("PlaneGroupsModel", "axisX", "J", false)
  | 24 => ("PlaneGroupsModel", "axisY", "J", false)
  | 25 => ("PlaneGroupsModel", "part", "[I", true)
  | 26 => ("PlaneGroupsModel", "made", "[I", true)
  | 27 => ("PlaneGroupsModel", "isMade", "[Z", true)
  | 28 => ("PlaneGroupsModel", "maker", "[I", true)
  | _ => ("PlaneGroupsModel", "leastPoint", "[I", true)
def pgY9 : Nat → FieldType := fun k => match k with
  | 0 => .int
  | 1 => .int
  | 2 => .array .int
  | 3 => .int
  | 4 => .array .int
  | 5 => .array .int
  | 6 => .int
  | 7 => .boolean
  | 8 => .boolean
  | 9 => .array .int
  | 10 => .array .int
  | 11 => .array .int
  | 12 => .array .int
  | 13 => .int
  | 14 => .array .int
  | 15 => .long
  | 16 => .long
  | 17 => .array .int
  | 18 => .array .int
  | 19 => .array .int
  | 20 => .array .int
  | 21 => .array .int
  | 22 => .array .long
  | 23 => .long
  | 24 => .long
  | 25 => .array .int
  | 26 => .array .int
  | 27 => .array .boolean
  | 28 => .array .int
  | _ => .array .int
theorem pgN9 : ∀ a, a < 30 → ∀ b, b < 30 → a ≠ b → (pgT9 a).2.1 ≠ (pgT9 b).2.1 := by decide +kernel
theorem pgY9_ok : ∀ k, k < 30 → parseFieldDescriptor (pgT9 k).2.2.1 = some (pgY9 k) := by decide +kernel
set_option maxRecDepth 100000 in
theorem pgU9 : ∀ w ∈ u_ws pgR9 pgT9 30, w ∈ lw_tbl := by
  intro w h
  have e : u_ws pgR9 pgT9 30 = ([872, 874, 876, 878, 880, 882, 884, 886, 888, 890, 892, 894, 896, 898, 900, 902, 904, 906, 908, 910, 912, 914, 916, 918, 920, 922, 924, 926, 928, 930] : List Nat).filterMap (fun i => lw_tbl[i]?) := rfl
  rw [e] at h
  obtain ⟨i, -, hi⟩ := List.mem_filterMap.mp h
  exact List.mem_of_getElem? hi
abbrev pgCl : List vw_C := [(pgR0, pgT0, 7), (pgR1, pgT1, 3), (pgR2, pgT2, 4), (pgR3, pgT3, 4), (pgR4, pgT4, 10), (pgR5, pgT5, 5), (pgR6, pgT6, 12), (pgR7, pgT7, 7), (pgR8, pgT8, 5), (pgR9, pgT9, 30)]
/-- the words that callees may be told -/
def pg_tb : List Cond := lw_tbl.filter goodWord
theorem pg_tb_good : GoodIn pg_tb pg_tb := fun w h => ⟨h, good_of_word (List.mem_filter.mp h).2⟩
theorem pg_tb_in {w : Cond} (i : Nat) (h : lw_tbl[i]? = some w) (hg : goodWord w = true) : w ∈ pg_tb := List.mem_filter.mpr ⟨List.mem_of_getElem? h, hg⟩
theorem pgV0 : ∀ w ∈ u_ws pgR0 pgT0 7, w ∈ pg_tb := fun w h => List.mem_filter.mpr ⟨pgU0 w h, by
  have e : (u_ws pgR0 pgT0 7).all goodWord = true := by decide +kernel
  exact List.all_eq_true.mp e w h⟩
theorem pgV1 : ∀ w ∈ u_ws pgR1 pgT1 3, w ∈ pg_tb := fun w h => List.mem_filter.mpr ⟨pgU1 w h, by
  have e : (u_ws pgR1 pgT1 3).all goodWord = true := by decide +kernel
  exact List.all_eq_true.mp e w h⟩
theorem pgV2 : ∀ w ∈ u_ws pgR2 pgT2 4, w ∈ pg_tb := fun w h => List.mem_filter.mpr ⟨pgU2 w h, by
  have e : (u_ws pgR2 pgT2 4).all goodWord = true := by decide +kernel
  exact List.all_eq_true.mp e w h⟩
theorem pgV3 : ∀ w ∈ u_ws pgR3 pgT3 4, w ∈ pg_tb := fun w h => List.mem_filter.mpr ⟨pgU3 w h, by
  have e : (u_ws pgR3 pgT3 4).all goodWord = true := by decide +kernel
  exact List.all_eq_true.mp e w h⟩
theorem pgV4 : ∀ w ∈ u_ws pgR4 pgT4 10, w ∈ pg_tb := fun w h => List.mem_filter.mpr ⟨pgU4 w h, by
  have e : (u_ws pgR4 pgT4 10).all goodWord = true := by decide +kernel
  exact List.all_eq_true.mp e w h⟩
theorem pgV5 : ∀ w ∈ u_ws pgR5 pgT5 5, w ∈ pg_tb := fun w h => List.mem_filter.mpr ⟨pgU5 w h, by
  have e : (u_ws pgR5 pgT5 5).all goodWord = true := by decide +kernel
  exact List.all_eq_true.mp e w h⟩
theorem pgV6 : ∀ w ∈ u_ws pgR6 pgT6 12, w ∈ pg_tb := fun w h => List.mem_filter.mpr ⟨pgU6 w h, by
  have e : (u_ws pgR6 pgT6 12).all goodWord = true := by decide +kernel
  exact List.all_eq_true.mp e w h⟩
theorem pgV7 : ∀ w ∈ u_ws pgR7 pgT7 7, w ∈ pg_tb := fun w h => List.mem_filter.mpr ⟨pgU7 w h, by
  have e : (u_ws pgR7 pgT7 7).all goodWord = true := by decide +kernel
  exact List.all_eq_true.mp e w h⟩
theorem pgV8 : ∀ w ∈ u_ws pgR8 pgT8 5, w ∈ pg_tb := fun w h => List.mem_filter.mpr ⟨pgU8 w h, by
  have e : (u_ws pgR8 pgT8 5).all goodWord = true := by decide +kernel
  exact List.all_eq_true.mp e w h⟩
theorem pgV9 : ∀ w ∈ u_ws pgR9 pgT9 30, w ∈ pg_tb := fun w h => List.mem_filter.mpr ⟨pgU9 w h, by
  have e : (u_ws pgR9 pgT9 30).all goodWord = true := by decide +kernel
  exact List.all_eq_true.mp e w h⟩

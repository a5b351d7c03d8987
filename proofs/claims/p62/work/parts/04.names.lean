/-! NAMES: the classes of the worlds, the methods and their code -/
def R0 : String := "FlatPlan$Ads"
def T0 : u_T := fun k => match k with
  | 0 => ("FlatPlan$Ads", "size", "[I", true)
  | 1 => ("FlatPlan$Ads", "group", "[I", true)
  | 2 => ("FlatPlan$Ads", "color", "[I", true)
  | 3 => ("FlatPlan$Ads", "side", "[I", true)
  | 4 => ("FlatPlan$Ads", "price", "[I", true)
  | 5 => ("FlatPlan$Ads", "ready", "[I", true)
  | 6 => ("FlatPlan$Ads", "page", "[I", true)
  | _ => ("FlatPlan$Ads", "number", "I", false)
def ty0 : Nat → FieldType := fun k => match k with
  | 0 => FieldType.array (FieldType.int)
  | 1 => FieldType.array (FieldType.int)
  | 2 => FieldType.array (FieldType.int)
  | 3 => FieldType.array (FieldType.int)
  | 4 => FieldType.array (FieldType.int)
  | 5 => FieldType.array (FieldType.int)
  | 6 => FieldType.array (FieldType.int)
  | _ => FieldType.int
def R1 : String := "FlatPlan$Bytes"
def T1 : u_T := fun k => match k with
  | 0 => ("FlatPlan$Bytes", "row", "[I", true)
  | _ => ("FlatPlan$Bytes", "length", "I", false)
def ty1 : Nat → FieldType := fun k => match k with
  | 0 => FieldType.array (FieldType.int)
  | _ => FieldType.int
def R2 : String := "FlatPlan$Forms"
def T2 : u_T := fun k => match k with
  | 0 => ("FlatPlan$Forms", "color", "[I", true)
  | 1 => ("FlatPlan$Forms", "printed", "[I", true)
  | _ => ("FlatPlan$Forms", "closing", "[I", true)
def ty2 : Nat → FieldType := fun k => match k with
  | 0 => FieldType.array (FieldType.int)
  | 1 => FieldType.array (FieldType.int)
  | _ => FieldType.array (FieldType.int)
def R3 : String := "FlatPlan$History"
def T3 : u_T := fun k => match k with
  | 0 => ("FlatPlan$History", "kept", "[LFlatPlan$State;", true)
  | 1 => ("FlatPlan$History", "next", "I", false)
  | _ => ("FlatPlan$History", "number", "I", false)
def ty3 : Nat → FieldType := fun k => match k with
  | 0 => FieldType.array (FieldType.object "FlatPlan$State")
  | 1 => FieldType.int
  | _ => FieldType.int
def R4 : String := "FlatPlan$Plan"
def T4 : u_T := fun k => match k with
  | 0 => ("FlatPlan$Plan", "now", "LFlatPlan$State;", true)
  | 1 => ("FlatPlan$Plan", "pages", "I", false)
  | 2 => ("FlatPlan$Plan", "forms", "I", false)
  | 3 => ("FlatPlan$Plan", "formOf", "[I", true)
  | 4 => ("FlatPlan$Plan", "signatureOf", "[I", true)
  | 5 => ("FlatPlan$Plan", "left", "[I", true)
  | 6 => ("FlatPlan$Plan", "storyOn", "[I", true)
  | _ => ("FlatPlan$Plan", "adsOfGroup", "[I", true)
def ty4 : Nat → FieldType := fun k => match k with
  | 0 => FieldType.object "FlatPlan$State"
  | 1 => FieldType.int
  | 2 => FieldType.int
  | 3 => FieldType.array (FieldType.int)
  | 4 => FieldType.array (FieldType.int)
  | 5 => FieldType.array (FieldType.int)
  | 6 => FieldType.array (FieldType.int)
  | _ => FieldType.array (FieldType.int)
def R5 : String := "FlatPlan$Reader"
def T5 : u_T := fun k => match k with
  | 0 => ("FlatPlan$Reader", "text", "LFlatPlan$Bytes;", true)
  | 1 => ("FlatPlan$Reader", "draft", "LFlatPlan$Plan;", true)
  | 2 => ("FlatPlan$Reader", "value", "[I", true)
  | 3 => ("FlatPlan$Reader", "at", "I", false)
  | 4 => ("FlatPlan$Reader", "kind", "I", false)
  | 5 => ("FlatPlan$Reader", "start", "I", false)
  | 6 => ("FlatPlan$Reader", "code", "I", false)
  | _ => ("FlatPlan$Reader", "position", "I", false)
def ty5 : Nat → FieldType := fun k => match k with
  | 0 => FieldType.object "FlatPlan$Bytes"
  | 1 => FieldType.object "FlatPlan$Plan"
  | 2 => FieldType.array (FieldType.int)
  | 3 => FieldType.int
  | 4 => FieldType.int
  | 5 => FieldType.int
  | 6 => FieldType.int
  | _ => FieldType.int
def R6 : String := "FlatPlan$Searches"
def T6 : u_T := fun k => match k with
  | 0 => ("FlatPlan$Searches", "plan", "LFlatPlan$Plan;", true)
  | 1 => ("FlatPlan$Searches", "now", "LFlatPlan$State;", true)
  | 2 => ("FlatPlan$Searches", "order", "[I", true)
  | 3 => ("FlatPlan$Searches", "onPage", "[I", true)
  | 4 => ("FlatPlan$Searches", "adMatched", "[I", true)
  | 5 => ("FlatPlan$Searches", "pageMatched", "[I", true)
  | 6 => ("FlatPlan$Searches", "reachedBy", "[I", true)
  | 7 => ("FlatPlan$Searches", "waiting", "[I", true)
  | 8 => ("FlatPlan$Searches", "colorPages", "[I", true)
  | _ => ("FlatPlan$Searches", "hasColor", "[I", true)
def ty6 : Nat → FieldType := fun k => match k with
  | 0 => FieldType.object "FlatPlan$Plan"
  | 1 => FieldType.object "FlatPlan$State"
  | 2 => FieldType.array (FieldType.int)
  | 3 => FieldType.array (FieldType.int)
  | 4 => FieldType.array (FieldType.int)
  | 5 => FieldType.array (FieldType.int)
  | 6 => FieldType.array (FieldType.int)
  | 7 => FieldType.array (FieldType.int)
  | 8 => FieldType.array (FieldType.int)
  | _ => FieldType.array (FieldType.int)
def R7 : String := "FlatPlan$Standbys"
def T7 : u_T := fun k => match k with
  | 0 => ("FlatPlan$Standbys", "size", "[I", true)
  | 1 => ("FlatPlan$Standbys", "page", "[I", true)
  | _ => ("FlatPlan$Standbys", "number", "I", false)
def ty7 : Nat → FieldType := fun k => match k with
  | 0 => FieldType.array (FieldType.int)
  | 1 => FieldType.array (FieldType.int)
  | _ => FieldType.int
def R8 : String := "FlatPlan$State"
def T8 : u_T := fun k => match k with
  | 0 => ("FlatPlan$State", "ads", "LFlatPlan$Ads;", true)
  | 1 => ("FlatPlan$State", "stories", "LFlatPlan$Stories;", true)
  | 2 => ("FlatPlan$State", "standbys", "LFlatPlan$Standbys;", true)
  | 3 => ("FlatPlan$State", "forms", "LFlatPlan$Forms;", true)
  | 4 => ("FlatPlan$State", "signatures", "I", false)
  | 5 => ("FlatPlan$State", "signaturePages", "I", false)
  | 6 => ("FlatPlan$State", "time", "I", false)
  | _ => ("FlatPlan$State", "lost", "I", false)
def ty8 : Nat → FieldType := fun k => match k with
  | 0 => FieldType.object "FlatPlan$Ads"
  | 1 => FieldType.object "FlatPlan$Stories"
  | 2 => FieldType.object "FlatPlan$Standbys"
  | 3 => FieldType.object "FlatPlan$Forms"
  | 4 => FieldType.int
  | 5 => FieldType.int
  | 6 => FieldType.int
  | _ => FieldType.int
def R9 : String := "FlatPlan$Stories"
def T9 : u_T := fun k => match k with
  | 0 => ("FlatPlan$Stories", "length", "[I", true)
  | 1 => ("FlatPlan$Stories", "color", "[I", true)
  | 2 => ("FlatPlan$Stories", "side", "[I", true)
  | 3 => ("FlatPlan$Stories", "ready", "[I", true)
  | 4 => ("FlatPlan$Stories", "page", "[I", true)
  | _ => ("FlatPlan$Stories", "number", "I", false)
def ty9 : Nat → FieldType := fun k => match k with
  | 0 => FieldType.array (FieldType.int)
  | 1 => FieldType.array (FieldType.int)
  | 2 => FieldType.array (FieldType.int)
  | 3 => FieldType.array (FieldType.int)
  | 4 => FieldType.array (FieldType.int)
  | _ => FieldType.int
def R10 : String := "FlatPlan"
def T10 : u_T := fun k => match k with
  | 0 => ("FlatPlan", "reader", "LFlatPlan$Reader;", true)
  | 1 => ("FlatPlan", "input", "LFlatPlan$Bytes;", true)
  | 2 => ("FlatPlan", "searches", "LFlatPlan$Searches;", true)
  | 3 => ("FlatPlan", "plan", "LFlatPlan$Plan;", true)
  | 4 => ("FlatPlan", "history", "LFlatPlan$History;", true)
  | _ => ("FlatPlan", "description", "LFlatPlan$Bytes;", true)
def ty10 : Nat → FieldType := fun k => match k with
  | 0 => FieldType.object "FlatPlan$Reader"
  | 1 => FieldType.object "FlatPlan$Bytes"
  | 2 => FieldType.object "FlatPlan$Searches"
  | 3 => FieldType.object "FlatPlan$Plan"
  | 4 => FieldType.object "FlatPlan$History"
  | _ => FieldType.object "FlatPlan$Bytes"
def R11 : String := "FlatPlanLaw$Item"
def T11 : u_T := fun k => match k with
  | 0 => ("FlatPlanLaw$Item", "size", "I", false)
  | 1 => ("FlatPlanLaw$Item", "group", "I", false)
  | 2 => ("FlatPlanLaw$Item", "side", "I", false)
  | 3 => ("FlatPlanLaw$Item", "price", "I", false)
  | 4 => ("FlatPlanLaw$Item", "ready", "I", false)
  | 5 => ("FlatPlanLaw$Item", "page", "I", false)
  | _ => ("FlatPlanLaw$Item", "color", "Z", false)
def ty11 : Nat → FieldType := fun k => match k with
  | 0 => FieldType.int
  | 1 => FieldType.int
  | 2 => FieldType.int
  | 3 => FieldType.int
  | 4 => FieldType.int
  | 5 => FieldType.int
  | _ => FieldType.boolean
def R12 : String := "FlatPlanLaw$Plan"
def T12 : u_T := fun k => match k with
  | 0 => ("FlatPlanLaw$Plan", "g", "I", false)
  | 1 => ("FlatPlanLaw$Plan", "s", "I", false)
  | 2 => ("FlatPlanLaw$Plan", "time", "I", false)
  | 3 => ("FlatPlanLaw$Plan", "lost", "I", false)
  | 4 => ("FlatPlanLaw$Plan", "ads", "Ljava/util/ArrayList;", false)
  | 5 => ("FlatPlanLaw$Plan", "stories", "Ljava/util/ArrayList;", false)
  | 6 => ("FlatPlanLaw$Plan", "standbys", "Ljava/util/ArrayList;", false)
  | 7 => ("FlatPlanLaw$Plan", "color", "[Z", false)
  | 8 => ("FlatPlanLaw$Plan", "printed", "[Z", false)
  | _ => ("FlatPlanLaw$Plan", "closing", "[I", false)
def ty12 : Nat → FieldType := fun k => match k with
  | 0 => FieldType.int
  | 1 => FieldType.int
  | 2 => FieldType.int
  | 3 => FieldType.int
  | 4 => FieldType.object "java/util/ArrayList"
  | 5 => FieldType.object "java/util/ArrayList"
  | 6 => FieldType.object "java/util/ArrayList"
  | 7 => FieldType.array (FieldType.boolean)
  | 8 => FieldType.array (FieldType.boolean)
  | _ => FieldType.array (FieldType.int)
def R13 : String := "java/util/ArrayList"
def T13 : u_T := fun k => match k with
  | 0 => ("java/util/ArrayList", "elementData", "[Ljava/lang/Object;", false)
  | 1 => ("java/util/ArrayList", "size", "I", false)
  | _ => ("java/util/AbstractList", "modCount", "I", false)
def ty13 : Nat → FieldType := fun k => match k with
  | 0 => FieldType.array (FieldType.object "java/lang/Object")
  | 1 => FieldType.int
  | _ => FieldType.int
def R14 : String := "java/util/ArrayList$Itr"
def T14 : u_T := fun k => match k with
  | 0 => ("java/util/ArrayList$Itr", "cursor", "I", false)
  | 1 => ("java/util/ArrayList$Itr", "lastRet", "I", false)
  | 2 => ("java/util/ArrayList$Itr", "expectedModCount", "I", false)
  | _ => ("java/util/ArrayList$Itr", "this$0", "Ljava/util/ArrayList;", true)
def ty14 : Nat → FieldType := fun k => match k with
  | 0 => FieldType.int
  | 1 => FieldType.int
  | 2 => FieldType.int
  | _ => FieldType.object "java/util/ArrayList"
def R15 : String := "java/lang/StringBuilder"
def T15 : u_T := fun k => match k with
  | 0 => ("java/lang/AbstractStringBuilder", "value", "[B", false)
  | 1 => ("java/lang/AbstractStringBuilder", "coder", "B", false)
  | 2 => ("java/lang/AbstractStringBuilder", "maybeLatin1", "Z", false)
  | _ => ("java/lang/AbstractStringBuilder", "count", "I", false)
def ty15 : Nat → FieldType := fun k => match k with
  | 0 => FieldType.array (FieldType.byte)
  | 1 => FieldType.byte
  | 2 => FieldType.boolean
  | _ => FieldType.int
def R16 : String := "java/lang/String"
def T16 : u_T := fun k => match k with
  | 0 => ("java/lang/String", "value", "[B", true)
  | 1 => ("java/lang/String", "coder", "B", true)
  | 2 => ("java/lang/String", "hash", "I", false)
  | _ => ("java/lang/String", "hashIsZero", "Z", false)
def ty16 : Nat → FieldType := fun k => match k with
  | 0 => FieldType.array (FieldType.byte)
  | 1 => FieldType.byte
  | 2 => FieldType.int
  | _ => FieldType.boolean
def R17 : String := "java/lang/Integer"
def T17 : u_T := fun k => match k with
  | _ => ("java/lang/Integer", "value", "I", true)
def ty17 : Nat → FieldType := fun k => match k with
  | _ => FieldType.int
def RC : Nat → String := fun c => match c with
  | 0 => R0
  | 1 => R1
  | 2 => R2
  | 3 => R3
  | 4 => R4
  | 5 => R5
  | 6 => R6
  | 7 => R7
  | 8 => R8
  | 9 => R9
  | 10 => R10
  | 11 => R11
  | 12 => R12
  | 13 => R13
  | 14 => R14
  | 15 => R15
  | 16 => R16
  | _ => R17
def TC : Nat → u_T := fun c => match c with
  | 0 => T0
  | 1 => T1
  | 2 => T2
  | 3 => T3
  | 4 => T4
  | 5 => T5
  | 6 => T6
  | 7 => T7
  | 8 => T8
  | 9 => T9
  | 10 => T10
  | 11 => T11
  | 12 => T12
  | 13 => T13
  | 14 => T14
  | 15 => T15
  | 16 => T16
  | _ => T17
def NC : Nat → Nat := fun c => match c with
  | 0 => 8
  | 1 => 2
  | 2 => 3
  | 3 => 3
  | 4 => 8
  | 5 => 8
  | 6 => 10
  | 7 => 3
  | 8 => 8
  | 9 => 6
  | 10 => 6
  | 11 => 7
  | 12 => 10
  | 13 => 3
  | 14 => 4
  | 15 => 4
  | 16 => 4
  | _ => 1
def TYC : Nat → Nat → FieldType := fun c => match c with
  | 0 => ty0
  | 1 => ty1
  | 2 => ty2
  | 3 => ty3
  | 4 => ty4
  | 5 => ty5
  | 6 => ty6
  | 7 => ty7
  | 8 => ty8
  | 9 => ty9
  | 10 => ty10
  | 11 => ty11
  | 12 => ty12
  | 13 => ty13
  | 14 => ty14
  | 15 => ty15
  | 16 => ty16
  | _ => ty17
def CL : List vw_C := [(R0, T0, 8), (R1, T1, 2), (R2, T2, 3), (R3, T3, 3), (R4, T4, 8), (R5, T5, 8), (R6, T6, 10), (R7, T7, 3), (R8, T8, 8), (R9, T9, 6), (R10, T10, 6), (R11, T11, 7), (R12, T12, 10), (R13, T13, 3), (R14, T14, 4), (R15, T15, 4), (R16, T16, 4), (R17, T17, 1)]
theorem CL_at : ∀ c, c < 18 → CL[c]? = some (RC c, TC c, NC c) := by
  intro c hc
  match c, hc with
  | 0, _ => rfl
  | 1, _ => rfl
  | 2, _ => rfl
  | 3, _ => rfl
  | 4, _ => rfl
  | 5, _ => rfl
  | 6, _ => rfl
  | 7, _ => rfl
  | 8, _ => rfl
  | 9, _ => rfl
  | 10, _ => rfl
  | 11, _ => rfl
  | 12, _ => rfl
  | 13, _ => rfl
  | 14, _ => rfl
  | 15, _ => rfl
  | 16, _ => rfl
  | 17, _ => rfl
  | (z + 18), h => exact absurd h (by omega)
theorem uw0 : ∀ w ∈ u_ws R0 T0 8, w ∈ gtbl := by
  intro w hw
  obtain ⟨k, hk, rfl⟩ := List.mem_map.mp hw
  have hk := List.mem_range.mp hk
  match k, hk with
  | 0, _ => exact q_121
  | 1, _ => exact q_123
  | 2, _ => exact q_125
  | 3, _ => exact q_127
  | 4, _ => exact q_129
  | 5, _ => exact q_131
  | 6, _ => exact q_133
  | 7, _ => exact q_135
theorem tyok0 : ∀ k, k < 8 → parseFieldDescriptor (T0 k).2.2.1 = some (ty0 k) := by decide +kernel
theorem nmok0 : ∀ a, a < 8 → ∀ b, b < 8 → a ≠ b → (T0 a).2.1 ≠ (T0 b).2.1 := by decide +kernel
theorem uw1 : ∀ w ∈ u_ws R1 T1 2, w ∈ gtbl := by
  intro w hw
  obtain ⟨k, hk, rfl⟩ := List.mem_map.mp hw
  have hk := List.mem_range.mp hk
  match k, hk with
  | 0, _ => exact q_63
  | 1, _ => exact q_65
theorem tyok1 : ∀ k, k < 2 → parseFieldDescriptor (T1 k).2.2.1 = some (ty1 k) := by decide +kernel
theorem nmok1 : ∀ a, a < 2 → ∀ b, b < 2 → a ≠ b → (T1 a).2.1 ≠ (T1 b).2.1 := by decide +kernel
theorem uw2 : ∀ w ∈ u_ws R2 T2 3, w ∈ gtbl := by
  intro w hw
  obtain ⟨k, hk, rfl⟩ := List.mem_map.mp hw
  have hk := List.mem_range.mp hk
  match k, hk with
  | 0, _ => exact q_224
  | 1, _ => exact q_226
  | 2, _ => exact q_228
theorem tyok2 : ∀ k, k < 3 → parseFieldDescriptor (T2 k).2.2.1 = some (ty2 k) := by decide +kernel
theorem nmok2 : ∀ a, a < 3 → ∀ b, b < 3 → a ≠ b → (T2 a).2.1 ≠ (T2 b).2.1 := by decide +kernel
theorem uw3 : ∀ w ∈ u_ws R3 T3 3, w ∈ gtbl := by
  intro w hw
  obtain ⟨k, hk, rfl⟩ := List.mem_map.mp hw
  have hk := List.mem_range.mp hk
  match k, hk with
  | 0, _ => exact q_424
  | 1, _ => exact q_426
  | 2, _ => exact q_428
theorem tyok3 : ∀ k, k < 3 → parseFieldDescriptor (T3 k).2.2.1 = some (ty3 k) := by decide +kernel
theorem nmok3 : ∀ a, a < 3 → ∀ b, b < 3 → a ≠ b → (T3 a).2.1 ≠ (T3 b).2.1 := by decide +kernel
theorem uw4 : ∀ w ∈ u_ws R4 T4 8, w ∈ gtbl := by
  intro w hw
  obtain ⟨k, hk, rfl⟩ := List.mem_map.mp hw
  have hk := List.mem_range.mp hk
  match k, hk with
  | 0, _ => exact q_325
  | 1, _ => exact q_327
  | 2, _ => exact q_329
  | 3, _ => exact q_331
  | 4, _ => exact q_333
  | 5, _ => exact q_335
  | 6, _ => exact q_337
  | 7, _ => exact q_339
theorem tyok4 : ∀ k, k < 8 → parseFieldDescriptor (T4 k).2.2.1 = some (ty4 k) := by decide +kernel
theorem nmok4 : ∀ a, a < 8 → ∀ b, b < 8 → a ≠ b → (T4 a).2.1 ≠ (T4 b).2.1 := by decide +kernel
theorem uw5 : ∀ w ∈ u_ws R5 T5 8, w ∈ gtbl := by
  intro w hw
  obtain ⟨k, hk, rfl⟩ := List.mem_map.mp hw
  have hk := List.mem_range.mp hk
  match k, hk with
  | 0, _ => exact q_354
  | 1, _ => exact q_356
  | 2, _ => exact q_358
  | 3, _ => exact q_360
  | 4, _ => exact q_362
  | 5, _ => exact q_364
  | 6, _ => exact q_366
  | 7, _ => exact q_368
theorem tyok5 : ∀ k, k < 8 → parseFieldDescriptor (T5 k).2.2.1 = some (ty5 k) := by decide +kernel
theorem nmok5 : ∀ a, a < 8 → ∀ b, b < 8 → a ≠ b → (T5 a).2.1 ≠ (T5 b).2.1 := by decide +kernel
theorem uw6 : ∀ w ∈ u_ws R6 T6 10, w ∈ gtbl := by
  intro w hw
  obtain ⟨k, hk, rfl⟩ := List.mem_map.mp hw
  have hk := List.mem_range.mp hk
  match k, hk with
  | 0, _ => exact q_390
  | 1, _ => exact q_392
  | 2, _ => exact q_394
  | 3, _ => exact q_396
  | 4, _ => exact q_398
  | 5, _ => exact q_400
  | 6, _ => exact q_402
  | 7, _ => exact q_404
  | 8, _ => exact q_406
  | 9, _ => exact q_408
theorem tyok6 : ∀ k, k < 10 → parseFieldDescriptor (T6 k).2.2.1 = some (ty6 k) := by decide +kernel
theorem nmok6 : ∀ a, a < 10 → ∀ b, b < 10 → a ≠ b → (T6 a).2.1 ≠ (T6 b).2.1 := by decide +kernel
theorem uw7 : ∀ w ∈ u_ws R7 T7 3, w ∈ gtbl := by
  intro w hw
  obtain ⟨k, hk, rfl⟩ := List.mem_map.mp hw
  have hk := List.mem_range.mp hk
  match k, hk with
  | 0, _ => exact q_198
  | 1, _ => exact q_200
  | 2, _ => exact q_202
theorem tyok7 : ∀ k, k < 3 → parseFieldDescriptor (T7 k).2.2.1 = some (ty7 k) := by decide +kernel
theorem nmok7 : ∀ a, a < 3 → ∀ b, b < 3 → a ≠ b → (T7 a).2.1 ≠ (T7 b).2.1 := by decide +kernel
theorem uw8 : ∀ w ∈ u_ws R8 T8 8, w ∈ gtbl := by
  intro w hw
  obtain ⟨k, hk, rfl⟩ := List.mem_map.mp hw
  have hk := List.mem_range.mp hk
  match k, hk with
  | 0, _ => exact q_262
  | 1, _ => exact q_264
  | 2, _ => exact q_266
  | 3, _ => exact q_268
  | 4, _ => exact q_270
  | 5, _ => exact q_272
  | 6, _ => exact q_274
  | 7, _ => exact q_276
theorem tyok8 : ∀ k, k < 8 → parseFieldDescriptor (T8 k).2.2.1 = some (ty8 k) := by decide +kernel
theorem nmok8 : ∀ a, a < 8 → ∀ b, b < 8 → a ≠ b → (T8 a).2.1 ≠ (T8 b).2.1 := by decide +kernel
theorem uw9 : ∀ w ∈ u_ws R9 T9 6, w ∈ gtbl := by
  intro w hw
  obtain ⟨k, hk, rfl⟩ := List.mem_map.mp hw
  have hk := List.mem_range.mp hk
  match k, hk with
  | 0, _ => exact q_169
  | 1, _ => exact q_171
  | 2, _ => exact q_173
  | 3, _ => exact q_175
  | 4, _ => exact q_177
  | 5, _ => exact q_179
theorem tyok9 : ∀ k, k < 6 → parseFieldDescriptor (T9 k).2.2.1 = some (ty9 k) := by decide +kernel
theorem nmok9 : ∀ a, a < 6 → ∀ b, b < 6 → a ≠ b → (T9 a).2.1 ≠ (T9 b).2.1 := by decide +kernel
theorem uw10 : ∀ w ∈ u_ws R10 T10 6, w ∈ gtbl := by
  intro w hw
  obtain ⟨k, hk, rfl⟩ := List.mem_map.mp hw
  have hk := List.mem_range.mp hk
  match k, hk with
  | 0, _ => exact q_439
  | 1, _ => exact q_441
  | 2, _ => exact q_443
  | 3, _ => exact q_445
  | 4, _ => exact q_447
  | 5, _ => exact q_449
theorem tyok10 : ∀ k, k < 6 → parseFieldDescriptor (T10 k).2.2.1 = some (ty10 k) := by decide +kernel
theorem nmok10 : ∀ a, a < 6 → ∀ b, b < 6 → a ≠ b → (T10 a).2.1 ≠ (T10 b).2.1 := by decide +kernel
theorem uw11 : ∀ w ∈ u_ws R11 T11 7, w ∈ gtbl := by
  intro w hw
  obtain ⟨k, hk, rfl⟩ := List.mem_map.mp hw
  have hk := List.mem_range.mp hk
  match k, hk with
  | 0, _ => exact q_893
  | 1, _ => exact q_895
  | 2, _ => exact q_897
  | 3, _ => exact q_899
  | 4, _ => exact q_901
  | 5, _ => exact q_903
  | 6, _ => exact q_905
theorem tyok11 : ∀ k, k < 7 → parseFieldDescriptor (T11 k).2.2.1 = some (ty11 k) := by decide +kernel
theorem nmok11 : ∀ a, a < 7 → ∀ b, b < 7 → a ≠ b → (T11 a).2.1 ≠ (T11 b).2.1 := by decide +kernel
theorem uw12 : ∀ w ∈ u_ws R12 T12 10, w ∈ gtbl := by
  intro w hw
  obtain ⟨k, hk, rfl⟩ := List.mem_map.mp hw
  have hk := List.mem_range.mp hk
  match k, hk with
  | 0, _ => exact q_787
  | 1, _ => exact q_789
  | 2, _ => exact q_791
  | 3, _ => exact q_793
  | 4, _ => exact q_795
  | 5, _ => exact q_797
  | 6, _ => exact q_799
  | 7, _ => exact q_801
  | 8, _ => exact q_803
  | 9, _ => exact q_805
theorem tyok12 : ∀ k, k < 10 → parseFieldDescriptor (T12 k).2.2.1 = some (ty12 k) := by decide +kernel
theorem nmok12 : ∀ a, a < 10 → ∀ b, b < 10 → a ≠ b → (T12 a).2.1 ≠ (T12 b).2.1 := by decide +kernel
theorem uw13 : ∀ w ∈ u_ws R13 T13 3, w ∈ gtbl := by
  intro w hw
  obtain ⟨k, hk, rfl⟩ := List.mem_map.mp hw
  have hk := List.mem_range.mp hk
  match k, hk with
  | 0, _ => exact q_760
  | 1, _ => exact q_762
  | 2, _ => exact q_764
theorem tyok13 : ∀ k, k < 3 → parseFieldDescriptor (T13 k).2.2.1 = some (ty13 k) := by decide +kernel
theorem nmok13 : ∀ a, a < 3 → ∀ b, b < 3 → a ≠ b → (T13 a).2.1 ≠ (T13 b).2.1 := by decide +kernel
theorem uw14 : ∀ w ∈ u_ws R14 T14 4, w ∈ gtbl := by
  intro w hw
  obtain ⟨k, hk, rfl⟩ := List.mem_map.mp hw
  have hk := List.mem_range.mp hk
  match k, hk with
  | 0, _ => exact q_829
  | 1, _ => exact q_831
  | 2, _ => exact q_833
  | 3, _ => exact q_835
theorem tyok14 : ∀ k, k < 4 → parseFieldDescriptor (T14 k).2.2.1 = some (ty14 k) := by decide +kernel
theorem nmok14 : ∀ a, a < 4 → ∀ b, b < 4 → a ≠ b → (T14 a).2.1 ≠ (T14 b).2.1 := by decide +kernel
theorem uw15 : ∀ w ∈ u_ws R15 T15 4, w ∈ gtbl := by
  intro w hw
  obtain ⟨k, hk, rfl⟩ := List.mem_map.mp hw
  have hk := List.mem_range.mp hk
  match k, hk with
  | 0, _ => exact q_1296
  | 1, _ => exact q_1298
  | 2, _ => exact q_1300
  | 3, _ => exact q_1302
theorem tyok15 : ∀ k, k < 4 → parseFieldDescriptor (T15 k).2.2.1 = some (ty15 k) := by decide +kernel
theorem nmok15 : ∀ a, a < 4 → ∀ b, b < 4 → a ≠ b → (T15 a).2.1 ≠ (T15 b).2.1 := by decide +kernel
theorem uw16 : ∀ w ∈ u_ws R16 T16 4, w ∈ gtbl := by
  intro w hw
  obtain ⟨k, hk, rfl⟩ := List.mem_map.mp hw
  have hk := List.mem_range.mp hk
  match k, hk with
  | 0, _ => exact q_1181
  | 1, _ => exact q_1183
  | 2, _ => exact q_1462
  | 3, _ => exact q_1464
theorem tyok16 : ∀ k, k < 4 → parseFieldDescriptor (T16 k).2.2.1 = some (ty16 k) := by decide +kernel
theorem nmok16 : ∀ a, a < 4 → ∀ b, b < 4 → a ≠ b → (T16 a).2.1 ≠ (T16 b).2.1 := by decide +kernel
theorem uw17 : ∀ w ∈ u_ws R17 T17 1, w ∈ gtbl := by
  intro w hw
  obtain ⟨k, hk, rfl⟩ := List.mem_map.mp hw
  have hk := List.mem_range.mp hk
  match k, hk with
  | 0, _ => exact q_1249
theorem tyok17 : ∀ k, k < 1 → parseFieldDescriptor (T17 k).2.2.1 = some (ty17 k) := by decide +kernel
theorem nmok17 : ∀ a, a < 1 → ∀ b, b < 1 → a ≠ b → (T17 a).2.1 ≠ (T17 b).2.1 := by decide +kernel
theorem uwC : ∀ c, c < 18 → ∀ w ∈ u_ws (RC c) (TC c) (NC c), w ∈ gtbl := by
  intro c hc
  match c, hc with
  | 0, _ => exact uw0
  | 1, _ => exact uw1
  | 2, _ => exact uw2
  | 3, _ => exact uw3
  | 4, _ => exact uw4
  | 5, _ => exact uw5
  | 6, _ => exact uw6
  | 7, _ => exact uw7
  | 8, _ => exact uw8
  | 9, _ => exact uw9
  | 10, _ => exact uw10
  | 11, _ => exact uw11
  | 12, _ => exact uw12
  | 13, _ => exact uw13
  | 14, _ => exact uw14
  | 15, _ => exact uw15
  | 16, _ => exact uw16
  | 17, _ => exact uw17
  | (z + 18), h => exact absurd h (by omega)
theorem tyC : ∀ c, c < 18 → ∀ k, k < NC c → parseFieldDescriptor (TC c k).2.2.1 = some (TYC c k) := by
  intro c hc
  match c, hc with
  | 0, _ => exact tyok0
  | 1, _ => exact tyok1
  | 2, _ => exact tyok2
  | 3, _ => exact tyok3
  | 4, _ => exact tyok4
  | 5, _ => exact tyok5
  | 6, _ => exact tyok6
  | 7, _ => exact tyok7
  | 8, _ => exact tyok8
  | 9, _ => exact tyok9
  | 10, _ => exact tyok10
  | 11, _ => exact tyok11
  | 12, _ => exact tyok12
  | 13, _ => exact tyok13
  | 14, _ => exact tyok14
  | 15, _ => exact tyok15
  | 16, _ => exact tyok16
  | 17, _ => exact tyok17
  | (z + 18), h => exact absurd h (by omega)
theorem nmC : ∀ c, c < 18 → ∀ a, a < NC c → ∀ b, b < NC c → a ≠ b → (TC c a).2.1 ≠ (TC c b).2.1 := by
  intro c hc
  match c, hc with
  | 0, _ => exact nmok0
  | 1, _ => exact nmok1
  | 2, _ => exact nmok2
  | 3, _ => exact nmok3
  | 4, _ => exact nmok4
  | 5, _ => exact nmok5
  | 6, _ => exact nmok6
  | 7, _ => exact nmok7
  | 8, _ => exact nmok8
  | 9, _ => exact nmok9
  | 10, _ => exact nmok10
  | 11, _ => exact nmok11
  | 12, _ => exact nmok12
  | 13, _ => exact nmok13
  | 14, _ => exact nmok14
  | 15, _ => exact nmok15
  | 16, _ => exact nmok16
  | 17, _ => exact nmok17
  | (z + 18), h => exact absurd h (by omega)
abbrev M_FP_init : MethodName × ByteArray × Nat × Option FieldType × List (Nat × Nat × Nat × Nat) × Nat × Nat := (⟨"FlatPlan", "<init>", "()V"⟩, prog_1_method_1_code, 1, none, [], 5, 112)
abbrev M_Reader_init : MethodName × ByteArray × Nat × Option FieldType × List (Nat × Nat × Nat × Nat) × Nat × Nat := (⟨"FlatPlan$Reader", "<init>", "()V"⟩, prog_7_method_1_code, 1, none, [], 4, 92)
abbrev M_Bytes_init : MethodName × ByteArray × Nat × Option FieldType × List (Nat × Nat × Nat × Nat) × Nat × Nat := (⟨"FlatPlan$Bytes", "<init>", "(I)V"⟩, prog_3_method_1_code, 2, none, [], 1, 24)
abbrev M_Plan_init : MethodName × ByteArray × Nat × Option FieldType × List (Nat × Nat × Nat × Nat) × Nat × Nat := (⟨"FlatPlan$Plan", "<init>", "()V"⟩, prog_6_method_1_code, 1, none, [], 3, 72)
abbrev M_State_init : MethodName × ByteArray × Nat × Option FieldType × List (Nat × Nat × Nat × Nat) × Nat × Nat := (⟨"FlatPlan$State", "<init>", "()V"⟩, prog_10_method_1_code, 1, none, [], 2, 44)
abbrev M_Ads_init : MethodName × ByteArray × Nat × Option FieldType × List (Nat × Nat × Nat × Nat) × Nat × Nat := (⟨"FlatPlan$Ads", "<init>", "()V"⟩, prog_2_method_1_code, 1, none, [], 1, 24)
abbrev M_Stories_init : MethodName × ByteArray × Nat × Option FieldType × List (Nat × Nat × Nat × Nat) × Nat × Nat := (⟨"FlatPlan$Stories", "<init>", "()V"⟩, prog_11_method_1_code, 1, none, [], 1, 24)
abbrev M_Standbys_init : MethodName × ByteArray × Nat × Option FieldType × List (Nat × Nat × Nat × Nat) × Nat × Nat := (⟨"FlatPlan$Standbys", "<init>", "()V"⟩, prog_9_method_1_code, 1, none, [], 1, 24)
abbrev M_Forms_init : MethodName × ByteArray × Nat × Option FieldType × List (Nat × Nat × Nat × Nat) × Nat × Nat := (⟨"FlatPlan$Forms", "<init>", "()V"⟩, prog_4_method_1_code, 1, none, [], 1, 24)
abbrev M_Plan_begin : MethodName × ByteArray × Nat × Option FieldType × List (Nat × Nat × Nat × Nat) × Nat × Nat := (⟨"FlatPlan$Plan", "begin", "(II)V"⟩, prog_6_method_2_code, 3, none, [], 2, 50)
abbrev M_Plan_layOut : MethodName × ByteArray × Nat × Option FieldType × List (Nat × Nat × Nat × Nat) × Nat × Nat := (⟨"FlatPlan$Plan", "layOut", "()V"⟩, prog_6_method_4_code, 5, none, [], 1, 21)
abbrev M_Plan_recount : MethodName × ByteArray × Nat × Option FieldType × List (Nat × Nat × Nat × Nat) × Nat × Nat := (⟨"FlatPlan$Plan", "recount", "()V"⟩, prog_6_method_5_code, 8, none, [], 1, 23)
abbrev M_Plan_hasPage : MethodName × ByteArray × Nat × Option FieldType × List (Nat × Nat × Nat × Nat) × Nat × Nat := (⟨"FlatPlan$Plan", "hasPage", "(I)Z"⟩, prog_6_method_6_code, 2, (some FieldType.boolean), [], 0, 0)
abbrev M_Searches_init : MethodName × ByteArray × Nat × Option FieldType × List (Nat × Nat × Nat × Nat) × Nat × Nat := (⟨"FlatPlan$Searches", "<init>", "()V"⟩, prog_8_method_1_code, 1, none, [], 4, 92)
abbrev M_History_init : MethodName × ByteArray × Nat × Option FieldType × List (Nat × Nat × Nat × Nat) × Nat × Nat := (⟨"FlatPlan$History", "<init>", "()V"⟩, prog_5_method_1_code, 2, none, [], 3, 64)
abbrev M_FP_load : MethodName × ByteArray × Nat × Option FieldType × List (Nat × Nat × Nat × Nat) × Nat × Nat := (⟨"FlatPlan", "load", "()I"⟩, prog_1_method_4_code, 2, (some FieldType.int), [], 7, 149)
abbrev M_Reader_readText : MethodName × ByteArray × Nat × Option FieldType × List (Nat × Nat × Nat × Nat) × Nat × Nat := (⟨"FlatPlan$Reader", "readText", "()I"⟩, prog_7_method_2_code, 3, (some FieldType.int), [], 6, 127)
abbrev M_Reader_nextToken : MethodName × ByteArray × Nat × Option FieldType × List (Nat × Nat × Nat × Nat) × Nat × Nat := (⟨"FlatPlan$Reader", "nextToken", "()V"⟩, prog_7_method_16_code, 1, none, [], 1, 21)
abbrev M_Bytes_byteAt : MethodName × ByteArray × Nat × Option FieldType × List (Nat × Nat × Nat × Nat) × Nat × Nat := (⟨"FlatPlan$Bytes", "byteAt", "(I)I"⟩, prog_3_method_5_code, 2, (some FieldType.int), [], 0, 0)
abbrev M_Reader_isLetter : MethodName × ByteArray × Nat × Option FieldType × List (Nat × Nat × Nat × Nat) × Nat × Nat := (⟨"FlatPlan$Reader", "isLetter", "(I)Z"⟩, prog_7_method_17_code, 1, (some FieldType.boolean), [], 0, 0)
abbrev M_Reader_isDigit : MethodName × ByteArray × Nat × Option FieldType × List (Nat × Nat × Nat × Nat) × Nat × Nat := (⟨"FlatPlan$Reader", "isDigit", "(I)Z"⟩, prog_7_method_18_code, 1, (some FieldType.boolean), [], 0, 0)
abbrev M_Reader_isWord : MethodName × ByteArray × Nat × Option FieldType × List (Nat × Nat × Nat × Nat) × Nat × Nat := (⟨"FlatPlan$Reader", "isWord", "(Ljava/lang/String;)Z"⟩, prog_7_method_19_code, 3, (some FieldType.boolean), [], 4, 85)
abbrev M_Reader_readPlan : MethodName × ByteArray × Nat × Option FieldType × List (Nat × Nat × Nat × Nat) × Nat × Nat := (⟨"FlatPlan$Reader", "readPlan", "()Z"⟩, prog_7_method_3_code, 1, (some FieldType.boolean), [], 3, 72)
abbrev M_Reader_readNumber : MethodName × ByteArray × Nat × Option FieldType × List (Nat × Nat × Nat × Nat) × Nat × Nat := (⟨"FlatPlan$Reader", "readNumber", "(III)Z"⟩, prog_7_method_13_code, 5, (some FieldType.boolean), [], 2, 43)
abbrev M_Reader_fail : MethodName × ByteArray × Nat × Option FieldType × List (Nat × Nat × Nat × Nat) × Nat × Nat := (⟨"FlatPlan$Reader", "fail", "(I)Z"⟩, prog_7_method_15_code, 2, (some FieldType.boolean), [], 0, 0)
abbrev M_Reader_numberRead : MethodName × ByteArray × Nat × Option FieldType × List (Nat × Nat × Nat × Nat) × Nat × Nat := (⟨"FlatPlan$Reader", "numberRead", "()I"⟩, prog_7_method_20_code, 3, (some FieldType.int), [], 1, 21)
abbrev M_Reader_readSemicolon : MethodName × ByteArray × Nat × Option FieldType × List (Nat × Nat × Nat × Nat) × Nat × Nat := (⟨"FlatPlan$Reader", "readSemicolon", "()Z"⟩, prog_7_method_14_code, 1, (some FieldType.boolean), [], 2, 41)
abbrev M_Reader_readStatement : MethodName × ByteArray × Nat × Option FieldType × List (Nat × Nat × Nat × Nat) × Nat × Nat := (⟨"FlatPlan$Reader", "readStatement", "()Z"⟩, prog_7_method_4_code, 1, (some FieldType.boolean), [], 5, 107)
abbrev M_Reader_readColor : MethodName × ByteArray × Nat × Option FieldType × List (Nat × Nat × Nat × Nat) × Nat × Nat := (⟨"FlatPlan$Reader", "readColor", "()Z"⟩, prog_7_method_5_code, 1, (some FieldType.boolean), [], 3, 67)
abbrev M_Reader_readAd : MethodName × ByteArray × Nat × Option FieldType × List (Nat × Nat × Nat × Nat) × Nat × Nat := (⟨"FlatPlan$Reader", "readAd", "()Z"⟩, prog_7_method_6_code, 3, (some FieldType.boolean), [], 3, 67)
abbrev M_Reader_firstIsSize : MethodName × ByteArray × Nat × Option FieldType × List (Nat × Nat × Nat × Nat) × Nat × Nat := (⟨"FlatPlan$Reader", "firstIsSize", "()Z"⟩, prog_7_method_12_code, 1, (some FieldType.boolean), [], 1, 21)
abbrev M_FP_isSize : MethodName × ByteArray × Nat × Option FieldType × List (Nat × Nat × Nat × Nat) × Nat × Nat := (⟨"FlatPlan", "isSize", "(I)Z"⟩, prog_1_method_69_code, 1, (some FieldType.boolean), [], 0, 0)
abbrev M_Ads_add : MethodName × ByteArray × Nat × Option FieldType × List (Nat × Nat × Nat × Nat) × Nat × Nat := (⟨"FlatPlan$Ads", "add", "(IIII)I"⟩, prog_2_method_2_code, 6, (some FieldType.int), [], 0, 0)
abbrev M_Reader_readStory : MethodName × ByteArray × Nat × Option FieldType × List (Nat × Nat × Nat × Nat) × Nat × Nat := (⟨"FlatPlan$Reader", "readStory", "()Z"⟩, prog_7_method_7_code, 1, (some FieldType.boolean), [], 3, 67)
abbrev M_Stories_add : MethodName × ByteArray × Nat × Option FieldType × List (Nat × Nat × Nat × Nat) × Nat × Nat := (⟨"FlatPlan$Stories", "add", "(IIII)V"⟩, prog_11_method_2_code, 5, none, [], 0, 0)
abbrev M_Reader_readStandby : MethodName × ByteArray × Nat × Option FieldType × List (Nat × Nat × Nat × Nat) × Nat × Nat := (⟨"FlatPlan$Reader", "readStandby", "()Z"⟩, prog_7_method_8_code, 1, (some FieldType.boolean), [], 3, 67)
abbrev M_Standbys_add : MethodName × ByteArray × Nat × Option FieldType × List (Nat × Nat × Nat × Nat) × Nat × Nat := (⟨"FlatPlan$Standbys", "add", "(I)V"⟩, prog_9_method_2_code, 2, none, [], 0, 0)
abbrev M_Reader_readClose : MethodName × ByteArray × Nat × Option FieldType × List (Nat × Nat × Nat × Nat) × Nat × Nat := (⟨"FlatPlan$Reader", "readClose", "()Z"⟩, prog_7_method_9_code, 1, (some FieldType.boolean), [], 3, 67)
abbrev M_Reader_readPut : MethodName × ByteArray × Nat × Option FieldType × List (Nat × Nat × Nat × Nat) × Nat × Nat := (⟨"FlatPlan$Reader", "readPut", "()Z"⟩, prog_7_method_10_code, 2, (some FieldType.boolean), [], 3, 67)
abbrev M_Plan_adReason : MethodName × ByteArray × Nat × Option FieldType × List (Nat × Nat × Nat × Nat) × Nat × Nat := (⟨"FlatPlan$Plan", "adReason", "(II)I"⟩, prog_6_method_13_code, 3, (some FieldType.int), [], 1, 25)
abbrev M_Plan_isPrinted : MethodName × ByteArray × Nat × Option FieldType × List (Nat × Nat × Nat × Nat) × Nat × Nat := (⟨"FlatPlan$Plan", "isPrinted", "(I)Z"⟩, prog_6_method_8_code, 2, (some FieldType.boolean), [], 0, 0)
abbrev M_Plan_roomFor : MethodName × ByteArray × Nat × Option FieldType × List (Nat × Nat × Nat × Nat) × Nat × Nat := (⟨"FlatPlan$Plan", "roomFor", "(II)I"⟩, prog_6_method_14_code, 3, (some FieldType.int), [], 0, 0)
abbrev M_Plan_lacksColor : MethodName × ByteArray × Nat × Option FieldType × List (Nat × Nat × Nat × Nat) × Nat × Nat := (⟨"FlatPlan$Plan", "lacksColor", "(II)Z"⟩, prog_6_method_12_code, 3, (some FieldType.boolean), [], 0, 0)
abbrev M_Plan_isWrongSide : MethodName × ByteArray × Nat × Option FieldType × List (Nat × Nat × Nat × Nat) × Nat × Nat := (⟨"FlatPlan$Plan", "isWrongSide", "(II)Z"⟩, prog_6_method_10_code, 2, (some FieldType.boolean), [], 0, 0)
abbrev M_Plan_meetsRival : MethodName × ByteArray × Nat × Option FieldType × List (Nat × Nat × Nat × Nat) × Nat × Nat := (⟨"FlatPlan$Plan", "meetsRival", "(II)Z"⟩, prog_6_method_15_code, 6, (some FieldType.boolean), [], 0, 0)
abbrev M_Reader_readLay : MethodName × ByteArray × Nat × Option FieldType × List (Nat × Nat × Nat × Nat) × Nat × Nat := (⟨"FlatPlan$Reader", "readLay", "()Z"⟩, prog_7_method_11_code, 2, (some FieldType.boolean), [], 3, 69)
abbrev M_Plan_layReason : MethodName × ByteArray × Nat × Option FieldType × List (Nat × Nat × Nat × Nat) × Nat × Nat := (⟨"FlatPlan$Plan", "layReason", "(II)I"⟩, prog_6_method_16_code, 6, (some FieldType.int), [], 2, 44)
abbrev M_Plan_pageReason : MethodName × ByteArray × Nat × Option FieldType × List (Nat × Nat × Nat × Nat) × Nat × Nat := (⟨"FlatPlan$Plan", "pageReason", "(II)I"⟩, prog_6_method_17_code, 3, (some FieldType.int), [], 1, 22)
abbrev M_Plan_lowerReason : MethodName × ByteArray × Nat × Option FieldType × List (Nat × Nat × Nat × Nat) × Nat × Nat := (⟨"FlatPlan$Plan", "lowerReason", "(II)I"⟩, prog_6_method_18_code, 2, (some FieldType.int), [], 1, 21)
abbrev M_Plan_become : MethodName × ByteArray × Nat × Option FieldType × List (Nat × Nat × Nat × Nat) × Nat × Nat := (⟨"FlatPlan$Plan", "become", "(LFlatPlan$State;)V"⟩, prog_6_method_3_code, 2, none, [], 3, 102)
abbrev M_State_copyFrom : MethodName × ByteArray × Nat × Option FieldType × List (Nat × Nat × Nat × Nat) × Nat × Nat := (⟨"FlatPlan$State", "copyFrom", "(LFlatPlan$State;)V"⟩, prog_10_method_2_code, 2, none, [], 2, 81)
abbrev M_Ads_copyFrom : MethodName × ByteArray × Nat × Option FieldType × List (Nat × Nat × Nat × Nat) × Nat × Nat := (⟨"FlatPlan$Ads", "copyFrom", "(LFlatPlan$Ads;)V"⟩, prog_2_method_4_code, 2, none, [], 1, 60)
abbrev M_Stories_copyFrom : MethodName × ByteArray × Nat × Option FieldType × List (Nat × Nat × Nat × Nat) × Nat × Nat := (⟨"FlatPlan$Stories", "copyFrom", "(LFlatPlan$Stories;)V"⟩, prog_11_method_3_code, 2, none, [], 1, 60)
abbrev M_Standbys_copyFrom : MethodName × ByteArray × Nat × Option FieldType × List (Nat × Nat × Nat × Nat) × Nat × Nat := (⟨"FlatPlan$Standbys", "copyFrom", "(LFlatPlan$Standbys;)V"⟩, prog_9_method_4_code, 2, none, [], 1, 60)
abbrev M_Forms_copyFrom : MethodName × ByteArray × Nat × Option FieldType × List (Nat × Nat × Nat × Nat) × Nat × Nat := (⟨"FlatPlan$Forms", "copyFrom", "(LFlatPlan$Forms;)V"⟩, prog_4_method_2_code, 2, none, [], 1, 60)
abbrev M_History_forget : MethodName × ByteArray × Nat × Option FieldType × List (Nat × Nat × Nat × Nat) × Nat × Nat := (⟨"FlatPlan$History", "forget", "()V"⟩, prog_5_method_4_code, 1, none, [], 0, 0)
abbrev M_FP_errorCode : MethodName × ByteArray × Nat × Option FieldType × List (Nat × Nat × Nat × Nat) × Nat × Nat := (⟨"FlatPlan", "errorCode", "()I"⟩, prog_1_method_5_code, 1, (some FieldType.int), [], 0, 0)
abbrev M_FP_errorPosition : MethodName × ByteArray × Nat × Option FieldType × List (Nat × Nat × Nat × Nat) × Nat × Nat := (⟨"FlatPlan", "errorPosition", "()I"⟩, prog_1_method_6_code, 1, (some FieldType.int), [], 0, 0)
abbrev M_FP_tightest : MethodName × ByteArray × Nat × Option FieldType × List (Nat × Nat × Nat × Nat) × Nat × Nat := (⟨"FlatPlan", "tightest", "()I"⟩, prog_1_method_38_code, 1, (some FieldType.int), [], 4, 94)
abbrev M_Searches_tightestAd : MethodName × ByteArray × Nat × Option FieldType × List (Nat × Nat × Nat × Nat) × Nat × Nat := (⟨"FlatPlan$Searches", "tightestAd", "()I"⟩, prog_8_method_8_code, 5, (some FieldType.int), [], 3, 70)
abbrev M_Searches_pagesFor : MethodName × ByteArray × Nat × Option FieldType × List (Nat × Nat × Nat × Nat) × Nat × Nat := (⟨"FlatPlan$Searches", "pagesFor", "(I)I"⟩, prog_8_method_7_code, 4, (some FieldType.int), [], 2, 47)
abbrev M_FP_matching : MethodName × ByteArray × Nat × Option FieldType × List (Nat × Nat × Nat × Nat) × Nat × Nat := (⟨"FlatPlan", "matching", "()I"⟩, prog_1_method_41_code, 1, (some FieldType.int), [], 5, 116)
abbrev M_Searches_matchedAds : MethodName × ByteArray × Nat × Option FieldType × List (Nat × Nat × Nat × Nat) × Nat × Nat := (⟨"FlatPlan$Searches", "matchedAds", "()I"⟩, prog_8_method_14_code, 3, (some FieldType.int), [], 4, 94)
abbrev M_Searches_matchOneMore : MethodName × ByteArray × Nat × Option FieldType × List (Nat × Nat × Nat × Nat) × Nat × Nat := (⟨"FlatPlan$Searches", "matchOneMore", "(I)Z"⟩, prog_8_method_15_code, 5, (some FieldType.boolean), [], 3, 70)
abbrev M_Searches_mayMatch : MethodName × ByteArray × Nat × Option FieldType × List (Nat × Nat × Nat × Nat) × Nat × Nat := (⟨"FlatPlan$Searches", "mayMatch", "(II)Z"⟩, prog_8_method_16_code, 4, (some FieldType.boolean), [], 2, 47)
abbrev M_Searches_changePartners : MethodName × ByteArray × Nat × Option FieldType × List (Nat × Nat × Nat × Nat) × Nat × Nat := (⟨"FlatPlan$Searches", "changePartners", "(I)V"⟩, prog_8_method_17_code, 6, none, [], 0, 0)
abbrev M_FP_describedByte : MethodName × ByteArray × Nat × Option FieldType × List (Nat × Nat × Nat × Nat) × Nat × Nat := (⟨"FlatPlan", "describedByte", "(I)I"⟩, prog_1_method_59_code, 2, (some FieldType.int), [], 1, 21)
abbrev M_FP_undo : MethodName × ByteArray × Nat × Option FieldType × List (Nat × Nat × Nat × Nat) × Nat × Nat := (⟨"FlatPlan", "undo", "()Z"⟩, prog_1_method_61_code, 1, (some FieldType.boolean), [], 5, 144)
abbrev M_History_bringBack : MethodName × ByteArray × Nat × Option FieldType × List (Nat × Nat × Nat × Nat) × Nat × Nat := (⟨"FlatPlan$History", "bringBack", "(LFlatPlan$Plan;)Z"⟩, prog_5_method_3_code, 2, (some FieldType.boolean), [], 4, 123)
abbrev M_FP_truncateInput : MethodName × ByteArray × Nat × Option FieldType × List (Nat × Nat × Nat × Nat) × Nat × Nat := (⟨"FlatPlan", "truncateInput", "(I)I"⟩, prog_1_method_3_code, 2, (some FieldType.int), [], 0, 0)
abbrev M_FP_appendInput : MethodName × ByteArray × Nat × Option FieldType × List (Nat × Nat × Nat × Nat) × Nat × Nat := (⟨"FlatPlan", "appendInput", "(IIIII)I"⟩, prog_1_method_2_code, 6, (some FieldType.int), [], 2, 42)
abbrev M_Bytes_addWord : MethodName × ByteArray × Nat × Option FieldType × List (Nat × Nat × Nat × Nat) × Nat × Nat := (⟨"FlatPlan$Bytes", "addWord", "(I)V"⟩, prog_3_method_3_code, 2, none, [], 1, 21)
abbrev M_Bytes_addByte : MethodName × ByteArray × Nat × Option FieldType × List (Nat × Nat × Nat × Nat) × Nat × Nat := (⟨"FlatPlan$Bytes", "addByte", "(I)V"⟩, prog_3_method_2_code, 2, none, [], 0, 0)
abbrev M_FP_ad : MethodName × ByteArray × Nat × Option FieldType × List (Nat × Nat × Nat × Nat) × Nat × Nat := (⟨"FlatPlan", "ad", "(II)I"⟩, prog_1_method_12_code, 4, (some FieldType.int), [], 8, 131)
abbrev M_FP_needAd : MethodName × ByteArray × Nat × Option FieldType × List (Nat × Nat × Nat × Nat) × Nat × Nat := (⟨"FlatPlan", "needAd", "(I)V"⟩, prog_1_method_63_code, 2, none, [], 7, 110)
abbrev M_FP_orNone : MethodName × ByteArray × Nat × Option FieldType × List (Nat × Nat × Nat × Nat) × Nat × Nat := (⟨"FlatPlan", "orNone", "(I)I"⟩, prog_1_method_71_code, 1, (some FieldType.int), [], 0, 0)
abbrev M_Plan_isLate : MethodName × ByteArray × Nat × Option FieldType × List (Nat × Nat × Nat × Nat) × Nat × Nat := (⟨"FlatPlan$Plan", "isLate", "(I)Z"⟩, prog_6_method_9_code, 2, (some FieldType.boolean), [], 0, 0)
abbrev M_FP_story : MethodName × ByteArray × Nat × Option FieldType × List (Nat × Nat × Nat × Nat) × Nat × Nat := (⟨"FlatPlan", "story", "(II)I"⟩, prog_1_method_13_code, 4, (some FieldType.int), [], 8, 131)
abbrev M_FP_needStory : MethodName × ByteArray × Nat × Option FieldType × List (Nat × Nat × Nat × Nat) × Nat × Nat := (⟨"FlatPlan", "needStory", "(I)V"⟩, prog_1_method_64_code, 2, none, [], 7, 110)
abbrev M_FP_standby : MethodName × ByteArray × Nat × Option FieldType × List (Nat × Nat × Nat × Nat) × Nat × Nat := (⟨"FlatPlan", "standby", "(II)I"⟩, prog_1_method_14_code, 4, (some FieldType.int), [], 8, 131)
abbrev M_FP_needStandby : MethodName × ByteArray × Nat × Option FieldType × List (Nat × Nat × Nat × Nat) × Nat × Nat := (⟨"FlatPlan", "needStandby", "(I)V"⟩, prog_1_method_65_code, 2, none, [], 7, 110)
abbrev M_FP_count : MethodName × ByteArray × Nat × Option FieldType × List (Nat × Nat × Nat × Nat) × Nat × Nat := (⟨"FlatPlan", "count", "(I)I"⟩, prog_1_method_7_code, 3, (some FieldType.int), [], 1, 23)
abbrev M_FP_placed : MethodName × ByteArray × Nat × Option FieldType × List (Nat × Nat × Nat × Nat) × Nat × Nat := (⟨"FlatPlan", "placed", "([II)I"⟩, prog_1_method_8_code, 4, (some FieldType.int), [], 0, 0)
abbrev M_FP_digest : MethodName × ByteArray × Nat × Option FieldType × List (Nat × Nat × Nat × Nat) × Nat × Nat := (⟨"FlatPlan", "digest", "()I"⟩, prog_1_method_60_code, 4, (some FieldType.int), [], 0, 0)
abbrev M_FP_revenue : MethodName × ByteArray × Nat × Option FieldType × List (Nat × Nat × Nat × Nat) × Nat × Nat := (⟨"FlatPlan", "revenue", "()I"⟩, prog_1_method_51_code, 4, (some FieldType.int), [], 0, 0)
abbrev M_FP_lost : MethodName × ByteArray × Nat × Option FieldType × List (Nat × Nat × Nat × Nat) × Nat × Nat := (⟨"FlatPlan", "lost", "()I"⟩, prog_1_method_54_code, 1, (some FieldType.int), [], 0, 0)
abbrev M_FP_undoCount : MethodName × ByteArray × Nat × Option FieldType × List (Nat × Nat × Nat × Nat) × Nat × Nat := (⟨"FlatPlan", "undoCount", "()I"⟩, prog_1_method_62_code, 1, (some FieldType.int), [], 0, 0)
abbrev M_Law_thrownByPage : MethodName × ByteArray × Nat × Option FieldType × List (Nat × Nat × Nat × Nat) × Nat × Nat := (⟨"FlatPlanLaw", "thrownByPage", "(LFlatPlan;I)I"⟩, method_4_code, 3, (some FieldType.int), [(0, 7, 10, 32)], 9, 153)
abbrev M_FP_page : MethodName × ByteArray × Nat × Option FieldType × List (Nat × Nat × Nat × Nat) × Nat × Nat := (⟨"FlatPlan", "page", "(II)I"⟩, prog_1_method_15_code, 3, (some FieldType.int), [], 8, 131)
abbrev M_FP_needPage : MethodName × ByteArray × Nat × Option FieldType × List (Nat × Nat × Nat × Nat) × Nat × Nat := (⟨"FlatPlan", "needPage", "(I)V"⟩, prog_1_method_66_code, 2, none, [], 7, 110)
abbrev M_FP_standing : MethodName × ByteArray × Nat × Option FieldType × List (Nat × Nat × Nat × Nat) × Nat × Nat := (⟨"FlatPlan", "standing", "([III)I"⟩, prog_1_method_16_code, 5, (some FieldType.int), [], 0, 0)
abbrev M_Law_thrownByPrice : MethodName × ByteArray × Nat × Option FieldType × List (Nat × Nat × Nat × Nat) × Nat × Nat := (⟨"FlatPlanLaw", "thrownByPrice", "(LFlatPlan;)I"⟩, method_5_code, 2, (some FieldType.int), [(0, 5, 8, 38)], 8, 133)
abbrev M_FP_quarterPrice : MethodName × ByteArray × Nat × Option FieldType × List (Nat × Nat × Nat × Nat) × Nat × Nat := (⟨"FlatPlan", "quarterPrice", "()D"⟩, prog_1_method_57_code, 4, (some FieldType.double), [], 7, 110)
abbrev M_FP_adOn : MethodName × ByteArray × Nat × Option FieldType × List (Nat × Nat × Nat × Nat) × Nat × Nat := (⟨"FlatPlan", "adOn", "(II)I"⟩, prog_1_method_17_code, 6, (some FieldType.int), [], 8, 131)
abbrev M_FP_describe : MethodName × ByteArray × Nat × Option FieldType × List (Nat × Nat × Nat × Nat) × Nat × Nat := (⟨"FlatPlan", "describe", "(I)I"⟩, prog_1_method_58_code, 4, (some FieldType.int), [], 8, 131)
abbrev M_Bytes_addItem : MethodName × ByteArray × Nat × Option FieldType × List (Nat × Nat × Nat × Nat) × Nat × Nat := (⟨"FlatPlan$Bytes", "addItem", "(CI)V"⟩, prog_3_method_4_code, 3, none, [], 1, 21)
abbrev M_FP_emptiest : MethodName × ByteArray × Nat × Option FieldType × List (Nat × Nat × Nat × Nat) × Nat × Nat := (⟨"FlatPlan", "emptiest", "(I)I"⟩, prog_1_method_47_code, 5, (some FieldType.int), [], 0, 0)
abbrev M_FP_fill : MethodName × ByteArray × Nat × Option FieldType × List (Nat × Nat × Nat × Nat) × Nat × Nat := (⟨"FlatPlan", "fill", "()D"⟩, prog_1_method_56_code, 3, (some FieldType.double), [], 0, 0)
abbrev M_FP_emptyRun : MethodName × ByteArray × Nat × Option FieldType × List (Nat × Nat × Nat × Nat) × Nat × Nat := (⟨"FlatPlan", "emptyRun", "(I)I"⟩, prog_1_method_46_code, 4, (some FieldType.int), [], 7, 110)
abbrev M_FP_pageOf : MethodName × ByteArray × Nat × Option FieldType × List (Nat × Nat × Nat × Nat) × Nat × Nat := (⟨"FlatPlan", "pageOf", "(II)I"⟩, prog_1_method_19_code, 5, (some FieldType.int), [], 8, 131)
abbrev M_FP_needForm : MethodName × ByteArray × Nat × Option FieldType × List (Nat × Nat × Nat × Nat) × Nat × Nat := (⟨"FlatPlan", "needForm", "(I)V"⟩, prog_1_method_67_code, 2, none, [], 7, 110)
abbrev M_FP_form : MethodName × ByteArray × Nat × Option FieldType × List (Nat × Nat × Nat × Nat) × Nat × Nat := (⟨"FlatPlan", "form", "(II)I"⟩, prog_1_method_18_code, 4, (some FieldType.int), [], 8, 131)
abbrev M_Plan_leftOnForm : MethodName × ByteArray × Nat × Option FieldType × List (Nat × Nat × Nat × Nat) × Nat × Nat := (⟨"FlatPlan$Plan", "leftOnForm", "(I)I"⟩, prog_6_method_27_code, 4, (some FieldType.int), [], 0, 0)
abbrev M_Plan_adsOnForm : MethodName × ByteArray × Nat × Option FieldType × List (Nat × Nat × Nat × Nat) × Nat × Nat := (⟨"FlatPlan$Plan", "adsOnForm", "(I)I"⟩, prog_6_method_28_code, 4, (some FieldType.int), [], 1, 21)
abbrev M_Plan_formAt : MethodName × ByteArray × Nat × Option FieldType × List (Nat × Nat × Nat × Nat) × Nat × Nat := (⟨"FlatPlan$Plan", "formAt", "(I)I"⟩, prog_6_method_7_code, 2, (some FieldType.int), [], 0, 0)
abbrev M_Plan_lateOnForm : MethodName × ByteArray × Nat × Option FieldType × List (Nat × Nat × Nat × Nat) × Nat × Nat := (⟨"FlatPlan$Plan", "lateOnForm", "(I)I"⟩, prog_6_method_29_code, 4, (some FieldType.int), [], 2, 45)
abbrev M_Plan_storyIsOn : MethodName × ByteArray × Nat × Option FieldType × List (Nat × Nat × Nat × Nat) × Nat × Nat := (⟨"FlatPlan$Plan", "storyIsOn", "(II)Z"⟩, prog_6_method_23_code, 5, (some FieldType.boolean), [], 1, 21)
abbrev M_Plan_hasColorItem : MethodName × ByteArray × Nat × Option FieldType × List (Nat × Nat × Nat × Nat) × Nat × Nat := (⟨"FlatPlan$Plan", "hasColorItem", "(I)Z"⟩, prog_6_method_30_code, 3, (some FieldType.boolean), [], 2, 45)
abbrev M_FP_revenueOf : MethodName × ByteArray × Nat × Option FieldType × List (Nat × Nat × Nat × Nat) × Nat × Nat := (⟨"FlatPlan", "revenueOf", "(I)I"⟩, prog_1_method_52_code, 5, (some FieldType.int), [], 8, 131)
abbrev M_FP_bestColor : MethodName × ByteArray × Nat × Option FieldType × List (Nat × Nat × Nat × Nat) × Nat × Nat := (⟨"FlatPlan", "bestColor", "(I)I"⟩, prog_1_method_42_code, 2, (some FieldType.int), [], 7, 110)
abbrev M_Searches_roomiestForms : MethodName × ByteArray × Nat × Option FieldType × List (Nat × Nat × Nat × Nat) × Nat × Nat := (⟨"FlatPlan$Searches", "roomiestForms", "(I)I"⟩, prog_8_method_18_code, 6, (some FieldType.int), [], 2, 46)
abbrev M_Searches_leftOnSet : MethodName × ByteArray × Nat × Option FieldType × List (Nat × Nat × Nat × Nat) × Nat × Nat := (⟨"FlatPlan$Searches", "leftOnSet", "(I)I"⟩, prog_8_method_19_code, 4, (some FieldType.int), [], 1, 23)
abbrev M_FP_nextClosing : MethodName × ByteArray × Nat × Option FieldType × List (Nat × Nat × Nat × Nat) × Nat × Nat := (⟨"FlatPlan", "nextClosing", "()I"⟩, prog_1_method_33_code, 1, (some FieldType.int), [], 1, 23)
abbrev M_Plan_soonestForm : MethodName × ByteArray × Nat × Option FieldType × List (Nat × Nat × Nat × Nat) × Nat × Nat := (⟨"FlatPlan$Plan", "soonestForm", "()I"⟩, prog_6_method_31_code, 4, (some FieldType.int), [], 0, 0)
abbrev M_FP_endangered : MethodName × ByteArray × Nat × Option FieldType × List (Nat × Nat × Nat × Nat) × Nat × Nat := (⟨"FlatPlan", "endangered", "()I"⟩, prog_1_method_55_code, 6, (some FieldType.int), [], 1, 21)
abbrev M_FP_reason : MethodName × ByteArray × Nat × Option FieldType × List (Nat × Nat × Nat × Nat) × Nat × Nat := (⟨"FlatPlan", "reason", "(II)I"⟩, prog_1_method_20_code, 3, (some FieldType.int), [], 8, 131)
abbrev M_FP_choices : MethodName × ByteArray × Nat × Option FieldType × List (Nat × Nat × Nat × Nat) × Nat × Nat := (⟨"FlatPlan", "choices", "(I)I"⟩, prog_1_method_36_code, 2, (some FieldType.int), [], 8, 131)
abbrev M_FP_storyReason : MethodName × ByteArray × Nat × Option FieldType × List (Nat × Nat × Nat × Nat) × Nat × Nat := (⟨"FlatPlan", "storyReason", "(II)I"⟩, prog_1_method_21_code, 3, (some FieldType.int), [], 8, 131)
abbrev M_FP_eviction : MethodName × ByteArray × Nat × Option FieldType × List (Nat × Nat × Nat × Nat) × Nat × Nat := (⟨"FlatPlan", "eviction", "(II)I"⟩, prog_1_method_39_code, 3, (some FieldType.int), [], 8, 131)
abbrev M_Searches_evictedPrices : MethodName × ByteArray × Nat × Option FieldType × List (Nat × Nat × Nat × Nat) × Nat × Nat := (⟨"FlatPlan$Searches", "evictedPrices", "(II)I"⟩, prog_8_method_9_code, 5, (some FieldType.int), [], 3, 75)
abbrev M_Plan_isUnfit : MethodName × ByteArray × Nat × Option FieldType × List (Nat × Nat × Nat × Nat) × Nat × Nat := (⟨"FlatPlan$Plan", "isUnfit", "(II)Z"⟩, prog_6_method_11_code, 3, (some FieldType.boolean), [], 1, 22)
abbrev M_Searches_rivalPricesBeside : MethodName × ByteArray × Nat × Option FieldType × List (Nat × Nat × Nat × Nat) × Nat × Nat := (⟨"FlatPlan$Searches", "rivalPricesBeside", "(II)I"⟩, prog_8_method_10_code, 6, (some FieldType.int), [], 1, 22)
abbrev M_Ads_areRivals : MethodName × ByteArray × Nat × Option FieldType × List (Nat × Nat × Nat × Nat) × Nat × Nat := (⟨"FlatPlan$Ads", "areRivals", "(II)Z"⟩, prog_2_method_3_code, 3, (some FieldType.boolean), [], 0, 0)
abbrev M_Searches_pricesForRoom : MethodName × ByteArray × Nat × Option FieldType × List (Nat × Nat × Nat × Nat) × Nat × Nat := (⟨"FlatPlan$Searches", "pricesForRoom", "(II)I"⟩, prog_8_method_11_code, 7, (some FieldType.int), [], 2, 49)
abbrev M_Searches_removedPrices : MethodName × ByteArray × Nat × Option FieldType × List (Nat × Nat × Nat × Nat) × Nat × Nat := (⟨"FlatPlan$Searches", "removedPrices", "(IIII)I"⟩, prog_8_method_12_code, 8, (some FieldType.int), [], 1, 22)
abbrev M_FP_cheapestPage : MethodName × ByteArray × Nat × Option FieldType × List (Nat × Nat × Nat × Nat) × Nat × Nat := (⟨"FlatPlan", "cheapestPage", "(I)I"⟩, prog_1_method_40_code, 2, (some FieldType.int), [], 8, 131)
abbrev M_Searches_cheapestFor : MethodName × ByteArray × Nat × Option FieldType × List (Nat × Nat × Nat × Nat) × Nat × Nat := (⟨"FlatPlan$Searches", "cheapestFor", "(I)I"⟩, prog_8_method_13_code, 6, (some FieldType.int), [], 4, 99)
abbrev M_FP_firstPage : MethodName × ByteArray × Nat × Option FieldType × List (Nat × Nat × Nat × Nat) × Nat × Nat := (⟨"FlatPlan", "firstPage", "(II)I"⟩, prog_1_method_37_code, 3, (some FieldType.int), [], 8, 131)
abbrev M_Plan_firstFor : MethodName × ByteArray × Nat × Option FieldType × List (Nat × Nat × Nat × Nat) × Nat × Nat := (⟨"FlatPlan$Plan", "firstFor", "(II)I"⟩, prog_6_method_35_code, 4, (some FieldType.int), [], 2, 47)
abbrev M_FP_groupOn : MethodName × ByteArray × Nat × Option FieldType × List (Nat × Nat × Nat × Nat) × Nat × Nat := (⟨"FlatPlan", "groupOn", "(II)I"⟩, prog_1_method_49_code, 3, (some FieldType.int), [], 8, 130)
abbrev M_FP_needGroup : MethodName × ByteArray × Nat × Option FieldType × List (Nat × Nat × Nat × Nat) × Nat × Nat := (⟨"FlatPlan", "needGroup", "(I)V"⟩, prog_1_method_68_code, 1, none, [], 7, 110)
abbrev M_FP_spreadsOf : MethodName × ByteArray × Nat × Option FieldType × List (Nat × Nat × Nat × Nat) × Nat × Nat := (⟨"FlatPlan", "spreadsOf", "(I)I"⟩, prog_1_method_50_code, 4, (some FieldType.int), [], 8, 130)
abbrev M_FP_revenueOfGroup : MethodName × ByteArray × Nat × Option FieldType × List (Nat × Nat × Nat × Nat) × Nat × Nat := (⟨"FlatPlan", "revenueOfGroup", "(I)I"⟩, prog_1_method_53_code, 5, (some FieldType.int), [], 8, 130)
abbrev M_FP_nearRivals : MethodName × ByteArray × Nat × Option FieldType × List (Nat × Nat × Nat × Nat) × Nat × Nat := (⟨"FlatPlan", "nearRivals", "()I"⟩, prog_1_method_48_code, 5, (some FieldType.int), [], 1, 22)
abbrev M_FP_lateItem : MethodName × ByteArray × Nat × Option FieldType × List (Nat × Nat × Nat × Nat) × Nat × Nat := (⟨"FlatPlan", "lateItem", "(I)I"⟩, prog_1_method_44_code, 2, (some FieldType.int), [], 6, 136)
abbrev M_Searches_lateItemAt : MethodName × ByteArray × Nat × Option FieldType × List (Nat × Nat × Nat × Nat) × Nat × Nat := (⟨"FlatPlan$Searches", "lateItemAt", "(I)I"⟩, prog_8_method_24_code, 4, (some FieldType.int), [], 5, 113)
abbrev M_Searches_nextLateRank : MethodName × ByteArray × Nat × Option FieldType × List (Nat × Nat × Nat × Nat) × Nat × Nat := (⟨"FlatPlan$Searches", "nextLateRank", "(I)I"⟩, prog_8_method_25_code, 5, (some FieldType.int), [], 4, 89)
abbrev M_Searches_adIsOpen : MethodName × ByteArray × Nat × Option FieldType × List (Nat × Nat × Nat × Nat) × Nat × Nat := (⟨"FlatPlan$Searches", "adIsOpen", "(I)Z"⟩, prog_8_method_28_code, 2, (some FieldType.boolean), [], 1, 21)
abbrev M_Searches_rankOf : MethodName × ByteArray × Nat × Option FieldType × List (Nat × Nat × Nat × Nat) × Nat × Nat := (⟨"FlatPlan$Searches", "rankOf", "(II)I"⟩, prog_8_method_26_code, 2, (some FieldType.int), [], 0, 0)
abbrev M_Searches_nearerRank : MethodName × ByteArray × Nat × Option FieldType × List (Nat × Nat × Nat × Nat) × Nat × Nat := (⟨"FlatPlan$Searches", "nearerRank", "(III)I"⟩, prog_8_method_27_code, 3, (some FieldType.int), [], 0, 0)
abbrev M_Plan_storyIsOpen : MethodName × ByteArray × Nat × Option FieldType × List (Nat × Nat × Nat × Nat) × Nat × Nat := (⟨"FlatPlan$Plan", "storyIsOpen", "(I)Z"⟩, prog_6_method_25_code, 2, (some FieldType.boolean), [], 3, 68)
abbrev M_Plan_storyIsOnFormThat : MethodName × ByteArray × Nat × Option FieldType × List (Nat × Nat × Nat × Nat) × Nat × Nat := (⟨"FlatPlan$Plan", "storyIsOnFormThat", "(II)Z"⟩, prog_6_method_26_code, 4, (some FieldType.boolean), [], 2, 45)
abbrev M_FP_lastReady : MethodName × ByteArray × Nat × Option FieldType × List (Nat × Nat × Nat × Nat) × Nat × Nat := (⟨"FlatPlan", "lastReady", "()I"⟩, prog_1_method_45_code, 1, (some FieldType.int), [], 5, 112)
abbrev M_Searches_readyLast : MethodName × ByteArray × Nat × Option FieldType × List (Nat × Nat × Nat × Nat) × Nat × Nat := (⟨"FlatPlan$Searches", "readyLast", "()I"⟩, prog_8_method_29_code, 4, (some FieldType.int), [], 4, 89)
abbrev M_FP_betterExchange : MethodName × ByteArray × Nat × Option FieldType × List (Nat × Nat × Nat × Nat) × Nat × Nat := (⟨"FlatPlan", "betterExchange", "()I"⟩, prog_1_method_43_code, 1, (some FieldType.int), [], 4, 97)
abbrev M_Searches_bestExchange : MethodName × ByteArray × Nat × Option FieldType × List (Nat × Nat × Nat × Nat) × Nat × Nat := (⟨"FlatPlan$Searches", "bestExchange", "()I"⟩, prog_8_method_20_code, 6, (some FieldType.int), [], 3, 72)
abbrev M_Searches_countColorPages : MethodName × ByteArray × Nat × Option FieldType × List (Nat × Nat × Nat × Nat) × Nat × Nat := (⟨"FlatPlan$Searches", "countColorPages", "()V"⟩, prog_8_method_21_code, 3, none, [], 1, 23)
abbrev M_Searches_fewerColorForms : MethodName × ByteArray × Nat × Option FieldType × List (Nat × Nat × Nat × Nat) × Nat × Nat := (⟨"FlatPlan$Searches", "fewerColorForms", "(II)I"⟩, prog_8_method_22_code, 6, (some FieldType.int), [], 1, 20)
abbrev M_Searches_oneIfAny : MethodName × ByteArray × Nat × Option FieldType × List (Nat × Nat × Nat × Nat) × Nat × Nat := (⟨"FlatPlan$Searches", "oneIfAny", "(I)I"⟩, prog_8_method_23_code, 1, (some FieldType.int), [], 0, 0)
abbrev M_Plan_exchangeReason : MethodName × ByteArray × Nat × Option FieldType × List (Nat × Nat × Nat × Nat) × Nat × Nat := (⟨"FlatPlan$Plan", "exchangeReason", "(II)I"⟩, prog_6_method_20_code, 5, (some FieldType.int), [], 2, 48)
abbrev M_Plan_exchangedReason : MethodName × ByteArray × Nat × Option FieldType × List (Nat × Nat × Nat × Nat) × Nat × Nat := (⟨"FlatPlan$Plan", "exchangedReason", "(III)I"⟩, prog_6_method_21_code, 7, (some FieldType.int), [], 1, 22)
abbrev M_Plan_exchanged : MethodName × ByteArray × Nat × Option FieldType × List (Nat × Nat × Nat × Nat) × Nat × Nat := (⟨"FlatPlan$Plan", "exchanged", "(III)I"⟩, prog_6_method_22_code, 3, (some FieldType.int), [], 0, 0)
abbrev M_FP_put : MethodName × ByteArray × Nat × Option FieldType × List (Nat × Nat × Nat × Nat) × Nat × Nat := (⟨"FlatPlan", "put", "(II)I"⟩, prog_1_method_22_code, 4, (some FieldType.int), [], 8, 131)
abbrev M_History_keep : MethodName × ByteArray × Nat × Option FieldType × List (Nat × Nat × Nat × Nat) × Nat × Nat := (⟨"FlatPlan$History", "keep", "(LFlatPlan$State;)V"⟩, prog_5_method_2_code, 2, none, [], 3, 102)
abbrev M_FP_lay : MethodName × ByteArray × Nat × Option FieldType × List (Nat × Nat × Nat × Nat) × Nat × Nat := (⟨"FlatPlan", "lay", "(II)I"⟩, prog_1_method_23_code, 4, (some FieldType.int), [], 8, 131)
abbrev M_Plan_storyIsPrinted : MethodName × ByteArray × Nat × Option FieldType × List (Nat × Nat × Nat × Nat) × Nat × Nat := (⟨"FlatPlan$Plan", "storyIsPrinted", "(I)Z"⟩, prog_6_method_24_code, 2, (some FieldType.boolean), [], 3, 68)
abbrev M_FP_take : MethodName × ByteArray × Nat × Option FieldType × List (Nat × Nat × Nat × Nat) × Nat × Nat := (⟨"FlatPlan", "take", "(I)Z"⟩, prog_1_method_24_code, 3, (some FieldType.boolean), [], 8, 131)
abbrev M_FP_takeStory : MethodName × ByteArray × Nat × Option FieldType × List (Nat × Nat × Nat × Nat) × Nat × Nat := (⟨"FlatPlan", "takeStory", "(I)Z"⟩, prog_1_method_25_code, 2, (some FieldType.boolean), [], 8, 131)
abbrev M_FP_use : MethodName × ByteArray × Nat × Option FieldType × List (Nat × Nat × Nat × Nat) × Nat × Nat := (⟨"FlatPlan", "use", "(II)I"⟩, prog_1_method_26_code, 4, (some FieldType.int), [], 8, 131)
abbrev M_Plan_useReason : MethodName × ByteArray × Nat × Option FieldType × List (Nat × Nat × Nat × Nat) × Nat × Nat := (⟨"FlatPlan$Plan", "useReason", "(II)I"⟩, prog_6_method_19_code, 6, (some FieldType.int), [], 1, 21)
abbrev M_FP_clear : MethodName × ByteArray × Nat × Option FieldType × List (Nat × Nat × Nat × Nat) × Nat × Nat := (⟨"FlatPlan", "clear", "(I)I"⟩, prog_1_method_27_code, 5, (some FieldType.int), [], 8, 131)
abbrev M_FP_exchange : MethodName × ByteArray × Nat × Option FieldType × List (Nat × Nat × Nat × Nat) × Nat × Nat := (⟨"FlatPlan", "exchange", "(II)I"⟩, prog_1_method_28_code, 6, (some FieldType.int), [], 8, 131)
abbrev M_FP_setColor : MethodName × ByteArray × Nat × Option FieldType × List (Nat × Nat × Nat × Nat) × Nat × Nat := (⟨"FlatPlan", "setColor", "(IZ)Z"⟩, prog_1_method_29_code, 4, (some FieldType.boolean), [], 8, 131)
abbrev M_FP_setClosing : MethodName × ByteArray × Nat × Option FieldType × List (Nat × Nat × Nat × Nat) × Nat × Nat := (⟨"FlatPlan", "setClosing", "(II)I"⟩, prog_1_method_30_code, 5, (some FieldType.int), [], 8, 131)
abbrev M_Plan_closeDueForms : MethodName × ByteArray × Nat × Option FieldType × List (Nat × Nat × Nat × Nat) × Nat × Nat := (⟨"FlatPlan$Plan", "closeDueForms", "()I"⟩, prog_6_method_32_code, 4, (some FieldType.int), [], 3, 72)
abbrev M_Plan_closeForm : MethodName × ByteArray × Nat × Option FieldType × List (Nat × Nat × Nat × Nat) × Nat × Nat := (⟨"FlatPlan$Plan", "closeForm", "(I)V"⟩, prog_6_method_33_code, 3, none, [], 2, 50)
abbrev M_Plan_replaceLateAds : MethodName × ByteArray × Nat × Option FieldType × List (Nat × Nat × Nat × Nat) × Nat × Nat := (⟨"FlatPlan$Plan", "replaceLateAds", "(I)V"⟩, prog_6_method_34_code, 5, none, [], 1, 22)
abbrev M_Standbys_unused : MethodName × ByteArray × Nat × Option FieldType × List (Nat × Nat × Nat × Nat) × Nat × Nat := (⟨"FlatPlan$Standbys", "unused", "(I)I"⟩, prog_9_method_3_code, 3, (some FieldType.int), [], 0, 0)
abbrev M_FP_pass : MethodName × ByteArray × Nat × Option FieldType × List (Nat × Nat × Nat × Nat) × Nat × Nat := (⟨"FlatPlan", "pass", "(I)I"⟩, prog_1_method_31_code, 4, (some FieldType.int), [], 7, 123)
abbrev M_FP_print : MethodName × ByteArray × Nat × Option FieldType × List (Nat × Nat × Nat × Nat) × Nat × Nat := (⟨"FlatPlan", "print", "(I)I"⟩, prog_1_method_32_code, 2, (some FieldType.int), [], 8, 131)
abbrev M_FP_placeAds : MethodName × ByteArray × Nat × Option FieldType × List (Nat × Nat × Nat × Nat) × Nat × Nat := (⟨"FlatPlan", "placeAds", "()I"⟩, prog_1_method_34_code, 1, (some FieldType.int), [], 4, 123)
abbrev M_Searches_placeFreeAds : MethodName × ByteArray × Nat × Option FieldType × List (Nat × Nat × Nat × Nat) × Nat × Nat := (⟨"FlatPlan$Searches", "placeFreeAds", "()I"⟩, prog_8_method_2_code, 5, (some FieldType.int), [], 3, 70)
abbrev M_Searches_insertAd : MethodName × ByteArray × Nat × Option FieldType × List (Nat × Nat × Nat × Nat) × Nat × Nat := (⟨"FlatPlan$Searches", "insertAd", "(II)V"⟩, prog_8_method_3_code, 4, none, [], 1, 23)
abbrev M_Searches_comesBefore : MethodName × ByteArray × Nat × Option FieldType × List (Nat × Nat × Nat × Nat) × Nat × Nat := (⟨"FlatPlan$Searches", "comesBefore", "(II)Z"⟩, prog_8_method_4_code, 4, (some FieldType.boolean), [], 0, 0)
abbrev M_FP_layStories : MethodName × ByteArray × Nat × Option FieldType × List (Nat × Nat × Nat × Nat) × Nat × Nat := (⟨"FlatPlan", "layStories", "()I"⟩, prog_1_method_35_code, 1, (some FieldType.int), [], 5, 123)
abbrev M_Searches_layFreeStories : MethodName × ByteArray × Nat × Option FieldType × List (Nat × Nat × Nat × Nat) × Nat × Nat := (⟨"FlatPlan$Searches", "layFreeStories", "()I"⟩, prog_8_method_5_code, 4, (some FieldType.int), [], 4, 91)
abbrev M_Searches_layFirst : MethodName × ByteArray × Nat × Option FieldType × List (Nat × Nat × Nat × Nat) × Nat × Nat := (⟨"FlatPlan$Searches", "layFirst", "(I)Z"⟩, prog_8_method_6_code, 3, (some FieldType.boolean), [], 3, 69)
abbrev M_FP_addAd : MethodName × ByteArray × Nat × Option FieldType × List (Nat × Nat × Nat × Nat) × Nat × Nat := (⟨"FlatPlan", "addAd", "(IIII)I"⟩, prog_1_method_9_code, 6, (some FieldType.int), [], 7, 123)
abbrev M_FP_isPrice : MethodName × ByteArray × Nat × Option FieldType × List (Nat × Nat × Nat × Nat) × Nat × Nat := (⟨"FlatPlan", "isPrice", "(I)Z"⟩, prog_1_method_70_code, 1, (some FieldType.boolean), [], 0, 0)
abbrev M_FP_setAd : MethodName × ByteArray × Nat × Option FieldType × List (Nat × Nat × Nat × Nat) × Nat × Nat := (⟨"FlatPlan", "setAd", "(IZI)Z"⟩, prog_1_method_10_code, 5, (some FieldType.boolean), [], 8, 131)
abbrev M_FP_setPrice : MethodName × ByteArray × Nat × Option FieldType × List (Nat × Nat × Nat × Nat) × Nat × Nat := (⟨"FlatPlan", "setPrice", "(II)I"⟩, prog_1_method_11_code, 4, (some FieldType.int), [], 8, 131)
abbrev M_Arrays_fill : MethodName × ByteArray × Nat × Option FieldType × List (Nat × Nat × Nat × Nat) × Nat × Nat := (⟨"java/util/Arrays", "fill", "([II)V"⟩, prog_45_method_103_code, 4, none, [], 0, 0)
abbrev M_Math_min : MethodName × ByteArray × Nat × Option FieldType × List (Nat × Nat × Nat × Nat) × Nat × Nat := (⟨"java/lang/Math", "min", "(II)I"⟩, prog_30_method_69_code, 2, (some FieldType.int), [], 0, 0)
abbrev M_Math_max : MethodName × ByteArray × Nat × Option FieldType × List (Nat × Nat × Nat × Nat) × Nat × Nat := (⟨"java/lang/Math", "max", "(II)I"⟩, prog_30_method_65_code, 2, (some FieldType.int), [], 0, 0)
abbrev M_Math_abs : MethodName × ByteArray × Nat × Option FieldType × List (Nat × Nat × Nat × Nat) × Nat × Nat := (⟨"java/lang/Math", "abs", "(I)I"⟩, prog_30_method_59_code, 1, (some FieldType.int), [], 0, 0)
abbrev M_Integer_bitCount : MethodName × ByteArray × Nat × Option FieldType × List (Nat × Nat × Nat × Nat) × Nat × Nat := (⟨"java/lang/Integer", "bitCount", "(I)I"⟩, prog_27_method_49_code, 1, (some FieldType.int), [], 0, 0)
abbrev M_String_length : MethodName × ByteArray × Nat × Option FieldType × List (Nat × Nat × Nat × Nat) × Nat × Nat := (⟨"java/lang/String", "length", "()I"⟩, prog_33_method_54_code, 1, (some FieldType.int), [], 1, 20)
abbrev M_String_coder : MethodName × ByteArray × Nat × Option FieldType × List (Nat × Nat × Nat × Nat) × Nat × Nat := (⟨"java/lang/String", "coder", "()B"⟩, prog_33_method_152_code, 1, (some FieldType.byte), [], 0, 0)
abbrev M_String_charAt : MethodName × ByteArray × Nat × Option FieldType × List (Nat × Nat × Nat × Nat) × Nat × Nat := (⟨"java/lang/String", "charAt", "(I)C"⟩, prog_33_method_56_code, 2, (some FieldType.char), [], 3, 64)
abbrev M_String_isLatin1 : MethodName × ByteArray × Nat × Option FieldType × List (Nat × Nat × Nat × Nat) × Nat × Nat := (⟨"java/lang/String", "isLatin1", "()Z"⟩, prog_33_method_154_code, 1, (some FieldType.boolean), [], 0, 0)
abbrev M_StringLatin1_charAt : MethodName × ByteArray × Nat × Option FieldType × List (Nat × Nat × Nat × Nat) × Nat × Nat := (⟨"java/lang/StringLatin1", "charAt", "([BI)C"⟩, prog_35_method_2_code, 2, (some FieldType.char), [], 2, 43)
abbrev M_Object_init : MethodName × ByteArray × Nat × Option FieldType × List (Nat × Nat × Nat × Nat) × Nat × Nat := (⟨"java/lang/Object", "<init>", "()V"⟩, object_method_1_code, 1, none, [], 0, 0)
abbrev M_String_checkIndex : MethodName × ByteArray × Nat × Option FieldType × List (Nat × Nat × Nat × Nat) × Nat × Nat := (⟨"java/lang/String", "checkIndex", "(II)V"⟩, prog_33_method_155_code, 2, none, [], 1, 22)
abbrev M_Preconditions_checkIndex : MethodName × ByteArray × Nat × Option FieldType × List (Nat × Nat × Nat × Nat) × Nat × Nat := (⟨"jdk/internal/util/Preconditions", "checkIndex", "(IILjava/util/function/BiFunction;)I"⟩, prog_53_method_11_code, 3, (some FieldType.int), [], 0, 0)

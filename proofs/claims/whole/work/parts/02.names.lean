def RX0 : String := "SignCellar$Block"
def TX0 : u_T := fun k => match k with
  | 0 => ("SignCellar$Block", "signs", "LSignCellar$Row;", true)
  | 1 => ("SignCellar$Block", "sizes", "LSignCellar$Row;", true)
  | 2 => ("SignCellar$Block", "times", "LSignCellar$Row;", true)
  | _ => ("SignCellar$Block", "torn", "Z", false)
def tyX0 : Nat → FieldType := fun k => match k with
  | 0 => (.object "SignCellar$Row")
  | 1 => (.object "SignCellar$Row")
  | 2 => (.object "SignCellar$Row")
  | _ => .boolean
theorem nmX0 : ∀ a, a < 4 → ∀ b, b < 4 → a ≠ b → (TX0 a).2.1 ≠ (TX0 b).2.1 := by decide +kernel
theorem tyX0_ok : ∀ k, k < 4 → parseFieldDescriptor (TX0 k).2.2.1 = some (tyX0 k) := by decide +kernel
def RX1 : String := "SignCellar$Choice"
def TX1 : u_T := fun k => match k with
  | 0 => ("SignCellar$Choice", "sizes", "LSignCellar$Row;", true)
  | 1 => ("SignCellar$Choice", "times", "LSignCellar$Row;", true)
  | 2 => ("SignCellar$Choice", "least", "[[I", true)
  | 3 => ("SignCellar$Choice", "kinds", "LSignCellar$Row;", true)
  | 4 => ("SignCellar$Choice", "allSize", "I", false)
  | _ => ("SignCellar$Choice", "allTime", "I", false)
def tyX1 : Nat → FieldType := fun k => match k with
  | 0 => (.object "SignCellar$Row")
  | 1 => (.object "SignCellar$Row")
  | 2 => (.array (.array .int))
  | 3 => (.object "SignCellar$Row")
  | 4 => .int
  | _ => .int
theorem nmX1 : ∀ a, a < 6 → ∀ b, b < 6 → a ≠ b → (TX1 a).2.1 ≠ (TX1 b).2.1 := by decide +kernel
theorem tyX1_ok : ∀ k, k < 6 → parseFieldDescriptor (TX1 k).2.2.1 = some (tyX1 k) := by decide +kernel
def RX2 : String := "SignCellar$Mates"
def TX2 : u_T := fun k => match k with
  | 0 => ("SignCellar$Mates", "least", "[I", true)
  | 1 => ("SignCellar$Mates", "first", "[I", true)
  | 2 => ("SignCellar$Mates", "nearest", "[I", true)
  | _ => ("SignCellar$Mates", "pieces", "LSignCellar$Row;", true)
def tyX2 : Nat → FieldType := fun k => match k with
  | 0 => (.array .int)
  | 1 => (.array .int)
  | 2 => (.array .int)
  | _ => (.object "SignCellar$Row")
theorem nmX2 : ∀ a, a < 4 → ∀ b, b < 4 → a ≠ b → (TX2 a).2.1 ≠ (TX2 b).2.1 := by decide +kernel
theorem tyX2_ok : ∀ k, k < 4 → parseFieldDescriptor (TX2 k).2.2.1 = some (tyX2 k) := by decide +kernel
def RX3 : String := "SignCellar$Odds"
def TX3 : u_T := fun k => match k with
  | 0 => ("SignCellar$Odds", "odds", "[I", true)
  | 1 => ("SignCellar$Odds", "bits", "LSignCellar$Row;", true)
  | 2 => ("SignCellar$Odds", "low", "I", false)
  | 3 => ("SignCellar$Odds", "high", "I", false)
  | _ => ("SignCellar$Odds", "putOff", "I", false)
def tyX3 : Nat → FieldType := fun k => match k with
  | 0 => (.array .int)
  | 1 => (.object "SignCellar$Row")
  | 2 => .int
  | 3 => .int
  | _ => .int
theorem nmX3 : ∀ a, a < 5 → ∀ b, b < 5 → a ≠ b → (TX3 a).2.1 ≠ (TX3 b).2.1 := by decide +kernel
theorem tyX3_ok : ∀ k, k < 5 → parseFieldDescriptor (TX3 k).2.2.1 = some (tyX3 k) := by decide +kernel
def RX4 : String := "SignCellar$Row"
def TX4 : u_T := fun k => match k with
  | 0 => ("SignCellar$Row", "items", "[I", true)
  | _ => ("SignCellar$Row", "length", "I", false)
def tyX4 : Nat → FieldType := fun k => match k with
  | 0 => (.array .int)
  | _ => .int
theorem nmX4 : ∀ a, a < 2 → ∀ b, b < 2 → a ≠ b → (TX4 a).2.1 ≠ (TX4 b).2.1 := by decide +kernel
theorem tyX4_ok : ∀ k, k < 2 → parseFieldDescriptor (TX4 k).2.2.1 = some (tyX4 k) := by decide +kernel
def RX5 : String := "SignCellar$Rules"
def TX5 : u_T := fun k => match k with
  | 0 => ("SignCellar$Rules", "row", "LSignCellar$Row;", true)
  | 1 => ("SignCellar$Rules", "parts", "[LSignCellar$Row;", true)
  | 2 => ("SignCellar$Rules", "spare", "LSignCellar$Row;", true)
  | 3 => ("SignCellar$Rules", "grown", "I", false)
  | 4 => ("SignCellar$Rules", "former", "I", false)
  | _ => ("SignCellar$Rules", "latter", "I", false)
def tyX5 : Nat → FieldType := fun k => match k with
  | 0 => (.object "SignCellar$Row")
  | 1 => (.array (.object "SignCellar$Row"))
  | 2 => (.object "SignCellar$Row")
  | 3 => .int
  | 4 => .int
  | _ => .int
theorem nmX5 : ∀ a, a < 6 → ∀ b, b < 6 → a ≠ b → (TX5 a).2.1 ≠ (TX5 b).2.1 := by decide +kernel
theorem tyX5_ok : ∀ k, k < 6 → parseFieldDescriptor (TX5 k).2.2.1 = some (tyX5 k) := by decide +kernel
def RX6 : String := "SignCellar$Turns"
def TX6 : u_T := fun k => match k with
  | 0 => ("SignCellar$Turns", "starts", "[I", true)
  | 1 => ("SignCellar$Turns", "front", "[I", true)
  | 2 => ("SignCellar$Turns", "lasts", "LSignCellar$Row;", true)
  | 3 => ("SignCellar$Turns", "places", "LSignCellar$Row;", true)
  | _ => ("SignCellar$Turns", "end", "I", false)
def tyX6 : Nat → FieldType := fun k => match k with
  | 0 => (.array .int)
  | 1 => (.array .int)
  | 2 => (.object "SignCellar$Row")
  | 3 => (.object "SignCellar$Row")
  | _ => .int
theorem nmX6 : ∀ a, a < 5 → ∀ b, b < 5 → a ≠ b → (TX6 a).2.1 ≠ (TX6 b).2.1 := by decide +kernel
theorem tyX6_ok : ∀ k, k < 5 → parseFieldDescriptor (TX6 k).2.2.1 = some (tyX6 k) := by decide +kernel
def RX7 : String := "SignCellar$Version"
def TX7 : u_T := fun k => match k with
  | 0 => ("SignCellar$Version", "row", "LSignCellar$Row;", true)
  | 1 => ("SignCellar$Version", "parent", "I", true)
  | 2 => ("SignCellar$Version", "fresh", "I", true)
  | 3 => ("SignCellar$Version", "signs", "I", false)
  | 4 => ("SignCellar$Version", "plainSums", "LSignCellar$Row;", true)
  | _ => ("SignCellar$Version", "timesSums", "LSignCellar$Row;", true)
def tyX7 : Nat → FieldType := fun k => match k with
  | 0 => (.object "SignCellar$Row")
  | 1 => .int
  | 2 => .int
  | 3 => .int
  | 4 => (.object "SignCellar$Row")
  | _ => (.object "SignCellar$Row")
theorem nmX7 : ∀ a, a < 6 → ∀ b, b < 6 → a ≠ b → (TX7 a).2.1 ≠ (TX7 b).2.1 := by decide +kernel
theorem tyX7_ok : ∀ k, k < 6 → parseFieldDescriptor (TX7 k).2.2.1 = some (tyX7 k) := by decide +kernel
def RX8 : String := "SignCellar"
def TX8 : u_T := fun k => match k with
  | 0 => ("SignCellar", "draft", "LSignCellar$Row;", true)
  | 1 => ("SignCellar", "pattern", "LSignCellar$Row;", true)
  | 2 => ("SignCellar", "blocks", "[LSignCellar$Block;", true)
  | 3 => ("SignCellar", "blockCount", "I", false)
  | 4 => ("SignCellar", "versions", "[LSignCellar$Version;", true)
  | 5 => ("SignCellar", "versionCount", "I", false)
  | 6 => ("SignCellar", "planned", "LSignCellar$Row;", true)
  | 7 => ("SignCellar", "plannedNew", "I", false)
  | 8 => ("SignCellar", "spelled", "LSignCellar$Row;", true)
  | 9 => ("SignCellar", "opened", "LSignCellar$Row;", true)
  | 10 => ("SignCellar", "common", "[[I", true)
  | 11 => ("SignCellar", "mates", "LSignCellar$Mates;", true)
  | 12 => ("SignCellar", "rules", "LSignCellar$Rules;", true)
  | 13 => ("SignCellar", "odds", "LSignCellar$Odds;", true)
  | 14 => ("SignCellar", "turns", "LSignCellar$Turns;", true)
  | _ => ("SignCellar", "choice", "LSignCellar$Choice;", true)
def tyX8 : Nat → FieldType := fun k => match k with
  | 0 => (.object "SignCellar$Row")
  | 1 => (.object "SignCellar$Row")
  | 2 => (.array (.object "SignCellar$Block"))
  | 3 => .int
  | 4 => (.array (.object "SignCellar$Version"))
  | 5 => .int
  | 6 => (.object "SignCellar$Row")
  | 7 => .int
  | 8 => (.object "SignCellar$Row")
  | 9 => (.object "SignCellar$Row")
  | 10 => (.array (.array .int))
  | 11 => (.object "SignCellar$Mates")
  | 12 => (.object "SignCellar$Rules")
  | 13 => (.object "SignCellar$Odds")
  | 14 => (.object "SignCellar$Turns")
  | _ => (.object "SignCellar$Choice")
theorem nmX8 : ∀ a, a < 16 → ∀ b, b < 16 → a ≠ b → (TX8 a).2.1 ≠ (TX8 b).2.1 := by decide +kernel
theorem tyX8_ok : ∀ k, k < 16 → parseFieldDescriptor (TX8 k).2.2.1 = some (tyX8 k) := by decide +kernel
def RX9 : String := "SignCellarModel"
def TX9 : u_T := fun k => match k with
  | 0 => ("SignCellarModel", "drafts", "I", false)
  | 1 => ("SignCellarModel", "draft", "[I", true)
  | 2 => ("SignCellarModel", "blocks", "I", false)
  | 3 => ("SignCellarModel", "sizeOf", "[I", true)
  | 4 => ("SignCellarModel", "signs", "[I", true)
  | 5 => ("SignCellarModel", "isTorn", "[Z", true)
  | 6 => ("SignCellarModel", "versions", "I", false)
  | 7 => ("SignCellarModel", "rowSize", "[I", true)
  | 8 => ("SignCellarModel", "row", "[I", true)
  | 9 => ("SignCellarModel", "madeOf", "[I", true)
  | 10 => ("SignCellarModel", "fresh", "[I", true)
  | 11 => ("SignCellarModel", "firstSums", "[I", true)
  | 12 => ("SignCellarModel", "secondSums", "[I", true)
  | 13 => ("SignCellarModel", "next", "[I", true)
  | 14 => ("SignCellarModel", "nextSize", "I", false)
  | 15 => ("SignCellarModel", "newRow", "[I", true)
  | 16 => ("SignCellarModel", "newSize", "I", false)
  | 17 => ("SignCellarModel", "newFresh", "I", false)
  | 18 => ("SignCellarModel", "foundBlock", "I", false)
  | 19 => ("SignCellarModel", "foundAt", "I", false)
  | 20 => ("SignCellarModel", "leastFrom", "[I", true)
  | 21 => ("SignCellarModel", "cuts", "[I", true)
  | 22 => ("SignCellarModel", "cutMany", "I", false)
  | 23 => ("SignCellarModel", "piece", "[I", true)
  | 24 => ("SignCellarModel", "pieces", "I", false)
  | 25 => ("SignCellarModel", "ruleMany", "I", false)
  | 26 => ("SignCellarModel", "ruleSize", "[I", true)
  | 27 => ("SignCellarModel", "rulePiece", "[I", true)
  | 28 => ("SignCellarModel", "bits", "[I", true)
  | 29 => ("SignCellarModel", "bitMany", "I", false)
  | 30 => ("SignCellarModel", "putOff", "I", false)
  | 31 => ("SignCellarModel", "turn", "[I", true)
  | 32 => ("SignCellarModel", "lastSign", "[I", true)
  | 33 => ("SignCellarModel", "placeOf", "[I", true)
  | 34 => ("SignCellarModel", "front", "[I", true)
  | 35 => ("SignCellarModel", "endAt", "I", false)
  | 36 => ("SignCellarModel", "bestSize", "[I", true)
  | 37 => ("SignCellarModel", "eachSize", "[I", true)
  | 38 => ("SignCellarModel", "eachTime", "[I", true)
  | 39 => ("SignCellarModel", "sets", "I", false)
  | 40 => ("SignCellarModel", "set", "[I", true)
  | _ => ("SignCellarModel", "far", "[I", true)
def tyX9 : Nat → FieldType := fun k => match k with
  | 0 => .int
  | 1 => (.array .int)
  | 2 => .int
  | 3 => (.array .int)
  | 4 => (.array .int)
  | 5 => (.array .boolean)
  | 6 => .int
  | 7 => (.array .int)
  | 8 => (.array .int)
  | 9 => (.array .int)
  | 10 => (.array .int)
  | 11 => (.array .int)
  | 12 => (.array .int)
  | 13 => (.array .int)
  | 14 => .int
  | 15 => (.array .int)
  | 16 => .int
  | 17 => .int
  | 18 => .int
  | 19 => .int
  | 20 => (.array .int)
  | 21 => (.array .int)
  | 22 => .int
  | 23 => (.array .int)
  | 24 => .int
  | 25 => .int
  | 26 => (.array .int)
  | 27 => (.array .int)
  | 28 => (.array .int)
  | 29 => .int
  | 30 => .int
  | 31 => (.array .int)
  | 32 => (.array .int)
  | 33 => (.array .int)
  | 34 => (.array .int)
  | 35 => .int
  | 36 => (.array .int)
  | 37 => (.array .int)
  | 38 => (.array .int)
  | 39 => .int
  | 40 => (.array .int)
  | _ => (.array .int)
theorem nmX9 : ∀ a, a < 42 → ∀ b, b < 42 → a ≠ b → (TX9 a).2.1 ≠ (TX9 b).2.1 := by decide +kernel
theorem tyX9_ok : ∀ k, k < 42 → parseFieldDescriptor (TX9 k).2.2.1 = some (tyX9 k) := by decide +kernel
def am_cl : List vw_C := [(RX0, TX0, 4), (RX1, TX1, 6), (RX2, TX2, 4), (RX3, TX3, 5), (RX4, TX4, 2), (RX5, TX5, 6), (RX6, TX6, 5), (RX7, TX7, 6), (RX8, TX8, 16), (RX9, TX9, 42)]
def am_isO : Cond → Bool
  | .fieldLinkNest .. => true
  | .methodLinkNest .. => true
  | .arrayOver (.object _) => true
  | .arrayOver (.array _) => true
  | _ => false
def am_ts : List Cond := lw_tbl.filter (fun w => goodWord w || am_isO w)
theorem am_in_1 {w : Cond} (h : w ∈ tables_1_1) (hg : (goodWord w || am_isO w) = true) : w ∈ am_ts := List.mem_filter.mpr ⟨List.mem_append_right _ (show w ∈ tables_1_1 ++ (tables_1_2 ++ (tables_1_3 ++ (tables_1_4 ++ (tables_1_5 ++ tables_1_6)))) from List.mem_append_left _ h), hg⟩
theorem am_in_2 {w : Cond} (h : w ∈ tables_1_2) (hg : (goodWord w || am_isO w) = true) : w ∈ am_ts := List.mem_filter.mpr ⟨List.mem_append_right _ (show w ∈ tables_1_1 ++ (tables_1_2 ++ (tables_1_3 ++ (tables_1_4 ++ (tables_1_5 ++ tables_1_6)))) from List.mem_append_right _ (List.mem_append_left _ h)), hg⟩
theorem am_in_3 {w : Cond} (h : w ∈ tables_1_3) (hg : (goodWord w || am_isO w) = true) : w ∈ am_ts := List.mem_filter.mpr ⟨List.mem_append_right _ (show w ∈ tables_1_1 ++ (tables_1_2 ++ (tables_1_3 ++ (tables_1_4 ++ (tables_1_5 ++ tables_1_6)))) from List.mem_append_right _ (List.mem_append_right _ (List.mem_append_left _ h))), hg⟩
theorem am_in_4 {w : Cond} (h : w ∈ tables_1_4) (hg : (goodWord w || am_isO w) = true) : w ∈ am_ts := List.mem_filter.mpr ⟨List.mem_append_right _ (show w ∈ tables_1_1 ++ (tables_1_2 ++ (tables_1_3 ++ (tables_1_4 ++ (tables_1_5 ++ tables_1_6)))) from List.mem_append_right _ (List.mem_append_right _ (List.mem_append_right _ (List.mem_append_left _ h)))), hg⟩
theorem am_in_5 {w : Cond} (h : w ∈ tables_1_5) (hg : (goodWord w || am_isO w) = true) : w ∈ am_ts := List.mem_filter.mpr ⟨List.mem_append_right _ (show w ∈ tables_1_1 ++ (tables_1_2 ++ (tables_1_3 ++ (tables_1_4 ++ (tables_1_5 ++ tables_1_6)))) from List.mem_append_right _ (List.mem_append_right _ (List.mem_append_right _ (List.mem_append_right _ (List.mem_append_left _ h))))), hg⟩
theorem am_in_6 {w : Cond} (h : w ∈ tables_1_6) (hg : (goodWord w || am_isO w) = true) : w ∈ am_ts := List.mem_filter.mpr ⟨List.mem_append_right _ (show w ∈ tables_1_1 ++ (tables_1_2 ++ (tables_1_3 ++ (tables_1_4 ++ (tables_1_5 ++ tables_1_6)))) from List.mem_append_right _ (List.mem_append_right _ (List.mem_append_right _ (List.mem_append_right _ (List.mem_append_right _ (h)))))), hg⟩
theorem am_in_p {q : MethodName × Nat} (h : q ∈ lw_privs) : Cond.selects q.1.cls q.1 q.1 ∈ am_ts := List.mem_filter.mpr ⟨List.mem_append_left _ (List.mem_map.mpr ⟨q, h, rfl⟩), rfl⟩
theorem wd_1_0 : (Jvm.Cond.initialized "SignCellarLaw") ∈ am_ts := am_in_1 (List.mem_of_getElem? (i := 0) rfl) rfl
theorem wd_1_1 : (Jvm.Cond.initialized "SignCellar") ∈ am_ts := am_in_1 (List.mem_of_getElem? (i := 1) rfl) rfl
theorem wd_1_2 : (Jvm.Cond.initialized "SignCellar$Row") ∈ am_ts := am_in_1 (List.mem_of_getElem? (i := 2) rfl) rfl
theorem wd_1_3 : (Jvm.Cond.initialized "java/lang/Math") ∈ am_ts := am_in_1 (List.mem_of_getElem? (i := 3) rfl) rfl
theorem wd_1_4 : (Jvm.Cond.initialized "SignCellar$Mates") ∈ am_ts := am_in_1 (List.mem_of_getElem? (i := 4) rfl) rfl
theorem wd_1_5 : (Jvm.Cond.initialized "SignCellar$Rules") ∈ am_ts := am_in_1 (List.mem_of_getElem? (i := 5) rfl) rfl
theorem wd_1_6 : (Jvm.Cond.initialized "SignCellar$Odds") ∈ am_ts := am_in_1 (List.mem_of_getElem? (i := 6) rfl) rfl
theorem wd_1_7 : (Jvm.Cond.initialized "SignCellar$Turns") ∈ am_ts := am_in_1 (List.mem_of_getElem? (i := 7) rfl) rfl
theorem wd_1_8 : (Jvm.Cond.initialized "SignCellar$Choice") ∈ am_ts := am_in_1 (List.mem_of_getElem? (i := 8) rfl) rfl
theorem wd_1_9 : (Jvm.Cond.initialized "SignCellarModel") ∈ am_ts := am_in_1 (List.mem_of_getElem? (i := 9) rfl) rfl
theorem wd_1_10 : (Jvm.Cond.initialized "SignCellar$Block") ∈ am_ts := am_in_1 (List.mem_of_getElem? (i := 10) rfl) rfl
theorem wd_1_11 : (Jvm.Cond.initialized "SignCellar$Version") ∈ am_ts := am_in_1 (List.mem_of_getElem? (i := 11) rfl) rfl
theorem wd_1_12 : (Jvm.Cond.initialized "java/util/Arrays") ∈ am_ts := am_in_1 (List.mem_of_getElem? (i := 12) rfl) rfl
theorem wd_1_13 : (Jvm.Cond.classLink "SignCellarLaw" (7 : Nat) "SignCellar") ∈ am_ts := am_in_1 (List.mem_of_getElem? (i := 13) rfl) rfl
theorem wd_1_14 : (Jvm.Cond.instantiable "SignCellar" (16 : Nat)) ∈ am_ts := am_in_1 (List.mem_of_getElem? (i := 14) rfl) rfl
theorem wd_1_15 : (Jvm.Cond.methodLink "SignCellarLaw" (9 : Nat) ({ cls := "SignCellar", name := "<init>", desc := "()V" } : Jvm.MethodName)) ∈ am_ts := am_in_1 (List.mem_of_getElem? (i := 15) rfl) rfl
theorem wd_1_16 : (Jvm.Cond.instanceMethod ({ cls := "SignCellar", name := "<init>", desc := "()V" } : Jvm.MethodName)) ∈ am_ts := am_in_1 (List.mem_of_getElem? (i := 16) rfl) rfl
theorem wd_1_17 : (Jvm.Cond.code ({ cls := "SignCellar", name := "<init>", desc := "()V" } : Jvm.MethodName) prog_1_method_1_code (1 : Nat) (Option.none : Option Jvm.ClassFile.FieldType)) ∈ am_ts := am_in_1 (List.mem_of_getElem? (i := 17) rfl) rfl
theorem wd_1_18 : (Jvm.Cond.methodLink "SignCellar" (1 : Nat) ({ cls := "java/lang/Object", name := "<init>", desc := "()V" } : Jvm.MethodName)) ∈ am_ts := am_in_1 (List.mem_of_getElem? (i := 18) rfl) rfl
theorem wd_1_19 : (Jvm.Cond.instanceMethod ({ cls := "java/lang/Object", name := "<init>", desc := "()V" } : Jvm.MethodName)) ∈ am_ts := am_in_1 (List.mem_of_getElem? (i := 19) rfl) rfl
theorem wd_1_20 : (Jvm.Cond.code ({ cls := "java/lang/Object", name := "<init>", desc := "()V" } : Jvm.MethodName) object_method_1_code (1 : Nat) (Option.none : Option Jvm.ClassFile.FieldType)) ∈ am_ts := am_in_1 (List.mem_of_getElem? (i := 20) rfl) rfl
theorem wd_1_21 : (Jvm.Cond.classLink "SignCellar" (7 : Nat) "SignCellar$Row") ∈ am_ts := am_in_1 (List.mem_of_getElem? (i := 21) rfl) rfl
theorem wd_1_22 : (Jvm.Cond.instantiable "SignCellar$Row" (2 : Nat)) ∈ am_ts := am_in_1 (List.mem_of_getElem? (i := 22) rfl) rfl
theorem wd_1_23 : (Jvm.Cond.methodLink "SignCellar" (11 : Nat) ({ cls := "SignCellar$Row", name := "<init>", desc := "(I)V" } : Jvm.MethodName)) ∈ am_ts := am_in_1 (List.mem_of_getElem? (i := 23) rfl) rfl
theorem wd_1_24 : (Jvm.Cond.instanceMethod ({ cls := "SignCellar$Row", name := "<init>", desc := "(I)V" } : Jvm.MethodName)) ∈ am_ts := am_in_1 (List.mem_of_getElem? (i := 24) rfl) rfl
theorem wd_1_25 : (Jvm.Cond.code ({ cls := "SignCellar$Row", name := "<init>", desc := "(I)V" } : Jvm.MethodName) prog_6_method_1_code (2 : Nat) (Option.none : Option Jvm.ClassFile.FieldType)) ∈ am_ts := am_in_1 (List.mem_of_getElem? (i := 25) rfl) rfl
theorem wd_1_26 : (Jvm.Cond.methodLink "SignCellar$Row" (3 : Nat) ({ cls := "java/lang/Object", name := "<init>", desc := "()V" } : Jvm.MethodName)) ∈ am_ts := am_in_1 (List.mem_of_getElem? (i := 26) rfl) rfl
theorem wd_1_27 : (Jvm.Cond.methodLink "SignCellar$Row" (15 : Nat) ({ cls := "java/lang/Math", name := "max", desc := "(II)I" } : Jvm.MethodName)) ∈ am_ts := am_in_1 (List.mem_of_getElem? (i := 27) rfl) rfl
theorem wd_1_28 : (Jvm.Cond.static ({ cls := "java/lang/Math", name := "max", desc := "(II)I" } : Jvm.MethodName)) ∈ am_ts := am_in_1 (List.mem_of_getElem? (i := 28) rfl) rfl
theorem wd_1_29 : (Jvm.Cond.code ({ cls := "java/lang/Math", name := "max", desc := "(II)I" } : Jvm.MethodName) prog_12_method_65_code (2 : Nat) (Option.some Jvm.ClassFile.FieldType.int)) ∈ am_ts := am_in_1 (List.mem_of_getElem? (i := 29) rfl) rfl
theorem wd_1_30 : (Jvm.Cond.fieldLink "SignCellar$Row" (21 : Nat) "SignCellar$Row" "items" "[I") ∈ am_ts := am_in_1 (List.mem_of_getElem? (i := 30) rfl) rfl
theorem wd_1_31 : (Jvm.Cond.fieldLink "SignCellar$Row" (9 : Nat) "SignCellar$Row" "length" "I") ∈ am_ts := am_in_1 (List.mem_of_getElem? (i := 31) rfl) rfl
theorem wd_1_32 : (Jvm.Cond.laysFinal "SignCellar$Row" "SignCellar$Row" "items" "[I") ∈ am_ts := am_in_1 (List.mem_of_getElem? (i := 32) rfl) rfl
theorem wd_1_34 : (Jvm.Cond.lays "SignCellar$Row" "SignCellar$Row" "length" "I") ∈ am_ts := am_in_1 (List.mem_of_getElem? (i := 34) rfl) rfl
theorem wd_1_37 : (Jvm.Cond.arrayClass Jvm.ClassFile.FieldType.int) ∈ am_ts := am_in_1 (List.mem_of_getElem? (i := 37) rfl) rfl
theorem wd_1_38 : (Jvm.Cond.classLink "SignCellar" (21 : Nat) "SignCellar$Block") ∈ am_ts := am_in_1 (List.mem_of_getElem? (i := 38) rfl) rfl
theorem wd_1_39 : (Jvm.Cond.arrayOver (Jvm.ClassFile.FieldType.object "SignCellar$Block")) ∈ am_ts := am_in_1 (List.mem_of_getElem? (i := 39) rfl) rfl
theorem wd_1_40 : (Jvm.Cond.classLink "SignCellar" (31 : Nat) "SignCellar$Version") ∈ am_ts := am_in_1 (List.mem_of_getElem? (i := 40) rfl) rfl
theorem wd_1_41 : (Jvm.Cond.arrayOver (Jvm.ClassFile.FieldType.object "SignCellar$Version")) ∈ am_ts := am_in_1 (List.mem_of_getElem? (i := 41) rfl) rfl
theorem wd_1_42 : (Jvm.Cond.classLink "SignCellar" (52 : Nat) "[[I") ∈ am_ts := am_in_1 (List.mem_of_getElem? (i := 42) rfl) rfl
theorem wd_1_43 : (Jvm.Cond.arrayOver (Jvm.ClassFile.FieldType.array Jvm.ClassFile.FieldType.int)) ∈ am_ts := am_in_1 (List.mem_of_getElem? (i := 43) rfl) rfl
theorem wd_1_44 : (Jvm.Cond.classLink "SignCellar" (57 : Nat) "SignCellar$Mates") ∈ am_ts := am_in_1 (List.mem_of_getElem? (i := 44) rfl) rfl
theorem wd_1_45 : (Jvm.Cond.instantiable "SignCellar$Mates" (4 : Nat)) ∈ am_ts := am_in_1 (List.mem_of_getElem? (i := 45) rfl) rfl
theorem wd_1_46 : (Jvm.Cond.methodLinkNest "SignCellar" (59 : Nat) ({ cls := "SignCellar$Mates", name := "<init>", desc := "()V" } : Jvm.MethodName) "SignCellar") ∈ am_ts := am_in_1 (List.mem_of_getElem? (i := 46) rfl) rfl
theorem wd_1_47 : (Jvm.Cond.instanceMethod ({ cls := "SignCellar$Mates", name := "<init>", desc := "()V" } : Jvm.MethodName)) ∈ am_ts := am_in_1 (List.mem_of_getElem? (i := 47) rfl) rfl
theorem wd_1_48 : (Jvm.Cond.code ({ cls := "SignCellar$Mates", name := "<init>", desc := "()V" } : Jvm.MethodName) prog_4_method_1_code (1 : Nat) (Option.none : Option Jvm.ClassFile.FieldType)) ∈ am_ts := am_in_1 (List.mem_of_getElem? (i := 48) rfl) rfl
theorem wd_1_49 : (Jvm.Cond.methodLink "SignCellar$Mates" (3 : Nat) ({ cls := "java/lang/Object", name := "<init>", desc := "()V" } : Jvm.MethodName)) ∈ am_ts := am_in_1 (List.mem_of_getElem? (i := 49) rfl) rfl
theorem wd_1_50 : (Jvm.Cond.classLink "SignCellar$Mates" (21 : Nat) "SignCellar$Row") ∈ am_ts := am_in_1 (List.mem_of_getElem? (i := 50) rfl) rfl
theorem wd_1_51 : (Jvm.Cond.methodLink "SignCellar$Mates" (23 : Nat) ({ cls := "SignCellar$Row", name := "<init>", desc := "(I)V" } : Jvm.MethodName)) ∈ am_ts := am_in_1 (List.mem_of_getElem? (i := 51) rfl) rfl
theorem wd_1_52 : (Jvm.Cond.fieldLink "SignCellar$Mates" (9 : Nat) "SignCellar$Mates" "least" "[I") ∈ am_ts := am_in_1 (List.mem_of_getElem? (i := 52) rfl) rfl
theorem wd_1_53 : (Jvm.Cond.fieldLink "SignCellar$Mates" (15 : Nat) "SignCellar$Mates" "first" "[I") ∈ am_ts := am_in_1 (List.mem_of_getElem? (i := 53) rfl) rfl
theorem wd_1_54 : (Jvm.Cond.fieldLink "SignCellar$Mates" (18 : Nat) "SignCellar$Mates" "nearest" "[I") ∈ am_ts := am_in_1 (List.mem_of_getElem? (i := 54) rfl) rfl
theorem wd_1_55 : (Jvm.Cond.fieldLink "SignCellar$Mates" (26 : Nat) "SignCellar$Mates" "pieces" "LSignCellar$Row;") ∈ am_ts := am_in_1 (List.mem_of_getElem? (i := 55) rfl) rfl
theorem wd_1_56 : (Jvm.Cond.fieldLinkNest "SignCellar" (222 : Nat) "SignCellar$Mates" "pieces" "LSignCellar$Row;" "SignCellar") ∈ am_ts := am_in_1 (List.mem_of_getElem? (i := 56) rfl) rfl
theorem wd_1_57 : (Jvm.Cond.laysFinal "SignCellar$Mates" "SignCellar$Mates" "least" "[I") ∈ am_ts := am_in_1 (List.mem_of_getElem? (i := 57) rfl) rfl
theorem wd_1_59 : (Jvm.Cond.laysFinal "SignCellar$Mates" "SignCellar$Mates" "first" "[I") ∈ am_ts := am_in_1 (List.mem_of_getElem? (i := 59) rfl) rfl
theorem wd_1_61 : (Jvm.Cond.laysFinal "SignCellar$Mates" "SignCellar$Mates" "nearest" "[I") ∈ am_ts := am_in_1 (List.mem_of_getElem? (i := 61) rfl) rfl
theorem wd_1_63 : (Jvm.Cond.laysFinal "SignCellar$Mates" "SignCellar$Mates" "pieces" "LSignCellar$Row;") ∈ am_ts := am_in_1 (List.mem_of_getElem? (i := 63) rfl) rfl
theorem wd_1_66 : (Jvm.Cond.classLink "SignCellar" (64 : Nat) "SignCellar$Rules") ∈ am_ts := am_in_1 (List.mem_of_getElem? (i := 66) rfl) rfl
theorem wd_1_67 : (Jvm.Cond.instantiable "SignCellar$Rules" (6 : Nat)) ∈ am_ts := am_in_1 (List.mem_of_getElem? (i := 67) rfl) rfl
theorem wd_1_68 : (Jvm.Cond.methodLink "SignCellar" (66 : Nat) ({ cls := "SignCellar$Rules", name := "<init>", desc := "()V" } : Jvm.MethodName)) ∈ am_ts := am_in_1 (List.mem_of_getElem? (i := 68) rfl) rfl
theorem wd_1_69 : (Jvm.Cond.instanceMethod ({ cls := "SignCellar$Rules", name := "<init>", desc := "()V" } : Jvm.MethodName)) ∈ am_ts := am_in_1 (List.mem_of_getElem? (i := 69) rfl) rfl
theorem wd_1_70 : (Jvm.Cond.code ({ cls := "SignCellar$Rules", name := "<init>", desc := "()V" } : Jvm.MethodName) prog_7_method_1_code (2 : Nat) (Option.none : Option Jvm.ClassFile.FieldType)) ∈ am_ts := am_in_1 (List.mem_of_getElem? (i := 70) rfl) rfl
theorem wd_1_71 : (Jvm.Cond.methodLink "SignCellar$Rules" (3 : Nat) ({ cls := "java/lang/Object", name := "<init>", desc := "()V" } : Jvm.MethodName)) ∈ am_ts := am_in_1 (List.mem_of_getElem? (i := 71) rfl) rfl
theorem wd_1_72 : (Jvm.Cond.classLink "SignCellar$Rules" (9 : Nat) "SignCellar$Row") ∈ am_ts := am_in_1 (List.mem_of_getElem? (i := 72) rfl) rfl
theorem wd_1_73 : (Jvm.Cond.methodLink "SignCellar$Rules" (11 : Nat) ({ cls := "SignCellar$Row", name := "<init>", desc := "(I)V" } : Jvm.MethodName)) ∈ am_ts := am_in_1 (List.mem_of_getElem? (i := 73) rfl) rfl
theorem wd_1_74 : (Jvm.Cond.arrayOver (Jvm.ClassFile.FieldType.object "SignCellar$Row")) ∈ am_ts := am_in_1 (List.mem_of_getElem? (i := 74) rfl) rfl
theorem wd_1_75 : (Jvm.Cond.fieldLink "SignCellar$Rules" (14 : Nat) "SignCellar$Rules" "row" "LSignCellar$Row;") ∈ am_ts := am_in_1 (List.mem_of_getElem? (i := 75) rfl) rfl
theorem wd_1_76 : (Jvm.Cond.fieldLinkNest "SignCellar" (226 : Nat) "SignCellar$Rules" "row" "LSignCellar$Row;" "SignCellar") ∈ am_ts := am_in_1 (List.mem_of_getElem? (i := 76) rfl) rfl
theorem wd_1_77 : (Jvm.Cond.fieldLink "SignCellar$Rules" (20 : Nat) "SignCellar$Rules" "parts" "[LSignCellar$Row;") ∈ am_ts := am_in_1 (List.mem_of_getElem? (i := 77) rfl) rfl
theorem wd_1_78 : (Jvm.Cond.fieldLink "SignCellar$Rules" (24 : Nat) "SignCellar$Rules" "spare" "LSignCellar$Row;") ∈ am_ts := am_in_1 (List.mem_of_getElem? (i := 78) rfl) rfl
theorem wd_1_79 : (Jvm.Cond.fieldLink "SignCellar$Rules" (27 : Nat) "SignCellar$Rules" "grown" "I") ∈ am_ts := am_in_1 (List.mem_of_getElem? (i := 79) rfl) rfl
theorem wd_1_80 : (Jvm.Cond.fieldLinkNest "SignCellar" (230 : Nat) "SignCellar$Rules" "grown" "I" "SignCellar") ∈ am_ts := am_in_1 (List.mem_of_getElem? (i := 80) rfl) rfl
theorem wd_1_81 : (Jvm.Cond.fieldLink "SignCellar$Rules" (31 : Nat) "SignCellar$Rules" "former" "I") ∈ am_ts := am_in_1 (List.mem_of_getElem? (i := 81) rfl) rfl
theorem wd_1_82 : (Jvm.Cond.fieldLink "SignCellar$Rules" (34 : Nat) "SignCellar$Rules" "latter" "I") ∈ am_ts := am_in_1 (List.mem_of_getElem? (i := 82) rfl) rfl
theorem wd_1_83 : (Jvm.Cond.laysFinal "SignCellar$Rules" "SignCellar$Rules" "row" "LSignCellar$Row;") ∈ am_ts := am_in_1 (List.mem_of_getElem? (i := 83) rfl) rfl
theorem wd_1_85 : (Jvm.Cond.laysFinal "SignCellar$Rules" "SignCellar$Rules" "parts" "[LSignCellar$Row;") ∈ am_ts := am_in_1 (List.mem_of_getElem? (i := 85) rfl) rfl
theorem wd_1_87 : (Jvm.Cond.laysFinal "SignCellar$Rules" "SignCellar$Rules" "spare" "LSignCellar$Row;") ∈ am_ts := am_in_1 (List.mem_of_getElem? (i := 87) rfl) rfl
theorem wd_1_89 : (Jvm.Cond.lays "SignCellar$Rules" "SignCellar$Rules" "grown" "I") ∈ am_ts := am_in_1 (List.mem_of_getElem? (i := 89) rfl) rfl
theorem wd_1_91 : (Jvm.Cond.lays "SignCellar$Rules" "SignCellar$Rules" "former" "I") ∈ am_ts := am_in_1 (List.mem_of_getElem? (i := 91) rfl) rfl
theorem wd_1_93 : (Jvm.Cond.lays "SignCellar$Rules" "SignCellar$Rules" "latter" "I") ∈ am_ts := am_in_1 (List.mem_of_getElem? (i := 93) rfl) rfl
theorem wd_1_96 : (Jvm.Cond.classLink "SignCellar" (71 : Nat) "SignCellar$Odds") ∈ am_ts := am_in_1 (List.mem_of_getElem? (i := 96) rfl) rfl
theorem wd_1_97 : (Jvm.Cond.instantiable "SignCellar$Odds" (5 : Nat)) ∈ am_ts := am_in_1 (List.mem_of_getElem? (i := 97) rfl) rfl
theorem wd_1_98 : (Jvm.Cond.methodLinkNest "SignCellar" (73 : Nat) ({ cls := "SignCellar$Odds", name := "<init>", desc := "()V" } : Jvm.MethodName) "SignCellar") ∈ am_ts := am_in_1 (List.mem_of_getElem? (i := 98) rfl) rfl
theorem wd_1_99 : (Jvm.Cond.instanceMethod ({ cls := "SignCellar$Odds", name := "<init>", desc := "()V" } : Jvm.MethodName)) ∈ am_ts := am_in_1 (List.mem_of_getElem? (i := 99) rfl) rfl
theorem wd_1_100 : (Jvm.Cond.code ({ cls := "SignCellar$Odds", name := "<init>", desc := "()V" } : Jvm.MethodName) prog_5_method_1_code (1 : Nat) (Option.none : Option Jvm.ClassFile.FieldType)) ∈ am_ts := am_in_1 (List.mem_of_getElem? (i := 100) rfl) rfl
theorem wd_1_101 : (Jvm.Cond.methodLink "SignCellar$Odds" (3 : Nat) ({ cls := "java/lang/Object", name := "<init>", desc := "()V" } : Jvm.MethodName)) ∈ am_ts := am_in_1 (List.mem_of_getElem? (i := 101) rfl) rfl
theorem wd_1_102 : (Jvm.Cond.classLink "SignCellar$Odds" (15 : Nat) "SignCellar$Row") ∈ am_ts := am_in_1 (List.mem_of_getElem? (i := 102) rfl) rfl
theorem wd_1_103 : (Jvm.Cond.methodLink "SignCellar$Odds" (17 : Nat) ({ cls := "SignCellar$Row", name := "<init>", desc := "(I)V" } : Jvm.MethodName)) ∈ am_ts := am_in_1 (List.mem_of_getElem? (i := 103) rfl) rfl
theorem wd_1_104 : (Jvm.Cond.constant "SignCellar$Odds" (28 : Nat) (65535 : Int32)) ∈ am_ts := am_in_1 (List.mem_of_getElem? (i := 104) rfl) rfl
theorem wd_1_105 : (Jvm.Cond.fieldLink "SignCellar$Odds" (9 : Nat) "SignCellar$Odds" "odds" "[I") ∈ am_ts := am_in_1 (List.mem_of_getElem? (i := 105) rfl) rfl
theorem wd_1_106 : (Jvm.Cond.fieldLink "SignCellar$Odds" (20 : Nat) "SignCellar$Odds" "bits" "LSignCellar$Row;") ∈ am_ts := am_in_1 (List.mem_of_getElem? (i := 106) rfl) rfl
theorem wd_1_107 : (Jvm.Cond.fieldLinkNest "SignCellar" (240 : Nat) "SignCellar$Odds" "bits" "LSignCellar$Row;" "SignCellar") ∈ am_ts := am_in_1 (List.mem_of_getElem? (i := 107) rfl) rfl
theorem wd_1_108 : (Jvm.Cond.fieldLink "SignCellar$Odds" (24 : Nat) "SignCellar$Odds" "low" "I") ∈ am_ts := am_in_1 (List.mem_of_getElem? (i := 108) rfl) rfl
theorem wd_1_109 : (Jvm.Cond.fieldLink "SignCellar$Odds" (29 : Nat) "SignCellar$Odds" "high" "I") ∈ am_ts := am_in_1 (List.mem_of_getElem? (i := 109) rfl) rfl
theorem wd_1_110 : (Jvm.Cond.fieldLink "SignCellar$Odds" (32 : Nat) "SignCellar$Odds" "putOff" "I") ∈ am_ts := am_in_1 (List.mem_of_getElem? (i := 110) rfl) rfl
theorem wd_1_111 : (Jvm.Cond.laysFinal "SignCellar$Odds" "SignCellar$Odds" "odds" "[I") ∈ am_ts := am_in_1 (List.mem_of_getElem? (i := 111) rfl) rfl
theorem wd_1_113 : (Jvm.Cond.laysFinal "SignCellar$Odds" "SignCellar$Odds" "bits" "LSignCellar$Row;") ∈ am_ts := am_in_1 (List.mem_of_getElem? (i := 113) rfl) rfl
theorem wd_1_115 : (Jvm.Cond.lays "SignCellar$Odds" "SignCellar$Odds" "low" "I") ∈ am_ts := am_in_1 (List.mem_of_getElem? (i := 115) rfl) rfl
theorem wd_1_117 : (Jvm.Cond.lays "SignCellar$Odds" "SignCellar$Odds" "high" "I") ∈ am_ts := am_in_1 (List.mem_of_getElem? (i := 117) rfl) rfl
theorem wd_1_119 : (Jvm.Cond.lays "SignCellar$Odds" "SignCellar$Odds" "putOff" "I") ∈ am_ts := am_in_1 (List.mem_of_getElem? (i := 119) rfl) rfl
theorem wd_1_122 : (Jvm.Cond.classLink "SignCellar" (78 : Nat) "SignCellar$Turns") ∈ am_ts := am_in_1 (List.mem_of_getElem? (i := 122) rfl) rfl
theorem wd_1_123 : (Jvm.Cond.instantiable "SignCellar$Turns" (5 : Nat)) ∈ am_ts := am_in_1 (List.mem_of_getElem? (i := 123) rfl) rfl
theorem wd_1_124 : (Jvm.Cond.methodLinkNest "SignCellar" (80 : Nat) ({ cls := "SignCellar$Turns", name := "<init>", desc := "()V" } : Jvm.MethodName) "SignCellar") ∈ am_ts := am_in_1 (List.mem_of_getElem? (i := 124) rfl) rfl
theorem wd_1_125 : (Jvm.Cond.instanceMethod ({ cls := "SignCellar$Turns", name := "<init>", desc := "()V" } : Jvm.MethodName)) ∈ am_ts := am_in_1 (List.mem_of_getElem? (i := 125) rfl) rfl
theorem wd_1_126 : (Jvm.Cond.code ({ cls := "SignCellar$Turns", name := "<init>", desc := "()V" } : Jvm.MethodName) prog_8_method_1_code (1 : Nat) (Option.none : Option Jvm.ClassFile.FieldType)) ∈ am_ts := am_in_1 (List.mem_of_getElem? (i := 126) rfl) rfl
theorem wd_1_127 : (Jvm.Cond.methodLink "SignCellar$Turns" (3 : Nat) ({ cls := "java/lang/Object", name := "<init>", desc := "()V" } : Jvm.MethodName)) ∈ am_ts := am_in_1 (List.mem_of_getElem? (i := 127) rfl) rfl
theorem wd_1_128 : (Jvm.Cond.classLink "SignCellar$Turns" (18 : Nat) "SignCellar$Row") ∈ am_ts := am_in_1 (List.mem_of_getElem? (i := 128) rfl) rfl
theorem wd_1_129 : (Jvm.Cond.methodLink "SignCellar$Turns" (20 : Nat) ({ cls := "SignCellar$Row", name := "<init>", desc := "(I)V" } : Jvm.MethodName)) ∈ am_ts := am_in_1 (List.mem_of_getElem? (i := 129) rfl) rfl
theorem wd_1_130 : (Jvm.Cond.fieldLink "SignCellar$Turns" (9 : Nat) "SignCellar$Turns" "starts" "[I") ∈ am_ts := am_in_1 (List.mem_of_getElem? (i := 130) rfl) rfl
theorem wd_1_131 : (Jvm.Cond.fieldLink "SignCellar$Turns" (15 : Nat) "SignCellar$Turns" "front" "[I") ∈ am_ts := am_in_1 (List.mem_of_getElem? (i := 131) rfl) rfl
theorem wd_1_132 : (Jvm.Cond.fieldLink "SignCellar$Turns" (23 : Nat) "SignCellar$Turns" "lasts" "LSignCellar$Row;") ∈ am_ts := am_in_1 (List.mem_of_getElem? (i := 132) rfl) rfl
theorem wd_1_133 : (Jvm.Cond.fieldLinkNest "SignCellar" (247 : Nat) "SignCellar$Turns" "lasts" "LSignCellar$Row;" "SignCellar") ∈ am_ts := am_in_1 (List.mem_of_getElem? (i := 133) rfl) rfl
theorem wd_1_134 : (Jvm.Cond.fieldLink "SignCellar$Turns" (27 : Nat) "SignCellar$Turns" "places" "LSignCellar$Row;") ∈ am_ts := am_in_1 (List.mem_of_getElem? (i := 134) rfl) rfl
theorem wd_1_135 : (Jvm.Cond.fieldLinkNest "SignCellar" (250 : Nat) "SignCellar$Turns" "places" "LSignCellar$Row;" "SignCellar") ∈ am_ts := am_in_1 (List.mem_of_getElem? (i := 135) rfl) rfl
theorem wd_1_136 : (Jvm.Cond.fieldLink "SignCellar$Turns" (30 : Nat) "SignCellar$Turns" "end" "I") ∈ am_ts := am_in_1 (List.mem_of_getElem? (i := 136) rfl) rfl
theorem wd_1_137 : (Jvm.Cond.fieldLinkNest "SignCellar" (244 : Nat) "SignCellar$Turns" "end" "I" "SignCellar") ∈ am_ts := am_in_1 (List.mem_of_getElem? (i := 137) rfl) rfl
theorem wd_1_138 : (Jvm.Cond.laysFinal "SignCellar$Turns" "SignCellar$Turns" "starts" "[I") ∈ am_ts := am_in_1 (List.mem_of_getElem? (i := 138) rfl) rfl
theorem wd_1_140 : (Jvm.Cond.laysFinal "SignCellar$Turns" "SignCellar$Turns" "front" "[I") ∈ am_ts := am_in_1 (List.mem_of_getElem? (i := 140) rfl) rfl
theorem wd_1_142 : (Jvm.Cond.laysFinal "SignCellar$Turns" "SignCellar$Turns" "lasts" "LSignCellar$Row;") ∈ am_ts := am_in_1 (List.mem_of_getElem? (i := 142) rfl) rfl
theorem wd_1_144 : (Jvm.Cond.laysFinal "SignCellar$Turns" "SignCellar$Turns" "places" "LSignCellar$Row;") ∈ am_ts := am_in_1 (List.mem_of_getElem? (i := 144) rfl) rfl
theorem wd_1_146 : (Jvm.Cond.lays "SignCellar$Turns" "SignCellar$Turns" "end" "I") ∈ am_ts := am_in_1 (List.mem_of_getElem? (i := 146) rfl) rfl
theorem wd_1_149 : (Jvm.Cond.classLink "SignCellar" (85 : Nat) "SignCellar$Choice") ∈ am_ts := am_in_1 (List.mem_of_getElem? (i := 149) rfl) rfl
theorem wd_1_150 : (Jvm.Cond.instantiable "SignCellar$Choice" (6 : Nat)) ∈ am_ts := am_in_1 (List.mem_of_getElem? (i := 150) rfl) rfl
theorem wd_1_151 : (Jvm.Cond.methodLinkNest "SignCellar" (87 : Nat) ({ cls := "SignCellar$Choice", name := "<init>", desc := "()V" } : Jvm.MethodName) "SignCellar") ∈ am_ts := am_in_1 (List.mem_of_getElem? (i := 151) rfl) rfl
theorem wd_1_152 : (Jvm.Cond.instanceMethod ({ cls := "SignCellar$Choice", name := "<init>", desc := "()V" } : Jvm.MethodName)) ∈ am_ts := am_in_1 (List.mem_of_getElem? (i := 152) rfl) rfl
theorem wd_1_153 : (Jvm.Cond.code ({ cls := "SignCellar$Choice", name := "<init>", desc := "()V" } : Jvm.MethodName) prog_3_method_1_code (1 : Nat) (Option.none : Option Jvm.ClassFile.FieldType)) ∈ am_ts := am_in_1 (List.mem_of_getElem? (i := 153) rfl) rfl
theorem wd_1_154 : (Jvm.Cond.methodLink "SignCellar$Choice" (3 : Nat) ({ cls := "java/lang/Object", name := "<init>", desc := "()V" } : Jvm.MethodName)) ∈ am_ts := am_in_1 (List.mem_of_getElem? (i := 154) rfl) rfl
theorem wd_1_155 : (Jvm.Cond.classLink "SignCellar$Choice" (9 : Nat) "SignCellar$Row") ∈ am_ts := am_in_1 (List.mem_of_getElem? (i := 155) rfl) rfl
theorem wd_1_156 : (Jvm.Cond.methodLink "SignCellar$Choice" (11 : Nat) ({ cls := "SignCellar$Row", name := "<init>", desc := "(I)V" } : Jvm.MethodName)) ∈ am_ts := am_in_1 (List.mem_of_getElem? (i := 156) rfl) rfl
theorem wd_1_157 : (Jvm.Cond.classLink "SignCellar$Choice" (23 : Nat) "[[I") ∈ am_ts := am_in_1 (List.mem_of_getElem? (i := 157) rfl) rfl
theorem wd_1_158 : (Jvm.Cond.fieldLink "SignCellar$Choice" (14 : Nat) "SignCellar$Choice" "sizes" "LSignCellar$Row;") ∈ am_ts := am_in_1 (List.mem_of_getElem? (i := 158) rfl) rfl
theorem wd_1_159 : (Jvm.Cond.fieldLink "SignCellar$Choice" (20 : Nat) "SignCellar$Choice" "times" "LSignCellar$Row;") ∈ am_ts := am_in_1 (List.mem_of_getElem? (i := 159) rfl) rfl
theorem wd_1_160 : (Jvm.Cond.fieldLink "SignCellar$Choice" (25 : Nat) "SignCellar$Choice" "least" "[[I") ∈ am_ts := am_in_1 (List.mem_of_getElem? (i := 160) rfl) rfl
theorem wd_1_161 : (Jvm.Cond.fieldLink "SignCellar$Choice" (28 : Nat) "SignCellar$Choice" "kinds" "LSignCellar$Row;") ∈ am_ts := am_in_1 (List.mem_of_getElem? (i := 161) rfl) rfl
theorem wd_1_162 : (Jvm.Cond.fieldLinkNest "SignCellar" (268 : Nat) "SignCellar$Choice" "kinds" "LSignCellar$Row;" "SignCellar") ∈ am_ts := am_in_1 (List.mem_of_getElem? (i := 162) rfl) rfl
theorem wd_1_163 : (Jvm.Cond.fieldLink "SignCellar$Choice" (31 : Nat) "SignCellar$Choice" "allSize" "I") ∈ am_ts := am_in_1 (List.mem_of_getElem? (i := 163) rfl) rfl
theorem wd_1_164 : (Jvm.Cond.fieldLinkNest "SignCellar" (262 : Nat) "SignCellar$Choice" "allSize" "I" "SignCellar") ∈ am_ts := am_in_1 (List.mem_of_getElem? (i := 164) rfl) rfl
theorem wd_1_165 : (Jvm.Cond.fieldLink "SignCellar$Choice" (35 : Nat) "SignCellar$Choice" "allTime" "I") ∈ am_ts := am_in_1 (List.mem_of_getElem? (i := 165) rfl) rfl
theorem wd_1_166 : (Jvm.Cond.fieldLinkNest "SignCellar" (265 : Nat) "SignCellar$Choice" "allTime" "I" "SignCellar") ∈ am_ts := am_in_1 (List.mem_of_getElem? (i := 166) rfl) rfl
theorem wd_1_167 : (Jvm.Cond.laysFinal "SignCellar$Choice" "SignCellar$Choice" "sizes" "LSignCellar$Row;") ∈ am_ts := am_in_1 (List.mem_of_getElem? (i := 167) rfl) rfl
theorem wd_1_169 : (Jvm.Cond.laysFinal "SignCellar$Choice" "SignCellar$Choice" "times" "LSignCellar$Row;") ∈ am_ts := am_in_1 (List.mem_of_getElem? (i := 169) rfl) rfl
theorem wd_1_171 : (Jvm.Cond.laysFinal "SignCellar$Choice" "SignCellar$Choice" "least" "[[I") ∈ am_ts := am_in_1 (List.mem_of_getElem? (i := 171) rfl) rfl
theorem wd_1_173 : (Jvm.Cond.laysFinal "SignCellar$Choice" "SignCellar$Choice" "kinds" "LSignCellar$Row;") ∈ am_ts := am_in_1 (List.mem_of_getElem? (i := 173) rfl) rfl
theorem wd_1_175 : (Jvm.Cond.lays "SignCellar$Choice" "SignCellar$Choice" "allSize" "I") ∈ am_ts := am_in_1 (List.mem_of_getElem? (i := 175) rfl) rfl
theorem wd_1_177 : (Jvm.Cond.lays "SignCellar$Choice" "SignCellar$Choice" "allTime" "I") ∈ am_ts := am_in_1 (List.mem_of_getElem? (i := 177) rfl) rfl
theorem wd_1_180 : (Jvm.Cond.fieldLink "SignCellar" (14 : Nat) "SignCellar" "draft" "LSignCellar$Row;") ∈ am_ts := am_in_1 (List.mem_of_getElem? (i := 180) rfl) rfl
theorem wd_1_181 : (Jvm.Cond.fieldLink "SignCellar" (18 : Nat) "SignCellar" "pattern" "LSignCellar$Row;") ∈ am_ts := am_in_1 (List.mem_of_getElem? (i := 181) rfl) rfl
theorem wd_1_182 : (Jvm.Cond.fieldLink "SignCellar" (23 : Nat) "SignCellar" "blocks" "[LSignCellar$Block;") ∈ am_ts := am_in_1 (List.mem_of_getElem? (i := 182) rfl) rfl
theorem wd_1_183 : (Jvm.Cond.fieldLink "SignCellar" (27 : Nat) "SignCellar" "blockCount" "I") ∈ am_ts := am_in_1 (List.mem_of_getElem? (i := 183) rfl) rfl
theorem wd_1_184 : (Jvm.Cond.fieldLink "SignCellar" (33 : Nat) "SignCellar" "versions" "[LSignCellar$Version;") ∈ am_ts := am_in_1 (List.mem_of_getElem? (i := 184) rfl) rfl
theorem wd_1_185 : (Jvm.Cond.fieldLink "SignCellar" (37 : Nat) "SignCellar" "versionCount" "I") ∈ am_ts := am_in_1 (List.mem_of_getElem? (i := 185) rfl) rfl
theorem wd_1_186 : (Jvm.Cond.fieldLink "SignCellar" (40 : Nat) "SignCellar" "planned" "LSignCellar$Row;") ∈ am_ts := am_in_1 (List.mem_of_getElem? (i := 186) rfl) rfl
theorem wd_1_187 : (Jvm.Cond.fieldLink "SignCellar" (43 : Nat) "SignCellar" "plannedNew" "I") ∈ am_ts := am_in_1 (List.mem_of_getElem? (i := 187) rfl) rfl
theorem wd_1_188 : (Jvm.Cond.fieldLink "SignCellar" (46 : Nat) "SignCellar" "spelled" "LSignCellar$Row;") ∈ am_ts := am_in_1 (List.mem_of_getElem? (i := 188) rfl) rfl
theorem wd_1_189 : (Jvm.Cond.fieldLink "SignCellar" (49 : Nat) "SignCellar" "opened" "LSignCellar$Row;") ∈ am_ts := am_in_1 (List.mem_of_getElem? (i := 189) rfl) rfl
theorem wd_1_190 : (Jvm.Cond.fieldLink "SignCellar" (54 : Nat) "SignCellar" "common" "[[I") ∈ am_ts := am_in_1 (List.mem_of_getElem? (i := 190) rfl) rfl
theorem wd_1_191 : (Jvm.Cond.fieldLink "SignCellar" (60 : Nat) "SignCellar" "mates" "LSignCellar$Mates;") ∈ am_ts := am_in_1 (List.mem_of_getElem? (i := 191) rfl) rfl
theorem wd_1_192 : (Jvm.Cond.fieldLink "SignCellar" (67 : Nat) "SignCellar" "rules" "LSignCellar$Rules;") ∈ am_ts := am_in_1 (List.mem_of_getElem? (i := 192) rfl) rfl
theorem wd_1_193 : (Jvm.Cond.fieldLink "SignCellar" (74 : Nat) "SignCellar" "odds" "LSignCellar$Odds;") ∈ am_ts := am_in_1 (List.mem_of_getElem? (i := 193) rfl) rfl
theorem wd_1_194 : (Jvm.Cond.fieldLink "SignCellar" (81 : Nat) "SignCellar" "turns" "LSignCellar$Turns;") ∈ am_ts := am_in_1 (List.mem_of_getElem? (i := 194) rfl) rfl
theorem wd_1_195 : (Jvm.Cond.fieldLink "SignCellar" (88 : Nat) "SignCellar" "choice" "LSignCellar$Choice;") ∈ am_ts := am_in_1 (List.mem_of_getElem? (i := 195) rfl) rfl
theorem wd_1_196 : (Jvm.Cond.laysFinal "SignCellar" "SignCellar" "draft" "LSignCellar$Row;") ∈ am_ts := am_in_1 (List.mem_of_getElem? (i := 196) rfl) rfl
theorem wd_1_198 : (Jvm.Cond.laysFinal "SignCellar" "SignCellar" "pattern" "LSignCellar$Row;") ∈ am_ts := am_in_1 (List.mem_of_getElem? (i := 198) rfl) rfl
theorem wd_1_200 : (Jvm.Cond.laysFinal "SignCellar" "SignCellar" "blocks" "[LSignCellar$Block;") ∈ am_ts := am_in_1 (List.mem_of_getElem? (i := 200) rfl) rfl
theorem wd_1_202 : (Jvm.Cond.lays "SignCellar" "SignCellar" "blockCount" "I") ∈ am_ts := am_in_1 (List.mem_of_getElem? (i := 202) rfl) rfl
theorem wd_1_204 : (Jvm.Cond.laysFinal "SignCellar" "SignCellar" "versions" "[LSignCellar$Version;") ∈ am_ts := am_in_1 (List.mem_of_getElem? (i := 204) rfl) rfl
theorem wd_1_206 : (Jvm.Cond.lays "SignCellar" "SignCellar" "versionCount" "I") ∈ am_ts := am_in_1 (List.mem_of_getElem? (i := 206) rfl) rfl
theorem wd_1_208 : (Jvm.Cond.laysFinal "SignCellar" "SignCellar" "planned" "LSignCellar$Row;") ∈ am_ts := am_in_1 (List.mem_of_getElem? (i := 208) rfl) rfl
theorem wd_1_210 : (Jvm.Cond.lays "SignCellar" "SignCellar" "plannedNew" "I") ∈ am_ts := am_in_1 (List.mem_of_getElem? (i := 210) rfl) rfl
theorem wd_1_212 : (Jvm.Cond.laysFinal "SignCellar" "SignCellar" "spelled" "LSignCellar$Row;") ∈ am_ts := am_in_1 (List.mem_of_getElem? (i := 212) rfl) rfl
theorem wd_1_214 : (Jvm.Cond.laysFinal "SignCellar" "SignCellar" "opened" "LSignCellar$Row;") ∈ am_ts := am_in_1 (List.mem_of_getElem? (i := 214) rfl) rfl
theorem wd_1_216 : (Jvm.Cond.laysFinal "SignCellar" "SignCellar" "common" "[[I") ∈ am_ts := am_in_1 (List.mem_of_getElem? (i := 216) rfl) rfl
theorem wd_1_218 : (Jvm.Cond.laysFinal "SignCellar" "SignCellar" "mates" "LSignCellar$Mates;") ∈ am_ts := am_in_1 (List.mem_of_getElem? (i := 218) rfl) rfl
theorem wd_1_220 : (Jvm.Cond.laysFinal "SignCellar" "SignCellar" "rules" "LSignCellar$Rules;") ∈ am_ts := am_in_1 (List.mem_of_getElem? (i := 220) rfl) rfl
theorem wd_1_222 : (Jvm.Cond.laysFinal "SignCellar" "SignCellar" "odds" "LSignCellar$Odds;") ∈ am_ts := am_in_1 (List.mem_of_getElem? (i := 222) rfl) rfl
theorem wd_1_224 : (Jvm.Cond.laysFinal "SignCellar" "SignCellar" "turns" "LSignCellar$Turns;") ∈ am_ts := am_in_1 (List.mem_of_getElem? (i := 224) rfl) rfl
theorem wd_1_226 : (Jvm.Cond.laysFinal "SignCellar" "SignCellar" "choice" "LSignCellar$Choice;") ∈ am_ts := am_in_1 (List.mem_of_getElem? (i := 226) rfl) rfl
theorem wd_1_229 : (Jvm.Cond.methodLink "SignCellarLaw" (15 : Nat) ({ cls := "SignCellar", name := "feed", desc := "(IJ)I" } : Jvm.MethodName)) ∈ am_ts := am_in_1 (List.mem_of_getElem? (i := 229) rfl) rfl
theorem wd_1_230 : (Jvm.Cond.instanceMethod ({ cls := "SignCellar", name := "feed", desc := "(IJ)I" } : Jvm.MethodName)) ∈ am_ts := am_in_1 (List.mem_of_getElem? (i := 230) rfl) rfl
theorem wd_1_231 : (Jvm.Cond.selects "SignCellar" ({ cls := "SignCellar", name := "feed", desc := "(IJ)I" } : Jvm.MethodName) ({ cls := "SignCellar", name := "feed", desc := "(IJ)I" } : Jvm.MethodName)) ∈ am_ts := am_in_1 (List.mem_of_getElem? (i := 231) rfl) rfl
theorem wd_1_232 : (Jvm.Cond.code ({ cls := "SignCellar", name := "feed", desc := "(IJ)I" } : Jvm.MethodName) prog_1_method_2_code (5 : Nat) (Option.some Jvm.ClassFile.FieldType.int)) ∈ am_ts := am_in_1 (List.mem_of_getElem? (i := 232) rfl) rfl
theorem wd_1_233 : (Jvm.Cond.constant "SignCellar" (92 : Nat) (-100002 : Int32)) ∈ am_ts := am_in_1 (List.mem_of_getElem? (i := 233) rfl) rfl
theorem wd_1_234 : (Jvm.Cond.methodLink "SignCellar" (93 : Nat) ({ cls := "SignCellar$Row", name := "length", desc := "()I" } : Jvm.MethodName)) ∈ am_ts := am_in_1 (List.mem_of_getElem? (i := 234) rfl) rfl
theorem wd_1_235 : (Jvm.Cond.instanceMethod ({ cls := "SignCellar$Row", name := "length", desc := "()I" } : Jvm.MethodName)) ∈ am_ts := am_in_1 (List.mem_of_getElem? (i := 235) rfl) rfl
theorem wd_1_236 : (Jvm.Cond.selects "SignCellar$Row" ({ cls := "SignCellar$Row", name := "length", desc := "()I" } : Jvm.MethodName) ({ cls := "SignCellar$Row", name := "length", desc := "()I" } : Jvm.MethodName)) ∈ am_ts := am_in_1 (List.mem_of_getElem? (i := 236) rfl) rfl
theorem wd_1_237 : (Jvm.Cond.code ({ cls := "SignCellar$Row", name := "length", desc := "()I" } : Jvm.MethodName) prog_6_method_2_code (1 : Nat) (Option.some Jvm.ClassFile.FieldType.int)) ∈ am_ts := am_in_1 (List.mem_of_getElem? (i := 237) rfl) rfl
theorem wd_1_238 : (Jvm.Cond.constant "SignCellar" (97 : Nat) (-100004 : Int32)) ∈ am_ts := am_in_1 (List.mem_of_getElem? (i := 238) rfl) rfl
theorem wd_1_239 : (Jvm.Cond.methodLink "SignCellar" (98 : Nat) ({ cls := "SignCellar$Row", name := "add", desc := "(I)V" } : Jvm.MethodName)) ∈ am_ts := am_in_1 (List.mem_of_getElem? (i := 239) rfl) rfl
theorem wd_2_0 : (Jvm.Cond.instanceMethod ({ cls := "SignCellar$Row", name := "add", desc := "(I)V" } : Jvm.MethodName)) ∈ am_ts := am_in_2 (List.mem_of_getElem? (i := 0) rfl) rfl
theorem wd_2_1 : (Jvm.Cond.selects "SignCellar$Row" ({ cls := "SignCellar$Row", name := "add", desc := "(I)V" } : Jvm.MethodName) ({ cls := "SignCellar$Row", name := "add", desc := "(I)V" } : Jvm.MethodName)) ∈ am_ts := am_in_2 (List.mem_of_getElem? (i := 1) rfl) rfl
theorem wd_2_2 : (Jvm.Cond.code ({ cls := "SignCellar$Row", name := "add", desc := "(I)V" } : Jvm.MethodName) prog_6_method_5_code (2 : Nat) (Option.none : Option Jvm.ClassFile.FieldType)) ∈ am_ts := am_in_2 (List.mem_of_getElem? (i := 2) rfl) rfl
theorem wd_2_3 : (Jvm.Cond.methodLink "SignCellarLaw" (20 : Nat) ({ cls := "SignCellar", name := "make", desc := "()I" } : Jvm.MethodName)) ∈ am_ts := am_in_2 (List.mem_of_getElem? (i := 3) rfl) rfl
theorem wd_2_4 : (Jvm.Cond.instanceMethod ({ cls := "SignCellar", name := "make", desc := "()I" } : Jvm.MethodName)) ∈ am_ts := am_in_2 (List.mem_of_getElem? (i := 4) rfl) rfl
theorem wd_2_5 : (Jvm.Cond.selects "SignCellar" ({ cls := "SignCellar", name := "make", desc := "()I" } : Jvm.MethodName) ({ cls := "SignCellar", name := "make", desc := "()I" } : Jvm.MethodName)) ∈ am_ts := am_in_2 (List.mem_of_getElem? (i := 5) rfl) rfl
theorem wd_2_6 : (Jvm.Cond.code ({ cls := "SignCellar", name := "make", desc := "()I" } : Jvm.MethodName) prog_1_method_3_code (3 : Nat) (Option.some Jvm.ClassFile.FieldType.int)) ∈ am_ts := am_in_2 (List.mem_of_getElem? (i := 6) rfl) rfl
theorem wd_2_7 : (Jvm.Cond.constant "SignCellar" (101 : Nat) (-100003 : Int32)) ∈ am_ts := am_in_2 (List.mem_of_getElem? (i := 7) rfl) rfl
theorem wd_2_8 : (Jvm.Cond.methodLink "SignCellar" (102 : Nat) ({ cls := "SignCellar", name := "hasRoom", desc := "(I)Z" } : Jvm.MethodName)) ∈ am_ts := am_in_2 (List.mem_of_getElem? (i := 8) rfl) rfl
theorem wd_2_10 : (Jvm.Cond.instanceMethod ({ cls := "SignCellar", name := "hasRoom", desc := "(I)Z" } : Jvm.MethodName)) ∈ am_ts := am_in_2 (List.mem_of_getElem? (i := 10) rfl) rfl
theorem wd_2_11 : (Jvm.Cond.code ({ cls := "SignCellar", name := "hasRoom", desc := "(I)Z" } : Jvm.MethodName) prog_1_method_45_code (2 : Nat) (Option.some Jvm.ClassFile.FieldType.boolean)) ∈ am_ts := am_in_2 (List.mem_of_getElem? (i := 11) rfl) rfl
theorem wd_2_12 : (Jvm.Cond.methodLink "SignCellar" (106 : Nat) ({ cls := "SignCellar", name := "startPlan", desc := "()V" } : Jvm.MethodName)) ∈ am_ts := am_in_2 (List.mem_of_getElem? (i := 12) rfl) rfl
theorem wd_2_14 : (Jvm.Cond.instanceMethod ({ cls := "SignCellar", name := "startPlan", desc := "()V" } : Jvm.MethodName)) ∈ am_ts := am_in_2 (List.mem_of_getElem? (i := 14) rfl) rfl
theorem wd_2_15 : (Jvm.Cond.code ({ cls := "SignCellar", name := "startPlan", desc := "()V" } : Jvm.MethodName) prog_1_method_48_code (1 : Nat) (Option.none : Option Jvm.ClassFile.FieldType)) ∈ am_ts := am_in_2 (List.mem_of_getElem? (i := 15) rfl) rfl
theorem wd_2_16 : (Jvm.Cond.methodLink "SignCellar" (119 : Nat) ({ cls := "SignCellar$Row", name := "empty", desc := "()V" } : Jvm.MethodName)) ∈ am_ts := am_in_2 (List.mem_of_getElem? (i := 16) rfl) rfl
theorem wd_2_17 : (Jvm.Cond.instanceMethod ({ cls := "SignCellar$Row", name := "empty", desc := "()V" } : Jvm.MethodName)) ∈ am_ts := am_in_2 (List.mem_of_getElem? (i := 17) rfl) rfl
theorem wd_2_18 : (Jvm.Cond.selects "SignCellar$Row" ({ cls := "SignCellar$Row", name := "empty", desc := "()V" } : Jvm.MethodName) ({ cls := "SignCellar$Row", name := "empty", desc := "()V" } : Jvm.MethodName)) ∈ am_ts := am_in_2 (List.mem_of_getElem? (i := 18) rfl) rfl
theorem wd_2_19 : (Jvm.Cond.code ({ cls := "SignCellar$Row", name := "empty", desc := "()V" } : Jvm.MethodName) prog_6_method_6_code (1 : Nat) (Option.none : Option Jvm.ClassFile.FieldType)) ∈ am_ts := am_in_2 (List.mem_of_getElem? (i := 19) rfl) rfl
theorem wd_2_20 : (Jvm.Cond.methodLink "SignCellar" (109 : Nat) ({ cls := "java/lang/Math", name := "min", desc := "(II)I" } : Jvm.MethodName)) ∈ am_ts := am_in_2 (List.mem_of_getElem? (i := 20) rfl) rfl
theorem wd_2_21 : (Jvm.Cond.static ({ cls := "java/lang/Math", name := "min", desc := "(II)I" } : Jvm.MethodName)) ∈ am_ts := am_in_2 (List.mem_of_getElem? (i := 21) rfl) rfl
theorem wd_2_22 : (Jvm.Cond.code ({ cls := "java/lang/Math", name := "min", desc := "(II)I" } : Jvm.MethodName) prog_12_method_69_code (2 : Nat) (Option.some Jvm.ClassFile.FieldType.int)) ∈ am_ts := am_in_2 (List.mem_of_getElem? (i := 22) rfl) rfl
theorem wd_2_23 : (Jvm.Cond.methodLink "SignCellar" (115 : Nat) ({ cls := "SignCellar", name := "planBlock", desc := "(LSignCellar$Row;II)V" } : Jvm.MethodName)) ∈ am_ts := am_in_2 (List.mem_of_getElem? (i := 23) rfl) rfl
theorem wd_2_25 : (Jvm.Cond.instanceMethod ({ cls := "SignCellar", name := "planBlock", desc := "(LSignCellar$Row;II)V" } : Jvm.MethodName)) ∈ am_ts := am_in_2 (List.mem_of_getElem? (i := 25) rfl) rfl
theorem wd_2_26 : (Jvm.Cond.code ({ cls := "SignCellar", name := "planBlock", desc := "(LSignCellar$Row;II)V" } : Jvm.MethodName) prog_1_method_50_code (5 : Nat) (Option.none : Option Jvm.ClassFile.FieldType)) ∈ am_ts := am_in_2 (List.mem_of_getElem? (i := 26) rfl) rfl
theorem wd_2_27 : (Jvm.Cond.methodLink "SignCellar" (341 : Nat) ({ cls := "SignCellar", name := "blockLike", desc := "(LSignCellar$Row;II)I" } : Jvm.MethodName)) ∈ am_ts := am_in_2 (List.mem_of_getElem? (i := 27) rfl) rfl
theorem wd_2_29 : (Jvm.Cond.instanceMethod ({ cls := "SignCellar", name := "blockLike", desc := "(LSignCellar$Row;II)I" } : Jvm.MethodName)) ∈ am_ts := am_in_2 (List.mem_of_getElem? (i := 29) rfl) rfl
theorem wd_2_30 : (Jvm.Cond.code ({ cls := "SignCellar", name := "blockLike", desc := "(LSignCellar$Row;II)I" } : Jvm.MethodName) prog_1_method_51_code (6 : Nat) (Option.some Jvm.ClassFile.FieldType.int)) ∈ am_ts := am_in_2 (List.mem_of_getElem? (i := 30) rfl) rfl
theorem wd_2_31 : (Jvm.Cond.methodLink "SignCellar" (176 : Nat) ({ cls := "SignCellar", name := "blockOf", desc := "(I)LSignCellar$Block;" } : Jvm.MethodName)) ∈ am_ts := am_in_2 (List.mem_of_getElem? (i := 31) rfl) rfl
theorem wd_2_33 : (Jvm.Cond.instanceMethod ({ cls := "SignCellar", name := "blockOf", desc := "(I)LSignCellar$Block;" } : Jvm.MethodName)) ∈ am_ts := am_in_2 (List.mem_of_getElem? (i := 33) rfl) rfl
theorem wd_2_34 : (Jvm.Cond.code ({ cls := "SignCellar", name := "blockOf", desc := "(I)LSignCellar$Block;" } : Jvm.MethodName) prog_1_method_32_code (2 : Nat) (Option.some (Jvm.ClassFile.FieldType.object "SignCellar$Block"))) ∈ am_ts := am_in_2 (List.mem_of_getElem? (i := 34) rfl) rfl
theorem wd_2_35 : (Jvm.Cond.methodLink "SignCellar" (347 : Nat) ({ cls := "SignCellar$Row", name := "isPart", desc := "(LSignCellar$Row;II)Z" } : Jvm.MethodName)) ∈ am_ts := am_in_2 (List.mem_of_getElem? (i := 35) rfl) rfl
theorem wd_2_36 : (Jvm.Cond.instanceMethod ({ cls := "SignCellar$Row", name := "isPart", desc := "(LSignCellar$Row;II)Z" } : Jvm.MethodName)) ∈ am_ts := am_in_2 (List.mem_of_getElem? (i := 36) rfl) rfl
theorem wd_2_37 : (Jvm.Cond.selects "SignCellar$Row" ({ cls := "SignCellar$Row", name := "isPart", desc := "(LSignCellar$Row;II)Z" } : Jvm.MethodName) ({ cls := "SignCellar$Row", name := "isPart", desc := "(LSignCellar$Row;II)Z" } : Jvm.MethodName)) ∈ am_ts := am_in_2 (List.mem_of_getElem? (i := 37) rfl) rfl
theorem wd_2_38 : (Jvm.Cond.code ({ cls := "SignCellar$Row", name := "isPart", desc := "(LSignCellar$Row;II)Z" } : Jvm.MethodName) prog_6_method_9_code (5 : Nat) (Option.some Jvm.ClassFile.FieldType.boolean)) ∈ am_ts := am_in_2 (List.mem_of_getElem? (i := 38) rfl) rfl
theorem wd_2_39 : (Jvm.Cond.methodLink "SignCellar$Row" (25 : Nat) ({ cls := "SignCellar$Row", name := "at", desc := "(I)I" } : Jvm.MethodName)) ∈ am_ts := am_in_2 (List.mem_of_getElem? (i := 39) rfl) rfl
theorem wd_2_40 : (Jvm.Cond.instanceMethod ({ cls := "SignCellar$Row", name := "at", desc := "(I)I" } : Jvm.MethodName)) ∈ am_ts := am_in_2 (List.mem_of_getElem? (i := 40) rfl) rfl
theorem wd_2_41 : (Jvm.Cond.selects "SignCellar$Row" ({ cls := "SignCellar$Row", name := "at", desc := "(I)I" } : Jvm.MethodName) ({ cls := "SignCellar$Row", name := "at", desc := "(I)I" } : Jvm.MethodName)) ∈ am_ts := am_in_2 (List.mem_of_getElem? (i := 41) rfl) rfl
theorem wd_2_42 : (Jvm.Cond.code ({ cls := "SignCellar$Row", name := "at", desc := "(I)I" } : Jvm.MethodName) prog_6_method_3_code (2 : Nat) (Option.some Jvm.ClassFile.FieldType.int)) ∈ am_ts := am_in_2 (List.mem_of_getElem? (i := 42) rfl) rfl
theorem wd_2_43 : (Jvm.Cond.instantiable "SignCellar$Block" (4 : Nat)) ∈ am_ts := am_in_2 (List.mem_of_getElem? (i := 43) rfl) rfl
theorem wd_2_44 : (Jvm.Cond.methodLink "SignCellar" (345 : Nat) ({ cls := "SignCellar$Block", name := "<init>", desc := "(LSignCellar$Row;II)V" } : Jvm.MethodName)) ∈ am_ts := am_in_2 (List.mem_of_getElem? (i := 44) rfl) rfl
theorem wd_2_45 : (Jvm.Cond.instanceMethod ({ cls := "SignCellar$Block", name := "<init>", desc := "(LSignCellar$Row;II)V" } : Jvm.MethodName)) ∈ am_ts := am_in_2 (List.mem_of_getElem? (i := 45) rfl) rfl
theorem wd_2_46 : (Jvm.Cond.code ({ cls := "SignCellar$Block", name := "<init>", desc := "(LSignCellar$Row;II)V" } : Jvm.MethodName) prog_2_method_1_code (4 : Nat) (Option.none : Option Jvm.ClassFile.FieldType)) ∈ am_ts := am_in_2 (List.mem_of_getElem? (i := 46) rfl) rfl
theorem wd_2_47 : (Jvm.Cond.methodLink "SignCellar$Block" (3 : Nat) ({ cls := "java/lang/Object", name := "<init>", desc := "()V" } : Jvm.MethodName)) ∈ am_ts := am_in_2 (List.mem_of_getElem? (i := 47) rfl) rfl
theorem wd_2_48 : (Jvm.Cond.classLink "SignCellar$Block" (9 : Nat) "SignCellar$Row") ∈ am_ts := am_in_2 (List.mem_of_getElem? (i := 48) rfl) rfl
theorem wd_2_49 : (Jvm.Cond.methodLink "SignCellar$Block" (11 : Nat) ({ cls := "SignCellar$Row", name := "<init>", desc := "(I)V" } : Jvm.MethodName)) ∈ am_ts := am_in_2 (List.mem_of_getElem? (i := 49) rfl) rfl
theorem wd_2_50 : (Jvm.Cond.methodLink "SignCellar$Block" (30 : Nat) ({ cls := "SignCellar$Row", name := "addPart", desc := "(LSignCellar$Row;II)V" } : Jvm.MethodName)) ∈ am_ts := am_in_2 (List.mem_of_getElem? (i := 50) rfl) rfl
theorem wd_2_51 : (Jvm.Cond.instanceMethod ({ cls := "SignCellar$Row", name := "addPart", desc := "(LSignCellar$Row;II)V" } : Jvm.MethodName)) ∈ am_ts := am_in_2 (List.mem_of_getElem? (i := 51) rfl) rfl
theorem wd_2_52 : (Jvm.Cond.selects "SignCellar$Row" ({ cls := "SignCellar$Row", name := "addPart", desc := "(LSignCellar$Row;II)V" } : Jvm.MethodName) ({ cls := "SignCellar$Row", name := "addPart", desc := "(LSignCellar$Row;II)V" } : Jvm.MethodName)) ∈ am_ts := am_in_2 (List.mem_of_getElem? (i := 52) rfl) rfl
theorem wd_2_53 : (Jvm.Cond.code ({ cls := "SignCellar$Row", name := "addPart", desc := "(LSignCellar$Row;II)V" } : Jvm.MethodName) prog_6_method_7_code (5 : Nat) (Option.none : Option Jvm.ClassFile.FieldType)) ∈ am_ts := am_in_2 (List.mem_of_getElem? (i := 53) rfl) rfl
theorem wd_2_54 : (Jvm.Cond.methodLink "SignCellar$Row" (29 : Nat) ({ cls := "SignCellar$Row", name := "add", desc := "(I)V" } : Jvm.MethodName)) ∈ am_ts := am_in_2 (List.mem_of_getElem? (i := 54) rfl) rfl
theorem wd_2_55 : (Jvm.Cond.fieldLink "SignCellar$Block" (27 : Nat) "SignCellar$Block" "signs" "LSignCellar$Row;") ∈ am_ts := am_in_2 (List.mem_of_getElem? (i := 55) rfl) rfl
theorem wd_2_56 : (Jvm.Cond.fieldLinkNest "SignCellar" (180 : Nat) "SignCellar$Block" "signs" "LSignCellar$Row;" "SignCellar") ∈ am_ts := am_in_2 (List.mem_of_getElem? (i := 56) rfl) rfl
theorem wd_2_57 : (Jvm.Cond.fieldLink "SignCellar$Block" (14 : Nat) "SignCellar$Block" "sizes" "LSignCellar$Row;") ∈ am_ts := am_in_2 (List.mem_of_getElem? (i := 57) rfl) rfl
theorem wd_2_58 : (Jvm.Cond.fieldLinkNest "SignCellar$Choice" (41 : Nat) "SignCellar$Block" "sizes" "LSignCellar$Row;" "SignCellar") ∈ am_ts := am_in_2 (List.mem_of_getElem? (i := 58) rfl) rfl
theorem wd_2_59 : (Jvm.Cond.fieldLinkNest "SignCellar" (212 : Nat) "SignCellar$Block" "sizes" "LSignCellar$Row;" "SignCellar") ∈ am_ts := am_in_2 (List.mem_of_getElem? (i := 59) rfl) rfl
theorem wd_2_60 : (Jvm.Cond.fieldLink "SignCellar$Block" (20 : Nat) "SignCellar$Block" "times" "LSignCellar$Row;") ∈ am_ts := am_in_2 (List.mem_of_getElem? (i := 60) rfl) rfl
theorem wd_2_61 : (Jvm.Cond.fieldLinkNest "SignCellar$Choice" (48 : Nat) "SignCellar$Block" "times" "LSignCellar$Row;" "SignCellar") ∈ am_ts := am_in_2 (List.mem_of_getElem? (i := 61) rfl) rfl
theorem wd_2_62 : (Jvm.Cond.fieldLinkNest "SignCellar" (215 : Nat) "SignCellar$Block" "times" "LSignCellar$Row;" "SignCellar") ∈ am_ts := am_in_2 (List.mem_of_getElem? (i := 62) rfl) rfl
theorem wd_2_63 : (Jvm.Cond.fieldLink "SignCellar$Block" (23 : Nat) "SignCellar$Block" "torn" "Z") ∈ am_ts := am_in_2 (List.mem_of_getElem? (i := 63) rfl) rfl
theorem wd_2_64 : (Jvm.Cond.fieldLinkNest "SignCellar" (182 : Nat) "SignCellar$Block" "torn" "Z" "SignCellar") ∈ am_ts := am_in_2 (List.mem_of_getElem? (i := 64) rfl) rfl
theorem wd_2_65 : (Jvm.Cond.laysFinal "SignCellar$Block" "SignCellar$Block" "signs" "LSignCellar$Row;") ∈ am_ts := am_in_2 (List.mem_of_getElem? (i := 65) rfl) rfl
theorem wd_2_67 : (Jvm.Cond.laysFinal "SignCellar$Block" "SignCellar$Block" "sizes" "LSignCellar$Row;") ∈ am_ts := am_in_2 (List.mem_of_getElem? (i := 67) rfl) rfl
theorem wd_2_69 : (Jvm.Cond.laysFinal "SignCellar$Block" "SignCellar$Block" "times" "LSignCellar$Row;") ∈ am_ts := am_in_2 (List.mem_of_getElem? (i := 69) rfl) rfl
theorem wd_2_71 : (Jvm.Cond.lays "SignCellar$Block" "SignCellar$Block" "torn" "Z") ∈ am_ts := am_in_2 (List.mem_of_getElem? (i := 71) rfl) rfl
theorem wd_2_74 : (Jvm.Cond.methodLink "SignCellar" (122 : Nat) ({ cls := "SignCellar", name := "keepPlan", desc := "(I)I" } : Jvm.MethodName)) ∈ am_ts := am_in_2 (List.mem_of_getElem? (i := 74) rfl) rfl
theorem wd_2_76 : (Jvm.Cond.instanceMethod ({ cls := "SignCellar", name := "keepPlan", desc := "(I)I" } : Jvm.MethodName)) ∈ am_ts := am_in_2 (List.mem_of_getElem? (i := 76) rfl) rfl
theorem wd_2_77 : (Jvm.Cond.code ({ cls := "SignCellar", name := "keepPlan", desc := "(I)I" } : Jvm.MethodName) prog_1_method_52_code (5 : Nat) (Option.some Jvm.ClassFile.FieldType.int)) ∈ am_ts := am_in_2 (List.mem_of_getElem? (i := 77) rfl) rfl
theorem wd_2_78 : (Jvm.Cond.instantiable "SignCellar$Version" (6 : Nat)) ∈ am_ts := am_in_2 (List.mem_of_getElem? (i := 78) rfl) rfl
theorem wd_2_79 : (Jvm.Cond.methodLink "SignCellar" (351 : Nat) ({ cls := "SignCellar$Version", name := "<init>", desc := "(LSignCellar$Row;II)V" } : Jvm.MethodName)) ∈ am_ts := am_in_2 (List.mem_of_getElem? (i := 79) rfl) rfl
theorem wd_2_80 : (Jvm.Cond.instanceMethod ({ cls := "SignCellar$Version", name := "<init>", desc := "(LSignCellar$Row;II)V" } : Jvm.MethodName)) ∈ am_ts := am_in_2 (List.mem_of_getElem? (i := 80) rfl) rfl
theorem wd_2_81 : (Jvm.Cond.code ({ cls := "SignCellar$Version", name := "<init>", desc := "(LSignCellar$Row;II)V" } : Jvm.MethodName) prog_9_method_1_code (4 : Nat) (Option.none : Option Jvm.ClassFile.FieldType)) ∈ am_ts := am_in_2 (List.mem_of_getElem? (i := 81) rfl) rfl
theorem wd_2_82 : (Jvm.Cond.methodLink "SignCellar$Version" (3 : Nat) ({ cls := "java/lang/Object", name := "<init>", desc := "()V" } : Jvm.MethodName)) ∈ am_ts := am_in_2 (List.mem_of_getElem? (i := 82) rfl) rfl
theorem wd_2_83 : (Jvm.Cond.classLink "SignCellar$Version" (15 : Nat) "SignCellar$Row") ∈ am_ts := am_in_2 (List.mem_of_getElem? (i := 83) rfl) rfl
theorem wd_2_84 : (Jvm.Cond.methodLink "SignCellar$Version" (17 : Nat) ({ cls := "SignCellar$Row", name := "<init>", desc := "(I)V" } : Jvm.MethodName)) ∈ am_ts := am_in_2 (List.mem_of_getElem? (i := 84) rfl) rfl
theorem wd_2_85 : (Jvm.Cond.methodLink "SignCellar$Version" (27 : Nat) ({ cls := "SignCellar$Row", name := "length", desc := "()I" } : Jvm.MethodName)) ∈ am_ts := am_in_2 (List.mem_of_getElem? (i := 85) rfl) rfl
theorem wd_2_86 : (Jvm.Cond.methodLink "SignCellar$Version" (34 : Nat) ({ cls := "SignCellar$Row", name := "addPart", desc := "(LSignCellar$Row;II)V" } : Jvm.MethodName)) ∈ am_ts := am_in_2 (List.mem_of_getElem? (i := 86) rfl) rfl
theorem wd_2_87 : (Jvm.Cond.fieldLink "SignCellar$Version" (31 : Nat) "SignCellar$Version" "row" "LSignCellar$Row;") ∈ am_ts := am_in_2 (List.mem_of_getElem? (i := 87) rfl) rfl
theorem wd_2_88 : (Jvm.Cond.fieldLinkNest "SignCellar" (148 : Nat) "SignCellar$Version" "row" "LSignCellar$Row;" "SignCellar") ∈ am_ts := am_in_2 (List.mem_of_getElem? (i := 88) rfl) rfl
theorem wd_2_89 : (Jvm.Cond.fieldLink "SignCellar$Version" (38 : Nat) "SignCellar$Version" "parent" "I") ∈ am_ts := am_in_2 (List.mem_of_getElem? (i := 89) rfl) rfl
theorem wd_2_90 : (Jvm.Cond.fieldLinkNest "SignCellar" (151 : Nat) "SignCellar$Version" "parent" "I" "SignCellar") ∈ am_ts := am_in_2 (List.mem_of_getElem? (i := 90) rfl) rfl
theorem wd_2_91 : (Jvm.Cond.fieldLink "SignCellar$Version" (41 : Nat) "SignCellar$Version" "fresh" "I") ∈ am_ts := am_in_2 (List.mem_of_getElem? (i := 91) rfl) rfl
theorem wd_2_92 : (Jvm.Cond.fieldLinkNest "SignCellar" (154 : Nat) "SignCellar$Version" "fresh" "I" "SignCellar") ∈ am_ts := am_in_2 (List.mem_of_getElem? (i := 92) rfl) rfl
theorem wd_2_93 : (Jvm.Cond.fieldLink "SignCellar$Version" (9 : Nat) "SignCellar$Version" "signs" "I") ∈ am_ts := am_in_2 (List.mem_of_getElem? (i := 93) rfl) rfl
theorem wd_2_94 : (Jvm.Cond.fieldLinkNest "SignCellar" (130 : Nat) "SignCellar$Version" "signs" "I" "SignCellar") ∈ am_ts := am_in_2 (List.mem_of_getElem? (i := 94) rfl) rfl
theorem wd_2_95 : (Jvm.Cond.fieldLink "SignCellar$Version" (20 : Nat) "SignCellar$Version" "plainSums" "LSignCellar$Row;") ∈ am_ts := am_in_2 (List.mem_of_getElem? (i := 95) rfl) rfl
theorem wd_2_96 : (Jvm.Cond.fieldLinkNest "SignCellar" (294 : Nat) "SignCellar$Version" "plainSums" "LSignCellar$Row;" "SignCellar") ∈ am_ts := am_in_2 (List.mem_of_getElem? (i := 96) rfl) rfl
theorem wd_2_97 : (Jvm.Cond.fieldLink "SignCellar$Version" (24 : Nat) "SignCellar$Version" "timesSums" "LSignCellar$Row;") ∈ am_ts := am_in_2 (List.mem_of_getElem? (i := 97) rfl) rfl
theorem wd_2_98 : (Jvm.Cond.fieldLinkNest "SignCellar" (297 : Nat) "SignCellar$Version" "timesSums" "LSignCellar$Row;" "SignCellar") ∈ am_ts := am_in_2 (List.mem_of_getElem? (i := 98) rfl) rfl
theorem wd_2_99 : (Jvm.Cond.laysFinal "SignCellar$Version" "SignCellar$Version" "row" "LSignCellar$Row;") ∈ am_ts := am_in_2 (List.mem_of_getElem? (i := 99) rfl) rfl
theorem wd_2_101 : (Jvm.Cond.laysFinal "SignCellar$Version" "SignCellar$Version" "parent" "I") ∈ am_ts := am_in_2 (List.mem_of_getElem? (i := 101) rfl) rfl
theorem wd_2_103 : (Jvm.Cond.laysFinal "SignCellar$Version" "SignCellar$Version" "fresh" "I") ∈ am_ts := am_in_2 (List.mem_of_getElem? (i := 103) rfl) rfl
theorem wd_2_105 : (Jvm.Cond.lays "SignCellar$Version" "SignCellar$Version" "signs" "I") ∈ am_ts := am_in_2 (List.mem_of_getElem? (i := 105) rfl) rfl
theorem wd_2_107 : (Jvm.Cond.laysFinal "SignCellar$Version" "SignCellar$Version" "plainSums" "LSignCellar$Row;") ∈ am_ts := am_in_2 (List.mem_of_getElem? (i := 107) rfl) rfl
theorem wd_2_109 : (Jvm.Cond.laysFinal "SignCellar$Version" "SignCellar$Version" "timesSums" "LSignCellar$Row;") ∈ am_ts := am_in_2 (List.mem_of_getElem? (i := 109) rfl) rfl
theorem wd_2_112 : (Jvm.Cond.methodLink "SignCellar" (145 : Nat) ({ cls := "SignCellar", name := "lengthIn", desc := "(LSignCellar$Version;I)I" } : Jvm.MethodName)) ∈ am_ts := am_in_2 (List.mem_of_getElem? (i := 112) rfl) rfl
theorem wd_2_114 : (Jvm.Cond.instanceMethod ({ cls := "SignCellar", name := "lengthIn", desc := "(LSignCellar$Version;I)I" } : Jvm.MethodName)) ∈ am_ts := am_in_2 (List.mem_of_getElem? (i := 114) rfl) rfl
theorem wd_2_115 : (Jvm.Cond.code ({ cls := "SignCellar", name := "lengthIn", desc := "(LSignCellar$Version;I)I" } : Jvm.MethodName) prog_1_method_36_code (4 : Nat) (Option.some Jvm.ClassFile.FieldType.int)) ∈ am_ts := am_in_2 (List.mem_of_getElem? (i := 115) rfl) rfl
theorem wd_2_116 : (Jvm.Cond.methodLink "SignCellar" (161 : Nat) ({ cls := "SignCellar$Row", name := "at", desc := "(I)I" } : Jvm.MethodName)) ∈ am_ts := am_in_2 (List.mem_of_getElem? (i := 116) rfl) rfl
theorem wd_2_117 : (Jvm.Cond.methodLink "SignCellar" (352 : Nat) ({ cls := "SignCellar", name := "addUp", desc := "(LSignCellar$Version;)V" } : Jvm.MethodName)) ∈ am_ts := am_in_2 (List.mem_of_getElem? (i := 117) rfl) rfl
theorem wd_2_119 : (Jvm.Cond.instanceMethod ({ cls := "SignCellar", name := "addUp", desc := "(LSignCellar$Version;)V" } : Jvm.MethodName)) ∈ am_ts := am_in_2 (List.mem_of_getElem? (i := 119) rfl) rfl
theorem wd_2_120 : (Jvm.Cond.code ({ cls := "SignCellar", name := "addUp", desc := "(LSignCellar$Version;)V" } : Jvm.MethodName) prog_1_method_53_code (7 : Nat) (Option.none : Option Jvm.ClassFile.FieldType)) ∈ am_ts := am_in_2 (List.mem_of_getElem? (i := 120) rfl) rfl
theorem wd_2_121 : (Jvm.Cond.methodLink "SignCellar" (355 : Nat) ({ cls := "SignCellar", name := "numberIn", desc := "(LSignCellar$Version;II)I" } : Jvm.MethodName)) ∈ am_ts := am_in_2 (List.mem_of_getElem? (i := 121) rfl) rfl
theorem wd_2_123 : (Jvm.Cond.instanceMethod ({ cls := "SignCellar", name := "numberIn", desc := "(LSignCellar$Version;II)I" } : Jvm.MethodName)) ∈ am_ts := am_in_2 (List.mem_of_getElem? (i := 123) rfl) rfl
theorem wd_2_124 : (Jvm.Cond.code ({ cls := "SignCellar", name := "numberIn", desc := "(LSignCellar$Version;II)I" } : Jvm.MethodName) prog_1_method_54_code (5 : Nat) (Option.some Jvm.ClassFile.FieldType.int)) ∈ am_ts := am_in_2 (List.mem_of_getElem? (i := 124) rfl) rfl
theorem wd_2_125 : (Jvm.Cond.methodLink "SignCellar" (172 : Nat) ({ cls := "SignCellar", name := "signIn", desc := "(LSignCellar$Version;II)I" } : Jvm.MethodName)) ∈ am_ts := am_in_2 (List.mem_of_getElem? (i := 125) rfl) rfl
theorem wd_2_127 : (Jvm.Cond.instanceMethod ({ cls := "SignCellar", name := "signIn", desc := "(LSignCellar$Version;II)I" } : Jvm.MethodName)) ∈ am_ts := am_in_2 (List.mem_of_getElem? (i := 127) rfl) rfl
theorem wd_2_128 : (Jvm.Cond.code ({ cls := "SignCellar", name := "signIn", desc := "(LSignCellar$Version;II)I" } : Jvm.MethodName) prog_1_method_38_code (5 : Nat) (Option.some Jvm.ClassFile.FieldType.int)) ∈ am_ts := am_in_2 (List.mem_of_getElem? (i := 128) rfl) rfl
theorem wd_2_129 : (Jvm.Cond.methodLink "SignCellarLaw" (25 : Nat) ({ cls := "SignCellar", name := "change", desc := "(III)I" } : Jvm.MethodName)) ∈ am_ts := am_in_2 (List.mem_of_getElem? (i := 129) rfl) rfl
theorem wd_2_130 : (Jvm.Cond.instanceMethod ({ cls := "SignCellar", name := "change", desc := "(III)I" } : Jvm.MethodName)) ∈ am_ts := am_in_2 (List.mem_of_getElem? (i := 130) rfl) rfl
theorem wd_2_131 : (Jvm.Cond.selects "SignCellar" ({ cls := "SignCellar", name := "change", desc := "(III)I" } : Jvm.MethodName) ({ cls := "SignCellar", name := "change", desc := "(III)I" } : Jvm.MethodName)) ∈ am_ts := am_in_2 (List.mem_of_getElem? (i := 131) rfl) rfl
theorem wd_2_132 : (Jvm.Cond.code ({ cls := "SignCellar", name := "change", desc := "(III)I" } : Jvm.MethodName) prog_1_method_4_code (5 : Nat) (Option.some Jvm.ClassFile.FieldType.int)) ∈ am_ts := am_in_2 (List.mem_of_getElem? (i := 132) rfl) rfl
theorem wd_2_133 : (Jvm.Cond.methodLink "SignCellar" (126 : Nat) ({ cls := "SignCellar", name := "versionOf", desc := "(I)LSignCellar$Version;" } : Jvm.MethodName)) ∈ am_ts := am_in_2 (List.mem_of_getElem? (i := 133) rfl) rfl
theorem wd_2_135 : (Jvm.Cond.instanceMethod ({ cls := "SignCellar", name := "versionOf", desc := "(I)LSignCellar$Version;" } : Jvm.MethodName)) ∈ am_ts := am_in_2 (List.mem_of_getElem? (i := 135) rfl) rfl
theorem wd_2_136 : (Jvm.Cond.code ({ cls := "SignCellar", name := "versionOf", desc := "(I)LSignCellar$Version;" } : Jvm.MethodName) prog_1_method_33_code (2 : Nat) (Option.some (Jvm.ClassFile.FieldType.object "SignCellar$Version"))) ∈ am_ts := am_in_2 (List.mem_of_getElem? (i := 136) rfl) rfl
theorem wd_2_137 : (Jvm.Cond.constant "SignCellar" (133 : Nat) (-100001 : Int32)) ∈ am_ts := am_in_2 (List.mem_of_getElem? (i := 137) rfl) rfl
theorem wd_2_138 : (Jvm.Cond.methodLink "SignCellar" (134 : Nat) ({ cls := "SignCellar", name := "isSign", desc := "(I)Z" } : Jvm.MethodName)) ∈ am_ts := am_in_2 (List.mem_of_getElem? (i := 138) rfl) rfl
theorem wd_2_139 : (Jvm.Cond.static ({ cls := "SignCellar", name := "isSign", desc := "(I)Z" } : Jvm.MethodName)) ∈ am_ts := am_in_2 (List.mem_of_getElem? (i := 139) rfl) rfl
theorem wd_2_140 : (Jvm.Cond.code ({ cls := "SignCellar", name := "isSign", desc := "(I)Z" } : Jvm.MethodName) prog_1_method_31_code (1 : Nat) (Option.some Jvm.ClassFile.FieldType.boolean)) ∈ am_ts := am_in_2 (List.mem_of_getElem? (i := 140) rfl) rfl
theorem wd_2_141 : (Jvm.Cond.methodLink "SignCellar" (137 : Nat) ({ cls := "SignCellar", name := "edited", desc := "(IIII)I" } : Jvm.MethodName)) ∈ am_ts := am_in_2 (List.mem_of_getElem? (i := 141) rfl) rfl
theorem wd_2_143 : (Jvm.Cond.instanceMethod ({ cls := "SignCellar", name := "edited", desc := "(IIII)I" } : Jvm.MethodName)) ∈ am_ts := am_in_2 (List.mem_of_getElem? (i := 143) rfl) rfl
theorem wd_2_144 : (Jvm.Cond.code ({ cls := "SignCellar", name := "edited", desc := "(IIII)I" } : Jvm.MethodName) prog_1_method_46_code (7 : Nat) (Option.some Jvm.ClassFile.FieldType.int)) ∈ am_ts := am_in_2 (List.mem_of_getElem? (i := 144) rfl) rfl
theorem wd_2_145 : (Jvm.Cond.methodLink "SignCellar" (157 : Nat) ({ cls := "SignCellar", name := "tornBlocks", desc := "(LSignCellar$Version;)I" } : Jvm.MethodName)) ∈ am_ts := am_in_2 (List.mem_of_getElem? (i := 145) rfl) rfl
theorem wd_2_147 : (Jvm.Cond.instanceMethod ({ cls := "SignCellar", name := "tornBlocks", desc := "(LSignCellar$Version;)I" } : Jvm.MethodName)) ∈ am_ts := am_in_2 (List.mem_of_getElem? (i := 147) rfl) rfl
theorem wd_2_148 : (Jvm.Cond.code ({ cls := "SignCellar", name := "tornBlocks", desc := "(LSignCellar$Version;)I" } : Jvm.MethodName) prog_1_method_39_code (4 : Nat) (Option.some Jvm.ClassFile.FieldType.int)) ∈ am_ts := am_in_2 (List.mem_of_getElem? (i := 148) rfl) rfl
theorem wd_2_149 : (Jvm.Cond.methodLink "SignCellar" (164 : Nat) ({ cls := "SignCellar", name := "isTornIn", desc := "(LSignCellar$Version;I)Z" } : Jvm.MethodName)) ∈ am_ts := am_in_2 (List.mem_of_getElem? (i := 149) rfl) rfl
theorem wd_2_151 : (Jvm.Cond.instanceMethod ({ cls := "SignCellar", name := "isTornIn", desc := "(LSignCellar$Version;I)Z" } : Jvm.MethodName)) ∈ am_ts := am_in_2 (List.mem_of_getElem? (i := 151) rfl) rfl
theorem wd_2_152 : (Jvm.Cond.code ({ cls := "SignCellar", name := "isTornIn", desc := "(LSignCellar$Version;I)Z" } : Jvm.MethodName) prog_1_method_37_code (4 : Nat) (Option.some Jvm.ClassFile.FieldType.boolean)) ∈ am_ts := am_in_2 (List.mem_of_getElem? (i := 152) rfl) rfl
theorem wd_2_153 : (Jvm.Cond.constant "SignCellar" (168 : Nat) (-100005 : Int32)) ∈ am_ts := am_in_2 (List.mem_of_getElem? (i := 153) rfl) rfl
theorem wd_2_154 : (Jvm.Cond.methodLink "SignCellar" (141 : Nat) ({ cls := "SignCellar", name := "indexAt", desc := "(LSignCellar$Version;I)I" } : Jvm.MethodName)) ∈ am_ts := am_in_2 (List.mem_of_getElem? (i := 154) rfl) rfl
theorem wd_2_156 : (Jvm.Cond.instanceMethod ({ cls := "SignCellar", name := "indexAt", desc := "(LSignCellar$Version;I)I" } : Jvm.MethodName)) ∈ am_ts := am_in_2 (List.mem_of_getElem? (i := 156) rfl) rfl
theorem wd_2_157 : (Jvm.Cond.code ({ cls := "SignCellar", name := "indexAt", desc := "(LSignCellar$Version;I)I" } : Jvm.MethodName) prog_1_method_34_code (5 : Nat) (Option.some Jvm.ClassFile.FieldType.int)) ∈ am_ts := am_in_2 (List.mem_of_getElem? (i := 157) rfl) rfl
theorem wd_2_158 : (Jvm.Cond.methodLink "SignCellar" (328 : Nat) ({ cls := "java/lang/Math", name := "max", desc := "(II)I" } : Jvm.MethodName)) ∈ am_ts := am_in_2 (List.mem_of_getElem? (i := 158) rfl) rfl
theorem wd_2_159 : (Jvm.Cond.methodLink "SignCellar" (169 : Nat) ({ cls := "SignCellar", name := "startOf", desc := "(LSignCellar$Version;I)I" } : Jvm.MethodName)) ∈ am_ts := am_in_2 (List.mem_of_getElem? (i := 159) rfl) rfl
theorem wd_2_161 : (Jvm.Cond.instanceMethod ({ cls := "SignCellar", name := "startOf", desc := "(LSignCellar$Version;I)I" } : Jvm.MethodName)) ∈ am_ts := am_in_2 (List.mem_of_getElem? (i := 161) rfl) rfl
theorem wd_2_162 : (Jvm.Cond.code ({ cls := "SignCellar", name := "startOf", desc := "(LSignCellar$Version;I)I" } : Jvm.MethodName) prog_1_method_35_code (5 : Nat) (Option.some Jvm.ClassFile.FieldType.int)) ∈ am_ts := am_in_2 (List.mem_of_getElem? (i := 162) rfl) rfl
theorem wd_2_163 : (Jvm.Cond.methodLink "SignCellar" (331 : Nat) ({ cls := "SignCellar", name := "spell", desc := "(LSignCellar$Version;IIII)V" } : Jvm.MethodName)) ∈ am_ts := am_in_2 (List.mem_of_getElem? (i := 163) rfl) rfl
theorem wd_2_165 : (Jvm.Cond.instanceMethod ({ cls := "SignCellar", name := "spell", desc := "(LSignCellar$Version;IIII)V" } : Jvm.MethodName)) ∈ am_ts := am_in_2 (List.mem_of_getElem? (i := 165) rfl) rfl
theorem wd_2_166 : (Jvm.Cond.code ({ cls := "SignCellar", name := "spell", desc := "(LSignCellar$Version;IIII)V" } : Jvm.MethodName) prog_1_method_47_code (7 : Nat) (Option.none : Option Jvm.ClassFile.FieldType)) ∈ am_ts := am_in_2 (List.mem_of_getElem? (i := 166) rfl) rfl
theorem wd_2_167 : (Jvm.Cond.methodLink "SignCellar" (335 : Nat) ({ cls := "SignCellar$Row", name := "addPart", desc := "(LSignCellar$Row;II)V" } : Jvm.MethodName)) ∈ am_ts := am_in_2 (List.mem_of_getElem? (i := 167) rfl) rfl
theorem wd_2_168 : (Jvm.Cond.methodLink "SignCellar" (338 : Nat) ({ cls := "SignCellar", name := "planSpelled", desc := "()V" } : Jvm.MethodName)) ∈ am_ts := am_in_2 (List.mem_of_getElem? (i := 168) rfl) rfl
theorem wd_2_170 : (Jvm.Cond.instanceMethod ({ cls := "SignCellar", name := "planSpelled", desc := "()V" } : Jvm.MethodName)) ∈ am_ts := am_in_2 (List.mem_of_getElem? (i := 170) rfl) rfl
theorem wd_2_171 : (Jvm.Cond.code ({ cls := "SignCellar", name := "planSpelled", desc := "()V" } : Jvm.MethodName) prog_1_method_49_code (3 : Nat) (Option.none : Option Jvm.ClassFile.FieldType)) ∈ am_ts := am_in_2 (List.mem_of_getElem? (i := 171) rfl) rfl
theorem wd_2_172 : (Jvm.Cond.methodLink "SignCellarLaw" (30 : Nat) ({ cls := "SignCellar", name := "put", desc := "(III)I" } : Jvm.MethodName)) ∈ am_ts := am_in_2 (List.mem_of_getElem? (i := 172) rfl) rfl
theorem wd_2_173 : (Jvm.Cond.instanceMethod ({ cls := "SignCellar", name := "put", desc := "(III)I" } : Jvm.MethodName)) ∈ am_ts := am_in_2 (List.mem_of_getElem? (i := 173) rfl) rfl
theorem wd_2_174 : (Jvm.Cond.selects "SignCellar" ({ cls := "SignCellar", name := "put", desc := "(III)I" } : Jvm.MethodName) ({ cls := "SignCellar", name := "put", desc := "(III)I" } : Jvm.MethodName)) ∈ am_ts := am_in_2 (List.mem_of_getElem? (i := 174) rfl) rfl
theorem wd_2_175 : (Jvm.Cond.code ({ cls := "SignCellar", name := "put", desc := "(III)I" } : Jvm.MethodName) prog_1_method_5_code (6 : Nat) (Option.some Jvm.ClassFile.FieldType.int)) ∈ am_ts := am_in_2 (List.mem_of_getElem? (i := 175) rfl) rfl
theorem wd_2_176 : (Jvm.Cond.methodLink "SignCellarLaw" (34 : Nat) ({ cls := "SignCellar", name := "strike", desc := "(II)I" } : Jvm.MethodName)) ∈ am_ts := am_in_2 (List.mem_of_getElem? (i := 176) rfl) rfl
theorem wd_2_177 : (Jvm.Cond.instanceMethod ({ cls := "SignCellar", name := "strike", desc := "(II)I" } : Jvm.MethodName)) ∈ am_ts := am_in_2 (List.mem_of_getElem? (i := 177) rfl) rfl
theorem wd_2_178 : (Jvm.Cond.selects "SignCellar" ({ cls := "SignCellar", name := "strike", desc := "(II)I" } : Jvm.MethodName) ({ cls := "SignCellar", name := "strike", desc := "(II)I" } : Jvm.MethodName)) ∈ am_ts := am_in_2 (List.mem_of_getElem? (i := 178) rfl) rfl
theorem wd_2_179 : (Jvm.Cond.code ({ cls := "SignCellar", name := "strike", desc := "(II)I" } : Jvm.MethodName) prog_1_method_6_code (5 : Nat) (Option.some Jvm.ClassFile.FieldType.int)) ∈ am_ts := am_in_2 (List.mem_of_getElem? (i := 179) rfl) rfl
theorem wd_2_180 : (Jvm.Cond.methodLink "SignCellarLaw" (39 : Nat) ({ cls := "SignCellar", name := "about", desc := "(II)I" } : Jvm.MethodName)) ∈ am_ts := am_in_2 (List.mem_of_getElem? (i := 180) rfl) rfl
theorem wd_2_181 : (Jvm.Cond.instanceMethod ({ cls := "SignCellar", name := "about", desc := "(II)I" } : Jvm.MethodName)) ∈ am_ts := am_in_2 (List.mem_of_getElem? (i := 181) rfl) rfl
theorem wd_2_182 : (Jvm.Cond.selects "SignCellar" ({ cls := "SignCellar", name := "about", desc := "(II)I" } : Jvm.MethodName) ({ cls := "SignCellar", name := "about", desc := "(II)I" } : Jvm.MethodName)) ∈ am_ts := am_in_2 (List.mem_of_getElem? (i := 182) rfl) rfl
theorem wd_2_183 : (Jvm.Cond.code ({ cls := "SignCellar", name := "about", desc := "(II)I" } : Jvm.MethodName) prog_1_method_7_code (4 : Nat) (Option.some Jvm.ClassFile.FieldType.int)) ∈ am_ts := am_in_2 (List.mem_of_getElem? (i := 183) rfl) rfl
theorem wd_2_184 : (Jvm.Cond.methodLink "SignCellarLaw" (43 : Nat) ({ cls := "SignCellar", name := "block", desc := "(II)I" } : Jvm.MethodName)) ∈ am_ts := am_in_2 (List.mem_of_getElem? (i := 184) rfl) rfl
theorem wd_2_185 : (Jvm.Cond.instanceMethod ({ cls := "SignCellar", name := "block", desc := "(II)I" } : Jvm.MethodName)) ∈ am_ts := am_in_2 (List.mem_of_getElem? (i := 185) rfl) rfl
theorem wd_2_186 : (Jvm.Cond.selects "SignCellar" ({ cls := "SignCellar", name := "block", desc := "(II)I" } : Jvm.MethodName) ({ cls := "SignCellar", name := "block", desc := "(II)I" } : Jvm.MethodName)) ∈ am_ts := am_in_2 (List.mem_of_getElem? (i := 186) rfl) rfl
theorem wd_2_187 : (Jvm.Cond.code ({ cls := "SignCellar", name := "block", desc := "(II)I" } : Jvm.MethodName) prog_1_method_8_code (4 : Nat) (Option.some Jvm.ClassFile.FieldType.int)) ∈ am_ts := am_in_2 (List.mem_of_getElem? (i := 187) rfl) rfl
theorem wd_2_188 : (Jvm.Cond.methodLink "SignCellarLaw" (47 : Nat) ({ cls := "SignCellar", name := "open", desc := "(II)I" } : Jvm.MethodName)) ∈ am_ts := am_in_2 (List.mem_of_getElem? (i := 188) rfl) rfl
theorem wd_2_189 : (Jvm.Cond.instanceMethod ({ cls := "SignCellar", name := "open", desc := "(II)I" } : Jvm.MethodName)) ∈ am_ts := am_in_2 (List.mem_of_getElem? (i := 189) rfl) rfl
theorem wd_2_190 : (Jvm.Cond.selects "SignCellar" ({ cls := "SignCellar", name := "open", desc := "(II)I" } : Jvm.MethodName) ({ cls := "SignCellar", name := "open", desc := "(II)I" } : Jvm.MethodName)) ∈ am_ts := am_in_2 (List.mem_of_getElem? (i := 190) rfl) rfl
theorem wd_2_191 : (Jvm.Cond.code ({ cls := "SignCellar", name := "open", desc := "(II)I" } : Jvm.MethodName) prog_1_method_9_code (5 : Nat) (Option.some Jvm.ClassFile.FieldType.int)) ∈ am_ts := am_in_2 (List.mem_of_getElem? (i := 191) rfl) rfl
theorem wd_2_192 : (Jvm.Cond.methodLink "SignCellarLaw" (51 : Nat) ({ cls := "SignCellar", name := "told", desc := "(II)I" } : Jvm.MethodName)) ∈ am_ts := am_in_2 (List.mem_of_getElem? (i := 192) rfl) rfl
theorem wd_2_193 : (Jvm.Cond.instanceMethod ({ cls := "SignCellar", name := "told", desc := "(II)I" } : Jvm.MethodName)) ∈ am_ts := am_in_2 (List.mem_of_getElem? (i := 193) rfl) rfl
theorem wd_2_194 : (Jvm.Cond.selects "SignCellar" ({ cls := "SignCellar", name := "told", desc := "(II)I" } : Jvm.MethodName) ({ cls := "SignCellar", name := "told", desc := "(II)I" } : Jvm.MethodName)) ∈ am_ts := am_in_2 (List.mem_of_getElem? (i := 194) rfl) rfl
theorem wd_2_195 : (Jvm.Cond.code ({ cls := "SignCellar", name := "told", desc := "(II)I" } : Jvm.MethodName) prog_1_method_10_code (4 : Nat) (Option.some Jvm.ClassFile.FieldType.int)) ∈ am_ts := am_in_2 (List.mem_of_getElem? (i := 195) rfl) rfl
theorem wd_2_196 : (Jvm.Cond.methodLink "SignCellar" (186 : Nat) ({ cls := "SignCellar", name := "versionsWith", desc := "(I)I" } : Jvm.MethodName)) ∈ am_ts := am_in_2 (List.mem_of_getElem? (i := 196) rfl) rfl
theorem wd_2_198 : (Jvm.Cond.instanceMethod ({ cls := "SignCellar", name := "versionsWith", desc := "(I)I" } : Jvm.MethodName)) ∈ am_ts := am_in_2 (List.mem_of_getElem? (i := 198) rfl) rfl
theorem wd_2_199 : (Jvm.Cond.code ({ cls := "SignCellar", name := "versionsWith", desc := "(I)I" } : Jvm.MethodName) prog_1_method_41_code (5 : Nat) (Option.some Jvm.ClassFile.FieldType.int)) ∈ am_ts := am_in_2 (List.mem_of_getElem? (i := 199) rfl) rfl
theorem wd_2_200 : (Jvm.Cond.methodLink "SignCellar" (198 : Nat) ({ cls := "SignCellar$Row", name := "has", desc := "(I)Z" } : Jvm.MethodName)) ∈ am_ts := am_in_2 (List.mem_of_getElem? (i := 200) rfl) rfl
theorem wd_2_201 : (Jvm.Cond.instanceMethod ({ cls := "SignCellar$Row", name := "has", desc := "(I)Z" } : Jvm.MethodName)) ∈ am_ts := am_in_2 (List.mem_of_getElem? (i := 201) rfl) rfl
theorem wd_2_202 : (Jvm.Cond.selects "SignCellar$Row" ({ cls := "SignCellar$Row", name := "has", desc := "(I)Z" } : Jvm.MethodName) ({ cls := "SignCellar$Row", name := "has", desc := "(I)Z" } : Jvm.MethodName)) ∈ am_ts := am_in_2 (List.mem_of_getElem? (i := 202) rfl) rfl
theorem wd_2_203 : (Jvm.Cond.code ({ cls := "SignCellar$Row", name := "has", desc := "(I)Z" } : Jvm.MethodName) prog_6_method_11_code (2 : Nat) (Option.some Jvm.ClassFile.FieldType.boolean)) ∈ am_ts := am_in_2 (List.mem_of_getElem? (i := 203) rfl) rfl
theorem wd_2_204 : (Jvm.Cond.methodLink "SignCellar$Row" (40 : Nat) ({ cls := "SignCellar$Row", name := "firstOf", desc := "(I)I" } : Jvm.MethodName)) ∈ am_ts := am_in_2 (List.mem_of_getElem? (i := 204) rfl) rfl
theorem wd_2_205 : (Jvm.Cond.instanceMethod ({ cls := "SignCellar$Row", name := "firstOf", desc := "(I)I" } : Jvm.MethodName)) ∈ am_ts := am_in_2 (List.mem_of_getElem? (i := 205) rfl) rfl
theorem wd_2_206 : (Jvm.Cond.selects "SignCellar$Row" ({ cls := "SignCellar$Row", name := "firstOf", desc := "(I)I" } : Jvm.MethodName) ({ cls := "SignCellar$Row", name := "firstOf", desc := "(I)I" } : Jvm.MethodName)) ∈ am_ts := am_in_2 (List.mem_of_getElem? (i := 206) rfl) rfl
theorem wd_2_207 : (Jvm.Cond.code ({ cls := "SignCellar$Row", name := "firstOf", desc := "(I)I" } : Jvm.MethodName) prog_6_method_10_code (3 : Nat) (Option.some Jvm.ClassFile.FieldType.int)) ∈ am_ts := am_in_2 (List.mem_of_getElem? (i := 207) rfl) rfl
theorem wd_2_208 : (Jvm.Cond.methodLink "SignCellarLaw" (55 : Nat) ({ cls := "SignCellar", name := "count", desc := "(I)I" } : Jvm.MethodName)) ∈ am_ts := am_in_2 (List.mem_of_getElem? (i := 208) rfl) rfl
theorem wd_2_209 : (Jvm.Cond.instanceMethod ({ cls := "SignCellar", name := "count", desc := "(I)I" } : Jvm.MethodName)) ∈ am_ts := am_in_2 (List.mem_of_getElem? (i := 209) rfl) rfl
theorem wd_2_210 : (Jvm.Cond.selects "SignCellar" ({ cls := "SignCellar", name := "count", desc := "(I)I" } : Jvm.MethodName) ({ cls := "SignCellar", name := "count", desc := "(I)I" } : Jvm.MethodName)) ∈ am_ts := am_in_2 (List.mem_of_getElem? (i := 210) rfl) rfl
theorem wd_2_211 : (Jvm.Cond.code ({ cls := "SignCellar", name := "count", desc := "(I)I" } : Jvm.MethodName) prog_1_method_11_code (2 : Nat) (Option.some Jvm.ClassFile.FieldType.int)) ∈ am_ts := am_in_2 (List.mem_of_getElem? (i := 211) rfl) rfl
theorem wd_2_212 : (Jvm.Cond.methodLink "SignCellar" (189 : Nat) ({ cls := "SignCellar", name := "allTorn", desc := "()I" } : Jvm.MethodName)) ∈ am_ts := am_in_2 (List.mem_of_getElem? (i := 212) rfl) rfl
theorem wd_2_214 : (Jvm.Cond.instanceMethod ({ cls := "SignCellar", name := "allTorn", desc := "()I" } : Jvm.MethodName)) ∈ am_ts := am_in_2 (List.mem_of_getElem? (i := 214) rfl) rfl
theorem wd_2_215 : (Jvm.Cond.code ({ cls := "SignCellar", name := "allTorn", desc := "()I" } : Jvm.MethodName) prog_1_method_42_code (4 : Nat) (Option.some Jvm.ClassFile.FieldType.int)) ∈ am_ts := am_in_2 (List.mem_of_getElem? (i := 215) rfl) rfl
theorem wd_2_216 : (Jvm.Cond.methodLink "SignCellar" (192 : Nat) ({ cls := "SignCellar", name := "signsOfBlocks", desc := "()I" } : Jvm.MethodName)) ∈ am_ts := am_in_2 (List.mem_of_getElem? (i := 216) rfl) rfl
theorem wd_2_218 : (Jvm.Cond.instanceMethod ({ cls := "SignCellar", name := "signsOfBlocks", desc := "()I" } : Jvm.MethodName)) ∈ am_ts := am_in_2 (List.mem_of_getElem? (i := 218) rfl) rfl
theorem wd_2_219 : (Jvm.Cond.code ({ cls := "SignCellar", name := "signsOfBlocks", desc := "()I" } : Jvm.MethodName) prog_1_method_43_code (4 : Nat) (Option.some Jvm.ClassFile.FieldType.int)) ∈ am_ts := am_in_2 (List.mem_of_getElem? (i := 219) rfl) rfl
theorem wd_2_220 : (Jvm.Cond.methodLink "SignCellar" (195 : Nat) ({ cls := "SignCellar", name := "signsOfVersions", desc := "()I" } : Jvm.MethodName)) ∈ am_ts := am_in_2 (List.mem_of_getElem? (i := 220) rfl) rfl
theorem wd_2_222 : (Jvm.Cond.instanceMethod ({ cls := "SignCellar", name := "signsOfVersions", desc := "()I" } : Jvm.MethodName)) ∈ am_ts := am_in_2 (List.mem_of_getElem? (i := 222) rfl) rfl
theorem wd_2_223 : (Jvm.Cond.code ({ cls := "SignCellar", name := "signsOfVersions", desc := "()I" } : Jvm.MethodName) prog_1_method_44_code (4 : Nat) (Option.some Jvm.ClassFile.FieldType.int)) ∈ am_ts := am_in_2 (List.mem_of_getElem? (i := 223) rfl) rfl
theorem wd_2_224 : (Jvm.Cond.methodLink "SignCellarLaw" (60 : Nat) ({ cls := "SignCellar", name := "share", desc := "(II)I" } : Jvm.MethodName)) ∈ am_ts := am_in_2 (List.mem_of_getElem? (i := 224) rfl) rfl
theorem wd_2_225 : (Jvm.Cond.instanceMethod ({ cls := "SignCellar", name := "share", desc := "(II)I" } : Jvm.MethodName)) ∈ am_ts := am_in_2 (List.mem_of_getElem? (i := 225) rfl) rfl
theorem wd_2_226 : (Jvm.Cond.selects "SignCellar" ({ cls := "SignCellar", name := "share", desc := "(II)I" } : Jvm.MethodName) ({ cls := "SignCellar", name := "share", desc := "(II)I" } : Jvm.MethodName)) ∈ am_ts := am_in_2 (List.mem_of_getElem? (i := 226) rfl) rfl
theorem wd_2_227 : (Jvm.Cond.code ({ cls := "SignCellar", name := "share", desc := "(II)I" } : Jvm.MethodName) prog_1_method_12_code (8 : Nat) (Option.some Jvm.ClassFile.FieldType.int)) ∈ am_ts := am_in_2 (List.mem_of_getElem? (i := 227) rfl) rfl
theorem wd_2_228 : (Jvm.Cond.methodLink "SignCellar" (201 : Nat) ({ cls := "SignCellar$Row", name := "firstOf", desc := "(I)I" } : Jvm.MethodName)) ∈ am_ts := am_in_2 (List.mem_of_getElem? (i := 228) rfl) rfl
theorem wd_2_229 : (Jvm.Cond.methodLink "SignCellarLaw" (64 : Nat) ({ cls := "SignCellar", name := "size", desc := "(II)I" } : Jvm.MethodName)) ∈ am_ts := am_in_2 (List.mem_of_getElem? (i := 229) rfl) rfl
theorem wd_2_230 : (Jvm.Cond.instanceMethod ({ cls := "SignCellar", name := "size", desc := "(II)I" } : Jvm.MethodName)) ∈ am_ts := am_in_2 (List.mem_of_getElem? (i := 230) rfl) rfl
theorem wd_2_231 : (Jvm.Cond.selects "SignCellar" ({ cls := "SignCellar", name := "size", desc := "(II)I" } : Jvm.MethodName) ({ cls := "SignCellar", name := "size", desc := "(II)I" } : Jvm.MethodName)) ∈ am_ts := am_in_2 (List.mem_of_getElem? (i := 231) rfl) rfl
theorem wd_2_232 : (Jvm.Cond.code ({ cls := "SignCellar", name := "size", desc := "(II)I" } : Jvm.MethodName) prog_1_method_13_code (5 : Nat) (Option.some Jvm.ClassFile.FieldType.int)) ∈ am_ts := am_in_2 (List.mem_of_getElem? (i := 232) rfl) rfl
theorem wd_2_233 : (Jvm.Cond.methodLink "SignCellar" (204 : Nat) ({ cls := "SignCellar", name := "refusalOfKind", desc := "(LSignCellar$Block;I)I" } : Jvm.MethodName)) ∈ am_ts := am_in_2 (List.mem_of_getElem? (i := 233) rfl) rfl
theorem wd_2_234 : (Jvm.Cond.static ({ cls := "SignCellar", name := "refusalOfKind", desc := "(LSignCellar$Block;I)I" } : Jvm.MethodName)) ∈ am_ts := am_in_2 (List.mem_of_getElem? (i := 234) rfl) rfl
theorem wd_2_235 : (Jvm.Cond.code ({ cls := "SignCellar", name := "refusalOfKind", desc := "(LSignCellar$Block;I)I" } : Jvm.MethodName) prog_1_method_58_code (2 : Nat) (Option.some Jvm.ClassFile.FieldType.int)) ∈ am_ts := am_in_2 (List.mem_of_getElem? (i := 235) rfl) rfl
theorem wd_2_236 : (Jvm.Cond.methodLink "SignCellar" (208 : Nat) ({ cls := "SignCellar", name := "weigh", desc := "(LSignCellar$Block;)V" } : Jvm.MethodName)) ∈ am_ts := am_in_2 (List.mem_of_getElem? (i := 236) rfl) rfl
theorem wd_2_238 : (Jvm.Cond.instanceMethod ({ cls := "SignCellar", name := "weigh", desc := "(LSignCellar$Block;)V" } : Jvm.MethodName)) ∈ am_ts := am_in_2 (List.mem_of_getElem? (i := 238) rfl) rfl
theorem wd_2_239 : (Jvm.Cond.code ({ cls := "SignCellar", name := "weigh", desc := "(LSignCellar$Block;)V" } : Jvm.MethodName) prog_1_method_60_code (3 : Nat) (Option.none : Option Jvm.ClassFile.FieldType)) ∈ am_ts := am_in_2 (List.mem_of_getElem? (i := 239) rfl) rfl
theorem wd_3_0 : (Jvm.Cond.methodLink "SignCellar" (218 : Nat) ({ cls := "SignCellar$Mates", name := "squeeze", desc := "(LSignCellar$Row;)V" } : Jvm.MethodName)) ∈ am_ts := am_in_3 (List.mem_of_getElem? (i := 0) rfl) rfl
theorem wd_3_1 : (Jvm.Cond.instanceMethod ({ cls := "SignCellar$Mates", name := "squeeze", desc := "(LSignCellar$Row;)V" } : Jvm.MethodName)) ∈ am_ts := am_in_3 (List.mem_of_getElem? (i := 1) rfl) rfl
theorem wd_3_2 : (Jvm.Cond.selects "SignCellar$Mates" ({ cls := "SignCellar$Mates", name := "squeeze", desc := "(LSignCellar$Row;)V" } : Jvm.MethodName) ({ cls := "SignCellar$Mates", name := "squeeze", desc := "(LSignCellar$Row;)V" } : Jvm.MethodName)) ∈ am_ts := am_in_3 (List.mem_of_getElem? (i := 2) rfl) rfl
theorem wd_3_3 : (Jvm.Cond.code ({ cls := "SignCellar$Mates", name := "squeeze", desc := "(LSignCellar$Row;)V" } : Jvm.MethodName) prog_4_method_2_code (4 : Nat) (Option.none : Option Jvm.ClassFile.FieldType)) ∈ am_ts := am_in_3 (List.mem_of_getElem? (i := 3) rfl) rfl
theorem wd_3_4 : (Jvm.Cond.methodLink "SignCellar$Mates" (30 : Nat) ({ cls := "SignCellar$Row", name := "length", desc := "()I" } : Jvm.MethodName)) ∈ am_ts := am_in_3 (List.mem_of_getElem? (i := 4) rfl) rfl
theorem wd_3_5 : (Jvm.Cond.methodLink "SignCellar$Mates" (34 : Nat) ({ cls := "java/lang/Math", name := "min", desc := "(II)I" } : Jvm.MethodName)) ∈ am_ts := am_in_3 (List.mem_of_getElem? (i := 5) rfl) rfl
theorem wd_3_6 : (Jvm.Cond.methodLink "SignCellar$Mates" (40 : Nat) ({ cls := "SignCellar$Mates", name := "choosePiece", desc := "(LSignCellar$Row;II)V" } : Jvm.MethodName)) ∈ am_ts := am_in_3 (List.mem_of_getElem? (i := 6) rfl) rfl
theorem wd_3_8 : (Jvm.Cond.instanceMethod ({ cls := "SignCellar$Mates", name := "choosePiece", desc := "(LSignCellar$Row;II)V" } : Jvm.MethodName)) ∈ am_ts := am_in_3 (List.mem_of_getElem? (i := 8) rfl) rfl
theorem wd_3_9 : (Jvm.Cond.code ({ cls := "SignCellar$Mates", name := "choosePiece", desc := "(LSignCellar$Row;II)V" } : Jvm.MethodName) prog_4_method_4_code (6 : Nat) (Option.none : Option Jvm.ClassFile.FieldType)) ∈ am_ts := am_in_3 (List.mem_of_getElem? (i := 9) rfl) rfl
theorem wd_3_10 : (Jvm.Cond.methodLink "SignCellar$Mates" (53 : Nat) ({ cls := "SignCellar$Mates", name := "findNearest", desc := "(LSignCellar$Row;II)V" } : Jvm.MethodName)) ∈ am_ts := am_in_3 (List.mem_of_getElem? (i := 10) rfl) rfl
theorem wd_3_12 : (Jvm.Cond.instanceMethod ({ cls := "SignCellar$Mates", name := "findNearest", desc := "(LSignCellar$Row;II)V" } : Jvm.MethodName)) ∈ am_ts := am_in_3 (List.mem_of_getElem? (i := 12) rfl) rfl
theorem wd_3_13 : (Jvm.Cond.code ({ cls := "SignCellar$Mates", name := "findNearest", desc := "(LSignCellar$Row;II)V" } : Jvm.MethodName) prog_4_method_5_code (6 : Nat) (Option.none : Option Jvm.ClassFile.FieldType)) ∈ am_ts := am_in_3 (List.mem_of_getElem? (i := 13) rfl) rfl
theorem wd_3_14 : (Jvm.Cond.methodLink "SignCellar$Mates" (56 : Nat) ({ cls := "java/util/Arrays", name := "fill", desc := "([II)V" } : Jvm.MethodName)) ∈ am_ts := am_in_3 (List.mem_of_getElem? (i := 14) rfl) rfl
theorem wd_3_15 : (Jvm.Cond.static ({ cls := "java/util/Arrays", name := "fill", desc := "([II)V" } : Jvm.MethodName)) ∈ am_ts := am_in_3 (List.mem_of_getElem? (i := 15) rfl) rfl
theorem wd_3_16 : (Jvm.Cond.code ({ cls := "java/util/Arrays", name := "fill", desc := "([II)V" } : Jvm.MethodName) prog_13_method_103_code (4 : Nat) (Option.none : Option Jvm.ClassFile.FieldType)) ∈ am_ts := am_in_3 (List.mem_of_getElem? (i := 16) rfl) rfl
theorem wd_3_17 : (Jvm.Cond.methodLink "SignCellar$Mates" (62 : Nat) ({ cls := "SignCellar$Row", name := "at", desc := "(I)I" } : Jvm.MethodName)) ∈ am_ts := am_in_3 (List.mem_of_getElem? (i := 17) rfl) rfl
theorem wd_3_18 : (Jvm.Cond.methodLink "SignCellar$Mates" (44 : Nat) ({ cls := "SignCellar$Row", name := "empty", desc := "()V" } : Jvm.MethodName)) ∈ am_ts := am_in_3 (List.mem_of_getElem? (i := 18) rfl) rfl
theorem wd_3_19 : (Jvm.Cond.methodLink "SignCellar$Mates" (47 : Nat) ({ cls := "SignCellar$Row", name := "add", desc := "(I)V" } : Jvm.MethodName)) ∈ am_ts := am_in_3 (List.mem_of_getElem? (i := 19) rfl) rfl
theorem wd_3_20 : (Jvm.Cond.methodLink "SignCellar$Mates" (50 : Nat) ({ cls := "java/lang/Math", name := "max", desc := "(II)I" } : Jvm.MethodName)) ∈ am_ts := am_in_3 (List.mem_of_getElem? (i := 20) rfl) rfl
theorem wd_3_21 : (Jvm.Cond.methodLink "SignCellar" (225 : Nat) ({ cls := "SignCellar$Rules", name := "squeeze", desc := "(LSignCellar$Row;)V" } : Jvm.MethodName)) ∈ am_ts := am_in_3 (List.mem_of_getElem? (i := 21) rfl) rfl
theorem wd_3_22 : (Jvm.Cond.instanceMethod ({ cls := "SignCellar$Rules", name := "squeeze", desc := "(LSignCellar$Row;)V" } : Jvm.MethodName)) ∈ am_ts := am_in_3 (List.mem_of_getElem? (i := 22) rfl) rfl
theorem wd_3_23 : (Jvm.Cond.selects "SignCellar$Rules" ({ cls := "SignCellar$Rules", name := "squeeze", desc := "(LSignCellar$Row;)V" } : Jvm.MethodName) ({ cls := "SignCellar$Rules", name := "squeeze", desc := "(LSignCellar$Row;)V" } : Jvm.MethodName)) ∈ am_ts := am_in_3 (List.mem_of_getElem? (i := 23) rfl) rfl
theorem wd_3_24 : (Jvm.Cond.code ({ cls := "SignCellar$Rules", name := "squeeze", desc := "(LSignCellar$Row;)V" } : Jvm.MethodName) prog_7_method_2_code (3 : Nat) (Option.none : Option Jvm.ClassFile.FieldType)) ∈ am_ts := am_in_3 (List.mem_of_getElem? (i := 24) rfl) rfl
theorem wd_3_25 : (Jvm.Cond.methodLink "SignCellar$Rules" (37 : Nat) ({ cls := "SignCellar$Row", name := "become", desc := "(LSignCellar$Row;)V" } : Jvm.MethodName)) ∈ am_ts := am_in_3 (List.mem_of_getElem? (i := 25) rfl) rfl
theorem wd_3_26 : (Jvm.Cond.instanceMethod ({ cls := "SignCellar$Row", name := "become", desc := "(LSignCellar$Row;)V" } : Jvm.MethodName)) ∈ am_ts := am_in_3 (List.mem_of_getElem? (i := 26) rfl) rfl
theorem wd_3_27 : (Jvm.Cond.selects "SignCellar$Row" ({ cls := "SignCellar$Row", name := "become", desc := "(LSignCellar$Row;)V" } : Jvm.MethodName) ({ cls := "SignCellar$Row", name := "become", desc := "(LSignCellar$Row;)V" } : Jvm.MethodName)) ∈ am_ts := am_in_3 (List.mem_of_getElem? (i := 27) rfl) rfl
theorem wd_3_28 : (Jvm.Cond.code ({ cls := "SignCellar$Row", name := "become", desc := "(LSignCellar$Row;)V" } : Jvm.MethodName) prog_6_method_8_code (2 : Nat) (Option.none : Option Jvm.ClassFile.FieldType)) ∈ am_ts := am_in_3 (List.mem_of_getElem? (i := 28) rfl) rfl
theorem wd_3_29 : (Jvm.Cond.methodLink "SignCellar$Row" (33 : Nat) ({ cls := "SignCellar$Row", name := "empty", desc := "()V" } : Jvm.MethodName)) ∈ am_ts := am_in_3 (List.mem_of_getElem? (i := 29) rfl) rfl
theorem wd_3_30 : (Jvm.Cond.methodLink "SignCellar$Row" (36 : Nat) ({ cls := "SignCellar$Row", name := "addPart", desc := "(LSignCellar$Row;II)V" } : Jvm.MethodName)) ∈ am_ts := am_in_3 (List.mem_of_getElem? (i := 30) rfl) rfl
theorem wd_3_31 : (Jvm.Cond.methodLink "SignCellar$Rules" (41 : Nat) ({ cls := "SignCellar$Rules", name := "findPair", desc := "()Z" } : Jvm.MethodName)) ∈ am_ts := am_in_3 (List.mem_of_getElem? (i := 31) rfl) rfl
theorem wd_3_33 : (Jvm.Cond.instanceMethod ({ cls := "SignCellar$Rules", name := "findPair", desc := "()Z" } : Jvm.MethodName)) ∈ am_ts := am_in_3 (List.mem_of_getElem? (i := 33) rfl) rfl
theorem wd_3_34 : (Jvm.Cond.code ({ cls := "SignCellar$Rules", name := "findPair", desc := "()Z" } : Jvm.MethodName) prog_7_method_7_code (7 : Nat) (Option.some Jvm.ClassFile.FieldType.boolean)) ∈ am_ts := am_in_3 (List.mem_of_getElem? (i := 34) rfl) rfl
theorem wd_3_35 : (Jvm.Cond.methodLink "SignCellar$Rules" (64 : Nat) ({ cls := "SignCellar$Row", name := "length", desc := "()I" } : Jvm.MethodName)) ∈ am_ts := am_in_3 (List.mem_of_getElem? (i := 35) rfl) rfl
theorem wd_3_36 : (Jvm.Cond.methodLink "SignCellar$Rules" (71 : Nat) ({ cls := "SignCellar$Row", name := "at", desc := "(I)I" } : Jvm.MethodName)) ∈ am_ts := am_in_3 (List.mem_of_getElem? (i := 36) rfl) rfl
theorem wd_3_37 : (Jvm.Cond.methodLink "SignCellar$Rules" (74 : Nat) ({ cls := "SignCellar$Rules", name := "timesOf", desc := "(II)I" } : Jvm.MethodName)) ∈ am_ts := am_in_3 (List.mem_of_getElem? (i := 37) rfl) rfl
theorem wd_3_39 : (Jvm.Cond.instanceMethod ({ cls := "SignCellar$Rules", name := "timesOf", desc := "(II)I" } : Jvm.MethodName)) ∈ am_ts := am_in_3 (List.mem_of_getElem? (i := 39) rfl) rfl
theorem wd_3_40 : (Jvm.Cond.code ({ cls := "SignCellar$Rules", name := "timesOf", desc := "(II)I" } : Jvm.MethodName) prog_7_method_8_code (5 : Nat) (Option.some Jvm.ClassFile.FieldType.int)) ∈ am_ts := am_in_3 (List.mem_of_getElem? (i := 40) rfl) rfl
theorem wd_3_41 : (Jvm.Cond.methodLink "SignCellar$Rules" (45 : Nat) ({ cls := "SignCellar$Row", name := "empty", desc := "()V" } : Jvm.MethodName)) ∈ am_ts := am_in_3 (List.mem_of_getElem? (i := 41) rfl) rfl
theorem wd_3_42 : (Jvm.Cond.methodLink "SignCellar$Rules" (48 : Nat) ({ cls := "SignCellar$Row", name := "add", desc := "(I)V" } : Jvm.MethodName)) ∈ am_ts := am_in_3 (List.mem_of_getElem? (i := 42) rfl) rfl
theorem wd_3_43 : (Jvm.Cond.methodLink "SignCellar$Rules" (51 : Nat) ({ cls := "SignCellar$Rules", name := "join", desc := "(I)V" } : Jvm.MethodName)) ∈ am_ts := am_in_3 (List.mem_of_getElem? (i := 43) rfl) rfl
theorem wd_3_45 : (Jvm.Cond.instanceMethod ({ cls := "SignCellar$Rules", name := "join", desc := "(I)V" } : Jvm.MethodName)) ∈ am_ts := am_in_3 (List.mem_of_getElem? (i := 45) rfl) rfl
theorem wd_3_46 : (Jvm.Cond.code ({ cls := "SignCellar$Rules", name := "join", desc := "(I)V" } : Jvm.MethodName) prog_7_method_9_code (3 : Nat) (Option.none : Option Jvm.ClassFile.FieldType)) ∈ am_ts := am_in_3 (List.mem_of_getElem? (i := 46) rfl) rfl
theorem wd_3_47 : (Jvm.Cond.methodLink "SignCellar$Rules" (54 : Nat) ({ cls := "SignCellar$Rules", name := "standing", desc := "(I)I" } : Jvm.MethodName)) ∈ am_ts := am_in_3 (List.mem_of_getElem? (i := 47) rfl) rfl
theorem wd_3_49 : (Jvm.Cond.instanceMethod ({ cls := "SignCellar$Rules", name := "standing", desc := "(I)I" } : Jvm.MethodName)) ∈ am_ts := am_in_3 (List.mem_of_getElem? (i := 49) rfl) rfl
theorem wd_3_50 : (Jvm.Cond.code ({ cls := "SignCellar$Rules", name := "standing", desc := "(I)I" } : Jvm.MethodName) prog_7_method_10_code (4 : Nat) (Option.some Jvm.ClassFile.FieldType.int)) ∈ am_ts := am_in_3 (List.mem_of_getElem? (i := 50) rfl) rfl
theorem wd_3_51 : (Jvm.Cond.methodLink "SignCellar$Rules" (78 : Nat) ({ cls := "SignCellar$Row", name := "times", desc := "(I)I" } : Jvm.MethodName)) ∈ am_ts := am_in_3 (List.mem_of_getElem? (i := 51) rfl) rfl
theorem wd_3_52 : (Jvm.Cond.instanceMethod ({ cls := "SignCellar$Row", name := "times", desc := "(I)I" } : Jvm.MethodName)) ∈ am_ts := am_in_3 (List.mem_of_getElem? (i := 52) rfl) rfl
theorem wd_3_53 : (Jvm.Cond.selects "SignCellar$Row" ({ cls := "SignCellar$Row", name := "times", desc := "(I)I" } : Jvm.MethodName) ({ cls := "SignCellar$Row", name := "times", desc := "(I)I" } : Jvm.MethodName)) ∈ am_ts := am_in_3 (List.mem_of_getElem? (i := 53) rfl) rfl
theorem wd_3_54 : (Jvm.Cond.code ({ cls := "SignCellar$Row", name := "times", desc := "(I)I" } : Jvm.MethodName) prog_6_method_12_code (2 : Nat) (Option.some Jvm.ClassFile.FieldType.int)) ∈ am_ts := am_in_3 (List.mem_of_getElem? (i := 54) rfl) rfl
theorem wd_3_55 : (Jvm.Cond.methodLink "SignCellar$Row" (43 : Nat) ({ cls := "SignCellar$Row", name := "timesWithin", desc := "(III)I" } : Jvm.MethodName)) ∈ am_ts := am_in_3 (List.mem_of_getElem? (i := 55) rfl) rfl
theorem wd_3_56 : (Jvm.Cond.instanceMethod ({ cls := "SignCellar$Row", name := "timesWithin", desc := "(III)I" } : Jvm.MethodName)) ∈ am_ts := am_in_3 (List.mem_of_getElem? (i := 56) rfl) rfl
theorem wd_3_57 : (Jvm.Cond.selects "SignCellar$Row" ({ cls := "SignCellar$Row", name := "timesWithin", desc := "(III)I" } : Jvm.MethodName) ({ cls := "SignCellar$Row", name := "timesWithin", desc := "(III)I" } : Jvm.MethodName)) ∈ am_ts := am_in_3 (List.mem_of_getElem? (i := 57) rfl) rfl
theorem wd_3_58 : (Jvm.Cond.code ({ cls := "SignCellar$Row", name := "timesWithin", desc := "(III)I" } : Jvm.MethodName) prog_6_method_13_code (6 : Nat) (Option.some Jvm.ClassFile.FieldType.int)) ∈ am_ts := am_in_3 (List.mem_of_getElem? (i := 58) rfl) rfl
theorem wd_3_59 : (Jvm.Cond.methodLink "SignCellar$Rules" (58 : Nat) ({ cls := "SignCellar$Rules", name := "putBack", desc := "(I)V" } : Jvm.MethodName)) ∈ am_ts := am_in_3 (List.mem_of_getElem? (i := 59) rfl) rfl
theorem wd_3_61 : (Jvm.Cond.instanceMethod ({ cls := "SignCellar$Rules", name := "putBack", desc := "(I)V" } : Jvm.MethodName)) ∈ am_ts := am_in_3 (List.mem_of_getElem? (i := 61) rfl) rfl
theorem wd_3_62 : (Jvm.Cond.code ({ cls := "SignCellar$Rules", name := "putBack", desc := "(I)V" } : Jvm.MethodName) prog_7_method_11_code (3 : Nat) (Option.none : Option Jvm.ClassFile.FieldType)) ∈ am_ts := am_in_3 (List.mem_of_getElem? (i := 62) rfl) rfl
theorem wd_3_63 : (Jvm.Cond.methodLink "SignCellar$Rules" (81 : Nat) ({ cls := "SignCellar$Rules", name := "expand", desc := "(LSignCellar$Row;I)V" } : Jvm.MethodName)) ∈ am_ts := am_in_3 (List.mem_of_getElem? (i := 63) rfl) rfl
theorem wd_3_65 : (Jvm.Cond.instanceMethod ({ cls := "SignCellar$Rules", name := "expand", desc := "(LSignCellar$Row;I)V" } : Jvm.MethodName)) ∈ am_ts := am_in_3 (List.mem_of_getElem? (i := 65) rfl) rfl
theorem wd_3_66 : (Jvm.Cond.code ({ cls := "SignCellar$Rules", name := "expand", desc := "(LSignCellar$Row;I)V" } : Jvm.MethodName) prog_7_method_12_code (4 : Nat) (Option.none : Option Jvm.ClassFile.FieldType)) ∈ am_ts := am_in_3 (List.mem_of_getElem? (i := 66) rfl) rfl
theorem wd_3_67 : (Jvm.Cond.methodLink "SignCellar$Rules" (85 : Nat) ({ cls := "SignCellar$Row", name := "addPart", desc := "(LSignCellar$Row;II)V" } : Jvm.MethodName)) ∈ am_ts := am_in_3 (List.mem_of_getElem? (i := 67) rfl) rfl
theorem wd_3_68 : (Jvm.Cond.methodLink "SignCellar" (239 : Nat) ({ cls := "SignCellar$Odds", name := "squeeze", desc := "(LSignCellar$Row;)V" } : Jvm.MethodName)) ∈ am_ts := am_in_3 (List.mem_of_getElem? (i := 68) rfl) rfl
theorem wd_3_69 : (Jvm.Cond.instanceMethod ({ cls := "SignCellar$Odds", name := "squeeze", desc := "(LSignCellar$Row;)V" } : Jvm.MethodName)) ∈ am_ts := am_in_3 (List.mem_of_getElem? (i := 69) rfl) rfl
theorem wd_3_70 : (Jvm.Cond.selects "SignCellar$Odds" ({ cls := "SignCellar$Odds", name := "squeeze", desc := "(LSignCellar$Row;)V" } : Jvm.MethodName) ({ cls := "SignCellar$Odds", name := "squeeze", desc := "(LSignCellar$Row;)V" } : Jvm.MethodName)) ∈ am_ts := am_in_3 (List.mem_of_getElem? (i := 70) rfl) rfl
theorem wd_3_71 : (Jvm.Cond.code ({ cls := "SignCellar$Odds", name := "squeeze", desc := "(LSignCellar$Row;)V" } : Jvm.MethodName) prog_5_method_2_code (3 : Nat) (Option.none : Option Jvm.ClassFile.FieldType)) ∈ am_ts := am_in_3 (List.mem_of_getElem? (i := 71) rfl) rfl
theorem wd_3_72 : (Jvm.Cond.methodLink "SignCellar$Odds" (35 : Nat) ({ cls := "SignCellar$Row", name := "empty", desc := "()V" } : Jvm.MethodName)) ∈ am_ts := am_in_3 (List.mem_of_getElem? (i := 72) rfl) rfl
theorem wd_3_73 : (Jvm.Cond.methodLink "SignCellar$Odds" (38 : Nat) ({ cls := "SignCellar$Row", name := "length", desc := "()I" } : Jvm.MethodName)) ∈ am_ts := am_in_3 (List.mem_of_getElem? (i := 73) rfl) rfl
theorem wd_3_74 : (Jvm.Cond.methodLink "SignCellar$Odds" (42 : Nat) ({ cls := "SignCellar$Odds", name := "learn", desc := "(LSignCellar$Row;I)V" } : Jvm.MethodName)) ∈ am_ts := am_in_3 (List.mem_of_getElem? (i := 74) rfl) rfl
theorem wd_3_76 : (Jvm.Cond.instanceMethod ({ cls := "SignCellar$Odds", name := "learn", desc := "(LSignCellar$Row;I)V" } : Jvm.MethodName)) ∈ am_ts := am_in_3 (List.mem_of_getElem? (i := 76) rfl) rfl
theorem wd_3_77 : (Jvm.Cond.code ({ cls := "SignCellar$Odds", name := "learn", desc := "(LSignCellar$Row;I)V" } : Jvm.MethodName) prog_5_method_3_code (5 : Nat) (Option.none : Option Jvm.ClassFile.FieldType)) ∈ am_ts := am_in_3 (List.mem_of_getElem? (i := 77) rfl) rfl
theorem wd_3_78 : (Jvm.Cond.methodLink "SignCellar$Odds" (59 : Nat) ({ cls := "java/util/Arrays", name := "fill", desc := "([II)V" } : Jvm.MethodName)) ∈ am_ts := am_in_3 (List.mem_of_getElem? (i := 78) rfl) rfl
theorem wd_3_79 : (Jvm.Cond.methodLink "SignCellar$Odds" (46 : Nat) ({ cls := "SignCellar$Row", name := "at", desc := "(I)I" } : Jvm.MethodName)) ∈ am_ts := am_in_3 (List.mem_of_getElem? (i := 79) rfl) rfl
theorem wd_3_80 : (Jvm.Cond.methodLink "SignCellar$Odds" (50 : Nat) ({ cls := "SignCellar$Odds", name := "narrow", desc := "(I)V" } : Jvm.MethodName)) ∈ am_ts := am_in_3 (List.mem_of_getElem? (i := 80) rfl) rfl
theorem wd_3_82 : (Jvm.Cond.instanceMethod ({ cls := "SignCellar$Odds", name := "narrow", desc := "(I)V" } : Jvm.MethodName)) ∈ am_ts := am_in_3 (List.mem_of_getElem? (i := 82) rfl) rfl
theorem wd_3_83 : (Jvm.Cond.code ({ cls := "SignCellar$Odds", name := "narrow", desc := "(I)V" } : Jvm.MethodName) prog_5_method_4_code (6 : Nat) (Option.none : Option Jvm.ClassFile.FieldType)) ∈ am_ts := am_in_3 (List.mem_of_getElem? (i := 83) rfl) rfl
theorem wd_3_84 : (Jvm.Cond.methodLink "SignCellar$Odds" (53 : Nat) ({ cls := "SignCellar$Odds", name := "widen", desc := "()V" } : Jvm.MethodName)) ∈ am_ts := am_in_3 (List.mem_of_getElem? (i := 84) rfl) rfl
theorem wd_3_86 : (Jvm.Cond.instanceMethod ({ cls := "SignCellar$Odds", name := "widen", desc := "()V" } : Jvm.MethodName)) ∈ am_ts := am_in_3 (List.mem_of_getElem? (i := 86) rfl) rfl
theorem wd_3_87 : (Jvm.Cond.code ({ cls := "SignCellar$Odds", name := "widen", desc := "()V" } : Jvm.MethodName) prog_5_method_5_code (3 : Nat) (Option.none : Option Jvm.ClassFile.FieldType)) ∈ am_ts := am_in_3 (List.mem_of_getElem? (i := 87) rfl) rfl
theorem wd_3_88 : (Jvm.Cond.constant "SignCellar$Odds" (65 : Nat) (32768 : Int32)) ∈ am_ts := am_in_3 (List.mem_of_getElem? (i := 88) rfl) rfl
theorem wd_3_89 : (Jvm.Cond.methodLink "SignCellar$Odds" (56 : Nat) ({ cls := "SignCellar$Odds", name := "emit", desc := "(I)V" } : Jvm.MethodName)) ∈ am_ts := am_in_3 (List.mem_of_getElem? (i := 89) rfl) rfl
theorem wd_3_91 : (Jvm.Cond.instanceMethod ({ cls := "SignCellar$Odds", name := "emit", desc := "(I)V" } : Jvm.MethodName)) ∈ am_ts := am_in_3 (List.mem_of_getElem? (i := 91) rfl) rfl
theorem wd_3_92 : (Jvm.Cond.code ({ cls := "SignCellar$Odds", name := "emit", desc := "(I)V" } : Jvm.MethodName) prog_5_method_6_code (3 : Nat) (Option.none : Option Jvm.ClassFile.FieldType)) ∈ am_ts := am_in_3 (List.mem_of_getElem? (i := 92) rfl) rfl
theorem wd_3_93 : (Jvm.Cond.methodLink "SignCellar$Odds" (67 : Nat) ({ cls := "SignCellar$Row", name := "add", desc := "(I)V" } : Jvm.MethodName)) ∈ am_ts := am_in_3 (List.mem_of_getElem? (i := 93) rfl) rfl
theorem wd_3_94 : (Jvm.Cond.constant "SignCellar$Odds" (66 : Nat) (49152 : Int32)) ∈ am_ts := am_in_3 (List.mem_of_getElem? (i := 94) rfl) rfl
theorem wd_3_95 : (Jvm.Cond.methodLink "SignCellar" (243 : Nat) ({ cls := "SignCellar$Turns", name := "squeeze", desc := "(LSignCellar$Row;)V" } : Jvm.MethodName)) ∈ am_ts := am_in_3 (List.mem_of_getElem? (i := 95) rfl) rfl
theorem wd_3_96 : (Jvm.Cond.instanceMethod ({ cls := "SignCellar$Turns", name := "squeeze", desc := "(LSignCellar$Row;)V" } : Jvm.MethodName)) ∈ am_ts := am_in_3 (List.mem_of_getElem? (i := 96) rfl) rfl
theorem wd_3_97 : (Jvm.Cond.selects "SignCellar$Turns" ({ cls := "SignCellar$Turns", name := "squeeze", desc := "(LSignCellar$Row;)V" } : Jvm.MethodName) ({ cls := "SignCellar$Turns", name := "squeeze", desc := "(LSignCellar$Row;)V" } : Jvm.MethodName)) ∈ am_ts := am_in_3 (List.mem_of_getElem? (i := 97) rfl) rfl
theorem wd_3_98 : (Jvm.Cond.code ({ cls := "SignCellar$Turns", name := "squeeze", desc := "(LSignCellar$Row;)V" } : Jvm.MethodName) prog_8_method_2_code (4 : Nat) (Option.none : Option Jvm.ClassFile.FieldType)) ∈ am_ts := am_in_3 (List.mem_of_getElem? (i := 98) rfl) rfl
theorem wd_3_99 : (Jvm.Cond.methodLink "SignCellar$Turns" (34 : Nat) ({ cls := "SignCellar$Row", name := "length", desc := "()I" } : Jvm.MethodName)) ∈ am_ts := am_in_3 (List.mem_of_getElem? (i := 99) rfl) rfl
theorem wd_3_100 : (Jvm.Cond.methodLink "SignCellar$Turns" (38 : Nat) ({ cls := "java/lang/Math", name := "min", desc := "(II)I" } : Jvm.MethodName)) ∈ am_ts := am_in_3 (List.mem_of_getElem? (i := 100) rfl) rfl
theorem wd_3_101 : (Jvm.Cond.methodLink "SignCellar$Turns" (44 : Nat) ({ cls := "SignCellar$Turns", name := "sort", desc := "(LSignCellar$Row;I)V" } : Jvm.MethodName)) ∈ am_ts := am_in_3 (List.mem_of_getElem? (i := 101) rfl) rfl
theorem wd_3_103 : (Jvm.Cond.instanceMethod ({ cls := "SignCellar$Turns", name := "sort", desc := "(LSignCellar$Row;I)V" } : Jvm.MethodName)) ∈ am_ts := am_in_3 (List.mem_of_getElem? (i := 103) rfl) rfl
theorem wd_3_104 : (Jvm.Cond.code ({ cls := "SignCellar$Turns", name := "sort", desc := "(LSignCellar$Row;I)V" } : Jvm.MethodName) prog_8_method_5_code (5 : Nat) (Option.none : Option Jvm.ClassFile.FieldType)) ∈ am_ts := am_in_3 (List.mem_of_getElem? (i := 104) rfl) rfl
theorem wd_3_105 : (Jvm.Cond.methodLink "SignCellar$Turns" (64 : Nat) ({ cls := "SignCellar$Turns", name := "isAhead", desc := "(LSignCellar$Row;II)Z" } : Jvm.MethodName)) ∈ am_ts := am_in_3 (List.mem_of_getElem? (i := 105) rfl) rfl
theorem wd_3_106 : (Jvm.Cond.static ({ cls := "SignCellar$Turns", name := "isAhead", desc := "(LSignCellar$Row;II)Z" } : Jvm.MethodName)) ∈ am_ts := am_in_3 (List.mem_of_getElem? (i := 106) rfl) rfl
theorem wd_3_107 : (Jvm.Cond.code ({ cls := "SignCellar$Turns", name := "isAhead", desc := "(LSignCellar$Row;II)Z" } : Jvm.MethodName) prog_8_method_6_code (6 : Nat) (Option.some Jvm.ClassFile.FieldType.boolean)) ∈ am_ts := am_in_3 (List.mem_of_getElem? (i := 107) rfl) rfl
theorem wd_3_108 : (Jvm.Cond.methodLink "SignCellar$Turns" (51 : Nat) ({ cls := "SignCellar$Row", name := "at", desc := "(I)I" } : Jvm.MethodName)) ∈ am_ts := am_in_3 (List.mem_of_getElem? (i := 108) rfl) rfl
theorem wd_3_109 : (Jvm.Cond.methodLink "SignCellar$Turns" (48 : Nat) ({ cls := "SignCellar$Row", name := "empty", desc := "()V" } : Jvm.MethodName)) ∈ am_ts := am_in_3 (List.mem_of_getElem? (i := 109) rfl) rfl
theorem wd_3_110 : (Jvm.Cond.methodLink "SignCellar$Turns" (55 : Nat) ({ cls := "SignCellar$Row", name := "add", desc := "(I)V" } : Jvm.MethodName)) ∈ am_ts := am_in_3 (List.mem_of_getElem? (i := 110) rfl) rfl
theorem wd_3_111 : (Jvm.Cond.methodLink "SignCellar$Turns" (58 : Nat) ({ cls := "SignCellar$Turns", name := "findPlaces", desc := "()V" } : Jvm.MethodName)) ∈ am_ts := am_in_3 (List.mem_of_getElem? (i := 111) rfl) rfl
theorem wd_3_113 : (Jvm.Cond.instanceMethod ({ cls := "SignCellar$Turns", name := "findPlaces", desc := "()V" } : Jvm.MethodName)) ∈ am_ts := am_in_3 (List.mem_of_getElem? (i := 113) rfl) rfl
theorem wd_3_114 : (Jvm.Cond.code ({ cls := "SignCellar$Turns", name := "findPlaces", desc := "()V" } : Jvm.MethodName) prog_8_method_7_code (2 : Nat) (Option.none : Option Jvm.ClassFile.FieldType)) ∈ am_ts := am_in_3 (List.mem_of_getElem? (i := 114) rfl) rfl
theorem wd_3_115 : (Jvm.Cond.methodLink "SignCellar$Turns" (68 : Nat) ({ cls := "SignCellar$Turns", name := "toFront", desc := "(I)I" } : Jvm.MethodName)) ∈ am_ts := am_in_3 (List.mem_of_getElem? (i := 115) rfl) rfl
theorem wd_3_117 : (Jvm.Cond.instanceMethod ({ cls := "SignCellar$Turns", name := "toFront", desc := "(I)I" } : Jvm.MethodName)) ∈ am_ts := am_in_3 (List.mem_of_getElem? (i := 117) rfl) rfl
theorem wd_3_118 : (Jvm.Cond.code ({ cls := "SignCellar$Turns", name := "toFront", desc := "(I)I" } : Jvm.MethodName) prog_8_method_8_code (4 : Nat) (Option.some Jvm.ClassFile.FieldType.int)) ∈ am_ts := am_in_3 (List.mem_of_getElem? (i := 118) rfl) rfl
theorem wd_3_119 : (Jvm.Cond.methodLink "SignCellar" (375 : Nat) ({ cls := "SignCellar$Block", name := "addWeight", desc := "(II)V" } : Jvm.MethodName)) ∈ am_ts := am_in_3 (List.mem_of_getElem? (i := 119) rfl) rfl
theorem wd_3_120 : (Jvm.Cond.instanceMethod ({ cls := "SignCellar$Block", name := "addWeight", desc := "(II)V" } : Jvm.MethodName)) ∈ am_ts := am_in_3 (List.mem_of_getElem? (i := 120) rfl) rfl
theorem wd_3_121 : (Jvm.Cond.selects "SignCellar$Block" ({ cls := "SignCellar$Block", name := "addWeight", desc := "(II)V" } : Jvm.MethodName) ({ cls := "SignCellar$Block", name := "addWeight", desc := "(II)V" } : Jvm.MethodName)) ∈ am_ts := am_in_3 (List.mem_of_getElem? (i := 121) rfl) rfl
theorem wd_3_122 : (Jvm.Cond.code ({ cls := "SignCellar$Block", name := "addWeight", desc := "(II)V" } : Jvm.MethodName) prog_2_method_2_code (3 : Nat) (Option.none : Option Jvm.ClassFile.FieldType)) ∈ am_ts := am_in_3 (List.mem_of_getElem? (i := 122) rfl) rfl
theorem wd_3_123 : (Jvm.Cond.methodLink "SignCellar$Block" (34 : Nat) ({ cls := "SignCellar$Row", name := "add", desc := "(I)V" } : Jvm.MethodName)) ∈ am_ts := am_in_3 (List.mem_of_getElem? (i := 123) rfl) rfl
theorem wd_3_124 : (Jvm.Cond.methodLink "SignCellar" (378 : Nat) ({ cls := "SignCellar$Mates", name := "price", desc := "()I" } : Jvm.MethodName)) ∈ am_ts := am_in_3 (List.mem_of_getElem? (i := 124) rfl) rfl
theorem wd_3_125 : (Jvm.Cond.instanceMethod ({ cls := "SignCellar$Mates", name := "price", desc := "()I" } : Jvm.MethodName)) ∈ am_ts := am_in_3 (List.mem_of_getElem? (i := 125) rfl) rfl
theorem wd_3_126 : (Jvm.Cond.selects "SignCellar$Mates" ({ cls := "SignCellar$Mates", name := "price", desc := "()I" } : Jvm.MethodName) ({ cls := "SignCellar$Mates", name := "price", desc := "()I" } : Jvm.MethodName)) ∈ am_ts := am_in_3 (List.mem_of_getElem? (i := 126) rfl) rfl
theorem wd_3_127 : (Jvm.Cond.code ({ cls := "SignCellar$Mates", name := "price", desc := "()I" } : Jvm.MethodName) prog_4_method_3_code (1 : Nat) (Option.some Jvm.ClassFile.FieldType.int)) ∈ am_ts := am_in_3 (List.mem_of_getElem? (i := 127) rfl) rfl
theorem wd_3_128 : (Jvm.Cond.methodLink "SignCellar" (381 : Nat) ({ cls := "SignCellar$Rules", name := "price", desc := "()I" } : Jvm.MethodName)) ∈ am_ts := am_in_3 (List.mem_of_getElem? (i := 128) rfl) rfl
theorem wd_3_129 : (Jvm.Cond.instanceMethod ({ cls := "SignCellar$Rules", name := "price", desc := "()I" } : Jvm.MethodName)) ∈ am_ts := am_in_3 (List.mem_of_getElem? (i := 129) rfl) rfl
theorem wd_3_130 : (Jvm.Cond.selects "SignCellar$Rules" ({ cls := "SignCellar$Rules", name := "price", desc := "()I" } : Jvm.MethodName) ({ cls := "SignCellar$Rules", name := "price", desc := "()I" } : Jvm.MethodName)) ∈ am_ts := am_in_3 (List.mem_of_getElem? (i := 130) rfl) rfl
theorem wd_3_131 : (Jvm.Cond.code ({ cls := "SignCellar$Rules", name := "price", desc := "()I" } : Jvm.MethodName) prog_7_method_4_code (3 : Nat) (Option.some Jvm.ClassFile.FieldType.int)) ∈ am_ts := am_in_3 (List.mem_of_getElem? (i := 131) rfl) rfl
theorem wd_3_132 : (Jvm.Cond.methodLink "SignCellar$Rules" (68 : Nat) ({ cls := "SignCellar$Rules", name := "left", desc := "()I" } : Jvm.MethodName)) ∈ am_ts := am_in_3 (List.mem_of_getElem? (i := 132) rfl) rfl
theorem wd_3_133 : (Jvm.Cond.instanceMethod ({ cls := "SignCellar$Rules", name := "left", desc := "()I" } : Jvm.MethodName)) ∈ am_ts := am_in_3 (List.mem_of_getElem? (i := 133) rfl) rfl
theorem wd_3_134 : (Jvm.Cond.selects "SignCellar$Rules" ({ cls := "SignCellar$Rules", name := "left", desc := "()I" } : Jvm.MethodName) ({ cls := "SignCellar$Rules", name := "left", desc := "()I" } : Jvm.MethodName)) ∈ am_ts := am_in_3 (List.mem_of_getElem? (i := 134) rfl) rfl
theorem wd_3_135 : (Jvm.Cond.code ({ cls := "SignCellar$Rules", name := "left", desc := "()I" } : Jvm.MethodName) prog_7_method_3_code (3 : Nat) (Option.some Jvm.ClassFile.FieldType.int)) ∈ am_ts := am_in_3 (List.mem_of_getElem? (i := 135) rfl) rfl
theorem wd_3_136 : (Jvm.Cond.methodLink "SignCellar$Rules" (61 : Nat) ({ cls := "SignCellar$Rules", name := "lengthOf", desc := "(I)I" } : Jvm.MethodName)) ∈ am_ts := am_in_3 (List.mem_of_getElem? (i := 136) rfl) rfl
theorem wd_3_137 : (Jvm.Cond.instanceMethod ({ cls := "SignCellar$Rules", name := "lengthOf", desc := "(I)I" } : Jvm.MethodName)) ∈ am_ts := am_in_3 (List.mem_of_getElem? (i := 137) rfl) rfl
theorem wd_3_138 : (Jvm.Cond.selects "SignCellar$Rules" ({ cls := "SignCellar$Rules", name := "lengthOf", desc := "(I)I" } : Jvm.MethodName) ({ cls := "SignCellar$Rules", name := "lengthOf", desc := "(I)I" } : Jvm.MethodName)) ∈ am_ts := am_in_3 (List.mem_of_getElem? (i := 138) rfl) rfl
theorem wd_3_139 : (Jvm.Cond.code ({ cls := "SignCellar$Rules", name := "lengthOf", desc := "(I)I" } : Jvm.MethodName) prog_7_method_5_code (2 : Nat) (Option.some Jvm.ClassFile.FieldType.int)) ∈ am_ts := am_in_3 (List.mem_of_getElem? (i := 139) rfl) rfl
theorem wd_3_140 : (Jvm.Cond.methodLink "SignCellar" (227 : Nat) ({ cls := "SignCellar$Rules", name := "left", desc := "()I" } : Jvm.MethodName)) ∈ am_ts := am_in_3 (List.mem_of_getElem? (i := 140) rfl) rfl
theorem wd_3_141 : (Jvm.Cond.methodLink "SignCellar" (382 : Nat) ({ cls := "SignCellar$Turns", name := "price", desc := "()I" } : Jvm.MethodName)) ∈ am_ts := am_in_3 (List.mem_of_getElem? (i := 141) rfl) rfl
theorem wd_3_142 : (Jvm.Cond.instanceMethod ({ cls := "SignCellar$Turns", name := "price", desc := "()I" } : Jvm.MethodName)) ∈ am_ts := am_in_3 (List.mem_of_getElem? (i := 142) rfl) rfl
theorem wd_3_143 : (Jvm.Cond.selects "SignCellar$Turns" ({ cls := "SignCellar$Turns", name := "price", desc := "()I" } : Jvm.MethodName) ({ cls := "SignCellar$Turns", name := "price", desc := "()I" } : Jvm.MethodName)) ∈ am_ts := am_in_3 (List.mem_of_getElem? (i := 143) rfl) rfl
theorem wd_3_144 : (Jvm.Cond.code ({ cls := "SignCellar$Turns", name := "price", desc := "()I" } : Jvm.MethodName) prog_8_method_3_code (3 : Nat) (Option.some Jvm.ClassFile.FieldType.int)) ∈ am_ts := am_in_3 (List.mem_of_getElem? (i := 144) rfl) rfl
theorem wd_3_145 : (Jvm.Cond.methodLink "SignCellar$Turns" (61 : Nat) ({ cls := "SignCellar$Turns", name := "placePrice", desc := "(I)I" } : Jvm.MethodName)) ∈ am_ts := am_in_3 (List.mem_of_getElem? (i := 145) rfl) rfl
theorem wd_3_146 : (Jvm.Cond.static ({ cls := "SignCellar$Turns", name := "placePrice", desc := "(I)I" } : Jvm.MethodName)) ∈ am_ts := am_in_3 (List.mem_of_getElem? (i := 146) rfl) rfl
theorem wd_3_147 : (Jvm.Cond.code ({ cls := "SignCellar$Turns", name := "placePrice", desc := "(I)I" } : Jvm.MethodName) prog_8_method_4_code (3 : Nat) (Option.some Jvm.ClassFile.FieldType.int)) ∈ am_ts := am_in_3 (List.mem_of_getElem? (i := 147) rfl) rfl
theorem wd_3_148 : (Jvm.Cond.methodLink "SignCellarLaw" (68 : Nat) ({ cls := "SignCellar", name := "time", desc := "(II)I" } : Jvm.MethodName)) ∈ am_ts := am_in_3 (List.mem_of_getElem? (i := 148) rfl) rfl
theorem wd_3_149 : (Jvm.Cond.instanceMethod ({ cls := "SignCellar", name := "time", desc := "(II)I" } : Jvm.MethodName)) ∈ am_ts := am_in_3 (List.mem_of_getElem? (i := 149) rfl) rfl
theorem wd_3_150 : (Jvm.Cond.selects "SignCellar" ({ cls := "SignCellar", name := "time", desc := "(II)I" } : Jvm.MethodName) ({ cls := "SignCellar", name := "time", desc := "(II)I" } : Jvm.MethodName)) ∈ am_ts := am_in_3 (List.mem_of_getElem? (i := 150) rfl) rfl
theorem wd_3_151 : (Jvm.Cond.code ({ cls := "SignCellar", name := "time", desc := "(II)I" } : Jvm.MethodName) prog_1_method_14_code (5 : Nat) (Option.some Jvm.ClassFile.FieldType.int)) ∈ am_ts := am_in_3 (List.mem_of_getElem? (i := 151) rfl) rfl
theorem wd_3_152 : (Jvm.Cond.methodLink "SignCellarLaw" (72 : Nat) ({ cls := "SignCellar", name := "cut", desc := "(II)I" } : Jvm.MethodName)) ∈ am_ts := am_in_3 (List.mem_of_getElem? (i := 152) rfl) rfl
theorem wd_3_153 : (Jvm.Cond.instanceMethod ({ cls := "SignCellar", name := "cut", desc := "(II)I" } : Jvm.MethodName)) ∈ am_ts := am_in_3 (List.mem_of_getElem? (i := 153) rfl) rfl
theorem wd_3_154 : (Jvm.Cond.selects "SignCellar" ({ cls := "SignCellar", name := "cut", desc := "(II)I" } : Jvm.MethodName) ({ cls := "SignCellar", name := "cut", desc := "(II)I" } : Jvm.MethodName)) ∈ am_ts := am_in_3 (List.mem_of_getElem? (i := 154) rfl) rfl
theorem wd_3_155 : (Jvm.Cond.code ({ cls := "SignCellar", name := "cut", desc := "(II)I" } : Jvm.MethodName) prog_1_method_15_code (4 : Nat) (Option.some Jvm.ClassFile.FieldType.int)) ∈ am_ts := am_in_3 (List.mem_of_getElem? (i := 155) rfl) rfl
theorem wd_3_156 : (Jvm.Cond.methodLink "SignCellarLaw" (76 : Nat) ({ cls := "SignCellar", name := "rule", desc := "(III)I" } : Jvm.MethodName)) ∈ am_ts := am_in_3 (List.mem_of_getElem? (i := 156) rfl) rfl
theorem wd_3_157 : (Jvm.Cond.instanceMethod ({ cls := "SignCellar", name := "rule", desc := "(III)I" } : Jvm.MethodName)) ∈ am_ts := am_in_3 (List.mem_of_getElem? (i := 157) rfl) rfl
theorem wd_3_158 : (Jvm.Cond.selects "SignCellar" ({ cls := "SignCellar", name := "rule", desc := "(III)I" } : Jvm.MethodName) ({ cls := "SignCellar", name := "rule", desc := "(III)I" } : Jvm.MethodName)) ∈ am_ts := am_in_3 (List.mem_of_getElem? (i := 158) rfl) rfl
theorem wd_3_159 : (Jvm.Cond.code ({ cls := "SignCellar", name := "rule", desc := "(III)I" } : Jvm.MethodName) prog_1_method_16_code (5 : Nat) (Option.some Jvm.ClassFile.FieldType.int)) ∈ am_ts := am_in_3 (List.mem_of_getElem? (i := 159) rfl) rfl
theorem wd_3_160 : (Jvm.Cond.methodLink "SignCellar" (233 : Nat) ({ cls := "SignCellar$Rules", name := "lengthOf", desc := "(I)I" } : Jvm.MethodName)) ∈ am_ts := am_in_3 (List.mem_of_getElem? (i := 160) rfl) rfl
theorem wd_3_161 : (Jvm.Cond.methodLink "SignCellar" (236 : Nat) ({ cls := "SignCellar$Rules", name := "pieceOf", desc := "(II)I" } : Jvm.MethodName)) ∈ am_ts := am_in_3 (List.mem_of_getElem? (i := 161) rfl) rfl
theorem wd_3_162 : (Jvm.Cond.instanceMethod ({ cls := "SignCellar$Rules", name := "pieceOf", desc := "(II)I" } : Jvm.MethodName)) ∈ am_ts := am_in_3 (List.mem_of_getElem? (i := 162) rfl) rfl
theorem wd_3_163 : (Jvm.Cond.selects "SignCellar$Rules" ({ cls := "SignCellar$Rules", name := "pieceOf", desc := "(II)I" } : Jvm.MethodName) ({ cls := "SignCellar$Rules", name := "pieceOf", desc := "(II)I" } : Jvm.MethodName)) ∈ am_ts := am_in_3 (List.mem_of_getElem? (i := 163) rfl) rfl
theorem wd_3_164 : (Jvm.Cond.code ({ cls := "SignCellar$Rules", name := "pieceOf", desc := "(II)I" } : Jvm.MethodName) prog_7_method_6_code (3 : Nat) (Option.some Jvm.ClassFile.FieldType.int)) ∈ am_ts := am_in_3 (List.mem_of_getElem? (i := 164) rfl) rfl
theorem wd_3_165 : (Jvm.Cond.methodLink "SignCellarLaw" (80 : Nat) ({ cls := "SignCellar", name := "bit", desc := "(II)I" } : Jvm.MethodName)) ∈ am_ts := am_in_3 (List.mem_of_getElem? (i := 165) rfl) rfl
theorem wd_3_166 : (Jvm.Cond.instanceMethod ({ cls := "SignCellar", name := "bit", desc := "(II)I" } : Jvm.MethodName)) ∈ am_ts := am_in_3 (List.mem_of_getElem? (i := 166) rfl) rfl
theorem wd_3_167 : (Jvm.Cond.selects "SignCellar" ({ cls := "SignCellar", name := "bit", desc := "(II)I" } : Jvm.MethodName) ({ cls := "SignCellar", name := "bit", desc := "(II)I" } : Jvm.MethodName)) ∈ am_ts := am_in_3 (List.mem_of_getElem? (i := 167) rfl) rfl
theorem wd_3_168 : (Jvm.Cond.code ({ cls := "SignCellar", name := "bit", desc := "(II)I" } : Jvm.MethodName) prog_1_method_17_code (4 : Nat) (Option.some Jvm.ClassFile.FieldType.int)) ∈ am_ts := am_in_3 (List.mem_of_getElem? (i := 168) rfl) rfl
theorem wd_3_169 : (Jvm.Cond.methodLink "SignCellarLaw" (84 : Nat) ({ cls := "SignCellar", name := "turned", desc := "(III)I" } : Jvm.MethodName)) ∈ am_ts := am_in_3 (List.mem_of_getElem? (i := 169) rfl) rfl
theorem wd_3_170 : (Jvm.Cond.instanceMethod ({ cls := "SignCellar", name := "turned", desc := "(III)I" } : Jvm.MethodName)) ∈ am_ts := am_in_3 (List.mem_of_getElem? (i := 170) rfl) rfl
theorem wd_3_171 : (Jvm.Cond.selects "SignCellar" ({ cls := "SignCellar", name := "turned", desc := "(III)I" } : Jvm.MethodName) ({ cls := "SignCellar", name := "turned", desc := "(III)I" } : Jvm.MethodName)) ∈ am_ts := am_in_3 (List.mem_of_getElem? (i := 171) rfl) rfl
theorem wd_3_172 : (Jvm.Cond.code ({ cls := "SignCellar", name := "turned", desc := "(III)I" } : Jvm.MethodName) prog_1_method_18_code (5 : Nat) (Option.some Jvm.ClassFile.FieldType.int)) ∈ am_ts := am_in_3 (List.mem_of_getElem? (i := 172) rfl) rfl
theorem wd_3_173 : (Jvm.Cond.methodLink "SignCellarLaw" (88 : Nat) ({ cls := "SignCellar", name := "best", desc := "(III)I" } : Jvm.MethodName)) ∈ am_ts := am_in_3 (List.mem_of_getElem? (i := 173) rfl) rfl
theorem wd_3_174 : (Jvm.Cond.instanceMethod ({ cls := "SignCellar", name := "best", desc := "(III)I" } : Jvm.MethodName)) ∈ am_ts := am_in_3 (List.mem_of_getElem? (i := 174) rfl) rfl
theorem wd_3_175 : (Jvm.Cond.selects "SignCellar" ({ cls := "SignCellar", name := "best", desc := "(III)I" } : Jvm.MethodName) ({ cls := "SignCellar", name := "best", desc := "(III)I" } : Jvm.MethodName)) ∈ am_ts := am_in_3 (List.mem_of_getElem? (i := 175) rfl) rfl
theorem wd_3_176 : (Jvm.Cond.code ({ cls := "SignCellar", name := "best", desc := "(III)I" } : Jvm.MethodName) prog_1_method_19_code (7 : Nat) (Option.some Jvm.ClassFile.FieldType.int)) ∈ am_ts := am_in_3 (List.mem_of_getElem? (i := 176) rfl) rfl
theorem wd_3_177 : (Jvm.Cond.methodLink "SignCellar" (253 : Nat) ({ cls := "SignCellar$Choice", name := "begin", desc := "()V" } : Jvm.MethodName)) ∈ am_ts := am_in_3 (List.mem_of_getElem? (i := 177) rfl) rfl
theorem wd_3_178 : (Jvm.Cond.instanceMethod ({ cls := "SignCellar$Choice", name := "begin", desc := "()V" } : Jvm.MethodName)) ∈ am_ts := am_in_3 (List.mem_of_getElem? (i := 178) rfl) rfl
theorem wd_3_179 : (Jvm.Cond.selects "SignCellar$Choice" ({ cls := "SignCellar$Choice", name := "begin", desc := "()V" } : Jvm.MethodName) ({ cls := "SignCellar$Choice", name := "begin", desc := "()V" } : Jvm.MethodName)) ∈ am_ts := am_in_3 (List.mem_of_getElem? (i := 179) rfl) rfl
theorem wd_3_180 : (Jvm.Cond.code ({ cls := "SignCellar$Choice", name := "begin", desc := "()V" } : Jvm.MethodName) prog_3_method_2_code (1 : Nat) (Option.none : Option Jvm.ClassFile.FieldType)) ∈ am_ts := am_in_3 (List.mem_of_getElem? (i := 180) rfl) rfl
theorem wd_3_181 : (Jvm.Cond.methodLink "SignCellar$Choice" (38 : Nat) ({ cls := "SignCellar$Row", name := "empty", desc := "()V" } : Jvm.MethodName)) ∈ am_ts := am_in_3 (List.mem_of_getElem? (i := 181) rfl) rfl
theorem wd_3_182 : (Jvm.Cond.methodLink "SignCellar" (256 : Nat) ({ cls := "SignCellar$Choice", name := "addBlock", desc := "(LSignCellar$Block;)V" } : Jvm.MethodName)) ∈ am_ts := am_in_3 (List.mem_of_getElem? (i := 182) rfl) rfl
theorem wd_3_183 : (Jvm.Cond.instanceMethod ({ cls := "SignCellar$Choice", name := "addBlock", desc := "(LSignCellar$Block;)V" } : Jvm.MethodName)) ∈ am_ts := am_in_3 (List.mem_of_getElem? (i := 183) rfl) rfl
theorem wd_3_184 : (Jvm.Cond.selects "SignCellar$Choice" ({ cls := "SignCellar$Choice", name := "addBlock", desc := "(LSignCellar$Block;)V" } : Jvm.MethodName) ({ cls := "SignCellar$Choice", name := "addBlock", desc := "(LSignCellar$Block;)V" } : Jvm.MethodName)) ∈ am_ts := am_in_3 (List.mem_of_getElem? (i := 184) rfl) rfl
theorem wd_3_185 : (Jvm.Cond.code ({ cls := "SignCellar$Choice", name := "addBlock", desc := "(LSignCellar$Block;)V" } : Jvm.MethodName) prog_3_method_3_code (2 : Nat) (Option.none : Option Jvm.ClassFile.FieldType)) ∈ am_ts := am_in_3 (List.mem_of_getElem? (i := 185) rfl) rfl
theorem wd_3_186 : (Jvm.Cond.methodLink "SignCellar$Choice" (44 : Nat) ({ cls := "SignCellar$Row", name := "addPart", desc := "(LSignCellar$Row;II)V" } : Jvm.MethodName)) ∈ am_ts := am_in_3 (List.mem_of_getElem? (i := 186) rfl) rfl
theorem wd_3_187 : (Jvm.Cond.methodLink "SignCellar" (259 : Nat) ({ cls := "SignCellar$Choice", name := "choose", desc := "(I)Z" } : Jvm.MethodName)) ∈ am_ts := am_in_3 (List.mem_of_getElem? (i := 187) rfl) rfl
theorem wd_3_188 : (Jvm.Cond.instanceMethod ({ cls := "SignCellar$Choice", name := "choose", desc := "(I)Z" } : Jvm.MethodName)) ∈ am_ts := am_in_3 (List.mem_of_getElem? (i := 188) rfl) rfl
theorem wd_3_189 : (Jvm.Cond.selects "SignCellar$Choice" ({ cls := "SignCellar$Choice", name := "choose", desc := "(I)Z" } : Jvm.MethodName) ({ cls := "SignCellar$Choice", name := "choose", desc := "(I)Z" } : Jvm.MethodName)) ∈ am_ts := am_in_3 (List.mem_of_getElem? (i := 189) rfl) rfl
theorem wd_3_190 : (Jvm.Cond.code ({ cls := "SignCellar$Choice", name := "choose", desc := "(I)Z" } : Jvm.MethodName) prog_3_method_4_code (6 : Nat) (Option.some Jvm.ClassFile.FieldType.boolean)) ∈ am_ts := am_in_3 (List.mem_of_getElem? (i := 190) rfl) rfl
theorem wd_3_191 : (Jvm.Cond.methodLink "SignCellar$Choice" (49 : Nat) ({ cls := "SignCellar$Row", name := "length", desc := "()I" } : Jvm.MethodName)) ∈ am_ts := am_in_3 (List.mem_of_getElem? (i := 191) rfl) rfl
theorem wd_3_192 : (Jvm.Cond.methodLink "SignCellar$Choice" (53 : Nat) ({ cls := "java/lang/Math", name := "min", desc := "(II)I" } : Jvm.MethodName)) ∈ am_ts := am_in_3 (List.mem_of_getElem? (i := 192) rfl) rfl
theorem wd_3_193 : (Jvm.Cond.methodLink "SignCellar$Choice" (59 : Nat) ({ cls := "SignCellar$Choice", name := "timeOfSmallest", desc := "(I)I" } : Jvm.MethodName)) ∈ am_ts := am_in_3 (List.mem_of_getElem? (i := 193) rfl) rfl
theorem wd_3_195 : (Jvm.Cond.instanceMethod ({ cls := "SignCellar$Choice", name := "timeOfSmallest", desc := "(I)I" } : Jvm.MethodName)) ∈ am_ts := am_in_3 (List.mem_of_getElem? (i := 195) rfl) rfl
theorem wd_3_196 : (Jvm.Cond.code ({ cls := "SignCellar$Choice", name := "timeOfSmallest", desc := "(I)I" } : Jvm.MethodName) prog_3_method_5_code (6 : Nat) (Option.some Jvm.ClassFile.FieldType.int)) ∈ am_ts := am_in_3 (List.mem_of_getElem? (i := 196) rfl) rfl
theorem wd_3_197 : (Jvm.Cond.methodLink "SignCellar$Choice" (74 : Nat) ({ cls := "SignCellar$Row", name := "at", desc := "(I)I" } : Jvm.MethodName)) ∈ am_ts := am_in_3 (List.mem_of_getElem? (i := 197) rfl) rfl
theorem wd_3_198 : (Jvm.Cond.methodLink "SignCellar$Choice" (63 : Nat) ({ cls := "java/lang/Math", name := "max", desc := "(II)I" } : Jvm.MethodName)) ∈ am_ts := am_in_3 (List.mem_of_getElem? (i := 198) rfl) rfl
theorem wd_3_199 : (Jvm.Cond.methodLink "SignCellar$Choice" (66 : Nat) ({ cls := "SignCellar$Choice", name := "leastFrom", desc := "(II)I" } : Jvm.MethodName)) ∈ am_ts := am_in_3 (List.mem_of_getElem? (i := 199) rfl) rfl
theorem wd_3_201 : (Jvm.Cond.instanceMethod ({ cls := "SignCellar$Choice", name := "leastFrom", desc := "(II)I" } : Jvm.MethodName)) ∈ am_ts := am_in_3 (List.mem_of_getElem? (i := 201) rfl) rfl
theorem wd_3_202 : (Jvm.Cond.code ({ cls := "SignCellar$Choice", name := "leastFrom", desc := "(II)I" } : Jvm.MethodName) prog_3_method_6_code (5 : Nat) (Option.some Jvm.ClassFile.FieldType.int)) ∈ am_ts := am_in_3 (List.mem_of_getElem? (i := 202) rfl) rfl
theorem wd_3_203 : (Jvm.Cond.constant "SignCellar$Choice" (69 : Nat) (1000000 : Int32)) ∈ am_ts := am_in_3 (List.mem_of_getElem? (i := 203) rfl) rfl
theorem wd_3_204 : (Jvm.Cond.methodLink "SignCellar$Choice" (77 : Nat) ({ cls := "SignCellar$Choice", name := "sizeWith", desc := "(III)I" } : Jvm.MethodName)) ∈ am_ts := am_in_3 (List.mem_of_getElem? (i := 204) rfl) rfl
theorem wd_3_206 : (Jvm.Cond.instanceMethod ({ cls := "SignCellar$Choice", name := "sizeWith", desc := "(III)I" } : Jvm.MethodName)) ∈ am_ts := am_in_3 (List.mem_of_getElem? (i := 206) rfl) rfl
theorem wd_3_207 : (Jvm.Cond.code ({ cls := "SignCellar$Choice", name := "sizeWith", desc := "(III)I" } : Jvm.MethodName) prog_3_method_7_code (5 : Nat) (Option.some Jvm.ClassFile.FieldType.int)) ∈ am_ts := am_in_3 (List.mem_of_getElem? (i := 207) rfl) rfl
theorem wd_3_208 : (Jvm.Cond.methodLink "SignCellar$Choice" (70 : Nat) ({ cls := "SignCellar$Choice", name := "tell", desc := "(II)V" } : Jvm.MethodName)) ∈ am_ts := am_in_3 (List.mem_of_getElem? (i := 208) rfl) rfl
theorem wd_3_210 : (Jvm.Cond.instanceMethod ({ cls := "SignCellar$Choice", name := "tell", desc := "(II)V" } : Jvm.MethodName)) ∈ am_ts := am_in_3 (List.mem_of_getElem? (i := 210) rfl) rfl
theorem wd_3_211 : (Jvm.Cond.code ({ cls := "SignCellar$Choice", name := "tell", desc := "(II)V" } : Jvm.MethodName) prog_3_method_8_code (6 : Nat) (Option.none : Option Jvm.ClassFile.FieldType)) ∈ am_ts := am_in_3 (List.mem_of_getElem? (i := 211) rfl) rfl
theorem wd_3_212 : (Jvm.Cond.methodLink "SignCellar$Choice" (81 : Nat) ({ cls := "SignCellar$Row", name := "add", desc := "(I)V" } : Jvm.MethodName)) ∈ am_ts := am_in_3 (List.mem_of_getElem? (i := 212) rfl) rfl
theorem wd_3_213 : (Jvm.Cond.methodLink "SignCellarLaw" (92 : Nat) ({ cls := "SignCellar", name := "sign", desc := "(I)I" } : Jvm.MethodName)) ∈ am_ts := am_in_3 (List.mem_of_getElem? (i := 213) rfl) rfl
theorem wd_3_214 : (Jvm.Cond.instanceMethod ({ cls := "SignCellar", name := "sign", desc := "(I)I" } : Jvm.MethodName)) ∈ am_ts := am_in_3 (List.mem_of_getElem? (i := 214) rfl) rfl
theorem wd_3_215 : (Jvm.Cond.selects "SignCellar" ({ cls := "SignCellar", name := "sign", desc := "(I)I" } : Jvm.MethodName) ({ cls := "SignCellar", name := "sign", desc := "(I)I" } : Jvm.MethodName)) ∈ am_ts := am_in_3 (List.mem_of_getElem? (i := 215) rfl) rfl
theorem wd_3_216 : (Jvm.Cond.code ({ cls := "SignCellar", name := "sign", desc := "(I)I" } : Jvm.MethodName) prog_1_method_20_code (2 : Nat) (Option.some Jvm.ClassFile.FieldType.int)) ∈ am_ts := am_in_3 (List.mem_of_getElem? (i := 216) rfl) rfl
theorem wd_3_217 : (Jvm.Cond.constant "SignCellar" (271 : Nat) (65535 : Int32)) ∈ am_ts := am_in_3 (List.mem_of_getElem? (i := 217) rfl) rfl
theorem wd_3_218 : (Jvm.Cond.methodLink "SignCellarLaw" (96 : Nat) ({ cls := "SignCellar", name := "clear", desc := "()I" } : Jvm.MethodName)) ∈ am_ts := am_in_3 (List.mem_of_getElem? (i := 218) rfl) rfl
theorem wd_3_219 : (Jvm.Cond.instanceMethod ({ cls := "SignCellar", name := "clear", desc := "()I" } : Jvm.MethodName)) ∈ am_ts := am_in_3 (List.mem_of_getElem? (i := 219) rfl) rfl
theorem wd_3_220 : (Jvm.Cond.selects "SignCellar" ({ cls := "SignCellar", name := "clear", desc := "()I" } : Jvm.MethodName) ({ cls := "SignCellar", name := "clear", desc := "()I" } : Jvm.MethodName)) ∈ am_ts := am_in_3 (List.mem_of_getElem? (i := 220) rfl) rfl
theorem wd_3_221 : (Jvm.Cond.code ({ cls := "SignCellar", name := "clear", desc := "()I" } : Jvm.MethodName) prog_1_method_21_code (2 : Nat) (Option.some Jvm.ClassFile.FieldType.int)) ∈ am_ts := am_in_3 (List.mem_of_getElem? (i := 221) rfl) rfl
theorem wd_3_222 : (Jvm.Cond.methodLink "SignCellarLaw" (100 : Nat) ({ cls := "SignCellar", name := "seek", desc := "(III)I" } : Jvm.MethodName)) ∈ am_ts := am_in_3 (List.mem_of_getElem? (i := 222) rfl) rfl
theorem wd_3_223 : (Jvm.Cond.instanceMethod ({ cls := "SignCellar", name := "seek", desc := "(III)I" } : Jvm.MethodName)) ∈ am_ts := am_in_3 (List.mem_of_getElem? (i := 223) rfl) rfl
theorem wd_3_224 : (Jvm.Cond.selects "SignCellar" ({ cls := "SignCellar", name := "seek", desc := "(III)I" } : Jvm.MethodName) ({ cls := "SignCellar", name := "seek", desc := "(III)I" } : Jvm.MethodName)) ∈ am_ts := am_in_3 (List.mem_of_getElem? (i := 224) rfl) rfl
theorem wd_3_225 : (Jvm.Cond.code ({ cls := "SignCellar", name := "seek", desc := "(III)I" } : Jvm.MethodName) prog_1_method_22_code (7 : Nat) (Option.some Jvm.ClassFile.FieldType.int)) ∈ am_ts := am_in_3 (List.mem_of_getElem? (i := 225) rfl) rfl
theorem wd_3_226 : (Jvm.Cond.methodLink "SignCellar" (272 : Nat) ({ cls := "SignCellar", name := "openAll", desc := "(LSignCellar$Version;)V" } : Jvm.MethodName)) ∈ am_ts := am_in_3 (List.mem_of_getElem? (i := 226) rfl) rfl
theorem wd_3_228 : (Jvm.Cond.instanceMethod ({ cls := "SignCellar", name := "openAll", desc := "(LSignCellar$Version;)V" } : Jvm.MethodName)) ∈ am_ts := am_in_3 (List.mem_of_getElem? (i := 228) rfl) rfl
theorem wd_3_229 : (Jvm.Cond.code ({ cls := "SignCellar", name := "openAll", desc := "(LSignCellar$Version;)V" } : Jvm.MethodName) prog_1_method_61_code (4 : Nat) (Option.none : Option Jvm.ClassFile.FieldType)) ∈ am_ts := am_in_3 (List.mem_of_getElem? (i := 229) rfl) rfl
theorem wd_3_230 : (Jvm.Cond.methodLink "SignCellar" (276 : Nat) ({ cls := "SignCellar", name := "slipsAt", desc := "(I)I" } : Jvm.MethodName)) ∈ am_ts := am_in_3 (List.mem_of_getElem? (i := 230) rfl) rfl
theorem wd_3_232 : (Jvm.Cond.instanceMethod ({ cls := "SignCellar", name := "slipsAt", desc := "(I)I" } : Jvm.MethodName)) ∈ am_ts := am_in_3 (List.mem_of_getElem? (i := 232) rfl) rfl
theorem wd_3_233 : (Jvm.Cond.code ({ cls := "SignCellar", name := "slipsAt", desc := "(I)I" } : Jvm.MethodName) prog_1_method_62_code (4 : Nat) (Option.some Jvm.ClassFile.FieldType.int)) ∈ am_ts := am_in_3 (List.mem_of_getElem? (i := 233) rfl) rfl
theorem wd_3_234 : (Jvm.Cond.methodLink "SignCellarLaw" (104 : Nat) ({ cls := "SignCellar", name := "span", desc := "(IIII)I" } : Jvm.MethodName)) ∈ am_ts := am_in_3 (List.mem_of_getElem? (i := 234) rfl) rfl
theorem wd_3_235 : (Jvm.Cond.instanceMethod ({ cls := "SignCellar", name := "span", desc := "(IIII)I" } : Jvm.MethodName)) ∈ am_ts := am_in_3 (List.mem_of_getElem? (i := 235) rfl) rfl
theorem wd_3_236 : (Jvm.Cond.selects "SignCellar" ({ cls := "SignCellar", name := "span", desc := "(IIII)I" } : Jvm.MethodName) ({ cls := "SignCellar", name := "span", desc := "(IIII)I" } : Jvm.MethodName)) ∈ am_ts := am_in_3 (List.mem_of_getElem? (i := 236) rfl) rfl
theorem wd_3_237 : (Jvm.Cond.code ({ cls := "SignCellar", name := "span", desc := "(IIII)I" } : Jvm.MethodName) prog_1_method_23_code (7 : Nat) (Option.some Jvm.ClassFile.FieldType.int)) ∈ am_ts := am_in_3 (List.mem_of_getElem? (i := 237) rfl) rfl
theorem wd_3_238 : (Jvm.Cond.methodLink "SignCellar" (279 : Nat) ({ cls := "SignCellar$Row", name := "sum", desc := "(II)I" } : Jvm.MethodName)) ∈ am_ts := am_in_3 (List.mem_of_getElem? (i := 238) rfl) rfl
theorem wd_3_239 : (Jvm.Cond.instanceMethod ({ cls := "SignCellar$Row", name := "sum", desc := "(II)I" } : Jvm.MethodName)) ∈ am_ts := am_in_3 (List.mem_of_getElem? (i := 239) rfl) rfl
theorem wd_4_0 : (Jvm.Cond.selects "SignCellar$Row" ({ cls := "SignCellar$Row", name := "sum", desc := "(II)I" } : Jvm.MethodName) ({ cls := "SignCellar$Row", name := "sum", desc := "(II)I" } : Jvm.MethodName)) ∈ am_ts := am_in_4 (List.mem_of_getElem? (i := 0) rfl) rfl
theorem wd_4_1 : (Jvm.Cond.code ({ cls := "SignCellar$Row", name := "sum", desc := "(II)I" } : Jvm.MethodName) prog_6_method_14_code (5 : Nat) (Option.some Jvm.ClassFile.FieldType.int)) ∈ am_ts := am_in_4 (List.mem_of_getElem? (i := 1) rfl) rfl
theorem wd_4_2 : (Jvm.Cond.methodLink "SignCellar" (282 : Nat) ({ cls := "SignCellar$Row", name := "least", desc := "(II)I" } : Jvm.MethodName)) ∈ am_ts := am_in_4 (List.mem_of_getElem? (i := 2) rfl) rfl
theorem wd_4_3 : (Jvm.Cond.instanceMethod ({ cls := "SignCellar$Row", name := "least", desc := "(II)I" } : Jvm.MethodName)) ∈ am_ts := am_in_4 (List.mem_of_getElem? (i := 3) rfl) rfl
theorem wd_4_4 : (Jvm.Cond.selects "SignCellar$Row" ({ cls := "SignCellar$Row", name := "least", desc := "(II)I" } : Jvm.MethodName) ({ cls := "SignCellar$Row", name := "least", desc := "(II)I" } : Jvm.MethodName)) ∈ am_ts := am_in_4 (List.mem_of_getElem? (i := 4) rfl) rfl
theorem wd_4_5 : (Jvm.Cond.code ({ cls := "SignCellar$Row", name := "least", desc := "(II)I" } : Jvm.MethodName) prog_6_method_15_code (5 : Nat) (Option.some Jvm.ClassFile.FieldType.int)) ∈ am_ts := am_in_4 (List.mem_of_getElem? (i := 5) rfl) rfl
theorem wd_4_6 : (Jvm.Cond.methodLink "SignCellar$Row" (47 : Nat) ({ cls := "java/lang/Math", name := "min", desc := "(II)I" } : Jvm.MethodName)) ∈ am_ts := am_in_4 (List.mem_of_getElem? (i := 6) rfl) rfl
theorem wd_4_7 : (Jvm.Cond.methodLink "SignCellar" (285 : Nat) ({ cls := "SignCellar$Row", name := "greatest", desc := "(II)I" } : Jvm.MethodName)) ∈ am_ts := am_in_4 (List.mem_of_getElem? (i := 7) rfl) rfl
theorem wd_4_8 : (Jvm.Cond.instanceMethod ({ cls := "SignCellar$Row", name := "greatest", desc := "(II)I" } : Jvm.MethodName)) ∈ am_ts := am_in_4 (List.mem_of_getElem? (i := 8) rfl) rfl
theorem wd_4_9 : (Jvm.Cond.selects "SignCellar$Row" ({ cls := "SignCellar$Row", name := "greatest", desc := "(II)I" } : Jvm.MethodName) ({ cls := "SignCellar$Row", name := "greatest", desc := "(II)I" } : Jvm.MethodName)) ∈ am_ts := am_in_4 (List.mem_of_getElem? (i := 9) rfl) rfl
theorem wd_4_10 : (Jvm.Cond.code ({ cls := "SignCellar$Row", name := "greatest", desc := "(II)I" } : Jvm.MethodName) prog_6_method_16_code (5 : Nat) (Option.some Jvm.ClassFile.FieldType.int)) ∈ am_ts := am_in_4 (List.mem_of_getElem? (i := 10) rfl) rfl
theorem wd_4_11 : (Jvm.Cond.methodLink "SignCellar" (288 : Nat) ({ cls := "SignCellar", name := "mostOften", desc := "(II)I" } : Jvm.MethodName)) ∈ am_ts := am_in_4 (List.mem_of_getElem? (i := 11) rfl) rfl
theorem wd_4_13 : (Jvm.Cond.instanceMethod ({ cls := "SignCellar", name := "mostOften", desc := "(II)I" } : Jvm.MethodName)) ∈ am_ts := am_in_4 (List.mem_of_getElem? (i := 13) rfl) rfl
theorem wd_4_14 : (Jvm.Cond.code ({ cls := "SignCellar", name := "mostOften", desc := "(II)I" } : Jvm.MethodName) prog_1_method_63_code (7 : Nat) (Option.some Jvm.ClassFile.FieldType.int)) ∈ am_ts := am_in_4 (List.mem_of_getElem? (i := 14) rfl) rfl
theorem wd_4_15 : (Jvm.Cond.methodLink "SignCellar" (383 : Nat) ({ cls := "SignCellar$Row", name := "timesWithin", desc := "(III)I" } : Jvm.MethodName)) ∈ am_ts := am_in_4 (List.mem_of_getElem? (i := 15) rfl) rfl
theorem wd_4_16 : (Jvm.Cond.methodLink "SignCellarLaw" (109 : Nat) ({ cls := "SignCellar", name := "tear", desc := "(I)I" } : Jvm.MethodName)) ∈ am_ts := am_in_4 (List.mem_of_getElem? (i := 16) rfl) rfl
theorem wd_4_17 : (Jvm.Cond.instanceMethod ({ cls := "SignCellar", name := "tear", desc := "(I)I" } : Jvm.MethodName)) ∈ am_ts := am_in_4 (List.mem_of_getElem? (i := 17) rfl) rfl
theorem wd_4_18 : (Jvm.Cond.selects "SignCellar" ({ cls := "SignCellar", name := "tear", desc := "(I)I" } : Jvm.MethodName) ({ cls := "SignCellar", name := "tear", desc := "(I)I" } : Jvm.MethodName)) ∈ am_ts := am_in_4 (List.mem_of_getElem? (i := 18) rfl) rfl
theorem wd_4_19 : (Jvm.Cond.code ({ cls := "SignCellar", name := "tear", desc := "(I)I" } : Jvm.MethodName) prog_1_method_24_code (3 : Nat) (Option.some Jvm.ClassFile.FieldType.int)) ∈ am_ts := am_in_4 (List.mem_of_getElem? (i := 19) rfl) rfl
theorem wd_4_20 : (Jvm.Cond.methodLink "SignCellar" (291 : Nat) ({ cls := "SignCellar$Block", name := "lose", desc := "()V" } : Jvm.MethodName)) ∈ am_ts := am_in_4 (List.mem_of_getElem? (i := 20) rfl) rfl
theorem wd_4_21 : (Jvm.Cond.instanceMethod ({ cls := "SignCellar$Block", name := "lose", desc := "()V" } : Jvm.MethodName)) ∈ am_ts := am_in_4 (List.mem_of_getElem? (i := 21) rfl) rfl
theorem wd_4_22 : (Jvm.Cond.selects "SignCellar$Block" ({ cls := "SignCellar$Block", name := "lose", desc := "()V" } : Jvm.MethodName) ({ cls := "SignCellar$Block", name := "lose", desc := "()V" } : Jvm.MethodName)) ∈ am_ts := am_in_4 (List.mem_of_getElem? (i := 22) rfl) rfl
theorem wd_4_23 : (Jvm.Cond.code ({ cls := "SignCellar$Block", name := "lose", desc := "()V" } : Jvm.MethodName) prog_2_method_3_code (2 : Nat) (Option.none : Option Jvm.ClassFile.FieldType)) ∈ am_ts := am_in_4 (List.mem_of_getElem? (i := 23) rfl) rfl
theorem wd_4_24 : (Jvm.Cond.methodLink "SignCellar$Block" (37 : Nat) ({ cls := "SignCellar$Row", name := "length", desc := "()I" } : Jvm.MethodName)) ∈ am_ts := am_in_4 (List.mem_of_getElem? (i := 24) rfl) rfl
theorem wd_4_25 : (Jvm.Cond.methodLink "SignCellar$Block" (41 : Nat) ({ cls := "SignCellar$Row", name := "set", desc := "(II)V" } : Jvm.MethodName)) ∈ am_ts := am_in_4 (List.mem_of_getElem? (i := 25) rfl) rfl
theorem wd_4_26 : (Jvm.Cond.instanceMethod ({ cls := "SignCellar$Row", name := "set", desc := "(II)V" } : Jvm.MethodName)) ∈ am_ts := am_in_4 (List.mem_of_getElem? (i := 26) rfl) rfl
theorem wd_4_27 : (Jvm.Cond.selects "SignCellar$Row" ({ cls := "SignCellar$Row", name := "set", desc := "(II)V" } : Jvm.MethodName) ({ cls := "SignCellar$Row", name := "set", desc := "(II)V" } : Jvm.MethodName)) ∈ am_ts := am_in_4 (List.mem_of_getElem? (i := 27) rfl) rfl
theorem wd_4_28 : (Jvm.Cond.code ({ cls := "SignCellar$Row", name := "set", desc := "(II)V" } : Jvm.MethodName) prog_6_method_4_code (3 : Nat) (Option.none : Option Jvm.ClassFile.FieldType)) ∈ am_ts := am_in_4 (List.mem_of_getElem? (i := 28) rfl) rfl
theorem wd_4_29 : (Jvm.Cond.methodLink "SignCellarLaw" (113 : Nat) ({ cls := "SignCellar", name := "sums", desc := "(III)I" } : Jvm.MethodName)) ∈ am_ts := am_in_4 (List.mem_of_getElem? (i := 29) rfl) rfl
theorem wd_4_30 : (Jvm.Cond.instanceMethod ({ cls := "SignCellar", name := "sums", desc := "(III)I" } : Jvm.MethodName)) ∈ am_ts := am_in_4 (List.mem_of_getElem? (i := 30) rfl) rfl
theorem wd_4_31 : (Jvm.Cond.selects "SignCellar" ({ cls := "SignCellar", name := "sums", desc := "(III)I" } : Jvm.MethodName) ({ cls := "SignCellar", name := "sums", desc := "(III)I" } : Jvm.MethodName)) ∈ am_ts := am_in_4 (List.mem_of_getElem? (i := 31) rfl) rfl
theorem wd_4_32 : (Jvm.Cond.code ({ cls := "SignCellar", name := "sums", desc := "(III)I" } : Jvm.MethodName) prog_1_method_25_code (5 : Nat) (Option.some Jvm.ClassFile.FieldType.int)) ∈ am_ts := am_in_4 (List.mem_of_getElem? (i := 32) rfl) rfl
theorem wd_4_33 : (Jvm.Cond.methodLink "SignCellarLaw" (117 : Nat) ({ cls := "SignCellar", name := "restore", desc := "(I)I" } : Jvm.MethodName)) ∈ am_ts := am_in_4 (List.mem_of_getElem? (i := 33) rfl) rfl
theorem wd_4_34 : (Jvm.Cond.instanceMethod ({ cls := "SignCellar", name := "restore", desc := "(I)I" } : Jvm.MethodName)) ∈ am_ts := am_in_4 (List.mem_of_getElem? (i := 34) rfl) rfl
theorem wd_4_35 : (Jvm.Cond.selects "SignCellar" ({ cls := "SignCellar", name := "restore", desc := "(I)I" } : Jvm.MethodName) ({ cls := "SignCellar", name := "restore", desc := "(I)I" } : Jvm.MethodName)) ∈ am_ts := am_in_4 (List.mem_of_getElem? (i := 35) rfl) rfl
theorem wd_4_36 : (Jvm.Cond.code ({ cls := "SignCellar", name := "restore", desc := "(I)I" } : Jvm.MethodName) prog_1_method_26_code (6 : Nat) (Option.some Jvm.ClassFile.FieldType.int)) ∈ am_ts := am_in_4 (List.mem_of_getElem? (i := 36) rfl) rfl
theorem wd_4_37 : (Jvm.Cond.methodLink "SignCellar" (300 : Nat) ({ cls := "SignCellar", name := "nextTorn", desc := "(LSignCellar$Version;I)I" } : Jvm.MethodName)) ∈ am_ts := am_in_4 (List.mem_of_getElem? (i := 37) rfl) rfl
theorem wd_4_39 : (Jvm.Cond.instanceMethod ({ cls := "SignCellar", name := "nextTorn", desc := "(LSignCellar$Version;I)I" } : Jvm.MethodName)) ∈ am_ts := am_in_4 (List.mem_of_getElem? (i := 39) rfl) rfl
theorem wd_4_40 : (Jvm.Cond.code ({ cls := "SignCellar", name := "nextTorn", desc := "(LSignCellar$Version;I)I" } : Jvm.MethodName) prog_1_method_40_code (4 : Nat) (Option.some Jvm.ClassFile.FieldType.int)) ∈ am_ts := am_in_4 (List.mem_of_getElem? (i := 40) rfl) rfl
theorem wd_4_41 : (Jvm.Cond.methodLink "SignCellar" (303 : Nat) ({ cls := "SignCellar", name := "solve", desc := "(LSignCellar$Version;II)V" } : Jvm.MethodName)) ∈ am_ts := am_in_4 (List.mem_of_getElem? (i := 41) rfl) rfl
theorem wd_4_43 : (Jvm.Cond.instanceMethod ({ cls := "SignCellar", name := "solve", desc := "(LSignCellar$Version;II)V" } : Jvm.MethodName)) ∈ am_ts := am_in_4 (List.mem_of_getElem? (i := 43) rfl) rfl
theorem wd_4_44 : (Jvm.Cond.code ({ cls := "SignCellar", name := "solve", desc := "(LSignCellar$Version;II)V" } : Jvm.MethodName) prog_1_method_55_code (10 : Nat) (Option.none : Option Jvm.ClassFile.FieldType)) ∈ am_ts := am_in_4 (List.mem_of_getElem? (i := 44) rfl) rfl
theorem wd_4_45 : (Jvm.Cond.methodLink "SignCellar" (358 : Nat) ({ cls := "SignCellar", name := "inverse", desc := "(I)I" } : Jvm.MethodName)) ∈ am_ts := am_in_4 (List.mem_of_getElem? (i := 45) rfl) rfl
theorem wd_4_46 : (Jvm.Cond.static ({ cls := "SignCellar", name := "inverse", desc := "(I)I" } : Jvm.MethodName)) ∈ am_ts := am_in_4 (List.mem_of_getElem? (i := 46) rfl) rfl
theorem wd_4_47 : (Jvm.Cond.code ({ cls := "SignCellar", name := "inverse", desc := "(I)I" } : Jvm.MethodName) prog_1_method_56_code (1 : Nat) (Option.some Jvm.ClassFile.FieldType.int)) ∈ am_ts := am_in_4 (List.mem_of_getElem? (i := 47) rfl) rfl
theorem wd_4_48 : (Jvm.Cond.fieldLink "SignCellar" (371 : Nat) "SignCellar" "INVERSE" "[I") ∈ am_ts := am_in_4 (List.mem_of_getElem? (i := 48) rfl) rfl
theorem wd_4_50 : (Jvm.Cond.methodLink "SignCellar" (361 : Nat) ({ cls := "java/lang/Math", name := "floorMod", desc := "(II)I" } : Jvm.MethodName)) ∈ am_ts := am_in_4 (List.mem_of_getElem? (i := 50) rfl) rfl
theorem wd_4_51 : (Jvm.Cond.static ({ cls := "java/lang/Math", name := "floorMod", desc := "(II)I" } : Jvm.MethodName)) ∈ am_ts := am_in_4 (List.mem_of_getElem? (i := 51) rfl) rfl
theorem wd_4_52 : (Jvm.Cond.code ({ cls := "java/lang/Math", name := "floorMod", desc := "(II)I" } : Jvm.MethodName) prog_12_method_50_code (3 : Nat) (Option.some Jvm.ClassFile.FieldType.int)) ∈ am_ts := am_in_4 (List.mem_of_getElem? (i := 52) rfl) rfl
theorem wd_4_53 : (Jvm.Cond.methodLink "SignCellar" (364 : Nat) ({ cls := "SignCellar$Row", name := "set", desc := "(II)V" } : Jvm.MethodName)) ∈ am_ts := am_in_4 (List.mem_of_getElem? (i := 53) rfl) rfl
theorem wd_4_54 : (Jvm.Cond.methodLink "SignCellar" (368 : Nat) ({ cls := "SignCellar", name := "mend", desc := "(LSignCellar$Block;)V" } : Jvm.MethodName)) ∈ am_ts := am_in_4 (List.mem_of_getElem? (i := 54) rfl) rfl
theorem wd_4_55 : (Jvm.Cond.static ({ cls := "SignCellar", name := "mend", desc := "(LSignCellar$Block;)V" } : Jvm.MethodName)) ∈ am_ts := am_in_4 (List.mem_of_getElem? (i := 55) rfl) rfl
theorem wd_4_56 : (Jvm.Cond.code ({ cls := "SignCellar", name := "mend", desc := "(LSignCellar$Block;)V" } : Jvm.MethodName) prog_1_method_57_code (1 : Nat) (Option.none : Option Jvm.ClassFile.FieldType)) ∈ am_ts := am_in_4 (List.mem_of_getElem? (i := 56) rfl) rfl
theorem wd_4_57 : (Jvm.Cond.methodLink "SignCellarLaw" (121 : Nat) ({ cls := "SignCellar", name := "send", desc := "(III)I" } : Jvm.MethodName)) ∈ am_ts := am_in_4 (List.mem_of_getElem? (i := 57) rfl) rfl
theorem wd_4_58 : (Jvm.Cond.instanceMethod ({ cls := "SignCellar", name := "send", desc := "(III)I" } : Jvm.MethodName)) ∈ am_ts := am_in_4 (List.mem_of_getElem? (i := 58) rfl) rfl
theorem wd_4_59 : (Jvm.Cond.selects "SignCellar" ({ cls := "SignCellar", name := "send", desc := "(III)I" } : Jvm.MethodName) ({ cls := "SignCellar", name := "send", desc := "(III)I" } : Jvm.MethodName)) ∈ am_ts := am_in_4 (List.mem_of_getElem? (i := 59) rfl) rfl
theorem wd_4_60 : (Jvm.Cond.code ({ cls := "SignCellar", name := "send", desc := "(III)I" } : Jvm.MethodName) prog_1_method_27_code (6 : Nat) (Option.some Jvm.ClassFile.FieldType.int)) ∈ am_ts := am_in_4 (List.mem_of_getElem? (i := 60) rfl) rfl
theorem wd_4_61 : (Jvm.Cond.methodLink "SignCellar" (307 : Nat) ({ cls := "SignCellar", name := "sentBits", desc := "(LSignCellar$Version;LSignCellar$Version;)I" } : Jvm.MethodName)) ∈ am_ts := am_in_4 (List.mem_of_getElem? (i := 61) rfl) rfl
theorem wd_4_63 : (Jvm.Cond.instanceMethod ({ cls := "SignCellar", name := "sentBits", desc := "(LSignCellar$Version;LSignCellar$Version;)I" } : Jvm.MethodName)) ∈ am_ts := am_in_4 (List.mem_of_getElem? (i := 63) rfl) rfl
theorem wd_4_64 : (Jvm.Cond.code ({ cls := "SignCellar", name := "sentBits", desc := "(LSignCellar$Version;LSignCellar$Version;)I" } : Jvm.MethodName) prog_1_method_65_code (5 : Nat) (Option.some Jvm.ClassFile.FieldType.int)) ∈ am_ts := am_in_4 (List.mem_of_getElem? (i := 64) rfl) rfl
theorem wd_4_65 : (Jvm.Cond.methodLink "SignCellar" (387 : Nat) ({ cls := "SignCellar", name := "goesWhole", desc := "(LSignCellar$Version;LSignCellar$Version;I)Z" } : Jvm.MethodName)) ∈ am_ts := am_in_4 (List.mem_of_getElem? (i := 65) rfl) rfl
theorem wd_4_66 : (Jvm.Cond.static ({ cls := "SignCellar", name := "goesWhole", desc := "(LSignCellar$Version;LSignCellar$Version;I)Z" } : Jvm.MethodName)) ∈ am_ts := am_in_4 (List.mem_of_getElem? (i := 66) rfl) rfl
theorem wd_4_67 : (Jvm.Cond.code ({ cls := "SignCellar", name := "goesWhole", desc := "(LSignCellar$Version;LSignCellar$Version;I)Z" } : Jvm.MethodName) prog_1_method_64_code (4 : Nat) (Option.some Jvm.ClassFile.FieldType.boolean)) ∈ am_ts := am_in_4 (List.mem_of_getElem? (i := 67) rfl) rfl
theorem wd_4_68 : (Jvm.Cond.methodLink "SignCellar" (311 : Nat) ({ cls := "SignCellar", name := "sentWhole", desc := "(LSignCellar$Version;LSignCellar$Version;)I" } : Jvm.MethodName)) ∈ am_ts := am_in_4 (List.mem_of_getElem? (i := 68) rfl) rfl
theorem wd_4_69 : (Jvm.Cond.static ({ cls := "SignCellar", name := "sentWhole", desc := "(LSignCellar$Version;LSignCellar$Version;)I" } : Jvm.MethodName)) ∈ am_ts := am_in_4 (List.mem_of_getElem? (i := 69) rfl) rfl
theorem wd_4_70 : (Jvm.Cond.code ({ cls := "SignCellar", name := "sentWhole", desc := "(LSignCellar$Version;LSignCellar$Version;)I" } : Jvm.MethodName) prog_1_method_66_code (4 : Nat) (Option.some Jvm.ClassFile.FieldType.int)) ∈ am_ts := am_in_4 (List.mem_of_getElem? (i := 70) rfl) rfl
theorem wd_4_71 : (Jvm.Cond.methodLink "SignCellar" (314 : Nat) ({ cls := "SignCellar", name := "inCommon", desc := "(LSignCellar$Row;LSignCellar$Row;)I" } : Jvm.MethodName)) ∈ am_ts := am_in_4 (List.mem_of_getElem? (i := 71) rfl) rfl
theorem wd_4_73 : (Jvm.Cond.instanceMethod ({ cls := "SignCellar", name := "inCommon", desc := "(LSignCellar$Row;LSignCellar$Row;)I" } : Jvm.MethodName)) ∈ am_ts := am_in_4 (List.mem_of_getElem? (i := 73) rfl) rfl
theorem wd_4_74 : (Jvm.Cond.code ({ cls := "SignCellar", name := "inCommon", desc := "(LSignCellar$Row;LSignCellar$Row;)I" } : Jvm.MethodName) prog_1_method_67_code (7 : Nat) (Option.some Jvm.ClassFile.FieldType.int)) ∈ am_ts := am_in_4 (List.mem_of_getElem? (i := 74) rfl) rfl
theorem wd_4_75 : (Jvm.Cond.methodLink "SignCellarLaw" (125 : Nat) ({ cls := "SignCellar", name := "ways", desc := "(I)J" } : Jvm.MethodName)) ∈ am_ts := am_in_4 (List.mem_of_getElem? (i := 75) rfl) rfl
theorem wd_4_76 : (Jvm.Cond.instanceMethod ({ cls := "SignCellar", name := "ways", desc := "(I)J" } : Jvm.MethodName)) ∈ am_ts := am_in_4 (List.mem_of_getElem? (i := 76) rfl) rfl
theorem wd_4_77 : (Jvm.Cond.selects "SignCellar" ({ cls := "SignCellar", name := "ways", desc := "(I)J" } : Jvm.MethodName) ({ cls := "SignCellar", name := "ways", desc := "(I)J" } : Jvm.MethodName)) ∈ am_ts := am_in_4 (List.mem_of_getElem? (i := 77) rfl) rfl
theorem wd_4_78 : (Jvm.Cond.code ({ cls := "SignCellar", name := "ways", desc := "(I)J" } : Jvm.MethodName) prog_1_method_28_code (4 : Nat) (Option.some Jvm.ClassFile.FieldType.long)) ∈ am_ts := am_in_4 (List.mem_of_getElem? (i := 78) rfl) rfl
theorem wd_4_79 : (Jvm.Cond.methodLink "SignCellar" (318 : Nat) ({ cls := "SignCellar", name := "refusalOfWays", desc := "(LSignCellar$Block;)I" } : Jvm.MethodName)) ∈ am_ts := am_in_4 (List.mem_of_getElem? (i := 79) rfl) rfl
theorem wd_4_80 : (Jvm.Cond.static ({ cls := "SignCellar", name := "refusalOfWays", desc := "(LSignCellar$Block;)I" } : Jvm.MethodName)) ∈ am_ts := am_in_4 (List.mem_of_getElem? (i := 80) rfl) rfl
theorem wd_4_81 : (Jvm.Cond.code ({ cls := "SignCellar", name := "refusalOfWays", desc := "(LSignCellar$Block;)I" } : Jvm.MethodName) prog_1_method_59_code (1 : Nat) (Option.some Jvm.ClassFile.FieldType.int)) ∈ am_ts := am_in_4 (List.mem_of_getElem? (i := 81) rfl) rfl
theorem wd_4_82 : (Jvm.Cond.methodLink "SignCellar" (322 : Nat) ({ cls := "SignCellar", name := "waysOf", desc := "(LSignCellar$Row;)J" } : Jvm.MethodName)) ∈ am_ts := am_in_4 (List.mem_of_getElem? (i := 82) rfl) rfl
theorem wd_4_83 : (Jvm.Cond.static ({ cls := "SignCellar", name := "waysOf", desc := "(LSignCellar$Row;)J" } : Jvm.MethodName)) ∈ am_ts := am_in_4 (List.mem_of_getElem? (i := 83) rfl) rfl
theorem wd_4_84 : (Jvm.Cond.code ({ cls := "SignCellar", name := "waysOf", desc := "(LSignCellar$Row;)J" } : Jvm.MethodName) prog_1_method_68_code (7 : Nat) (Option.some Jvm.ClassFile.FieldType.long)) ∈ am_ts := am_in_4 (List.mem_of_getElem? (i := 84) rfl) rfl
theorem wd_4_85 : (Jvm.Cond.methodLink "SignCellar" (326 : Nat) ({ cls := "SignCellar$Row", name := "times", desc := "(I)I" } : Jvm.MethodName)) ∈ am_ts := am_in_4 (List.mem_of_getElem? (i := 85) rfl) rfl
theorem wd_4_86 : (Jvm.Cond.methodLink "SignCellarLaw" (130 : Nat) ({ cls := "SignCellar", name := "bound", desc := "(I)I" } : Jvm.MethodName)) ∈ am_ts := am_in_4 (List.mem_of_getElem? (i := 86) rfl) rfl
theorem wd_4_87 : (Jvm.Cond.instanceMethod ({ cls := "SignCellar", name := "bound", desc := "(I)I" } : Jvm.MethodName)) ∈ am_ts := am_in_4 (List.mem_of_getElem? (i := 87) rfl) rfl
theorem wd_4_88 : (Jvm.Cond.selects "SignCellar" ({ cls := "SignCellar", name := "bound", desc := "(I)I" } : Jvm.MethodName) ({ cls := "SignCellar", name := "bound", desc := "(I)I" } : Jvm.MethodName)) ∈ am_ts := am_in_4 (List.mem_of_getElem? (i := 88) rfl) rfl
theorem wd_4_89 : (Jvm.Cond.code ({ cls := "SignCellar", name := "bound", desc := "(I)I" } : Jvm.MethodName) prog_1_method_29_code (7 : Nat) (Option.some Jvm.ClassFile.FieldType.int)) ∈ am_ts := am_in_4 (List.mem_of_getElem? (i := 89) rfl) rfl
theorem wd_4_90 : (Jvm.Cond.methodLink "SignCellarLaw" (134 : Nat) ({ cls := "SignCellar", name := "entropy", desc := "(II)I" } : Jvm.MethodName)) ∈ am_ts := am_in_4 (List.mem_of_getElem? (i := 90) rfl) rfl
theorem wd_4_91 : (Jvm.Cond.instanceMethod ({ cls := "SignCellar", name := "entropy", desc := "(II)I" } : Jvm.MethodName)) ∈ am_ts := am_in_4 (List.mem_of_getElem? (i := 91) rfl) rfl
theorem wd_4_92 : (Jvm.Cond.selects "SignCellar" ({ cls := "SignCellar", name := "entropy", desc := "(II)I" } : Jvm.MethodName) ({ cls := "SignCellar", name := "entropy", desc := "(II)I" } : Jvm.MethodName)) ∈ am_ts := am_in_4 (List.mem_of_getElem? (i := 92) rfl) rfl
theorem wd_4_93 : (Jvm.Cond.code ({ cls := "SignCellar", name := "entropy", desc := "(II)I" } : Jvm.MethodName) prog_1_method_30_code (4 : Nat) (Option.some Jvm.ClassFile.FieldType.int)) ∈ am_ts := am_in_4 (List.mem_of_getElem? (i := 93) rfl) rfl
theorem wd_4_94 : (Jvm.Cond.classLink "SignCellarLaw" (10 : Nat) "SignCellarModel") ∈ am_ts := am_in_4 (List.mem_of_getElem? (i := 94) rfl) rfl
theorem wd_4_95 : (Jvm.Cond.instantiable "SignCellarModel" (42 : Nat)) ∈ am_ts := am_in_4 (List.mem_of_getElem? (i := 95) rfl) rfl
theorem wd_4_96 : (Jvm.Cond.methodLink "SignCellarLaw" (12 : Nat) ({ cls := "SignCellarModel", name := "<init>", desc := "()V" } : Jvm.MethodName)) ∈ am_ts := am_in_4 (List.mem_of_getElem? (i := 96) rfl) rfl
theorem wd_4_97 : (Jvm.Cond.instanceMethod ({ cls := "SignCellarModel", name := "<init>", desc := "()V" } : Jvm.MethodName)) ∈ am_ts := am_in_4 (List.mem_of_getElem? (i := 97) rfl) rfl
theorem wd_4_98 : (Jvm.Cond.code ({ cls := "SignCellarModel", name := "<init>", desc := "()V" } : Jvm.MethodName) prog_11_method_1_code (1 : Nat) (Option.none : Option Jvm.ClassFile.FieldType)) ∈ am_ts := am_in_4 (List.mem_of_getElem? (i := 98) rfl) rfl
theorem wd_4_99 : (Jvm.Cond.methodLink "SignCellarModel" (1 : Nat) ({ cls := "java/lang/Object", name := "<init>", desc := "()V" } : Jvm.MethodName)) ∈ am_ts := am_in_4 (List.mem_of_getElem? (i := 99) rfl) rfl
theorem wd_4_100 : (Jvm.Cond.fieldLink "SignCellarModel" (106 : Nat) "SignCellarModel" "drafts" "I") ∈ am_ts := am_in_4 (List.mem_of_getElem? (i := 100) rfl) rfl
theorem wd_4_101 : (Jvm.Cond.fieldLink "SignCellarModel" (7 : Nat) "SignCellarModel" "draft" "[I") ∈ am_ts := am_in_4 (List.mem_of_getElem? (i := 101) rfl) rfl
theorem wd_4_102 : (Jvm.Cond.fieldLink "SignCellarModel" (100 : Nat) "SignCellarModel" "blocks" "I") ∈ am_ts := am_in_4 (List.mem_of_getElem? (i := 102) rfl) rfl
theorem wd_4_103 : (Jvm.Cond.fieldLink "SignCellarModel" (13 : Nat) "SignCellarModel" "sizeOf" "[I") ∈ am_ts := am_in_4 (List.mem_of_getElem? (i := 103) rfl) rfl
theorem wd_4_104 : (Jvm.Cond.fieldLink "SignCellarModel" (16 : Nat) "SignCellarModel" "signs" "[I") ∈ am_ts := am_in_4 (List.mem_of_getElem? (i := 104) rfl) rfl
theorem wd_4_105 : (Jvm.Cond.fieldLink "SignCellarModel" (19 : Nat) "SignCellarModel" "isTorn" "[Z") ∈ am_ts := am_in_4 (List.mem_of_getElem? (i := 105) rfl) rfl
theorem wd_4_106 : (Jvm.Cond.fieldLink "SignCellarModel" (92 : Nat) "SignCellarModel" "versions" "I") ∈ am_ts := am_in_4 (List.mem_of_getElem? (i := 106) rfl) rfl
theorem wd_4_107 : (Jvm.Cond.fieldLink "SignCellarModel" (23 : Nat) "SignCellarModel" "rowSize" "[I") ∈ am_ts := am_in_4 (List.mem_of_getElem? (i := 107) rfl) rfl
theorem wd_4_108 : (Jvm.Cond.fieldLink "SignCellarModel" (26 : Nat) "SignCellarModel" "row" "[I") ∈ am_ts := am_in_4 (List.mem_of_getElem? (i := 108) rfl) rfl
theorem wd_4_109 : (Jvm.Cond.fieldLink "SignCellarModel" (29 : Nat) "SignCellarModel" "madeOf" "[I") ∈ am_ts := am_in_4 (List.mem_of_getElem? (i := 109) rfl) rfl
theorem wd_4_110 : (Jvm.Cond.fieldLink "SignCellarModel" (32 : Nat) "SignCellarModel" "fresh" "[I") ∈ am_ts := am_in_4 (List.mem_of_getElem? (i := 110) rfl) rfl
theorem wd_4_111 : (Jvm.Cond.fieldLink "SignCellarModel" (35 : Nat) "SignCellarModel" "firstSums" "[I") ∈ am_ts := am_in_4 (List.mem_of_getElem? (i := 111) rfl) rfl
theorem wd_4_112 : (Jvm.Cond.fieldLink "SignCellarModel" (38 : Nat) "SignCellarModel" "secondSums" "[I") ∈ am_ts := am_in_4 (List.mem_of_getElem? (i := 112) rfl) rfl
theorem wd_4_113 : (Jvm.Cond.fieldLink "SignCellarModel" (41 : Nat) "SignCellarModel" "next" "[I") ∈ am_ts := am_in_4 (List.mem_of_getElem? (i := 113) rfl) rfl
theorem wd_4_114 : (Jvm.Cond.fieldLink "SignCellarModel" (110 : Nat) "SignCellarModel" "nextSize" "I") ∈ am_ts := am_in_4 (List.mem_of_getElem? (i := 114) rfl) rfl
theorem wd_4_115 : (Jvm.Cond.fieldLink "SignCellarModel" (44 : Nat) "SignCellarModel" "newRow" "[I") ∈ am_ts := am_in_4 (List.mem_of_getElem? (i := 115) rfl) rfl
theorem wd_4_116 : (Jvm.Cond.fieldLink "SignCellarModel" (124 : Nat) "SignCellarModel" "newSize" "I") ∈ am_ts := am_in_4 (List.mem_of_getElem? (i := 116) rfl) rfl
theorem wd_4_117 : (Jvm.Cond.fieldLink "SignCellarModel" (121 : Nat) "SignCellarModel" "newFresh" "I") ∈ am_ts := am_in_4 (List.mem_of_getElem? (i := 117) rfl) rfl
theorem wd_4_118 : (Jvm.Cond.fieldLink "SignCellarModel" (144 : Nat) "SignCellarModel" "foundBlock" "I") ∈ am_ts := am_in_4 (List.mem_of_getElem? (i := 118) rfl) rfl
theorem wd_4_119 : (Jvm.Cond.fieldLink "SignCellarModel" (147 : Nat) "SignCellarModel" "foundAt" "I") ∈ am_ts := am_in_4 (List.mem_of_getElem? (i := 119) rfl) rfl
theorem wd_4_120 : (Jvm.Cond.fieldLink "SignCellarModel" (47 : Nat) "SignCellarModel" "leastFrom" "[I") ∈ am_ts := am_in_4 (List.mem_of_getElem? (i := 120) rfl) rfl
theorem wd_4_121 : (Jvm.Cond.fieldLink "SignCellarModel" (50 : Nat) "SignCellarModel" "cuts" "[I") ∈ am_ts := am_in_4 (List.mem_of_getElem? (i := 121) rfl) rfl
theorem wd_4_122 : (Jvm.Cond.fieldLink "SignCellarModel" (198 : Nat) "SignCellarModel" "cutMany" "I") ∈ am_ts := am_in_4 (List.mem_of_getElem? (i := 122) rfl) rfl
theorem wd_4_123 : (Jvm.Cond.fieldLink "SignCellarModel" (53 : Nat) "SignCellarModel" "piece" "[I") ∈ am_ts := am_in_4 (List.mem_of_getElem? (i := 123) rfl) rfl
theorem wd_4_124 : (Jvm.Cond.fieldLink "SignCellarModel" (207 : Nat) "SignCellarModel" "pieces" "I") ∈ am_ts := am_in_4 (List.mem_of_getElem? (i := 124) rfl) rfl
theorem wd_4_125 : (Jvm.Cond.fieldLink "SignCellarModel" (210 : Nat) "SignCellarModel" "ruleMany" "I") ∈ am_ts := am_in_4 (List.mem_of_getElem? (i := 125) rfl) rfl
theorem wd_4_126 : (Jvm.Cond.fieldLink "SignCellarModel" (56 : Nat) "SignCellarModel" "ruleSize" "[I") ∈ am_ts := am_in_4 (List.mem_of_getElem? (i := 126) rfl) rfl
theorem wd_4_127 : (Jvm.Cond.fieldLink "SignCellarModel" (59 : Nat) "SignCellarModel" "rulePiece" "[I") ∈ am_ts := am_in_4 (List.mem_of_getElem? (i := 127) rfl) rfl
theorem wd_4_128 : (Jvm.Cond.fieldLink "SignCellarModel" (62 : Nat) "SignCellarModel" "bits" "[I") ∈ am_ts := am_in_4 (List.mem_of_getElem? (i := 128) rfl) rfl
theorem wd_4_129 : (Jvm.Cond.fieldLink "SignCellarModel" (239 : Nat) "SignCellarModel" "bitMany" "I") ∈ am_ts := am_in_4 (List.mem_of_getElem? (i := 129) rfl) rfl
theorem wd_4_130 : (Jvm.Cond.fieldLink "SignCellarModel" (242 : Nat) "SignCellarModel" "putOff" "I") ∈ am_ts := am_in_4 (List.mem_of_getElem? (i := 130) rfl) rfl
theorem wd_4_131 : (Jvm.Cond.fieldLink "SignCellarModel" (65 : Nat) "SignCellarModel" "turn" "[I") ∈ am_ts := am_in_4 (List.mem_of_getElem? (i := 131) rfl) rfl
theorem wd_4_132 : (Jvm.Cond.fieldLink "SignCellarModel" (68 : Nat) "SignCellarModel" "lastSign" "[I") ∈ am_ts := am_in_4 (List.mem_of_getElem? (i := 132) rfl) rfl
theorem wd_4_133 : (Jvm.Cond.fieldLink "SignCellarModel" (71 : Nat) "SignCellarModel" "placeOf" "[I") ∈ am_ts := am_in_4 (List.mem_of_getElem? (i := 133) rfl) rfl
theorem wd_4_134 : (Jvm.Cond.fieldLink "SignCellarModel" (74 : Nat) "SignCellarModel" "front" "[I") ∈ am_ts := am_in_4 (List.mem_of_getElem? (i := 134) rfl) rfl
theorem wd_4_135 : (Jvm.Cond.fieldLink "SignCellarModel" (261 : Nat) "SignCellarModel" "endAt" "I") ∈ am_ts := am_in_4 (List.mem_of_getElem? (i := 135) rfl) rfl
theorem wd_4_136 : (Jvm.Cond.fieldLink "SignCellarModel" (77 : Nat) "SignCellarModel" "bestSize" "[I") ∈ am_ts := am_in_4 (List.mem_of_getElem? (i := 136) rfl) rfl
theorem wd_4_137 : (Jvm.Cond.fieldLink "SignCellarModel" (80 : Nat) "SignCellarModel" "eachSize" "[I") ∈ am_ts := am_in_4 (List.mem_of_getElem? (i := 137) rfl) rfl
theorem wd_4_138 : (Jvm.Cond.fieldLink "SignCellarModel" (83 : Nat) "SignCellarModel" "eachTime" "[I") ∈ am_ts := am_in_4 (List.mem_of_getElem? (i := 138) rfl) rfl
theorem wd_4_139 : (Jvm.Cond.fieldLink "SignCellarModel" (191 : Nat) "SignCellarModel" "sets" "I") ∈ am_ts := am_in_4 (List.mem_of_getElem? (i := 139) rfl) rfl
theorem wd_4_140 : (Jvm.Cond.fieldLink "SignCellarModel" (86 : Nat) "SignCellarModel" "set" "[I") ∈ am_ts := am_in_4 (List.mem_of_getElem? (i := 140) rfl) rfl
theorem wd_4_141 : (Jvm.Cond.fieldLink "SignCellarModel" (89 : Nat) "SignCellarModel" "far" "[I") ∈ am_ts := am_in_4 (List.mem_of_getElem? (i := 141) rfl) rfl
theorem wd_4_142 : (Jvm.Cond.lays "SignCellarModel" "SignCellarModel" "drafts" "I") ∈ am_ts := am_in_4 (List.mem_of_getElem? (i := 142) rfl) rfl
theorem wd_4_144 : (Jvm.Cond.laysFinal "SignCellarModel" "SignCellarModel" "draft" "[I") ∈ am_ts := am_in_4 (List.mem_of_getElem? (i := 144) rfl) rfl
theorem wd_4_146 : (Jvm.Cond.lays "SignCellarModel" "SignCellarModel" "blocks" "I") ∈ am_ts := am_in_4 (List.mem_of_getElem? (i := 146) rfl) rfl
theorem wd_4_148 : (Jvm.Cond.laysFinal "SignCellarModel" "SignCellarModel" "sizeOf" "[I") ∈ am_ts := am_in_4 (List.mem_of_getElem? (i := 148) rfl) rfl
theorem wd_4_150 : (Jvm.Cond.laysFinal "SignCellarModel" "SignCellarModel" "signs" "[I") ∈ am_ts := am_in_4 (List.mem_of_getElem? (i := 150) rfl) rfl
theorem wd_4_152 : (Jvm.Cond.laysFinal "SignCellarModel" "SignCellarModel" "isTorn" "[Z") ∈ am_ts := am_in_4 (List.mem_of_getElem? (i := 152) rfl) rfl
theorem wd_4_154 : (Jvm.Cond.lays "SignCellarModel" "SignCellarModel" "versions" "I") ∈ am_ts := am_in_4 (List.mem_of_getElem? (i := 154) rfl) rfl
theorem wd_4_156 : (Jvm.Cond.laysFinal "SignCellarModel" "SignCellarModel" "rowSize" "[I") ∈ am_ts := am_in_4 (List.mem_of_getElem? (i := 156) rfl) rfl
theorem wd_4_158 : (Jvm.Cond.laysFinal "SignCellarModel" "SignCellarModel" "row" "[I") ∈ am_ts := am_in_4 (List.mem_of_getElem? (i := 158) rfl) rfl
theorem wd_4_160 : (Jvm.Cond.laysFinal "SignCellarModel" "SignCellarModel" "madeOf" "[I") ∈ am_ts := am_in_4 (List.mem_of_getElem? (i := 160) rfl) rfl
theorem wd_4_162 : (Jvm.Cond.laysFinal "SignCellarModel" "SignCellarModel" "fresh" "[I") ∈ am_ts := am_in_4 (List.mem_of_getElem? (i := 162) rfl) rfl
theorem wd_4_164 : (Jvm.Cond.laysFinal "SignCellarModel" "SignCellarModel" "firstSums" "[I") ∈ am_ts := am_in_4 (List.mem_of_getElem? (i := 164) rfl) rfl
theorem wd_4_166 : (Jvm.Cond.laysFinal "SignCellarModel" "SignCellarModel" "secondSums" "[I") ∈ am_ts := am_in_4 (List.mem_of_getElem? (i := 166) rfl) rfl
theorem wd_4_168 : (Jvm.Cond.laysFinal "SignCellarModel" "SignCellarModel" "next" "[I") ∈ am_ts := am_in_4 (List.mem_of_getElem? (i := 168) rfl) rfl
theorem wd_4_170 : (Jvm.Cond.lays "SignCellarModel" "SignCellarModel" "nextSize" "I") ∈ am_ts := am_in_4 (List.mem_of_getElem? (i := 170) rfl) rfl
theorem wd_4_172 : (Jvm.Cond.laysFinal "SignCellarModel" "SignCellarModel" "newRow" "[I") ∈ am_ts := am_in_4 (List.mem_of_getElem? (i := 172) rfl) rfl
theorem wd_4_174 : (Jvm.Cond.lays "SignCellarModel" "SignCellarModel" "newSize" "I") ∈ am_ts := am_in_4 (List.mem_of_getElem? (i := 174) rfl) rfl
theorem wd_4_176 : (Jvm.Cond.lays "SignCellarModel" "SignCellarModel" "newFresh" "I") ∈ am_ts := am_in_4 (List.mem_of_getElem? (i := 176) rfl) rfl
theorem wd_4_178 : (Jvm.Cond.lays "SignCellarModel" "SignCellarModel" "foundBlock" "I") ∈ am_ts := am_in_4 (List.mem_of_getElem? (i := 178) rfl) rfl
theorem wd_4_180 : (Jvm.Cond.lays "SignCellarModel" "SignCellarModel" "foundAt" "I") ∈ am_ts := am_in_4 (List.mem_of_getElem? (i := 180) rfl) rfl
theorem wd_4_182 : (Jvm.Cond.laysFinal "SignCellarModel" "SignCellarModel" "leastFrom" "[I") ∈ am_ts := am_in_4 (List.mem_of_getElem? (i := 182) rfl) rfl
theorem wd_4_184 : (Jvm.Cond.laysFinal "SignCellarModel" "SignCellarModel" "cuts" "[I") ∈ am_ts := am_in_4 (List.mem_of_getElem? (i := 184) rfl) rfl
theorem wd_4_186 : (Jvm.Cond.lays "SignCellarModel" "SignCellarModel" "cutMany" "I") ∈ am_ts := am_in_4 (List.mem_of_getElem? (i := 186) rfl) rfl
theorem wd_4_188 : (Jvm.Cond.laysFinal "SignCellarModel" "SignCellarModel" "piece" "[I") ∈ am_ts := am_in_4 (List.mem_of_getElem? (i := 188) rfl) rfl
theorem wd_4_190 : (Jvm.Cond.lays "SignCellarModel" "SignCellarModel" "pieces" "I") ∈ am_ts := am_in_4 (List.mem_of_getElem? (i := 190) rfl) rfl
theorem wd_4_192 : (Jvm.Cond.lays "SignCellarModel" "SignCellarModel" "ruleMany" "I") ∈ am_ts := am_in_4 (List.mem_of_getElem? (i := 192) rfl) rfl
theorem wd_4_194 : (Jvm.Cond.laysFinal "SignCellarModel" "SignCellarModel" "ruleSize" "[I") ∈ am_ts := am_in_4 (List.mem_of_getElem? (i := 194) rfl) rfl
theorem wd_4_196 : (Jvm.Cond.laysFinal "SignCellarModel" "SignCellarModel" "rulePiece" "[I") ∈ am_ts := am_in_4 (List.mem_of_getElem? (i := 196) rfl) rfl
theorem wd_4_198 : (Jvm.Cond.laysFinal "SignCellarModel" "SignCellarModel" "bits" "[I") ∈ am_ts := am_in_4 (List.mem_of_getElem? (i := 198) rfl) rfl
theorem wd_4_200 : (Jvm.Cond.lays "SignCellarModel" "SignCellarModel" "bitMany" "I") ∈ am_ts := am_in_4 (List.mem_of_getElem? (i := 200) rfl) rfl
theorem wd_4_202 : (Jvm.Cond.lays "SignCellarModel" "SignCellarModel" "putOff" "I") ∈ am_ts := am_in_4 (List.mem_of_getElem? (i := 202) rfl) rfl
theorem wd_4_204 : (Jvm.Cond.laysFinal "SignCellarModel" "SignCellarModel" "turn" "[I") ∈ am_ts := am_in_4 (List.mem_of_getElem? (i := 204) rfl) rfl
theorem wd_4_206 : (Jvm.Cond.laysFinal "SignCellarModel" "SignCellarModel" "lastSign" "[I") ∈ am_ts := am_in_4 (List.mem_of_getElem? (i := 206) rfl) rfl
theorem wd_4_208 : (Jvm.Cond.laysFinal "SignCellarModel" "SignCellarModel" "placeOf" "[I") ∈ am_ts := am_in_4 (List.mem_of_getElem? (i := 208) rfl) rfl
theorem wd_4_210 : (Jvm.Cond.laysFinal "SignCellarModel" "SignCellarModel" "front" "[I") ∈ am_ts := am_in_4 (List.mem_of_getElem? (i := 210) rfl) rfl
theorem wd_4_212 : (Jvm.Cond.lays "SignCellarModel" "SignCellarModel" "endAt" "I") ∈ am_ts := am_in_4 (List.mem_of_getElem? (i := 212) rfl) rfl
theorem wd_4_214 : (Jvm.Cond.laysFinal "SignCellarModel" "SignCellarModel" "bestSize" "[I") ∈ am_ts := am_in_4 (List.mem_of_getElem? (i := 214) rfl) rfl
theorem wd_4_216 : (Jvm.Cond.laysFinal "SignCellarModel" "SignCellarModel" "eachSize" "[I") ∈ am_ts := am_in_4 (List.mem_of_getElem? (i := 216) rfl) rfl
theorem wd_4_218 : (Jvm.Cond.laysFinal "SignCellarModel" "SignCellarModel" "eachTime" "[I") ∈ am_ts := am_in_4 (List.mem_of_getElem? (i := 218) rfl) rfl
theorem wd_4_220 : (Jvm.Cond.lays "SignCellarModel" "SignCellarModel" "sets" "I") ∈ am_ts := am_in_4 (List.mem_of_getElem? (i := 220) rfl) rfl
theorem wd_4_222 : (Jvm.Cond.laysFinal "SignCellarModel" "SignCellarModel" "set" "[I") ∈ am_ts := am_in_4 (List.mem_of_getElem? (i := 222) rfl) rfl
theorem wd_4_224 : (Jvm.Cond.laysFinal "SignCellarModel" "SignCellarModel" "far" "[I") ∈ am_ts := am_in_4 (List.mem_of_getElem? (i := 224) rfl) rfl
theorem wd_4_227 : (Jvm.Cond.arrayClass Jvm.ClassFile.FieldType.boolean) ∈ am_ts := am_in_4 (List.mem_of_getElem? (i := 227) rfl) rfl
theorem wd_4_228 : (Jvm.Cond.methodLink "SignCellarLaw" (19 : Nat) ({ cls := "SignCellarModel", name := "feed", desc := "(IJ)I" } : Jvm.MethodName)) ∈ am_ts := am_in_4 (List.mem_of_getElem? (i := 228) rfl) rfl
theorem wd_4_229 : (Jvm.Cond.instanceMethod ({ cls := "SignCellarModel", name := "feed", desc := "(IJ)I" } : Jvm.MethodName)) ∈ am_ts := am_in_4 (List.mem_of_getElem? (i := 229) rfl) rfl
theorem wd_4_230 : (Jvm.Cond.selects "SignCellarModel" ({ cls := "SignCellarModel", name := "feed", desc := "(IJ)I" } : Jvm.MethodName) ({ cls := "SignCellarModel", name := "feed", desc := "(IJ)I" } : Jvm.MethodName)) ∈ am_ts := am_in_4 (List.mem_of_getElem? (i := 230) rfl) rfl
theorem wd_4_231 : (Jvm.Cond.code ({ cls := "SignCellarModel", name := "feed", desc := "(IJ)I" } : Jvm.MethodName) prog_11_method_9_code (5 : Nat) (Option.some Jvm.ClassFile.FieldType.int)) ∈ am_ts := am_in_4 (List.mem_of_getElem? (i := 231) rfl) rfl
theorem wd_4_232 : (Jvm.Cond.constantLong "SignCellarModel" (103 : Nat) (15 : Int64)) ∈ am_ts := am_in_4 (List.mem_of_getElem? (i := 232) rfl) rfl
theorem wd_4_233 : (Jvm.Cond.methodLink "SignCellarModel" (96 : Nat) ({ cls := "SignCellarModel", name := "in", desc := "(JJJ)Z" } : Jvm.MethodName)) ∈ am_ts := am_in_4 (List.mem_of_getElem? (i := 233) rfl) rfl
theorem wd_4_234 : (Jvm.Cond.static ({ cls := "SignCellarModel", name := "in", desc := "(JJJ)Z" } : Jvm.MethodName)) ∈ am_ts := am_in_4 (List.mem_of_getElem? (i := 234) rfl) rfl
theorem wd_4_235 : (Jvm.Cond.code ({ cls := "SignCellarModel", name := "in", desc := "(JJJ)Z" } : Jvm.MethodName) prog_11_method_3_code (6 : Nat) (Option.some Jvm.ClassFile.FieldType.boolean)) ∈ am_ts := am_in_4 (List.mem_of_getElem? (i := 235) rfl) rfl
theorem wd_4_236 : (Jvm.Cond.constant "SignCellarModel" (105 : Nat) (-100002 : Int32)) ∈ am_ts := am_in_4 (List.mem_of_getElem? (i := 236) rfl) rfl
theorem wd_4_237 : (Jvm.Cond.constant "SignCellarModel" (109 : Nat) (-100004 : Int32)) ∈ am_ts := am_in_4 (List.mem_of_getElem? (i := 237) rfl) rfl
theorem wd_4_238 : (Jvm.Cond.methodLink "SignCellarLaw" (24 : Nat) ({ cls := "SignCellarModel", name := "make", desc := "()I" } : Jvm.MethodName)) ∈ am_ts := am_in_4 (List.mem_of_getElem? (i := 238) rfl) rfl
theorem wd_4_239 : (Jvm.Cond.instanceMethod ({ cls := "SignCellarModel", name := "make", desc := "()I" } : Jvm.MethodName)) ∈ am_ts := am_in_4 (List.mem_of_getElem? (i := 239) rfl) rfl
theorem wd_5_0 : (Jvm.Cond.selects "SignCellarModel" ({ cls := "SignCellarModel", name := "make", desc := "()I" } : Jvm.MethodName) ({ cls := "SignCellarModel", name := "make", desc := "()I" } : Jvm.MethodName)) ∈ am_ts := am_in_5 (List.mem_of_getElem? (i := 0) rfl) rfl
theorem wd_5_1 : (Jvm.Cond.code ({ cls := "SignCellarModel", name := "make", desc := "()I" } : Jvm.MethodName) prog_11_method_15_code (3 : Nat) (Option.some Jvm.ClassFile.FieldType.int)) ∈ am_ts := am_in_5 (List.mem_of_getElem? (i := 1) rfl) rfl
theorem wd_5_2 : (Jvm.Cond.constant "SignCellarModel" (127 : Nat) (-100003 : Int32)) ∈ am_ts := am_in_5 (List.mem_of_getElem? (i := 2) rfl) rfl
theorem wd_5_3 : (Jvm.Cond.methodLink "SignCellarModel" (128 : Nat) ({ cls := "SignCellarModel", name := "isFull", desc := "(I)Z" } : Jvm.MethodName)) ∈ am_ts := am_in_5 (List.mem_of_getElem? (i := 3) rfl) rfl
theorem wd_5_5 : (Jvm.Cond.instanceMethod ({ cls := "SignCellarModel", name := "isFull", desc := "(I)Z" } : Jvm.MethodName)) ∈ am_ts := am_in_5 (List.mem_of_getElem? (i := 5) rfl) rfl
theorem wd_5_6 : (Jvm.Cond.code ({ cls := "SignCellarModel", name := "isFull", desc := "(I)Z" } : Jvm.MethodName) prog_11_method_14_code (2 : Nat) (Option.some Jvm.ClassFile.FieldType.boolean)) ∈ am_ts := am_in_5 (List.mem_of_getElem? (i := 6) rfl) rfl
theorem wd_5_7 : (Jvm.Cond.methodLink "SignCellarModel" (131 : Nat) ({ cls := "SignCellarModel", name := "begin", desc := "()V" } : Jvm.MethodName)) ∈ am_ts := am_in_5 (List.mem_of_getElem? (i := 7) rfl) rfl
theorem wd_5_9 : (Jvm.Cond.instanceMethod ({ cls := "SignCellarModel", name := "begin", desc := "()V" } : Jvm.MethodName)) ∈ am_ts := am_in_5 (List.mem_of_getElem? (i := 9) rfl) rfl
theorem wd_5_10 : (Jvm.Cond.code ({ cls := "SignCellarModel", name := "begin", desc := "()V" } : Jvm.MethodName) prog_11_method_13_code (1 : Nat) (Option.none : Option Jvm.ClassFile.FieldType)) ∈ am_ts := am_in_5 (List.mem_of_getElem? (i := 10) rfl) rfl
theorem wd_5_11 : (Jvm.Cond.methodLink "SignCellarModel" (134 : Nat) ({ cls := "SignCellarModel", name := "lay", desc := "()V" } : Jvm.MethodName)) ∈ am_ts := am_in_5 (List.mem_of_getElem? (i := 11) rfl) rfl
theorem wd_5_13 : (Jvm.Cond.instanceMethod ({ cls := "SignCellarModel", name := "lay", desc := "()V" } : Jvm.MethodName)) ∈ am_ts := am_in_5 (List.mem_of_getElem? (i := 13) rfl) rfl
theorem wd_5_14 : (Jvm.Cond.code ({ cls := "SignCellarModel", name := "lay", desc := "()V" } : Jvm.MethodName) prog_11_method_11_code (3 : Nat) (Option.none : Option Jvm.ClassFile.FieldType)) ∈ am_ts := am_in_5 (List.mem_of_getElem? (i := 14) rfl) rfl
theorem wd_5_15 : (Jvm.Cond.methodLink "SignCellarModel" (117 : Nat) ({ cls := "SignCellarModel", name := "isSame", desc := "(I)Z" } : Jvm.MethodName)) ∈ am_ts := am_in_5 (List.mem_of_getElem? (i := 15) rfl) rfl
theorem wd_5_17 : (Jvm.Cond.instanceMethod ({ cls := "SignCellarModel", name := "isSame", desc := "(I)Z" } : Jvm.MethodName)) ∈ am_ts := am_in_5 (List.mem_of_getElem? (i := 17) rfl) rfl
theorem wd_5_18 : (Jvm.Cond.code ({ cls := "SignCellarModel", name := "isSame", desc := "(I)Z" } : Jvm.MethodName) prog_11_method_10_code (4 : Nat) (Option.some Jvm.ClassFile.FieldType.boolean)) ∈ am_ts := am_in_5 (List.mem_of_getElem? (i := 18) rfl) rfl
theorem wd_5_19 : (Jvm.Cond.methodLink "SignCellarModel" (113 : Nat) ({ cls := "SignCellarModel", name := "sign", desc := "(II)I" } : Jvm.MethodName)) ∈ am_ts := am_in_5 (List.mem_of_getElem? (i := 19) rfl) rfl
theorem wd_5_21 : (Jvm.Cond.instanceMethod ({ cls := "SignCellarModel", name := "sign", desc := "(II)I" } : Jvm.MethodName)) ∈ am_ts := am_in_5 (List.mem_of_getElem? (i := 21) rfl) rfl
theorem wd_5_22 : (Jvm.Cond.code ({ cls := "SignCellarModel", name := "sign", desc := "(II)I" } : Jvm.MethodName) prog_11_method_8_code (3 : Nat) (Option.some Jvm.ClassFile.FieldType.int)) ∈ am_ts := am_in_5 (List.mem_of_getElem? (i := 22) rfl) rfl
theorem wd_5_23 : (Jvm.Cond.methodLink "SignCellarModel" (137 : Nat) ({ cls := "SignCellarModel", name := "note", desc := "(I)I" } : Jvm.MethodName)) ∈ am_ts := am_in_5 (List.mem_of_getElem? (i := 23) rfl) rfl
theorem wd_5_25 : (Jvm.Cond.instanceMethod ({ cls := "SignCellarModel", name := "note", desc := "(I)I" } : Jvm.MethodName)) ∈ am_ts := am_in_5 (List.mem_of_getElem? (i := 25) rfl) rfl
theorem wd_5_26 : (Jvm.Cond.code ({ cls := "SignCellarModel", name := "note", desc := "(I)I" } : Jvm.MethodName) prog_11_method_12_code (7 : Nat) (Option.some Jvm.ClassFile.FieldType.int)) ∈ am_ts := am_in_5 (List.mem_of_getElem? (i := 26) rfl) rfl
theorem wd_5_27 : (Jvm.Cond.methodLink "SignCellarLaw" (29 : Nat) ({ cls := "SignCellarModel", name := "change", desc := "(III)I" } : Jvm.MethodName)) ∈ am_ts := am_in_5 (List.mem_of_getElem? (i := 27) rfl) rfl
theorem wd_5_28 : (Jvm.Cond.instanceMethod ({ cls := "SignCellarModel", name := "change", desc := "(III)I" } : Jvm.MethodName)) ∈ am_ts := am_in_5 (List.mem_of_getElem? (i := 28) rfl) rfl
theorem wd_5_29 : (Jvm.Cond.selects "SignCellarModel" ({ cls := "SignCellarModel", name := "change", desc := "(III)I" } : Jvm.MethodName) ({ cls := "SignCellarModel", name := "change", desc := "(III)I" } : Jvm.MethodName)) ∈ am_ts := am_in_5 (List.mem_of_getElem? (i := 29) rfl) rfl
theorem wd_5_30 : (Jvm.Cond.code ({ cls := "SignCellarModel", name := "change", desc := "(III)I" } : Jvm.MethodName) prog_11_method_22_code (5 : Nat) (Option.some Jvm.ClassFile.FieldType.int)) ∈ am_ts := am_in_5 (List.mem_of_getElem? (i := 30) rfl) rfl
theorem wd_5_31 : (Jvm.Cond.methodLink "SignCellarModel" (160 : Nat) ({ cls := "SignCellarModel", name := "noPlace", desc := "(III)Z" } : Jvm.MethodName)) ∈ am_ts := am_in_5 (List.mem_of_getElem? (i := 31) rfl) rfl
theorem wd_5_33 : (Jvm.Cond.instanceMethod ({ cls := "SignCellarModel", name := "noPlace", desc := "(III)Z" } : Jvm.MethodName)) ∈ am_ts := am_in_5 (List.mem_of_getElem? (i := 33) rfl) rfl
theorem wd_5_34 : (Jvm.Cond.code ({ cls := "SignCellarModel", name := "noPlace", desc := "(III)Z" } : Jvm.MethodName) prog_11_method_21_code (4 : Nat) (Option.some Jvm.ClassFile.FieldType.boolean)) ∈ am_ts := am_in_5 (List.mem_of_getElem? (i := 34) rfl) rfl
theorem wd_5_35 : (Jvm.Cond.methodLink "SignCellarModel" (154 : Nat) ({ cls := "SignCellarModel", name := "noVersion", desc := "(I)Z" } : Jvm.MethodName)) ∈ am_ts := am_in_5 (List.mem_of_getElem? (i := 35) rfl) rfl
theorem wd_5_37 : (Jvm.Cond.instanceMethod ({ cls := "SignCellarModel", name := "noVersion", desc := "(I)Z" } : Jvm.MethodName)) ∈ am_ts := am_in_5 (List.mem_of_getElem? (i := 37) rfl) rfl
theorem wd_5_38 : (Jvm.Cond.code ({ cls := "SignCellarModel", name := "noVersion", desc := "(I)Z" } : Jvm.MethodName) prog_11_method_5_code (2 : Nat) (Option.some Jvm.ClassFile.FieldType.boolean)) ∈ am_ts := am_in_5 (List.mem_of_getElem? (i := 38) rfl) rfl
theorem wd_5_39 : (Jvm.Cond.methodLink "SignCellarModel" (157 : Nat) ({ cls := "SignCellarModel", name := "placesOf", desc := "(I)I" } : Jvm.MethodName)) ∈ am_ts := am_in_5 (List.mem_of_getElem? (i := 39) rfl) rfl
theorem wd_5_41 : (Jvm.Cond.instanceMethod ({ cls := "SignCellarModel", name := "placesOf", desc := "(I)I" } : Jvm.MethodName)) ∈ am_ts := am_in_5 (List.mem_of_getElem? (i := 41) rfl) rfl
theorem wd_5_42 : (Jvm.Cond.code ({ cls := "SignCellarModel", name := "placesOf", desc := "(I)I" } : Jvm.MethodName) prog_11_method_16_code (4 : Nat) (Option.some Jvm.ClassFile.FieldType.int)) ∈ am_ts := am_in_5 (List.mem_of_getElem? (i := 42) rfl) rfl
theorem wd_5_43 : (Jvm.Cond.methodLink "SignCellarModel" (141 : Nat) ({ cls := "SignCellarModel", name := "blockAt", desc := "(II)I" } : Jvm.MethodName)) ∈ am_ts := am_in_5 (List.mem_of_getElem? (i := 43) rfl) rfl
theorem wd_5_45 : (Jvm.Cond.instanceMethod ({ cls := "SignCellarModel", name := "blockAt", desc := "(II)I" } : Jvm.MethodName)) ∈ am_ts := am_in_5 (List.mem_of_getElem? (i := 45) rfl) rfl
theorem wd_5_46 : (Jvm.Cond.code ({ cls := "SignCellarModel", name := "blockAt", desc := "(II)I" } : Jvm.MethodName) prog_11_method_7_code (3 : Nat) (Option.some Jvm.ClassFile.FieldType.int)) ∈ am_ts := am_in_5 (List.mem_of_getElem? (i := 46) rfl) rfl
theorem wd_5_47 : (Jvm.Cond.constant "SignCellarModel" (164 : Nat) (-100001 : Int32)) ∈ am_ts := am_in_5 (List.mem_of_getElem? (i := 47) rfl) rfl
theorem wd_5_48 : (Jvm.Cond.methodLink "SignCellarModel" (165 : Nat) ({ cls := "SignCellarModel", name := "tornIn", desc := "(I)I" } : Jvm.MethodName)) ∈ am_ts := am_in_5 (List.mem_of_getElem? (i := 48) rfl) rfl
theorem wd_5_50 : (Jvm.Cond.instanceMethod ({ cls := "SignCellarModel", name := "tornIn", desc := "(I)I" } : Jvm.MethodName)) ∈ am_ts := am_in_5 (List.mem_of_getElem? (i := 50) rfl) rfl
theorem wd_5_51 : (Jvm.Cond.code ({ cls := "SignCellarModel", name := "tornIn", desc := "(I)I" } : Jvm.MethodName) prog_11_method_18_code (4 : Nat) (Option.some Jvm.ClassFile.FieldType.int)) ∈ am_ts := am_in_5 (List.mem_of_getElem? (i := 51) rfl) rfl
theorem wd_5_52 : (Jvm.Cond.methodLink "SignCellarModel" (150 : Nat) ({ cls := "SignCellarModel", name := "one", desc := "(Z)I" } : Jvm.MethodName)) ∈ am_ts := am_in_5 (List.mem_of_getElem? (i := 52) rfl) rfl
theorem wd_5_53 : (Jvm.Cond.static ({ cls := "SignCellarModel", name := "one", desc := "(Z)I" } : Jvm.MethodName)) ∈ am_ts := am_in_5 (List.mem_of_getElem? (i := 53) rfl) rfl
theorem wd_5_54 : (Jvm.Cond.code ({ cls := "SignCellarModel", name := "one", desc := "(Z)I" } : Jvm.MethodName) prog_11_method_4_code (1 : Nat) (Option.some Jvm.ClassFile.FieldType.int)) ∈ am_ts := am_in_5 (List.mem_of_getElem? (i := 54) rfl) rfl
theorem wd_5_55 : (Jvm.Cond.constant "SignCellarModel" (168 : Nat) (-100005 : Int32)) ∈ am_ts := am_in_5 (List.mem_of_getElem? (i := 55) rfl) rfl
theorem wd_5_56 : (Jvm.Cond.methodLink "SignCellarModel" (169 : Nat) ({ cls := "SignCellarModel", name := "find", desc := "(II)V" } : Jvm.MethodName)) ∈ am_ts := am_in_5 (List.mem_of_getElem? (i := 56) rfl) rfl
theorem wd_5_58 : (Jvm.Cond.instanceMethod ({ cls := "SignCellarModel", name := "find", desc := "(II)V" } : Jvm.MethodName)) ∈ am_ts := am_in_5 (List.mem_of_getElem? (i := 58) rfl) rfl
theorem wd_5_59 : (Jvm.Cond.code ({ cls := "SignCellarModel", name := "find", desc := "(II)V" } : Jvm.MethodName) prog_11_method_17_code (3 : Nat) (Option.none : Option Jvm.ClassFile.FieldType)) ∈ am_ts := am_in_5 (List.mem_of_getElem? (i := 59) rfl) rfl
theorem wd_5_60 : (Jvm.Cond.methodLink "SignCellarModel" (173 : Nat) ({ cls := "SignCellarModel", name := "takeBlocks", desc := "(III)V" } : Jvm.MethodName)) ∈ am_ts := am_in_5 (List.mem_of_getElem? (i := 60) rfl) rfl
theorem wd_5_62 : (Jvm.Cond.instanceMethod ({ cls := "SignCellarModel", name := "takeBlocks", desc := "(III)V" } : Jvm.MethodName)) ∈ am_ts := am_in_5 (List.mem_of_getElem? (i := 62) rfl) rfl
theorem wd_5_63 : (Jvm.Cond.code ({ cls := "SignCellarModel", name := "takeBlocks", desc := "(III)V" } : Jvm.MethodName) prog_11_method_19_code (5 : Nat) (Option.none : Option Jvm.ClassFile.FieldType)) ∈ am_ts := am_in_5 (List.mem_of_getElem? (i := 63) rfl) rfl
theorem wd_5_64 : (Jvm.Cond.methodLink "SignCellarModel" (177 : Nat) ({ cls := "SignCellarModel", name := "takeSigns", desc := "(I)V" } : Jvm.MethodName)) ∈ am_ts := am_in_5 (List.mem_of_getElem? (i := 64) rfl) rfl
theorem wd_5_66 : (Jvm.Cond.instanceMethod ({ cls := "SignCellarModel", name := "takeSigns", desc := "(I)V" } : Jvm.MethodName)) ∈ am_ts := am_in_5 (List.mem_of_getElem? (i := 66) rfl) rfl
theorem wd_5_67 : (Jvm.Cond.code ({ cls := "SignCellarModel", name := "takeSigns", desc := "(I)V" } : Jvm.MethodName) prog_11_method_20_code (3 : Nat) (Option.none : Option Jvm.ClassFile.FieldType)) ∈ am_ts := am_in_5 (List.mem_of_getElem? (i := 67) rfl) rfl
theorem wd_5_68 : (Jvm.Cond.methodLink "SignCellarLaw" (33 : Nat) ({ cls := "SignCellarModel", name := "put", desc := "(III)I" } : Jvm.MethodName)) ∈ am_ts := am_in_5 (List.mem_of_getElem? (i := 68) rfl) rfl
theorem wd_5_69 : (Jvm.Cond.instanceMethod ({ cls := "SignCellarModel", name := "put", desc := "(III)I" } : Jvm.MethodName)) ∈ am_ts := am_in_5 (List.mem_of_getElem? (i := 69) rfl) rfl
theorem wd_5_70 : (Jvm.Cond.selects "SignCellarModel" ({ cls := "SignCellarModel", name := "put", desc := "(III)I" } : Jvm.MethodName) ({ cls := "SignCellarModel", name := "put", desc := "(III)I" } : Jvm.MethodName)) ∈ am_ts := am_in_5 (List.mem_of_getElem? (i := 70) rfl) rfl
theorem wd_5_71 : (Jvm.Cond.code ({ cls := "SignCellarModel", name := "put", desc := "(III)I" } : Jvm.MethodName) prog_11_method_24_code (9 : Nat) (Option.some Jvm.ClassFile.FieldType.int)) ∈ am_ts := am_in_5 (List.mem_of_getElem? (i := 71) rfl) rfl
theorem wd_5_72 : (Jvm.Cond.methodLink "SignCellarModel" (181 : Nat) ({ cls := "SignCellarModel", name := "laySplit", desc := "()V" } : Jvm.MethodName)) ∈ am_ts := am_in_5 (List.mem_of_getElem? (i := 72) rfl) rfl
theorem wd_5_74 : (Jvm.Cond.instanceMethod ({ cls := "SignCellarModel", name := "laySplit", desc := "()V" } : Jvm.MethodName)) ∈ am_ts := am_in_5 (List.mem_of_getElem? (i := 74) rfl) rfl
theorem wd_5_75 : (Jvm.Cond.code ({ cls := "SignCellarModel", name := "laySplit", desc := "()V" } : Jvm.MethodName) prog_11_method_23_code (2 : Nat) (Option.none : Option Jvm.ClassFile.FieldType)) ∈ am_ts := am_in_5 (List.mem_of_getElem? (i := 75) rfl) rfl
theorem wd_5_76 : (Jvm.Cond.methodLink "SignCellarLaw" (38 : Nat) ({ cls := "SignCellarModel", name := "strike", desc := "(II)I" } : Jvm.MethodName)) ∈ am_ts := am_in_5 (List.mem_of_getElem? (i := 76) rfl) rfl
theorem wd_5_77 : (Jvm.Cond.instanceMethod ({ cls := "SignCellarModel", name := "strike", desc := "(II)I" } : Jvm.MethodName)) ∈ am_ts := am_in_5 (List.mem_of_getElem? (i := 77) rfl) rfl
theorem wd_5_78 : (Jvm.Cond.selects "SignCellarModel" ({ cls := "SignCellarModel", name := "strike", desc := "(II)I" } : Jvm.MethodName) ({ cls := "SignCellarModel", name := "strike", desc := "(II)I" } : Jvm.MethodName)) ∈ am_ts := am_in_5 (List.mem_of_getElem? (i := 78) rfl) rfl
theorem wd_5_79 : (Jvm.Cond.code ({ cls := "SignCellarModel", name := "strike", desc := "(II)I" } : Jvm.MethodName) prog_11_method_25_code (6 : Nat) (Option.some Jvm.ClassFile.FieldType.int)) ∈ am_ts := am_in_5 (List.mem_of_getElem? (i := 79) rfl) rfl
theorem wd_5_80 : (Jvm.Cond.methodLink "SignCellarLaw" (42 : Nat) ({ cls := "SignCellarModel", name := "about", desc := "(II)I" } : Jvm.MethodName)) ∈ am_ts := am_in_5 (List.mem_of_getElem? (i := 80) rfl) rfl
theorem wd_5_81 : (Jvm.Cond.instanceMethod ({ cls := "SignCellarModel", name := "about", desc := "(II)I" } : Jvm.MethodName)) ∈ am_ts := am_in_5 (List.mem_of_getElem? (i := 81) rfl) rfl
theorem wd_5_82 : (Jvm.Cond.selects "SignCellarModel" ({ cls := "SignCellarModel", name := "about", desc := "(II)I" } : Jvm.MethodName) ({ cls := "SignCellarModel", name := "about", desc := "(II)I" } : Jvm.MethodName)) ∈ am_ts := am_in_5 (List.mem_of_getElem? (i := 82) rfl) rfl
theorem wd_5_83 : (Jvm.Cond.code ({ cls := "SignCellarModel", name := "about", desc := "(II)I" } : Jvm.MethodName) prog_11_method_26_code (3 : Nat) (Option.some Jvm.ClassFile.FieldType.int)) ∈ am_ts := am_in_5 (List.mem_of_getElem? (i := 83) rfl) rfl
theorem wd_5_84 : (Jvm.Cond.methodLink "SignCellarLaw" (46 : Nat) ({ cls := "SignCellarModel", name := "block", desc := "(II)I" } : Jvm.MethodName)) ∈ am_ts := am_in_5 (List.mem_of_getElem? (i := 84) rfl) rfl
theorem wd_5_85 : (Jvm.Cond.instanceMethod ({ cls := "SignCellarModel", name := "block", desc := "(II)I" } : Jvm.MethodName)) ∈ am_ts := am_in_5 (List.mem_of_getElem? (i := 85) rfl) rfl
theorem wd_5_86 : (Jvm.Cond.selects "SignCellarModel" ({ cls := "SignCellarModel", name := "block", desc := "(II)I" } : Jvm.MethodName) ({ cls := "SignCellarModel", name := "block", desc := "(II)I" } : Jvm.MethodName)) ∈ am_ts := am_in_5 (List.mem_of_getElem? (i := 86) rfl) rfl
theorem wd_5_87 : (Jvm.Cond.code ({ cls := "SignCellarModel", name := "block", desc := "(II)I" } : Jvm.MethodName) prog_11_method_27_code (3 : Nat) (Option.some Jvm.ClassFile.FieldType.int)) ∈ am_ts := am_in_5 (List.mem_of_getElem? (i := 87) rfl) rfl
theorem wd_5_88 : (Jvm.Cond.methodLink "SignCellarLaw" (50 : Nat) ({ cls := "SignCellarModel", name := "open", desc := "(II)I" } : Jvm.MethodName)) ∈ am_ts := am_in_5 (List.mem_of_getElem? (i := 88) rfl) rfl
theorem wd_5_89 : (Jvm.Cond.instanceMethod ({ cls := "SignCellarModel", name := "open", desc := "(II)I" } : Jvm.MethodName)) ∈ am_ts := am_in_5 (List.mem_of_getElem? (i := 89) rfl) rfl
theorem wd_5_90 : (Jvm.Cond.selects "SignCellarModel" ({ cls := "SignCellarModel", name := "open", desc := "(II)I" } : Jvm.MethodName) ({ cls := "SignCellarModel", name := "open", desc := "(II)I" } : Jvm.MethodName)) ∈ am_ts := am_in_5 (List.mem_of_getElem? (i := 90) rfl) rfl
theorem wd_5_91 : (Jvm.Cond.code ({ cls := "SignCellarModel", name := "open", desc := "(II)I" } : Jvm.MethodName) prog_11_method_28_code (4 : Nat) (Option.some Jvm.ClassFile.FieldType.int)) ∈ am_ts := am_in_5 (List.mem_of_getElem? (i := 91) rfl) rfl
theorem wd_5_92 : (Jvm.Cond.methodLink "SignCellarLaw" (54 : Nat) ({ cls := "SignCellarModel", name := "told", desc := "(II)I" } : Jvm.MethodName)) ∈ am_ts := am_in_5 (List.mem_of_getElem? (i := 92) rfl) rfl
theorem wd_5_93 : (Jvm.Cond.instanceMethod ({ cls := "SignCellarModel", name := "told", desc := "(II)I" } : Jvm.MethodName)) ∈ am_ts := am_in_5 (List.mem_of_getElem? (i := 93) rfl) rfl
theorem wd_5_94 : (Jvm.Cond.selects "SignCellarModel" ({ cls := "SignCellarModel", name := "told", desc := "(II)I" } : Jvm.MethodName) ({ cls := "SignCellarModel", name := "told", desc := "(II)I" } : Jvm.MethodName)) ∈ am_ts := am_in_5 (List.mem_of_getElem? (i := 94) rfl) rfl
theorem wd_5_95 : (Jvm.Cond.code ({ cls := "SignCellarModel", name := "told", desc := "(II)I" } : Jvm.MethodName) prog_11_method_30_code (5 : Nat) (Option.some Jvm.ClassFile.FieldType.int)) ∈ am_ts := am_in_5 (List.mem_of_getElem? (i := 95) rfl) rfl
theorem wd_5_96 : (Jvm.Cond.methodLink "SignCellarModel" (184 : Nat) ({ cls := "SignCellarModel", name := "noBlock", desc := "(I)Z" } : Jvm.MethodName)) ∈ am_ts := am_in_5 (List.mem_of_getElem? (i := 96) rfl) rfl
theorem wd_5_98 : (Jvm.Cond.instanceMethod ({ cls := "SignCellarModel", name := "noBlock", desc := "(I)Z" } : Jvm.MethodName)) ∈ am_ts := am_in_5 (List.mem_of_getElem? (i := 98) rfl) rfl
theorem wd_5_99 : (Jvm.Cond.code ({ cls := "SignCellarModel", name := "noBlock", desc := "(I)Z" } : Jvm.MethodName) prog_11_method_6_code (2 : Nat) (Option.some Jvm.ClassFile.FieldType.boolean)) ∈ am_ts := am_in_5 (List.mem_of_getElem? (i := 99) rfl) rfl
theorem wd_5_100 : (Jvm.Cond.methodLink "SignCellarModel" (187 : Nat) ({ cls := "SignCellarModel", name := "has", desc := "(II)Z" } : Jvm.MethodName)) ∈ am_ts := am_in_5 (List.mem_of_getElem? (i := 100) rfl) rfl
theorem wd_5_102 : (Jvm.Cond.instanceMethod ({ cls := "SignCellarModel", name := "has", desc := "(II)Z" } : Jvm.MethodName)) ∈ am_ts := am_in_5 (List.mem_of_getElem? (i := 102) rfl) rfl
theorem wd_5_103 : (Jvm.Cond.code ({ cls := "SignCellarModel", name := "has", desc := "(II)Z" } : Jvm.MethodName) prog_11_method_29_code (5 : Nat) (Option.some Jvm.ClassFile.FieldType.boolean)) ∈ am_ts := am_in_5 (List.mem_of_getElem? (i := 103) rfl) rfl
theorem wd_5_104 : (Jvm.Cond.methodLink "SignCellarLaw" (59 : Nat) ({ cls := "SignCellarModel", name := "count", desc := "(I)I" } : Jvm.MethodName)) ∈ am_ts := am_in_5 (List.mem_of_getElem? (i := 104) rfl) rfl
theorem wd_5_105 : (Jvm.Cond.instanceMethod ({ cls := "SignCellarModel", name := "count", desc := "(I)I" } : Jvm.MethodName)) ∈ am_ts := am_in_5 (List.mem_of_getElem? (i := 105) rfl) rfl
theorem wd_5_106 : (Jvm.Cond.selects "SignCellarModel" ({ cls := "SignCellarModel", name := "count", desc := "(I)I" } : Jvm.MethodName) ({ cls := "SignCellarModel", name := "count", desc := "(I)I" } : Jvm.MethodName)) ∈ am_ts := am_in_5 (List.mem_of_getElem? (i := 106) rfl) rfl
theorem wd_5_107 : (Jvm.Cond.code ({ cls := "SignCellarModel", name := "count", desc := "(I)I" } : Jvm.MethodName) prog_11_method_31_code (6 : Nat) (Option.some Jvm.ClassFile.FieldType.int)) ∈ am_ts := am_in_5 (List.mem_of_getElem? (i := 107) rfl) rfl
theorem wd_5_108 : (Jvm.Cond.methodLink "SignCellarLaw" (63 : Nat) ({ cls := "SignCellarModel", name := "share", desc := "(II)I" } : Jvm.MethodName)) ∈ am_ts := am_in_5 (List.mem_of_getElem? (i := 108) rfl) rfl
theorem wd_5_109 : (Jvm.Cond.instanceMethod ({ cls := "SignCellarModel", name := "share", desc := "(II)I" } : Jvm.MethodName)) ∈ am_ts := am_in_5 (List.mem_of_getElem? (i := 109) rfl) rfl
theorem wd_5_110 : (Jvm.Cond.selects "SignCellarModel" ({ cls := "SignCellarModel", name := "share", desc := "(II)I" } : Jvm.MethodName) ({ cls := "SignCellarModel", name := "share", desc := "(II)I" } : Jvm.MethodName)) ∈ am_ts := am_in_5 (List.mem_of_getElem? (i := 110) rfl) rfl
theorem wd_5_111 : (Jvm.Cond.code ({ cls := "SignCellarModel", name := "share", desc := "(II)I" } : Jvm.MethodName) prog_11_method_32_code (5 : Nat) (Option.some Jvm.ClassFile.FieldType.int)) ∈ am_ts := am_in_5 (List.mem_of_getElem? (i := 111) rfl) rfl
theorem wd_5_112 : (Jvm.Cond.methodLink "SignCellarLaw" (75 : Nat) ({ cls := "SignCellarModel", name := "cut", desc := "(II)I" } : Jvm.MethodName)) ∈ am_ts := am_in_5 (List.mem_of_getElem? (i := 112) rfl) rfl
theorem wd_5_113 : (Jvm.Cond.instanceMethod ({ cls := "SignCellarModel", name := "cut", desc := "(II)I" } : Jvm.MethodName)) ∈ am_ts := am_in_5 (List.mem_of_getElem? (i := 113) rfl) rfl
theorem wd_5_114 : (Jvm.Cond.selects "SignCellarModel" ({ cls := "SignCellarModel", name := "cut", desc := "(II)I" } : Jvm.MethodName) ({ cls := "SignCellarModel", name := "cut", desc := "(II)I" } : Jvm.MethodName)) ∈ am_ts := am_in_5 (List.mem_of_getElem? (i := 114) rfl) rfl
theorem wd_5_115 : (Jvm.Cond.code ({ cls := "SignCellarModel", name := "cut", desc := "(II)I" } : Jvm.MethodName) prog_11_method_36_code (3 : Nat) (Option.some Jvm.ClassFile.FieldType.int)) ∈ am_ts := am_in_5 (List.mem_of_getElem? (i := 115) rfl) rfl
theorem wd_5_116 : (Jvm.Cond.methodLink "SignCellarModel" (204 : Nat) ({ cls := "SignCellarModel", name := "findCuts", desc := "(I)V" } : Jvm.MethodName)) ∈ am_ts := am_in_5 (List.mem_of_getElem? (i := 116) rfl) rfl
theorem wd_5_118 : (Jvm.Cond.instanceMethod ({ cls := "SignCellarModel", name := "findCuts", desc := "(I)V" } : Jvm.MethodName)) ∈ am_ts := am_in_5 (List.mem_of_getElem? (i := 118) rfl) rfl
theorem wd_5_119 : (Jvm.Cond.code ({ cls := "SignCellarModel", name := "findCuts", desc := "(I)V" } : Jvm.MethodName) prog_11_method_35_code (8 : Nat) (Option.none : Option Jvm.ClassFile.FieldType)) ∈ am_ts := am_in_5 (List.mem_of_getElem? (i := 119) rfl) rfl
theorem wd_5_120 : (Jvm.Cond.methodLink "SignCellarModel" (194 : Nat) ({ cls := "SignCellarModel", name := "isMate", desc := "(IIII)Z" } : Jvm.MethodName)) ∈ am_ts := am_in_5 (List.mem_of_getElem? (i := 120) rfl) rfl
theorem wd_5_122 : (Jvm.Cond.instanceMethod ({ cls := "SignCellarModel", name := "isMate", desc := "(IIII)Z" } : Jvm.MethodName)) ∈ am_ts := am_in_5 (List.mem_of_getElem? (i := 122) rfl) rfl
theorem wd_5_123 : (Jvm.Cond.code ({ cls := "SignCellarModel", name := "isMate", desc := "(IIII)Z" } : Jvm.MethodName) prog_11_method_33_code (7 : Nat) (Option.some Jvm.ClassFile.FieldType.boolean)) ∈ am_ts := am_in_5 (List.mem_of_getElem? (i := 123) rfl) rfl
theorem wd_5_124 : (Jvm.Cond.methodLink "SignCellarModel" (201 : Nat) ({ cls := "SignCellarModel", name := "pieceAt", desc := "(II)I" } : Jvm.MethodName)) ∈ am_ts := am_in_5 (List.mem_of_getElem? (i := 124) rfl) rfl
theorem wd_5_126 : (Jvm.Cond.instanceMethod ({ cls := "SignCellarModel", name := "pieceAt", desc := "(II)I" } : Jvm.MethodName)) ∈ am_ts := am_in_5 (List.mem_of_getElem? (i := 126) rfl) rfl
theorem wd_5_127 : (Jvm.Cond.code ({ cls := "SignCellarModel", name := "pieceAt", desc := "(II)I" } : Jvm.MethodName) prog_11_method_34_code (5 : Nat) (Option.some Jvm.ClassFile.FieldType.int)) ∈ am_ts := am_in_5 (List.mem_of_getElem? (i := 127) rfl) rfl
theorem wd_5_128 : (Jvm.Cond.methodLink "SignCellarLaw" (79 : Nat) ({ cls := "SignCellarModel", name := "rule", desc := "(III)I" } : Jvm.MethodName)) ∈ am_ts := am_in_5 (List.mem_of_getElem? (i := 128) rfl) rfl
theorem wd_5_129 : (Jvm.Cond.instanceMethod ({ cls := "SignCellarModel", name := "rule", desc := "(III)I" } : Jvm.MethodName)) ∈ am_ts := am_in_5 (List.mem_of_getElem? (i := 129) rfl) rfl
theorem wd_5_130 : (Jvm.Cond.selects "SignCellarModel" ({ cls := "SignCellarModel", name := "rule", desc := "(III)I" } : Jvm.MethodName) ({ cls := "SignCellarModel", name := "rule", desc := "(III)I" } : Jvm.MethodName)) ∈ am_ts := am_in_5 (List.mem_of_getElem? (i := 130) rfl) rfl
theorem wd_5_131 : (Jvm.Cond.code ({ cls := "SignCellarModel", name := "rule", desc := "(III)I" } : Jvm.MethodName) prog_11_method_44_code (4 : Nat) (Option.some Jvm.ClassFile.FieldType.int)) ∈ am_ts := am_in_5 (List.mem_of_getElem? (i := 131) rfl) rfl
theorem wd_5_132 : (Jvm.Cond.constantLong "SignCellarModel" (228 : Nat) (5 : Int64)) ∈ am_ts := am_in_5 (List.mem_of_getElem? (i := 132) rfl) rfl
theorem wd_5_133 : (Jvm.Cond.constantLong "SignCellarModel" (230 : Nat) (9 : Int64)) ∈ am_ts := am_in_5 (List.mem_of_getElem? (i := 133) rfl) rfl
theorem wd_5_134 : (Jvm.Cond.methodLink "SignCellarModel" (232 : Nat) ({ cls := "SignCellarModel", name := "findRules", desc := "(I)V" } : Jvm.MethodName)) ∈ am_ts := am_in_5 (List.mem_of_getElem? (i := 134) rfl) rfl
theorem wd_5_136 : (Jvm.Cond.instanceMethod ({ cls := "SignCellarModel", name := "findRules", desc := "(I)V" } : Jvm.MethodName)) ∈ am_ts := am_in_5 (List.mem_of_getElem? (i := 136) rfl) rfl
theorem wd_5_137 : (Jvm.Cond.code ({ cls := "SignCellarModel", name := "findRules", desc := "(I)V" } : Jvm.MethodName) prog_11_method_42_code (8 : Nat) (Option.none : Option Jvm.ClassFile.FieldType)) ∈ am_ts := am_in_5 (List.mem_of_getElem? (i := 137) rfl) rfl
theorem wd_5_138 : (Jvm.Cond.methodLink "SignCellarModel" (213 : Nat) ({ cls := "SignCellarModel", name := "standsTwice", desc := "(II)I" } : Jvm.MethodName)) ∈ am_ts := am_in_5 (List.mem_of_getElem? (i := 138) rfl) rfl
theorem wd_5_140 : (Jvm.Cond.instanceMethod ({ cls := "SignCellarModel", name := "standsTwice", desc := "(II)I" } : Jvm.MethodName)) ∈ am_ts := am_in_5 (List.mem_of_getElem? (i := 140) rfl) rfl
theorem wd_5_141 : (Jvm.Cond.code ({ cls := "SignCellarModel", name := "standsTwice", desc := "(II)I" } : Jvm.MethodName) prog_11_method_37_code (6 : Nat) (Option.some Jvm.ClassFile.FieldType.int)) ∈ am_ts := am_in_5 (List.mem_of_getElem? (i := 141) rfl) rfl
theorem wd_5_142 : (Jvm.Cond.methodLink "SignCellarModel" (216 : Nat) ({ cls := "SignCellarModel", name := "growRule", desc := "(II)V" } : Jvm.MethodName)) ∈ am_ts := am_in_5 (List.mem_of_getElem? (i := 142) rfl) rfl
theorem wd_5_144 : (Jvm.Cond.instanceMethod ({ cls := "SignCellarModel", name := "growRule", desc := "(II)V" } : Jvm.MethodName)) ∈ am_ts := am_in_5 (List.mem_of_getElem? (i := 144) rfl) rfl
theorem wd_5_145 : (Jvm.Cond.code ({ cls := "SignCellarModel", name := "growRule", desc := "(II)V" } : Jvm.MethodName) prog_11_method_38_code (7 : Nat) (Option.none : Option Jvm.ClassFile.FieldType)) ∈ am_ts := am_in_5 (List.mem_of_getElem? (i := 145) rfl) rfl
theorem wd_5_146 : (Jvm.Cond.methodLink "SignCellarModel" (219 : Nat) ({ cls := "SignCellarModel", name := "standing", desc := "(I)I" } : Jvm.MethodName)) ∈ am_ts := am_in_5 (List.mem_of_getElem? (i := 146) rfl) rfl
theorem wd_5_148 : (Jvm.Cond.instanceMethod ({ cls := "SignCellarModel", name := "standing", desc := "(I)I" } : Jvm.MethodName)) ∈ am_ts := am_in_5 (List.mem_of_getElem? (i := 148) rfl) rfl
theorem wd_5_149 : (Jvm.Cond.code ({ cls := "SignCellarModel", name := "standing", desc := "(I)I" } : Jvm.MethodName) prog_11_method_39_code (5 : Nat) (Option.some Jvm.ClassFile.FieldType.int)) ∈ am_ts := am_in_5 (List.mem_of_getElem? (i := 149) rfl) rfl
theorem wd_5_150 : (Jvm.Cond.methodLink "SignCellarModel" (222 : Nat) ({ cls := "SignCellarModel", name := "putBackInRow", desc := "(I)V" } : Jvm.MethodName)) ∈ am_ts := am_in_5 (List.mem_of_getElem? (i := 150) rfl) rfl
theorem wd_5_152 : (Jvm.Cond.instanceMethod ({ cls := "SignCellarModel", name := "putBackInRow", desc := "(I)V" } : Jvm.MethodName)) ∈ am_ts := am_in_5 (List.mem_of_getElem? (i := 152) rfl) rfl
theorem wd_5_153 : (Jvm.Cond.code ({ cls := "SignCellarModel", name := "putBackInRow", desc := "(I)V" } : Jvm.MethodName) prog_11_method_40_code (5 : Nat) (Option.none : Option Jvm.ClassFile.FieldType)) ∈ am_ts := am_in_5 (List.mem_of_getElem? (i := 153) rfl) rfl
theorem wd_5_154 : (Jvm.Cond.methodLink "SignCellarModel" (225 : Nat) ({ cls := "SignCellarModel", name := "putBackIn", desc := "(II)V" } : Jvm.MethodName)) ∈ am_ts := am_in_5 (List.mem_of_getElem? (i := 154) rfl) rfl
theorem wd_5_156 : (Jvm.Cond.instanceMethod ({ cls := "SignCellarModel", name := "putBackIn", desc := "(II)V" } : Jvm.MethodName)) ∈ am_ts := am_in_5 (List.mem_of_getElem? (i := 156) rfl) rfl
theorem wd_5_157 : (Jvm.Cond.code ({ cls := "SignCellarModel", name := "putBackIn", desc := "(II)V" } : Jvm.MethodName) prog_11_method_41_code (6 : Nat) (Option.none : Option Jvm.ClassFile.FieldType)) ∈ am_ts := am_in_5 (List.mem_of_getElem? (i := 157) rfl) rfl
theorem wd_5_158 : (Jvm.Cond.methodLink "SignCellarModel" (235 : Nat) ({ cls := "SignCellarModel", name := "rulesLeft", desc := "()I" } : Jvm.MethodName)) ∈ am_ts := am_in_5 (List.mem_of_getElem? (i := 158) rfl) rfl
theorem wd_5_160 : (Jvm.Cond.instanceMethod ({ cls := "SignCellarModel", name := "rulesLeft", desc := "()I" } : Jvm.MethodName)) ∈ am_ts := am_in_5 (List.mem_of_getElem? (i := 160) rfl) rfl
theorem wd_5_161 : (Jvm.Cond.code ({ cls := "SignCellarModel", name := "rulesLeft", desc := "()I" } : Jvm.MethodName) prog_11_method_43_code (3 : Nat) (Option.some Jvm.ClassFile.FieldType.int)) ∈ am_ts := am_in_5 (List.mem_of_getElem? (i := 161) rfl) rfl
theorem wd_5_162 : (Jvm.Cond.methodLink "SignCellarLaw" (83 : Nat) ({ cls := "SignCellarModel", name := "bit", desc := "(II)I" } : Jvm.MethodName)) ∈ am_ts := am_in_5 (List.mem_of_getElem? (i := 162) rfl) rfl
theorem wd_5_163 : (Jvm.Cond.instanceMethod ({ cls := "SignCellarModel", name := "bit", desc := "(II)I" } : Jvm.MethodName)) ∈ am_ts := am_in_5 (List.mem_of_getElem? (i := 163) rfl) rfl
theorem wd_5_164 : (Jvm.Cond.selects "SignCellarModel" ({ cls := "SignCellarModel", name := "bit", desc := "(II)I" } : Jvm.MethodName) ({ cls := "SignCellarModel", name := "bit", desc := "(II)I" } : Jvm.MethodName)) ∈ am_ts := am_in_5 (List.mem_of_getElem? (i := 164) rfl) rfl
theorem wd_5_165 : (Jvm.Cond.code ({ cls := "SignCellarModel", name := "bit", desc := "(II)I" } : Jvm.MethodName) prog_11_method_47_code (3 : Nat) (Option.some Jvm.ClassFile.FieldType.int)) ∈ am_ts := am_in_5 (List.mem_of_getElem? (i := 165) rfl) rfl
theorem wd_5_166 : (Jvm.Cond.methodLink "SignCellarModel" (251 : Nat) ({ cls := "SignCellarModel", name := "code", desc := "(I)V" } : Jvm.MethodName)) ∈ am_ts := am_in_5 (List.mem_of_getElem? (i := 166) rfl) rfl
theorem wd_5_168 : (Jvm.Cond.instanceMethod ({ cls := "SignCellarModel", name := "code", desc := "(I)V" } : Jvm.MethodName)) ∈ am_ts := am_in_5 (List.mem_of_getElem? (i := 168) rfl) rfl
theorem wd_5_169 : (Jvm.Cond.code ({ cls := "SignCellarModel", name := "code", desc := "(I)V" } : Jvm.MethodName) prog_11_method_46_code (10 : Nat) (Option.none : Option Jvm.ClassFile.FieldType)) ∈ am_ts := am_in_5 (List.mem_of_getElem? (i := 169) rfl) rfl
theorem wd_5_170 : (Jvm.Cond.constant "SignCellarModel" (245 : Nat) (65535 : Int32)) ∈ am_ts := am_in_5 (List.mem_of_getElem? (i := 170) rfl) rfl
theorem wd_5_171 : (Jvm.Cond.constant "SignCellarModel" (246 : Nat) (32768 : Int32)) ∈ am_ts := am_in_5 (List.mem_of_getElem? (i := 171) rfl) rfl
theorem wd_5_172 : (Jvm.Cond.methodLink "SignCellarModel" (247 : Nat) ({ cls := "SignCellarModel", name := "writeBit", desc := "(I)V" } : Jvm.MethodName)) ∈ am_ts := am_in_5 (List.mem_of_getElem? (i := 172) rfl) rfl
theorem wd_5_174 : (Jvm.Cond.instanceMethod ({ cls := "SignCellarModel", name := "writeBit", desc := "(I)V" } : Jvm.MethodName)) ∈ am_ts := am_in_5 (List.mem_of_getElem? (i := 174) rfl) rfl
theorem wd_5_175 : (Jvm.Cond.code ({ cls := "SignCellarModel", name := "writeBit", desc := "(I)V" } : Jvm.MethodName) prog_11_method_45_code (2 : Nat) (Option.none : Option Jvm.ClassFile.FieldType)) ∈ am_ts := am_in_5 (List.mem_of_getElem? (i := 175) rfl) rfl
theorem wd_5_176 : (Jvm.Cond.constant "SignCellarModel" (250 : Nat) (49152 : Int32)) ∈ am_ts := am_in_5 (List.mem_of_getElem? (i := 176) rfl) rfl
theorem wd_5_177 : (Jvm.Cond.methodLink "SignCellarLaw" (87 : Nat) ({ cls := "SignCellarModel", name := "turned", desc := "(III)I" } : Jvm.MethodName)) ∈ am_ts := am_in_5 (List.mem_of_getElem? (i := 177) rfl) rfl
theorem wd_5_178 : (Jvm.Cond.instanceMethod ({ cls := "SignCellarModel", name := "turned", desc := "(III)I" } : Jvm.MethodName)) ∈ am_ts := am_in_5 (List.mem_of_getElem? (i := 178) rfl) rfl
theorem wd_5_179 : (Jvm.Cond.selects "SignCellarModel" ({ cls := "SignCellarModel", name := "turned", desc := "(III)I" } : Jvm.MethodName) ({ cls := "SignCellarModel", name := "turned", desc := "(III)I" } : Jvm.MethodName)) ∈ am_ts := am_in_5 (List.mem_of_getElem? (i := 179) rfl) rfl
theorem wd_5_180 : (Jvm.Cond.code ({ cls := "SignCellarModel", name := "turned", desc := "(III)I" } : Jvm.MethodName) prog_11_method_51_code (4 : Nat) (Option.some Jvm.ClassFile.FieldType.int)) ∈ am_ts := am_in_5 (List.mem_of_getElem? (i := 180) rfl) rfl
theorem wd_5_181 : (Jvm.Cond.constantLong "SignCellarModel" (264 : Nat) (2 : Int64)) ∈ am_ts := am_in_5 (List.mem_of_getElem? (i := 181) rfl) rfl
theorem wd_5_182 : (Jvm.Cond.methodLink "SignCellarModel" (266 : Nat) ({ cls := "SignCellarModel", name := "findTurns", desc := "(I)V" } : Jvm.MethodName)) ∈ am_ts := am_in_5 (List.mem_of_getElem? (i := 182) rfl) rfl
theorem wd_5_184 : (Jvm.Cond.instanceMethod ({ cls := "SignCellarModel", name := "findTurns", desc := "(I)V" } : Jvm.MethodName)) ∈ am_ts := am_in_5 (List.mem_of_getElem? (i := 184) rfl) rfl
theorem wd_5_185 : (Jvm.Cond.code ({ cls := "SignCellarModel", name := "findTurns", desc := "(I)V" } : Jvm.MethodName) prog_11_method_50_code (8 : Nat) (Option.none : Option Jvm.ClassFile.FieldType)) ∈ am_ts := am_in_5 (List.mem_of_getElem? (i := 185) rfl) rfl
theorem wd_5_186 : (Jvm.Cond.methodLink "SignCellarModel" (258 : Nat) ({ cls := "SignCellarModel", name := "isBefore", desc := "(III)Z" } : Jvm.MethodName)) ∈ am_ts := am_in_5 (List.mem_of_getElem? (i := 186) rfl) rfl
theorem wd_5_188 : (Jvm.Cond.instanceMethod ({ cls := "SignCellarModel", name := "isBefore", desc := "(III)Z" } : Jvm.MethodName)) ∈ am_ts := am_in_5 (List.mem_of_getElem? (i := 188) rfl) rfl
theorem wd_5_189 : (Jvm.Cond.code ({ cls := "SignCellarModel", name := "isBefore", desc := "(III)Z" } : Jvm.MethodName) prog_11_method_49_code (5 : Nat) (Option.some Jvm.ClassFile.FieldType.boolean)) ∈ am_ts := am_in_5 (List.mem_of_getElem? (i := 189) rfl) rfl
theorem wd_5_190 : (Jvm.Cond.methodLink "SignCellarModel" (254 : Nat) ({ cls := "SignCellarModel", name := "turnedSign", desc := "(III)I" } : Jvm.MethodName)) ∈ am_ts := am_in_5 (List.mem_of_getElem? (i := 190) rfl) rfl
theorem wd_5_192 : (Jvm.Cond.instanceMethod ({ cls := "SignCellarModel", name := "turnedSign", desc := "(III)I" } : Jvm.MethodName)) ∈ am_ts := am_in_5 (List.mem_of_getElem? (i := 192) rfl) rfl
theorem wd_5_193 : (Jvm.Cond.code ({ cls := "SignCellarModel", name := "turnedSign", desc := "(III)I" } : Jvm.MethodName) prog_11_method_48_code (5 : Nat) (Option.some Jvm.ClassFile.FieldType.int)) ∈ am_ts := am_in_5 (List.mem_of_getElem? (i := 193) rfl) rfl
theorem wd_5_194 : (Jvm.Cond.methodLink "SignCellarLaw" (67 : Nat) ({ cls := "SignCellarModel", name := "size", desc := "(II)I" } : Jvm.MethodName)) ∈ am_ts := am_in_5 (List.mem_of_getElem? (i := 194) rfl) rfl
theorem wd_5_195 : (Jvm.Cond.instanceMethod ({ cls := "SignCellarModel", name := "size", desc := "(II)I" } : Jvm.MethodName)) ∈ am_ts := am_in_5 (List.mem_of_getElem? (i := 195) rfl) rfl
theorem wd_5_196 : (Jvm.Cond.selects "SignCellarModel" ({ cls := "SignCellarModel", name := "size", desc := "(II)I" } : Jvm.MethodName) ({ cls := "SignCellarModel", name := "size", desc := "(II)I" } : Jvm.MethodName)) ∈ am_ts := am_in_5 (List.mem_of_getElem? (i := 196) rfl) rfl
theorem wd_5_197 : (Jvm.Cond.code ({ cls := "SignCellarModel", name := "size", desc := "(II)I" } : Jvm.MethodName) prog_11_method_55_code (4 : Nat) (Option.some Jvm.ClassFile.FieldType.int)) ∈ am_ts := am_in_5 (List.mem_of_getElem? (i := 197) rfl) rfl
theorem wd_5_198 : (Jvm.Cond.methodLink "SignCellarModel" (271 : Nat) ({ cls := "SignCellarModel", name := "why", desc := "(II)I" } : Jvm.MethodName)) ∈ am_ts := am_in_5 (List.mem_of_getElem? (i := 198) rfl) rfl
theorem wd_5_200 : (Jvm.Cond.instanceMethod ({ cls := "SignCellarModel", name := "why", desc := "(II)I" } : Jvm.MethodName)) ∈ am_ts := am_in_5 (List.mem_of_getElem? (i := 200) rfl) rfl
theorem wd_5_201 : (Jvm.Cond.code ({ cls := "SignCellarModel", name := "why", desc := "(II)I" } : Jvm.MethodName) prog_11_method_54_code (3 : Nat) (Option.some Jvm.ClassFile.FieldType.int)) ∈ am_ts := am_in_5 (List.mem_of_getElem? (i := 201) rfl) rfl
theorem wd_5_202 : (Jvm.Cond.constantLong "SignCellarModel" (269 : Nat) (4 : Int64)) ∈ am_ts := am_in_5 (List.mem_of_getElem? (i := 202) rfl) rfl
theorem wd_5_203 : (Jvm.Cond.methodLink "SignCellarModel" (274 : Nat) ({ cls := "SignCellarModel", name := "sizeBy", desc := "(II)I" } : Jvm.MethodName)) ∈ am_ts := am_in_5 (List.mem_of_getElem? (i := 203) rfl) rfl
theorem wd_5_205 : (Jvm.Cond.instanceMethod ({ cls := "SignCellarModel", name := "sizeBy", desc := "(II)I" } : Jvm.MethodName)) ∈ am_ts := am_in_5 (List.mem_of_getElem? (i := 205) rfl) rfl
theorem wd_5_206 : (Jvm.Cond.code ({ cls := "SignCellarModel", name := "sizeBy", desc := "(II)I" } : Jvm.MethodName) prog_11_method_52_code (6 : Nat) (Option.some Jvm.ClassFile.FieldType.int)) ∈ am_ts := am_in_5 (List.mem_of_getElem? (i := 206) rfl) rfl
theorem wd_5_207 : (Jvm.Cond.methodLink "SignCellarLaw" (71 : Nat) ({ cls := "SignCellarModel", name := "time", desc := "(II)I" } : Jvm.MethodName)) ∈ am_ts := am_in_5 (List.mem_of_getElem? (i := 207) rfl) rfl
theorem wd_5_208 : (Jvm.Cond.instanceMethod ({ cls := "SignCellarModel", name := "time", desc := "(II)I" } : Jvm.MethodName)) ∈ am_ts := am_in_5 (List.mem_of_getElem? (i := 208) rfl) rfl
theorem wd_5_209 : (Jvm.Cond.selects "SignCellarModel" ({ cls := "SignCellarModel", name := "time", desc := "(II)I" } : Jvm.MethodName) ({ cls := "SignCellarModel", name := "time", desc := "(II)I" } : Jvm.MethodName)) ∈ am_ts := am_in_5 (List.mem_of_getElem? (i := 209) rfl) rfl
theorem wd_5_210 : (Jvm.Cond.code ({ cls := "SignCellarModel", name := "time", desc := "(II)I" } : Jvm.MethodName) prog_11_method_56_code (4 : Nat) (Option.some Jvm.ClassFile.FieldType.int)) ∈ am_ts := am_in_5 (List.mem_of_getElem? (i := 210) rfl) rfl
theorem wd_5_211 : (Jvm.Cond.methodLink "SignCellarModel" (277 : Nat) ({ cls := "SignCellarModel", name := "timeBy", desc := "(II)I" } : Jvm.MethodName)) ∈ am_ts := am_in_5 (List.mem_of_getElem? (i := 211) rfl) rfl
theorem wd_5_213 : (Jvm.Cond.instanceMethod ({ cls := "SignCellarModel", name := "timeBy", desc := "(II)I" } : Jvm.MethodName)) ∈ am_ts := am_in_5 (List.mem_of_getElem? (i := 213) rfl) rfl
theorem wd_5_214 : (Jvm.Cond.code ({ cls := "SignCellarModel", name := "timeBy", desc := "(II)I" } : Jvm.MethodName) prog_11_method_53_code (4 : Nat) (Option.some Jvm.ClassFile.FieldType.int)) ∈ am_ts := am_in_5 (List.mem_of_getElem? (i := 214) rfl) rfl
theorem wd_5_215 : (Jvm.Cond.methodLink "SignCellarLaw" (91 : Nat) ({ cls := "SignCellarModel", name := "best", desc := "(III)I" } : Jvm.MethodName)) ∈ am_ts := am_in_5 (List.mem_of_getElem? (i := 215) rfl) rfl
theorem wd_5_216 : (Jvm.Cond.instanceMethod ({ cls := "SignCellarModel", name := "best", desc := "(III)I" } : Jvm.MethodName)) ∈ am_ts := am_in_5 (List.mem_of_getElem? (i := 216) rfl) rfl
theorem wd_5_217 : (Jvm.Cond.selects "SignCellarModel" ({ cls := "SignCellarModel", name := "best", desc := "(III)I" } : Jvm.MethodName) ({ cls := "SignCellarModel", name := "best", desc := "(III)I" } : Jvm.MethodName)) ∈ am_ts := am_in_5 (List.mem_of_getElem? (i := 217) rfl) rfl
theorem wd_5_218 : (Jvm.Cond.code ({ cls := "SignCellarModel", name := "best", desc := "(III)I" } : Jvm.MethodName) prog_11_method_59_code (9 : Nat) (Option.some Jvm.ClassFile.FieldType.int)) ∈ am_ts := am_in_5 (List.mem_of_getElem? (i := 218) rfl) rfl
theorem wd_5_219 : (Jvm.Cond.constantLong "SignCellarModel" (284 : Nat) (9999 : Int64)) ∈ am_ts := am_in_5 (List.mem_of_getElem? (i := 219) rfl) rfl
theorem wd_5_220 : (Jvm.Cond.methodLink "SignCellarModel" (286 : Nat) ({ cls := "SignCellarModel", name := "findBest", desc := "(I)V" } : Jvm.MethodName)) ∈ am_ts := am_in_5 (List.mem_of_getElem? (i := 220) rfl) rfl
theorem wd_5_222 : (Jvm.Cond.instanceMethod ({ cls := "SignCellarModel", name := "findBest", desc := "(I)V" } : Jvm.MethodName)) ∈ am_ts := am_in_5 (List.mem_of_getElem? (i := 222) rfl) rfl
theorem wd_5_223 : (Jvm.Cond.code ({ cls := "SignCellarModel", name := "findBest", desc := "(I)V" } : Jvm.MethodName) prog_11_method_58_code (9 : Nat) (Option.none : Option Jvm.ClassFile.FieldType)) ∈ am_ts := am_in_5 (List.mem_of_getElem? (i := 223) rfl) rfl
theorem wd_5_224 : (Jvm.Cond.methodLink "SignCellarModel" (280 : Nat) ({ cls := "SignCellarModel", name := "at", desc := "(II)I" } : Jvm.MethodName)) ∈ am_ts := am_in_5 (List.mem_of_getElem? (i := 224) rfl) rfl
theorem wd_5_225 : (Jvm.Cond.static ({ cls := "SignCellarModel", name := "at", desc := "(II)I" } : Jvm.MethodName)) ∈ am_ts := am_in_5 (List.mem_of_getElem? (i := 225) rfl) rfl
theorem wd_5_226 : (Jvm.Cond.code ({ cls := "SignCellarModel", name := "at", desc := "(II)I" } : Jvm.MethodName) prog_11_method_57_code (2 : Nat) (Option.some Jvm.ClassFile.FieldType.int)) ∈ am_ts := am_in_5 (List.mem_of_getElem? (i := 226) rfl) rfl
theorem wd_5_227 : (Jvm.Cond.constant "SignCellarModel" (283 : Nat) (1000000 : Int32)) ∈ am_ts := am_in_5 (List.mem_of_getElem? (i := 227) rfl) rfl
theorem wd_5_228 : (Jvm.Cond.methodLink "SignCellarLaw" (95 : Nat) ({ cls := "SignCellarModel", name := "sign", desc := "(I)I" } : Jvm.MethodName)) ∈ am_ts := am_in_5 (List.mem_of_getElem? (i := 228) rfl) rfl
theorem wd_5_229 : (Jvm.Cond.instanceMethod ({ cls := "SignCellarModel", name := "sign", desc := "(I)I" } : Jvm.MethodName)) ∈ am_ts := am_in_5 (List.mem_of_getElem? (i := 229) rfl) rfl
theorem wd_5_230 : (Jvm.Cond.selects "SignCellarModel" ({ cls := "SignCellarModel", name := "sign", desc := "(I)I" } : Jvm.MethodName) ({ cls := "SignCellarModel", name := "sign", desc := "(I)I" } : Jvm.MethodName)) ∈ am_ts := am_in_5 (List.mem_of_getElem? (i := 230) rfl) rfl
theorem wd_5_231 : (Jvm.Cond.code ({ cls := "SignCellarModel", name := "sign", desc := "(I)I" } : Jvm.MethodName) prog_11_method_60_code (2 : Nat) (Option.some Jvm.ClassFile.FieldType.int)) ∈ am_ts := am_in_5 (List.mem_of_getElem? (i := 231) rfl) rfl
theorem wd_5_232 : (Jvm.Cond.constantLong "SignCellarModel" (289 : Nat) (65535 : Int64)) ∈ am_ts := am_in_5 (List.mem_of_getElem? (i := 232) rfl) rfl
theorem wd_5_233 : (Jvm.Cond.methodLink "SignCellarLaw" (99 : Nat) ({ cls := "SignCellarModel", name := "clear", desc := "()I" } : Jvm.MethodName)) ∈ am_ts := am_in_5 (List.mem_of_getElem? (i := 233) rfl) rfl
theorem wd_5_234 : (Jvm.Cond.instanceMethod ({ cls := "SignCellarModel", name := "clear", desc := "()I" } : Jvm.MethodName)) ∈ am_ts := am_in_5 (List.mem_of_getElem? (i := 234) rfl) rfl
theorem wd_5_235 : (Jvm.Cond.selects "SignCellarModel" ({ cls := "SignCellarModel", name := "clear", desc := "()I" } : Jvm.MethodName) ({ cls := "SignCellarModel", name := "clear", desc := "()I" } : Jvm.MethodName)) ∈ am_ts := am_in_5 (List.mem_of_getElem? (i := 235) rfl) rfl
theorem wd_5_236 : (Jvm.Cond.code ({ cls := "SignCellarModel", name := "clear", desc := "()I" } : Jvm.MethodName) prog_11_method_61_code (2 : Nat) (Option.some Jvm.ClassFile.FieldType.int)) ∈ am_ts := am_in_5 (List.mem_of_getElem? (i := 236) rfl) rfl
theorem wd_5_237 : (Jvm.Cond.methodLink "SignCellarLaw" (103 : Nat) ({ cls := "SignCellarModel", name := "seek", desc := "(III)I" } : Jvm.MethodName)) ∈ am_ts := am_in_5 (List.mem_of_getElem? (i := 237) rfl) rfl
theorem wd_5_238 : (Jvm.Cond.instanceMethod ({ cls := "SignCellarModel", name := "seek", desc := "(III)I" } : Jvm.MethodName)) ∈ am_ts := am_in_5 (List.mem_of_getElem? (i := 238) rfl) rfl
theorem wd_5_239 : (Jvm.Cond.selects "SignCellarModel" ({ cls := "SignCellarModel", name := "seek", desc := "(III)I" } : Jvm.MethodName) ({ cls := "SignCellarModel", name := "seek", desc := "(III)I" } : Jvm.MethodName)) ∈ am_ts := am_in_5 (List.mem_of_getElem? (i := 239) rfl) rfl
theorem wd_6_0 : (Jvm.Cond.code ({ cls := "SignCellarModel", name := "seek", desc := "(III)I" } : Jvm.MethodName) prog_11_method_63_code (10 : Nat) (Option.some Jvm.ClassFile.FieldType.int)) ∈ am_ts := am_in_6 (List.mem_of_getElem? (i := 0) rfl) rfl
theorem wd_6_1 : (Jvm.Cond.constantLong "SignCellarModel" (291 : Nat) (3 : Int64)) ∈ am_ts := am_in_6 (List.mem_of_getElem? (i := 1) rfl) rfl
theorem wd_6_2 : (Jvm.Cond.methodLink "SignCellarModel" (293 : Nat) ({ cls := "SignCellarModel", name := "signAt", desc := "(II)I" } : Jvm.MethodName)) ∈ am_ts := am_in_6 (List.mem_of_getElem? (i := 2) rfl) rfl
theorem wd_6_4 : (Jvm.Cond.instanceMethod ({ cls := "SignCellarModel", name := "signAt", desc := "(II)I" } : Jvm.MethodName)) ∈ am_ts := am_in_6 (List.mem_of_getElem? (i := 4) rfl) rfl
theorem wd_6_5 : (Jvm.Cond.code ({ cls := "SignCellarModel", name := "signAt", desc := "(II)I" } : Jvm.MethodName) prog_11_method_62_code (3 : Nat) (Option.some Jvm.ClassFile.FieldType.int)) ∈ am_ts := am_in_6 (List.mem_of_getElem? (i := 5) rfl) rfl
theorem wd_6_6 : (Jvm.Cond.methodLink "SignCellarLaw" (108 : Nat) ({ cls := "SignCellarModel", name := "span", desc := "(IIII)I" } : Jvm.MethodName)) ∈ am_ts := am_in_6 (List.mem_of_getElem? (i := 6) rfl) rfl
theorem wd_6_7 : (Jvm.Cond.instanceMethod ({ cls := "SignCellarModel", name := "span", desc := "(IIII)I" } : Jvm.MethodName)) ∈ am_ts := am_in_6 (List.mem_of_getElem? (i := 7) rfl) rfl
theorem wd_6_8 : (Jvm.Cond.selects "SignCellarModel" ({ cls := "SignCellarModel", name := "span", desc := "(IIII)I" } : Jvm.MethodName) ({ cls := "SignCellarModel", name := "span", desc := "(IIII)I" } : Jvm.MethodName)) ∈ am_ts := am_in_6 (List.mem_of_getElem? (i := 8) rfl) rfl
theorem wd_6_9 : (Jvm.Cond.code ({ cls := "SignCellarModel", name := "span", desc := "(IIII)I" } : Jvm.MethodName) prog_11_method_64_code (13 : Nat) (Option.some Jvm.ClassFile.FieldType.int)) ∈ am_ts := am_in_6 (List.mem_of_getElem? (i := 9) rfl) rfl
theorem wd_6_10 : (Jvm.Cond.methodLink "SignCellarLaw" (112 : Nat) ({ cls := "SignCellarModel", name := "tear", desc := "(I)I" } : Jvm.MethodName)) ∈ am_ts := am_in_6 (List.mem_of_getElem? (i := 10) rfl) rfl
theorem wd_6_11 : (Jvm.Cond.instanceMethod ({ cls := "SignCellarModel", name := "tear", desc := "(I)I" } : Jvm.MethodName)) ∈ am_ts := am_in_6 (List.mem_of_getElem? (i := 11) rfl) rfl
theorem wd_6_12 : (Jvm.Cond.selects "SignCellarModel" ({ cls := "SignCellarModel", name := "tear", desc := "(I)I" } : Jvm.MethodName) ({ cls := "SignCellarModel", name := "tear", desc := "(I)I" } : Jvm.MethodName)) ∈ am_ts := am_in_6 (List.mem_of_getElem? (i := 12) rfl) rfl
theorem wd_6_13 : (Jvm.Cond.code ({ cls := "SignCellarModel", name := "tear", desc := "(I)I" } : Jvm.MethodName) prog_11_method_65_code (2 : Nat) (Option.some Jvm.ClassFile.FieldType.int)) ∈ am_ts := am_in_6 (List.mem_of_getElem? (i := 13) rfl) rfl
theorem wd_6_14 : (Jvm.Cond.methodLink "SignCellarLaw" (116 : Nat) ({ cls := "SignCellarModel", name := "sums", desc := "(III)I" } : Jvm.MethodName)) ∈ am_ts := am_in_6 (List.mem_of_getElem? (i := 14) rfl) rfl
theorem wd_6_15 : (Jvm.Cond.instanceMethod ({ cls := "SignCellarModel", name := "sums", desc := "(III)I" } : Jvm.MethodName)) ∈ am_ts := am_in_6 (List.mem_of_getElem? (i := 15) rfl) rfl
theorem wd_6_16 : (Jvm.Cond.selects "SignCellarModel" ({ cls := "SignCellarModel", name := "sums", desc := "(III)I" } : Jvm.MethodName) ({ cls := "SignCellarModel", name := "sums", desc := "(III)I" } : Jvm.MethodName)) ∈ am_ts := am_in_6 (List.mem_of_getElem? (i := 16) rfl) rfl
theorem wd_6_17 : (Jvm.Cond.code ({ cls := "SignCellarModel", name := "sums", desc := "(III)I" } : Jvm.MethodName) prog_11_method_66_code (4 : Nat) (Option.some Jvm.ClassFile.FieldType.int)) ∈ am_ts := am_in_6 (List.mem_of_getElem? (i := 17) rfl) rfl
theorem wd_6_18 : (Jvm.Cond.constantLong "SignCellarModel" (296 : Nat) (23 : Int64)) ∈ am_ts := am_in_6 (List.mem_of_getElem? (i := 18) rfl) rfl
theorem wd_6_19 : (Jvm.Cond.methodLink "SignCellarLaw" (120 : Nat) ({ cls := "SignCellarModel", name := "restore", desc := "(I)I" } : Jvm.MethodName)) ∈ am_ts := am_in_6 (List.mem_of_getElem? (i := 19) rfl) rfl
theorem wd_6_20 : (Jvm.Cond.instanceMethod ({ cls := "SignCellarModel", name := "restore", desc := "(I)I" } : Jvm.MethodName)) ∈ am_ts := am_in_6 (List.mem_of_getElem? (i := 20) rfl) rfl
theorem wd_6_21 : (Jvm.Cond.selects "SignCellarModel" ({ cls := "SignCellarModel", name := "restore", desc := "(I)I" } : Jvm.MethodName) ({ cls := "SignCellarModel", name := "restore", desc := "(I)I" } : Jvm.MethodName)) ∈ am_ts := am_in_6 (List.mem_of_getElem? (i := 21) rfl) rfl
theorem wd_6_22 : (Jvm.Cond.code ({ cls := "SignCellarModel", name := "restore", desc := "(I)I" } : Jvm.MethodName) prog_11_method_67_code (6 : Nat) (Option.some Jvm.ClassFile.FieldType.int)) ∈ am_ts := am_in_6 (List.mem_of_getElem? (i := 22) rfl) rfl
theorem wd_6_23 : (Jvm.Cond.methodLink "SignCellarLaw" (124 : Nat) ({ cls := "SignCellarModel", name := "send", desc := "(III)I" } : Jvm.MethodName)) ∈ am_ts := am_in_6 (List.mem_of_getElem? (i := 23) rfl) rfl
theorem wd_6_24 : (Jvm.Cond.instanceMethod ({ cls := "SignCellarModel", name := "send", desc := "(III)I" } : Jvm.MethodName)) ∈ am_ts := am_in_6 (List.mem_of_getElem? (i := 24) rfl) rfl
theorem wd_6_25 : (Jvm.Cond.selects "SignCellarModel" ({ cls := "SignCellarModel", name := "send", desc := "(III)I" } : Jvm.MethodName) ({ cls := "SignCellarModel", name := "send", desc := "(III)I" } : Jvm.MethodName)) ∈ am_ts := am_in_6 (List.mem_of_getElem? (i := 25) rfl) rfl
theorem wd_6_26 : (Jvm.Cond.code ({ cls := "SignCellarModel", name := "send", desc := "(III)I" } : Jvm.MethodName) prog_11_method_69_code (10 : Nat) (Option.some Jvm.ClassFile.FieldType.int)) ∈ am_ts := am_in_6 (List.mem_of_getElem? (i := 26) rfl) rfl
theorem wd_6_27 : (Jvm.Cond.methodLink "SignCellarModel" (298 : Nat) ({ cls := "SignCellarModel", name := "differ", desc := "(II)I" } : Jvm.MethodName)) ∈ am_ts := am_in_6 (List.mem_of_getElem? (i := 27) rfl) rfl
theorem wd_6_29 : (Jvm.Cond.instanceMethod ({ cls := "SignCellarModel", name := "differ", desc := "(II)I" } : Jvm.MethodName)) ∈ am_ts := am_in_6 (List.mem_of_getElem? (i := 29) rfl) rfl
theorem wd_6_30 : (Jvm.Cond.code ({ cls := "SignCellarModel", name := "differ", desc := "(II)I" } : Jvm.MethodName) prog_11_method_68_code (9 : Nat) (Option.some Jvm.ClassFile.FieldType.int)) ∈ am_ts := am_in_6 (List.mem_of_getElem? (i := 30) rfl) rfl
theorem wd_6_31 : (Jvm.Cond.methodLink "SignCellarLaw" (129 : Nat) ({ cls := "SignCellarModel", name := "ways", desc := "(I)J" } : Jvm.MethodName)) ∈ am_ts := am_in_6 (List.mem_of_getElem? (i := 31) rfl) rfl
theorem wd_6_32 : (Jvm.Cond.instanceMethod ({ cls := "SignCellarModel", name := "ways", desc := "(I)J" } : Jvm.MethodName)) ∈ am_ts := am_in_6 (List.mem_of_getElem? (i := 32) rfl) rfl
theorem wd_6_33 : (Jvm.Cond.selects "SignCellarModel" ({ cls := "SignCellarModel", name := "ways", desc := "(I)J" } : Jvm.MethodName) ({ cls := "SignCellarModel", name := "ways", desc := "(I)J" } : Jvm.MethodName)) ∈ am_ts := am_in_6 (List.mem_of_getElem? (i := 33) rfl) rfl
theorem wd_6_34 : (Jvm.Cond.code ({ cls := "SignCellarModel", name := "ways", desc := "(I)J" } : Jvm.MethodName) prog_11_method_73_code (3 : Nat) (Option.some Jvm.ClassFile.FieldType.long)) ∈ am_ts := am_in_6 (List.mem_of_getElem? (i := 34) rfl) rfl
theorem wd_6_35 : (Jvm.Cond.methodLink "SignCellarModel" (304 : Nat) ({ cls := "SignCellarModel", name := "whyNoWays", desc := "(I)I" } : Jvm.MethodName)) ∈ am_ts := am_in_6 (List.mem_of_getElem? (i := 35) rfl) rfl
theorem wd_6_37 : (Jvm.Cond.instanceMethod ({ cls := "SignCellarModel", name := "whyNoWays", desc := "(I)I" } : Jvm.MethodName)) ∈ am_ts := am_in_6 (List.mem_of_getElem? (i := 37) rfl) rfl
theorem wd_6_38 : (Jvm.Cond.code ({ cls := "SignCellarModel", name := "whyNoWays", desc := "(I)I" } : Jvm.MethodName) prog_11_method_72_code (2 : Nat) (Option.some Jvm.ClassFile.FieldType.int)) ∈ am_ts := am_in_6 (List.mem_of_getElem? (i := 38) rfl) rfl
theorem wd_6_39 : (Jvm.Cond.methodLink "SignCellarModel" (307 : Nat) ({ cls := "SignCellarModel", name := "waysOf", desc := "(I)J" } : Jvm.MethodName)) ∈ am_ts := am_in_6 (List.mem_of_getElem? (i := 39) rfl) rfl
theorem wd_6_41 : (Jvm.Cond.instanceMethod ({ cls := "SignCellarModel", name := "waysOf", desc := "(I)J" } : Jvm.MethodName)) ∈ am_ts := am_in_6 (List.mem_of_getElem? (i := 41) rfl) rfl
theorem wd_6_42 : (Jvm.Cond.code ({ cls := "SignCellarModel", name := "waysOf", desc := "(I)J" } : Jvm.MethodName) prog_11_method_71_code (10 : Nat) (Option.some Jvm.ClassFile.FieldType.long)) ∈ am_ts := am_in_6 (List.mem_of_getElem? (i := 42) rfl) rfl
theorem wd_6_43 : (Jvm.Cond.methodLink "SignCellarModel" (301 : Nat) ({ cls := "SignCellarModel", name := "often", desc := "(II)I" } : Jvm.MethodName)) ∈ am_ts := am_in_6 (List.mem_of_getElem? (i := 43) rfl) rfl
theorem wd_6_45 : (Jvm.Cond.instanceMethod ({ cls := "SignCellarModel", name := "often", desc := "(II)I" } : Jvm.MethodName)) ∈ am_ts := am_in_6 (List.mem_of_getElem? (i := 45) rfl) rfl
theorem wd_6_46 : (Jvm.Cond.code ({ cls := "SignCellarModel", name := "often", desc := "(II)I" } : Jvm.MethodName) prog_11_method_70_code (5 : Nat) (Option.some Jvm.ClassFile.FieldType.int)) ∈ am_ts := am_in_6 (List.mem_of_getElem? (i := 46) rfl) rfl
theorem wd_6_47 : (Jvm.Cond.methodLink "SignCellarLaw" (133 : Nat) ({ cls := "SignCellarModel", name := "bound", desc := "(I)I" } : Jvm.MethodName)) ∈ am_ts := am_in_6 (List.mem_of_getElem? (i := 47) rfl) rfl
theorem wd_6_48 : (Jvm.Cond.instanceMethod ({ cls := "SignCellarModel", name := "bound", desc := "(I)I" } : Jvm.MethodName)) ∈ am_ts := am_in_6 (List.mem_of_getElem? (i := 48) rfl) rfl
theorem wd_6_49 : (Jvm.Cond.selects "SignCellarModel" ({ cls := "SignCellarModel", name := "bound", desc := "(I)I" } : Jvm.MethodName) ({ cls := "SignCellarModel", name := "bound", desc := "(I)I" } : Jvm.MethodName)) ∈ am_ts := am_in_6 (List.mem_of_getElem? (i := 49) rfl) rfl
theorem wd_6_50 : (Jvm.Cond.code ({ cls := "SignCellarModel", name := "bound", desc := "(I)I" } : Jvm.MethodName) prog_11_method_74_code (4 : Nat) (Option.some Jvm.ClassFile.FieldType.int)) ∈ am_ts := am_in_6 (List.mem_of_getElem? (i := 50) rfl) rfl
theorem wd_6_51 : (Jvm.Cond.methodLink "SignCellarLaw" (137 : Nat) ({ cls := "SignCellarModel", name := "entropy", desc := "(II)I" } : Jvm.MethodName)) ∈ am_ts := am_in_6 (List.mem_of_getElem? (i := 51) rfl) rfl
theorem wd_6_52 : (Jvm.Cond.instanceMethod ({ cls := "SignCellarModel", name := "entropy", desc := "(II)I" } : Jvm.MethodName)) ∈ am_ts := am_in_6 (List.mem_of_getElem? (i := 52) rfl) rfl
theorem wd_6_53 : (Jvm.Cond.selects "SignCellarModel" ({ cls := "SignCellarModel", name := "entropy", desc := "(II)I" } : Jvm.MethodName) ({ cls := "SignCellarModel", name := "entropy", desc := "(II)I" } : Jvm.MethodName)) ∈ am_ts := am_in_6 (List.mem_of_getElem? (i := 53) rfl) rfl
theorem wd_6_54 : (Jvm.Cond.code ({ cls := "SignCellarModel", name := "entropy", desc := "(II)I" } : Jvm.MethodName) prog_11_method_75_code (3 : Nat) (Option.some Jvm.ClassFile.FieldType.int)) ∈ am_ts := am_in_6 (List.mem_of_getElem? (i := 54) rfl) rfl
theorem wd_6_55 : (Jvm.Cond.constantLong "SignCellarModel" (311 : Nat) (-1 : Int64)) ∈ am_ts := am_in_6 (List.mem_of_getElem? (i := 55) rfl) rfl
theorem wd_6_56 : (Jvm.Cond.constantLong "SignCellarLaw" (13 : Nat) (4294967295 : Int64)) ∈ am_ts := am_in_6 (List.mem_of_getElem? (i := 56) rfl) rfl
theorem inX0 : ∀ w ∈ u_ws RX0 TX0 4, w ∈ am_ts := by
  have h : u_ws RX0 TX0 4 = [u_lay RX0 TX0 0, u_lay RX0 TX0 1, u_lay RX0 TX0 2, u_lay RX0 TX0 3] := rfl
  rw [h]
  exact List.forall_mem_cons.mpr ⟨wd_2_65, List.forall_mem_cons.mpr ⟨wd_2_67, List.forall_mem_cons.mpr ⟨wd_2_69, List.forall_mem_cons.mpr ⟨wd_2_71, fun _ h => absurd h List.not_mem_nil⟩⟩⟩⟩
theorem inX1 : ∀ w ∈ u_ws RX1 TX1 6, w ∈ am_ts := by
  have h : u_ws RX1 TX1 6 = [u_lay RX1 TX1 0, u_lay RX1 TX1 1, u_lay RX1 TX1 2, u_lay RX1 TX1 3, u_lay RX1 TX1 4, u_lay RX1 TX1 5] := rfl
  rw [h]
  exact List.forall_mem_cons.mpr ⟨wd_1_167, List.forall_mem_cons.mpr ⟨wd_1_169, List.forall_mem_cons.mpr ⟨wd_1_171, List.forall_mem_cons.mpr ⟨wd_1_173, List.forall_mem_cons.mpr ⟨wd_1_175, List.forall_mem_cons.mpr ⟨wd_1_177, fun _ h => absurd h List.not_mem_nil⟩⟩⟩⟩⟩⟩
theorem inX2 : ∀ w ∈ u_ws RX2 TX2 4, w ∈ am_ts := by
  have h : u_ws RX2 TX2 4 = [u_lay RX2 TX2 0, u_lay RX2 TX2 1, u_lay RX2 TX2 2, u_lay RX2 TX2 3] := rfl
  rw [h]
  exact List.forall_mem_cons.mpr ⟨wd_1_57, List.forall_mem_cons.mpr ⟨wd_1_59, List.forall_mem_cons.mpr ⟨wd_1_61, List.forall_mem_cons.mpr ⟨wd_1_63, fun _ h => absurd h List.not_mem_nil⟩⟩⟩⟩
theorem inX3 : ∀ w ∈ u_ws RX3 TX3 5, w ∈ am_ts := by
  have h : u_ws RX3 TX3 5 = [u_lay RX3 TX3 0, u_lay RX3 TX3 1, u_lay RX3 TX3 2, u_lay RX3 TX3 3, u_lay RX3 TX3 4] := rfl
  rw [h]
  exact List.forall_mem_cons.mpr ⟨wd_1_111, List.forall_mem_cons.mpr ⟨wd_1_113, List.forall_mem_cons.mpr ⟨wd_1_115, List.forall_mem_cons.mpr ⟨wd_1_117, List.forall_mem_cons.mpr ⟨wd_1_119, fun _ h => absurd h List.not_mem_nil⟩⟩⟩⟩⟩
theorem inX4 : ∀ w ∈ u_ws RX4 TX4 2, w ∈ am_ts := by
  have h : u_ws RX4 TX4 2 = [u_lay RX4 TX4 0, u_lay RX4 TX4 1] := rfl
  rw [h]
  exact List.forall_mem_cons.mpr ⟨wd_1_32, List.forall_mem_cons.mpr ⟨wd_1_34, fun _ h => absurd h List.not_mem_nil⟩⟩
theorem inX5 : ∀ w ∈ u_ws RX5 TX5 6, w ∈ am_ts := by
  have h : u_ws RX5 TX5 6 = [u_lay RX5 TX5 0, u_lay RX5 TX5 1, u_lay RX5 TX5 2, u_lay RX5 TX5 3, u_lay RX5 TX5 4, u_lay RX5 TX5 5] := rfl
  rw [h]
  exact List.forall_mem_cons.mpr ⟨wd_1_83, List.forall_mem_cons.mpr ⟨wd_1_85, List.forall_mem_cons.mpr ⟨wd_1_87, List.forall_mem_cons.mpr ⟨wd_1_89, List.forall_mem_cons.mpr ⟨wd_1_91, List.forall_mem_cons.mpr ⟨wd_1_93, fun _ h => absurd h List.not_mem_nil⟩⟩⟩⟩⟩⟩
theorem inX6 : ∀ w ∈ u_ws RX6 TX6 5, w ∈ am_ts := by
  have h : u_ws RX6 TX6 5 = [u_lay RX6 TX6 0, u_lay RX6 TX6 1, u_lay RX6 TX6 2, u_lay RX6 TX6 3, u_lay RX6 TX6 4] := rfl
  rw [h]
  exact List.forall_mem_cons.mpr ⟨wd_1_138, List.forall_mem_cons.mpr ⟨wd_1_140, List.forall_mem_cons.mpr ⟨wd_1_142, List.forall_mem_cons.mpr ⟨wd_1_144, List.forall_mem_cons.mpr ⟨wd_1_146, fun _ h => absurd h List.not_mem_nil⟩⟩⟩⟩⟩
theorem inX7 : ∀ w ∈ u_ws RX7 TX7 6, w ∈ am_ts := by
  have h : u_ws RX7 TX7 6 = [u_lay RX7 TX7 0, u_lay RX7 TX7 1, u_lay RX7 TX7 2, u_lay RX7 TX7 3, u_lay RX7 TX7 4, u_lay RX7 TX7 5] := rfl
  rw [h]
  exact List.forall_mem_cons.mpr ⟨wd_2_99, List.forall_mem_cons.mpr ⟨wd_2_101, List.forall_mem_cons.mpr ⟨wd_2_103, List.forall_mem_cons.mpr ⟨wd_2_105, List.forall_mem_cons.mpr ⟨wd_2_107, List.forall_mem_cons.mpr ⟨wd_2_109, fun _ h => absurd h List.not_mem_nil⟩⟩⟩⟩⟩⟩
theorem inX8 : ∀ w ∈ u_ws RX8 TX8 16, w ∈ am_ts := by
  have h : u_ws RX8 TX8 16 = [u_lay RX8 TX8 0, u_lay RX8 TX8 1, u_lay RX8 TX8 2, u_lay RX8 TX8 3, u_lay RX8 TX8 4, u_lay RX8 TX8 5, u_lay RX8 TX8 6, u_lay RX8 TX8 7, u_lay RX8 TX8 8, u_lay RX8 TX8 9, u_lay RX8 TX8 10, u_lay RX8 TX8 11, u_lay RX8 TX8 12, u_lay RX8 TX8 13, u_lay RX8 TX8 14, u_lay RX8 TX8 15] := rfl
  rw [h]
  exact List.forall_mem_cons.mpr ⟨wd_1_196, List.forall_mem_cons.mpr ⟨wd_1_198, List.forall_mem_cons.mpr ⟨wd_1_200, List.forall_mem_cons.mpr ⟨wd_1_202, List.forall_mem_cons.mpr ⟨wd_1_204, List.forall_mem_cons.mpr ⟨wd_1_206, List.forall_mem_cons.mpr ⟨wd_1_208, List.forall_mem_cons.mpr ⟨wd_1_210, List.forall_mem_cons.mpr ⟨wd_1_212, List.forall_mem_cons.mpr ⟨wd_1_214, List.forall_mem_cons.mpr ⟨wd_1_216, List.forall_mem_cons.mpr ⟨wd_1_218, List.forall_mem_cons.mpr ⟨wd_1_220, List.forall_mem_cons.mpr ⟨wd_1_222, List.forall_mem_cons.mpr ⟨wd_1_224, List.forall_mem_cons.mpr ⟨wd_1_226, fun _ h => absurd h List.not_mem_nil⟩⟩⟩⟩⟩⟩⟩⟩⟩⟩⟩⟩⟩⟩⟩⟩
theorem inX9 : ∀ w ∈ u_ws RX9 TX9 42, w ∈ am_ts := by
  have h : u_ws RX9 TX9 42 = [u_lay RX9 TX9 0, u_lay RX9 TX9 1, u_lay RX9 TX9 2, u_lay RX9 TX9 3, u_lay RX9 TX9 4, u_lay RX9 TX9 5, u_lay RX9 TX9 6, u_lay RX9 TX9 7, u_lay RX9 TX9 8, u_lay RX9 TX9 9, u_lay RX9 TX9 10, u_lay RX9 TX9 11, u_lay RX9 TX9 12, u_lay RX9 TX9 13, u_lay RX9 TX9 14, u_lay RX9 TX9 15, u_lay RX9 TX9 16, u_lay RX9 TX9 17, u_lay RX9 TX9 18, u_lay RX9 TX9 19, u_lay RX9 TX9 20, u_lay RX9 TX9 21, u_lay RX9 TX9 22, u_lay RX9 TX9 23, u_lay RX9 TX9 24, u_lay RX9 TX9 25, u_lay RX9 TX9 26, u_lay RX9 TX9 27, u_lay RX9 TX9 28, u_lay RX9 TX9 29, u_lay RX9 TX9 30, u_lay RX9 TX9 31, u_lay RX9 TX9 32, u_lay RX9 TX9 33, u_lay RX9 TX9 34, u_lay RX9 TX9 35, u_lay RX9 TX9 36, u_lay RX9 TX9 37, u_lay RX9 TX9 38, u_lay RX9 TX9 39, u_lay RX9 TX9 40, u_lay RX9 TX9 41] := rfl
  rw [h]
  exact List.forall_mem_cons.mpr ⟨wd_4_142, List.forall_mem_cons.mpr ⟨wd_4_144, List.forall_mem_cons.mpr ⟨wd_4_146, List.forall_mem_cons.mpr ⟨wd_4_148, List.forall_mem_cons.mpr ⟨wd_4_150, List.forall_mem_cons.mpr ⟨wd_4_152, List.forall_mem_cons.mpr ⟨wd_4_154, List.forall_mem_cons.mpr ⟨wd_4_156, List.forall_mem_cons.mpr ⟨wd_4_158, List.forall_mem_cons.mpr ⟨wd_4_160, List.forall_mem_cons.mpr ⟨wd_4_162, List.forall_mem_cons.mpr ⟨wd_4_164, List.forall_mem_cons.mpr ⟨wd_4_166, List.forall_mem_cons.mpr ⟨wd_4_168, List.forall_mem_cons.mpr ⟨wd_4_170, List.forall_mem_cons.mpr ⟨wd_4_172, List.forall_mem_cons.mpr ⟨wd_4_174, List.forall_mem_cons.mpr ⟨wd_4_176, List.forall_mem_cons.mpr ⟨wd_4_178, List.forall_mem_cons.mpr ⟨wd_4_180, List.forall_mem_cons.mpr ⟨wd_4_182, List.forall_mem_cons.mpr ⟨wd_4_184, List.forall_mem_cons.mpr ⟨wd_4_186, List.forall_mem_cons.mpr ⟨wd_4_188, List.forall_mem_cons.mpr ⟨wd_4_190, List.forall_mem_cons.mpr ⟨wd_4_192, List.forall_mem_cons.mpr ⟨wd_4_194, List.forall_mem_cons.mpr ⟨wd_4_196, List.forall_mem_cons.mpr ⟨wd_4_198, List.forall_mem_cons.mpr ⟨wd_4_200, List.forall_mem_cons.mpr ⟨wd_4_202, List.forall_mem_cons.mpr ⟨wd_4_204, List.forall_mem_cons.mpr ⟨wd_4_206, List.forall_mem_cons.mpr ⟨wd_4_208, List.forall_mem_cons.mpr ⟨wd_4_210, List.forall_mem_cons.mpr ⟨wd_4_212, List.forall_mem_cons.mpr ⟨wd_4_214, List.forall_mem_cons.mpr ⟨wd_4_216, List.forall_mem_cons.mpr ⟨wd_4_218, List.forall_mem_cons.mpr ⟨wd_4_220, List.forall_mem_cons.mpr ⟨wd_4_222, List.forall_mem_cons.mpr ⟨wd_4_224, fun _ h => absurd h List.not_mem_nil⟩⟩⟩⟩⟩⟩⟩⟩⟩⟩⟩⟩⟩⟩⟩⟩⟩⟩⟩⟩⟩⟩⟩⟩⟩⟩⟩⟩⟩⟩⟩⟩⟩⟩⟩⟩⟩⟩⟩⟩⟩⟩

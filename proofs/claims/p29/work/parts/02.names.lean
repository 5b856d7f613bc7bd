def RX0 : String := "TaktLine$Car"
def TX0 : u_T := fun k => match k with
  | 0 => ("TaktLine$Car", "number", "I", true)
  | 1 => ("TaktLine$Car", "options", "I", true)
  | 2 => ("TaktLine$Car", "unitOf", "[LTaktLine$Lot;", true)
  | 3 => ("TaktLine$Car", "where", "I", false)
  | 4 => ("TaktLine$Car", "station", "I", false)
  | 5 => ("TaktLine$Car", "image", "LTaktLine$Image;", false)
  | 6 => ("TaktLine$Car", "tested", "Z", false)
  | 7 => ("TaktLine$Car", "testFailed", "Z", false)
  | _ => ("TaktLine$Car", "faultTold", "Z", false)
def tyX0 : Nat → FieldType := fun k => match k with
  | 0 => .int
  | 1 => .int
  | 2 => .array (.object "TaktLine$Lot")
  | 3 => .int
  | 4 => .int
  | 5 => .object "TaktLine$Image"
  | 6 => .boolean
  | 7 => .boolean
  | _ => .boolean
theorem nmX0 : ∀ a, a < 9 → ∀ b, b < 9 → a ≠ b → (TX0 a).2.1 ≠ (TX0 b).2.1 := by decide +kernel
theorem tyX0_ok : ∀ k, k < 9 → parseFieldDescriptor (TX0 k).2.2.1 = some (tyX0 k) := by decide +kernel
abbrev cX0_init : ByteArray := prog_2_method_1_code
def yX0_init : MethodName := ⟨RX0, "<init>", "(II)V"⟩
abbrev cX0_hasGoodUnit : ByteArray := prog_2_method_2_code
def yX0_hasGoodUnit : MethodName := ⟨RX0, "hasGoodUnit", "(I)Z"⟩
abbrev cX0_hasRecalledUnit : ByteArray := prog_2_method_3_code
def yX0_hasRecalledUnit : MethodName := ⟨RX0, "hasRecalledUnit", "()Z"⟩
def RX1 : String := "TaktLine$Image"
def TX1 : u_T := fun k => match k with
  | 0 => ("TaktLine$Image", "number", "I", true)
  | 1 => ("TaktLine$Image", "versions", "[I", true)
  | _ => ("TaktLine$Image", "signedCars", "I", false)
def tyX1 : Nat → FieldType := fun k => match k with
  | 0 => .int
  | 1 => .array .int
  | _ => .int
theorem nmX1 : ∀ a, a < 3 → ∀ b, b < 3 → a ≠ b → (TX1 a).2.1 ≠ (TX1 b).2.1 := by decide +kernel
theorem tyX1_ok : ∀ k, k < 3 → parseFieldDescriptor (TX1 k).2.2.1 = some (tyX1 k) := by decide +kernel
abbrev cX1_init : ByteArray := prog_3_method_1_code
def yX1_init : MethodName := ⟨RX1, "<init>", "(I)V"⟩
abbrev cX1_isSignedFor : ByteArray := prog_3_method_2_code
def yX1_isSignedFor : MethodName := ⟨RX1, "isSignedFor", "(I)Z"⟩
def RX2 : String := "TaktLine$Kind"
def TX2 : u_T := fun k => match k with
  | 0 => ("TaktLine$Kind", "station", "I", false)
  | 1 => ("TaktLine$Kind", "with", "I", false)
  | 2 => ("TaktLine$Kind", "without", "I", false)
  | _ => ("TaktLine$Kind", "software", "Z", false)
def tyX2 : Nat → FieldType := fun k => match k with
  | 0 => .int
  | 1 => .int
  | 2 => .int
  | _ => .boolean
theorem nmX2 : ∀ a, a < 4 → ∀ b, b < 4 → a ≠ b → (TX2 a).2.1 ≠ (TX2 b).2.1 := by decide +kernel
theorem tyX2_ok : ∀ k, k < 4 → parseFieldDescriptor (TX2 k).2.2.1 = some (tyX2 k) := by decide +kernel
abbrev cX2_init : ByteArray := prog_4_method_1_code
def yX2_init : MethodName := ⟨RX2, "<init>", "()V"⟩
abbrev cX2_isNeededWith : ByteArray := prog_4_method_2_code
def yX2_isNeededWith : MethodName := ⟨RX2, "isNeededWith", "(I)Z"⟩
def RX3 : String := "TaktLine$Lot"
def TX3 : u_T := fun k => match k with
  | 0 => ("TaktLine$Lot", "number", "I", true)
  | 1 => ("TaktLine$Lot", "kind", "I", true)
  | 2 => ("TaktLine$Lot", "version", "I", true)
  | 3 => ("TaktLine$Lot", "unitsLeft", "I", false)
  | _ => ("TaktLine$Lot", "recalled", "Z", false)
def tyX3 : Nat → FieldType := fun k => match k with
  | 0 => .int
  | 1 => .int
  | 2 => .int
  | 3 => .int
  | _ => .boolean
theorem nmX3 : ∀ a, a < 5 → ∀ b, b < 5 → a ≠ b → (TX3 a).2.1 ≠ (TX3 b).2.1 := by decide +kernel
theorem tyX3_ok : ∀ k, k < 5 → parseFieldDescriptor (TX3 k).2.2.1 = some (tyX3 k) := by decide +kernel
abbrev cX3_init : ByteArray := prog_5_method_1_code
def yX3_init : MethodName := ⟨RX3, "<init>", "(IIII)V"⟩
def RX4 : String := "TaktLine$Pick"
def TX4 : u_T := fun k => match k with
  | 0 => ("TaktLine$Pick", "car", "I", true)
  | 1 => ("TaktLine$Pick", "kind", "I", true)
  | _ => ("TaktLine$Pick", "lot", "I", true)
def tyX4 : Nat → FieldType := fun k => match k with
  | 0 => .int
  | 1 => .int
  | _ => .int
theorem nmX4 : ∀ a, a < 3 → ∀ b, b < 3 → a ≠ b → (TX4 a).2.1 ≠ (TX4 b).2.1 := by decide +kernel
theorem tyX4_ok : ∀ k, k < 3 → parseFieldDescriptor (TX4 k).2.2.1 = some (tyX4 k) := by decide +kernel
abbrev cX4_init : ByteArray := prog_6_method_1_code
def yX4_init : MethodName := ⟨RX4, "<init>", "(III)V"⟩
def RX5 : String := "TaktLine"
def TX5 : u_T := fun k => match k with
  | 0 => ("TaktLine", "kindRows", "[LTaktLine$Kind;", true)
  | 1 => ("TaktLine", "lotRows", "Ljava/util/ArrayList;", true)
  | 2 => ("TaktLine", "carRows", "Ljava/util/ArrayList;", true)
  | 3 => ("TaktLine", "imageRows", "Ljava/util/ArrayList;", true)
  | 4 => ("TaktLine", "lane", "Ljava/util/ArrayList;", true)
  | 5 => ("TaktLine", "picks", "Ljava/util/ArrayList;", true)
  | 6 => ("TaktLine", "line", "[LTaktLine$Car;", true)
  | 7 => ("TaktLine", "taktCount", "I", false)
  | 8 => ("TaktLine", "scrapCount", "I", false)
  | _ => ("TaktLine", "failCount", "I", false)
def tyX5 : Nat → FieldType := fun k => match k with
  | 0 => .array (.object "TaktLine$Kind")
  | 1 => .object "java/util/ArrayList"
  | 2 => .object "java/util/ArrayList"
  | 3 => .object "java/util/ArrayList"
  | 4 => .object "java/util/ArrayList"
  | 5 => .object "java/util/ArrayList"
  | 6 => .array (.object "TaktLine$Car")
  | 7 => .int
  | 8 => .int
  | _ => .int
theorem nmX5 : ∀ a, a < 10 → ∀ b, b < 10 → a ≠ b → (TX5 a).2.1 ≠ (TX5 b).2.1 := by decide +kernel
theorem tyX5_ok : ∀ k, k < 10 → parseFieldDescriptor (TX5 k).2.2.1 = some (tyX5 k) := by decide +kernel
abbrev cX5_init : ByteArray := prog_1_method_1_code
def yX5_init : MethodName := ⟨RX5, "<init>", "()V"⟩
abbrev cX5_kind : ByteArray := prog_1_method_2_code
def yX5_kind : MethodName := ⟨RX5, "kind", "(IIIIZ)V"⟩
abbrev cX5_lot : ByteArray := prog_1_method_3_code
def yX5_lot : MethodName := ⟨RX5, "lot", "(III)I"⟩
abbrev cX5_recall : ByteArray := prog_1_method_4_code
def yX5_recall : MethodName := ⟨RX5, "recall", "(I)I"⟩
abbrev cX5_units : ByteArray := prog_1_method_5_code
def yX5_units : MethodName := ⟨RX5, "units", "(I)I"⟩
abbrev cX5_order : ByteArray := prog_1_method_6_code
def yX5_order : MethodName := ⟨RX5, "order", "(I)I"⟩
abbrev cX5_takt : ByteArray := prog_1_method_7_code
def yX5_takt : MethodName := ⟨RX5, "takt", "(I)I"⟩
abbrev cX5_fault : ByteArray := prog_1_method_8_code
def yX5_fault : MethodName := ⟨RX5, "fault", "(I)Z"⟩
abbrev cX5_takts : ByteArray := prog_1_method_9_code
def yX5_takts : MethodName := ⟨RX5, "takts", "()I"⟩
abbrev cX5_whereIs : ByteArray := prog_1_method_10_code
def yX5_whereIs : MethodName := ⟨RX5, "whereIs", "(I)I"⟩
abbrev cX5_stationOf : ByteArray := prog_1_method_11_code
def yX5_stationOf : MethodName := ⟨RX5, "stationOf", "(I)I"⟩
abbrev cX5_carAt : ByteArray := prog_1_method_12_code
def yX5_carAt : MethodName := ⟨RX5, "carAt", "(I)I"⟩
abbrev cX5_needs : ByteArray := prog_1_method_13_code
def yX5_needs : MethodName := ⟨RX5, "needs", "(I)I"⟩
abbrev cX5_lacks : ByteArray := prog_1_method_14_code
def yX5_lacks : MethodName := ⟨RX5, "lacks", "(I)I"⟩
abbrev cX5_lotIn : ByteArray := prog_1_method_15_code
def yX5_lotIn : MethodName := ⟨RX5, "lotIn", "(II)I"⟩
abbrev cX5_lotByPicks : ByteArray := prog_1_method_16_code
def yX5_lotByPicks : MethodName := ⟨RX5, "lotByPicks", "(II)I"⟩
abbrev cX5_scrapped : ByteArray := prog_1_method_17_code
def yX5_scrapped : MethodName := ⟨RX5, "scrapped", "()I"⟩
abbrev cX5_build : ByteArray := prog_1_method_18_code
def yX5_build : MethodName := ⟨RX5, "build", "(I)I"⟩
abbrev cX5_sign : ByteArray := prog_1_method_19_code
def yX5_sign : MethodName := ⟨RX5, "sign", "(II)Z"⟩
abbrev cX5_flash : ByteArray := prog_1_method_20_code
def yX5_flash : MethodName := ⟨RX5, "flash", "(II)I"⟩
abbrev cX5_imageOf : ByteArray := prog_1_method_21_code
def yX5_imageOf : MethodName := ⟨RX5, "imageOf", "(I)I"⟩
abbrev cX5_images : ByteArray := prog_1_method_23_code
def yX5_images : MethodName := ⟨RX5, "images", "()I"⟩
abbrev cX5_isFit : ByteArray := prog_1_method_24_code
def yX5_isFit : MethodName := ⟨RX5, "isFit", "(I)Z"⟩
abbrev cX5_isTested : ByteArray := prog_1_method_25_code
def yX5_isTested : MethodName := ⟨RX5, "isTested", "(I)Z"⟩
abbrev cX5_failed : ByteArray := prog_1_method_26_code
def yX5_failed : MethodName := ⟨RX5, "failed", "()I"⟩
abbrev cX5_atLarge : ByteArray := prog_1_method_27_code
def yX5_atLarge : MethodName := ⟨RX5, "atLarge", "()I"⟩
abbrev cX5_isFittingStation : ByteArray := prog_1_method_28_code
def yX5_isFittingStation : MethodName := ⟨RX5, "isFittingStation", "(I)Z"⟩
abbrev cX5_isStation : ByteArray := prog_1_method_29_code
def yX5_isStation : MethodName := ⟨RX5, "isStation", "(I)Z"⟩
abbrev cX5_isOptionSet : ByteArray := prog_1_method_30_code
def yX5_isOptionSet : MethodName := ⟨RX5, "isOptionSet", "(I)Z"⟩
abbrev cX5_checkKind : ByteArray := prog_1_method_31_code
def yX5_checkKind : MethodName := ⟨RX5, "checkKind", "(I)V"⟩
abbrev cX5_checkCar : ByteArray := prog_1_method_32_code
def yX5_checkCar : MethodName := ⟨RX5, "checkCar", "(I)V"⟩
abbrev cX5_existingKind : ByteArray := prog_1_method_33_code
def yX5_existingKind : MethodName := ⟨RX5, "existingKind", "(I)LTaktLine$Kind;"⟩
abbrev cX5_existingLot : ByteArray := prog_1_method_34_code
def yX5_existingLot : MethodName := ⟨RX5, "existingLot", "(I)LTaktLine$Lot;"⟩
abbrev cX5_existingCar : ByteArray := prog_1_method_35_code
def yX5_existingCar : MethodName := ⟨RX5, "existingCar", "(I)LTaktLine$Car;"⟩
abbrev cX5_existingImage : ByteArray := prog_1_method_36_code
def yX5_existingImage : MethodName := ⟨RX5, "existingImage", "(I)LTaktLine$Image;"⟩
abbrev cX5_neededKinds : ByteArray := prog_1_method_37_code
def yX5_neededKinds : MethodName := ⟨RX5, "neededKinds", "(LTaktLine$Car;)I"⟩
abbrev cX5_isLacking : ByteArray := prog_1_method_38_code
def yX5_isLacking : MethodName := ⟨RX5, "isLacking", "(LTaktLine$Car;I)Z"⟩
abbrev cX5_lackingKinds : ByteArray := prog_1_method_39_code
def yX5_lackingKinds : MethodName := ⟨RX5, "lackingKinds", "(LTaktLine$Car;)I"⟩
abbrev cX5_lowestLackingStation : ByteArray := prog_1_method_40_code
def yX5_lowestLackingStation : MethodName := ⟨RX5, "lowestLackingStation", "(LTaktLine$Car;)I"⟩
abbrev cX5_isLackingAt : ByteArray := prog_1_method_41_code
def yX5_isLackingAt : MethodName := ⟨RX5, "isLackingAt", "(LTaktLine$Car;I)Z"⟩
abbrev cX5_isLackingSoftware : ByteArray := prog_1_method_42_code
def yX5_isLackingSoftware : MethodName := ⟨RX5, "isLackingSoftware", "(LTaktLine$Car;)Z"⟩
abbrev cX5_fits : ByteArray := prog_1_method_43_code
def yX5_fits : MethodName := ⟨RX5, "fits", "(LTaktLine$Car;)Z"⟩
abbrev cX5_carsWithUnitOf : ByteArray := prog_1_method_44_code
def yX5_carsWithUnitOf : MethodName := ⟨RX5, "carsWithUnitOf", "(LTaktLine$Lot;)I"⟩
abbrev cX5_softwareVersion : ByteArray := prog_1_method_45_code
def yX5_softwareVersion : MethodName := ⟨RX5, "softwareVersion", "(LTaktLine$Car;I)I"⟩
abbrev cX5_isBuiltFor : ByteArray := prog_1_method_46_code
def yX5_isBuiltFor : MethodName := ⟨RX5, "isBuiltFor", "(LTaktLine$Image;LTaktLine$Car;)Z"⟩
abbrev cX5_imageFor : ByteArray := prog_1_method_47_code
def yX5_imageFor : MethodName := ⟨RX5, "imageFor", "(LTaktLine$Car;I)LTaktLine$Image;"⟩
abbrev cX5_sendBackToLane : ByteArray := prog_1_method_48_code
def yX5_sendBackToLane : MethodName := ⟨RX5, "sendBackToLane", "()V"⟩
abbrev cX5_sendBack : ByteArray := prog_1_method_49_code
def yX5_sendBack : MethodName := ⟨RX5, "sendBack", "(LTaktLine$Car;)V"⟩
abbrev cX5_mustBeFlashedAgain : ByteArray := prog_1_method_50_code
def yX5_mustBeFlashedAgain : MethodName := ⟨RX5, "mustBeFlashedAgain", "(LTaktLine$Car;)Z"⟩
abbrev cX5_enterLane : ByteArray := prog_1_method_51_code
def yX5_enterLane : MethodName := ⟨RX5, "enterLane", "(LTaktLine$Car;I)V"⟩
abbrev cX5_leaveLine : ByteArray := prog_1_method_52_code
def yX5_leaveLine : MethodName := ⟨RX5, "leaveLine", "()Z"⟩
abbrev cX5_moveOn : ByteArray := prog_1_method_53_code
def yX5_moveOn : MethodName := ⟨RX5, "moveOn", "()V"⟩
abbrev cX5_isDone : ByteArray := prog_1_method_54_code
def yX5_isDone : MethodName := ⟨RX5, "isDone", "(LTaktLine$Car;)Z"⟩
abbrev cX5_enterLine : ByteArray := prog_1_method_55_code
def yX5_enterLine : MethodName := ⟨RX5, "enterLine", "(LTaktLine$Car;I)V"⟩
abbrev cX5_clearPlaceOf : ByteArray := prog_1_method_56_code
def yX5_clearPlaceOf : MethodName := ⟨RX5, "clearPlaceOf", "(LTaktLine$Car;)V"⟩
abbrev cX5_comeFromLane : ByteArray := prog_1_method_57_code
def yX5_comeFromLane : MethodName := ⟨RX5, "comeFromLane", "()V"⟩
abbrev cX5_comeFromOrders : ByteArray := prog_1_method_58_code
def yX5_comeFromOrders : MethodName := ⟨RX5, "comeFromOrders", "()V"⟩
abbrev cX5_workOnLine : ByteArray := prog_1_method_59_code
def yX5_workOnLine : MethodName := ⟨RX5, "workOnLine", "()V"⟩
abbrev cX5_fitParts : ByteArray := prog_1_method_60_code
def yX5_fitParts : MethodName := ⟨RX5, "fitParts", "(LTaktLine$Car;)V"⟩
abbrev cX5_takeOut : ByteArray := prog_1_method_61_code
def yX5_takeOut : MethodName := ⟨RX5, "takeOut", "(LTaktLine$Car;I)V"⟩
abbrev cX5_pick : ByteArray := prog_1_method_62_code
def yX5_pick : MethodName := ⟨RX5, "pick", "(LTaktLine$Car;I)V"⟩
abbrev cX5_test : ByteArray := prog_1_method_63_code
def yX5_test : MethodName := ⟨RX5, "test", "(LTaktLine$Car;)V"⟩
def RX6 : String := "TaktLineModel"
def TX6 : u_T := fun k => match k with
  | _ => ("", "", "", false)
def tyX6 : Nat → FieldType := fun k => match k with
  | _ => .int
theorem nmX6 : ∀ a, a < 0 → ∀ b, b < 0 → a ≠ b → (TX6 a).2.1 ≠ (TX6 b).2.1 := by decide +kernel
theorem tyX6_ok : ∀ k, k < 0 → parseFieldDescriptor (TX6 k).2.2.1 = some (tyX6 k) := by decide +kernel
def RJx145de : String := "java/io/Serializable"
def TJx145de : u_T := fun k => match k with
  | _ => ("", "", "", false)
def tyJx145de : Nat → FieldType := fun k => match k with
  | _ => .int
theorem nmJx145de : ∀ a, a < 0 → ∀ b, b < 0 → a ≠ b → (TJx145de a).2.1 ≠ (TJx145de b).2.1 := by decide +kernel
theorem tyJx145de_ok : ∀ k, k < 0 → parseFieldDescriptor (TJx145de k).2.2.1 = some (tyJx145de k) := by decide +kernel
def RJx8e188 : String := "java/lang/Cloneable"
def TJx8e188 : u_T := fun k => match k with
  | _ => ("", "", "", false)
def tyJx8e188 : Nat → FieldType := fun k => match k with
  | _ => .int
theorem nmJx8e188 : ∀ a, a < 0 → ∀ b, b < 0 → a ≠ b → (TJx8e188 a).2.1 ≠ (TJx8e188 b).2.1 := by decide +kernel
theorem tyJx8e188_ok : ∀ k, k < 0 → parseFieldDescriptor (TJx8e188 k).2.2.1 = some (tyJx8e188 k) := by decide +kernel
def RJxab1ab : String := "java/lang/Iterable"
def TJxab1ab : u_T := fun k => match k with
  | _ => ("", "", "", false)
def tyJxab1ab : Nat → FieldType := fun k => match k with
  | _ => .int
theorem nmJxab1ab : ∀ a, a < 0 → ∀ b, b < 0 → a ≠ b → (TJxab1ab a).2.1 ≠ (TJxab1ab b).2.1 := by decide +kernel
theorem tyJxab1ab_ok : ∀ k, k < 0 → parseFieldDescriptor (TJxab1ab k).2.2.1 = some (tyJxab1ab k) := by decide +kernel
def RJ9 : String := "java/lang/Math"
def TJ9 : u_T := fun k => match k with
  | _ => ("", "", "", false)
def tyJ9 : Nat → FieldType := fun k => match k with
  | _ => .int
theorem nmJ9 : ∀ a, a < 0 → ∀ b, b < 0 → a ≠ b → (TJ9 a).2.1 ≠ (TJ9 b).2.1 := by decide +kernel
theorem tyJ9_ok : ∀ k, k < 0 → parseFieldDescriptor (TJ9 k).2.2.1 = some (tyJ9 k) := by decide +kernel
abbrev cJ9_max_7cf53 : ByteArray := prog_16_method_65_code
def yJ9_max_7cf53 : MethodName := ⟨RJ9, "max", "(II)I"⟩
abbrev cJ9_min_7cf53 : ByteArray := prog_16_method_69_code
def yJ9_min_7cf53 : MethodName := ⟨RJ9, "min", "(II)I"⟩
def RJ0 : String := "java/lang/String"
def TJ0 : u_T := fun k => match k with
  | _ => ("", "", "", false)
def tyJ0 : Nat → FieldType := fun k => match k with
  | _ => .int
theorem nmJ0 : ∀ a, a < 0 → ∀ b, b < 0 → a ≠ b → (TJ0 a).2.1 ≠ (TJ0 b).2.1 := by decide +kernel
theorem tyJ0_ok : ∀ k, k < 0 → parseFieldDescriptor (TJ0 k).2.2.1 = some (tyJ0 k) := by decide +kernel
def RJ10 : String := "java/lang/System"
def TJ10 : u_T := fun k => match k with
  | _ => ("", "", "", false)
def tyJ10 : Nat → FieldType := fun k => match k with
  | _ => .int
theorem nmJ10 : ∀ a, a < 0 → ∀ b, b < 0 → a ≠ b → (TJ10 a).2.1 ≠ (TJ10 b).2.1 := by decide +kernel
theorem tyJ10_ok : ∀ k, k < 0 → parseFieldDescriptor (TJ10 k).2.2.1 = some (tyJ10 k) := by decide +kernel
def RJxa1e45 : String := "java/util/AbstractCollection"
def TJxa1e45 : u_T := fun k => match k with
  | _ => ("", "", "", false)
def tyJxa1e45 : Nat → FieldType := fun k => match k with
  | _ => .int
theorem nmJxa1e45 : ∀ a, a < 0 → ∀ b, b < 0 → a ≠ b → (TJxa1e45 a).2.1 ≠ (TJxa1e45 b).2.1 := by decide +kernel
theorem tyJxa1e45_ok : ∀ k, k < 0 → parseFieldDescriptor (TJxa1e45 k).2.2.1 = some (tyJxa1e45 k) := by decide +kernel
abbrev cJxa1e45_init_da8c8 : ByteArray := prog_21_method_1_code
def yJxa1e45_init_da8c8 : MethodName := ⟨RJxa1e45, "<init>", "()V"⟩
def RJxc12de : String := "java/util/AbstractList"
def TJxc12de : u_T := fun k => match k with
  | _ => ("", "", "", false)
def tyJxc12de : Nat → FieldType := fun k => match k with
  | _ => .int
theorem nmJxc12de : ∀ a, a < 0 → ∀ b, b < 0 → a ≠ b → (TJxc12de a).2.1 ≠ (TJxc12de b).2.1 := by decide +kernel
theorem tyJxc12de_ok : ∀ k, k < 0 → parseFieldDescriptor (TJxc12de k).2.2.1 = some (tyJxc12de k) := by decide +kernel
abbrev cJxc12de_init_da8c8 : ByteArray := prog_22_method_1_code
def yJxc12de_init_da8c8 : MethodName := ⟨RJxc12de, "<init>", "()V"⟩
def RJx4a65c : String := "java/util/ArrayList"
def TJx4a65c : u_T := fun k => match k with
  | 0 => ("java/util/AbstractList", "modCount", "I", false)
  | 1 => ("java/util/ArrayList", "elementData", "[Ljava/lang/Object;", false)
  | _ => ("java/util/ArrayList", "size", "I", false)
def tyJx4a65c : Nat → FieldType := fun k => match k with
  | 0 => .int
  | 1 => .array (.object "java/lang/Object")
  | _ => .int
theorem nmJx4a65c : ∀ a, a < 3 → ∀ b, b < 3 → a ≠ b → (TJx4a65c a).2.1 ≠ (TJx4a65c b).2.1 := by decide +kernel
theorem tyJx4a65c_ok : ∀ k, k < 3 → parseFieldDescriptor (TJx4a65c k).2.2.1 = some (tyJx4a65c k) := by decide +kernel
abbrev cJx4a65c_init_da8c8 : ByteArray := prog_23_method_2_code
def yJx4a65c_init_da8c8 : MethodName := ⟨RJx4a65c, "<init>", "()V"⟩
abbrev cJx4a65c_grow_92f84 : ByteArray := prog_23_method_6_code
def yJx4a65c_grow_92f84 : MethodName := ⟨RJx4a65c, "grow", "(I)[Ljava/lang/Object;"⟩
abbrev cJx4a65c_grow_d5877 : ByteArray := prog_23_method_7_code
def yJx4a65c_grow_d5877 : MethodName := ⟨RJx4a65c, "grow", "()[Ljava/lang/Object;"⟩
abbrev cJx4a65c_size_8abf5 : ByteArray := prog_23_method_8_code
def yJx4a65c_size_8abf5 : MethodName := ⟨RJx4a65c, "size", "()I"⟩
abbrev cJx4a65c_isEmpty_aae02 : ByteArray := prog_23_method_9_code
def yJx4a65c_isEmpty_aae02 : MethodName := ⟨RJx4a65c, "isEmpty", "()Z"⟩
abbrev cJx4a65c_elementData_915e3 : ByteArray := prog_23_method_18_code
def yJx4a65c_elementData_915e3 : MethodName := ⟨RJx4a65c, "elementData", "(I)Ljava/lang/Object;"⟩
abbrev cJx4a65c_get_915e3 : ByteArray := prog_23_method_20_code
def yJx4a65c_get_915e3 : MethodName := ⟨RJx4a65c, "get", "(I)Ljava/lang/Object;"⟩
abbrev cJx4a65c_add_72be8 : ByteArray := prog_23_method_24_code
def yJx4a65c_add_72be8 : MethodName := ⟨RJx4a65c, "add", "(Ljava/lang/Object;[Ljava/lang/Object;I)V"⟩
abbrev cJx4a65c_add_9ea2d : ByteArray := prog_23_method_25_code
def yJx4a65c_add_9ea2d : MethodName := ⟨RJx4a65c, "add", "(Ljava/lang/Object;)Z"⟩
abbrev cJx4a65c_remove_915e3 : ByteArray := prog_23_method_29_code
def yJx4a65c_remove_915e3 : MethodName := ⟨RJx4a65c, "remove", "(I)Ljava/lang/Object;"⟩
abbrev cJx4a65c_fastRemove_b59b0 : ByteArray := prog_23_method_39_code
def yJx4a65c_fastRemove_b59b0 : MethodName := ⟨RJx4a65c, "fastRemove", "([Ljava/lang/Object;I)V"⟩
def RJ7 : String := "java/util/Arrays"
def TJ7 : u_T := fun k => match k with
  | _ => ("", "", "", false)
def tyJ7 : Nat → FieldType := fun k => match k with
  | _ => .int
theorem nmJ7 : ∀ a, a < 0 → ∀ b, b < 0 → a ≠ b → (TJ7 a).2.1 ≠ (TJ7 b).2.1 := by decide +kernel
theorem tyJ7_ok : ∀ k, k < 0 → parseFieldDescriptor (TJ7 k).2.2.1 = some (tyJ7 k) := by decide +kernel
abbrev cJ7_copyOf_1904c : ByteArray := prog_24_method_119_code
def yJ7_copyOf_1904c : MethodName := ⟨RJ7, "copyOf", "([Ljava/lang/Object;I)[Ljava/lang/Object;"⟩
abbrev cJ7_copyOf_6403c : ByteArray := prog_24_method_120_code
def yJ7_copyOf_6403c : MethodName := ⟨RJ7, "copyOf", "([Ljava/lang/Object;ILjava/lang/Class;)[Ljava/lang/Object;"⟩
def RJx5ef63 : String := "java/util/Collection"
def TJx5ef63 : u_T := fun k => match k with
  | _ => ("", "", "", false)
def tyJx5ef63 : Nat → FieldType := fun k => match k with
  | _ => .int
theorem nmJx5ef63 : ∀ a, a < 0 → ∀ b, b < 0 → a ≠ b → (TJx5ef63 a).2.1 ≠ (TJx5ef63 b).2.1 := by decide +kernel
theorem tyJx5ef63_ok : ∀ k, k < 0 → parseFieldDescriptor (TJx5ef63 k).2.2.1 = some (tyJx5ef63 k) := by decide +kernel
def RJxbd725 : String := "java/util/List"
def TJxbd725 : u_T := fun k => match k with
  | _ => ("", "", "", false)
def tyJxbd725 : Nat → FieldType := fun k => match k with
  | _ => .int
theorem nmJxbd725 : ∀ a, a < 0 → ∀ b, b < 0 → a ≠ b → (TJxbd725 a).2.1 ≠ (TJxbd725 b).2.1 := by decide +kernel
theorem tyJxbd725_ok : ∀ k, k < 0 → parseFieldDescriptor (TJxbd725 k).2.2.1 = some (tyJxbd725 k) := by decide +kernel
def RJ15 : String := "java/util/Objects"
def TJ15 : u_T := fun k => match k with
  | _ => ("", "", "", false)
def tyJ15 : Nat → FieldType := fun k => match k with
  | _ => .int
theorem nmJ15 : ∀ a, a < 0 → ∀ b, b < 0 → a ≠ b → (TJ15 a).2.1 ≠ (TJ15 b).2.1 := by decide +kernel
theorem tyJ15_ok : ∀ k, k < 0 → parseFieldDescriptor (TJ15 k).2.2.1 = some (tyJ15 k) := by decide +kernel
abbrev cJ15_checkIndex_7cf53 : ByteArray := prog_27_method_17_code
def yJ15_checkIndex_7cf53 : MethodName := ⟨RJ15, "checkIndex", "(II)I"⟩
def RJxf0a74 : String := "java/util/RandomAccess"
def TJxf0a74 : u_T := fun k => match k with
  | _ => ("", "", "", false)
def tyJxf0a74 : Nat → FieldType := fun k => match k with
  | _ => .int
theorem nmJxf0a74 : ∀ a, a < 0 → ∀ b, b < 0 → a ≠ b → (TJxf0a74 a).2.1 ≠ (TJxf0a74 b).2.1 := by decide +kernel
theorem tyJxf0a74_ok : ∀ k, k < 0 → parseFieldDescriptor (TJxf0a74 k).2.2.1 = some (tyJxf0a74 k) := by decide +kernel
def RJxa66e6 : String := "java/util/SequencedCollection"
def TJxa66e6 : u_T := fun k => match k with
  | _ => ("", "", "", false)
def tyJxa66e6 : Nat → FieldType := fun k => match k with
  | _ => .int
theorem nmJxa66e6 : ∀ a, a < 0 → ∀ b, b < 0 → a ≠ b → (TJxa66e6 a).2.1 ≠ (TJxa66e6 b).2.1 := by decide +kernel
theorem tyJxa66e6_ok : ∀ k, k < 0 → parseFieldDescriptor (TJxa66e6 k).2.2.1 = some (tyJxa66e6 k) := by decide +kernel
def RJ8 : String := "jdk/internal/util/ArraysSupport"
def TJ8 : u_T := fun k => match k with
  | _ => ("", "", "", false)
def tyJ8 : Nat → FieldType := fun k => match k with
  | _ => .int
theorem nmJ8 : ∀ a, a < 0 → ∀ b, b < 0 → a ≠ b → (TJ8 a).2.1 ≠ (TJ8 b).2.1 := by decide +kernel
theorem tyJ8_ok : ∀ k, k < 0 → parseFieldDescriptor (TJ8 k).2.2.1 = some (tyJ8 k) := by decide +kernel
abbrev cJ8_newLength_cabcc : ByteArray := prog_30_method_27_code
def yJ8_newLength_cabcc : MethodName := ⟨RJ8, "newLength", "(III)I"⟩
abbrev cJ8_hugeLength_7cf53 : ByteArray := prog_30_method_28_code
def yJ8_hugeLength_7cf53 : MethodName := ⟨RJ8, "hugeLength", "(II)I"⟩
def RJ3 : String := "jdk/internal/util/Preconditions"
def TJ3 : u_T := fun k => match k with
  | _ => ("", "", "", false)
def tyJ3 : Nat → FieldType := fun k => match k with
  | _ => .int
theorem nmJ3 : ∀ a, a < 0 → ∀ b, b < 0 → a ≠ b → (TJ3 a).2.1 ≠ (TJ3 b).2.1 := by decide +kernel
theorem tyJ3_ok : ∀ k, k < 0 → parseFieldDescriptor (TJ3 k).2.2.1 = some (tyJ3 k) := by decide +kernel
abbrev cJ3_checkIndex_8e157 : ByteArray := prog_31_method_11_code
def yJ3_checkIndex_8e157 : MethodName := ⟨RJ3, "checkIndex", "(IILjava/util/function/BiFunction;)I"⟩
def RL : String := "TaktLineLaw"
abbrev cL_cell : ByteArray := method_2_code
def yL_cell : MethodName := ⟨RL, "cell", "([II)I"⟩
abbrev cL_low : ByteArray := method_3_code
def yL_low : MethodName := ⟨RL, "low", "(II)I"⟩
abbrev cL_kind : ByteArray := method_4_code
def yL_kind : MethodName := ⟨RL, "kind", "(LTaktLine;IIIIZ)I"⟩
abbrev cL_lot : ByteArray := method_5_code
def yL_lot : MethodName := ⟨RL, "lot", "(LTaktLine;III)I"⟩
abbrev cL_recall : ByteArray := method_6_code
def yL_recall : MethodName := ⟨RL, "recall", "(LTaktLine;I)I"⟩
abbrev cL_order : ByteArray := method_7_code
def yL_order : MethodName := ⟨RL, "order", "(LTaktLine;I)I"⟩
abbrev cL_takt : ByteArray := method_8_code
def yL_takt : MethodName := ⟨RL, "takt", "(LTaktLine;I)I"⟩
abbrev cL_fault : ByteArray := method_9_code
def yL_fault : MethodName := ⟨RL, "fault", "(LTaktLine;I)I"⟩
abbrev cL_build : ByteArray := method_10_code
def yL_build : MethodName := ⟨RL, "build", "(LTaktLine;I)I"⟩
abbrev cL_sign : ByteArray := method_11_code
def yL_sign : MethodName := ⟨RL, "sign", "(LTaktLine;II)I"⟩
abbrev cL_flash : ByteArray := method_12_code
def yL_flash : MethodName := ⟨RL, "flash", "(LTaktLine;II)I"⟩
abbrev cL_units : ByteArray := method_13_code
def yL_units : MethodName := ⟨RL, "units", "(LTaktLine;I)I"⟩
abbrev cL_whereIs : ByteArray := method_14_code
def yL_whereIs : MethodName := ⟨RL, "whereIs", "(LTaktLine;I)I"⟩
abbrev cL_act : ByteArray := method_15_code
def yL_act : MethodName := ⟨RL, "act", "(LTaktLine;I)I"⟩
abbrev cL_areAlike : ByteArray := method_16_code
def yL_areAlike : MethodName := ⟨RL, "areAlike", "(LTaktLine;LTaktLine;)Z"⟩
abbrev cL_isCarSo : ByteArray := method_17_code
def yL_isCarSo : MethodName := ⟨RL, "isCarSo", "(LTaktLine;I)Z"⟩
abbrev cL_isLineSo : ByteArray := method_18_code
def yL_isLineSo : MethodName := ⟨RL, "isLineSo", "(LTaktLine;)Z"⟩
abbrev cL_law : ByteArray := code
def yL_law : MethodName := ⟨RL, "law", "([I)Z"⟩
theorem dX0_init_0 : decode cX0_init 0 = .ok (.aload_n 0, 1) := by decide +kernel
theorem dX0_init_1 : decode cX0_init 1 = .ok (.invokespecial 3, 3) := by decide +kernel
theorem dX0_init_4 : decode cX0_init 4 = .ok (.aload_n 0, 1) := by decide +kernel
theorem dX0_init_5 : decode cX0_init 5 = .ok (.bipush 10, 2) := by decide +kernel
theorem dX0_init_7 : decode cX0_init 7 = .ok (.anewarray 9, 3) := by decide +kernel
theorem dX0_init_10 : decode cX0_init 10 = .ok (.putfield 11, 3) := by decide +kernel
theorem dX0_init_13 : decode cX0_init 13 = .ok (.aload_n 0, 1) := by decide +kernel
theorem dX0_init_14 : decode cX0_init 14 = .ok (.iconst 0, 1) := by decide +kernel
theorem dX0_init_15 : decode cX0_init 15 = .ok (.putfield 17, 3) := by decide +kernel
theorem dX0_init_18 : decode cX0_init 18 = .ok (.aload_n 0, 1) := by decide +kernel
theorem dX0_init_19 : decode cX0_init 19 = .ok (.iconst (-1), 1) := by decide +kernel
theorem dX0_init_20 : decode cX0_init 20 = .ok (.putfield 21, 3) := by decide +kernel
theorem dX0_init_23 : decode cX0_init 23 = .ok (.aload_n 0, 1) := by decide +kernel
theorem dX0_init_24 : decode cX0_init 24 = .ok (.aconst_null, 1) := by decide +kernel
theorem dX0_init_25 : decode cX0_init 25 = .ok (.putfield 24, 3) := by decide +kernel
theorem dX0_init_28 : decode cX0_init 28 = .ok (.aload_n 0, 1) := by decide +kernel
theorem dX0_init_29 : decode cX0_init 29 = .ok (.iconst 0, 1) := by decide +kernel
theorem dX0_init_30 : decode cX0_init 30 = .ok (.putfield 28, 3) := by decide +kernel
theorem dX0_init_33 : decode cX0_init 33 = .ok (.aload_n 0, 1) := by decide +kernel
theorem dX0_init_34 : decode cX0_init 34 = .ok (.iconst 0, 1) := by decide +kernel
theorem dX0_init_35 : decode cX0_init 35 = .ok (.putfield 32, 3) := by decide +kernel
theorem dX0_init_38 : decode cX0_init 38 = .ok (.aload_n 0, 1) := by decide +kernel
theorem dX0_init_39 : decode cX0_init 39 = .ok (.iconst 0, 1) := by decide +kernel
theorem dX0_init_40 : decode cX0_init 40 = .ok (.putfield 35, 3) := by decide +kernel
theorem dX0_init_43 : decode cX0_init 43 = .ok (.aload_n 0, 1) := by decide +kernel
theorem dX0_init_44 : decode cX0_init 44 = .ok (.iload_n 1, 1) := by decide +kernel
theorem dX0_init_45 : decode cX0_init 45 = .ok (.putfield 38, 3) := by decide +kernel
theorem dX0_init_48 : decode cX0_init 48 = .ok (.aload_n 0, 1) := by decide +kernel
theorem dX0_init_49 : decode cX0_init 49 = .ok (.iload_n 2, 1) := by decide +kernel
theorem dX0_init_50 : decode cX0_init 50 = .ok (.putfield 41, 3) := by decide +kernel
theorem dX0_init_53 : decode cX0_init 53 = .ok (.return_, 1) := by decide +kernel
theorem dX0_hasGoodUnit_0 : decode cX0_hasGoodUnit 0 = .ok (.aload_n 0, 1) := by decide +kernel
theorem dX0_hasGoodUnit_1 : decode cX0_hasGoodUnit 1 = .ok (.getfield 11, 3) := by decide +kernel
theorem dX0_hasGoodUnit_4 : decode cX0_hasGoodUnit 4 = .ok (.iload_n 1, 1) := by decide +kernel
theorem dX0_hasGoodUnit_5 : decode cX0_hasGoodUnit 5 = .ok (.aaload, 1) := by decide +kernel
theorem dX0_hasGoodUnit_6 : decode cX0_hasGoodUnit 6 = .ok (.astore_n 2, 1) := by decide +kernel
theorem dX0_hasGoodUnit_7 : decode cX0_hasGoodUnit 7 = .ok (.aload_n 2, 1) := by decide +kernel
theorem dX0_hasGoodUnit_8 : decode cX0_hasGoodUnit 8 = .ok (.ifnull 14, 3) := by decide +kernel
theorem dX0_hasGoodUnit_11 : decode cX0_hasGoodUnit 11 = .ok (.aload_n 2, 1) := by decide +kernel
theorem dX0_hasGoodUnit_12 : decode cX0_hasGoodUnit 12 = .ok (.getfield 44, 3) := by decide +kernel
theorem dX0_hasGoodUnit_15 : decode cX0_hasGoodUnit 15 = .ok (.ifCond .ne 7, 3) := by decide +kernel
theorem dX0_hasGoodUnit_18 : decode cX0_hasGoodUnit 18 = .ok (.iconst 1, 1) := by decide +kernel
theorem dX0_hasGoodUnit_19 : decode cX0_hasGoodUnit 19 = .ok (.goto 4, 3) := by decide +kernel
theorem dX0_hasGoodUnit_22 : decode cX0_hasGoodUnit 22 = .ok (.iconst 0, 1) := by decide +kernel
theorem dX0_hasGoodUnit_23 : decode cX0_hasGoodUnit 23 = .ok (.ireturn, 1) := by decide +kernel
theorem dX0_hasRecalledUnit_0 : decode cX0_hasRecalledUnit 0 = .ok (.iconst 0, 1) := by decide +kernel
theorem dX0_hasRecalledUnit_1 : decode cX0_hasRecalledUnit 1 = .ok (.istore_n 1, 1) := by decide +kernel
theorem dX0_hasRecalledUnit_2 : decode cX0_hasRecalledUnit 2 = .ok (.iload_n 1, 1) := by decide +kernel
theorem dX0_hasRecalledUnit_3 : decode cX0_hasRecalledUnit 3 = .ok (.bipush 10, 2) := by decide +kernel
theorem dX0_hasRecalledUnit_5 : decode cX0_hasRecalledUnit 5 = .ok (.if_icmp .ge 29, 3) := by decide +kernel
theorem dX0_hasRecalledUnit_8 : decode cX0_hasRecalledUnit 8 = .ok (.aload_n 0, 1) := by decide +kernel
theorem dX0_hasRecalledUnit_9 : decode cX0_hasRecalledUnit 9 = .ok (.getfield 11, 3) := by decide +kernel
theorem dX0_hasRecalledUnit_12 : decode cX0_hasRecalledUnit 12 = .ok (.iload_n 1, 1) := by decide +kernel
theorem dX0_hasRecalledUnit_13 : decode cX0_hasRecalledUnit 13 = .ok (.aaload, 1) := by decide +kernel
theorem dX0_hasRecalledUnit_14 : decode cX0_hasRecalledUnit 14 = .ok (.astore_n 2, 1) := by decide +kernel
theorem dX0_hasRecalledUnit_15 : decode cX0_hasRecalledUnit 15 = .ok (.aload_n 2, 1) := by decide +kernel
theorem dX0_hasRecalledUnit_16 : decode cX0_hasRecalledUnit 16 = .ok (.ifnull 12, 3) := by decide +kernel
theorem dX0_hasRecalledUnit_19 : decode cX0_hasRecalledUnit 19 = .ok (.aload_n 2, 1) := by decide +kernel
theorem dX0_hasRecalledUnit_20 : decode cX0_hasRecalledUnit 20 = .ok (.getfield 44, 3) := by decide +kernel
theorem dX0_hasRecalledUnit_23 : decode cX0_hasRecalledUnit 23 = .ok (.ifCond .eq 5, 3) := by decide +kernel
theorem dX0_hasRecalledUnit_26 : decode cX0_hasRecalledUnit 26 = .ok (.iconst 1, 1) := by decide +kernel
theorem dX0_hasRecalledUnit_27 : decode cX0_hasRecalledUnit 27 = .ok (.ireturn, 1) := by decide +kernel
theorem dX0_hasRecalledUnit_28 : decode cX0_hasRecalledUnit 28 = .ok (.iinc 1 1, 3) := by decide +kernel
theorem dX0_hasRecalledUnit_31 : decode cX0_hasRecalledUnit 31 = .ok (.goto (-29), 3) := by decide +kernel
theorem dX0_hasRecalledUnit_34 : decode cX0_hasRecalledUnit 34 = .ok (.iconst 0, 1) := by decide +kernel
theorem dX0_hasRecalledUnit_35 : decode cX0_hasRecalledUnit 35 = .ok (.ireturn, 1) := by decide +kernel
theorem dX1_init_0 : decode cX1_init 0 = .ok (.aload_n 0, 1) := by decide +kernel
theorem dX1_init_1 : decode cX1_init 1 = .ok (.invokespecial 3, 3) := by decide +kernel
theorem dX1_init_4 : decode cX1_init 4 = .ok (.aload_n 0, 1) := by decide +kernel
theorem dX1_init_5 : decode cX1_init 5 = .ok (.bipush 10, 2) := by decide +kernel
theorem dX1_init_7 : decode cX1_init 7 = .ok (.newarray .int, 2) := by decide +kernel
theorem dX1_init_9 : decode cX1_init 9 = .ok (.putfield 9, 3) := by decide +kernel
theorem dX1_init_12 : decode cX1_init 12 = .ok (.aload_n 0, 1) := by decide +kernel
theorem dX1_init_13 : decode cX1_init 13 = .ok (.iconst 0, 1) := by decide +kernel
theorem dX1_init_14 : decode cX1_init 14 = .ok (.putfield 15, 3) := by decide +kernel
theorem dX1_init_17 : decode cX1_init 17 = .ok (.aload_n 0, 1) := by decide +kernel
theorem dX1_init_18 : decode cX1_init 18 = .ok (.iload_n 1, 1) := by decide +kernel
theorem dX1_init_19 : decode cX1_init 19 = .ok (.putfield 19, 3) := by decide +kernel
theorem dX1_init_22 : decode cX1_init 22 = .ok (.return_, 1) := by decide +kernel
theorem dX1_isSignedFor_0 : decode cX1_isSignedFor 0 = .ok (.aload_n 0, 1) := by decide +kernel
theorem dX1_isSignedFor_1 : decode cX1_isSignedFor 1 = .ok (.getfield 15, 3) := by decide +kernel
theorem dX1_isSignedFor_4 : decode cX1_isSignedFor 4 = .ok (.iconst 1, 1) := by decide +kernel
theorem dX1_isSignedFor_5 : decode cX1_isSignedFor 5 = .ok (.iload_n 1, 1) := by decide +kernel
theorem dX1_isSignedFor_6 : decode cX1_isSignedFor 6 = .ok (.ishl, 1) := by decide +kernel
theorem dX1_isSignedFor_7 : decode cX1_isSignedFor 7 = .ok (.iand, 1) := by decide +kernel
theorem dX1_isSignedFor_8 : decode cX1_isSignedFor 8 = .ok (.ifCond .eq 7, 3) := by decide +kernel
theorem dX1_isSignedFor_11 : decode cX1_isSignedFor 11 = .ok (.iconst 1, 1) := by decide +kernel
theorem dX1_isSignedFor_12 : decode cX1_isSignedFor 12 = .ok (.goto 4, 3) := by decide +kernel
theorem dX1_isSignedFor_15 : decode cX1_isSignedFor 15 = .ok (.iconst 0, 1) := by decide +kernel
theorem dX1_isSignedFor_16 : decode cX1_isSignedFor 16 = .ok (.ireturn, 1) := by decide +kernel
theorem dX2_init_0 : decode cX2_init 0 = .ok (.aload_n 0, 1) := by decide +kernel
theorem dX2_init_1 : decode cX2_init 1 = .ok (.invokespecial 3, 3) := by decide +kernel
theorem dX2_init_4 : decode cX2_init 4 = .ok (.aload_n 0, 1) := by decide +kernel
theorem dX2_init_5 : decode cX2_init 5 = .ok (.iconst 0, 1) := by decide +kernel
theorem dX2_init_6 : decode cX2_init 6 = .ok (.putfield 9, 3) := by decide +kernel
theorem dX2_init_9 : decode cX2_init 9 = .ok (.aload_n 0, 1) := by decide +kernel
theorem dX2_init_10 : decode cX2_init 10 = .ok (.sipush 255, 3) := by decide +kernel
theorem dX2_init_13 : decode cX2_init 13 = .ok (.putfield 15, 3) := by decide +kernel
theorem dX2_init_16 : decode cX2_init 16 = .ok (.aload_n 0, 1) := by decide +kernel
theorem dX2_init_17 : decode cX2_init 17 = .ok (.iconst 0, 1) := by decide +kernel
theorem dX2_init_18 : decode cX2_init 18 = .ok (.putfield 18, 3) := by decide +kernel
theorem dX2_init_21 : decode cX2_init 21 = .ok (.aload_n 0, 1) := by decide +kernel
theorem dX2_init_22 : decode cX2_init 22 = .ok (.iconst 0, 1) := by decide +kernel
theorem dX2_init_23 : decode cX2_init 23 = .ok (.putfield 21, 3) := by decide +kernel
theorem dX2_init_26 : decode cX2_init 26 = .ok (.return_, 1) := by decide +kernel
theorem dX2_isNeededWith_0 : decode cX2_isNeededWith 0 = .ok (.iload_n 1, 1) := by decide +kernel
theorem dX2_isNeededWith_1 : decode cX2_isNeededWith 1 = .ok (.aload_n 0, 1) := by decide +kernel
theorem dX2_isNeededWith_2 : decode cX2_isNeededWith 2 = .ok (.getfield 15, 3) := by decide +kernel
theorem dX2_isNeededWith_5 : decode cX2_isNeededWith 5 = .ok (.iand, 1) := by decide +kernel
theorem dX2_isNeededWith_6 : decode cX2_isNeededWith 6 = .ok (.aload_n 0, 1) := by decide +kernel
theorem dX2_isNeededWith_7 : decode cX2_isNeededWith 7 = .ok (.getfield 15, 3) := by decide +kernel
theorem dX2_isNeededWith_10 : decode cX2_isNeededWith 10 = .ok (.if_icmp .ne 16, 3) := by decide +kernel
theorem dX2_isNeededWith_13 : decode cX2_isNeededWith 13 = .ok (.iload_n 1, 1) := by decide +kernel
theorem dX2_isNeededWith_14 : decode cX2_isNeededWith 14 = .ok (.aload_n 0, 1) := by decide +kernel
theorem dX2_isNeededWith_15 : decode cX2_isNeededWith 15 = .ok (.getfield 18, 3) := by decide +kernel
theorem dX2_isNeededWith_18 : decode cX2_isNeededWith 18 = .ok (.iand, 1) := by decide +kernel
theorem dX2_isNeededWith_19 : decode cX2_isNeededWith 19 = .ok (.ifCond .ne 7, 3) := by decide +kernel
theorem dX2_isNeededWith_22 : decode cX2_isNeededWith 22 = .ok (.iconst 1, 1) := by decide +kernel
theorem dX2_isNeededWith_23 : decode cX2_isNeededWith 23 = .ok (.goto 4, 3) := by decide +kernel
theorem dX2_isNeededWith_26 : decode cX2_isNeededWith 26 = .ok (.iconst 0, 1) := by decide +kernel
theorem dX2_isNeededWith_27 : decode cX2_isNeededWith 27 = .ok (.ireturn, 1) := by decide +kernel
theorem dX3_init_0 : decode cX3_init 0 = .ok (.aload_n 0, 1) := by decide +kernel
theorem dX3_init_1 : decode cX3_init 1 = .ok (.invokespecial 1, 3) := by decide +kernel
theorem dX3_init_4 : decode cX3_init 4 = .ok (.aload_n 0, 1) := by decide +kernel
theorem dX3_init_5 : decode cX3_init 5 = .ok (.iconst 0, 1) := by decide +kernel
theorem dX3_init_6 : decode cX3_init 6 = .ok (.putfield 7, 3) := by decide +kernel
theorem dX3_init_9 : decode cX3_init 9 = .ok (.aload_n 0, 1) := by decide +kernel
theorem dX3_init_10 : decode cX3_init 10 = .ok (.iload_n 1, 1) := by decide +kernel
theorem dX3_init_11 : decode cX3_init 11 = .ok (.putfield 13, 3) := by decide +kernel
theorem dX3_init_14 : decode cX3_init 14 = .ok (.aload_n 0, 1) := by decide +kernel
theorem dX3_init_15 : decode cX3_init 15 = .ok (.iload_n 2, 1) := by decide +kernel
theorem dX3_init_16 : decode cX3_init 16 = .ok (.putfield 17, 3) := by decide +kernel
theorem dX3_init_19 : decode cX3_init 19 = .ok (.aload_n 0, 1) := by decide +kernel
theorem dX3_init_20 : decode cX3_init 20 = .ok (.iload_n 3, 1) := by decide +kernel
theorem dX3_init_21 : decode cX3_init 21 = .ok (.putfield 20, 3) := by decide +kernel
theorem dX3_init_24 : decode cX3_init 24 = .ok (.aload_n 0, 1) := by decide +kernel
theorem dX3_init_25 : decode cX3_init 25 = .ok (.iload 4, 2) := by decide +kernel
theorem dX3_init_27 : decode cX3_init 27 = .ok (.putfield 23, 3) := by decide +kernel
theorem dX3_init_30 : decode cX3_init 30 = .ok (.return_, 1) := by decide +kernel
theorem dX4_init_0 : decode cX4_init 0 = .ok (.aload_n 0, 1) := by decide +kernel
theorem dX4_init_1 : decode cX4_init 1 = .ok (.invokespecial 1, 3) := by decide +kernel
theorem dX4_init_4 : decode cX4_init 4 = .ok (.aload_n 0, 1) := by decide +kernel
theorem dX4_init_5 : decode cX4_init 5 = .ok (.iload_n 1, 1) := by decide +kernel
theorem dX4_init_6 : decode cX4_init 6 = .ok (.putfield 7, 3) := by decide +kernel
theorem dX4_init_9 : decode cX4_init 9 = .ok (.aload_n 0, 1) := by decide +kernel
theorem dX4_init_10 : decode cX4_init 10 = .ok (.iload_n 2, 1) := by decide +kernel
theorem dX4_init_11 : decode cX4_init 11 = .ok (.putfield 13, 3) := by decide +kernel
theorem dX4_init_14 : decode cX4_init 14 = .ok (.aload_n 0, 1) := by decide +kernel
theorem dX4_init_15 : decode cX4_init 15 = .ok (.iload_n 3, 1) := by decide +kernel
theorem dX4_init_16 : decode cX4_init 16 = .ok (.putfield 16, 3) := by decide +kernel
theorem dX4_init_19 : decode cX4_init 19 = .ok (.return_, 1) := by decide +kernel
theorem dX5_init_0 : decode cX5_init 0 = .ok (.aload_n 0, 1) := by decide +kernel
theorem dX5_init_1 : decode cX5_init 1 = .ok (.invokespecial 1, 3) := by decide +kernel
theorem dX5_init_4 : decode cX5_init 4 = .ok (.aload_n 0, 1) := by decide +kernel
theorem dX5_init_5 : decode cX5_init 5 = .ok (.bipush 10, 2) := by decide +kernel
theorem dX5_init_7 : decode cX5_init 7 = .ok (.anewarray 9, 3) := by decide +kernel
theorem dX5_init_10 : decode cX5_init 10 = .ok (.putfield 11, 3) := by decide +kernel
theorem dX5_init_13 : decode cX5_init 13 = .ok (.aload_n 0, 1) := by decide +kernel
theorem dX5_init_14 : decode cX5_init 14 = .ok (.new 15, 3) := by decide +kernel
theorem dX5_init_17 : decode cX5_init 17 = .ok (.dup, 1) := by decide +kernel
theorem dX5_init_18 : decode cX5_init 18 = .ok (.invokespecial 17, 3) := by decide +kernel
theorem dX5_init_21 : decode cX5_init 21 = .ok (.putfield 18, 3) := by decide +kernel
theorem dX5_init_24 : decode cX5_init 24 = .ok (.aload_n 0, 1) := by decide +kernel
theorem dX5_init_25 : decode cX5_init 25 = .ok (.new 15, 3) := by decide +kernel
theorem dX5_init_28 : decode cX5_init 28 = .ok (.dup, 1) := by decide +kernel
theorem dX5_init_29 : decode cX5_init 29 = .ok (.invokespecial 17, 3) := by decide +kernel
theorem dX5_init_32 : decode cX5_init 32 = .ok (.putfield 22, 3) := by decide +kernel
theorem dX5_init_35 : decode cX5_init 35 = .ok (.aload_n 0, 1) := by decide +kernel
theorem dX5_init_36 : decode cX5_init 36 = .ok (.new 15, 3) := by decide +kernel
theorem dX5_init_39 : decode cX5_init 39 = .ok (.dup, 1) := by decide +kernel
theorem dX5_init_40 : decode cX5_init 40 = .ok (.invokespecial 17, 3) := by decide +kernel
theorem dX5_init_43 : decode cX5_init 43 = .ok (.putfield 25, 3) := by decide +kernel
theorem dX5_init_46 : decode cX5_init 46 = .ok (.aload_n 0, 1) := by decide +kernel
theorem dX5_init_47 : decode cX5_init 47 = .ok (.new 15, 3) := by decide +kernel
theorem dX5_init_50 : decode cX5_init 50 = .ok (.dup, 1) := by decide +kernel
theorem dX5_init_51 : decode cX5_init 51 = .ok (.invokespecial 17, 3) := by decide +kernel
theorem dX5_init_54 : decode cX5_init 54 = .ok (.putfield 28, 3) := by decide +kernel
theorem dX5_init_57 : decode cX5_init 57 = .ok (.aload_n 0, 1) := by decide +kernel
theorem dX5_init_58 : decode cX5_init 58 = .ok (.new 15, 3) := by decide +kernel
theorem dX5_init_61 : decode cX5_init 61 = .ok (.dup, 1) := by decide +kernel
theorem dX5_init_62 : decode cX5_init 62 = .ok (.invokespecial 17, 3) := by decide +kernel
theorem dX5_init_65 : decode cX5_init 65 = .ok (.putfield 31, 3) := by decide +kernel
theorem dX5_init_68 : decode cX5_init 68 = .ok (.aload_n 0, 1) := by decide +kernel
theorem dX5_init_69 : decode cX5_init 69 = .ok (.bipush 8, 2) := by decide +kernel
theorem dX5_init_71 : decode cX5_init 71 = .ok (.anewarray 34, 3) := by decide +kernel
theorem dX5_init_74 : decode cX5_init 74 = .ok (.putfield 36, 3) := by decide +kernel
theorem dX5_init_77 : decode cX5_init 77 = .ok (.iconst 0, 1) := by decide +kernel
theorem dX5_init_78 : decode cX5_init 78 = .ok (.istore_n 1, 1) := by decide +kernel
theorem dX5_init_79 : decode cX5_init 79 = .ok (.iload_n 1, 1) := by decide +kernel
theorem dX5_init_80 : decode cX5_init 80 = .ok (.bipush 10, 2) := by decide +kernel
theorem dX5_init_82 : decode cX5_init 82 = .ok (.if_icmp .ge 22, 3) := by decide +kernel
theorem dX5_init_85 : decode cX5_init 85 = .ok (.aload_n 0, 1) := by decide +kernel
theorem dX5_init_86 : decode cX5_init 86 = .ok (.getfield 11, 3) := by decide +kernel
theorem dX5_init_89 : decode cX5_init 89 = .ok (.iload_n 1, 1) := by decide +kernel
theorem dX5_init_90 : decode cX5_init 90 = .ok (.new 9, 3) := by decide +kernel
theorem dX5_init_93 : decode cX5_init 93 = .ok (.dup, 1) := by decide +kernel
theorem dX5_init_94 : decode cX5_init 94 = .ok (.invokespecial 40, 3) := by decide +kernel
theorem dX5_init_97 : decode cX5_init 97 = .ok (.aastore, 1) := by decide +kernel
theorem dX5_init_98 : decode cX5_init 98 = .ok (.iinc 1 1, 3) := by decide +kernel
theorem dX5_init_101 : decode cX5_init 101 = .ok (.goto (-22), 3) := by decide +kernel
theorem dX5_init_104 : decode cX5_init 104 = .ok (.return_, 1) := by decide +kernel
theorem dX5_kind_0 : decode cX5_kind 0 = .ok (.aload_n 0, 1) := by decide +kernel
theorem dX5_kind_1 : decode cX5_kind 1 = .ok (.iload_n 1, 1) := by decide +kernel
theorem dX5_kind_2 : decode cX5_kind 2 = .ok (.invokevirtual 41, 3) := by decide +kernel
theorem dX5_kind_5 : decode cX5_kind 5 = .ok (.astore 6, 2) := by decide +kernel
theorem dX5_kind_7 : decode cX5_kind 7 = .ok (.iload_n 2, 1) := by decide +kernel
theorem dX5_kind_8 : decode cX5_kind 8 = .ok (.invokestatic 45, 3) := by decide +kernel
theorem dX5_kind_11 : decode cX5_kind 11 = .ok (.ifCond .eq 18, 3) := by decide +kernel
theorem dX5_kind_14 : decode cX5_kind 14 = .ok (.iload_n 3, 1) := by decide +kernel
theorem dX5_kind_15 : decode cX5_kind 15 = .ok (.invokestatic 49, 3) := by decide +kernel
theorem dX5_kind_18 : decode cX5_kind 18 = .ok (.ifCond .eq 11, 3) := by decide +kernel
theorem dX5_kind_21 : decode cX5_kind 21 = .ok (.iload 4, 2) := by decide +kernel
theorem dX5_kind_23 : decode cX5_kind 23 = .ok (.invokestatic 49, 3) := by decide +kernel
theorem dX5_kind_26 : decode cX5_kind 26 = .ok (.ifCond .ne 13, 3) := by decide +kernel
theorem dX5_kind_29 : decode cX5_kind 29 = .ok (.new 52, 3) := by decide +kernel
theorem dX5_kind_32 : decode cX5_kind 32 = .ok (.dup, 1) := by decide +kernel
theorem dX5_kind_33 : decode cX5_kind 33 = .ok (.ldc 54, 2) := by decide +kernel
theorem dX5_kind_35 : decode cX5_kind 35 = .ok (.invokespecial 56, 3) := by decide +kernel
theorem dX5_kind_38 : decode cX5_kind 38 = .ok (.athrow, 1) := by decide +kernel
theorem dX5_kind_39 : decode cX5_kind 39 = .ok (.aload_n 0, 1) := by decide +kernel
theorem dX5_kind_40 : decode cX5_kind 40 = .ok (.getfield 22, 3) := by decide +kernel
theorem dX5_kind_43 : decode cX5_kind 43 = .ok (.invokevirtual 59, 3) := by decide +kernel
theorem dX5_kind_46 : decode cX5_kind 46 = .ok (.ifCond .ne 13, 3) := by decide +kernel
theorem dX5_kind_49 : decode cX5_kind 49 = .ok (.new 63, 3) := by decide +kernel
theorem dX5_kind_52 : decode cX5_kind 52 = .ok (.dup, 1) := by decide +kernel
theorem dX5_kind_53 : decode cX5_kind 53 = .ok (.ldc 65, 2) := by decide +kernel
theorem dX5_kind_55 : decode cX5_kind 55 = .ok (.invokespecial 67, 3) := by decide +kernel
theorem dX5_kind_58 : decode cX5_kind 58 = .ok (.athrow, 1) := by decide +kernel
theorem dX5_kind_59 : decode cX5_kind 59 = .ok (.aload 6, 2) := by decide +kernel
theorem dX5_kind_61 : decode cX5_kind 61 = .ok (.iload_n 2, 1) := by decide +kernel
theorem dX5_kind_62 : decode cX5_kind 62 = .ok (.putfield 68, 3) := by decide +kernel
theorem dX5_kind_65 : decode cX5_kind 65 = .ok (.aload 6, 2) := by decide +kernel
theorem dX5_kind_67 : decode cX5_kind 67 = .ok (.iload_n 3, 1) := by decide +kernel
theorem dX5_kind_68 : decode cX5_kind 68 = .ok (.putfield 72, 3) := by decide +kernel
theorem dX5_kind_71 : decode cX5_kind 71 = .ok (.aload 6, 2) := by decide +kernel
theorem dX5_kind_73 : decode cX5_kind 73 = .ok (.iload 4, 2) := by decide +kernel
theorem dX5_kind_75 : decode cX5_kind 75 = .ok (.putfield 75, 3) := by decide +kernel
theorem dX5_kind_78 : decode cX5_kind 78 = .ok (.aload 6, 2) := by decide +kernel
theorem dX5_kind_80 : decode cX5_kind 80 = .ok (.iload 5, 2) := by decide +kernel
theorem dX5_kind_82 : decode cX5_kind 82 = .ok (.putfield 78, 3) := by decide +kernel
theorem dX5_kind_85 : decode cX5_kind 85 = .ok (.return_, 1) := by decide +kernel
theorem dX5_lot_0 : decode cX5_lot 0 = .ok (.iload_n 1, 1) := by decide +kernel
theorem dX5_lot_1 : decode cX5_lot 1 = .ok (.invokestatic 82, 3) := by decide +kernel
theorem dX5_lot_4 : decode cX5_lot 4 = .ok (.iload_n 2, 1) := by decide +kernel
theorem dX5_lot_5 : decode cX5_lot 5 = .ok (.iconst 1, 1) := by decide +kernel
theorem dX5_lot_6 : decode cX5_lot 6 = .ok (.if_icmp .lt 20, 3) := by decide +kernel
theorem dX5_lot_9 : decode cX5_lot 9 = .ok (.iload_n 2, 1) := by decide +kernel
theorem dX5_lot_10 : decode cX5_lot 10 = .ok (.bipush 99, 2) := by decide +kernel
theorem dX5_lot_12 : decode cX5_lot 12 = .ok (.if_icmp .gt 14, 3) := by decide +kernel
theorem dX5_lot_15 : decode cX5_lot 15 = .ok (.iload_n 3, 1) := by decide +kernel
theorem dX5_lot_16 : decode cX5_lot 16 = .ok (.iconst 1, 1) := by decide +kernel
theorem dX5_lot_17 : decode cX5_lot 17 = .ok (.if_icmp .lt 9, 3) := by decide +kernel
theorem dX5_lot_20 : decode cX5_lot 20 = .ok (.iload_n 3, 1) := by decide +kernel
theorem dX5_lot_21 : decode cX5_lot 21 = .ok (.bipush 50, 2) := by decide +kernel
theorem dX5_lot_23 : decode cX5_lot 23 = .ok (.if_icmp .le 13, 3) := by decide +kernel
theorem dX5_lot_26 : decode cX5_lot 26 = .ok (.new 52, 3) := by decide +kernel
theorem dX5_lot_29 : decode cX5_lot 29 = .ok (.dup, 1) := by decide +kernel
theorem dX5_lot_30 : decode cX5_lot 30 = .ok (.ldc 86, 2) := by decide +kernel
theorem dX5_lot_32 : decode cX5_lot 32 = .ok (.invokespecial 56, 3) := by decide +kernel
theorem dX5_lot_35 : decode cX5_lot 35 = .ok (.athrow, 1) := by decide +kernel
theorem dX5_lot_36 : decode cX5_lot 36 = .ok (.aload_n 0, 1) := by decide +kernel
theorem dX5_lot_37 : decode cX5_lot 37 = .ok (.getfield 18, 3) := by decide +kernel
theorem dX5_lot_40 : decode cX5_lot 40 = .ok (.invokevirtual 88, 3) := by decide +kernel
theorem dX5_lot_43 : decode cX5_lot 43 = .ok (.istore 4, 2) := by decide +kernel
theorem dX5_lot_45 : decode cX5_lot 45 = .ok (.iload 4, 2) := by decide +kernel
theorem dX5_lot_47 : decode cX5_lot 47 = .ok (.bipush 40, 2) := by decide +kernel
theorem dX5_lot_49 : decode cX5_lot 49 = .ok (.if_icmp .lt 13, 3) := by decide +kernel
theorem dX5_lot_52 : decode cX5_lot 52 = .ok (.new 63, 3) := by decide +kernel
theorem dX5_lot_55 : decode cX5_lot 55 = .ok (.dup, 1) := by decide +kernel
theorem dX5_lot_56 : decode cX5_lot 56 = .ok (.ldc 92, 2) := by decide +kernel
theorem dX5_lot_58 : decode cX5_lot 58 = .ok (.invokespecial 67, 3) := by decide +kernel
theorem dX5_lot_61 : decode cX5_lot 61 = .ok (.athrow, 1) := by decide +kernel
theorem dX5_lot_62 : decode cX5_lot 62 = .ok (.aload_n 0, 1) := by decide +kernel
theorem dX5_lot_63 : decode cX5_lot 63 = .ok (.getfield 18, 3) := by decide +kernel
theorem dX5_lot_66 : decode cX5_lot 66 = .ok (.new 94, 3) := by decide +kernel
theorem dX5_lot_69 : decode cX5_lot 69 = .ok (.dup, 1) := by decide +kernel
theorem dX5_lot_70 : decode cX5_lot 70 = .ok (.iload 4, 2) := by decide +kernel
theorem dX5_lot_72 : decode cX5_lot 72 = .ok (.iload_n 1, 1) := by decide +kernel
theorem dX5_lot_73 : decode cX5_lot 73 = .ok (.iload_n 2, 1) := by decide +kernel
theorem dX5_lot_74 : decode cX5_lot 74 = .ok (.iload_n 3, 1) := by decide +kernel
theorem dX5_lot_75 : decode cX5_lot 75 = .ok (.invokespecial 96, 3) := by decide +kernel
theorem dX5_lot_78 : decode cX5_lot 78 = .ok (.invokevirtual 99, 3) := by decide +kernel
theorem dX5_lot_81 : decode cX5_lot 81 = .ok (.pop, 1) := by decide +kernel
theorem dX5_lot_82 : decode cX5_lot 82 = .ok (.iload 4, 2) := by decide +kernel
theorem dX5_lot_84 : decode cX5_lot 84 = .ok (.ireturn, 1) := by decide +kernel
theorem dX5_recall_0 : decode cX5_recall 0 = .ok (.aload_n 0, 1) := by decide +kernel
theorem dX5_recall_1 : decode cX5_recall 1 = .ok (.iload_n 1, 1) := by decide +kernel
theorem dX5_recall_2 : decode cX5_recall 2 = .ok (.invokevirtual 103, 3) := by decide +kernel
theorem dX5_recall_5 : decode cX5_recall 5 = .ok (.astore_n 2, 1) := by decide +kernel
theorem dX5_recall_6 : decode cX5_recall 6 = .ok (.aload_n 2, 1) := by decide +kernel
theorem dX5_recall_7 : decode cX5_recall 7 = .ok (.getfield 107, 3) := by decide +kernel
theorem dX5_recall_10 : decode cX5_recall 10 = .ok (.ifCond .eq 13, 3) := by decide +kernel
theorem dX5_recall_13 : decode cX5_recall 13 = .ok (.new 63, 3) := by decide +kernel
theorem dX5_recall_16 : decode cX5_recall 16 = .ok (.dup, 1) := by decide +kernel
theorem dX5_recall_17 : decode cX5_recall 17 = .ok (.ldc 110, 2) := by decide +kernel
theorem dX5_recall_19 : decode cX5_recall 19 = .ok (.invokespecial 67, 3) := by decide +kernel
theorem dX5_recall_22 : decode cX5_recall 22 = .ok (.athrow, 1) := by decide +kernel
theorem dX5_recall_23 : decode cX5_recall 23 = .ok (.aload_n 2, 1) := by decide +kernel
theorem dX5_recall_24 : decode cX5_recall 24 = .ok (.iconst 1, 1) := by decide +kernel
theorem dX5_recall_25 : decode cX5_recall 25 = .ok (.putfield 107, 3) := by decide +kernel
theorem dX5_recall_28 : decode cX5_recall 28 = .ok (.aload_n 0, 1) := by decide +kernel
theorem dX5_recall_29 : decode cX5_recall 29 = .ok (.aload_n 2, 1) := by decide +kernel
theorem dX5_recall_30 : decode cX5_recall 30 = .ok (.invokevirtual 112, 3) := by decide +kernel
theorem dX5_recall_33 : decode cX5_recall 33 = .ok (.ireturn, 1) := by decide +kernel
theorem dX5_units_0 : decode cX5_units 0 = .ok (.aload_n 0, 1) := by decide +kernel
theorem dX5_units_1 : decode cX5_units 1 = .ok (.iload_n 1, 1) := by decide +kernel
theorem dX5_units_2 : decode cX5_units 2 = .ok (.invokevirtual 103, 3) := by decide +kernel
theorem dX5_units_5 : decode cX5_units 5 = .ok (.getfield 116, 3) := by decide +kernel
theorem dX5_units_8 : decode cX5_units 8 = .ok (.ireturn, 1) := by decide +kernel
theorem dX5_order_0 : decode cX5_order 0 = .ok (.iload_n 1, 1) := by decide +kernel
theorem dX5_order_1 : decode cX5_order 1 = .ok (.invokestatic 49, 3) := by decide +kernel
theorem dX5_order_4 : decode cX5_order 4 = .ok (.ifCond .ne 13, 3) := by decide +kernel
theorem dX5_order_7 : decode cX5_order 7 = .ok (.new 52, 3) := by decide +kernel
theorem dX5_order_10 : decode cX5_order 10 = .ok (.dup, 1) := by decide +kernel
theorem dX5_order_11 : decode cX5_order 11 = .ok (.ldc 119, 2) := by decide +kernel
theorem dX5_order_13 : decode cX5_order 13 = .ok (.invokespecial 56, 3) := by decide +kernel
theorem dX5_order_16 : decode cX5_order 16 = .ok (.athrow, 1) := by decide +kernel
theorem dX5_order_17 : decode cX5_order 17 = .ok (.aload_n 0, 1) := by decide +kernel
theorem dX5_order_18 : decode cX5_order 18 = .ok (.getfield 22, 3) := by decide +kernel
theorem dX5_order_21 : decode cX5_order 21 = .ok (.invokevirtual 88, 3) := by decide +kernel
theorem dX5_order_24 : decode cX5_order 24 = .ok (.istore_n 2, 1) := by decide +kernel
theorem dX5_order_25 : decode cX5_order 25 = .ok (.iload_n 2, 1) := by decide +kernel
theorem dX5_order_26 : decode cX5_order 26 = .ok (.bipush 30, 2) := by decide +kernel
theorem dX5_order_28 : decode cX5_order 28 = .ok (.if_icmp .lt 13, 3) := by decide +kernel
theorem dX5_order_31 : decode cX5_order 31 = .ok (.new 63, 3) := by decide +kernel
theorem dX5_order_34 : decode cX5_order 34 = .ok (.dup, 1) := by decide +kernel
theorem dX5_order_35 : decode cX5_order 35 = .ok (.ldc 121, 2) := by decide +kernel
theorem dX5_order_37 : decode cX5_order 37 = .ok (.invokespecial 67, 3) := by decide +kernel
theorem dX5_order_40 : decode cX5_order 40 = .ok (.athrow, 1) := by decide +kernel
theorem dX5_order_41 : decode cX5_order 41 = .ok (.aload_n 0, 1) := by decide +kernel
theorem dX5_order_42 : decode cX5_order 42 = .ok (.getfield 22, 3) := by decide +kernel
theorem dX5_order_45 : decode cX5_order 45 = .ok (.new 34, 3) := by decide +kernel
theorem dX5_order_48 : decode cX5_order 48 = .ok (.dup, 1) := by decide +kernel
theorem dX5_order_49 : decode cX5_order 49 = .ok (.iload_n 2, 1) := by decide +kernel
theorem dX5_order_50 : decode cX5_order 50 = .ok (.iload_n 1, 1) := by decide +kernel
theorem dX5_order_51 : decode cX5_order 51 = .ok (.invokespecial 123, 3) := by decide +kernel
theorem dX5_order_54 : decode cX5_order 54 = .ok (.invokevirtual 99, 3) := by decide +kernel
theorem dX5_order_57 : decode cX5_order 57 = .ok (.pop, 1) := by decide +kernel
theorem dX5_order_58 : decode cX5_order 58 = .ok (.iload_n 2, 1) := by decide +kernel
theorem dX5_order_59 : decode cX5_order 59 = .ok (.ireturn, 1) := by decide +kernel
theorem dX5_takt_0 : decode cX5_takt 0 = .ok (.iload_n 1, 1) := by decide +kernel
theorem dX5_takt_1 : decode cX5_takt 1 = .ok (.iconst 1, 1) := by decide +kernel
theorem dX5_takt_2 : decode cX5_takt 2 = .ok (.if_icmp .lt 9, 3) := by decide +kernel
theorem dX5_takt_5 : decode cX5_takt 5 = .ok (.iload_n 1, 1) := by decide +kernel
theorem dX5_takt_6 : decode cX5_takt 6 = .ok (.bipush 20, 2) := by decide +kernel
theorem dX5_takt_8 : decode cX5_takt 8 = .ok (.if_icmp .le 13, 3) := by decide +kernel
theorem dX5_takt_11 : decode cX5_takt 11 = .ok (.new 52, 3) := by decide +kernel
theorem dX5_takt_14 : decode cX5_takt 14 = .ok (.dup, 1) := by decide +kernel
theorem dX5_takt_15 : decode cX5_takt 15 = .ok (.ldc 126, 2) := by decide +kernel
theorem dX5_takt_17 : decode cX5_takt 17 = .ok (.invokespecial 56, 3) := by decide +kernel
theorem dX5_takt_20 : decode cX5_takt 20 = .ok (.athrow, 1) := by decide +kernel
theorem dX5_takt_21 : decode cX5_takt 21 = .ok (.iconst 0, 1) := by decide +kernel
theorem dX5_takt_22 : decode cX5_takt 22 = .ok (.istore_n 2, 1) := by decide +kernel
theorem dX5_takt_23 : decode cX5_takt 23 = .ok (.iconst 0, 1) := by decide +kernel
theorem dX5_takt_24 : decode cX5_takt 24 = .ok (.istore_n 3, 1) := by decide +kernel
theorem dX5_takt_25 : decode cX5_takt 25 = .ok (.iload_n 3, 1) := by decide +kernel
theorem dX5_takt_26 : decode cX5_takt 26 = .ok (.iload_n 1, 1) := by decide +kernel
theorem dX5_takt_27 : decode cX5_takt 27 = .ok (.if_icmp .ge 49, 3) := by decide +kernel
theorem dX5_takt_30 : decode cX5_takt 30 = .ok (.aload_n 0, 1) := by decide +kernel
theorem dX5_takt_31 : decode cX5_takt 31 = .ok (.invokevirtual 128, 3) := by decide +kernel
theorem dX5_takt_34 : decode cX5_takt 34 = .ok (.aload_n 0, 1) := by decide +kernel
theorem dX5_takt_35 : decode cX5_takt 35 = .ok (.invokevirtual 131, 3) := by decide +kernel
theorem dX5_takt_38 : decode cX5_takt 38 = .ok (.ifCond .eq 6, 3) := by decide +kernel
theorem dX5_takt_41 : decode cX5_takt 41 = .ok (.iinc 2 1, 3) := by decide +kernel
theorem dX5_takt_44 : decode cX5_takt 44 = .ok (.aload_n 0, 1) := by decide +kernel
theorem dX5_takt_45 : decode cX5_takt 45 = .ok (.invokevirtual 134, 3) := by decide +kernel
theorem dX5_takt_48 : decode cX5_takt 48 = .ok (.aload_n 0, 1) := by decide +kernel
theorem dX5_takt_49 : decode cX5_takt 49 = .ok (.invokevirtual 137, 3) := by decide +kernel
theorem dX5_takt_52 : decode cX5_takt 52 = .ok (.aload_n 0, 1) := by decide +kernel
theorem dX5_takt_53 : decode cX5_takt 53 = .ok (.invokevirtual 140, 3) := by decide +kernel
theorem dX5_takt_56 : decode cX5_takt 56 = .ok (.aload_n 0, 1) := by decide +kernel
theorem dX5_takt_57 : decode cX5_takt 57 = .ok (.invokevirtual 143, 3) := by decide +kernel
theorem dX5_takt_60 : decode cX5_takt 60 = .ok (.aload_n 0, 1) := by decide +kernel
theorem dX5_takt_61 : decode cX5_takt 61 = .ok (.dup, 1) := by decide +kernel
theorem dX5_takt_62 : decode cX5_takt 62 = .ok (.getfield 146, 3) := by decide +kernel
theorem dX5_takt_65 : decode cX5_takt 65 = .ok (.iconst 1, 1) := by decide +kernel
theorem dX5_takt_66 : decode cX5_takt 66 = .ok (.iadd, 1) := by decide +kernel
theorem dX5_takt_67 : decode cX5_takt 67 = .ok (.putfield 146, 3) := by decide +kernel
theorem dX5_takt_70 : decode cX5_takt 70 = .ok (.iinc 3 1, 3) := by decide +kernel
theorem dX5_takt_73 : decode cX5_takt 73 = .ok (.goto (-48), 3) := by decide +kernel
theorem dX5_takt_76 : decode cX5_takt 76 = .ok (.iload_n 2, 1) := by decide +kernel
theorem dX5_takt_77 : decode cX5_takt 77 = .ok (.ireturn, 1) := by decide +kernel
theorem dX5_fault_0 : decode cX5_fault 0 = .ok (.aload_n 0, 1) := by decide +kernel
theorem dX5_fault_1 : decode cX5_fault 1 = .ok (.iload_n 1, 1) := by decide +kernel
theorem dX5_fault_2 : decode cX5_fault 2 = .ok (.invokevirtual 149, 3) := by decide +kernel
theorem dX5_fault_5 : decode cX5_fault 5 = .ok (.astore_n 2, 1) := by decide +kernel
theorem dX5_fault_6 : decode cX5_fault 6 = .ok (.aload_n 2, 1) := by decide +kernel
theorem dX5_fault_7 : decode cX5_fault 7 = .ok (.getfield 153, 3) := by decide +kernel
theorem dX5_fault_10 : decode cX5_fault 10 = .ok (.iconst 3, 1) := by decide +kernel
theorem dX5_fault_11 : decode cX5_fault 11 = .ok (.if_icmp .ne 13, 3) := by decide +kernel
theorem dX5_fault_14 : decode cX5_fault 14 = .ok (.new 63, 3) := by decide +kernel
theorem dX5_fault_17 : decode cX5_fault 17 = .ok (.dup, 1) := by decide +kernel
theorem dX5_fault_18 : decode cX5_fault 18 = .ok (.ldc 156, 2) := by decide +kernel
theorem dX5_fault_20 : decode cX5_fault 20 = .ok (.invokespecial 67, 3) := by decide +kernel
theorem dX5_fault_23 : decode cX5_fault 23 = .ok (.athrow, 1) := by decide +kernel
theorem dX5_fault_24 : decode cX5_fault 24 = .ok (.aload_n 2, 1) := by decide +kernel
theorem dX5_fault_25 : decode cX5_fault 25 = .ok (.getfield 158, 3) := by decide +kernel
theorem dX5_fault_28 : decode cX5_fault 28 = .ok (.ifCond .ne 7, 3) := by decide +kernel
theorem dX5_fault_31 : decode cX5_fault 31 = .ok (.iconst 1, 1) := by decide +kernel
theorem dX5_fault_32 : decode cX5_fault 32 = .ok (.goto 4, 3) := by decide +kernel
theorem dX5_fault_35 : decode cX5_fault 35 = .ok (.iconst 0, 1) := by decide +kernel
theorem dX5_fault_36 : decode cX5_fault 36 = .ok (.istore_n 3, 1) := by decide +kernel
theorem dX5_fault_37 : decode cX5_fault 37 = .ok (.aload_n 2, 1) := by decide +kernel
theorem dX5_fault_38 : decode cX5_fault 38 = .ok (.iconst 1, 1) := by decide +kernel
theorem dX5_fault_39 : decode cX5_fault 39 = .ok (.putfield 158, 3) := by decide +kernel
theorem dX5_fault_42 : decode cX5_fault 42 = .ok (.iload_n 3, 1) := by decide +kernel
theorem dX5_fault_43 : decode cX5_fault 43 = .ok (.ireturn, 1) := by decide +kernel
theorem dX5_takts_0 : decode cX5_takts 0 = .ok (.aload_n 0, 1) := by decide +kernel
theorem dX5_takts_1 : decode cX5_takts 1 = .ok (.getfield 146, 3) := by decide +kernel
theorem dX5_takts_4 : decode cX5_takts 4 = .ok (.ireturn, 1) := by decide +kernel
theorem dX5_whereIs_0 : decode cX5_whereIs 0 = .ok (.aload_n 0, 1) := by decide +kernel
theorem dX5_whereIs_1 : decode cX5_whereIs 1 = .ok (.iload_n 1, 1) := by decide +kernel
theorem dX5_whereIs_2 : decode cX5_whereIs 2 = .ok (.invokevirtual 149, 3) := by decide +kernel
theorem dX5_whereIs_5 : decode cX5_whereIs 5 = .ok (.getfield 153, 3) := by decide +kernel
theorem dX5_whereIs_8 : decode cX5_whereIs 8 = .ok (.ireturn, 1) := by decide +kernel
theorem dX5_stationOf_0 : decode cX5_stationOf 0 = .ok (.aload_n 0, 1) := by decide +kernel
theorem dX5_stationOf_1 : decode cX5_stationOf 1 = .ok (.iload_n 1, 1) := by decide +kernel
theorem dX5_stationOf_2 : decode cX5_stationOf 2 = .ok (.invokevirtual 149, 3) := by decide +kernel
theorem dX5_stationOf_5 : decode cX5_stationOf 5 = .ok (.getfield 161, 3) := by decide +kernel
theorem dX5_stationOf_8 : decode cX5_stationOf 8 = .ok (.ireturn, 1) := by decide +kernel
theorem dX5_carAt_0 : decode cX5_carAt 0 = .ok (.iload_n 1, 1) := by decide +kernel
theorem dX5_carAt_1 : decode cX5_carAt 1 = .ok (.invokestatic 162, 3) := by decide +kernel
theorem dX5_carAt_4 : decode cX5_carAt 4 = .ok (.ifCond .ne 13, 3) := by decide +kernel
theorem dX5_carAt_7 : decode cX5_carAt 7 = .ok (.new 52, 3) := by decide +kernel
theorem dX5_carAt_10 : decode cX5_carAt 10 = .ok (.dup, 1) := by decide +kernel
theorem dX5_carAt_11 : decode cX5_carAt 11 = .ok (.ldc 165, 2) := by decide +kernel
theorem dX5_carAt_13 : decode cX5_carAt 13 = .ok (.invokespecial 56, 3) := by decide +kernel
theorem dX5_carAt_16 : decode cX5_carAt 16 = .ok (.athrow, 1) := by decide +kernel
theorem dX5_carAt_17 : decode cX5_carAt 17 = .ok (.aload_n 0, 1) := by decide +kernel
theorem dX5_carAt_18 : decode cX5_carAt 18 = .ok (.getfield 36, 3) := by decide +kernel
theorem dX5_carAt_21 : decode cX5_carAt 21 = .ok (.iload_n 1, 1) := by decide +kernel
theorem dX5_carAt_22 : decode cX5_carAt 22 = .ok (.aaload, 1) := by decide +kernel
theorem dX5_carAt_23 : decode cX5_carAt 23 = .ok (.astore_n 2, 1) := by decide +kernel
theorem dX5_carAt_24 : decode cX5_carAt 24 = .ok (.aload_n 2, 1) := by decide +kernel
theorem dX5_carAt_25 : decode cX5_carAt 25 = .ok (.ifnonnull 7, 3) := by decide +kernel
theorem dX5_carAt_28 : decode cX5_carAt 28 = .ok (.iconst (-1), 1) := by decide +kernel
theorem dX5_carAt_29 : decode cX5_carAt 29 = .ok (.goto 7, 3) := by decide +kernel
theorem dX5_carAt_32 : decode cX5_carAt 32 = .ok (.aload_n 2, 1) := by decide +kernel
theorem dX5_carAt_33 : decode cX5_carAt 33 = .ok (.getfield 167, 3) := by decide +kernel
theorem dX5_carAt_36 : decode cX5_carAt 36 = .ok (.ireturn, 1) := by decide +kernel
theorem dX5_needs_0 : decode cX5_needs 0 = .ok (.aload_n 0, 1) := by decide +kernel
theorem dX5_needs_1 : decode cX5_needs 1 = .ok (.aload_n 0, 1) := by decide +kernel
theorem dX5_needs_2 : decode cX5_needs 2 = .ok (.iload_n 1, 1) := by decide +kernel
theorem dX5_needs_3 : decode cX5_needs 3 = .ok (.invokevirtual 149, 3) := by decide +kernel
theorem dX5_needs_6 : decode cX5_needs 6 = .ok (.invokevirtual 170, 3) := by decide +kernel
theorem dX5_needs_9 : decode cX5_needs 9 = .ok (.ireturn, 1) := by decide +kernel
theorem dX5_lacks_0 : decode cX5_lacks 0 = .ok (.aload_n 0, 1) := by decide +kernel
theorem dX5_lacks_1 : decode cX5_lacks 1 = .ok (.aload_n 0, 1) := by decide +kernel
theorem dX5_lacks_2 : decode cX5_lacks 2 = .ok (.iload_n 1, 1) := by decide +kernel
theorem dX5_lacks_3 : decode cX5_lacks 3 = .ok (.invokevirtual 149, 3) := by decide +kernel
theorem dX5_lacks_6 : decode cX5_lacks 6 = .ok (.invokevirtual 174, 3) := by decide +kernel
theorem dX5_lacks_9 : decode cX5_lacks 9 = .ok (.ireturn, 1) := by decide +kernel
theorem dX5_lotIn_0 : decode cX5_lotIn 0 = .ok (.aload_n 0, 1) := by decide +kernel
theorem dX5_lotIn_1 : decode cX5_lotIn 1 = .ok (.iload_n 1, 1) := by decide +kernel
theorem dX5_lotIn_2 : decode cX5_lotIn 2 = .ok (.invokevirtual 149, 3) := by decide +kernel
theorem dX5_lotIn_5 : decode cX5_lotIn 5 = .ok (.astore_n 3, 1) := by decide +kernel
theorem dX5_lotIn_6 : decode cX5_lotIn 6 = .ok (.iload_n 2, 1) := by decide +kernel
theorem dX5_lotIn_7 : decode cX5_lotIn 7 = .ok (.invokestatic 82, 3) := by decide +kernel
theorem dX5_lotIn_10 : decode cX5_lotIn 10 = .ok (.aload_n 3, 1) := by decide +kernel
theorem dX5_lotIn_11 : decode cX5_lotIn 11 = .ok (.getfield 177, 3) := by decide +kernel
theorem dX5_lotIn_14 : decode cX5_lotIn 14 = .ok (.iload_n 2, 1) := by decide +kernel
theorem dX5_lotIn_15 : decode cX5_lotIn 15 = .ok (.aaload, 1) := by decide +kernel
theorem dX5_lotIn_16 : decode cX5_lotIn 16 = .ok (.astore 4, 2) := by decide +kernel
theorem dX5_lotIn_18 : decode cX5_lotIn 18 = .ok (.aload 4, 2) := by decide +kernel
theorem dX5_lotIn_20 : decode cX5_lotIn 20 = .ok (.ifnonnull 7, 3) := by decide +kernel
theorem dX5_lotIn_23 : decode cX5_lotIn 23 = .ok (.iconst (-1), 1) := by decide +kernel
theorem dX5_lotIn_24 : decode cX5_lotIn 24 = .ok (.goto 8, 3) := by decide +kernel
theorem dX5_lotIn_27 : decode cX5_lotIn 27 = .ok (.aload 4, 2) := by decide +kernel
theorem dX5_lotIn_29 : decode cX5_lotIn 29 = .ok (.getfield 181, 3) := by decide +kernel
theorem dX5_lotIn_32 : decode cX5_lotIn 32 = .ok (.ireturn, 1) := by decide +kernel
theorem dX5_lotByPicks_0 : decode cX5_lotByPicks 0 = .ok (.aload_n 0, 1) := by decide +kernel
theorem dX5_lotByPicks_1 : decode cX5_lotByPicks 1 = .ok (.iload_n 1, 1) := by decide +kernel
theorem dX5_lotByPicks_2 : decode cX5_lotByPicks 2 = .ok (.invokevirtual 182, 3) := by decide +kernel
theorem dX5_lotByPicks_5 : decode cX5_lotByPicks 5 = .ok (.iload_n 2, 1) := by decide +kernel
theorem dX5_lotByPicks_6 : decode cX5_lotByPicks 6 = .ok (.invokestatic 82, 3) := by decide +kernel
theorem dX5_lotByPicks_9 : decode cX5_lotByPicks 9 = .ok (.iconst (-1), 1) := by decide +kernel
theorem dX5_lotByPicks_10 : decode cX5_lotByPicks 10 = .ok (.istore_n 3, 1) := by decide +kernel
theorem dX5_lotByPicks_11 : decode cX5_lotByPicks 11 = .ok (.iconst 0, 1) := by decide +kernel
theorem dX5_lotByPicks_12 : decode cX5_lotByPicks 12 = .ok (.istore 4, 2) := by decide +kernel
theorem dX5_lotByPicks_14 : decode cX5_lotByPicks 14 = .ok (.iload 4, 2) := by decide +kernel
theorem dX5_lotByPicks_16 : decode cX5_lotByPicks 16 = .ok (.aload_n 0, 1) := by decide +kernel
theorem dX5_lotByPicks_17 : decode cX5_lotByPicks 17 = .ok (.getfield 31, 3) := by decide +kernel
theorem dX5_lotByPicks_20 : decode cX5_lotByPicks 20 = .ok (.invokevirtual 88, 3) := by decide +kernel
theorem dX5_lotByPicks_23 : decode cX5_lotByPicks 23 = .ok (.if_icmp .ge 47, 3) := by decide +kernel
theorem dX5_lotByPicks_26 : decode cX5_lotByPicks 26 = .ok (.aload_n 0, 1) := by decide +kernel
theorem dX5_lotByPicks_27 : decode cX5_lotByPicks 27 = .ok (.getfield 31, 3) := by decide +kernel
theorem dX5_lotByPicks_30 : decode cX5_lotByPicks 30 = .ok (.iload 4, 2) := by decide +kernel
theorem dX5_lotByPicks_32 : decode cX5_lotByPicks 32 = .ok (.invokevirtual 185, 3) := by decide +kernel
theorem dX5_lotByPicks_35 : decode cX5_lotByPicks 35 = .ok (.checkcast 189, 3) := by decide +kernel
theorem dX5_lotByPicks_38 : decode cX5_lotByPicks 38 = .ok (.astore 5, 2) := by decide +kernel
theorem dX5_lotByPicks_40 : decode cX5_lotByPicks 40 = .ok (.aload 5, 2) := by decide +kernel
theorem dX5_lotByPicks_42 : decode cX5_lotByPicks 42 = .ok (.getfield 191, 3) := by decide +kernel
theorem dX5_lotByPicks_45 : decode cX5_lotByPicks 45 = .ok (.iload_n 1, 1) := by decide +kernel
theorem dX5_lotByPicks_46 : decode cX5_lotByPicks 46 = .ok (.if_icmp .ne 18, 3) := by decide +kernel
theorem dX5_lotByPicks_49 : decode cX5_lotByPicks 49 = .ok (.aload 5, 2) := by decide +kernel
theorem dX5_lotByPicks_51 : decode cX5_lotByPicks 51 = .ok (.getfield 194, 3) := by decide +kernel
theorem dX5_lotByPicks_54 : decode cX5_lotByPicks 54 = .ok (.iload_n 2, 1) := by decide +kernel
theorem dX5_lotByPicks_55 : decode cX5_lotByPicks 55 = .ok (.if_icmp .ne 9, 3) := by decide +kernel
theorem dX5_lotByPicks_58 : decode cX5_lotByPicks 58 = .ok (.aload 5, 2) := by decide +kernel
theorem dX5_lotByPicks_60 : decode cX5_lotByPicks 60 = .ok (.getfield 197, 3) := by decide +kernel
theorem dX5_lotByPicks_63 : decode cX5_lotByPicks 63 = .ok (.istore_n 3, 1) := by decide +kernel
theorem dX5_lotByPicks_64 : decode cX5_lotByPicks 64 = .ok (.iinc 4 1, 3) := by decide +kernel
theorem dX5_lotByPicks_67 : decode cX5_lotByPicks 67 = .ok (.goto (-53), 3) := by decide +kernel
theorem dX5_lotByPicks_70 : decode cX5_lotByPicks 70 = .ok (.iload_n 3, 1) := by decide +kernel
theorem dX5_lotByPicks_71 : decode cX5_lotByPicks 71 = .ok (.ireturn, 1) := by decide +kernel
theorem dX5_scrapped_0 : decode cX5_scrapped 0 = .ok (.aload_n 0, 1) := by decide +kernel
theorem dX5_scrapped_1 : decode cX5_scrapped 1 = .ok (.getfield 200, 3) := by decide +kernel
theorem dX5_scrapped_4 : decode cX5_scrapped 4 = .ok (.ireturn, 1) := by decide +kernel
theorem dX5_build_0 : decode cX5_build 0 = .ok (.aload_n 0, 1) := by decide +kernel
theorem dX5_build_1 : decode cX5_build 1 = .ok (.iload_n 1, 1) := by decide +kernel
theorem dX5_build_2 : decode cX5_build 2 = .ok (.invokevirtual 149, 3) := by decide +kernel
theorem dX5_build_5 : decode cX5_build 5 = .ok (.astore_n 2, 1) := by decide +kernel
theorem dX5_build_6 : decode cX5_build 6 = .ok (.iconst 0, 1) := by decide +kernel
theorem dX5_build_7 : decode cX5_build 7 = .ok (.istore_n 3, 1) := by decide +kernel
theorem dX5_build_8 : decode cX5_build 8 = .ok (.iload_n 3, 1) := by decide +kernel
theorem dX5_build_9 : decode cX5_build 9 = .ok (.aload_n 0, 1) := by decide +kernel
theorem dX5_build_10 : decode cX5_build 10 = .ok (.getfield 25, 3) := by decide +kernel
theorem dX5_build_13 : decode cX5_build 13 = .ok (.invokevirtual 88, 3) := by decide +kernel
theorem dX5_build_16 : decode cX5_build 16 = .ok (.if_icmp .ge 30, 3) := by decide +kernel
theorem dX5_build_19 : decode cX5_build 19 = .ok (.aload_n 0, 1) := by decide +kernel
theorem dX5_build_20 : decode cX5_build 20 = .ok (.aload_n 0, 1) := by decide +kernel
theorem dX5_build_21 : decode cX5_build 21 = .ok (.getfield 25, 3) := by decide +kernel
theorem dX5_build_24 : decode cX5_build 24 = .ok (.iload_n 3, 1) := by decide +kernel
theorem dX5_build_25 : decode cX5_build 25 = .ok (.invokevirtual 185, 3) := by decide +kernel
theorem dX5_build_28 : decode cX5_build 28 = .ok (.checkcast 203, 3) := by decide +kernel
theorem dX5_build_31 : decode cX5_build 31 = .ok (.aload_n 2, 1) := by decide +kernel
theorem dX5_build_32 : decode cX5_build 32 = .ok (.invokevirtual 205, 3) := by decide +kernel
theorem dX5_build_35 : decode cX5_build 35 = .ok (.ifCond .eq 5, 3) := by decide +kernel
theorem dX5_build_38 : decode cX5_build 38 = .ok (.iload_n 3, 1) := by decide +kernel
theorem dX5_build_39 : decode cX5_build 39 = .ok (.ireturn, 1) := by decide +kernel
theorem dX5_build_40 : decode cX5_build 40 = .ok (.iinc 3 1, 3) := by decide +kernel
theorem dX5_build_43 : decode cX5_build 43 = .ok (.goto (-35), 3) := by decide +kernel
theorem dX5_build_46 : decode cX5_build 46 = .ok (.aload_n 0, 1) := by decide +kernel
theorem dX5_build_47 : decode cX5_build 47 = .ok (.getfield 25, 3) := by decide +kernel
theorem dX5_build_50 : decode cX5_build 50 = .ok (.invokevirtual 88, 3) := by decide +kernel
theorem dX5_build_53 : decode cX5_build 53 = .ok (.istore_n 3, 1) := by decide +kernel
theorem dX5_build_54 : decode cX5_build 54 = .ok (.iload_n 3, 1) := by decide +kernel
theorem dX5_build_55 : decode cX5_build 55 = .ok (.bipush 40, 2) := by decide +kernel
theorem dX5_build_57 : decode cX5_build 57 = .ok (.if_icmp .lt 13, 3) := by decide +kernel
theorem dX5_build_60 : decode cX5_build 60 = .ok (.new 63, 3) := by decide +kernel
theorem dX5_build_63 : decode cX5_build 63 = .ok (.dup, 1) := by decide +kernel
theorem dX5_build_64 : decode cX5_build 64 = .ok (.ldc 209, 2) := by decide +kernel
theorem dX5_build_66 : decode cX5_build 66 = .ok (.invokespecial 67, 3) := by decide +kernel
theorem dX5_build_69 : decode cX5_build 69 = .ok (.athrow, 1) := by decide +kernel
theorem dX5_build_70 : decode cX5_build 70 = .ok (.aload_n 0, 1) := by decide +kernel
theorem dX5_build_71 : decode cX5_build 71 = .ok (.getfield 25, 3) := by decide +kernel
theorem dX5_build_74 : decode cX5_build 74 = .ok (.aload_n 0, 1) := by decide +kernel
theorem dX5_build_75 : decode cX5_build 75 = .ok (.aload_n 2, 1) := by decide +kernel
theorem dX5_build_76 : decode cX5_build 76 = .ok (.iload_n 3, 1) := by decide +kernel
theorem dX5_build_77 : decode cX5_build 77 = .ok (.invokevirtual 211, 3) := by decide +kernel
theorem dX5_build_80 : decode cX5_build 80 = .ok (.invokevirtual 99, 3) := by decide +kernel
theorem dX5_build_83 : decode cX5_build 83 = .ok (.pop, 1) := by decide +kernel
theorem dX5_build_84 : decode cX5_build 84 = .ok (.iload_n 3, 1) := by decide +kernel
theorem dX5_build_85 : decode cX5_build 85 = .ok (.ireturn, 1) := by decide +kernel
theorem dX5_sign_0 : decode cX5_sign 0 = .ok (.aload_n 0, 1) := by decide +kernel
theorem dX5_sign_1 : decode cX5_sign 1 = .ok (.iload_n 1, 1) := by decide +kernel
theorem dX5_sign_2 : decode cX5_sign 2 = .ok (.invokevirtual 215, 3) := by decide +kernel
theorem dX5_sign_5 : decode cX5_sign 5 = .ok (.astore_n 3, 1) := by decide +kernel
theorem dX5_sign_6 : decode cX5_sign 6 = .ok (.aload_n 0, 1) := by decide +kernel
theorem dX5_sign_7 : decode cX5_sign 7 = .ok (.iload_n 2, 1) := by decide +kernel
theorem dX5_sign_8 : decode cX5_sign 8 = .ok (.invokevirtual 182, 3) := by decide +kernel
theorem dX5_sign_11 : decode cX5_sign 11 = .ok (.aload_n 3, 1) := by decide +kernel
theorem dX5_sign_12 : decode cX5_sign 12 = .ok (.iload_n 2, 1) := by decide +kernel
theorem dX5_sign_13 : decode cX5_sign 13 = .ok (.invokevirtual 219, 3) := by decide +kernel
theorem dX5_sign_16 : decode cX5_sign 16 = .ok (.ifCond .ne 7, 3) := by decide +kernel
theorem dX5_sign_19 : decode cX5_sign 19 = .ok (.iconst 1, 1) := by decide +kernel
theorem dX5_sign_20 : decode cX5_sign 20 = .ok (.goto 4, 3) := by decide +kernel
theorem dX5_sign_23 : decode cX5_sign 23 = .ok (.iconst 0, 1) := by decide +kernel
theorem dX5_sign_24 : decode cX5_sign 24 = .ok (.istore 4, 2) := by decide +kernel
theorem dX5_sign_26 : decode cX5_sign 26 = .ok (.aload_n 3, 1) := by decide +kernel
theorem dX5_sign_27 : decode cX5_sign 27 = .ok (.dup, 1) := by decide +kernel
theorem dX5_sign_28 : decode cX5_sign 28 = .ok (.getfield 222, 3) := by decide +kernel
theorem dX5_sign_31 : decode cX5_sign 31 = .ok (.iconst 1, 1) := by decide +kernel
theorem dX5_sign_32 : decode cX5_sign 32 = .ok (.iload_n 2, 1) := by decide +kernel
theorem dX5_sign_33 : decode cX5_sign 33 = .ok (.ishl, 1) := by decide +kernel
theorem dX5_sign_34 : decode cX5_sign 34 = .ok (.ior, 1) := by decide +kernel
theorem dX5_sign_35 : decode cX5_sign 35 = .ok (.putfield 222, 3) := by decide +kernel
theorem dX5_sign_38 : decode cX5_sign 38 = .ok (.iload 4, 2) := by decide +kernel
theorem dX5_sign_40 : decode cX5_sign 40 = .ok (.ireturn, 1) := by decide +kernel
theorem dX5_flash_0 : decode cX5_flash 0 = .ok (.aload_n 0, 1) := by decide +kernel
theorem dX5_flash_1 : decode cX5_flash 1 = .ok (.iload_n 1, 1) := by decide +kernel
theorem dX5_flash_2 : decode cX5_flash 2 = .ok (.invokevirtual 149, 3) := by decide +kernel
theorem dX5_flash_5 : decode cX5_flash 5 = .ok (.astore_n 3, 1) := by decide +kernel
theorem dX5_flash_6 : decode cX5_flash 6 = .ok (.aload_n 0, 1) := by decide +kernel
theorem dX5_flash_7 : decode cX5_flash 7 = .ok (.iload_n 2, 1) := by decide +kernel
theorem dX5_flash_8 : decode cX5_flash 8 = .ok (.invokevirtual 215, 3) := by decide +kernel
theorem dX5_flash_11 : decode cX5_flash 11 = .ok (.astore 4, 2) := by decide +kernel
theorem dX5_flash_13 : decode cX5_flash 13 = .ok (.aload_n 3, 1) := by decide +kernel
theorem dX5_flash_14 : decode cX5_flash 14 = .ok (.getfield 153, 3) := by decide +kernel
theorem dX5_flash_17 : decode cX5_flash 17 = .ok (.iconst 1, 1) := by decide +kernel
theorem dX5_flash_18 : decode cX5_flash 18 = .ok (.if_icmp .ne 11, 3) := by decide +kernel
theorem dX5_flash_21 : decode cX5_flash 21 = .ok (.aload_n 3, 1) := by decide +kernel
theorem dX5_flash_22 : decode cX5_flash 22 = .ok (.getfield 161, 3) := by decide +kernel
theorem dX5_flash_25 : decode cX5_flash 25 = .ok (.iconst 5, 1) := by decide +kernel
theorem dX5_flash_26 : decode cX5_flash 26 = .ok (.if_icmp .ge 13, 3) := by decide +kernel
theorem dX5_flash_29 : decode cX5_flash 29 = .ok (.new 63, 3) := by decide +kernel
theorem dX5_flash_32 : decode cX5_flash 32 = .ok (.dup, 1) := by decide +kernel
theorem dX5_flash_33 : decode cX5_flash 33 = .ok (.ldc 225, 2) := by decide +kernel
theorem dX5_flash_35 : decode cX5_flash 35 = .ok (.invokespecial 67, 3) := by decide +kernel
theorem dX5_flash_38 : decode cX5_flash 38 = .ok (.athrow, 1) := by decide +kernel
theorem dX5_flash_39 : decode cX5_flash 39 = .ok (.aload_n 3, 1) := by decide +kernel
theorem dX5_flash_40 : decode cX5_flash 40 = .ok (.getfield 227, 3) := by decide +kernel
theorem dX5_flash_43 : decode cX5_flash 43 = .ok (.astore 5, 2) := by decide +kernel
theorem dX5_flash_45 : decode cX5_flash 45 = .ok (.aload_n 3, 1) := by decide +kernel
theorem dX5_flash_46 : decode cX5_flash 46 = .ok (.aload 4, 2) := by decide +kernel
theorem dX5_flash_48 : decode cX5_flash 48 = .ok (.putfield 227, 3) := by decide +kernel
theorem dX5_flash_51 : decode cX5_flash 51 = .ok (.aload_n 3, 1) := by decide +kernel
theorem dX5_flash_52 : decode cX5_flash 52 = .ok (.iconst 0, 1) := by decide +kernel
theorem dX5_flash_53 : decode cX5_flash 53 = .ok (.putfield 231, 3) := by decide +kernel
theorem dX5_flash_56 : decode cX5_flash 56 = .ok (.aload_n 3, 1) := by decide +kernel
theorem dX5_flash_57 : decode cX5_flash 57 = .ok (.iconst 0, 1) := by decide +kernel
theorem dX5_flash_58 : decode cX5_flash 58 = .ok (.putfield 234, 3) := by decide +kernel
theorem dX5_flash_61 : decode cX5_flash 61 = .ok (.aload 5, 2) := by decide +kernel
theorem dX5_flash_63 : decode cX5_flash 63 = .ok (.ifnonnull 7, 3) := by decide +kernel
theorem dX5_flash_66 : decode cX5_flash 66 = .ok (.iconst (-1), 1) := by decide +kernel
theorem dX5_flash_67 : decode cX5_flash 67 = .ok (.goto 8, 3) := by decide +kernel
theorem dX5_flash_70 : decode cX5_flash 70 = .ok (.aload 5, 2) := by decide +kernel
theorem dX5_flash_72 : decode cX5_flash 72 = .ok (.getfield 237, 3) := by decide +kernel
theorem dX5_flash_75 : decode cX5_flash 75 = .ok (.ireturn, 1) := by decide +kernel
theorem dX5_imageOf_0 : decode cX5_imageOf 0 = .ok (.aload_n 0, 1) := by decide +kernel
theorem dX5_imageOf_1 : decode cX5_imageOf 1 = .ok (.iload_n 1, 1) := by decide +kernel
theorem dX5_imageOf_2 : decode cX5_imageOf 2 = .ok (.invokevirtual 149, 3) := by decide +kernel
theorem dX5_imageOf_5 : decode cX5_imageOf 5 = .ok (.getfield 227, 3) := by decide +kernel
theorem dX5_imageOf_8 : decode cX5_imageOf 8 = .ok (.astore_n 2, 1) := by decide +kernel
theorem dX5_imageOf_9 : decode cX5_imageOf 9 = .ok (.aload_n 2, 1) := by decide +kernel
theorem dX5_imageOf_10 : decode cX5_imageOf 10 = .ok (.ifnonnull 7, 3) := by decide +kernel
theorem dX5_imageOf_13 : decode cX5_imageOf 13 = .ok (.iconst (-1), 1) := by decide +kernel
theorem dX5_imageOf_14 : decode cX5_imageOf 14 = .ok (.goto 7, 3) := by decide +kernel
theorem dX5_imageOf_17 : decode cX5_imageOf 17 = .ok (.aload_n 2, 1) := by decide +kernel
theorem dX5_imageOf_18 : decode cX5_imageOf 18 = .ok (.getfield 237, 3) := by decide +kernel
theorem dX5_imageOf_21 : decode cX5_imageOf 21 = .ok (.ireturn, 1) := by decide +kernel
theorem dX5_images_0 : decode cX5_images 0 = .ok (.aload_n 0, 1) := by decide +kernel
theorem dX5_images_1 : decode cX5_images 1 = .ok (.getfield 25, 3) := by decide +kernel
theorem dX5_images_4 : decode cX5_images 4 = .ok (.invokevirtual 88, 3) := by decide +kernel
theorem dX5_images_7 : decode cX5_images 7 = .ok (.ireturn, 1) := by decide +kernel
theorem dX5_isFit_0 : decode cX5_isFit 0 = .ok (.aload_n 0, 1) := by decide +kernel
theorem dX5_isFit_1 : decode cX5_isFit 1 = .ok (.aload_n 0, 1) := by decide +kernel
theorem dX5_isFit_2 : decode cX5_isFit 2 = .ok (.iload_n 1, 1) := by decide +kernel
theorem dX5_isFit_3 : decode cX5_isFit 3 = .ok (.invokevirtual 149, 3) := by decide +kernel
theorem dX5_isFit_6 : decode cX5_isFit 6 = .ok (.invokevirtual 242, 3) := by decide +kernel
theorem dX5_isFit_9 : decode cX5_isFit 9 = .ok (.ireturn, 1) := by decide +kernel
theorem dX5_isTested_0 : decode cX5_isTested 0 = .ok (.aload_n 0, 1) := by decide +kernel
theorem dX5_isTested_1 : decode cX5_isTested 1 = .ok (.iload_n 1, 1) := by decide +kernel
theorem dX5_isTested_2 : decode cX5_isTested 2 = .ok (.invokevirtual 149, 3) := by decide +kernel
theorem dX5_isTested_5 : decode cX5_isTested 5 = .ok (.getfield 231, 3) := by decide +kernel
theorem dX5_isTested_8 : decode cX5_isTested 8 = .ok (.ireturn, 1) := by decide +kernel
theorem dX5_failed_0 : decode cX5_failed 0 = .ok (.aload_n 0, 1) := by decide +kernel
theorem dX5_failed_1 : decode cX5_failed 1 = .ok (.getfield 246, 3) := by decide +kernel
theorem dX5_failed_4 : decode cX5_failed 4 = .ok (.ireturn, 1) := by decide +kernel
theorem dX5_atLarge_0 : decode cX5_atLarge 0 = .ok (.iconst 0, 1) := by decide +kernel
theorem dX5_atLarge_1 : decode cX5_atLarge 1 = .ok (.istore_n 1, 1) := by decide +kernel
theorem dX5_atLarge_2 : decode cX5_atLarge 2 = .ok (.iconst 0, 1) := by decide +kernel
theorem dX5_atLarge_3 : decode cX5_atLarge 3 = .ok (.istore_n 2, 1) := by decide +kernel
theorem dX5_atLarge_4 : decode cX5_atLarge 4 = .ok (.iload_n 2, 1) := by decide +kernel
theorem dX5_atLarge_5 : decode cX5_atLarge 5 = .ok (.aload_n 0, 1) := by decide +kernel
theorem dX5_atLarge_6 : decode cX5_atLarge 6 = .ok (.getfield 22, 3) := by decide +kernel
theorem dX5_atLarge_9 : decode cX5_atLarge 9 = .ok (.invokevirtual 88, 3) := by decide +kernel
theorem dX5_atLarge_12 : decode cX5_atLarge 12 = .ok (.if_icmp .ge 39, 3) := by decide +kernel
theorem dX5_atLarge_15 : decode cX5_atLarge 15 = .ok (.aload_n 0, 1) := by decide +kernel
theorem dX5_atLarge_16 : decode cX5_atLarge 16 = .ok (.getfield 22, 3) := by decide +kernel
theorem dX5_atLarge_19 : decode cX5_atLarge 19 = .ok (.iload_n 2, 1) := by decide +kernel
theorem dX5_atLarge_20 : decode cX5_atLarge 20 = .ok (.invokevirtual 185, 3) := by decide +kernel
theorem dX5_atLarge_23 : decode cX5_atLarge 23 = .ok (.checkcast 34, 3) := by decide +kernel
theorem dX5_atLarge_26 : decode cX5_atLarge 26 = .ok (.astore_n 3, 1) := by decide +kernel
theorem dX5_atLarge_27 : decode cX5_atLarge 27 = .ok (.aload_n 3, 1) := by decide +kernel
theorem dX5_atLarge_28 : decode cX5_atLarge 28 = .ok (.getfield 153, 3) := by decide +kernel
theorem dX5_atLarge_31 : decode cX5_atLarge 31 = .ok (.iconst 3, 1) := by decide +kernel
theorem dX5_atLarge_32 : decode cX5_atLarge 32 = .ok (.if_icmp .ne 13, 3) := by decide +kernel
theorem dX5_atLarge_35 : decode cX5_atLarge 35 = .ok (.aload_n 3, 1) := by decide +kernel
theorem dX5_atLarge_36 : decode cX5_atLarge 36 = .ok (.invokevirtual 249, 3) := by decide +kernel
theorem dX5_atLarge_39 : decode cX5_atLarge 39 = .ok (.ifCond .eq 6, 3) := by decide +kernel
theorem dX5_atLarge_42 : decode cX5_atLarge 42 = .ok (.iinc 1 1, 3) := by decide +kernel
theorem dX5_atLarge_45 : decode cX5_atLarge 45 = .ok (.iinc 2 1, 3) := by decide +kernel
theorem dX5_atLarge_48 : decode cX5_atLarge 48 = .ok (.goto (-44), 3) := by decide +kernel
theorem dX5_atLarge_51 : decode cX5_atLarge 51 = .ok (.iload_n 1, 1) := by decide +kernel
theorem dX5_atLarge_52 : decode cX5_atLarge 52 = .ok (.ireturn, 1) := by decide +kernel
theorem dX5_isFittingStation_0 : decode cX5_isFittingStation 0 = .ok (.iload_n 0, 1) := by decide +kernel
theorem dX5_isFittingStation_1 : decode cX5_isFittingStation 1 = .ok (.ifCond .lt 12, 3) := by decide +kernel
theorem dX5_isFittingStation_4 : decode cX5_isFittingStation 4 = .ok (.iload_n 0, 1) := by decide +kernel
theorem dX5_isFittingStation_5 : decode cX5_isFittingStation 5 = .ok (.iconst 5, 1) := by decide +kernel
theorem dX5_isFittingStation_6 : decode cX5_isFittingStation 6 = .ok (.if_icmp .ge 7, 3) := by decide +kernel
theorem dX5_isFittingStation_9 : decode cX5_isFittingStation 9 = .ok (.iconst 1, 1) := by decide +kernel
theorem dX5_isFittingStation_10 : decode cX5_isFittingStation 10 = .ok (.goto 4, 3) := by decide +kernel
theorem dX5_isFittingStation_13 : decode cX5_isFittingStation 13 = .ok (.iconst 0, 1) := by decide +kernel
theorem dX5_isFittingStation_14 : decode cX5_isFittingStation 14 = .ok (.ireturn, 1) := by decide +kernel
theorem dX5_isStation_0 : decode cX5_isStation 0 = .ok (.iload_n 0, 1) := by decide +kernel
theorem dX5_isStation_1 : decode cX5_isStation 1 = .ok (.ifCond .lt 13, 3) := by decide +kernel
theorem dX5_isStation_4 : decode cX5_isStation 4 = .ok (.iload_n 0, 1) := by decide +kernel
theorem dX5_isStation_5 : decode cX5_isStation 5 = .ok (.bipush 8, 2) := by decide +kernel
theorem dX5_isStation_7 : decode cX5_isStation 7 = .ok (.if_icmp .ge 7, 3) := by decide +kernel
theorem dX5_isStation_10 : decode cX5_isStation 10 = .ok (.iconst 1, 1) := by decide +kernel
theorem dX5_isStation_11 : decode cX5_isStation 11 = .ok (.goto 4, 3) := by decide +kernel
theorem dX5_isStation_14 : decode cX5_isStation 14 = .ok (.iconst 0, 1) := by decide +kernel
theorem dX5_isStation_15 : decode cX5_isStation 15 = .ok (.ireturn, 1) := by decide +kernel
theorem dX5_isOptionSet_0 : decode cX5_isOptionSet 0 = .ok (.iload_n 0, 1) := by decide +kernel
theorem dX5_isOptionSet_1 : decode cX5_isOptionSet 1 = .ok (.ifCond .lt 14, 3) := by decide +kernel
theorem dX5_isOptionSet_4 : decode cX5_isOptionSet 4 = .ok (.iload_n 0, 1) := by decide +kernel
theorem dX5_isOptionSet_5 : decode cX5_isOptionSet 5 = .ok (.sipush 255, 3) := by decide +kernel
theorem dX5_isOptionSet_8 : decode cX5_isOptionSet 8 = .ok (.if_icmp .gt 7, 3) := by decide +kernel
theorem dX5_isOptionSet_11 : decode cX5_isOptionSet 11 = .ok (.iconst 1, 1) := by decide +kernel
theorem dX5_isOptionSet_12 : decode cX5_isOptionSet 12 = .ok (.goto 4, 3) := by decide +kernel
theorem dX5_isOptionSet_15 : decode cX5_isOptionSet 15 = .ok (.iconst 0, 1) := by decide +kernel
theorem dX5_isOptionSet_16 : decode cX5_isOptionSet 16 = .ok (.ireturn, 1) := by decide +kernel
theorem dX5_checkKind_0 : decode cX5_checkKind 0 = .ok (.iload_n 0, 1) := by decide +kernel
theorem dX5_checkKind_1 : decode cX5_checkKind 1 = .ok (.ifCond .lt 9, 3) := by decide +kernel
theorem dX5_checkKind_4 : decode cX5_checkKind 4 = .ok (.iload_n 0, 1) := by decide +kernel
theorem dX5_checkKind_5 : decode cX5_checkKind 5 = .ok (.bipush 10, 2) := by decide +kernel
theorem dX5_checkKind_7 : decode cX5_checkKind 7 = .ok (.if_icmp .lt 13, 3) := by decide +kernel
theorem dX5_checkKind_10 : decode cX5_checkKind 10 = .ok (.new 252, 3) := by decide +kernel
theorem dX5_checkKind_13 : decode cX5_checkKind 13 = .ok (.dup, 1) := by decide +kernel
theorem dX5_checkKind_14 : decode cX5_checkKind 14 = .ok (.ldc 254, 2) := by decide +kernel
theorem dX5_checkKind_16 : decode cX5_checkKind 16 = .ok (.invokespecial 256, 3) := by decide +kernel
theorem dX5_checkKind_19 : decode cX5_checkKind 19 = .ok (.athrow, 1) := by decide +kernel
theorem dX5_checkKind_20 : decode cX5_checkKind 20 = .ok (.return_, 1) := by decide +kernel
theorem dX5_checkCar_0 : decode cX5_checkCar 0 = .ok (.iload_n 1, 1) := by decide +kernel
theorem dX5_checkCar_1 : decode cX5_checkCar 1 = .ok (.ifCond .lt 14, 3) := by decide +kernel
theorem dX5_checkCar_4 : decode cX5_checkCar 4 = .ok (.iload_n 1, 1) := by decide +kernel
theorem dX5_checkCar_5 : decode cX5_checkCar 5 = .ok (.aload_n 0, 1) := by decide +kernel
theorem dX5_checkCar_6 : decode cX5_checkCar 6 = .ok (.getfield 22, 3) := by decide +kernel
theorem dX5_checkCar_9 : decode cX5_checkCar 9 = .ok (.invokevirtual 88, 3) := by decide +kernel
theorem dX5_checkCar_12 : decode cX5_checkCar 12 = .ok (.if_icmp .lt 14, 3) := by decide +kernel
theorem dX5_checkCar_15 : decode cX5_checkCar 15 = .ok (.new 252, 3) := by decide +kernel
theorem dX5_checkCar_18 : decode cX5_checkCar 18 = .ok (.dup, 1) := by decide +kernel
theorem dX5_checkCar_19 : decode cX5_checkCar 19 = .ok (.ldc_w 257, 3) := by decide +kernel
theorem dX5_checkCar_22 : decode cX5_checkCar 22 = .ok (.invokespecial 256, 3) := by decide +kernel
theorem dX5_checkCar_25 : decode cX5_checkCar 25 = .ok (.athrow, 1) := by decide +kernel
theorem dX5_checkCar_26 : decode cX5_checkCar 26 = .ok (.return_, 1) := by decide +kernel
theorem dX5_existingKind_0 : decode cX5_existingKind 0 = .ok (.iload_n 1, 1) := by decide +kernel
theorem dX5_existingKind_1 : decode cX5_existingKind 1 = .ok (.invokestatic 82, 3) := by decide +kernel
theorem dX5_existingKind_4 : decode cX5_existingKind 4 = .ok (.aload_n 0, 1) := by decide +kernel
theorem dX5_existingKind_5 : decode cX5_existingKind 5 = .ok (.getfield 11, 3) := by decide +kernel
theorem dX5_existingKind_8 : decode cX5_existingKind 8 = .ok (.iload_n 1, 1) := by decide +kernel
theorem dX5_existingKind_9 : decode cX5_existingKind 9 = .ok (.aaload, 1) := by decide +kernel
theorem dX5_existingKind_10 : decode cX5_existingKind 10 = .ok (.areturn, 1) := by decide +kernel
theorem dX5_existingLot_0 : decode cX5_existingLot 0 = .ok (.iload_n 1, 1) := by decide +kernel
theorem dX5_existingLot_1 : decode cX5_existingLot 1 = .ok (.ifCond .lt 14, 3) := by decide +kernel
theorem dX5_existingLot_4 : decode cX5_existingLot 4 = .ok (.iload_n 1, 1) := by decide +kernel
theorem dX5_existingLot_5 : decode cX5_existingLot 5 = .ok (.aload_n 0, 1) := by decide +kernel
theorem dX5_existingLot_6 : decode cX5_existingLot 6 = .ok (.getfield 18, 3) := by decide +kernel
theorem dX5_existingLot_9 : decode cX5_existingLot 9 = .ok (.invokevirtual 88, 3) := by decide +kernel
theorem dX5_existingLot_12 : decode cX5_existingLot 12 = .ok (.if_icmp .lt 14, 3) := by decide +kernel
theorem dX5_existingLot_15 : decode cX5_existingLot 15 = .ok (.new 252, 3) := by decide +kernel
theorem dX5_existingLot_18 : decode cX5_existingLot 18 = .ok (.dup, 1) := by decide +kernel
theorem dX5_existingLot_19 : decode cX5_existingLot 19 = .ok (.ldc_w 259, 3) := by decide +kernel
theorem dX5_existingLot_22 : decode cX5_existingLot 22 = .ok (.invokespecial 256, 3) := by decide +kernel
theorem dX5_existingLot_25 : decode cX5_existingLot 25 = .ok (.athrow, 1) := by decide +kernel
theorem dX5_existingLot_26 : decode cX5_existingLot 26 = .ok (.aload_n 0, 1) := by decide +kernel
theorem dX5_existingLot_27 : decode cX5_existingLot 27 = .ok (.getfield 18, 3) := by decide +kernel
theorem dX5_existingLot_30 : decode cX5_existingLot 30 = .ok (.iload_n 1, 1) := by decide +kernel
theorem dX5_existingLot_31 : decode cX5_existingLot 31 = .ok (.invokevirtual 185, 3) := by decide +kernel
theorem dX5_existingLot_34 : decode cX5_existingLot 34 = .ok (.checkcast 94, 3) := by decide +kernel
theorem dX5_existingLot_37 : decode cX5_existingLot 37 = .ok (.areturn, 1) := by decide +kernel
theorem dX5_existingCar_0 : decode cX5_existingCar 0 = .ok (.aload_n 0, 1) := by decide +kernel
theorem dX5_existingCar_1 : decode cX5_existingCar 1 = .ok (.iload_n 1, 1) := by decide +kernel
theorem dX5_existingCar_2 : decode cX5_existingCar 2 = .ok (.invokevirtual 182, 3) := by decide +kernel
theorem dX5_existingCar_5 : decode cX5_existingCar 5 = .ok (.aload_n 0, 1) := by decide +kernel
theorem dX5_existingCar_6 : decode cX5_existingCar 6 = .ok (.getfield 22, 3) := by decide +kernel
theorem dX5_existingCar_9 : decode cX5_existingCar 9 = .ok (.iload_n 1, 1) := by decide +kernel
theorem dX5_existingCar_10 : decode cX5_existingCar 10 = .ok (.invokevirtual 185, 3) := by decide +kernel
theorem dX5_existingCar_13 : decode cX5_existingCar 13 = .ok (.checkcast 34, 3) := by decide +kernel
theorem dX5_existingCar_16 : decode cX5_existingCar 16 = .ok (.areturn, 1) := by decide +kernel
theorem dX5_existingImage_0 : decode cX5_existingImage 0 = .ok (.iload_n 1, 1) := by decide +kernel
theorem dX5_existingImage_1 : decode cX5_existingImage 1 = .ok (.ifCond .lt 14, 3) := by decide +kernel
theorem dX5_existingImage_4 : decode cX5_existingImage 4 = .ok (.iload_n 1, 1) := by decide +kernel
theorem dX5_existingImage_5 : decode cX5_existingImage 5 = .ok (.aload_n 0, 1) := by decide +kernel
theorem dX5_existingImage_6 : decode cX5_existingImage 6 = .ok (.getfield 25, 3) := by decide +kernel
theorem dX5_existingImage_9 : decode cX5_existingImage 9 = .ok (.invokevirtual 88, 3) := by decide +kernel
theorem dX5_existingImage_12 : decode cX5_existingImage 12 = .ok (.if_icmp .lt 14, 3) := by decide +kernel
theorem dX5_existingImage_15 : decode cX5_existingImage 15 = .ok (.new 252, 3) := by decide +kernel
theorem dX5_existingImage_18 : decode cX5_existingImage 18 = .ok (.dup, 1) := by decide +kernel
theorem dX5_existingImage_19 : decode cX5_existingImage 19 = .ok (.ldc_w 261, 3) := by decide +kernel
theorem dX5_existingImage_22 : decode cX5_existingImage 22 = .ok (.invokespecial 256, 3) := by decide +kernel
theorem dX5_existingImage_25 : decode cX5_existingImage 25 = .ok (.athrow, 1) := by decide +kernel
theorem dX5_existingImage_26 : decode cX5_existingImage 26 = .ok (.aload_n 0, 1) := by decide +kernel
theorem dX5_existingImage_27 : decode cX5_existingImage 27 = .ok (.getfield 25, 3) := by decide +kernel
theorem dX5_existingImage_30 : decode cX5_existingImage 30 = .ok (.iload_n 1, 1) := by decide +kernel
theorem dX5_existingImage_31 : decode cX5_existingImage 31 = .ok (.invokevirtual 185, 3) := by decide +kernel
theorem dX5_existingImage_34 : decode cX5_existingImage 34 = .ok (.checkcast 203, 3) := by decide +kernel
theorem dX5_existingImage_37 : decode cX5_existingImage 37 = .ok (.areturn, 1) := by decide +kernel
theorem dX5_neededKinds_0 : decode cX5_neededKinds 0 = .ok (.iconst 0, 1) := by decide +kernel
theorem dX5_neededKinds_1 : decode cX5_neededKinds 1 = .ok (.istore_n 2, 1) := by decide +kernel
theorem dX5_neededKinds_2 : decode cX5_neededKinds 2 = .ok (.iconst 0, 1) := by decide +kernel
theorem dX5_neededKinds_3 : decode cX5_neededKinds 3 = .ok (.istore_n 3, 1) := by decide +kernel
theorem dX5_neededKinds_4 : decode cX5_neededKinds 4 = .ok (.iload_n 3, 1) := by decide +kernel
theorem dX5_neededKinds_5 : decode cX5_neededKinds 5 = .ok (.bipush 10, 2) := by decide +kernel
theorem dX5_neededKinds_7 : decode cX5_neededKinds 7 = .ok (.if_icmp .ge 31, 3) := by decide +kernel
theorem dX5_neededKinds_10 : decode cX5_neededKinds 10 = .ok (.aload_n 0, 1) := by decide +kernel
theorem dX5_neededKinds_11 : decode cX5_neededKinds 11 = .ok (.getfield 11, 3) := by decide +kernel
theorem dX5_neededKinds_14 : decode cX5_neededKinds 14 = .ok (.iload_n 3, 1) := by decide +kernel
theorem dX5_neededKinds_15 : decode cX5_neededKinds 15 = .ok (.aaload, 1) := by decide +kernel
theorem dX5_neededKinds_16 : decode cX5_neededKinds 16 = .ok (.aload_n 1, 1) := by decide +kernel
theorem dX5_neededKinds_17 : decode cX5_neededKinds 17 = .ok (.getfield 263, 3) := by decide +kernel
theorem dX5_neededKinds_20 : decode cX5_neededKinds 20 = .ok (.invokevirtual 266, 3) := by decide +kernel
theorem dX5_neededKinds_23 : decode cX5_neededKinds 23 = .ok (.ifCond .eq 9, 3) := by decide +kernel
theorem dX5_neededKinds_26 : decode cX5_neededKinds 26 = .ok (.iload_n 2, 1) := by decide +kernel
theorem dX5_neededKinds_27 : decode cX5_neededKinds 27 = .ok (.iconst 1, 1) := by decide +kernel
theorem dX5_neededKinds_28 : decode cX5_neededKinds 28 = .ok (.iload_n 3, 1) := by decide +kernel
theorem dX5_neededKinds_29 : decode cX5_neededKinds 29 = .ok (.ishl, 1) := by decide +kernel
theorem dX5_neededKinds_30 : decode cX5_neededKinds 30 = .ok (.ior, 1) := by decide +kernel
theorem dX5_neededKinds_31 : decode cX5_neededKinds 31 = .ok (.istore_n 2, 1) := by decide +kernel
theorem dX5_neededKinds_32 : decode cX5_neededKinds 32 = .ok (.iinc 3 1, 3) := by decide +kernel
theorem dX5_neededKinds_35 : decode cX5_neededKinds 35 = .ok (.goto (-31), 3) := by decide +kernel
theorem dX5_neededKinds_38 : decode cX5_neededKinds 38 = .ok (.iload_n 2, 1) := by decide +kernel
theorem dX5_neededKinds_39 : decode cX5_neededKinds 39 = .ok (.ireturn, 1) := by decide +kernel
theorem dX5_isLacking_0 : decode cX5_isLacking 0 = .ok (.aload_n 0, 1) := by decide +kernel
theorem dX5_isLacking_1 : decode cX5_isLacking 1 = .ok (.getfield 11, 3) := by decide +kernel
theorem dX5_isLacking_4 : decode cX5_isLacking 4 = .ok (.iload_n 2, 1) := by decide +kernel
theorem dX5_isLacking_5 : decode cX5_isLacking 5 = .ok (.aaload, 1) := by decide +kernel
theorem dX5_isLacking_6 : decode cX5_isLacking 6 = .ok (.aload_n 1, 1) := by decide +kernel
theorem dX5_isLacking_7 : decode cX5_isLacking 7 = .ok (.getfield 263, 3) := by decide +kernel
theorem dX5_isLacking_10 : decode cX5_isLacking 10 = .ok (.invokevirtual 266, 3) := by decide +kernel
theorem dX5_isLacking_13 : decode cX5_isLacking 13 = .ok (.ifCond .eq 15, 3) := by decide +kernel
theorem dX5_isLacking_16 : decode cX5_isLacking 16 = .ok (.aload_n 1, 1) := by decide +kernel
theorem dX5_isLacking_17 : decode cX5_isLacking 17 = .ok (.iload_n 2, 1) := by decide +kernel
theorem dX5_isLacking_18 : decode cX5_isLacking 18 = .ok (.invokevirtual 269, 3) := by decide +kernel
theorem dX5_isLacking_21 : decode cX5_isLacking 21 = .ok (.ifCond .ne 7, 3) := by decide +kernel
theorem dX5_isLacking_24 : decode cX5_isLacking 24 = .ok (.iconst 1, 1) := by decide +kernel
theorem dX5_isLacking_25 : decode cX5_isLacking 25 = .ok (.goto 4, 3) := by decide +kernel
theorem dX5_isLacking_28 : decode cX5_isLacking 28 = .ok (.iconst 0, 1) := by decide +kernel
theorem dX5_isLacking_29 : decode cX5_isLacking 29 = .ok (.ireturn, 1) := by decide +kernel
theorem dX5_lackingKinds_0 : decode cX5_lackingKinds 0 = .ok (.iconst 0, 1) := by decide +kernel
theorem dX5_lackingKinds_1 : decode cX5_lackingKinds 1 = .ok (.istore_n 2, 1) := by decide +kernel
theorem dX5_lackingKinds_2 : decode cX5_lackingKinds 2 = .ok (.iconst 0, 1) := by decide +kernel
theorem dX5_lackingKinds_3 : decode cX5_lackingKinds 3 = .ok (.istore_n 3, 1) := by decide +kernel
theorem dX5_lackingKinds_4 : decode cX5_lackingKinds 4 = .ok (.iload_n 3, 1) := by decide +kernel
theorem dX5_lackingKinds_5 : decode cX5_lackingKinds 5 = .ok (.bipush 10, 2) := by decide +kernel
theorem dX5_lackingKinds_7 : decode cX5_lackingKinds 7 = .ok (.if_icmp .ge 24, 3) := by decide +kernel
theorem dX5_lackingKinds_10 : decode cX5_lackingKinds 10 = .ok (.aload_n 0, 1) := by decide +kernel
theorem dX5_lackingKinds_11 : decode cX5_lackingKinds 11 = .ok (.aload_n 1, 1) := by decide +kernel
theorem dX5_lackingKinds_12 : decode cX5_lackingKinds 12 = .ok (.iload_n 3, 1) := by decide +kernel
theorem dX5_lackingKinds_13 : decode cX5_lackingKinds 13 = .ok (.invokevirtual 272, 3) := by decide +kernel
theorem dX5_lackingKinds_16 : decode cX5_lackingKinds 16 = .ok (.ifCond .eq 9, 3) := by decide +kernel
theorem dX5_lackingKinds_19 : decode cX5_lackingKinds 19 = .ok (.iload_n 2, 1) := by decide +kernel
theorem dX5_lackingKinds_20 : decode cX5_lackingKinds 20 = .ok (.iconst 1, 1) := by decide +kernel
theorem dX5_lackingKinds_21 : decode cX5_lackingKinds 21 = .ok (.iload_n 3, 1) := by decide +kernel
theorem dX5_lackingKinds_22 : decode cX5_lackingKinds 22 = .ok (.ishl, 1) := by decide +kernel
theorem dX5_lackingKinds_23 : decode cX5_lackingKinds 23 = .ok (.ior, 1) := by decide +kernel
theorem dX5_lackingKinds_24 : decode cX5_lackingKinds 24 = .ok (.istore_n 2, 1) := by decide +kernel
theorem dX5_lackingKinds_25 : decode cX5_lackingKinds 25 = .ok (.iinc 3 1, 3) := by decide +kernel
theorem dX5_lackingKinds_28 : decode cX5_lackingKinds 28 = .ok (.goto (-24), 3) := by decide +kernel
theorem dX5_lackingKinds_31 : decode cX5_lackingKinds 31 = .ok (.iload_n 2, 1) := by decide +kernel
theorem dX5_lackingKinds_32 : decode cX5_lackingKinds 32 = .ok (.ireturn, 1) := by decide +kernel
theorem dX5_lowestLackingStation_0 : decode cX5_lowestLackingStation 0 = .ok (.bipush 8, 2) := by decide +kernel
theorem dX5_lowestLackingStation_2 : decode cX5_lowestLackingStation 2 = .ok (.istore_n 2, 1) := by decide +kernel
theorem dX5_lowestLackingStation_3 : decode cX5_lowestLackingStation 3 = .ok (.iconst 0, 1) := by decide +kernel
theorem dX5_lowestLackingStation_4 : decode cX5_lowestLackingStation 4 = .ok (.istore_n 3, 1) := by decide +kernel
theorem dX5_lowestLackingStation_5 : decode cX5_lowestLackingStation 5 = .ok (.iload_n 3, 1) := by decide +kernel
theorem dX5_lowestLackingStation_6 : decode cX5_lowestLackingStation 6 = .ok (.bipush 10, 2) := by decide +kernel
theorem dX5_lowestLackingStation_8 : decode cX5_lowestLackingStation 8 = .ok (.if_icmp .ge 32, 3) := by decide +kernel
theorem dX5_lowestLackingStation_11 : decode cX5_lowestLackingStation 11 = .ok (.aload_n 0, 1) := by decide +kernel
theorem dX5_lowestLackingStation_12 : decode cX5_lowestLackingStation 12 = .ok (.aload_n 1, 1) := by decide +kernel
theorem dX5_lowestLackingStation_13 : decode cX5_lowestLackingStation 13 = .ok (.iload_n 3, 1) := by decide +kernel
theorem dX5_lowestLackingStation_14 : decode cX5_lowestLackingStation 14 = .ok (.invokevirtual 272, 3) := by decide +kernel
theorem dX5_lowestLackingStation_17 : decode cX5_lowestLackingStation 17 = .ok (.ifCond .eq 17, 3) := by decide +kernel
theorem dX5_lowestLackingStation_20 : decode cX5_lowestLackingStation 20 = .ok (.iload_n 2, 1) := by decide +kernel
theorem dX5_lowestLackingStation_21 : decode cX5_lowestLackingStation 21 = .ok (.aload_n 0, 1) := by decide +kernel
theorem dX5_lowestLackingStation_22 : decode cX5_lowestLackingStation 22 = .ok (.getfield 11, 3) := by decide +kernel
theorem dX5_lowestLackingStation_25 : decode cX5_lowestLackingStation 25 = .ok (.iload_n 3, 1) := by decide +kernel
theorem dX5_lowestLackingStation_26 : decode cX5_lowestLackingStation 26 = .ok (.aaload, 1) := by decide +kernel
theorem dX5_lowestLackingStation_27 : decode cX5_lowestLackingStation 27 = .ok (.getfield 68, 3) := by decide +kernel
theorem dX5_lowestLackingStation_30 : decode cX5_lowestLackingStation 30 = .ok (.invokestatic 276, 3) := by decide +kernel
theorem dX5_lowestLackingStation_33 : decode cX5_lowestLackingStation 33 = .ok (.istore_n 2, 1) := by decide +kernel
theorem dX5_lowestLackingStation_34 : decode cX5_lowestLackingStation 34 = .ok (.iinc 3 1, 3) := by decide +kernel
theorem dX5_lowestLackingStation_37 : decode cX5_lowestLackingStation 37 = .ok (.goto (-32), 3) := by decide +kernel
theorem dX5_lowestLackingStation_40 : decode cX5_lowestLackingStation 40 = .ok (.iload_n 2, 1) := by decide +kernel
theorem dX5_lowestLackingStation_41 : decode cX5_lowestLackingStation 41 = .ok (.ireturn, 1) := by decide +kernel
theorem dX5_isLackingAt_0 : decode cX5_isLackingAt 0 = .ok (.iconst 0, 1) := by decide +kernel
theorem dX5_isLackingAt_1 : decode cX5_isLackingAt 1 = .ok (.istore_n 3, 1) := by decide +kernel
theorem dX5_isLackingAt_2 : decode cX5_isLackingAt 2 = .ok (.iload_n 3, 1) := by decide +kernel
theorem dX5_isLackingAt_3 : decode cX5_isLackingAt 3 = .ok (.bipush 10, 2) := by decide +kernel
theorem dX5_isLackingAt_5 : decode cX5_isLackingAt 5 = .ok (.if_icmp .ge 33, 3) := by decide +kernel
theorem dX5_isLackingAt_8 : decode cX5_isLackingAt 8 = .ok (.aload_n 0, 1) := by decide +kernel
theorem dX5_isLackingAt_9 : decode cX5_isLackingAt 9 = .ok (.getfield 11, 3) := by decide +kernel
theorem dX5_isLackingAt_12 : decode cX5_isLackingAt 12 = .ok (.iload_n 3, 1) := by decide +kernel
theorem dX5_isLackingAt_13 : decode cX5_isLackingAt 13 = .ok (.aaload, 1) := by decide +kernel
theorem dX5_isLackingAt_14 : decode cX5_isLackingAt 14 = .ok (.getfield 68, 3) := by decide +kernel
theorem dX5_isLackingAt_17 : decode cX5_isLackingAt 17 = .ok (.iload_n 2, 1) := by decide +kernel
theorem dX5_isLackingAt_18 : decode cX5_isLackingAt 18 = .ok (.if_icmp .ne 14, 3) := by decide +kernel
theorem dX5_isLackingAt_21 : decode cX5_isLackingAt 21 = .ok (.aload_n 0, 1) := by decide +kernel
theorem dX5_isLackingAt_22 : decode cX5_isLackingAt 22 = .ok (.aload_n 1, 1) := by decide +kernel
theorem dX5_isLackingAt_23 : decode cX5_isLackingAt 23 = .ok (.iload_n 3, 1) := by decide +kernel
theorem dX5_isLackingAt_24 : decode cX5_isLackingAt 24 = .ok (.invokevirtual 272, 3) := by decide +kernel
theorem dX5_isLackingAt_27 : decode cX5_isLackingAt 27 = .ok (.ifCond .eq 5, 3) := by decide +kernel
theorem dX5_isLackingAt_30 : decode cX5_isLackingAt 30 = .ok (.iconst 1, 1) := by decide +kernel
theorem dX5_isLackingAt_31 : decode cX5_isLackingAt 31 = .ok (.ireturn, 1) := by decide +kernel
theorem dX5_isLackingAt_32 : decode cX5_isLackingAt 32 = .ok (.iinc 3 1, 3) := by decide +kernel
theorem dX5_isLackingAt_35 : decode cX5_isLackingAt 35 = .ok (.goto (-33), 3) := by decide +kernel
theorem dX5_isLackingAt_38 : decode cX5_isLackingAt 38 = .ok (.iconst 0, 1) := by decide +kernel
theorem dX5_isLackingAt_39 : decode cX5_isLackingAt 39 = .ok (.ireturn, 1) := by decide +kernel
theorem dX5_isLackingSoftware_0 : decode cX5_isLackingSoftware 0 = .ok (.iconst 0, 1) := by decide +kernel
theorem dX5_isLackingSoftware_1 : decode cX5_isLackingSoftware 1 = .ok (.istore_n 2, 1) := by decide +kernel
theorem dX5_isLackingSoftware_2 : decode cX5_isLackingSoftware 2 = .ok (.iload_n 2, 1) := by decide +kernel
theorem dX5_isLackingSoftware_3 : decode cX5_isLackingSoftware 3 = .ok (.bipush 10, 2) := by decide +kernel
theorem dX5_isLackingSoftware_5 : decode cX5_isLackingSoftware 5 = .ok (.if_icmp .ge 32, 3) := by decide +kernel
theorem dX5_isLackingSoftware_8 : decode cX5_isLackingSoftware 8 = .ok (.aload_n 0, 1) := by decide +kernel
theorem dX5_isLackingSoftware_9 : decode cX5_isLackingSoftware 9 = .ok (.getfield 11, 3) := by decide +kernel
theorem dX5_isLackingSoftware_12 : decode cX5_isLackingSoftware 12 = .ok (.iload_n 2, 1) := by decide +kernel
theorem dX5_isLackingSoftware_13 : decode cX5_isLackingSoftware 13 = .ok (.aaload, 1) := by decide +kernel
theorem dX5_isLackingSoftware_14 : decode cX5_isLackingSoftware 14 = .ok (.getfield 78, 3) := by decide +kernel
theorem dX5_isLackingSoftware_17 : decode cX5_isLackingSoftware 17 = .ok (.ifCond .eq 14, 3) := by decide +kernel
theorem dX5_isLackingSoftware_20 : decode cX5_isLackingSoftware 20 = .ok (.aload_n 0, 1) := by decide +kernel
theorem dX5_isLackingSoftware_21 : decode cX5_isLackingSoftware 21 = .ok (.aload_n 1, 1) := by decide +kernel
theorem dX5_isLackingSoftware_22 : decode cX5_isLackingSoftware 22 = .ok (.iload_n 2, 1) := by decide +kernel
theorem dX5_isLackingSoftware_23 : decode cX5_isLackingSoftware 23 = .ok (.invokevirtual 272, 3) := by decide +kernel
theorem dX5_isLackingSoftware_26 : decode cX5_isLackingSoftware 26 = .ok (.ifCond .eq 5, 3) := by decide +kernel
theorem dX5_isLackingSoftware_29 : decode cX5_isLackingSoftware 29 = .ok (.iconst 1, 1) := by decide +kernel
theorem dX5_isLackingSoftware_30 : decode cX5_isLackingSoftware 30 = .ok (.ireturn, 1) := by decide +kernel
theorem dX5_isLackingSoftware_31 : decode cX5_isLackingSoftware 31 = .ok (.iinc 2 1, 3) := by decide +kernel
theorem dX5_isLackingSoftware_34 : decode cX5_isLackingSoftware 34 = .ok (.goto (-32), 3) := by decide +kernel
theorem dX5_isLackingSoftware_37 : decode cX5_isLackingSoftware 37 = .ok (.iconst 0, 1) := by decide +kernel
theorem dX5_isLackingSoftware_38 : decode cX5_isLackingSoftware 38 = .ok (.ireturn, 1) := by decide +kernel
theorem dX5_fits_0 : decode cX5_fits 0 = .ok (.aload_n 1, 1) := by decide +kernel
theorem dX5_fits_1 : decode cX5_fits 1 = .ok (.getfield 227, 3) := by decide +kernel
theorem dX5_fits_4 : decode cX5_fits 4 = .ok (.astore_n 2, 1) := by decide +kernel
theorem dX5_fits_5 : decode cX5_fits 5 = .ok (.aload_n 2, 1) := by decide +kernel
theorem dX5_fits_6 : decode cX5_fits 6 = .ok (.ifnull 35, 3) := by decide +kernel
theorem dX5_fits_9 : decode cX5_fits 9 = .ok (.aload_n 2, 1) := by decide +kernel
theorem dX5_fits_10 : decode cX5_fits 10 = .ok (.aload_n 1, 1) := by decide +kernel
theorem dX5_fits_11 : decode cX5_fits 11 = .ok (.getfield 167, 3) := by decide +kernel
theorem dX5_fits_14 : decode cX5_fits 14 = .ok (.invokevirtual 219, 3) := by decide +kernel
theorem dX5_fits_17 : decode cX5_fits 17 = .ok (.ifCond .eq 24, 3) := by decide +kernel
theorem dX5_fits_20 : decode cX5_fits 20 = .ok (.aload_n 0, 1) := by decide +kernel
theorem dX5_fits_21 : decode cX5_fits 21 = .ok (.aload_n 2, 1) := by decide +kernel
theorem dX5_fits_22 : decode cX5_fits 22 = .ok (.aload_n 1, 1) := by decide +kernel
theorem dX5_fits_23 : decode cX5_fits 23 = .ok (.invokevirtual 205, 3) := by decide +kernel
theorem dX5_fits_26 : decode cX5_fits 26 = .ok (.ifCond .eq 15, 3) := by decide +kernel
theorem dX5_fits_29 : decode cX5_fits 29 = .ok (.aload_n 0, 1) := by decide +kernel
theorem dX5_fits_30 : decode cX5_fits 30 = .ok (.aload_n 1, 1) := by decide +kernel
theorem dX5_fits_31 : decode cX5_fits 31 = .ok (.invokevirtual 282, 3) := by decide +kernel
theorem dX5_fits_34 : decode cX5_fits 34 = .ok (.ifCond .ne 7, 3) := by decide +kernel
theorem dX5_fits_37 : decode cX5_fits 37 = .ok (.iconst 1, 1) := by decide +kernel
theorem dX5_fits_38 : decode cX5_fits 38 = .ok (.goto 4, 3) := by decide +kernel
theorem dX5_fits_41 : decode cX5_fits 41 = .ok (.iconst 0, 1) := by decide +kernel
theorem dX5_fits_42 : decode cX5_fits 42 = .ok (.ireturn, 1) := by decide +kernel
theorem dX5_carsWithUnitOf_0 : decode cX5_carsWithUnitOf 0 = .ok (.iconst 0, 1) := by decide +kernel
theorem dX5_carsWithUnitOf_1 : decode cX5_carsWithUnitOf 1 = .ok (.istore_n 2, 1) := by decide +kernel
theorem dX5_carsWithUnitOf_2 : decode cX5_carsWithUnitOf 2 = .ok (.iconst 0, 1) := by decide +kernel
theorem dX5_carsWithUnitOf_3 : decode cX5_carsWithUnitOf 3 = .ok (.istore_n 3, 1) := by decide +kernel
theorem dX5_carsWithUnitOf_4 : decode cX5_carsWithUnitOf 4 = .ok (.iload_n 3, 1) := by decide +kernel
theorem dX5_carsWithUnitOf_5 : decode cX5_carsWithUnitOf 5 = .ok (.aload_n 0, 1) := by decide +kernel
theorem dX5_carsWithUnitOf_6 : decode cX5_carsWithUnitOf 6 = .ok (.getfield 22, 3) := by decide +kernel
theorem dX5_carsWithUnitOf_9 : decode cX5_carsWithUnitOf 9 = .ok (.invokevirtual 88, 3) := by decide +kernel
theorem dX5_carsWithUnitOf_12 : decode cX5_carsWithUnitOf 12 = .ok (.if_icmp .ge 35, 3) := by decide +kernel
theorem dX5_carsWithUnitOf_15 : decode cX5_carsWithUnitOf 15 = .ok (.aload_n 0, 1) := by decide +kernel
theorem dX5_carsWithUnitOf_16 : decode cX5_carsWithUnitOf 16 = .ok (.getfield 22, 3) := by decide +kernel
theorem dX5_carsWithUnitOf_19 : decode cX5_carsWithUnitOf 19 = .ok (.iload_n 3, 1) := by decide +kernel
theorem dX5_carsWithUnitOf_20 : decode cX5_carsWithUnitOf 20 = .ok (.invokevirtual 185, 3) := by decide +kernel
theorem dX5_carsWithUnitOf_23 : decode cX5_carsWithUnitOf 23 = .ok (.checkcast 34, 3) := by decide +kernel
theorem dX5_carsWithUnitOf_26 : decode cX5_carsWithUnitOf 26 = .ok (.getfield 177, 3) := by decide +kernel
theorem dX5_carsWithUnitOf_29 : decode cX5_carsWithUnitOf 29 = .ok (.aload_n 1, 1) := by decide +kernel
theorem dX5_carsWithUnitOf_30 : decode cX5_carsWithUnitOf 30 = .ok (.getfield 285, 3) := by decide +kernel
theorem dX5_carsWithUnitOf_33 : decode cX5_carsWithUnitOf 33 = .ok (.aaload, 1) := by decide +kernel
theorem dX5_carsWithUnitOf_34 : decode cX5_carsWithUnitOf 34 = .ok (.aload_n 1, 1) := by decide +kernel
theorem dX5_carsWithUnitOf_35 : decode cX5_carsWithUnitOf 35 = .ok (.if_acmp .ne 6, 3) := by decide +kernel
theorem dX5_carsWithUnitOf_38 : decode cX5_carsWithUnitOf 38 = .ok (.iinc 2 1, 3) := by decide +kernel
theorem dX5_carsWithUnitOf_41 : decode cX5_carsWithUnitOf 41 = .ok (.iinc 3 1, 3) := by decide +kernel
theorem dX5_carsWithUnitOf_44 : decode cX5_carsWithUnitOf 44 = .ok (.goto (-40), 3) := by decide +kernel
theorem dX5_carsWithUnitOf_47 : decode cX5_carsWithUnitOf 47 = .ok (.iload_n 2, 1) := by decide +kernel
theorem dX5_carsWithUnitOf_48 : decode cX5_carsWithUnitOf 48 = .ok (.ireturn, 1) := by decide +kernel
theorem dX5_softwareVersion_0 : decode cX5_softwareVersion 0 = .ok (.aload_n 1, 1) := by decide +kernel
theorem dX5_softwareVersion_1 : decode cX5_softwareVersion 1 = .ok (.getfield 177, 3) := by decide +kernel
theorem dX5_softwareVersion_4 : decode cX5_softwareVersion 4 = .ok (.iload_n 2, 1) := by decide +kernel
theorem dX5_softwareVersion_5 : decode cX5_softwareVersion 5 = .ok (.aaload, 1) := by decide +kernel
theorem dX5_softwareVersion_6 : decode cX5_softwareVersion 6 = .ok (.astore_n 3, 1) := by decide +kernel
theorem dX5_softwareVersion_7 : decode cX5_softwareVersion 7 = .ok (.aload_n 3, 1) := by decide +kernel
theorem dX5_softwareVersion_8 : decode cX5_softwareVersion 8 = .ok (.ifnull 15, 3) := by decide +kernel
theorem dX5_softwareVersion_11 : decode cX5_softwareVersion 11 = .ok (.aload_n 0, 1) := by decide +kernel
theorem dX5_softwareVersion_12 : decode cX5_softwareVersion 12 = .ok (.getfield 11, 3) := by decide +kernel
theorem dX5_softwareVersion_15 : decode cX5_softwareVersion 15 = .ok (.iload_n 2, 1) := by decide +kernel
theorem dX5_softwareVersion_16 : decode cX5_softwareVersion 16 = .ok (.aaload, 1) := by decide +kernel
theorem dX5_softwareVersion_17 : decode cX5_softwareVersion 17 = .ok (.getfield 78, 3) := by decide +kernel
theorem dX5_softwareVersion_20 : decode cX5_softwareVersion 20 = .ok (.ifCond .ne 7, 3) := by decide +kernel
theorem dX5_softwareVersion_23 : decode cX5_softwareVersion 23 = .ok (.iconst 0, 1) := by decide +kernel
theorem dX5_softwareVersion_24 : decode cX5_softwareVersion 24 = .ok (.goto 7, 3) := by decide +kernel
theorem dX5_softwareVersion_27 : decode cX5_softwareVersion 27 = .ok (.aload_n 3, 1) := by decide +kernel
theorem dX5_softwareVersion_28 : decode cX5_softwareVersion 28 = .ok (.getfield 286, 3) := by decide +kernel
theorem dX5_softwareVersion_31 : decode cX5_softwareVersion 31 = .ok (.ireturn, 1) := by decide +kernel
theorem dX5_isBuiltFor_0 : decode cX5_isBuiltFor 0 = .ok (.iconst 0, 1) := by decide +kernel
theorem dX5_isBuiltFor_1 : decode cX5_isBuiltFor 1 = .ok (.istore_n 3, 1) := by decide +kernel
theorem dX5_isBuiltFor_2 : decode cX5_isBuiltFor 2 = .ok (.iload_n 3, 1) := by decide +kernel
theorem dX5_isBuiltFor_3 : decode cX5_isBuiltFor 3 = .ok (.bipush 10, 2) := by decide +kernel
theorem dX5_isBuiltFor_5 : decode cX5_isBuiltFor 5 = .ok (.if_icmp .ge 26, 3) := by decide +kernel
theorem dX5_isBuiltFor_8 : decode cX5_isBuiltFor 8 = .ok (.aload_n 1, 1) := by decide +kernel
theorem dX5_isBuiltFor_9 : decode cX5_isBuiltFor 9 = .ok (.getfield 238, 3) := by decide +kernel
theorem dX5_isBuiltFor_12 : decode cX5_isBuiltFor 12 = .ok (.iload_n 3, 1) := by decide +kernel
theorem dX5_isBuiltFor_13 : decode cX5_isBuiltFor 13 = .ok (.iaload, 1) := by decide +kernel
theorem dX5_isBuiltFor_14 : decode cX5_isBuiltFor 14 = .ok (.aload_n 0, 1) := by decide +kernel
theorem dX5_isBuiltFor_15 : decode cX5_isBuiltFor 15 = .ok (.aload_n 2, 1) := by decide +kernel
theorem dX5_isBuiltFor_16 : decode cX5_isBuiltFor 16 = .ok (.iload_n 3, 1) := by decide +kernel
theorem dX5_isBuiltFor_17 : decode cX5_isBuiltFor 17 = .ok (.invokevirtual 289, 3) := by decide +kernel
theorem dX5_isBuiltFor_20 : decode cX5_isBuiltFor 20 = .ok (.if_icmp .eq 5, 3) := by decide +kernel
theorem dX5_isBuiltFor_23 : decode cX5_isBuiltFor 23 = .ok (.iconst 0, 1) := by decide +kernel
theorem dX5_isBuiltFor_24 : decode cX5_isBuiltFor 24 = .ok (.ireturn, 1) := by decide +kernel
theorem dX5_isBuiltFor_25 : decode cX5_isBuiltFor 25 = .ok (.iinc 3 1, 3) := by decide +kernel
theorem dX5_isBuiltFor_28 : decode cX5_isBuiltFor 28 = .ok (.goto (-26), 3) := by decide +kernel
theorem dX5_isBuiltFor_31 : decode cX5_isBuiltFor 31 = .ok (.iconst 1, 1) := by decide +kernel
theorem dX5_isBuiltFor_32 : decode cX5_isBuiltFor 32 = .ok (.ireturn, 1) := by decide +kernel
theorem dX5_imageFor_0 : decode cX5_imageFor 0 = .ok (.new 203, 3) := by decide +kernel
theorem dX5_imageFor_3 : decode cX5_imageFor 3 = .ok (.dup, 1) := by decide +kernel
theorem dX5_imageFor_4 : decode cX5_imageFor 4 = .ok (.iload_n 2, 1) := by decide +kernel
theorem dX5_imageFor_5 : decode cX5_imageFor 5 = .ok (.invokespecial 293, 3) := by decide +kernel
theorem dX5_imageFor_8 : decode cX5_imageFor 8 = .ok (.astore_n 3, 1) := by decide +kernel
theorem dX5_imageFor_9 : decode cX5_imageFor 9 = .ok (.iconst 0, 1) := by decide +kernel
theorem dX5_imageFor_10 : decode cX5_imageFor 10 = .ok (.istore 4, 2) := by decide +kernel
theorem dX5_imageFor_12 : decode cX5_imageFor 12 = .ok (.iload 4, 2) := by decide +kernel
theorem dX5_imageFor_14 : decode cX5_imageFor 14 = .ok (.bipush 10, 2) := by decide +kernel
theorem dX5_imageFor_16 : decode cX5_imageFor 16 = .ok (.if_icmp .ge 23, 3) := by decide +kernel
theorem dX5_imageFor_19 : decode cX5_imageFor 19 = .ok (.aload_n 3, 1) := by decide +kernel
theorem dX5_imageFor_20 : decode cX5_imageFor 20 = .ok (.getfield 238, 3) := by decide +kernel
theorem dX5_imageFor_23 : decode cX5_imageFor 23 = .ok (.iload 4, 2) := by decide +kernel
theorem dX5_imageFor_25 : decode cX5_imageFor 25 = .ok (.aload_n 0, 1) := by decide +kernel
theorem dX5_imageFor_26 : decode cX5_imageFor 26 = .ok (.aload_n 1, 1) := by decide +kernel
theorem dX5_imageFor_27 : decode cX5_imageFor 27 = .ok (.iload 4, 2) := by decide +kernel
theorem dX5_imageFor_29 : decode cX5_imageFor 29 = .ok (.invokevirtual 289, 3) := by decide +kernel
theorem dX5_imageFor_32 : decode cX5_imageFor 32 = .ok (.iastore, 1) := by decide +kernel
theorem dX5_imageFor_33 : decode cX5_imageFor 33 = .ok (.iinc 4 1, 3) := by decide +kernel
theorem dX5_imageFor_36 : decode cX5_imageFor 36 = .ok (.goto (-24), 3) := by decide +kernel
theorem dX5_imageFor_39 : decode cX5_imageFor 39 = .ok (.aload_n 3, 1) := by decide +kernel
theorem dX5_imageFor_40 : decode cX5_imageFor 40 = .ok (.areturn, 1) := by decide +kernel
theorem dX5_sendBackToLane_0 : decode cX5_sendBackToLane 0 = .ok (.bipush 7, 2) := by decide +kernel
theorem dX5_sendBackToLane_2 : decode cX5_sendBackToLane 2 = .ok (.istore_n 1, 1) := by decide +kernel
theorem dX5_sendBackToLane_3 : decode cX5_sendBackToLane 3 = .ok (.iload_n 1, 1) := by decide +kernel
theorem dX5_sendBackToLane_4 : decode cX5_sendBackToLane 4 = .ok (.ifCond .lt 25, 3) := by decide +kernel
theorem dX5_sendBackToLane_7 : decode cX5_sendBackToLane 7 = .ok (.aload_n 0, 1) := by decide +kernel
theorem dX5_sendBackToLane_8 : decode cX5_sendBackToLane 8 = .ok (.getfield 36, 3) := by decide +kernel
theorem dX5_sendBackToLane_11 : decode cX5_sendBackToLane 11 = .ok (.iload_n 1, 1) := by decide +kernel
theorem dX5_sendBackToLane_12 : decode cX5_sendBackToLane 12 = .ok (.aaload, 1) := by decide +kernel
theorem dX5_sendBackToLane_13 : decode cX5_sendBackToLane 13 = .ok (.astore_n 2, 1) := by decide +kernel
theorem dX5_sendBackToLane_14 : decode cX5_sendBackToLane 14 = .ok (.aload_n 2, 1) := by decide +kernel
theorem dX5_sendBackToLane_15 : decode cX5_sendBackToLane 15 = .ok (.ifnull 8, 3) := by decide +kernel
theorem dX5_sendBackToLane_18 : decode cX5_sendBackToLane 18 = .ok (.aload_n 0, 1) := by decide +kernel
theorem dX5_sendBackToLane_19 : decode cX5_sendBackToLane 19 = .ok (.aload_n 2, 1) := by decide +kernel
theorem dX5_sendBackToLane_20 : decode cX5_sendBackToLane 20 = .ok (.invokevirtual 295, 3) := by decide +kernel
theorem dX5_sendBackToLane_23 : decode cX5_sendBackToLane 23 = .ok (.iinc 1 (-1), 3) := by decide +kernel
theorem dX5_sendBackToLane_26 : decode cX5_sendBackToLane 26 = .ok (.goto (-23), 3) := by decide +kernel
theorem dX5_sendBackToLane_29 : decode cX5_sendBackToLane 29 = .ok (.return_, 1) := by decide +kernel
theorem dX5_sendBack_0 : decode cX5_sendBack 0 = .ok (.aload_n 0, 1) := by decide +kernel
theorem dX5_sendBack_1 : decode cX5_sendBack 1 = .ok (.aload_n 1, 1) := by decide +kernel
theorem dX5_sendBack_2 : decode cX5_sendBack 2 = .ok (.invokevirtual 299, 3) := by decide +kernel
theorem dX5_sendBack_5 : decode cX5_sendBack 5 = .ok (.istore_n 2, 1) := by decide +kernel
theorem dX5_sendBack_6 : decode cX5_sendBack 6 = .ok (.iload_n 2, 1) := by decide +kernel
theorem dX5_sendBack_7 : decode cX5_sendBack 7 = .ok (.aload_n 1, 1) := by decide +kernel
theorem dX5_sendBack_8 : decode cX5_sendBack 8 = .ok (.getfield 161, 3) := by decide +kernel
theorem dX5_sendBack_11 : decode cX5_sendBack 11 = .ok (.if_icmp .ge 12, 3) := by decide +kernel
theorem dX5_sendBack_14 : decode cX5_sendBack 14 = .ok (.aload_n 0, 1) := by decide +kernel
theorem dX5_sendBack_15 : decode cX5_sendBack 15 = .ok (.aload_n 1, 1) := by decide +kernel
theorem dX5_sendBack_16 : decode cX5_sendBack 16 = .ok (.iload_n 2, 1) := by decide +kernel
theorem dX5_sendBack_17 : decode cX5_sendBack 17 = .ok (.invokevirtual 302, 3) := by decide +kernel
theorem dX5_sendBack_20 : decode cX5_sendBack 20 = .ok (.goto 21, 3) := by decide +kernel
theorem dX5_sendBack_23 : decode cX5_sendBack 23 = .ok (.aload_n 1, 1) := by decide +kernel
theorem dX5_sendBack_24 : decode cX5_sendBack 24 = .ok (.invokestatic 306, 3) := by decide +kernel
theorem dX5_sendBack_27 : decode cX5_sendBack 27 = .ok (.ifCond .eq 14, 3) := by decide +kernel
theorem dX5_sendBack_30 : decode cX5_sendBack 30 = .ok (.aload_n 0, 1) := by decide +kernel
theorem dX5_sendBack_31 : decode cX5_sendBack 31 = .ok (.aload_n 1, 1) := by decide +kernel
theorem dX5_sendBack_32 : decode cX5_sendBack 32 = .ok (.iconst 5, 1) := by decide +kernel
theorem dX5_sendBack_33 : decode cX5_sendBack 33 = .ok (.invokevirtual 302, 3) := by decide +kernel
theorem dX5_sendBack_36 : decode cX5_sendBack 36 = .ok (.aload_n 1, 1) := by decide +kernel
theorem dX5_sendBack_37 : decode cX5_sendBack 37 = .ok (.iconst 0, 1) := by decide +kernel
theorem dX5_sendBack_38 : decode cX5_sendBack 38 = .ok (.putfield 234, 3) := by decide +kernel
theorem dX5_sendBack_41 : decode cX5_sendBack 41 = .ok (.return_, 1) := by decide +kernel
theorem dX5_mustBeFlashedAgain_0 : decode cX5_mustBeFlashedAgain 0 = .ok (.aload_n 0, 1) := by decide +kernel
theorem dX5_mustBeFlashedAgain_1 : decode cX5_mustBeFlashedAgain 1 = .ok (.getfield 161, 3) := by decide +kernel
theorem dX5_mustBeFlashedAgain_4 : decode cX5_mustBeFlashedAgain 4 = .ok (.bipush 6, 2) := by decide +kernel
theorem dX5_mustBeFlashedAgain_6 : decode cX5_mustBeFlashedAgain 6 = .ok (.if_icmp .ne 10, 3) := by decide +kernel
theorem dX5_mustBeFlashedAgain_9 : decode cX5_mustBeFlashedAgain 9 = .ok (.aload_n 0, 1) := by decide +kernel
theorem dX5_mustBeFlashedAgain_10 : decode cX5_mustBeFlashedAgain 10 = .ok (.getfield 234, 3) := by decide +kernel
theorem dX5_mustBeFlashedAgain_13 : decode cX5_mustBeFlashedAgain 13 = .ok (.ifCond .ne 19, 3) := by decide +kernel
theorem dX5_mustBeFlashedAgain_16 : decode cX5_mustBeFlashedAgain 16 = .ok (.aload_n 0, 1) := by decide +kernel
theorem dX5_mustBeFlashedAgain_17 : decode cX5_mustBeFlashedAgain 17 = .ok (.getfield 161, 3) := by decide +kernel
theorem dX5_mustBeFlashedAgain_20 : decode cX5_mustBeFlashedAgain 20 = .ok (.bipush 7, 2) := by decide +kernel
theorem dX5_mustBeFlashedAgain_22 : decode cX5_mustBeFlashedAgain 22 = .ok (.if_icmp .ne 14, 3) := by decide +kernel
theorem dX5_mustBeFlashedAgain_25 : decode cX5_mustBeFlashedAgain 25 = .ok (.aload_n 0, 1) := by decide +kernel
theorem dX5_mustBeFlashedAgain_26 : decode cX5_mustBeFlashedAgain 26 = .ok (.getfield 231, 3) := by decide +kernel
theorem dX5_mustBeFlashedAgain_29 : decode cX5_mustBeFlashedAgain 29 = .ok (.ifCond .ne 7, 3) := by decide +kernel
theorem dX5_mustBeFlashedAgain_32 : decode cX5_mustBeFlashedAgain 32 = .ok (.iconst 1, 1) := by decide +kernel
theorem dX5_mustBeFlashedAgain_33 : decode cX5_mustBeFlashedAgain 33 = .ok (.goto 4, 3) := by decide +kernel
theorem dX5_mustBeFlashedAgain_36 : decode cX5_mustBeFlashedAgain 36 = .ok (.iconst 0, 1) := by decide +kernel
theorem dX5_mustBeFlashedAgain_37 : decode cX5_mustBeFlashedAgain 37 = .ok (.ireturn, 1) := by decide +kernel
theorem dX5_enterLane_0 : decode cX5_enterLane 0 = .ok (.aload_n 0, 1) := by decide +kernel
theorem dX5_enterLane_1 : decode cX5_enterLane 1 = .ok (.aload_n 1, 1) := by decide +kernel
theorem dX5_enterLane_2 : decode cX5_enterLane 2 = .ok (.invokevirtual 309, 3) := by decide +kernel
theorem dX5_enterLane_5 : decode cX5_enterLane 5 = .ok (.aload_n 1, 1) := by decide +kernel
theorem dX5_enterLane_6 : decode cX5_enterLane 6 = .ok (.iconst 2, 1) := by decide +kernel
theorem dX5_enterLane_7 : decode cX5_enterLane 7 = .ok (.putfield 153, 3) := by decide +kernel
theorem dX5_enterLane_10 : decode cX5_enterLane 10 = .ok (.aload_n 1, 1) := by decide +kernel
theorem dX5_enterLane_11 : decode cX5_enterLane 11 = .ok (.iload_n 2, 1) := by decide +kernel
theorem dX5_enterLane_12 : decode cX5_enterLane 12 = .ok (.putfield 161, 3) := by decide +kernel
theorem dX5_enterLane_15 : decode cX5_enterLane 15 = .ok (.aload_n 0, 1) := by decide +kernel
theorem dX5_enterLane_16 : decode cX5_enterLane 16 = .ok (.getfield 28, 3) := by decide +kernel
theorem dX5_enterLane_19 : decode cX5_enterLane 19 = .ok (.aload_n 1, 1) := by decide +kernel
theorem dX5_enterLane_20 : decode cX5_enterLane 20 = .ok (.invokevirtual 99, 3) := by decide +kernel
theorem dX5_enterLane_23 : decode cX5_enterLane 23 = .ok (.pop, 1) := by decide +kernel
theorem dX5_enterLane_24 : decode cX5_enterLane 24 = .ok (.return_, 1) := by decide +kernel
theorem dX5_leaveLine_0 : decode cX5_leaveLine 0 = .ok (.aload_n 0, 1) := by decide +kernel
theorem dX5_leaveLine_1 : decode cX5_leaveLine 1 = .ok (.getfield 36, 3) := by decide +kernel
theorem dX5_leaveLine_4 : decode cX5_leaveLine 4 = .ok (.bipush 7, 2) := by decide +kernel
theorem dX5_leaveLine_6 : decode cX5_leaveLine 6 = .ok (.aaload, 1) := by decide +kernel
theorem dX5_leaveLine_7 : decode cX5_leaveLine 7 = .ok (.astore_n 1, 1) := by decide +kernel
theorem dX5_leaveLine_8 : decode cX5_leaveLine 8 = .ok (.aload_n 1, 1) := by decide +kernel
theorem dX5_leaveLine_9 : decode cX5_leaveLine 9 = .ok (.ifnull 26, 3) := by decide +kernel
theorem dX5_leaveLine_12 : decode cX5_leaveLine 12 = .ok (.aload_n 0, 1) := by decide +kernel
theorem dX5_leaveLine_13 : decode cX5_leaveLine 13 = .ok (.aload_n 1, 1) := by decide +kernel
theorem dX5_leaveLine_14 : decode cX5_leaveLine 14 = .ok (.invokevirtual 174, 3) := by decide +kernel
theorem dX5_leaveLine_17 : decode cX5_leaveLine 17 = .ok (.ifCond .ne 18, 3) := by decide +kernel
theorem dX5_leaveLine_20 : decode cX5_leaveLine 20 = .ok (.aload_n 1, 1) := by decide +kernel
theorem dX5_leaveLine_21 : decode cX5_leaveLine 21 = .ok (.getfield 231, 3) := by decide +kernel
theorem dX5_leaveLine_24 : decode cX5_leaveLine 24 = .ok (.ifCond .eq 11, 3) := by decide +kernel
theorem dX5_leaveLine_27 : decode cX5_leaveLine 27 = .ok (.aload_n 0, 1) := by decide +kernel
theorem dX5_leaveLine_28 : decode cX5_leaveLine 28 = .ok (.aload_n 1, 1) := by decide +kernel
theorem dX5_leaveLine_29 : decode cX5_leaveLine 29 = .ok (.invokevirtual 242, 3) := by decide +kernel
theorem dX5_leaveLine_32 : decode cX5_leaveLine 32 = .ok (.ifCond .ne 5, 3) := by decide +kernel
theorem dX5_leaveLine_35 : decode cX5_leaveLine 35 = .ok (.iconst 0, 1) := by decide +kernel
theorem dX5_leaveLine_36 : decode cX5_leaveLine 36 = .ok (.ireturn, 1) := by decide +kernel
theorem dX5_leaveLine_37 : decode cX5_leaveLine 37 = .ok (.aload_n 0, 1) := by decide +kernel
theorem dX5_leaveLine_38 : decode cX5_leaveLine 38 = .ok (.aload_n 1, 1) := by decide +kernel
theorem dX5_leaveLine_39 : decode cX5_leaveLine 39 = .ok (.invokevirtual 309, 3) := by decide +kernel
theorem dX5_leaveLine_42 : decode cX5_leaveLine 42 = .ok (.aload_n 1, 1) := by decide +kernel
theorem dX5_leaveLine_43 : decode cX5_leaveLine 43 = .ok (.iconst 3, 1) := by decide +kernel
theorem dX5_leaveLine_44 : decode cX5_leaveLine 44 = .ok (.putfield 153, 3) := by decide +kernel
theorem dX5_leaveLine_47 : decode cX5_leaveLine 47 = .ok (.aload_n 1, 1) := by decide +kernel
theorem dX5_leaveLine_48 : decode cX5_leaveLine 48 = .ok (.iconst (-1), 1) := by decide +kernel
theorem dX5_leaveLine_49 : decode cX5_leaveLine 49 = .ok (.putfield 161, 3) := by decide +kernel
theorem dX5_leaveLine_52 : decode cX5_leaveLine 52 = .ok (.iconst 1, 1) := by decide +kernel
theorem dX5_leaveLine_53 : decode cX5_leaveLine 53 = .ok (.ireturn, 1) := by decide +kernel
theorem dX5_moveOn_0 : decode cX5_moveOn 0 = .ok (.bipush 6, 2) := by decide +kernel
theorem dX5_moveOn_2 : decode cX5_moveOn 2 = .ok (.istore_n 1, 1) := by decide +kernel
theorem dX5_moveOn_3 : decode cX5_moveOn 3 = .ok (.iload_n 1, 1) := by decide +kernel
theorem dX5_moveOn_4 : decode cX5_moveOn 4 = .ok (.ifCond .lt 47, 3) := by decide +kernel
theorem dX5_moveOn_7 : decode cX5_moveOn 7 = .ok (.aload_n 0, 1) := by decide +kernel
theorem dX5_moveOn_8 : decode cX5_moveOn 8 = .ok (.getfield 36, 3) := by decide +kernel
theorem dX5_moveOn_11 : decode cX5_moveOn 11 = .ok (.iload_n 1, 1) := by decide +kernel
theorem dX5_moveOn_12 : decode cX5_moveOn 12 = .ok (.aaload, 1) := by decide +kernel
theorem dX5_moveOn_13 : decode cX5_moveOn 13 = .ok (.astore_n 2, 1) := by decide +kernel
theorem dX5_moveOn_14 : decode cX5_moveOn 14 = .ok (.aload_n 2, 1) := by decide +kernel
theorem dX5_moveOn_15 : decode cX5_moveOn 15 = .ok (.ifnull 30, 3) := by decide +kernel
theorem dX5_moveOn_18 : decode cX5_moveOn 18 = .ok (.aload_n 0, 1) := by decide +kernel
theorem dX5_moveOn_19 : decode cX5_moveOn 19 = .ok (.getfield 36, 3) := by decide +kernel
theorem dX5_moveOn_22 : decode cX5_moveOn 22 = .ok (.iload_n 1, 1) := by decide +kernel
theorem dX5_moveOn_23 : decode cX5_moveOn 23 = .ok (.iconst 1, 1) := by decide +kernel
theorem dX5_moveOn_24 : decode cX5_moveOn 24 = .ok (.iadd, 1) := by decide +kernel
theorem dX5_moveOn_25 : decode cX5_moveOn 25 = .ok (.aaload, 1) := by decide +kernel
theorem dX5_moveOn_26 : decode cX5_moveOn 26 = .ok (.ifnonnull 19, 3) := by decide +kernel
theorem dX5_moveOn_29 : decode cX5_moveOn 29 = .ok (.aload_n 0, 1) := by decide +kernel
theorem dX5_moveOn_30 : decode cX5_moveOn 30 = .ok (.aload_n 2, 1) := by decide +kernel
theorem dX5_moveOn_31 : decode cX5_moveOn 31 = .ok (.invokevirtual 312, 3) := by decide +kernel
theorem dX5_moveOn_34 : decode cX5_moveOn 34 = .ok (.ifCond .eq 11, 3) := by decide +kernel
theorem dX5_moveOn_37 : decode cX5_moveOn 37 = .ok (.aload_n 0, 1) := by decide +kernel
theorem dX5_moveOn_38 : decode cX5_moveOn 38 = .ok (.aload_n 2, 1) := by decide +kernel
theorem dX5_moveOn_39 : decode cX5_moveOn 39 = .ok (.iload_n 1, 1) := by decide +kernel
theorem dX5_moveOn_40 : decode cX5_moveOn 40 = .ok (.iconst 1, 1) := by decide +kernel
theorem dX5_moveOn_41 : decode cX5_moveOn 41 = .ok (.iadd, 1) := by decide +kernel
theorem dX5_moveOn_42 : decode cX5_moveOn 42 = .ok (.invokevirtual 315, 3) := by decide +kernel
theorem dX5_moveOn_45 : decode cX5_moveOn 45 = .ok (.iinc 1 (-1), 3) := by decide +kernel
theorem dX5_moveOn_48 : decode cX5_moveOn 48 = .ok (.goto (-45), 3) := by decide +kernel
theorem dX5_moveOn_51 : decode cX5_moveOn 51 = .ok (.return_, 1) := by decide +kernel
theorem dX5_isDone_0 : decode cX5_isDone 0 = .ok (.aload_n 1, 1) := by decide +kernel
theorem dX5_isDone_1 : decode cX5_isDone 1 = .ok (.getfield 161, 3) := by decide +kernel
theorem dX5_isDone_4 : decode cX5_isDone 4 = .ok (.bipush 6, 2) := by decide +kernel
theorem dX5_isDone_6 : decode cX5_isDone 6 = .ok (.if_icmp .ne 8, 3) := by decide +kernel
theorem dX5_isDone_9 : decode cX5_isDone 9 = .ok (.aload_n 1, 1) := by decide +kernel
theorem dX5_isDone_10 : decode cX5_isDone 10 = .ok (.getfield 231, 3) := by decide +kernel
theorem dX5_isDone_13 : decode cX5_isDone 13 = .ok (.ireturn, 1) := by decide +kernel
theorem dX5_isDone_14 : decode cX5_isDone 14 = .ok (.aload_n 1, 1) := by decide +kernel
theorem dX5_isDone_15 : decode cX5_isDone 15 = .ok (.getfield 161, 3) := by decide +kernel
theorem dX5_isDone_18 : decode cX5_isDone 18 = .ok (.iconst 5, 1) := by decide +kernel
theorem dX5_isDone_19 : decode cX5_isDone 19 = .ok (.if_icmp .ne 16, 3) := by decide +kernel
theorem dX5_isDone_22 : decode cX5_isDone 22 = .ok (.aload_n 1, 1) := by decide +kernel
theorem dX5_isDone_23 : decode cX5_isDone 23 = .ok (.getfield 227, 3) := by decide +kernel
theorem dX5_isDone_26 : decode cX5_isDone 26 = .ok (.ifnull 7, 3) := by decide +kernel
theorem dX5_isDone_29 : decode cX5_isDone 29 = .ok (.iconst 1, 1) := by decide +kernel
theorem dX5_isDone_30 : decode cX5_isDone 30 = .ok (.goto 4, 3) := by decide +kernel
theorem dX5_isDone_33 : decode cX5_isDone 33 = .ok (.iconst 0, 1) := by decide +kernel
theorem dX5_isDone_34 : decode cX5_isDone 34 = .ok (.ireturn, 1) := by decide +kernel
theorem dX5_isDone_35 : decode cX5_isDone 35 = .ok (.aload_n 0, 1) := by decide +kernel
theorem dX5_isDone_36 : decode cX5_isDone 36 = .ok (.aload_n 1, 1) := by decide +kernel
theorem dX5_isDone_37 : decode cX5_isDone 37 = .ok (.aload_n 1, 1) := by decide +kernel
theorem dX5_isDone_38 : decode cX5_isDone 38 = .ok (.getfield 161, 3) := by decide +kernel
theorem dX5_isDone_41 : decode cX5_isDone 41 = .ok (.invokevirtual 318, 3) := by decide +kernel
theorem dX5_isDone_44 : decode cX5_isDone 44 = .ok (.ifCond .ne 7, 3) := by decide +kernel
theorem dX5_isDone_47 : decode cX5_isDone 47 = .ok (.iconst 1, 1) := by decide +kernel
theorem dX5_isDone_48 : decode cX5_isDone 48 = .ok (.goto 4, 3) := by decide +kernel
theorem dX5_isDone_51 : decode cX5_isDone 51 = .ok (.iconst 0, 1) := by decide +kernel
theorem dX5_isDone_52 : decode cX5_isDone 52 = .ok (.ireturn, 1) := by decide +kernel
theorem dX5_enterLine_0 : decode cX5_enterLine 0 = .ok (.aload_n 0, 1) := by decide +kernel
theorem dX5_enterLine_1 : decode cX5_enterLine 1 = .ok (.aload_n 1, 1) := by decide +kernel
theorem dX5_enterLine_2 : decode cX5_enterLine 2 = .ok (.invokevirtual 309, 3) := by decide +kernel
theorem dX5_enterLine_5 : decode cX5_enterLine 5 = .ok (.aload_n 1, 1) := by decide +kernel
theorem dX5_enterLine_6 : decode cX5_enterLine 6 = .ok (.iconst 1, 1) := by decide +kernel
theorem dX5_enterLine_7 : decode cX5_enterLine 7 = .ok (.putfield 153, 3) := by decide +kernel
theorem dX5_enterLine_10 : decode cX5_enterLine 10 = .ok (.aload_n 1, 1) := by decide +kernel
theorem dX5_enterLine_11 : decode cX5_enterLine 11 = .ok (.iload_n 2, 1) := by decide +kernel
theorem dX5_enterLine_12 : decode cX5_enterLine 12 = .ok (.putfield 161, 3) := by decide +kernel
theorem dX5_enterLine_15 : decode cX5_enterLine 15 = .ok (.aload_n 0, 1) := by decide +kernel
theorem dX5_enterLine_16 : decode cX5_enterLine 16 = .ok (.getfield 36, 3) := by decide +kernel
theorem dX5_enterLine_19 : decode cX5_enterLine 19 = .ok (.iload_n 2, 1) := by decide +kernel
theorem dX5_enterLine_20 : decode cX5_enterLine 20 = .ok (.aload_n 1, 1) := by decide +kernel
theorem dX5_enterLine_21 : decode cX5_enterLine 21 = .ok (.aastore, 1) := by decide +kernel
theorem dX5_enterLine_22 : decode cX5_enterLine 22 = .ok (.return_, 1) := by decide +kernel
theorem dX5_clearPlaceOf_0 : decode cX5_clearPlaceOf 0 = .ok (.aload_n 1, 1) := by decide +kernel
theorem dX5_clearPlaceOf_1 : decode cX5_clearPlaceOf 1 = .ok (.getfield 153, 3) := by decide +kernel
theorem dX5_clearPlaceOf_4 : decode cX5_clearPlaceOf 4 = .ok (.iconst 1, 1) := by decide +kernel
theorem dX5_clearPlaceOf_5 : decode cX5_clearPlaceOf 5 = .ok (.if_icmp .ne 23, 3) := by decide +kernel
theorem dX5_clearPlaceOf_8 : decode cX5_clearPlaceOf 8 = .ok (.aload_n 1, 1) := by decide +kernel
theorem dX5_clearPlaceOf_9 : decode cX5_clearPlaceOf 9 = .ok (.getfield 161, 3) := by decide +kernel
theorem dX5_clearPlaceOf_12 : decode cX5_clearPlaceOf 12 = .ok (.invokestatic 162, 3) := by decide +kernel
theorem dX5_clearPlaceOf_15 : decode cX5_clearPlaceOf 15 = .ok (.ifCond .eq 13, 3) := by decide +kernel
theorem dX5_clearPlaceOf_18 : decode cX5_clearPlaceOf 18 = .ok (.aload_n 0, 1) := by decide +kernel
theorem dX5_clearPlaceOf_19 : decode cX5_clearPlaceOf 19 = .ok (.getfield 36, 3) := by decide +kernel
theorem dX5_clearPlaceOf_22 : decode cX5_clearPlaceOf 22 = .ok (.aload_n 1, 1) := by decide +kernel
theorem dX5_clearPlaceOf_23 : decode cX5_clearPlaceOf 23 = .ok (.getfield 161, 3) := by decide +kernel
theorem dX5_clearPlaceOf_26 : decode cX5_clearPlaceOf 26 = .ok (.aconst_null, 1) := by decide +kernel
theorem dX5_clearPlaceOf_27 : decode cX5_clearPlaceOf 27 = .ok (.aastore, 1) := by decide +kernel
theorem dX5_clearPlaceOf_28 : decode cX5_clearPlaceOf 28 = .ok (.return_, 1) := by decide +kernel
theorem dX5_comeFromLane_0 : decode cX5_comeFromLane 0 = .ok (.aload_n 0, 1) := by decide +kernel
theorem dX5_comeFromLane_1 : decode cX5_comeFromLane 1 = .ok (.getfield 28, 3) := by decide +kernel
theorem dX5_comeFromLane_4 : decode cX5_comeFromLane 4 = .ok (.invokevirtual 88, 3) := by decide +kernel
theorem dX5_comeFromLane_7 : decode cX5_comeFromLane 7 = .ok (.istore_n 1, 1) := by decide +kernel
theorem dX5_comeFromLane_8 : decode cX5_comeFromLane 8 = .ok (.iconst 0, 1) := by decide +kernel
theorem dX5_comeFromLane_9 : decode cX5_comeFromLane 9 = .ok (.istore_n 2, 1) := by decide +kernel
theorem dX5_comeFromLane_10 : decode cX5_comeFromLane 10 = .ok (.iconst 0, 1) := by decide +kernel
theorem dX5_comeFromLane_11 : decode cX5_comeFromLane 11 = .ok (.istore_n 3, 1) := by decide +kernel
theorem dX5_comeFromLane_12 : decode cX5_comeFromLane 12 = .ok (.iload_n 3, 1) := by decide +kernel
theorem dX5_comeFromLane_13 : decode cX5_comeFromLane 13 = .ok (.iload_n 1, 1) := by decide +kernel
theorem dX5_comeFromLane_14 : decode cX5_comeFromLane 14 = .ok (.if_icmp .ge 83, 3) := by decide +kernel
theorem dX5_comeFromLane_17 : decode cX5_comeFromLane 17 = .ok (.iload_n 2, 1) := by decide +kernel
theorem dX5_comeFromLane_18 : decode cX5_comeFromLane 18 = .ok (.aload_n 0, 1) := by decide +kernel
theorem dX5_comeFromLane_19 : decode cX5_comeFromLane 19 = .ok (.getfield 28, 3) := by decide +kernel
theorem dX5_comeFromLane_22 : decode cX5_comeFromLane 22 = .ok (.invokevirtual 88, 3) := by decide +kernel
theorem dX5_comeFromLane_25 : decode cX5_comeFromLane 25 = .ok (.if_icmp .ge 72, 3) := by decide +kernel
theorem dX5_comeFromLane_28 : decode cX5_comeFromLane 28 = .ok (.aload_n 0, 1) := by decide +kernel
theorem dX5_comeFromLane_29 : decode cX5_comeFromLane 29 = .ok (.getfield 28, 3) := by decide +kernel
theorem dX5_comeFromLane_32 : decode cX5_comeFromLane 32 = .ok (.iload_n 2, 1) := by decide +kernel
theorem dX5_comeFromLane_33 : decode cX5_comeFromLane 33 = .ok (.invokevirtual 185, 3) := by decide +kernel
theorem dX5_comeFromLane_36 : decode cX5_comeFromLane 36 = .ok (.checkcast 34, 3) := by decide +kernel
theorem dX5_comeFromLane_39 : decode cX5_comeFromLane 39 = .ok (.astore 4, 2) := by decide +kernel
theorem dX5_comeFromLane_41 : decode cX5_comeFromLane 41 = .ok (.aload 4, 2) := by decide +kernel
theorem dX5_comeFromLane_43 : decode cX5_comeFromLane 43 = .ok (.getfield 161, 3) := by decide +kernel
theorem dX5_comeFromLane_46 : decode cX5_comeFromLane 46 = .ok (.invokestatic 162, 3) := by decide +kernel
theorem dX5_comeFromLane_49 : decode cX5_comeFromLane 49 = .ok (.ifCond .eq 39, 3) := by decide +kernel
theorem dX5_comeFromLane_52 : decode cX5_comeFromLane 52 = .ok (.aload_n 0, 1) := by decide +kernel
theorem dX5_comeFromLane_53 : decode cX5_comeFromLane 53 = .ok (.getfield 36, 3) := by decide +kernel
theorem dX5_comeFromLane_56 : decode cX5_comeFromLane 56 = .ok (.aload 4, 2) := by decide +kernel
theorem dX5_comeFromLane_58 : decode cX5_comeFromLane 58 = .ok (.getfield 161, 3) := by decide +kernel
theorem dX5_comeFromLane_61 : decode cX5_comeFromLane 61 = .ok (.aaload, 1) := by decide +kernel
theorem dX5_comeFromLane_62 : decode cX5_comeFromLane 62 = .ok (.ifnonnull 26, 3) := by decide +kernel
theorem dX5_comeFromLane_65 : decode cX5_comeFromLane 65 = .ok (.aload_n 0, 1) := by decide +kernel
theorem dX5_comeFromLane_66 : decode cX5_comeFromLane 66 = .ok (.getfield 28, 3) := by decide +kernel
theorem dX5_comeFromLane_69 : decode cX5_comeFromLane 69 = .ok (.iload_n 2, 1) := by decide +kernel
theorem dX5_comeFromLane_70 : decode cX5_comeFromLane 70 = .ok (.invokevirtual 321, 3) := by decide +kernel
theorem dX5_comeFromLane_73 : decode cX5_comeFromLane 73 = .ok (.pop, 1) := by decide +kernel
theorem dX5_comeFromLane_74 : decode cX5_comeFromLane 74 = .ok (.aload_n 0, 1) := by decide +kernel
theorem dX5_comeFromLane_75 : decode cX5_comeFromLane 75 = .ok (.aload 4, 2) := by decide +kernel
theorem dX5_comeFromLane_77 : decode cX5_comeFromLane 77 = .ok (.aload 4, 2) := by decide +kernel
theorem dX5_comeFromLane_79 : decode cX5_comeFromLane 79 = .ok (.getfield 161, 3) := by decide +kernel
theorem dX5_comeFromLane_82 : decode cX5_comeFromLane 82 = .ok (.invokevirtual 315, 3) := by decide +kernel
theorem dX5_comeFromLane_85 : decode cX5_comeFromLane 85 = .ok (.goto 6, 3) := by decide +kernel
theorem dX5_comeFromLane_88 : decode cX5_comeFromLane 88 = .ok (.iinc 2 1, 3) := by decide +kernel
theorem dX5_comeFromLane_91 : decode cX5_comeFromLane 91 = .ok (.iinc 3 1, 3) := by decide +kernel
theorem dX5_comeFromLane_94 : decode cX5_comeFromLane 94 = .ok (.goto (-82), 3) := by decide +kernel
theorem dX5_comeFromLane_97 : decode cX5_comeFromLane 97 = .ok (.return_, 1) := by decide +kernel
theorem dX5_comeFromOrders_0 : decode cX5_comeFromOrders 0 = .ok (.aload_n 0, 1) := by decide +kernel
theorem dX5_comeFromOrders_1 : decode cX5_comeFromOrders 1 = .ok (.getfield 36, 3) := by decide +kernel
theorem dX5_comeFromOrders_4 : decode cX5_comeFromOrders 4 = .ok (.iconst 0, 1) := by decide +kernel
theorem dX5_comeFromOrders_5 : decode cX5_comeFromOrders 5 = .ok (.aaload, 1) := by decide +kernel
theorem dX5_comeFromOrders_6 : decode cX5_comeFromOrders 6 = .ok (.ifnull 4, 3) := by decide +kernel
theorem dX5_comeFromOrders_9 : decode cX5_comeFromOrders 9 = .ok (.return_, 1) := by decide +kernel
theorem dX5_comeFromOrders_10 : decode cX5_comeFromOrders 10 = .ok (.iconst 0, 1) := by decide +kernel
theorem dX5_comeFromOrders_11 : decode cX5_comeFromOrders 11 = .ok (.istore_n 1, 1) := by decide +kernel
theorem dX5_comeFromOrders_12 : decode cX5_comeFromOrders 12 = .ok (.iload_n 1, 1) := by decide +kernel
theorem dX5_comeFromOrders_13 : decode cX5_comeFromOrders 13 = .ok (.aload_n 0, 1) := by decide +kernel
theorem dX5_comeFromOrders_14 : decode cX5_comeFromOrders 14 = .ok (.getfield 22, 3) := by decide +kernel
theorem dX5_comeFromOrders_17 : decode cX5_comeFromOrders 17 = .ok (.invokevirtual 88, 3) := by decide +kernel
theorem dX5_comeFromOrders_20 : decode cX5_comeFromOrders 20 = .ok (.if_icmp .ge 35, 3) := by decide +kernel
theorem dX5_comeFromOrders_23 : decode cX5_comeFromOrders 23 = .ok (.aload_n 0, 1) := by decide +kernel
theorem dX5_comeFromOrders_24 : decode cX5_comeFromOrders 24 = .ok (.getfield 22, 3) := by decide +kernel
theorem dX5_comeFromOrders_27 : decode cX5_comeFromOrders 27 = .ok (.iload_n 1, 1) := by decide +kernel
theorem dX5_comeFromOrders_28 : decode cX5_comeFromOrders 28 = .ok (.invokevirtual 185, 3) := by decide +kernel
theorem dX5_comeFromOrders_31 : decode cX5_comeFromOrders 31 = .ok (.checkcast 34, 3) := by decide +kernel
theorem dX5_comeFromOrders_34 : decode cX5_comeFromOrders 34 = .ok (.astore_n 2, 1) := by decide +kernel
theorem dX5_comeFromOrders_35 : decode cX5_comeFromOrders 35 = .ok (.aload_n 2, 1) := by decide +kernel
theorem dX5_comeFromOrders_36 : decode cX5_comeFromOrders 36 = .ok (.getfield 153, 3) := by decide +kernel
theorem dX5_comeFromOrders_39 : decode cX5_comeFromOrders 39 = .ok (.ifCond .ne 10, 3) := by decide +kernel
theorem dX5_comeFromOrders_42 : decode cX5_comeFromOrders 42 = .ok (.aload_n 0, 1) := by decide +kernel
theorem dX5_comeFromOrders_43 : decode cX5_comeFromOrders 43 = .ok (.aload_n 2, 1) := by decide +kernel
theorem dX5_comeFromOrders_44 : decode cX5_comeFromOrders 44 = .ok (.iconst 0, 1) := by decide +kernel
theorem dX5_comeFromOrders_45 : decode cX5_comeFromOrders 45 = .ok (.invokevirtual 315, 3) := by decide +kernel
theorem dX5_comeFromOrders_48 : decode cX5_comeFromOrders 48 = .ok (.return_, 1) := by decide +kernel
theorem dX5_comeFromOrders_49 : decode cX5_comeFromOrders 49 = .ok (.iinc 1 1, 3) := by decide +kernel
theorem dX5_comeFromOrders_52 : decode cX5_comeFromOrders 52 = .ok (.goto (-40), 3) := by decide +kernel
theorem dX5_comeFromOrders_55 : decode cX5_comeFromOrders 55 = .ok (.return_, 1) := by decide +kernel
theorem dX5_workOnLine_0 : decode cX5_workOnLine 0 = .ok (.iconst 0, 1) := by decide +kernel
theorem dX5_workOnLine_1 : decode cX5_workOnLine 1 = .ok (.istore_n 1, 1) := by decide +kernel
theorem dX5_workOnLine_2 : decode cX5_workOnLine 2 = .ok (.iload_n 1, 1) := by decide +kernel
theorem dX5_workOnLine_3 : decode cX5_workOnLine 3 = .ok (.bipush 8, 2) := by decide +kernel
theorem dX5_workOnLine_5 : decode cX5_workOnLine 5 = .ok (.if_icmp .ge 57, 3) := by decide +kernel
theorem dX5_workOnLine_8 : decode cX5_workOnLine 8 = .ok (.aload_n 0, 1) := by decide +kernel
theorem dX5_workOnLine_9 : decode cX5_workOnLine 9 = .ok (.getfield 36, 3) := by decide +kernel
theorem dX5_workOnLine_12 : decode cX5_workOnLine 12 = .ok (.iload_n 1, 1) := by decide +kernel
theorem dX5_workOnLine_13 : decode cX5_workOnLine 13 = .ok (.aaload, 1) := by decide +kernel
theorem dX5_workOnLine_14 : decode cX5_workOnLine 14 = .ok (.astore_n 2, 1) := by decide +kernel
theorem dX5_workOnLine_15 : decode cX5_workOnLine 15 = .ok (.aload_n 2, 1) := by decide +kernel
theorem dX5_workOnLine_16 : decode cX5_workOnLine 16 = .ok (.ifnull 18, 3) := by decide +kernel
theorem dX5_workOnLine_19 : decode cX5_workOnLine 19 = .ok (.iload_n 1, 1) := by decide +kernel
theorem dX5_workOnLine_20 : decode cX5_workOnLine 20 = .ok (.invokestatic 45, 3) := by decide +kernel
theorem dX5_workOnLine_23 : decode cX5_workOnLine 23 = .ok (.ifCond .eq 11, 3) := by decide +kernel
theorem dX5_workOnLine_26 : decode cX5_workOnLine 26 = .ok (.aload_n 0, 1) := by decide +kernel
theorem dX5_workOnLine_27 : decode cX5_workOnLine 27 = .ok (.aload_n 2, 1) := by decide +kernel
theorem dX5_workOnLine_28 : decode cX5_workOnLine 28 = .ok (.invokevirtual 324, 3) := by decide +kernel
theorem dX5_workOnLine_31 : decode cX5_workOnLine 31 = .ok (.goto 25, 3) := by decide +kernel
theorem dX5_workOnLine_34 : decode cX5_workOnLine 34 = .ok (.aload_n 2, 1) := by decide +kernel
theorem dX5_workOnLine_35 : decode cX5_workOnLine 35 = .ok (.ifnull 21, 3) := by decide +kernel
theorem dX5_workOnLine_38 : decode cX5_workOnLine 38 = .ok (.iload_n 1, 1) := by decide +kernel
theorem dX5_workOnLine_39 : decode cX5_workOnLine 39 = .ok (.bipush 6, 2) := by decide +kernel
theorem dX5_workOnLine_41 : decode cX5_workOnLine 41 = .ok (.if_icmp .ne 15, 3) := by decide +kernel
theorem dX5_workOnLine_44 : decode cX5_workOnLine 44 = .ok (.aload_n 2, 1) := by decide +kernel
theorem dX5_workOnLine_45 : decode cX5_workOnLine 45 = .ok (.getfield 231, 3) := by decide +kernel
theorem dX5_workOnLine_48 : decode cX5_workOnLine 48 = .ok (.ifCond .ne 8, 3) := by decide +kernel
theorem dX5_workOnLine_51 : decode cX5_workOnLine 51 = .ok (.aload_n 0, 1) := by decide +kernel
theorem dX5_workOnLine_52 : decode cX5_workOnLine 52 = .ok (.aload_n 2, 1) := by decide +kernel
theorem dX5_workOnLine_53 : decode cX5_workOnLine 53 = .ok (.invokevirtual 327, 3) := by decide +kernel
theorem dX5_workOnLine_56 : decode cX5_workOnLine 56 = .ok (.iinc 1 1, 3) := by decide +kernel
theorem dX5_workOnLine_59 : decode cX5_workOnLine 59 = .ok (.goto (-57), 3) := by decide +kernel
theorem dX5_workOnLine_62 : decode cX5_workOnLine 62 = .ok (.return_, 1) := by decide +kernel
theorem dX5_fitParts_0 : decode cX5_fitParts 0 = .ok (.iconst 0, 1) := by decide +kernel
theorem dX5_fitParts_1 : decode cX5_fitParts 1 = .ok (.istore_n 2, 1) := by decide +kernel
theorem dX5_fitParts_2 : decode cX5_fitParts 2 = .ok (.iload_n 2, 1) := by decide +kernel
theorem dX5_fitParts_3 : decode cX5_fitParts 3 = .ok (.bipush 10, 2) := by decide +kernel
theorem dX5_fitParts_5 : decode cX5_fitParts 5 = .ok (.if_icmp .ge 46, 3) := by decide +kernel
theorem dX5_fitParts_8 : decode cX5_fitParts 8 = .ok (.aload_n 0, 1) := by decide +kernel
theorem dX5_fitParts_9 : decode cX5_fitParts 9 = .ok (.getfield 11, 3) := by decide +kernel
theorem dX5_fitParts_12 : decode cX5_fitParts 12 = .ok (.iload_n 2, 1) := by decide +kernel
theorem dX5_fitParts_13 : decode cX5_fitParts 13 = .ok (.aaload, 1) := by decide +kernel
theorem dX5_fitParts_14 : decode cX5_fitParts 14 = .ok (.getfield 68, 3) := by decide +kernel
theorem dX5_fitParts_17 : decode cX5_fitParts 17 = .ok (.aload_n 1, 1) := by decide +kernel
theorem dX5_fitParts_18 : decode cX5_fitParts 18 = .ok (.getfield 161, 3) := by decide +kernel
theorem dX5_fitParts_21 : decode cX5_fitParts 21 = .ok (.if_icmp .ne 24, 3) := by decide +kernel
theorem dX5_fitParts_24 : decode cX5_fitParts 24 = .ok (.aload_n 0, 1) := by decide +kernel
theorem dX5_fitParts_25 : decode cX5_fitParts 25 = .ok (.aload_n 1, 1) := by decide +kernel
theorem dX5_fitParts_26 : decode cX5_fitParts 26 = .ok (.iload_n 2, 1) := by decide +kernel
theorem dX5_fitParts_27 : decode cX5_fitParts 27 = .ok (.invokevirtual 272, 3) := by decide +kernel
theorem dX5_fitParts_30 : decode cX5_fitParts 30 = .ok (.ifCond .eq 15, 3) := by decide +kernel
theorem dX5_fitParts_33 : decode cX5_fitParts 33 = .ok (.aload_n 0, 1) := by decide +kernel
theorem dX5_fitParts_34 : decode cX5_fitParts 34 = .ok (.aload_n 1, 1) := by decide +kernel
theorem dX5_fitParts_35 : decode cX5_fitParts 35 = .ok (.iload_n 2, 1) := by decide +kernel
theorem dX5_fitParts_36 : decode cX5_fitParts 36 = .ok (.invokevirtual 330, 3) := by decide +kernel
theorem dX5_fitParts_39 : decode cX5_fitParts 39 = .ok (.aload_n 0, 1) := by decide +kernel
theorem dX5_fitParts_40 : decode cX5_fitParts 40 = .ok (.aload_n 1, 1) := by decide +kernel
theorem dX5_fitParts_41 : decode cX5_fitParts 41 = .ok (.iload_n 2, 1) := by decide +kernel
theorem dX5_fitParts_42 : decode cX5_fitParts 42 = .ok (.invokevirtual 333, 3) := by decide +kernel
theorem dX5_fitParts_45 : decode cX5_fitParts 45 = .ok (.iinc 2 1, 3) := by decide +kernel
theorem dX5_fitParts_48 : decode cX5_fitParts 48 = .ok (.goto (-46), 3) := by decide +kernel
theorem dX5_fitParts_51 : decode cX5_fitParts 51 = .ok (.return_, 1) := by decide +kernel
theorem dX5_takeOut_0 : decode cX5_takeOut 0 = .ok (.aload_n 1, 1) := by decide +kernel
theorem dX5_takeOut_1 : decode cX5_takeOut 1 = .ok (.getfield 177, 3) := by decide +kernel
theorem dX5_takeOut_4 : decode cX5_takeOut 4 = .ok (.iload_n 2, 1) := by decide +kernel
theorem dX5_takeOut_5 : decode cX5_takeOut 5 = .ok (.aaload, 1) := by decide +kernel
theorem dX5_takeOut_6 : decode cX5_takeOut 6 = .ok (.ifnull 46, 3) := by decide +kernel
theorem dX5_takeOut_9 : decode cX5_takeOut 9 = .ok (.aload_n 1, 1) := by decide +kernel
theorem dX5_takeOut_10 : decode cX5_takeOut 10 = .ok (.getfield 177, 3) := by decide +kernel
theorem dX5_takeOut_13 : decode cX5_takeOut 13 = .ok (.iload_n 2, 1) := by decide +kernel
theorem dX5_takeOut_14 : decode cX5_takeOut 14 = .ok (.aconst_null, 1) := by decide +kernel
theorem dX5_takeOut_15 : decode cX5_takeOut 15 = .ok (.aastore, 1) := by decide +kernel
theorem dX5_takeOut_16 : decode cX5_takeOut 16 = .ok (.aload_n 1, 1) := by decide +kernel
theorem dX5_takeOut_17 : decode cX5_takeOut 17 = .ok (.iconst 0, 1) := by decide +kernel
theorem dX5_takeOut_18 : decode cX5_takeOut 18 = .ok (.putfield 231, 3) := by decide +kernel
theorem dX5_takeOut_21 : decode cX5_takeOut 21 = .ok (.aload_n 0, 1) := by decide +kernel
theorem dX5_takeOut_22 : decode cX5_takeOut 22 = .ok (.dup, 1) := by decide +kernel
theorem dX5_takeOut_23 : decode cX5_takeOut 23 = .ok (.getfield 200, 3) := by decide +kernel
theorem dX5_takeOut_26 : decode cX5_takeOut 26 = .ok (.iconst 1, 1) := by decide +kernel
theorem dX5_takeOut_27 : decode cX5_takeOut 27 = .ok (.iadd, 1) := by decide +kernel
theorem dX5_takeOut_28 : decode cX5_takeOut 28 = .ok (.putfield 200, 3) := by decide +kernel
theorem dX5_takeOut_31 : decode cX5_takeOut 31 = .ok (.aload_n 0, 1) := by decide +kernel
theorem dX5_takeOut_32 : decode cX5_takeOut 32 = .ok (.getfield 31, 3) := by decide +kernel
theorem dX5_takeOut_35 : decode cX5_takeOut 35 = .ok (.new 189, 3) := by decide +kernel
theorem dX5_takeOut_38 : decode cX5_takeOut 38 = .ok (.dup, 1) := by decide +kernel
theorem dX5_takeOut_39 : decode cX5_takeOut 39 = .ok (.aload_n 1, 1) := by decide +kernel
theorem dX5_takeOut_40 : decode cX5_takeOut 40 = .ok (.getfield 167, 3) := by decide +kernel
theorem dX5_takeOut_43 : decode cX5_takeOut 43 = .ok (.iload_n 2, 1) := by decide +kernel
theorem dX5_takeOut_44 : decode cX5_takeOut 44 = .ok (.iconst (-1), 1) := by decide +kernel
theorem dX5_takeOut_45 : decode cX5_takeOut 45 = .ok (.invokespecial 336, 3) := by decide +kernel
theorem dX5_takeOut_48 : decode cX5_takeOut 48 = .ok (.invokevirtual 99, 3) := by decide +kernel
theorem dX5_takeOut_51 : decode cX5_takeOut 51 = .ok (.pop, 1) := by decide +kernel
theorem dX5_takeOut_52 : decode cX5_takeOut 52 = .ok (.return_, 1) := by decide +kernel
theorem dX5_pick_0 : decode cX5_pick 0 = .ok (.iconst 0, 1) := by decide +kernel
theorem dX5_pick_1 : decode cX5_pick 1 = .ok (.istore_n 3, 1) := by decide +kernel
theorem dX5_pick_2 : decode cX5_pick 2 = .ok (.iload_n 3, 1) := by decide +kernel
theorem dX5_pick_3 : decode cX5_pick 3 = .ok (.aload_n 0, 1) := by decide +kernel
theorem dX5_pick_4 : decode cX5_pick 4 = .ok (.getfield 18, 3) := by decide +kernel
theorem dX5_pick_7 : decode cX5_pick 7 = .ok (.invokevirtual 88, 3) := by decide +kernel
theorem dX5_pick_10 : decode cX5_pick 10 = .ok (.if_icmp .ge 97, 3) := by decide +kernel
theorem dX5_pick_13 : decode cX5_pick 13 = .ok (.aload_n 0, 1) := by decide +kernel
theorem dX5_pick_14 : decode cX5_pick 14 = .ok (.getfield 18, 3) := by decide +kernel
theorem dX5_pick_17 : decode cX5_pick 17 = .ok (.iload_n 3, 1) := by decide +kernel
theorem dX5_pick_18 : decode cX5_pick 18 = .ok (.invokevirtual 185, 3) := by decide +kernel
theorem dX5_pick_21 : decode cX5_pick 21 = .ok (.checkcast 94, 3) := by decide +kernel
theorem dX5_pick_24 : decode cX5_pick 24 = .ok (.astore 4, 2) := by decide +kernel
theorem dX5_pick_26 : decode cX5_pick 26 = .ok (.aload 4, 2) := by decide +kernel
theorem dX5_pick_28 : decode cX5_pick 28 = .ok (.getfield 285, 3) := by decide +kernel
theorem dX5_pick_31 : decode cX5_pick 31 = .ok (.iload_n 2, 1) := by decide +kernel
theorem dX5_pick_32 : decode cX5_pick 32 = .ok (.if_icmp .ne 69, 3) := by decide +kernel
theorem dX5_pick_35 : decode cX5_pick 35 = .ok (.aload 4, 2) := by decide +kernel
theorem dX5_pick_37 : decode cX5_pick 37 = .ok (.getfield 107, 3) := by decide +kernel
theorem dX5_pick_40 : decode cX5_pick 40 = .ok (.ifCond .ne 61, 3) := by decide +kernel
theorem dX5_pick_43 : decode cX5_pick 43 = .ok (.aload 4, 2) := by decide +kernel
theorem dX5_pick_45 : decode cX5_pick 45 = .ok (.getfield 116, 3) := by decide +kernel
theorem dX5_pick_48 : decode cX5_pick 48 = .ok (.ifCond .le 53, 3) := by decide +kernel
theorem dX5_pick_51 : decode cX5_pick 51 = .ok (.aload 4, 2) := by decide +kernel
theorem dX5_pick_53 : decode cX5_pick 53 = .ok (.dup, 1) := by decide +kernel
theorem dX5_pick_54 : decode cX5_pick 54 = .ok (.getfield 116, 3) := by decide +kernel
theorem dX5_pick_57 : decode cX5_pick 57 = .ok (.iconst 1, 1) := by decide +kernel
theorem dX5_pick_58 : decode cX5_pick 58 = .ok (.isub, 1) := by decide +kernel
theorem dX5_pick_59 : decode cX5_pick 59 = .ok (.putfield 116, 3) := by decide +kernel
theorem dX5_pick_62 : decode cX5_pick 62 = .ok (.aload_n 1, 1) := by decide +kernel
theorem dX5_pick_63 : decode cX5_pick 63 = .ok (.getfield 177, 3) := by decide +kernel
theorem dX5_pick_66 : decode cX5_pick 66 = .ok (.iload_n 2, 1) := by decide +kernel
theorem dX5_pick_67 : decode cX5_pick 67 = .ok (.aload 4, 2) := by decide +kernel
theorem dX5_pick_69 : decode cX5_pick 69 = .ok (.aastore, 1) := by decide +kernel
theorem dX5_pick_70 : decode cX5_pick 70 = .ok (.aload_n 1, 1) := by decide +kernel
theorem dX5_pick_71 : decode cX5_pick 71 = .ok (.iconst 0, 1) := by decide +kernel
theorem dX5_pick_72 : decode cX5_pick 72 = .ok (.putfield 231, 3) := by decide +kernel
theorem dX5_pick_75 : decode cX5_pick 75 = .ok (.aload_n 0, 1) := by decide +kernel
theorem dX5_pick_76 : decode cX5_pick 76 = .ok (.getfield 31, 3) := by decide +kernel
theorem dX5_pick_79 : decode cX5_pick 79 = .ok (.new 189, 3) := by decide +kernel
theorem dX5_pick_82 : decode cX5_pick 82 = .ok (.dup, 1) := by decide +kernel
theorem dX5_pick_83 : decode cX5_pick 83 = .ok (.aload_n 1, 1) := by decide +kernel
theorem dX5_pick_84 : decode cX5_pick 84 = .ok (.getfield 167, 3) := by decide +kernel
theorem dX5_pick_87 : decode cX5_pick 87 = .ok (.iload_n 2, 1) := by decide +kernel
theorem dX5_pick_88 : decode cX5_pick 88 = .ok (.aload 4, 2) := by decide +kernel
theorem dX5_pick_90 : decode cX5_pick 90 = .ok (.getfield 181, 3) := by decide +kernel
theorem dX5_pick_93 : decode cX5_pick 93 = .ok (.invokespecial 336, 3) := by decide +kernel
theorem dX5_pick_96 : decode cX5_pick 96 = .ok (.invokevirtual 99, 3) := by decide +kernel
theorem dX5_pick_99 : decode cX5_pick 99 = .ok (.pop, 1) := by decide +kernel
theorem dX5_pick_100 : decode cX5_pick 100 = .ok (.return_, 1) := by decide +kernel
theorem dX5_pick_101 : decode cX5_pick 101 = .ok (.iinc 3 1, 3) := by decide +kernel
theorem dX5_pick_104 : decode cX5_pick 104 = .ok (.goto (-102), 3) := by decide +kernel
theorem dX5_pick_107 : decode cX5_pick 107 = .ok (.return_, 1) := by decide +kernel
theorem dX5_test_0 : decode cX5_test 0 = .ok (.aload_n 0, 1) := by decide +kernel
theorem dX5_test_1 : decode cX5_test 1 = .ok (.aload_n 1, 1) := by decide +kernel
theorem dX5_test_2 : decode cX5_test 2 = .ok (.invokevirtual 242, 3) := by decide +kernel
theorem dX5_test_5 : decode cX5_test 5 = .ok (.ifCond .eq 14, 3) := by decide +kernel
theorem dX5_test_8 : decode cX5_test 8 = .ok (.aload_n 1, 1) := by decide +kernel
theorem dX5_test_9 : decode cX5_test 9 = .ok (.getfield 158, 3) := by decide +kernel
theorem dX5_test_12 : decode cX5_test 12 = .ok (.ifCond .ne 7, 3) := by decide +kernel
theorem dX5_test_15 : decode cX5_test 15 = .ok (.iconst 1, 1) := by decide +kernel
theorem dX5_test_16 : decode cX5_test 16 = .ok (.goto 4, 3) := by decide +kernel
theorem dX5_test_19 : decode cX5_test 19 = .ok (.iconst 0, 1) := by decide +kernel
theorem dX5_test_20 : decode cX5_test 20 = .ok (.istore_n 2, 1) := by decide +kernel
theorem dX5_test_21 : decode cX5_test 21 = .ok (.aload_n 1, 1) := by decide +kernel
theorem dX5_test_22 : decode cX5_test 22 = .ok (.iload_n 2, 1) := by decide +kernel
theorem dX5_test_23 : decode cX5_test 23 = .ok (.putfield 231, 3) := by decide +kernel
theorem dX5_test_26 : decode cX5_test 26 = .ok (.aload_n 1, 1) := by decide +kernel
theorem dX5_test_27 : decode cX5_test 27 = .ok (.iload_n 2, 1) := by decide +kernel
theorem dX5_test_28 : decode cX5_test 28 = .ok (.ifCond .ne 7, 3) := by decide +kernel
theorem dX5_test_31 : decode cX5_test 31 = .ok (.iconst 1, 1) := by decide +kernel
theorem dX5_test_32 : decode cX5_test 32 = .ok (.goto 4, 3) := by decide +kernel
theorem dX5_test_35 : decode cX5_test 35 = .ok (.iconst 0, 1) := by decide +kernel
theorem dX5_test_36 : decode cX5_test 36 = .ok (.putfield 234, 3) := by decide +kernel
theorem dX5_test_39 : decode cX5_test 39 = .ok (.aload_n 1, 1) := by decide +kernel
theorem dX5_test_40 : decode cX5_test 40 = .ok (.iconst 0, 1) := by decide +kernel
theorem dX5_test_41 : decode cX5_test 41 = .ok (.putfield 158, 3) := by decide +kernel
theorem dX5_test_44 : decode cX5_test 44 = .ok (.iload_n 2, 1) := by decide +kernel
theorem dX5_test_45 : decode cX5_test 45 = .ok (.ifCond .ne 13, 3) := by decide +kernel
theorem dX5_test_48 : decode cX5_test 48 = .ok (.aload_n 0, 1) := by decide +kernel
theorem dX5_test_49 : decode cX5_test 49 = .ok (.dup, 1) := by decide +kernel
theorem dX5_test_50 : decode cX5_test 50 = .ok (.getfield 246, 3) := by decide +kernel
theorem dX5_test_53 : decode cX5_test 53 = .ok (.iconst 1, 1) := by decide +kernel
theorem dX5_test_54 : decode cX5_test 54 = .ok (.iadd, 1) := by decide +kernel
theorem dX5_test_55 : decode cX5_test 55 = .ok (.putfield 246, 3) := by decide +kernel
theorem dX5_test_58 : decode cX5_test 58 = .ok (.return_, 1) := by decide +kernel
theorem dJ9_max_7cf53_0 : decode cJ9_max_7cf53 0 = .ok (.iload_n 0, 1) := by decide +kernel
theorem dJ9_max_7cf53_1 : decode cJ9_max_7cf53 1 = .ok (.iload_n 1, 1) := by decide +kernel
theorem dJ9_max_7cf53_2 : decode cJ9_max_7cf53 2 = .ok (.if_icmp .lt 7, 3) := by decide +kernel
theorem dJ9_max_7cf53_5 : decode cJ9_max_7cf53 5 = .ok (.iload_n 0, 1) := by decide +kernel
theorem dJ9_max_7cf53_6 : decode cJ9_max_7cf53 6 = .ok (.goto 4, 3) := by decide +kernel
theorem dJ9_max_7cf53_9 : decode cJ9_max_7cf53 9 = .ok (.iload_n 1, 1) := by decide +kernel
theorem dJ9_max_7cf53_10 : decode cJ9_max_7cf53 10 = .ok (.ireturn, 1) := by decide +kernel
theorem dJ9_min_7cf53_0 : decode cJ9_min_7cf53 0 = .ok (.iload_n 0, 1) := by decide +kernel
theorem dJ9_min_7cf53_1 : decode cJ9_min_7cf53 1 = .ok (.iload_n 1, 1) := by decide +kernel
theorem dJ9_min_7cf53_2 : decode cJ9_min_7cf53 2 = .ok (.if_icmp .gt 7, 3) := by decide +kernel
theorem dJ9_min_7cf53_5 : decode cJ9_min_7cf53 5 = .ok (.iload_n 0, 1) := by decide +kernel
theorem dJ9_min_7cf53_6 : decode cJ9_min_7cf53 6 = .ok (.goto 4, 3) := by decide +kernel
theorem dJ9_min_7cf53_9 : decode cJ9_min_7cf53 9 = .ok (.iload_n 1, 1) := by decide +kernel
theorem dJ9_min_7cf53_10 : decode cJ9_min_7cf53 10 = .ok (.ireturn, 1) := by decide +kernel
theorem dJxa1e45_init_da8c8_0 : decode cJxa1e45_init_da8c8 0 = .ok (.aload_n 0, 1) := by decide +kernel
theorem dJxa1e45_init_da8c8_1 : decode cJxa1e45_init_da8c8 1 = .ok (.invokespecial 1, 3) := by decide +kernel
theorem dJxa1e45_init_da8c8_4 : decode cJxa1e45_init_da8c8 4 = .ok (.return_, 1) := by decide +kernel
theorem dJxc12de_init_da8c8_0 : decode cJxc12de_init_da8c8 0 = .ok (.aload_n 0, 1) := by decide +kernel
theorem dJxc12de_init_da8c8_1 : decode cJxc12de_init_da8c8 1 = .ok (.invokespecial 1, 3) := by decide +kernel
theorem dJxc12de_init_da8c8_4 : decode cJxc12de_init_da8c8 4 = .ok (.aload_n 0, 1) := by decide +kernel
theorem dJxc12de_init_da8c8_5 : decode cJxc12de_init_da8c8 5 = .ok (.iconst 0, 1) := by decide +kernel
theorem dJxc12de_init_da8c8_6 : decode cJxc12de_init_da8c8 6 = .ok (.putfield 7, 3) := by decide +kernel
theorem dJxc12de_init_da8c8_9 : decode cJxc12de_init_da8c8 9 = .ok (.return_, 1) := by decide +kernel
theorem dJx4a65c_init_da8c8_0 : decode cJx4a65c_init_da8c8 0 = .ok (.aload_n 0, 1) := by decide +kernel
theorem dJx4a65c_init_da8c8_1 : decode cJx4a65c_init_da8c8 1 = .ok (.invokespecial 1, 3) := by decide +kernel
theorem dJx4a65c_init_da8c8_4 : decode cJx4a65c_init_da8c8 4 = .ok (.aload_n 0, 1) := by decide +kernel
theorem dJx4a65c_init_da8c8_5 : decode cJx4a65c_init_da8c8 5 = .ok (.getstatic 39, 3) := by decide +kernel
theorem dJx4a65c_init_da8c8_8 : decode cJx4a65c_init_da8c8 8 = .ok (.putfield 9, 3) := by decide +kernel
theorem dJx4a65c_init_da8c8_11 : decode cJx4a65c_init_da8c8 11 = .ok (.return_, 1) := by decide +kernel
theorem dJx4a65c_grow_92f84_0 : decode cJx4a65c_grow_92f84 0 = .ok (.aload_n 0, 1) := by decide +kernel
theorem dJx4a65c_grow_92f84_1 : decode cJx4a65c_grow_92f84 1 = .ok (.getfield 9, 3) := by decide +kernel
theorem dJx4a65c_grow_92f84_4 : decode cJx4a65c_grow_92f84 4 = .ok (.arraylength, 1) := by decide +kernel
theorem dJx4a65c_grow_92f84_5 : decode cJx4a65c_grow_92f84 5 = .ok (.istore_n 2, 1) := by decide +kernel
theorem dJx4a65c_grow_92f84_6 : decode cJx4a65c_grow_92f84 6 = .ok (.iload_n 2, 1) := by decide +kernel
theorem dJx4a65c_grow_92f84_7 : decode cJx4a65c_grow_92f84 7 = .ok (.ifCond .gt 13, 3) := by decide +kernel
theorem dJx4a65c_grow_92f84_10 : decode cJx4a65c_grow_92f84 10 = .ok (.aload_n 0, 1) := by decide +kernel
theorem dJx4a65c_grow_92f84_11 : decode cJx4a65c_grow_92f84 11 = .ok (.getfield 9, 3) := by decide +kernel
theorem dJx4a65c_grow_92f84_14 : decode cJx4a65c_grow_92f84 14 = .ok (.getstatic 39, 3) := by decide +kernel
theorem dJx4a65c_grow_92f84_17 : decode cJx4a65c_grow_92f84 17 = .ok (.if_acmp .eq 28, 3) := by decide +kernel
theorem dJx4a65c_grow_92f84_20 : decode cJx4a65c_grow_92f84 20 = .ok (.iload_n 2, 1) := by decide +kernel
theorem dJx4a65c_grow_92f84_21 : decode cJx4a65c_grow_92f84 21 = .ok (.iload_n 1, 1) := by decide +kernel
theorem dJx4a65c_grow_92f84_22 : decode cJx4a65c_grow_92f84 22 = .ok (.iload_n 2, 1) := by decide +kernel
theorem dJx4a65c_grow_92f84_23 : decode cJx4a65c_grow_92f84 23 = .ok (.isub, 1) := by decide +kernel
theorem dJx4a65c_grow_92f84_24 : decode cJx4a65c_grow_92f84 24 = .ok (.iload_n 2, 1) := by decide +kernel
theorem dJx4a65c_grow_92f84_25 : decode cJx4a65c_grow_92f84 25 = .ok (.iconst 1, 1) := by decide +kernel
theorem dJx4a65c_grow_92f84_26 : decode cJx4a65c_grow_92f84 26 = .ok (.ishr, 1) := by decide +kernel
theorem dJx4a65c_grow_92f84_27 : decode cJx4a65c_grow_92f84 27 = .ok (.invokestatic 73, 3) := by decide +kernel
theorem dJx4a65c_grow_92f84_30 : decode cJx4a65c_grow_92f84 30 = .ok (.istore_n 3, 1) := by decide +kernel
theorem dJx4a65c_grow_92f84_31 : decode cJx4a65c_grow_92f84 31 = .ok (.aload_n 0, 1) := by decide +kernel
theorem dJx4a65c_grow_92f84_32 : decode cJx4a65c_grow_92f84 32 = .ok (.aload_n 0, 1) := by decide +kernel
theorem dJx4a65c_grow_92f84_33 : decode cJx4a65c_grow_92f84 33 = .ok (.getfield 9, 3) := by decide +kernel
theorem dJx4a65c_grow_92f84_36 : decode cJx4a65c_grow_92f84 36 = .ok (.iload_n 3, 1) := by decide +kernel
theorem dJx4a65c_grow_92f84_37 : decode cJx4a65c_grow_92f84 37 = .ok (.invokestatic 66, 3) := by decide +kernel
theorem dJx4a65c_grow_92f84_40 : decode cJx4a65c_grow_92f84 40 = .ok (.dup_x1, 1) := by decide +kernel
theorem dJx4a65c_grow_92f84_41 : decode cJx4a65c_grow_92f84 41 = .ok (.putfield 9, 3) := by decide +kernel
theorem dJx4a65c_grow_92f84_44 : decode cJx4a65c_grow_92f84 44 = .ok (.areturn, 1) := by decide +kernel
theorem dJx4a65c_grow_92f84_45 : decode cJx4a65c_grow_92f84 45 = .ok (.aload_n 0, 1) := by decide +kernel
theorem dJx4a65c_grow_92f84_46 : decode cJx4a65c_grow_92f84 46 = .ok (.bipush 10, 2) := by decide +kernel
theorem dJx4a65c_grow_92f84_48 : decode cJx4a65c_grow_92f84 48 = .ok (.iload_n 1, 1) := by decide +kernel
theorem dJx4a65c_grow_92f84_49 : decode cJx4a65c_grow_92f84 49 = .ok (.invokestatic 79, 3) := by decide +kernel
theorem dJx4a65c_grow_92f84_52 : decode cJx4a65c_grow_92f84 52 = .ok (.anewarray 7, 3) := by decide +kernel
theorem dJx4a65c_grow_92f84_55 : decode cJx4a65c_grow_92f84 55 = .ok (.dup_x1, 1) := by decide +kernel
theorem dJx4a65c_grow_92f84_56 : decode cJx4a65c_grow_92f84 56 = .ok (.putfield 9, 3) := by decide +kernel
theorem dJx4a65c_grow_92f84_59 : decode cJx4a65c_grow_92f84 59 = .ok (.areturn, 1) := by decide +kernel
theorem dJx4a65c_grow_d5877_0 : decode cJx4a65c_grow_d5877 0 = .ok (.aload_n 0, 1) := by decide +kernel
theorem dJx4a65c_grow_d5877_1 : decode cJx4a65c_grow_d5877 1 = .ok (.aload_n 0, 1) := by decide +kernel
theorem dJx4a65c_grow_d5877_2 : decode cJx4a65c_grow_d5877 2 = .ok (.getfield 48, 3) := by decide +kernel
theorem dJx4a65c_grow_d5877_5 : decode cJx4a65c_grow_d5877 5 = .ok (.iconst 1, 1) := by decide +kernel
theorem dJx4a65c_grow_d5877_6 : decode cJx4a65c_grow_d5877 6 = .ok (.iadd, 1) := by decide +kernel
theorem dJx4a65c_grow_d5877_7 : decode cJx4a65c_grow_d5877 7 = .ok (.invokevirtual 69, 3) := by decide +kernel
theorem dJx4a65c_grow_d5877_10 : decode cJx4a65c_grow_d5877 10 = .ok (.areturn, 1) := by decide +kernel
theorem dJx4a65c_size_8abf5_0 : decode cJx4a65c_size_8abf5 0 = .ok (.aload_n 0, 1) := by decide +kernel
theorem dJx4a65c_size_8abf5_1 : decode cJx4a65c_size_8abf5 1 = .ok (.getfield 48, 3) := by decide +kernel
theorem dJx4a65c_size_8abf5_4 : decode cJx4a65c_size_8abf5 4 = .ok (.ireturn, 1) := by decide +kernel
theorem dJx4a65c_isEmpty_aae02_0 : decode cJx4a65c_isEmpty_aae02 0 = .ok (.aload_n 0, 1) := by decide +kernel
theorem dJx4a65c_isEmpty_aae02_1 : decode cJx4a65c_isEmpty_aae02 1 = .ok (.getfield 48, 3) := by decide +kernel
theorem dJx4a65c_isEmpty_aae02_4 : decode cJx4a65c_isEmpty_aae02 4 = .ok (.ifCond .ne 7, 3) := by decide +kernel
theorem dJx4a65c_isEmpty_aae02_7 : decode cJx4a65c_isEmpty_aae02 7 = .ok (.iconst 1, 1) := by decide +kernel
theorem dJx4a65c_isEmpty_aae02_8 : decode cJx4a65c_isEmpty_aae02 8 = .ok (.goto 4, 3) := by decide +kernel
theorem dJx4a65c_isEmpty_aae02_11 : decode cJx4a65c_isEmpty_aae02 11 = .ok (.iconst 0, 1) := by decide +kernel
theorem dJx4a65c_isEmpty_aae02_12 : decode cJx4a65c_isEmpty_aae02 12 = .ok (.ireturn, 1) := by decide +kernel
theorem dJx4a65c_elementData_915e3_0 : decode cJx4a65c_elementData_915e3 0 = .ok (.aload_n 0, 1) := by decide +kernel
theorem dJx4a65c_elementData_915e3_1 : decode cJx4a65c_elementData_915e3 1 = .ok (.getfield 9, 3) := by decide +kernel
theorem dJx4a65c_elementData_915e3_4 : decode cJx4a65c_elementData_915e3 4 = .ok (.iload_n 1, 1) := by decide +kernel
theorem dJx4a65c_elementData_915e3_5 : decode cJx4a65c_elementData_915e3 5 = .ok (.aaload, 1) := by decide +kernel
theorem dJx4a65c_elementData_915e3_6 : decode cJx4a65c_elementData_915e3 6 = .ok (.areturn, 1) := by decide +kernel
theorem dJx4a65c_get_915e3_0 : decode cJx4a65c_get_915e3 0 = .ok (.iload_n 1, 1) := by decide +kernel
theorem dJx4a65c_get_915e3_1 : decode cJx4a65c_get_915e3 1 = .ok (.aload_n 0, 1) := by decide +kernel
theorem dJx4a65c_get_915e3_2 : decode cJx4a65c_get_915e3 2 = .ok (.getfield 48, 3) := by decide +kernel
theorem dJx4a65c_get_915e3_5 : decode cJx4a65c_get_915e3 5 = .ok (.invokestatic 118, 3) := by decide +kernel
theorem dJx4a65c_get_915e3_8 : decode cJx4a65c_get_915e3 8 = .ok (.pop, 1) := by decide +kernel
theorem dJx4a65c_get_915e3_9 : decode cJx4a65c_get_915e3 9 = .ok (.aload_n 0, 1) := by decide +kernel
theorem dJx4a65c_get_915e3_10 : decode cJx4a65c_get_915e3 10 = .ok (.iload_n 1, 1) := by decide +kernel
theorem dJx4a65c_get_915e3_11 : decode cJx4a65c_get_915e3 11 = .ok (.invokevirtual 123, 3) := by decide +kernel
theorem dJx4a65c_get_915e3_14 : decode cJx4a65c_get_915e3 14 = .ok (.areturn, 1) := by decide +kernel
theorem dJx4a65c_add_72be8_0 : decode cJx4a65c_add_72be8 0 = .ok (.iload_n 3, 1) := by decide +kernel
theorem dJx4a65c_add_72be8_1 : decode cJx4a65c_add_72be8 1 = .ok (.aload_n 2, 1) := by decide +kernel
theorem dJx4a65c_add_72be8_2 : decode cJx4a65c_add_72be8 2 = .ok (.arraylength, 1) := by decide +kernel
theorem dJx4a65c_add_72be8_3 : decode cJx4a65c_add_72be8 3 = .ok (.if_icmp .ne 8, 3) := by decide +kernel
theorem dJx4a65c_add_72be8_6 : decode cJx4a65c_add_72be8 6 = .ok (.aload_n 0, 1) := by decide +kernel
theorem dJx4a65c_add_72be8_7 : decode cJx4a65c_add_72be8 7 = .ok (.invokevirtual 129, 3) := by decide +kernel
theorem dJx4a65c_add_72be8_10 : decode cJx4a65c_add_72be8 10 = .ok (.astore_n 2, 1) := by decide +kernel
theorem dJx4a65c_add_72be8_11 : decode cJx4a65c_add_72be8 11 = .ok (.aload_n 2, 1) := by decide +kernel
theorem dJx4a65c_add_72be8_12 : decode cJx4a65c_add_72be8 12 = .ok (.iload_n 3, 1) := by decide +kernel
theorem dJx4a65c_add_72be8_13 : decode cJx4a65c_add_72be8 13 = .ok (.aload_n 1, 1) := by decide +kernel
theorem dJx4a65c_add_72be8_14 : decode cJx4a65c_add_72be8 14 = .ok (.aastore, 1) := by decide +kernel
theorem dJx4a65c_add_72be8_15 : decode cJx4a65c_add_72be8 15 = .ok (.aload_n 0, 1) := by decide +kernel
theorem dJx4a65c_add_72be8_16 : decode cJx4a65c_add_72be8 16 = .ok (.iload_n 3, 1) := by decide +kernel
theorem dJx4a65c_add_72be8_17 : decode cJx4a65c_add_72be8 17 = .ok (.iconst 1, 1) := by decide +kernel
theorem dJx4a65c_add_72be8_18 : decode cJx4a65c_add_72be8 18 = .ok (.iadd, 1) := by decide +kernel
theorem dJx4a65c_add_72be8_19 : decode cJx4a65c_add_72be8 19 = .ok (.putfield 48, 3) := by decide +kernel
theorem dJx4a65c_add_72be8_22 : decode cJx4a65c_add_72be8 22 = .ok (.return_, 1) := by decide +kernel
theorem dJx4a65c_add_9ea2d_0 : decode cJx4a65c_add_9ea2d 0 = .ok (.aload_n 0, 1) := by decide +kernel
theorem dJx4a65c_add_9ea2d_1 : decode cJx4a65c_add_9ea2d 1 = .ok (.dup, 1) := by decide +kernel
theorem dJx4a65c_add_9ea2d_2 : decode cJx4a65c_add_9ea2d 2 = .ok (.getfield 63, 3) := by decide +kernel
theorem dJx4a65c_add_9ea2d_5 : decode cJx4a65c_add_9ea2d 5 = .ok (.iconst 1, 1) := by decide +kernel
theorem dJx4a65c_add_9ea2d_6 : decode cJx4a65c_add_9ea2d 6 = .ok (.iadd, 1) := by decide +kernel
theorem dJx4a65c_add_9ea2d_7 : decode cJx4a65c_add_9ea2d 7 = .ok (.putfield 63, 3) := by decide +kernel
theorem dJx4a65c_add_9ea2d_10 : decode cJx4a65c_add_9ea2d 10 = .ok (.aload_n 0, 1) := by decide +kernel
theorem dJx4a65c_add_9ea2d_11 : decode cJx4a65c_add_9ea2d 11 = .ok (.aload_n 1, 1) := by decide +kernel
theorem dJx4a65c_add_9ea2d_12 : decode cJx4a65c_add_9ea2d 12 = .ok (.aload_n 0, 1) := by decide +kernel
theorem dJx4a65c_add_9ea2d_13 : decode cJx4a65c_add_9ea2d 13 = .ok (.getfield 9, 3) := by decide +kernel
theorem dJx4a65c_add_9ea2d_16 : decode cJx4a65c_add_9ea2d 16 = .ok (.aload_n 0, 1) := by decide +kernel
theorem dJx4a65c_add_9ea2d_17 : decode cJx4a65c_add_9ea2d 17 = .ok (.getfield 48, 3) := by decide +kernel
theorem dJx4a65c_add_9ea2d_20 : decode cJx4a65c_add_9ea2d 20 = .ok (.invokevirtual 131, 3) := by decide +kernel
theorem dJx4a65c_add_9ea2d_23 : decode cJx4a65c_add_9ea2d 23 = .ok (.iconst 1, 1) := by decide +kernel
theorem dJx4a65c_add_9ea2d_24 : decode cJx4a65c_add_9ea2d 24 = .ok (.ireturn, 1) := by decide +kernel
theorem dJx4a65c_remove_915e3_0 : decode cJx4a65c_remove_915e3 0 = .ok (.iload_n 1, 1) := by decide +kernel
theorem dJx4a65c_remove_915e3_1 : decode cJx4a65c_remove_915e3 1 = .ok (.aload_n 0, 1) := by decide +kernel
theorem dJx4a65c_remove_915e3_2 : decode cJx4a65c_remove_915e3 2 = .ok (.getfield 48, 3) := by decide +kernel
theorem dJx4a65c_remove_915e3_5 : decode cJx4a65c_remove_915e3 5 = .ok (.invokestatic 118, 3) := by decide +kernel
theorem dJx4a65c_remove_915e3_8 : decode cJx4a65c_remove_915e3 8 = .ok (.pop, 1) := by decide +kernel
theorem dJx4a65c_remove_915e3_9 : decode cJx4a65c_remove_915e3 9 = .ok (.aload_n 0, 1) := by decide +kernel
theorem dJx4a65c_remove_915e3_10 : decode cJx4a65c_remove_915e3 10 = .ok (.getfield 9, 3) := by decide +kernel
theorem dJx4a65c_remove_915e3_13 : decode cJx4a65c_remove_915e3 13 = .ok (.astore_n 2, 1) := by decide +kernel
theorem dJx4a65c_remove_915e3_14 : decode cJx4a65c_remove_915e3 14 = .ok (.aload_n 2, 1) := by decide +kernel
theorem dJx4a65c_remove_915e3_15 : decode cJx4a65c_remove_915e3 15 = .ok (.iload_n 1, 1) := by decide +kernel
theorem dJx4a65c_remove_915e3_16 : decode cJx4a65c_remove_915e3 16 = .ok (.aaload, 1) := by decide +kernel
theorem dJx4a65c_remove_915e3_17 : decode cJx4a65c_remove_915e3 17 = .ok (.astore_n 3, 1) := by decide +kernel
theorem dJx4a65c_remove_915e3_18 : decode cJx4a65c_remove_915e3 18 = .ok (.aload_n 0, 1) := by decide +kernel
theorem dJx4a65c_remove_915e3_19 : decode cJx4a65c_remove_915e3 19 = .ok (.aload_n 2, 1) := by decide +kernel
theorem dJx4a65c_remove_915e3_20 : decode cJx4a65c_remove_915e3 20 = .ok (.iload_n 1, 1) := by decide +kernel
theorem dJx4a65c_remove_915e3_21 : decode cJx4a65c_remove_915e3 21 = .ok (.invokevirtual 144, 3) := by decide +kernel
theorem dJx4a65c_remove_915e3_24 : decode cJx4a65c_remove_915e3 24 = .ok (.aload_n 3, 1) := by decide +kernel
theorem dJx4a65c_remove_915e3_25 : decode cJx4a65c_remove_915e3 25 = .ok (.areturn, 1) := by decide +kernel
theorem dJx4a65c_fastRemove_b59b0_0 : decode cJx4a65c_fastRemove_b59b0 0 = .ok (.aload_n 0, 1) := by decide +kernel
theorem dJx4a65c_fastRemove_b59b0_1 : decode cJx4a65c_fastRemove_b59b0 1 = .ok (.dup, 1) := by decide +kernel
theorem dJx4a65c_fastRemove_b59b0_2 : decode cJx4a65c_fastRemove_b59b0 2 = .ok (.getfield 63, 3) := by decide +kernel
theorem dJx4a65c_fastRemove_b59b0_5 : decode cJx4a65c_fastRemove_b59b0 5 = .ok (.iconst 1, 1) := by decide +kernel
theorem dJx4a65c_fastRemove_b59b0_6 : decode cJx4a65c_fastRemove_b59b0 6 = .ok (.iadd, 1) := by decide +kernel
theorem dJx4a65c_fastRemove_b59b0_7 : decode cJx4a65c_fastRemove_b59b0 7 = .ok (.putfield 63, 3) := by decide +kernel
theorem dJx4a65c_fastRemove_b59b0_10 : decode cJx4a65c_fastRemove_b59b0 10 = .ok (.aload_n 0, 1) := by decide +kernel
theorem dJx4a65c_fastRemove_b59b0_11 : decode cJx4a65c_fastRemove_b59b0 11 = .ok (.getfield 48, 3) := by decide +kernel
theorem dJx4a65c_fastRemove_b59b0_14 : decode cJx4a65c_fastRemove_b59b0 14 = .ok (.iconst 1, 1) := by decide +kernel
theorem dJx4a65c_fastRemove_b59b0_15 : decode cJx4a65c_fastRemove_b59b0 15 = .ok (.isub, 1) := by decide +kernel
theorem dJx4a65c_fastRemove_b59b0_16 : decode cJx4a65c_fastRemove_b59b0 16 = .ok (.dup, 1) := by decide +kernel
theorem dJx4a65c_fastRemove_b59b0_17 : decode cJx4a65c_fastRemove_b59b0 17 = .ok (.istore_n 3, 1) := by decide +kernel
theorem dJx4a65c_fastRemove_b59b0_18 : decode cJx4a65c_fastRemove_b59b0 18 = .ok (.iload_n 2, 1) := by decide +kernel
theorem dJx4a65c_fastRemove_b59b0_19 : decode cJx4a65c_fastRemove_b59b0 19 = .ok (.if_icmp .le 15, 3) := by decide +kernel
theorem dJx4a65c_fastRemove_b59b0_22 : decode cJx4a65c_fastRemove_b59b0 22 = .ok (.aload_n 1, 1) := by decide +kernel
theorem dJx4a65c_fastRemove_b59b0_23 : decode cJx4a65c_fastRemove_b59b0 23 = .ok (.iload_n 2, 1) := by decide +kernel
theorem dJx4a65c_fastRemove_b59b0_24 : decode cJx4a65c_fastRemove_b59b0 24 = .ok (.iconst 1, 1) := by decide +kernel
theorem dJx4a65c_fastRemove_b59b0_25 : decode cJx4a65c_fastRemove_b59b0 25 = .ok (.iadd, 1) := by decide +kernel
theorem dJx4a65c_fastRemove_b59b0_26 : decode cJx4a65c_fastRemove_b59b0 26 = .ok (.aload_n 1, 1) := by decide +kernel
theorem dJx4a65c_fastRemove_b59b0_27 : decode cJx4a65c_fastRemove_b59b0 27 = .ok (.iload_n 2, 1) := by decide +kernel
theorem dJx4a65c_fastRemove_b59b0_28 : decode cJx4a65c_fastRemove_b59b0 28 = .ok (.iload_n 3, 1) := by decide +kernel
theorem dJx4a65c_fastRemove_b59b0_29 : decode cJx4a65c_fastRemove_b59b0 29 = .ok (.iload_n 2, 1) := by decide +kernel
theorem dJx4a65c_fastRemove_b59b0_30 : decode cJx4a65c_fastRemove_b59b0 30 = .ok (.isub, 1) := by decide +kernel
theorem dJx4a65c_fastRemove_b59b0_31 : decode cJx4a65c_fastRemove_b59b0 31 = .ok (.invokestatic 112, 3) := by decide +kernel
theorem dJx4a65c_fastRemove_b59b0_34 : decode cJx4a65c_fastRemove_b59b0 34 = .ok (.aload_n 1, 1) := by decide +kernel
theorem dJx4a65c_fastRemove_b59b0_35 : decode cJx4a65c_fastRemove_b59b0 35 = .ok (.aload_n 0, 1) := by decide +kernel
theorem dJx4a65c_fastRemove_b59b0_36 : decode cJx4a65c_fastRemove_b59b0 36 = .ok (.iload_n 3, 1) := by decide +kernel
theorem dJx4a65c_fastRemove_b59b0_37 : decode cJx4a65c_fastRemove_b59b0 37 = .ok (.dup_x1, 1) := by decide +kernel
theorem dJx4a65c_fastRemove_b59b0_38 : decode cJx4a65c_fastRemove_b59b0 38 = .ok (.putfield 48, 3) := by decide +kernel
theorem dJx4a65c_fastRemove_b59b0_41 : decode cJx4a65c_fastRemove_b59b0 41 = .ok (.aconst_null, 1) := by decide +kernel
theorem dJx4a65c_fastRemove_b59b0_42 : decode cJx4a65c_fastRemove_b59b0 42 = .ok (.aastore, 1) := by decide +kernel
theorem dJx4a65c_fastRemove_b59b0_43 : decode cJx4a65c_fastRemove_b59b0 43 = .ok (.return_, 1) := by decide +kernel
theorem dJ7_copyOf_1904c_0 : decode cJ7_copyOf_1904c 0 = .ok (.aload_n 0, 1) := by decide +kernel
theorem dJ7_copyOf_1904c_1 : decode cJ7_copyOf_1904c 1 = .ok (.iload_n 1, 1) := by decide +kernel
theorem dJ7_copyOf_1904c_2 : decode cJ7_copyOf_1904c 2 = .ok (.aload_n 0, 1) := by decide +kernel
theorem dJ7_copyOf_1904c_3 : decode cJ7_copyOf_1904c 3 = .ok (.invokevirtual 86, 3) := by decide +kernel
theorem dJ7_copyOf_1904c_6 : decode cJ7_copyOf_1904c 6 = .ok (.invokestatic 300, 3) := by decide +kernel
theorem dJ7_copyOf_1904c_9 : decode cJ7_copyOf_1904c 9 = .ok (.areturn, 1) := by decide +kernel
theorem dJ7_copyOf_6403c_0 : decode cJ7_copyOf_6403c 0 = .ok (.aload_n 2, 1) := by decide +kernel
theorem dJ7_copyOf_6403c_1 : decode cJ7_copyOf_6403c 1 = .ok (.ldc 110, 2) := by decide +kernel
theorem dJ7_copyOf_6403c_3 : decode cJ7_copyOf_6403c 3 = .ok (.if_acmp .ne 10, 3) := by decide +kernel
theorem dJ7_copyOf_6403c_6 : decode cJ7_copyOf_6403c 6 = .ok (.iload_n 1, 1) := by decide +kernel
theorem dJ7_copyOf_6403c_7 : decode cJ7_copyOf_6403c 7 = .ok (.anewarray 2, 3) := by decide +kernel
theorem dJ7_copyOf_6403c_10 : decode cJ7_copyOf_6403c 10 = .ok (.goto 14, 3) := by decide +kernel
theorem dJ7_copyOf_6403c_13 : decode cJ7_copyOf_6403c 13 = .ok (.aload_n 2, 1) := by decide +kernel
theorem dJ7_copyOf_6403c_14 : decode cJ7_copyOf_6403c 14 = .ok (.invokevirtual 90, 3) := by decide +kernel
theorem dJ7_copyOf_6403c_17 : decode cJ7_copyOf_6403c 17 = .ok (.iload_n 1, 1) := by decide +kernel
theorem dJ7_copyOf_6403c_18 : decode cJ7_copyOf_6403c 18 = .ok (.invokestatic 95, 3) := by decide +kernel
theorem dJ7_copyOf_6403c_21 : decode cJ7_copyOf_6403c 21 = .ok (.checkcast 110, 3) := by decide +kernel
theorem dJ7_copyOf_6403c_24 : decode cJ7_copyOf_6403c 24 = .ok (.astore_n 3, 1) := by decide +kernel
theorem dJ7_copyOf_6403c_25 : decode cJ7_copyOf_6403c 25 = .ok (.aload_n 0, 1) := by decide +kernel
theorem dJ7_copyOf_6403c_26 : decode cJ7_copyOf_6403c 26 = .ok (.iconst 0, 1) := by decide +kernel
theorem dJ7_copyOf_6403c_27 : decode cJ7_copyOf_6403c 27 = .ok (.aload_n 3, 1) := by decide +kernel
theorem dJ7_copyOf_6403c_28 : decode cJ7_copyOf_6403c 28 = .ok (.iconst 0, 1) := by decide +kernel
theorem dJ7_copyOf_6403c_29 : decode cJ7_copyOf_6403c 29 = .ok (.aload_n 0, 1) := by decide +kernel
theorem dJ7_copyOf_6403c_30 : decode cJ7_copyOf_6403c 30 = .ok (.arraylength, 1) := by decide +kernel
theorem dJ7_copyOf_6403c_31 : decode cJ7_copyOf_6403c 31 = .ok (.iload_n 1, 1) := by decide +kernel
theorem dJ7_copyOf_6403c_32 : decode cJ7_copyOf_6403c 32 = .ok (.invokestatic 304, 3) := by decide +kernel
theorem dJ7_copyOf_6403c_35 : decode cJ7_copyOf_6403c 35 = .ok (.invokestatic 150, 3) := by decide +kernel
theorem dJ7_copyOf_6403c_38 : decode cJ7_copyOf_6403c 38 = .ok (.aload_n 3, 1) := by decide +kernel
theorem dJ7_copyOf_6403c_39 : decode cJ7_copyOf_6403c 39 = .ok (.areturn, 1) := by decide +kernel
theorem dJ15_checkIndex_7cf53_0 : decode cJ15_checkIndex_7cf53 0 = .ok (.iload_n 0, 1) := by decide +kernel
theorem dJ15_checkIndex_7cf53_1 : decode cJ15_checkIndex_7cf53 1 = .ok (.iload_n 1, 1) := by decide +kernel
theorem dJ15_checkIndex_7cf53_2 : decode cJ15_checkIndex_7cf53 2 = .ok (.aconst_null, 1) := by decide +kernel
theorem dJ15_checkIndex_7cf53_3 : decode cJ15_checkIndex_7cf53 3 = .ok (.invokestatic 105, 3) := by decide +kernel
theorem dJ15_checkIndex_7cf53_6 : decode cJ15_checkIndex_7cf53 6 = .ok (.ireturn, 1) := by decide +kernel
theorem dJ8_newLength_cabcc_0 : decode cJ8_newLength_cabcc 0 = .ok (.iload_n 0, 1) := by decide +kernel
theorem dJ8_newLength_cabcc_1 : decode cJ8_newLength_cabcc 1 = .ok (.iload_n 1, 1) := by decide +kernel
theorem dJ8_newLength_cabcc_2 : decode cJ8_newLength_cabcc 2 = .ok (.iload_n 2, 1) := by decide +kernel
theorem dJ8_newLength_cabcc_3 : decode cJ8_newLength_cabcc 3 = .ok (.invokestatic 194, 3) := by decide +kernel
theorem dJ8_newLength_cabcc_6 : decode cJ8_newLength_cabcc 6 = .ok (.iadd, 1) := by decide +kernel
theorem dJ8_newLength_cabcc_7 : decode cJ8_newLength_cabcc 7 = .ok (.istore_n 3, 1) := by decide +kernel
theorem dJ8_newLength_cabcc_8 : decode cJ8_newLength_cabcc 8 = .ok (.iconst 0, 1) := by decide +kernel
theorem dJ8_newLength_cabcc_9 : decode cJ8_newLength_cabcc 9 = .ok (.iload_n 3, 1) := by decide +kernel
theorem dJ8_newLength_cabcc_10 : decode cJ8_newLength_cabcc 10 = .ok (.if_icmp .ge 11, 3) := by decide +kernel
theorem dJ8_newLength_cabcc_13 : decode cJ8_newLength_cabcc 13 = .ok (.iload_n 3, 1) := by decide +kernel
theorem dJ8_newLength_cabcc_14 : decode cJ8_newLength_cabcc 14 = .ok (.ldc 200, 2) := by decide +kernel
theorem dJ8_newLength_cabcc_16 : decode cJ8_newLength_cabcc 16 = .ok (.if_icmp .gt 5, 3) := by decide +kernel
theorem dJ8_newLength_cabcc_19 : decode cJ8_newLength_cabcc 19 = .ok (.iload_n 3, 1) := by decide +kernel
theorem dJ8_newLength_cabcc_20 : decode cJ8_newLength_cabcc 20 = .ok (.ireturn, 1) := by decide +kernel
theorem dJ8_newLength_cabcc_21 : decode cJ8_newLength_cabcc 21 = .ok (.iload_n 0, 1) := by decide +kernel
theorem dJ8_newLength_cabcc_22 : decode cJ8_newLength_cabcc 22 = .ok (.iload_n 1, 1) := by decide +kernel
theorem dJ8_newLength_cabcc_23 : decode cJ8_newLength_cabcc 23 = .ok (.invokestatic 201, 3) := by decide +kernel
theorem dJ8_newLength_cabcc_26 : decode cJ8_newLength_cabcc 26 = .ok (.ireturn, 1) := by decide +kernel
theorem dJ8_hugeLength_7cf53_0 : decode cJ8_hugeLength_7cf53 0 = .ok (.iload_n 0, 1) := by decide +kernel
theorem dJ8_hugeLength_7cf53_1 : decode cJ8_hugeLength_7cf53 1 = .ok (.iload_n 1, 1) := by decide +kernel
theorem dJ8_hugeLength_7cf53_2 : decode cJ8_hugeLength_7cf53 2 = .ok (.iadd, 1) := by decide +kernel
theorem dJ8_hugeLength_7cf53_3 : decode cJ8_hugeLength_7cf53 3 = .ok (.istore_n 2, 1) := by decide +kernel
theorem dJ8_hugeLength_7cf53_4 : decode cJ8_hugeLength_7cf53 4 = .ok (.iload_n 2, 1) := by decide +kernel
theorem dJ8_hugeLength_7cf53_5 : decode cJ8_hugeLength_7cf53 5 = .ok (.ifCond .ge 44, 3) := by decide +kernel
theorem dJ8_hugeLength_7cf53_8 : decode cJ8_hugeLength_7cf53 8 = .ok (.new 204, 3) := by decide +kernel
theorem dJ8_hugeLength_7cf53_11 : decode cJ8_hugeLength_7cf53 11 = .ok (.dup, 1) := by decide +kernel
theorem dJ8_hugeLength_7cf53_12 : decode cJ8_hugeLength_7cf53 12 = .ok (.new 89, 3) := by decide +kernel
theorem dJ8_hugeLength_7cf53_15 : decode cJ8_hugeLength_7cf53 15 = .ok (.dup, 1) := by decide +kernel
theorem dJ8_hugeLength_7cf53_16 : decode cJ8_hugeLength_7cf53 16 = .ok (.invokespecial 91, 3) := by decide +kernel
theorem dJ8_hugeLength_7cf53_19 : decode cJ8_hugeLength_7cf53 19 = .ok (.ldc 206, 2) := by decide +kernel
theorem dJ8_hugeLength_7cf53_21 : decode cJ8_hugeLength_7cf53 21 = .ok (.invokevirtual 94, 3) := by decide +kernel
theorem dJ8_hugeLength_7cf53_24 : decode cJ8_hugeLength_7cf53 24 = .ok (.iload_n 0, 1) := by decide +kernel
theorem dJ8_hugeLength_7cf53_25 : decode cJ8_hugeLength_7cf53 25 = .ok (.invokevirtual 98, 3) := by decide +kernel
theorem dJ8_hugeLength_7cf53_28 : decode cJ8_hugeLength_7cf53 28 = .ok (.ldc 208, 2) := by decide +kernel
theorem dJ8_hugeLength_7cf53_30 : decode cJ8_hugeLength_7cf53 30 = .ok (.invokevirtual 94, 3) := by decide +kernel
theorem dJ8_hugeLength_7cf53_33 : decode cJ8_hugeLength_7cf53 33 = .ok (.iload_n 1, 1) := by decide +kernel
theorem dJ8_hugeLength_7cf53_34 : decode cJ8_hugeLength_7cf53 34 = .ok (.invokevirtual 98, 3) := by decide +kernel
theorem dJ8_hugeLength_7cf53_37 : decode cJ8_hugeLength_7cf53 37 = .ok (.ldc 210, 2) := by decide +kernel
theorem dJ8_hugeLength_7cf53_39 : decode cJ8_hugeLength_7cf53 39 = .ok (.invokevirtual 94, 3) := by decide +kernel
theorem dJ8_hugeLength_7cf53_42 : decode cJ8_hugeLength_7cf53 42 = .ok (.invokevirtual 101, 3) := by decide +kernel
theorem dJ8_hugeLength_7cf53_45 : decode cJ8_hugeLength_7cf53 45 = .ok (.invokespecial 212, 3) := by decide +kernel
theorem dJ8_hugeLength_7cf53_48 : decode cJ8_hugeLength_7cf53 48 = .ok (.athrow, 1) := by decide +kernel
theorem dJ8_hugeLength_7cf53_49 : decode cJ8_hugeLength_7cf53 49 = .ok (.iload_n 2, 1) := by decide +kernel
theorem dJ8_hugeLength_7cf53_50 : decode cJ8_hugeLength_7cf53 50 = .ok (.ldc 200, 2) := by decide +kernel
theorem dJ8_hugeLength_7cf53_52 : decode cJ8_hugeLength_7cf53 52 = .ok (.if_icmp .gt 6, 3) := by decide +kernel
theorem dJ8_hugeLength_7cf53_55 : decode cJ8_hugeLength_7cf53 55 = .ok (.ldc 200, 2) := by decide +kernel
theorem dJ8_hugeLength_7cf53_57 : decode cJ8_hugeLength_7cf53 57 = .ok (.ireturn, 1) := by decide +kernel
theorem dJ8_hugeLength_7cf53_58 : decode cJ8_hugeLength_7cf53 58 = .ok (.iload_n 2, 1) := by decide +kernel
theorem dJ8_hugeLength_7cf53_59 : decode cJ8_hugeLength_7cf53 59 = .ok (.ireturn, 1) := by decide +kernel
theorem dJ3_checkIndex_8e157_0 : decode cJ3_checkIndex_8e157 0 = .ok (.iload_n 0, 1) := by decide +kernel
theorem dJ3_checkIndex_8e157_1 : decode cJ3_checkIndex_8e157 1 = .ok (.ifCond .lt 8, 3) := by decide +kernel
theorem dJ3_checkIndex_8e157_4 : decode cJ3_checkIndex_8e157 4 = .ok (.iload_n 0, 1) := by decide +kernel
theorem dJ3_checkIndex_8e157_5 : decode cJ3_checkIndex_8e157 5 = .ok (.iload_n 1, 1) := by decide +kernel
theorem dJ3_checkIndex_8e157_6 : decode cJ3_checkIndex_8e157 6 = .ok (.if_icmp .lt 10, 3) := by decide +kernel
theorem dJ3_checkIndex_8e157_9 : decode cJ3_checkIndex_8e157 9 = .ok (.aload_n 2, 1) := by decide +kernel
theorem dJ3_checkIndex_8e157_10 : decode cJ3_checkIndex_8e157 10 = .ok (.iload_n 0, 1) := by decide +kernel
theorem dJ3_checkIndex_8e157_11 : decode cJ3_checkIndex_8e157 11 = .ok (.iload_n 1, 1) := by decide +kernel
theorem dJ3_checkIndex_8e157_12 : decode cJ3_checkIndex_8e157 12 = .ok (.invokestatic 95, 3) := by decide +kernel
theorem dJ3_checkIndex_8e157_15 : decode cJ3_checkIndex_8e157 15 = .ok (.athrow, 1) := by decide +kernel
theorem dJ3_checkIndex_8e157_16 : decode cJ3_checkIndex_8e157 16 = .ok (.iload_n 0, 1) := by decide +kernel
theorem dJ3_checkIndex_8e157_17 : decode cJ3_checkIndex_8e157 17 = .ok (.ireturn, 1) := by decide +kernel
theorem dL_cell_0 : decode cL_cell 0 = .ok (.iload_n 1, 1) := by decide +kernel
theorem dL_cell_1 : decode cL_cell 1 = .ok (.aload_n 0, 1) := by decide +kernel
theorem dL_cell_2 : decode cL_cell 2 = .ok (.arraylength, 1) := by decide +kernel
theorem dL_cell_3 : decode cL_cell 3 = .ok (.if_icmp .ge 9, 3) := by decide +kernel
theorem dL_cell_6 : decode cL_cell 6 = .ok (.aload_n 0, 1) := by decide +kernel
theorem dL_cell_7 : decode cL_cell 7 = .ok (.iload_n 1, 1) := by decide +kernel
theorem dL_cell_8 : decode cL_cell 8 = .ok (.iaload, 1) := by decide +kernel
theorem dL_cell_9 : decode cL_cell 9 = .ok (.goto 18, 3) := by decide +kernel
theorem dL_cell_12 : decode cL_cell 12 = .ok (.sipush 7919, 3) := by decide +kernel
theorem dL_cell_15 : decode cL_cell 15 = .ok (.iload_n 1, 1) := by decide +kernel
theorem dL_cell_16 : decode cL_cell 16 = .ok (.sipush 1447, 3) := by decide +kernel
theorem dL_cell_19 : decode cL_cell 19 = .ok (.iadd, 1) := by decide +kernel
theorem dL_cell_20 : decode cL_cell 20 = .ok (.imul, 1) := by decide +kernel
theorem dL_cell_21 : decode cL_cell 21 = .ok (.iload_n 1, 1) := by decide +kernel
theorem dL_cell_22 : decode cL_cell 22 = .ok (.sipush 457, 3) := by decide +kernel
theorem dL_cell_25 : decode cL_cell 25 = .ok (.iadd, 1) := by decide +kernel
theorem dL_cell_26 : decode cL_cell 26 = .ok (.imul, 1) := by decide +kernel
theorem dL_cell_27 : decode cL_cell 27 = .ok (.ireturn, 1) := by decide +kernel
theorem dL_low_0 : decode cL_low 0 = .ok (.iload_n 0, 1) := by decide +kernel
theorem dL_low_1 : decode cL_low 1 = .ok (.ldc 7, 2) := by decide +kernel
theorem dL_low_3 : decode cL_low 3 = .ok (.iand, 1) := by decide +kernel
theorem dL_low_4 : decode cL_low 4 = .ok (.iload_n 1, 1) := by decide +kernel
theorem dL_low_5 : decode cL_low 5 = .ok (.irem, 1) := by decide +kernel
theorem dL_low_6 : decode cL_low 6 = .ok (.ireturn, 1) := by decide +kernel
theorem dL_kind_0 : decode cL_kind 0 = .ok (.aload_n 0, 1) := by decide +kernel
theorem dL_kind_1 : decode cL_kind 1 = .ok (.iload_n 1, 1) := by decide +kernel
theorem dL_kind_2 : decode cL_kind 2 = .ok (.iload_n 2, 1) := by decide +kernel
theorem dL_kind_3 : decode cL_kind 3 = .ok (.iload_n 3, 1) := by decide +kernel
theorem dL_kind_4 : decode cL_kind 4 = .ok (.iload 4, 2) := by decide +kernel
theorem dL_kind_6 : decode cL_kind 6 = .ok (.iload 5, 2) := by decide +kernel
theorem dL_kind_8 : decode cL_kind 8 = .ok (.invokevirtual 8, 3) := by decide +kernel
theorem dL_kind_11 : decode cL_kind 11 = .ok (.iconst 0, 1) := by decide +kernel
theorem dL_kind_12 : decode cL_kind 12 = .ok (.ireturn, 1) := by decide +kernel
theorem dL_kind_13 : decode cL_kind 13 = .ok (.astore 6, 2) := by decide +kernel
theorem dL_kind_15 : decode cL_kind 15 = .ok (.ldc 16, 2) := by decide +kernel
theorem dL_kind_17 : decode cL_kind 17 = .ok (.ireturn, 1) := by decide +kernel
theorem dL_kind_18 : decode cL_kind 18 = .ok (.astore 6, 2) := by decide +kernel
theorem dL_kind_20 : decode cL_kind 20 = .ok (.ldc 16, 2) := by decide +kernel
theorem dL_kind_22 : decode cL_kind 22 = .ok (.ireturn, 1) := by decide +kernel
theorem dL_kind_23 : decode cL_kind 23 = .ok (.astore 6, 2) := by decide +kernel
theorem dL_kind_25 : decode cL_kind 25 = .ok (.ldc 16, 2) := by decide +kernel
theorem dL_kind_27 : decode cL_kind 27 = .ok (.ireturn, 1) := by decide +kernel
theorem dL_lot_0 : decode cL_lot 0 = .ok (.aload_n 0, 1) := by decide +kernel
theorem dL_lot_1 : decode cL_lot 1 = .ok (.iload_n 1, 1) := by decide +kernel
theorem dL_lot_2 : decode cL_lot 2 = .ok (.iload_n 2, 1) := by decide +kernel
theorem dL_lot_3 : decode cL_lot 3 = .ok (.iload_n 3, 1) := by decide +kernel
theorem dL_lot_4 : decode cL_lot 4 = .ok (.invokevirtual 21, 3) := by decide +kernel
theorem dL_lot_7 : decode cL_lot 7 = .ok (.ireturn, 1) := by decide +kernel
theorem dL_lot_8 : decode cL_lot 8 = .ok (.astore 4, 2) := by decide +kernel
theorem dL_lot_10 : decode cL_lot 10 = .ok (.ldc 16, 2) := by decide +kernel
theorem dL_lot_12 : decode cL_lot 12 = .ok (.ireturn, 1) := by decide +kernel
theorem dL_lot_13 : decode cL_lot 13 = .ok (.astore 4, 2) := by decide +kernel
theorem dL_lot_15 : decode cL_lot 15 = .ok (.ldc 16, 2) := by decide +kernel
theorem dL_lot_17 : decode cL_lot 17 = .ok (.ireturn, 1) := by decide +kernel
theorem dL_lot_18 : decode cL_lot 18 = .ok (.astore 4, 2) := by decide +kernel
theorem dL_lot_20 : decode cL_lot 20 = .ok (.ldc 16, 2) := by decide +kernel
theorem dL_lot_22 : decode cL_lot 22 = .ok (.ireturn, 1) := by decide +kernel
theorem dL_recall_0 : decode cL_recall 0 = .ok (.aload_n 0, 1) := by decide +kernel
theorem dL_recall_1 : decode cL_recall 1 = .ok (.iload_n 1, 1) := by decide +kernel
theorem dL_recall_2 : decode cL_recall 2 = .ok (.invokevirtual 25, 3) := by decide +kernel
theorem dL_recall_5 : decode cL_recall 5 = .ok (.ireturn, 1) := by decide +kernel
theorem dL_recall_6 : decode cL_recall 6 = .ok (.astore_n 2, 1) := by decide +kernel
theorem dL_recall_7 : decode cL_recall 7 = .ok (.ldc 16, 2) := by decide +kernel
theorem dL_recall_9 : decode cL_recall 9 = .ok (.ireturn, 1) := by decide +kernel
theorem dL_recall_10 : decode cL_recall 10 = .ok (.astore_n 2, 1) := by decide +kernel
theorem dL_recall_11 : decode cL_recall 11 = .ok (.ldc 16, 2) := by decide +kernel
theorem dL_recall_13 : decode cL_recall 13 = .ok (.ireturn, 1) := by decide +kernel
theorem dL_order_0 : decode cL_order 0 = .ok (.aload_n 0, 1) := by decide +kernel
theorem dL_order_1 : decode cL_order 1 = .ok (.iload_n 1, 1) := by decide +kernel
theorem dL_order_2 : decode cL_order 2 = .ok (.invokevirtual 29, 3) := by decide +kernel
theorem dL_order_5 : decode cL_order 5 = .ok (.ireturn, 1) := by decide +kernel
theorem dL_order_6 : decode cL_order 6 = .ok (.astore_n 2, 1) := by decide +kernel
theorem dL_order_7 : decode cL_order 7 = .ok (.ldc 16, 2) := by decide +kernel
theorem dL_order_9 : decode cL_order 9 = .ok (.ireturn, 1) := by decide +kernel
theorem dL_order_10 : decode cL_order 10 = .ok (.astore_n 2, 1) := by decide +kernel
theorem dL_order_11 : decode cL_order 11 = .ok (.ldc 16, 2) := by decide +kernel
theorem dL_order_13 : decode cL_order 13 = .ok (.ireturn, 1) := by decide +kernel
theorem dL_takt_0 : decode cL_takt 0 = .ok (.aload_n 0, 1) := by decide +kernel
theorem dL_takt_1 : decode cL_takt 1 = .ok (.iload_n 1, 1) := by decide +kernel
theorem dL_takt_2 : decode cL_takt 2 = .ok (.invokevirtual 32, 3) := by decide +kernel
theorem dL_takt_5 : decode cL_takt 5 = .ok (.ireturn, 1) := by decide +kernel
theorem dL_takt_6 : decode cL_takt 6 = .ok (.astore_n 2, 1) := by decide +kernel
theorem dL_takt_7 : decode cL_takt 7 = .ok (.ldc 16, 2) := by decide +kernel
theorem dL_takt_9 : decode cL_takt 9 = .ok (.ireturn, 1) := by decide +kernel
theorem dL_fault_0 : decode cL_fault 0 = .ok (.aload_n 0, 1) := by decide +kernel
theorem dL_fault_1 : decode cL_fault 1 = .ok (.iload_n 1, 1) := by decide +kernel
theorem dL_fault_2 : decode cL_fault 2 = .ok (.invokevirtual 35, 3) := by decide +kernel
theorem dL_fault_5 : decode cL_fault 5 = .ok (.ifCond .eq 7, 3) := by decide +kernel
theorem dL_fault_8 : decode cL_fault 8 = .ok (.iconst 1, 1) := by decide +kernel
theorem dL_fault_9 : decode cL_fault 9 = .ok (.goto 4, 3) := by decide +kernel
theorem dL_fault_12 : decode cL_fault 12 = .ok (.iconst 0, 1) := by decide +kernel
theorem dL_fault_13 : decode cL_fault 13 = .ok (.ireturn, 1) := by decide +kernel
theorem dL_fault_14 : decode cL_fault 14 = .ok (.astore_n 2, 1) := by decide +kernel
theorem dL_fault_15 : decode cL_fault 15 = .ok (.ldc 16, 2) := by decide +kernel
theorem dL_fault_17 : decode cL_fault 17 = .ok (.ireturn, 1) := by decide +kernel
theorem dL_fault_18 : decode cL_fault 18 = .ok (.astore_n 2, 1) := by decide +kernel
theorem dL_fault_19 : decode cL_fault 19 = .ok (.ldc 16, 2) := by decide +kernel
theorem dL_fault_21 : decode cL_fault 21 = .ok (.ireturn, 1) := by decide +kernel
theorem dL_build_0 : decode cL_build 0 = .ok (.aload_n 0, 1) := by decide +kernel
theorem dL_build_1 : decode cL_build 1 = .ok (.iload_n 1, 1) := by decide +kernel
theorem dL_build_2 : decode cL_build 2 = .ok (.invokevirtual 39, 3) := by decide +kernel
theorem dL_build_5 : decode cL_build 5 = .ok (.ireturn, 1) := by decide +kernel
theorem dL_build_6 : decode cL_build 6 = .ok (.astore_n 2, 1) := by decide +kernel
theorem dL_build_7 : decode cL_build 7 = .ok (.ldc 16, 2) := by decide +kernel
theorem dL_build_9 : decode cL_build 9 = .ok (.ireturn, 1) := by decide +kernel
theorem dL_build_10 : decode cL_build 10 = .ok (.astore_n 2, 1) := by decide +kernel
theorem dL_build_11 : decode cL_build 11 = .ok (.ldc 16, 2) := by decide +kernel
theorem dL_build_13 : decode cL_build 13 = .ok (.ireturn, 1) := by decide +kernel
theorem dL_sign_0 : decode cL_sign 0 = .ok (.aload_n 0, 1) := by decide +kernel
theorem dL_sign_1 : decode cL_sign 1 = .ok (.iload_n 1, 1) := by decide +kernel
theorem dL_sign_2 : decode cL_sign 2 = .ok (.iload_n 2, 1) := by decide +kernel
theorem dL_sign_3 : decode cL_sign 3 = .ok (.invokevirtual 42, 3) := by decide +kernel
theorem dL_sign_6 : decode cL_sign 6 = .ok (.ifCond .eq 7, 3) := by decide +kernel
theorem dL_sign_9 : decode cL_sign 9 = .ok (.iconst 1, 1) := by decide +kernel
theorem dL_sign_10 : decode cL_sign 10 = .ok (.goto 4, 3) := by decide +kernel
theorem dL_sign_13 : decode cL_sign 13 = .ok (.iconst 0, 1) := by decide +kernel
theorem dL_sign_14 : decode cL_sign 14 = .ok (.ireturn, 1) := by decide +kernel
theorem dL_sign_15 : decode cL_sign 15 = .ok (.astore_n 3, 1) := by decide +kernel
theorem dL_sign_16 : decode cL_sign 16 = .ok (.ldc 16, 2) := by decide +kernel
theorem dL_sign_18 : decode cL_sign 18 = .ok (.ireturn, 1) := by decide +kernel
theorem dL_flash_0 : decode cL_flash 0 = .ok (.aload_n 0, 1) := by decide +kernel
theorem dL_flash_1 : decode cL_flash 1 = .ok (.iload_n 1, 1) := by decide +kernel
theorem dL_flash_2 : decode cL_flash 2 = .ok (.iload_n 2, 1) := by decide +kernel
theorem dL_flash_3 : decode cL_flash 3 = .ok (.invokevirtual 46, 3) := by decide +kernel
theorem dL_flash_6 : decode cL_flash 6 = .ok (.ireturn, 1) := by decide +kernel
theorem dL_flash_7 : decode cL_flash 7 = .ok (.astore_n 3, 1) := by decide +kernel
theorem dL_flash_8 : decode cL_flash 8 = .ok (.ldc 16, 2) := by decide +kernel
theorem dL_flash_10 : decode cL_flash 10 = .ok (.ireturn, 1) := by decide +kernel
theorem dL_flash_11 : decode cL_flash 11 = .ok (.astore_n 3, 1) := by decide +kernel
theorem dL_flash_12 : decode cL_flash 12 = .ok (.ldc 16, 2) := by decide +kernel
theorem dL_flash_14 : decode cL_flash 14 = .ok (.ireturn, 1) := by decide +kernel
theorem dL_units_0 : decode cL_units 0 = .ok (.aload_n 0, 1) := by decide +kernel
theorem dL_units_1 : decode cL_units 1 = .ok (.iload_n 1, 1) := by decide +kernel
theorem dL_units_2 : decode cL_units 2 = .ok (.invokevirtual 50, 3) := by decide +kernel
theorem dL_units_5 : decode cL_units 5 = .ok (.ireturn, 1) := by decide +kernel
theorem dL_units_6 : decode cL_units 6 = .ok (.astore_n 2, 1) := by decide +kernel
theorem dL_units_7 : decode cL_units 7 = .ok (.iconst (-1), 1) := by decide +kernel
theorem dL_units_8 : decode cL_units 8 = .ok (.ireturn, 1) := by decide +kernel
theorem dL_whereIs_0 : decode cL_whereIs 0 = .ok (.aload_n 0, 1) := by decide +kernel
theorem dL_whereIs_1 : decode cL_whereIs 1 = .ok (.iload_n 1, 1) := by decide +kernel
theorem dL_whereIs_2 : decode cL_whereIs 2 = .ok (.invokevirtual 53, 3) := by decide +kernel
theorem dL_whereIs_5 : decode cL_whereIs 5 = .ok (.ireturn, 1) := by decide +kernel
theorem dL_whereIs_6 : decode cL_whereIs 6 = .ok (.astore_n 2, 1) := by decide +kernel
theorem dL_whereIs_7 : decode cL_whereIs 7 = .ok (.iconst (-1), 1) := by decide +kernel
theorem dL_whereIs_8 : decode cL_whereIs 8 = .ok (.ireturn, 1) := by decide +kernel
theorem dL_act_0 : decode cL_act 0 = .ok (.iload_n 1, 1) := by decide +kernel
theorem dL_act_1 : decode cL_act 1 = .ok (.bipush 24, 2) := by decide +kernel
theorem dL_act_3 : decode cL_act 3 = .ok (.ishr, 1) := by decide +kernel
theorem dL_act_4 : decode cL_act 4 = .ok (.bipush 9, 2) := by decide +kernel
theorem dL_act_6 : decode cL_act 6 = .ok (.invokestatic 56, 3) := by decide +kernel
theorem dL_act_9 : decode cL_act 9 = .ok (.ifCond .ne 7, 3) := by decide +kernel
theorem dL_act_12 : decode cL_act 12 = .ok (.iconst 1, 1) := by decide +kernel
theorem dL_act_13 : decode cL_act 13 = .ok (.goto 4, 3) := by decide +kernel
theorem dL_act_16 : decode cL_act 16 = .ok (.iconst 0, 1) := by decide +kernel
theorem dL_act_17 : decode cL_act 17 = .ok (.istore_n 2, 1) := by decide +kernel
theorem dL_act_18 : decode cL_act 18 = .ok (.iload_n 2, 1) := by decide +kernel
theorem dL_act_19 : decode cL_act 19 = .ok (.ifCond .eq 16, 3) := by decide +kernel
theorem dL_act_22 : decode cL_act 22 = .ok (.iload_n 1, 1) := by decide +kernel
theorem dL_act_23 : decode cL_act 23 = .ok (.iconst 4, 1) := by decide +kernel
theorem dL_act_24 : decode cL_act 24 = .ok (.ishr, 1) := by decide +kernel
theorem dL_act_25 : decode cL_act 25 = .ok (.bipush 12, 2) := by decide +kernel
theorem dL_act_27 : decode cL_act 27 = .ok (.invokestatic 56, 3) := by decide +kernel
theorem dL_act_30 : decode cL_act 30 = .ok (.iconst 1, 1) := by decide +kernel
theorem dL_act_31 : decode cL_act 31 = .ok (.isub, 1) := by decide +kernel
theorem dL_act_32 : decode cL_act 32 = .ok (.goto 10, 3) := by decide +kernel
theorem dL_act_35 : decode cL_act 35 = .ok (.iload_n 1, 1) := by decide +kernel
theorem dL_act_36 : decode cL_act 36 = .ok (.iconst 4, 1) := by decide +kernel
theorem dL_act_37 : decode cL_act 37 = .ok (.ishr, 1) := by decide +kernel
theorem dL_act_38 : decode cL_act 38 = .ok (.iconst 4, 1) := by decide +kernel
theorem dL_act_39 : decode cL_act 39 = .ok (.invokestatic 56, 3) := by decide +kernel
theorem dL_act_42 : decode cL_act 42 = .ok (.istore_n 3, 1) := by decide +kernel
theorem dL_act_43 : decode cL_act 43 = .ok (.iload_n 2, 1) := by decide +kernel
theorem dL_act_44 : decode cL_act 44 = .ok (.ifCond .eq 16, 3) := by decide +kernel
theorem dL_act_47 : decode cL_act 47 = .ok (.iload_n 1, 1) := by decide +kernel
theorem dL_act_48 : decode cL_act 48 = .ok (.iconst 4, 1) := by decide +kernel
theorem dL_act_49 : decode cL_act 49 = .ok (.ishr, 1) := by decide +kernel
theorem dL_act_50 : decode cL_act 50 = .ok (.bipush 33, 2) := by decide +kernel
theorem dL_act_52 : decode cL_act 52 = .ok (.invokestatic 56, 3) := by decide +kernel
theorem dL_act_55 : decode cL_act 55 = .ok (.iconst 1, 1) := by decide +kernel
theorem dL_act_56 : decode cL_act 56 = .ok (.isub, 1) := by decide +kernel
theorem dL_act_57 : decode cL_act 57 = .ok (.goto 11, 3) := by decide +kernel
theorem dL_act_60 : decode cL_act 60 = .ok (.iload_n 1, 1) := by decide +kernel
theorem dL_act_61 : decode cL_act 61 = .ok (.iconst 4, 1) := by decide +kernel
theorem dL_act_62 : decode cL_act 62 = .ok (.ishr, 1) := by decide +kernel
theorem dL_act_63 : decode cL_act 63 = .ok (.bipush 6, 2) := by decide +kernel
theorem dL_act_65 : decode cL_act 65 = .ok (.invokestatic 56, 3) := by decide +kernel
theorem dL_act_68 : decode cL_act 68 = .ok (.istore 4, 2) := by decide +kernel
theorem dL_act_70 : decode cL_act 70 = .ok (.iload_n 2, 1) := by decide +kernel
theorem dL_act_71 : decode cL_act 71 = .ok (.ifCond .eq 17, 3) := by decide +kernel
theorem dL_act_74 : decode cL_act 74 = .ok (.iload_n 1, 1) := by decide +kernel
theorem dL_act_75 : decode cL_act 75 = .ok (.bipush 9, 2) := by decide +kernel
theorem dL_act_77 : decode cL_act 77 = .ok (.ishr, 1) := by decide +kernel
theorem dL_act_78 : decode cL_act 78 = .ok (.bipush 43, 2) := by decide +kernel
theorem dL_act_80 : decode cL_act 80 = .ok (.invokestatic 56, 3) := by decide +kernel
theorem dL_act_83 : decode cL_act 83 = .ok (.iconst 1, 1) := by decide +kernel
theorem dL_act_84 : decode cL_act 84 = .ok (.isub, 1) := by decide +kernel
theorem dL_act_85 : decode cL_act 85 = .ok (.goto 12, 3) := by decide +kernel
theorem dL_act_88 : decode cL_act 88 = .ok (.iload_n 1, 1) := by decide +kernel
theorem dL_act_89 : decode cL_act 89 = .ok (.bipush 9, 2) := by decide +kernel
theorem dL_act_91 : decode cL_act 91 = .ok (.ishr, 1) := by decide +kernel
theorem dL_act_92 : decode cL_act 92 = .ok (.bipush 6, 2) := by decide +kernel
theorem dL_act_94 : decode cL_act 94 = .ok (.invokestatic 56, 3) := by decide +kernel
theorem dL_act_97 : decode cL_act 97 = .ok (.istore 5, 2) := by decide +kernel
theorem dL_act_99 : decode cL_act 99 = .ok (.aload_n 0, 1) := by decide +kernel
theorem dL_act_100 : decode cL_act 100 = .ok (.iconst 5, 1) := by decide +kernel
theorem dL_act_101 : decode cL_act 101 = .ok (.iload_n 1, 1) := by decide +kernel
theorem dL_act_102 : decode cL_act 102 = .ok (.iconst 4, 1) := by decide +kernel
theorem dL_act_103 : decode cL_act 103 = .ok (.ishr, 1) := by decide +kernel
theorem dL_act_104 : decode cL_act 104 = .ok (.iconst 3, 1) := by decide +kernel
theorem dL_act_105 : decode cL_act 105 = .ok (.invokestatic 56, 3) := by decide +kernel
theorem dL_act_108 : decode cL_act 108 = .ok (.iadd, 1) := by decide +kernel
theorem dL_act_109 : decode cL_act 109 = .ok (.invokevirtual 61, 3) := by decide +kernel
theorem dL_act_112 : decode cL_act 112 = .ok (.istore 6, 2) := by decide +kernel
theorem dL_act_114 : decode cL_act 114 = .ok (.iload_n 2, 1) := by decide +kernel
theorem dL_act_115 : decode cL_act 115 = .ok (.ifCond .ne 13, 3) := by decide +kernel
theorem dL_act_118 : decode cL_act 118 = .ok (.iload 6, 2) := by decide +kernel
theorem dL_act_120 : decode cL_act 120 = .ok (.ifCond .lt 8, 3) := by decide +kernel
theorem dL_act_123 : decode cL_act 123 = .ok (.iload 6, 2) := by decide +kernel
theorem dL_act_125 : decode cL_act 125 = .ok (.goto 5, 3) := by decide +kernel
theorem dL_act_128 : decode cL_act 128 = .ok (.iload 4, 2) := by decide +kernel
theorem dL_act_130 : decode cL_act 130 = .ok (.istore 7, 2) := by decide +kernel
theorem dL_act_132 : decode cL_act 132 = .ok (.iload_n 1, 1) := by decide +kernel
theorem dL_act_133 : decode cL_act 133 = .ok (.bipush 22, 2) := by decide +kernel
theorem dL_act_135 : decode cL_act 135 = .ok (.invokestatic 56, 3) := by decide +kernel
theorem dL_act_138 : decode cL_act 138 = .ok (.tableswitch 326 0 16 #[82, 82, 193, 193, 193, 256, 263, 263, 263, 294, 301, 301, 301, 308, 308, 317, 317], 82) := by decide +kernel
theorem dL_act_220 : decode cL_act 220 = .ok (.aload_n 0, 1) := by decide +kernel
theorem dL_act_221 : decode cL_act 221 = .ok (.iload_n 3, 1) := by decide +kernel
theorem dL_act_222 : decode cL_act 222 = .ok (.iload_n 2, 1) := by decide +kernel
theorem dL_act_223 : decode cL_act 223 = .ok (.ifCond .eq 17, 3) := by decide +kernel
theorem dL_act_226 : decode cL_act 226 = .ok (.iload_n 1, 1) := by decide +kernel
theorem dL_act_227 : decode cL_act 227 = .ok (.bipush 8, 2) := by decide +kernel
theorem dL_act_229 : decode cL_act 229 = .ok (.ishr, 1) := by decide +kernel
theorem dL_act_230 : decode cL_act 230 = .ok (.bipush 8, 2) := by decide +kernel
theorem dL_act_232 : decode cL_act 232 = .ok (.invokestatic 56, 3) := by decide +kernel
theorem dL_act_235 : decode cL_act 235 = .ok (.iconst 1, 1) := by decide +kernel
theorem dL_act_236 : decode cL_act 236 = .ok (.isub, 1) := by decide +kernel
theorem dL_act_237 : decode cL_act 237 = .ok (.goto 11, 3) := by decide +kernel
theorem dL_act_240 : decode cL_act 240 = .ok (.iload_n 1, 1) := by decide +kernel
theorem dL_act_241 : decode cL_act 241 = .ok (.bipush 8, 2) := by decide +kernel
theorem dL_act_243 : decode cL_act 243 = .ok (.ishr, 1) := by decide +kernel
theorem dL_act_244 : decode cL_act 244 = .ok (.iconst 5, 1) := by decide +kernel
theorem dL_act_245 : decode cL_act 245 = .ok (.invokestatic 56, 3) := by decide +kernel
theorem dL_act_248 : decode cL_act 248 = .ok (.iload_n 2, 1) := by decide +kernel
theorem dL_act_249 : decode cL_act 249 = .ok (.ifCond .eq 16, 3) := by decide +kernel
theorem dL_act_252 : decode cL_act 252 = .ok (.iload_n 1, 1) := by decide +kernel
theorem dL_act_253 : decode cL_act 253 = .ok (.bipush 11, 2) := by decide +kernel
theorem dL_act_255 : decode cL_act 255 = .ok (.ishr, 1) := by decide +kernel
theorem dL_act_256 : decode cL_act 256 = .ok (.sipush 300, 3) := by decide +kernel
theorem dL_act_259 : decode cL_act 259 = .ok (.invokestatic 56, 3) := by decide +kernel
theorem dL_act_262 : decode cL_act 262 = .ok (.goto 13, 3) := by decide +kernel
theorem dL_act_265 : decode cL_act 265 = .ok (.iconst 1, 1) := by decide +kernel
theorem dL_act_266 : decode cL_act 266 = .ok (.iload_n 1, 1) := by decide +kernel
theorem dL_act_267 : decode cL_act 267 = .ok (.bipush 11, 2) := by decide +kernel
theorem dL_act_269 : decode cL_act 269 = .ok (.ishr, 1) := by decide +kernel
theorem dL_act_270 : decode cL_act 270 = .ok (.iconst 3, 1) := by decide +kernel
theorem dL_act_271 : decode cL_act 271 = .ok (.invokestatic 56, 3) := by decide +kernel
theorem dL_act_274 : decode cL_act 274 = .ok (.ishl, 1) := by decide +kernel
theorem dL_act_275 : decode cL_act 275 = .ok (.iload_n 2, 1) := by decide +kernel
theorem dL_act_276 : decode cL_act 276 = .ok (.ifCond .eq 19, 3) := by decide +kernel
theorem dL_act_279 : decode cL_act 279 = .ok (.iload_n 1, 1) := by decide +kernel
theorem dL_act_280 : decode cL_act 280 = .ok (.bipush 14, 2) := by decide +kernel
theorem dL_act_282 : decode cL_act 282 = .ok (.ishr, 1) := by decide +kernel
theorem dL_act_283 : decode cL_act 283 = .ok (.sipush 300, 3) := by decide +kernel
theorem dL_act_286 : decode cL_act 286 = .ok (.invokestatic 56, 3) := by decide +kernel
theorem dL_act_289 : decode cL_act 289 = .ok (.bipush 9, 2) := by decide +kernel
theorem dL_act_291 : decode cL_act 291 = .ok (.isub, 1) := by decide +kernel
theorem dL_act_292 : decode cL_act 292 = .ok (.goto 20, 3) := by decide +kernel
theorem dL_act_295 : decode cL_act 295 = .ok (.iload_n 1, 1) := by decide +kernel
theorem dL_act_296 : decode cL_act 296 = .ok (.bipush 14, 2) := by decide +kernel
theorem dL_act_298 : decode cL_act 298 = .ok (.ishr, 1) := by decide +kernel
theorem dL_act_299 : decode cL_act 299 = .ok (.iconst 3, 1) := by decide +kernel
theorem dL_act_300 : decode cL_act 300 = .ok (.invokestatic 56, 3) := by decide +kernel
theorem dL_act_303 : decode cL_act 303 = .ok (.ifCond .ne 8, 3) := by decide +kernel
theorem dL_act_306 : decode cL_act 306 = .ok (.bipush 8, 2) := by decide +kernel
theorem dL_act_308 : decode cL_act 308 = .ok (.goto 4, 3) := by decide +kernel
theorem dL_act_311 : decode cL_act 311 = .ok (.iconst 0, 1) := by decide +kernel
theorem dL_act_312 : decode cL_act 312 = .ok (.iload_n 1, 1) := by decide +kernel
theorem dL_act_313 : decode cL_act 313 = .ok (.bipush 17, 2) := by decide +kernel
theorem dL_act_315 : decode cL_act 315 = .ok (.ishr, 1) := by decide +kernel
theorem dL_act_316 : decode cL_act 316 = .ok (.iconst 1, 1) := by decide +kernel
theorem dL_act_317 : decode cL_act 317 = .ok (.iand, 1) := by decide +kernel
theorem dL_act_318 : decode cL_act 318 = .ok (.iconst 1, 1) := by decide +kernel
theorem dL_act_319 : decode cL_act 319 = .ok (.if_icmp .ne 7, 3) := by decide +kernel
theorem dL_act_322 : decode cL_act 322 = .ok (.iconst 1, 1) := by decide +kernel
theorem dL_act_323 : decode cL_act 323 = .ok (.goto 4, 3) := by decide +kernel
theorem dL_act_326 : decode cL_act 326 = .ok (.iconst 0, 1) := by decide +kernel
theorem dL_act_327 : decode cL_act 327 = .ok (.invokestatic 64, 3) := by decide +kernel
theorem dL_act_330 : decode cL_act 330 = .ok (.ireturn, 1) := by decide +kernel
theorem dL_act_331 : decode cL_act 331 = .ok (.aload_n 0, 1) := by decide +kernel
theorem dL_act_332 : decode cL_act 332 = .ok (.iload_n 3, 1) := by decide +kernel
theorem dL_act_333 : decode cL_act 333 = .ok (.iload_n 2, 1) := by decide +kernel
theorem dL_act_334 : decode cL_act 334 = .ok (.ifCond .eq 17, 3) := by decide +kernel
theorem dL_act_337 : decode cL_act 337 = .ok (.iload_n 1, 1) := by decide +kernel
theorem dL_act_338 : decode cL_act 338 = .ok (.bipush 8, 2) := by decide +kernel
theorem dL_act_340 : decode cL_act 340 = .ok (.ishr, 1) := by decide +kernel
theorem dL_act_341 : decode cL_act 341 = .ok (.bipush 103, 2) := by decide +kernel
theorem dL_act_343 : decode cL_act 343 = .ok (.invokestatic 56, 3) := by decide +kernel
theorem dL_act_346 : decode cL_act 346 = .ok (.iconst 1, 1) := by decide +kernel
theorem dL_act_347 : decode cL_act 347 = .ok (.isub, 1) := by decide +kernel
theorem dL_act_348 : decode cL_act 348 = .ok (.goto 14, 3) := by decide +kernel
theorem dL_act_351 : decode cL_act 351 = .ok (.iconst 1, 1) := by decide +kernel
theorem dL_act_352 : decode cL_act 352 = .ok (.iload_n 1, 1) := by decide +kernel
theorem dL_act_353 : decode cL_act 353 = .ok (.bipush 8, 2) := by decide +kernel
theorem dL_act_355 : decode cL_act 355 = .ok (.ishr, 1) := by decide +kernel
theorem dL_act_356 : decode cL_act 356 = .ok (.bipush 9, 2) := by decide +kernel
theorem dL_act_358 : decode cL_act 358 = .ok (.invokestatic 56, 3) := by decide +kernel
theorem dL_act_361 : decode cL_act 361 = .ok (.iadd, 1) := by decide +kernel
theorem dL_act_362 : decode cL_act 362 = .ok (.iload_n 2, 1) := by decide +kernel
theorem dL_act_363 : decode cL_act 363 = .ok (.ifCond .eq 17, 3) := by decide +kernel
theorem dL_act_366 : decode cL_act 366 = .ok (.iload_n 1, 1) := by decide +kernel
theorem dL_act_367 : decode cL_act 367 = .ok (.bipush 12, 2) := by decide +kernel
theorem dL_act_369 : decode cL_act 369 = .ok (.ishr, 1) := by decide +kernel
theorem dL_act_370 : decode cL_act 370 = .ok (.bipush 54, 2) := by decide +kernel
theorem dL_act_372 : decode cL_act 372 = .ok (.invokestatic 56, 3) := by decide +kernel
theorem dL_act_375 : decode cL_act 375 = .ok (.iconst 1, 1) := by decide +kernel
theorem dL_act_376 : decode cL_act 376 = .ok (.isub, 1) := by decide +kernel
theorem dL_act_377 : decode cL_act 377 = .ok (.goto 13, 3) := by decide +kernel
theorem dL_act_380 : decode cL_act 380 = .ok (.iconst 1, 1) := by decide +kernel
theorem dL_act_381 : decode cL_act 381 = .ok (.iload_n 1, 1) := by decide +kernel
theorem dL_act_382 : decode cL_act 382 = .ok (.bipush 12, 2) := by decide +kernel
theorem dL_act_384 : decode cL_act 384 = .ok (.ishr, 1) := by decide +kernel
theorem dL_act_385 : decode cL_act 385 = .ok (.iconst 4, 1) := by decide +kernel
theorem dL_act_386 : decode cL_act 386 = .ok (.invokestatic 56, 3) := by decide +kernel
theorem dL_act_389 : decode cL_act 389 = .ok (.iadd, 1) := by decide +kernel
theorem dL_act_390 : decode cL_act 390 = .ok (.invokestatic 67, 3) := by decide +kernel
theorem dL_act_393 : decode cL_act 393 = .ok (.ireturn, 1) := by decide +kernel
theorem dL_act_394 : decode cL_act 394 = .ok (.aload_n 0, 1) := by decide +kernel
theorem dL_act_395 : decode cL_act 395 = .ok (.iload 5, 2) := by decide +kernel
theorem dL_act_397 : decode cL_act 397 = .ok (.invokestatic 70, 3) := by decide +kernel
theorem dL_act_400 : decode cL_act 400 = .ok (.ireturn, 1) := by decide +kernel
theorem dL_act_401 : decode cL_act 401 = .ok (.aload_n 0, 1) := by decide +kernel
theorem dL_act_402 : decode cL_act 402 = .ok (.iload_n 2, 1) := by decide +kernel
theorem dL_act_403 : decode cL_act 403 = .ok (.ifCond .eq 17, 3) := by decide +kernel
theorem dL_act_406 : decode cL_act 406 = .ok (.iload_n 1, 1) := by decide +kernel
theorem dL_act_407 : decode cL_act 407 = .ok (.iconst 4, 1) := by decide +kernel
theorem dL_act_408 : decode cL_act 408 = .ok (.ishr, 1) := by decide +kernel
theorem dL_act_409 : decode cL_act 409 = .ok (.sipush 259, 3) := by decide +kernel
theorem dL_act_412 : decode cL_act 412 = .ok (.invokestatic 56, 3) := by decide +kernel
theorem dL_act_415 : decode cL_act 415 = .ok (.iconst 1, 1) := by decide +kernel
theorem dL_act_416 : decode cL_act 416 = .ok (.isub, 1) := by decide +kernel
theorem dL_act_417 : decode cL_act 417 = .ok (.goto 11, 3) := by decide +kernel
theorem dL_act_420 : decode cL_act 420 = .ok (.iload_n 1, 1) := by decide +kernel
theorem dL_act_421 : decode cL_act 421 = .ok (.iconst 4, 1) := by decide +kernel
theorem dL_act_422 : decode cL_act 422 = .ok (.ishr, 1) := by decide +kernel
theorem dL_act_423 : decode cL_act 423 = .ok (.bipush 16, 2) := by decide +kernel
theorem dL_act_425 : decode cL_act 425 = .ok (.invokestatic 56, 3) := by decide +kernel
theorem dL_act_428 : decode cL_act 428 = .ok (.invokestatic 73, 3) := by decide +kernel
theorem dL_act_431 : decode cL_act 431 = .ok (.ireturn, 1) := by decide +kernel
theorem dL_act_432 : decode cL_act 432 = .ok (.aload_n 0, 1) := by decide +kernel
theorem dL_act_433 : decode cL_act 433 = .ok (.iload 4, 2) := by decide +kernel
theorem dL_act_435 : decode cL_act 435 = .ok (.invokestatic 75, 3) := by decide +kernel
theorem dL_act_438 : decode cL_act 438 = .ok (.ireturn, 1) := by decide +kernel
theorem dL_act_439 : decode cL_act 439 = .ok (.aload_n 0, 1) := by decide +kernel
theorem dL_act_440 : decode cL_act 440 = .ok (.iload 7, 2) := by decide +kernel
theorem dL_act_442 : decode cL_act 442 = .ok (.invokestatic 77, 3) := by decide +kernel
theorem dL_act_445 : decode cL_act 445 = .ok (.ireturn, 1) := by decide +kernel
theorem dL_act_446 : decode cL_act 446 = .ok (.aload_n 0, 1) := by decide +kernel
theorem dL_act_447 : decode cL_act 447 = .ok (.iload 5, 2) := by decide +kernel
theorem dL_act_449 : decode cL_act 449 = .ok (.iload 7, 2) := by decide +kernel
theorem dL_act_451 : decode cL_act 451 = .ok (.invokestatic 79, 3) := by decide +kernel
theorem dL_act_454 : decode cL_act 454 = .ok (.ireturn, 1) := by decide +kernel
theorem dL_act_455 : decode cL_act 455 = .ok (.aload_n 0, 1) := by decide +kernel
theorem dL_act_456 : decode cL_act 456 = .ok (.iload 7, 2) := by decide +kernel
theorem dL_act_458 : decode cL_act 458 = .ok (.iload 5, 2) := by decide +kernel
theorem dL_act_460 : decode cL_act 460 = .ok (.invokestatic 82, 3) := by decide +kernel
theorem dL_act_463 : decode cL_act 463 = .ok (.ireturn, 1) := by decide +kernel
theorem dL_act_464 : decode cL_act 464 = .ok (.aload_n 0, 1) := by decide +kernel
theorem dL_act_465 : decode cL_act 465 = .ok (.iload_n 2, 1) := by decide +kernel
theorem dL_act_466 : decode cL_act 466 = .ok (.ifCond .eq 16, 3) := by decide +kernel
theorem dL_act_469 : decode cL_act 469 = .ok (.iload_n 1, 1) := by decide +kernel
theorem dL_act_470 : decode cL_act 470 = .ok (.iconst 4, 1) := by decide +kernel
theorem dL_act_471 : decode cL_act 471 = .ok (.ishr, 1) := by decide +kernel
theorem dL_act_472 : decode cL_act 472 = .ok (.bipush 23, 2) := by decide +kernel
theorem dL_act_474 : decode cL_act 474 = .ok (.invokestatic 56, 3) := by decide +kernel
theorem dL_act_477 : decode cL_act 477 = .ok (.iconst 1, 1) := by decide +kernel
theorem dL_act_478 : decode cL_act 478 = .ok (.isub, 1) := by decide +kernel
theorem dL_act_479 : decode cL_act 479 = .ok (.goto 12, 3) := by decide +kernel
theorem dL_act_482 : decode cL_act 482 = .ok (.iconst 1, 1) := by decide +kernel
theorem dL_act_483 : decode cL_act 483 = .ok (.iload_n 1, 1) := by decide +kernel
theorem dL_act_484 : decode cL_act 484 = .ok (.iconst 4, 1) := by decide +kernel
theorem dL_act_485 : decode cL_act 485 = .ok (.ishr, 1) := by decide +kernel
theorem dL_act_486 : decode cL_act 486 = .ok (.iconst 2, 1) := by decide +kernel
theorem dL_act_487 : decode cL_act 487 = .ok (.invokestatic 56, 3) := by decide +kernel
theorem dL_act_490 : decode cL_act 490 = .ok (.iadd, 1) := by decide +kernel
theorem dL_act_491 : decode cL_act 491 = .ok (.invokestatic 84, 3) := by decide +kernel
theorem dL_act_494 : decode cL_act 494 = .ok (.ireturn, 1) := by decide +kernel
theorem dL_areAlike_0 : decode cL_areAlike 0 = .ok (.aload_n 0, 1) := by decide +kernel
theorem dL_areAlike_1 : decode cL_areAlike 1 = .ok (.invokevirtual 86, 3) := by decide +kernel
theorem dL_areAlike_4 : decode cL_areAlike 4 = .ok (.aload_n 1, 1) := by decide +kernel
theorem dL_areAlike_5 : decode cL_areAlike 5 = .ok (.invokevirtual 86, 3) := by decide +kernel
theorem dL_areAlike_8 : decode cL_areAlike 8 = .ok (.if_icmp .ne 51, 3) := by decide +kernel
theorem dL_areAlike_11 : decode cL_areAlike 11 = .ok (.aload_n 0, 1) := by decide +kernel
theorem dL_areAlike_12 : decode cL_areAlike 12 = .ok (.invokevirtual 90, 3) := by decide +kernel
theorem dL_areAlike_15 : decode cL_areAlike 15 = .ok (.aload_n 1, 1) := by decide +kernel
theorem dL_areAlike_16 : decode cL_areAlike 16 = .ok (.invokevirtual 90, 3) := by decide +kernel
theorem dL_areAlike_19 : decode cL_areAlike 19 = .ok (.if_icmp .ne 40, 3) := by decide +kernel
theorem dL_areAlike_22 : decode cL_areAlike 22 = .ok (.aload_n 0, 1) := by decide +kernel
theorem dL_areAlike_23 : decode cL_areAlike 23 = .ok (.invokevirtual 93, 3) := by decide +kernel
theorem dL_areAlike_26 : decode cL_areAlike 26 = .ok (.aload_n 1, 1) := by decide +kernel
theorem dL_areAlike_27 : decode cL_areAlike 27 = .ok (.invokevirtual 93, 3) := by decide +kernel
theorem dL_areAlike_30 : decode cL_areAlike 30 = .ok (.if_icmp .ne 29, 3) := by decide +kernel
theorem dL_areAlike_33 : decode cL_areAlike 33 = .ok (.aload_n 0, 1) := by decide +kernel
theorem dL_areAlike_34 : decode cL_areAlike 34 = .ok (.invokevirtual 96, 3) := by decide +kernel
theorem dL_areAlike_37 : decode cL_areAlike 37 = .ok (.aload_n 1, 1) := by decide +kernel
theorem dL_areAlike_38 : decode cL_areAlike 38 = .ok (.invokevirtual 96, 3) := by decide +kernel
theorem dL_areAlike_41 : decode cL_areAlike 41 = .ok (.if_icmp .ne 18, 3) := by decide +kernel
theorem dL_areAlike_44 : decode cL_areAlike 44 = .ok (.aload_n 0, 1) := by decide +kernel
theorem dL_areAlike_45 : decode cL_areAlike 45 = .ok (.invokevirtual 99, 3) := by decide +kernel
theorem dL_areAlike_48 : decode cL_areAlike 48 = .ok (.aload_n 1, 1) := by decide +kernel
theorem dL_areAlike_49 : decode cL_areAlike 49 = .ok (.invokevirtual 99, 3) := by decide +kernel
theorem dL_areAlike_52 : decode cL_areAlike 52 = .ok (.if_icmp .ne 7, 3) := by decide +kernel
theorem dL_areAlike_55 : decode cL_areAlike 55 = .ok (.iconst 1, 1) := by decide +kernel
theorem dL_areAlike_56 : decode cL_areAlike 56 = .ok (.goto 4, 3) := by decide +kernel
theorem dL_areAlike_59 : decode cL_areAlike 59 = .ok (.iconst 0, 1) := by decide +kernel
theorem dL_areAlike_60 : decode cL_areAlike 60 = .ok (.istore_n 2, 1) := by decide +kernel
theorem dL_areAlike_61 : decode cL_areAlike 61 = .ok (.iconst 0, 1) := by decide +kernel
theorem dL_areAlike_62 : decode cL_areAlike 62 = .ok (.istore_n 3, 1) := by decide +kernel
theorem dL_areAlike_63 : decode cL_areAlike 63 = .ok (.iload_n 3, 1) := by decide +kernel
theorem dL_areAlike_64 : decode cL_areAlike 64 = .ok (.bipush 30, 2) := by decide +kernel
theorem dL_areAlike_66 : decode cL_areAlike 66 = .ok (.if_icmp .ge 105, 3) := by decide +kernel
theorem dL_areAlike_69 : decode cL_areAlike 69 = .ok (.iload_n 2, 1) := by decide +kernel
theorem dL_areAlike_70 : decode cL_areAlike 70 = .ok (.ifCond .eq 101, 3) := by decide +kernel
theorem dL_areAlike_73 : decode cL_areAlike 73 = .ok (.aload_n 0, 1) := by decide +kernel
theorem dL_areAlike_74 : decode cL_areAlike 74 = .ok (.iload_n 3, 1) := by decide +kernel
theorem dL_areAlike_75 : decode cL_areAlike 75 = .ok (.invokestatic 102, 3) := by decide +kernel
theorem dL_areAlike_78 : decode cL_areAlike 78 = .ok (.ifCond .lt 93, 3) := by decide +kernel
theorem dL_areAlike_81 : decode cL_areAlike 81 = .ok (.aload_n 1, 1) := by decide +kernel
theorem dL_areAlike_82 : decode cL_areAlike 82 = .ok (.iload_n 3, 1) := by decide +kernel
theorem dL_areAlike_83 : decode cL_areAlike 83 = .ok (.invokestatic 102, 3) := by decide +kernel
theorem dL_areAlike_86 : decode cL_areAlike 86 = .ok (.aload_n 0, 1) := by decide +kernel
theorem dL_areAlike_87 : decode cL_areAlike 87 = .ok (.iload_n 3, 1) := by decide +kernel
theorem dL_areAlike_88 : decode cL_areAlike 88 = .ok (.invokevirtual 53, 3) := by decide +kernel
theorem dL_areAlike_91 : decode cL_areAlike 91 = .ok (.if_icmp .ne 72, 3) := by decide +kernel
theorem dL_areAlike_94 : decode cL_areAlike 94 = .ok (.aload_n 0, 1) := by decide +kernel
theorem dL_areAlike_95 : decode cL_areAlike 95 = .ok (.iload_n 3, 1) := by decide +kernel
theorem dL_areAlike_96 : decode cL_areAlike 96 = .ok (.invokevirtual 104, 3) := by decide +kernel
theorem dL_areAlike_99 : decode cL_areAlike 99 = .ok (.aload_n 1, 1) := by decide +kernel
theorem dL_areAlike_100 : decode cL_areAlike 100 = .ok (.iload_n 3, 1) := by decide +kernel
theorem dL_areAlike_101 : decode cL_areAlike 101 = .ok (.invokevirtual 104, 3) := by decide +kernel
theorem dL_areAlike_104 : decode cL_areAlike 104 = .ok (.if_icmp .ne 59, 3) := by decide +kernel
theorem dL_areAlike_107 : decode cL_areAlike 107 = .ok (.aload_n 0, 1) := by decide +kernel
theorem dL_areAlike_108 : decode cL_areAlike 108 = .ok (.iload_n 3, 1) := by decide +kernel
theorem dL_areAlike_109 : decode cL_areAlike 109 = .ok (.invokevirtual 107, 3) := by decide +kernel
theorem dL_areAlike_112 : decode cL_areAlike 112 = .ok (.aload_n 1, 1) := by decide +kernel
theorem dL_areAlike_113 : decode cL_areAlike 113 = .ok (.iload_n 3, 1) := by decide +kernel
theorem dL_areAlike_114 : decode cL_areAlike 114 = .ok (.invokevirtual 107, 3) := by decide +kernel
theorem dL_areAlike_117 : decode cL_areAlike 117 = .ok (.if_icmp .ne 46, 3) := by decide +kernel
theorem dL_areAlike_120 : decode cL_areAlike 120 = .ok (.aload_n 0, 1) := by decide +kernel
theorem dL_areAlike_121 : decode cL_areAlike 121 = .ok (.iload_n 3, 1) := by decide +kernel
theorem dL_areAlike_122 : decode cL_areAlike 122 = .ok (.invokevirtual 110, 3) := by decide +kernel
theorem dL_areAlike_125 : decode cL_areAlike 125 = .ok (.aload_n 1, 1) := by decide +kernel
theorem dL_areAlike_126 : decode cL_areAlike 126 = .ok (.iload_n 3, 1) := by decide +kernel
theorem dL_areAlike_127 : decode cL_areAlike 127 = .ok (.invokevirtual 110, 3) := by decide +kernel
theorem dL_areAlike_130 : decode cL_areAlike 130 = .ok (.if_icmp .ne 33, 3) := by decide +kernel
theorem dL_areAlike_133 : decode cL_areAlike 133 = .ok (.aload_n 0, 1) := by decide +kernel
theorem dL_areAlike_134 : decode cL_areAlike 134 = .ok (.iload_n 3, 1) := by decide +kernel
theorem dL_areAlike_135 : decode cL_areAlike 135 = .ok (.invokevirtual 113, 3) := by decide +kernel
theorem dL_areAlike_138 : decode cL_areAlike 138 = .ok (.aload_n 1, 1) := by decide +kernel
theorem dL_areAlike_139 : decode cL_areAlike 139 = .ok (.iload_n 3, 1) := by decide +kernel
theorem dL_areAlike_140 : decode cL_areAlike 140 = .ok (.invokevirtual 113, 3) := by decide +kernel
theorem dL_areAlike_143 : decode cL_areAlike 143 = .ok (.if_icmp .ne 20, 3) := by decide +kernel
theorem dL_areAlike_146 : decode cL_areAlike 146 = .ok (.aload_n 0, 1) := by decide +kernel
theorem dL_areAlike_147 : decode cL_areAlike 147 = .ok (.iload_n 3, 1) := by decide +kernel
theorem dL_areAlike_148 : decode cL_areAlike 148 = .ok (.invokevirtual 116, 3) := by decide +kernel
theorem dL_areAlike_151 : decode cL_areAlike 151 = .ok (.aload_n 1, 1) := by decide +kernel
theorem dL_areAlike_152 : decode cL_areAlike 152 = .ok (.iload_n 3, 1) := by decide +kernel
theorem dL_areAlike_153 : decode cL_areAlike 153 = .ok (.invokevirtual 116, 3) := by decide +kernel
theorem dL_areAlike_156 : decode cL_areAlike 156 = .ok (.if_icmp .ne 7, 3) := by decide +kernel
theorem dL_areAlike_159 : decode cL_areAlike 159 = .ok (.iconst 1, 1) := by decide +kernel
theorem dL_areAlike_160 : decode cL_areAlike 160 = .ok (.goto 4, 3) := by decide +kernel
theorem dL_areAlike_163 : decode cL_areAlike 163 = .ok (.iconst 0, 1) := by decide +kernel
theorem dL_areAlike_164 : decode cL_areAlike 164 = .ok (.istore_n 2, 1) := by decide +kernel
theorem dL_areAlike_165 : decode cL_areAlike 165 = .ok (.iinc 3 1, 3) := by decide +kernel
theorem dL_areAlike_168 : decode cL_areAlike 168 = .ok (.goto (-105), 3) := by decide +kernel
theorem dL_areAlike_171 : decode cL_areAlike 171 = .ok (.iconst 0, 1) := by decide +kernel
theorem dL_areAlike_172 : decode cL_areAlike 172 = .ok (.istore_n 3, 1) := by decide +kernel
theorem dL_areAlike_173 : decode cL_areAlike 173 = .ok (.iload_n 3, 1) := by decide +kernel
theorem dL_areAlike_174 : decode cL_areAlike 174 = .ok (.bipush 40, 2) := by decide +kernel
theorem dL_areAlike_176 : decode cL_areAlike 176 = .ok (.if_icmp .ge 40, 3) := by decide +kernel
theorem dL_areAlike_179 : decode cL_areAlike 179 = .ok (.iload_n 2, 1) := by decide +kernel
theorem dL_areAlike_180 : decode cL_areAlike 180 = .ok (.ifCond .eq 36, 3) := by decide +kernel
theorem dL_areAlike_183 : decode cL_areAlike 183 = .ok (.aload_n 0, 1) := by decide +kernel
theorem dL_areAlike_184 : decode cL_areAlike 184 = .ok (.iload_n 3, 1) := by decide +kernel
theorem dL_areAlike_185 : decode cL_areAlike 185 = .ok (.invokestatic 119, 3) := by decide +kernel
theorem dL_areAlike_188 : decode cL_areAlike 188 = .ok (.ifCond .lt 28, 3) := by decide +kernel
theorem dL_areAlike_191 : decode cL_areAlike 191 = .ok (.aload_n 1, 1) := by decide +kernel
theorem dL_areAlike_192 : decode cL_areAlike 192 = .ok (.iload_n 3, 1) := by decide +kernel
theorem dL_areAlike_193 : decode cL_areAlike 193 = .ok (.invokestatic 119, 3) := by decide +kernel
theorem dL_areAlike_196 : decode cL_areAlike 196 = .ok (.aload_n 0, 1) := by decide +kernel
theorem dL_areAlike_197 : decode cL_areAlike 197 = .ok (.iload_n 3, 1) := by decide +kernel
theorem dL_areAlike_198 : decode cL_areAlike 198 = .ok (.invokevirtual 50, 3) := by decide +kernel
theorem dL_areAlike_201 : decode cL_areAlike 201 = .ok (.if_icmp .ne 7, 3) := by decide +kernel
theorem dL_areAlike_204 : decode cL_areAlike 204 = .ok (.iconst 1, 1) := by decide +kernel
theorem dL_areAlike_205 : decode cL_areAlike 205 = .ok (.goto 4, 3) := by decide +kernel
theorem dL_areAlike_208 : decode cL_areAlike 208 = .ok (.iconst 0, 1) := by decide +kernel
theorem dL_areAlike_209 : decode cL_areAlike 209 = .ok (.istore_n 2, 1) := by decide +kernel
theorem dL_areAlike_210 : decode cL_areAlike 210 = .ok (.iinc 3 1, 3) := by decide +kernel
theorem dL_areAlike_213 : decode cL_areAlike 213 = .ok (.goto (-40), 3) := by decide +kernel
theorem dL_areAlike_216 : decode cL_areAlike 216 = .ok (.iload_n 2, 1) := by decide +kernel
theorem dL_areAlike_217 : decode cL_areAlike 217 = .ok (.ireturn, 1) := by decide +kernel
theorem dL_isCarSo_0 : decode cL_isCarSo 0 = .ok (.aload_n 0, 1) := by decide +kernel
theorem dL_isCarSo_1 : decode cL_isCarSo 1 = .ok (.iload_n 1, 1) := by decide +kernel
theorem dL_isCarSo_2 : decode cL_isCarSo 2 = .ok (.invokevirtual 121, 3) := by decide +kernel
theorem dL_isCarSo_5 : decode cL_isCarSo 5 = .ok (.istore_n 2, 1) := by decide +kernel
theorem dL_isCarSo_6 : decode cL_isCarSo 6 = .ok (.aload_n 0, 1) := by decide +kernel
theorem dL_isCarSo_7 : decode cL_isCarSo 7 = .ok (.iload_n 1, 1) := by decide +kernel
theorem dL_isCarSo_8 : decode cL_isCarSo 8 = .ok (.invokevirtual 107, 3) := by decide +kernel
theorem dL_isCarSo_11 : decode cL_isCarSo 11 = .ok (.istore_n 3, 1) := by decide +kernel
theorem dL_isCarSo_12 : decode cL_isCarSo 12 = .ok (.aload_n 0, 1) := by decide +kernel
theorem dL_isCarSo_13 : decode cL_isCarSo 13 = .ok (.iload_n 1, 1) := by decide +kernel
theorem dL_isCarSo_14 : decode cL_isCarSo 14 = .ok (.invokevirtual 53, 3) := by decide +kernel
theorem dL_isCarSo_17 : decode cL_isCarSo 17 = .ok (.istore 4, 2) := by decide +kernel
theorem dL_isCarSo_19 : decode cL_isCarSo 19 = .ok (.aload_n 0, 1) := by decide +kernel
theorem dL_isCarSo_20 : decode cL_isCarSo 20 = .ok (.iload_n 1, 1) := by decide +kernel
theorem dL_isCarSo_21 : decode cL_isCarSo 21 = .ok (.invokevirtual 104, 3) := by decide +kernel
theorem dL_isCarSo_24 : decode cL_isCarSo 24 = .ok (.istore 5, 2) := by decide +kernel
theorem dL_isCarSo_26 : decode cL_isCarSo 26 = .ok (.iconst 0, 1) := by decide +kernel
theorem dL_isCarSo_27 : decode cL_isCarSo 27 = .ok (.istore 6, 2) := by decide +kernel
theorem dL_isCarSo_29 : decode cL_isCarSo 29 = .ok (.iload 6, 2) := by decide +kernel
theorem dL_isCarSo_31 : decode cL_isCarSo 31 = .ok (.bipush 10, 2) := by decide +kernel
theorem dL_isCarSo_33 : decode cL_isCarSo 33 = .ok (.if_icmp .ge 77, 3) := by decide +kernel
theorem dL_isCarSo_36 : decode cL_isCarSo 36 = .ok (.aload_n 0, 1) := by decide +kernel
theorem dL_isCarSo_37 : decode cL_isCarSo 37 = .ok (.iload_n 1, 1) := by decide +kernel
theorem dL_isCarSo_38 : decode cL_isCarSo 38 = .ok (.iload 6, 2) := by decide +kernel
theorem dL_isCarSo_40 : decode cL_isCarSo 40 = .ok (.invokevirtual 124, 3) := by decide +kernel
theorem dL_isCarSo_43 : decode cL_isCarSo 43 = .ok (.istore 7, 2) := by decide +kernel
theorem dL_isCarSo_45 : decode cL_isCarSo 45 = .ok (.iload 7, 2) := by decide +kernel
theorem dL_isCarSo_47 : decode cL_isCarSo 47 = .ok (.aload_n 0, 1) := by decide +kernel
theorem dL_isCarSo_48 : decode cL_isCarSo 48 = .ok (.iload_n 1, 1) := by decide +kernel
theorem dL_isCarSo_49 : decode cL_isCarSo 49 = .ok (.iload 6, 2) := by decide +kernel
theorem dL_isCarSo_51 : decode cL_isCarSo 51 = .ok (.invokevirtual 127, 3) := by decide +kernel
theorem dL_isCarSo_54 : decode cL_isCarSo 54 = .ok (.if_icmp .ne 40, 3) := by decide +kernel
theorem dL_isCarSo_57 : decode cL_isCarSo 57 = .ok (.iload 7, 2) := by decide +kernel
theorem dL_isCarSo_59 : decode cL_isCarSo 59 = .ok (.iconst (-1), 1) := by decide +kernel
theorem dL_isCarSo_60 : decode cL_isCarSo 60 = .ok (.if_icmp .lt 34, 3) := by decide +kernel
theorem dL_isCarSo_63 : decode cL_isCarSo 63 = .ok (.iload 7, 2) := by decide +kernel
theorem dL_isCarSo_65 : decode cL_isCarSo 65 = .ok (.bipush 40, 2) := by decide +kernel
theorem dL_isCarSo_67 : decode cL_isCarSo 67 = .ok (.if_icmp .ge 27, 3) := by decide +kernel
theorem dL_isCarSo_70 : decode cL_isCarSo 70 = .ok (.iload 7, 2) := by decide +kernel
theorem dL_isCarSo_72 : decode cL_isCarSo 72 = .ok (.ifCond .ge 18, 3) := by decide +kernel
theorem dL_isCarSo_75 : decode cL_isCarSo 75 = .ok (.iload_n 2, 1) := by decide +kernel
theorem dL_isCarSo_76 : decode cL_isCarSo 76 = .ok (.iload 6, 2) := by decide +kernel
theorem dL_isCarSo_78 : decode cL_isCarSo 78 = .ok (.ishr, 1) := by decide +kernel
theorem dL_isCarSo_79 : decode cL_isCarSo 79 = .ok (.iconst 1, 1) := by decide +kernel
theorem dL_isCarSo_80 : decode cL_isCarSo 80 = .ok (.iand, 1) := by decide +kernel
theorem dL_isCarSo_81 : decode cL_isCarSo 81 = .ok (.iload_n 3, 1) := by decide +kernel
theorem dL_isCarSo_82 : decode cL_isCarSo 82 = .ok (.iload 6, 2) := by decide +kernel
theorem dL_isCarSo_84 : decode cL_isCarSo 84 = .ok (.ishr, 1) := by decide +kernel
theorem dL_isCarSo_85 : decode cL_isCarSo 85 = .ok (.iconst 1, 1) := by decide +kernel
theorem dL_isCarSo_86 : decode cL_isCarSo 86 = .ok (.iand, 1) := by decide +kernel
theorem dL_isCarSo_87 : decode cL_isCarSo 87 = .ok (.if_icmp .ne 7, 3) := by decide +kernel
theorem dL_isCarSo_90 : decode cL_isCarSo 90 = .ok (.iconst 1, 1) := by decide +kernel
theorem dL_isCarSo_91 : decode cL_isCarSo 91 = .ok (.goto 4, 3) := by decide +kernel
theorem dL_isCarSo_94 : decode cL_isCarSo 94 = .ok (.iconst 0, 1) := by decide +kernel
theorem dL_isCarSo_95 : decode cL_isCarSo 95 = .ok (.istore 8, 2) := by decide +kernel
theorem dL_isCarSo_97 : decode cL_isCarSo 97 = .ok (.iload 8, 2) := by decide +kernel
theorem dL_isCarSo_99 : decode cL_isCarSo 99 = .ok (.ifCond .ne 5, 3) := by decide +kernel
theorem dL_isCarSo_102 : decode cL_isCarSo 102 = .ok (.iconst 0, 1) := by decide +kernel
theorem dL_isCarSo_103 : decode cL_isCarSo 103 = .ok (.ireturn, 1) := by decide +kernel
theorem dL_isCarSo_104 : decode cL_isCarSo 104 = .ok (.iinc 6 1, 3) := by decide +kernel
theorem dL_isCarSo_107 : decode cL_isCarSo 107 = .ok (.goto (-78), 3) := by decide +kernel
theorem dL_isCarSo_110 : decode cL_isCarSo 110 = .ok (.iload 4, 2) := by decide +kernel
theorem dL_isCarSo_112 : decode cL_isCarSo 112 = .ok (.iconst 1, 1) := by decide +kernel
theorem dL_isCarSo_113 : decode cL_isCarSo 113 = .ok (.if_icmp .ne 33, 3) := by decide +kernel
theorem dL_isCarSo_116 : decode cL_isCarSo 116 = .ok (.iload 5, 2) := by decide +kernel
theorem dL_isCarSo_118 : decode cL_isCarSo 118 = .ok (.ifCond .lt 24, 3) := by decide +kernel
theorem dL_isCarSo_121 : decode cL_isCarSo 121 = .ok (.iload 5, 2) := by decide +kernel
theorem dL_isCarSo_123 : decode cL_isCarSo 123 = .ok (.bipush 8, 2) := by decide +kernel
theorem dL_isCarSo_125 : decode cL_isCarSo 125 = .ok (.if_icmp .ge 17, 3) := by decide +kernel
theorem dL_isCarSo_128 : decode cL_isCarSo 128 = .ok (.aload_n 0, 1) := by decide +kernel
theorem dL_isCarSo_129 : decode cL_isCarSo 129 = .ok (.iload 5, 2) := by decide +kernel
theorem dL_isCarSo_131 : decode cL_isCarSo 131 = .ok (.invokevirtual 61, 3) := by decide +kernel
theorem dL_isCarSo_134 : decode cL_isCarSo 134 = .ok (.iload_n 1, 1) := by decide +kernel
theorem dL_isCarSo_135 : decode cL_isCarSo 135 = .ok (.if_icmp .ne 7, 3) := by decide +kernel
theorem dL_isCarSo_138 : decode cL_isCarSo 138 = .ok (.iconst 1, 1) := by decide +kernel
theorem dL_isCarSo_139 : decode cL_isCarSo 139 = .ok (.goto 54, 3) := by decide +kernel
theorem dL_isCarSo_142 : decode cL_isCarSo 142 = .ok (.iconst 0, 1) := by decide +kernel
theorem dL_isCarSo_143 : decode cL_isCarSo 143 = .ok (.goto 50, 3) := by decide +kernel
theorem dL_isCarSo_146 : decode cL_isCarSo 146 = .ok (.iload 4, 2) := by decide +kernel
theorem dL_isCarSo_148 : decode cL_isCarSo 148 = .ok (.iconst 2, 1) := by decide +kernel
theorem dL_isCarSo_149 : decode cL_isCarSo 149 = .ok (.if_icmp .ne 33, 3) := by decide +kernel
theorem dL_isCarSo_152 : decode cL_isCarSo 152 = .ok (.iload 5, 2) := by decide +kernel
theorem dL_isCarSo_154 : decode cL_isCarSo 154 = .ok (.ifCond .lt 24, 3) := by decide +kernel
theorem dL_isCarSo_157 : decode cL_isCarSo 157 = .ok (.iload 5, 2) := by decide +kernel
theorem dL_isCarSo_159 : decode cL_isCarSo 159 = .ok (.bipush 6, 2) := by decide +kernel
theorem dL_isCarSo_161 : decode cL_isCarSo 161 = .ok (.if_icmp .ge 17, 3) := by decide +kernel
theorem dL_isCarSo_164 : decode cL_isCarSo 164 = .ok (.aload_n 0, 1) := by decide +kernel
theorem dL_isCarSo_165 : decode cL_isCarSo 165 = .ok (.iload 5, 2) := by decide +kernel
theorem dL_isCarSo_167 : decode cL_isCarSo 167 = .ok (.invokevirtual 61, 3) := by decide +kernel
theorem dL_isCarSo_170 : decode cL_isCarSo 170 = .ok (.iload_n 1, 1) := by decide +kernel
theorem dL_isCarSo_171 : decode cL_isCarSo 171 = .ok (.if_icmp .eq 7, 3) := by decide +kernel
theorem dL_isCarSo_174 : decode cL_isCarSo 174 = .ok (.iconst 1, 1) := by decide +kernel
theorem dL_isCarSo_175 : decode cL_isCarSo 175 = .ok (.goto 18, 3) := by decide +kernel
theorem dL_isCarSo_178 : decode cL_isCarSo 178 = .ok (.iconst 0, 1) := by decide +kernel
theorem dL_isCarSo_179 : decode cL_isCarSo 179 = .ok (.goto 14, 3) := by decide +kernel
theorem dL_isCarSo_182 : decode cL_isCarSo 182 = .ok (.iload 5, 2) := by decide +kernel
theorem dL_isCarSo_184 : decode cL_isCarSo 184 = .ok (.iconst (-1), 1) := by decide +kernel
theorem dL_isCarSo_185 : decode cL_isCarSo 185 = .ok (.if_icmp .ne 7, 3) := by decide +kernel
theorem dL_isCarSo_188 : decode cL_isCarSo 188 = .ok (.iconst 1, 1) := by decide +kernel
theorem dL_isCarSo_189 : decode cL_isCarSo 189 = .ok (.goto 4, 3) := by decide +kernel
theorem dL_isCarSo_192 : decode cL_isCarSo 192 = .ok (.iconst 0, 1) := by decide +kernel
theorem dL_isCarSo_193 : decode cL_isCarSo 193 = .ok (.istore 6, 2) := by decide +kernel
theorem dL_isCarSo_195 : decode cL_isCarSo 195 = .ok (.iload 6, 2) := by decide +kernel
theorem dL_isCarSo_197 : decode cL_isCarSo 197 = .ok (.ifCond .eq 61, 3) := by decide +kernel
theorem dL_isCarSo_200 : decode cL_isCarSo 200 = .ok (.iload_n 3, 1) := by decide +kernel
theorem dL_isCarSo_201 : decode cL_isCarSo 201 = .ok (.iload_n 2, 1) := by decide +kernel
theorem dL_isCarSo_202 : decode cL_isCarSo 202 = .ok (.iconst (-1), 1) := by decide +kernel
theorem dL_isCarSo_203 : decode cL_isCarSo 203 = .ok (.ixor, 1) := by decide +kernel
theorem dL_isCarSo_204 : decode cL_isCarSo 204 = .ok (.iand, 1) := by decide +kernel
theorem dL_isCarSo_205 : decode cL_isCarSo 205 = .ok (.ifCond .ne 53, 3) := by decide +kernel
theorem dL_isCarSo_208 : decode cL_isCarSo 208 = .ok (.iload 4, 2) := by decide +kernel
theorem dL_isCarSo_210 : decode cL_isCarSo 210 = .ok (.ifCond .ne 16, 3) := by decide +kernel
theorem dL_isCarSo_213 : decode cL_isCarSo 213 = .ok (.aload_n 0, 1) := by decide +kernel
theorem dL_isCarSo_214 : decode cL_isCarSo 214 = .ok (.iload_n 1, 1) := by decide +kernel
theorem dL_isCarSo_215 : decode cL_isCarSo 215 = .ok (.invokevirtual 113, 3) := by decide +kernel
theorem dL_isCarSo_218 : decode cL_isCarSo 218 = .ok (.ifCond .ne 40, 3) := by decide +kernel
theorem dL_isCarSo_221 : decode cL_isCarSo 221 = .ok (.iload_n 3, 1) := by decide +kernel
theorem dL_isCarSo_222 : decode cL_isCarSo 222 = .ok (.iload_n 2, 1) := by decide +kernel
theorem dL_isCarSo_223 : decode cL_isCarSo 223 = .ok (.if_icmp .ne 35, 3) := by decide +kernel
theorem dL_isCarSo_226 : decode cL_isCarSo 226 = .ok (.aload_n 0, 1) := by decide +kernel
theorem dL_isCarSo_227 : decode cL_isCarSo 227 = .ok (.iload_n 1, 1) := by decide +kernel
theorem dL_isCarSo_228 : decode cL_isCarSo 228 = .ok (.invokevirtual 116, 3) := by decide +kernel
theorem dL_isCarSo_231 : decode cL_isCarSo 231 = .ok (.ifCond .eq 11, 3) := by decide +kernel
theorem dL_isCarSo_234 : decode cL_isCarSo 234 = .ok (.aload_n 0, 1) := by decide +kernel
theorem dL_isCarSo_235 : decode cL_isCarSo 235 = .ok (.iload_n 1, 1) := by decide +kernel
theorem dL_isCarSo_236 : decode cL_isCarSo 236 = .ok (.invokevirtual 110, 3) := by decide +kernel
theorem dL_isCarSo_239 : decode cL_isCarSo 239 = .ok (.ifCond .lt 19, 3) := by decide +kernel
theorem dL_isCarSo_242 : decode cL_isCarSo 242 = .ok (.aload_n 0, 1) := by decide +kernel
theorem dL_isCarSo_243 : decode cL_isCarSo 243 = .ok (.iload_n 1, 1) := by decide +kernel
theorem dL_isCarSo_244 : decode cL_isCarSo 244 = .ok (.invokevirtual 110, 3) := by decide +kernel
theorem dL_isCarSo_247 : decode cL_isCarSo 247 = .ok (.aload_n 0, 1) := by decide +kernel
theorem dL_isCarSo_248 : decode cL_isCarSo 248 = .ok (.invokevirtual 96, 3) := by decide +kernel
theorem dL_isCarSo_251 : decode cL_isCarSo 251 = .ok (.if_icmp .ge 7, 3) := by decide +kernel
theorem dL_isCarSo_254 : decode cL_isCarSo 254 = .ok (.iconst 1, 1) := by decide +kernel
theorem dL_isCarSo_255 : decode cL_isCarSo 255 = .ok (.goto 4, 3) := by decide +kernel
theorem dL_isCarSo_258 : decode cL_isCarSo 258 = .ok (.iconst 0, 1) := by decide +kernel
theorem dL_isCarSo_259 : decode cL_isCarSo 259 = .ok (.ireturn, 1) := by decide +kernel
theorem dL_isLineSo_0 : decode cL_isLineSo 0 = .ok (.iconst 0, 1) := by decide +kernel
theorem dL_isLineSo_1 : decode cL_isLineSo 1 = .ok (.istore_n 1, 1) := by decide +kernel
theorem dL_isLineSo_2 : decode cL_isLineSo 2 = .ok (.iconst 0, 1) := by decide +kernel
theorem dL_isLineSo_3 : decode cL_isLineSo 3 = .ok (.istore_n 2, 1) := by decide +kernel
theorem dL_isLineSo_4 : decode cL_isLineSo 4 = .ok (.iconst 0, 1) := by decide +kernel
theorem dL_isLineSo_5 : decode cL_isLineSo 5 = .ok (.istore_n 3, 1) := by decide +kernel
theorem dL_isLineSo_6 : decode cL_isLineSo 6 = .ok (.iload_n 3, 1) := by decide +kernel
theorem dL_isLineSo_7 : decode cL_isLineSo 7 = .ok (.bipush 30, 2) := by decide +kernel
theorem dL_isLineSo_9 : decode cL_isLineSo 9 = .ok (.if_icmp .ge 64, 3) := by decide +kernel
theorem dL_isLineSo_12 : decode cL_isLineSo 12 = .ok (.aload_n 0, 1) := by decide +kernel
theorem dL_isLineSo_13 : decode cL_isLineSo 13 = .ok (.iload_n 3, 1) := by decide +kernel
theorem dL_isLineSo_14 : decode cL_isLineSo 14 = .ok (.invokestatic 102, 3) := by decide +kernel
theorem dL_isLineSo_17 : decode cL_isLineSo 17 = .ok (.ifCond .lt 56, 3) := by decide +kernel
theorem dL_isLineSo_20 : decode cL_isLineSo 20 = .ok (.iinc 1 1, 3) := by decide +kernel
theorem dL_isLineSo_23 : decode cL_isLineSo 23 = .ok (.aload_n 0, 1) := by decide +kernel
theorem dL_isLineSo_24 : decode cL_isLineSo 24 = .ok (.iload_n 3, 1) := by decide +kernel
theorem dL_isLineSo_25 : decode cL_isLineSo 25 = .ok (.invokestatic 130, 3) := by decide +kernel
theorem dL_isLineSo_28 : decode cL_isLineSo 28 = .ok (.ifCond .eq 20, 3) := by decide +kernel
theorem dL_isLineSo_31 : decode cL_isLineSo 31 = .ok (.aload_n 0, 1) := by decide +kernel
theorem dL_isLineSo_32 : decode cL_isLineSo 32 = .ok (.iload_n 3, 1) := by decide +kernel
theorem dL_isLineSo_33 : decode cL_isLineSo 33 = .ok (.invokevirtual 53, 3) := by decide +kernel
theorem dL_isLineSo_36 : decode cL_isLineSo 36 = .ok (.iconst 3, 1) := by decide +kernel
theorem dL_isLineSo_37 : decode cL_isLineSo 37 = .ok (.if_icmp .ne 13, 3) := by decide +kernel
theorem dL_isLineSo_40 : decode cL_isLineSo 40 = .ok (.aload_n 0, 1) := by decide +kernel
theorem dL_isLineSo_41 : decode cL_isLineSo 41 = .ok (.iload_n 3, 1) := by decide +kernel
theorem dL_isLineSo_42 : decode cL_isLineSo 42 = .ok (.invokevirtual 113, 3) := by decide +kernel
theorem dL_isLineSo_45 : decode cL_isLineSo 45 = .ok (.ifCond .ne 5, 3) := by decide +kernel
theorem dL_isLineSo_48 : decode cL_isLineSo 48 = .ok (.iconst 0, 1) := by decide +kernel
theorem dL_isLineSo_49 : decode cL_isLineSo 49 = .ok (.ireturn, 1) := by decide +kernel
theorem dL_isLineSo_50 : decode cL_isLineSo 50 = .ok (.iload_n 2, 1) := by decide +kernel
theorem dL_isLineSo_51 : decode cL_isLineSo 51 = .ok (.aload_n 0, 1) := by decide +kernel
theorem dL_isLineSo_52 : decode cL_isLineSo 52 = .ok (.iload_n 3, 1) := by decide +kernel
theorem dL_isLineSo_53 : decode cL_isLineSo 53 = .ok (.invokevirtual 53, 3) := by decide +kernel
theorem dL_isLineSo_56 : decode cL_isLineSo 56 = .ok (.iconst 3, 1) := by decide +kernel
theorem dL_isLineSo_57 : decode cL_isLineSo 57 = .ok (.if_icmp .ne 7, 3) := by decide +kernel
theorem dL_isLineSo_60 : decode cL_isLineSo 60 = .ok (.iconst 1, 1) := by decide +kernel
theorem dL_isLineSo_61 : decode cL_isLineSo 61 = .ok (.goto 4, 3) := by decide +kernel
theorem dL_isLineSo_64 : decode cL_isLineSo 64 = .ok (.iconst 0, 1) := by decide +kernel
theorem dL_isLineSo_65 : decode cL_isLineSo 65 = .ok (.iadd, 1) := by decide +kernel
theorem dL_isLineSo_66 : decode cL_isLineSo 66 = .ok (.istore_n 2, 1) := by decide +kernel
theorem dL_isLineSo_67 : decode cL_isLineSo 67 = .ok (.iinc 3 1, 3) := by decide +kernel
theorem dL_isLineSo_70 : decode cL_isLineSo 70 = .ok (.goto (-64), 3) := by decide +kernel
theorem dL_isLineSo_73 : decode cL_isLineSo 73 = .ok (.iconst 0, 1) := by decide +kernel
theorem dL_isLineSo_74 : decode cL_isLineSo 74 = .ok (.istore_n 3, 1) := by decide +kernel
theorem dL_isLineSo_75 : decode cL_isLineSo 75 = .ok (.iload_n 3, 1) := by decide +kernel
theorem dL_isLineSo_76 : decode cL_isLineSo 76 = .ok (.bipush 8, 2) := by decide +kernel
theorem dL_isLineSo_78 : decode cL_isLineSo 78 = .ok (.if_icmp .ge 49, 3) := by decide +kernel
theorem dL_isLineSo_81 : decode cL_isLineSo 81 = .ok (.aload_n 0, 1) := by decide +kernel
theorem dL_isLineSo_82 : decode cL_isLineSo 82 = .ok (.iload_n 3, 1) := by decide +kernel
theorem dL_isLineSo_83 : decode cL_isLineSo 83 = .ok (.invokevirtual 61, 3) := by decide +kernel
theorem dL_isLineSo_86 : decode cL_isLineSo 86 = .ok (.istore 4, 2) := by decide +kernel
theorem dL_isLineSo_88 : decode cL_isLineSo 88 = .ok (.iload 4, 2) := by decide +kernel
theorem dL_isLineSo_90 : decode cL_isLineSo 90 = .ok (.iload_n 1, 1) := by decide +kernel
theorem dL_isLineSo_91 : decode cL_isLineSo 91 = .ok (.if_icmp .ge 28, 3) := by decide +kernel
theorem dL_isLineSo_94 : decode cL_isLineSo 94 = .ok (.iload 4, 2) := by decide +kernel
theorem dL_isLineSo_96 : decode cL_isLineSo 96 = .ok (.ifCond .lt 25, 3) := by decide +kernel
theorem dL_isLineSo_99 : decode cL_isLineSo 99 = .ok (.aload_n 0, 1) := by decide +kernel
theorem dL_isLineSo_100 : decode cL_isLineSo 100 = .ok (.iload 4, 2) := by decide +kernel
theorem dL_isLineSo_102 : decode cL_isLineSo 102 = .ok (.invokevirtual 53, 3) := by decide +kernel
theorem dL_isLineSo_105 : decode cL_isLineSo 105 = .ok (.iconst 1, 1) := by decide +kernel
theorem dL_isLineSo_106 : decode cL_isLineSo 106 = .ok (.if_icmp .ne 13, 3) := by decide +kernel
theorem dL_isLineSo_109 : decode cL_isLineSo 109 = .ok (.aload_n 0, 1) := by decide +kernel
theorem dL_isLineSo_110 : decode cL_isLineSo 110 = .ok (.iload 4, 2) := by decide +kernel
theorem dL_isLineSo_112 : decode cL_isLineSo 112 = .ok (.invokevirtual 104, 3) := by decide +kernel
theorem dL_isLineSo_115 : decode cL_isLineSo 115 = .ok (.iload_n 3, 1) := by decide +kernel
theorem dL_isLineSo_116 : decode cL_isLineSo 116 = .ok (.if_icmp .eq 5, 3) := by decide +kernel
theorem dL_isLineSo_119 : decode cL_isLineSo 119 = .ok (.iconst 0, 1) := by decide +kernel
theorem dL_isLineSo_120 : decode cL_isLineSo 120 = .ok (.ireturn, 1) := by decide +kernel
theorem dL_isLineSo_121 : decode cL_isLineSo 121 = .ok (.iinc 3 1, 3) := by decide +kernel
theorem dL_isLineSo_124 : decode cL_isLineSo 124 = .ok (.goto (-49), 3) := by decide +kernel
theorem dL_isLineSo_127 : decode cL_isLineSo 127 = .ok (.aload_n 0, 1) := by decide +kernel
theorem dL_isLineSo_128 : decode cL_isLineSo 128 = .ok (.invokevirtual 99, 3) := by decide +kernel
theorem dL_isLineSo_131 : decode cL_isLineSo 131 = .ok (.ifCond .lt 24, 3) := by decide +kernel
theorem dL_isLineSo_134 : decode cL_isLineSo 134 = .ok (.aload_n 0, 1) := by decide +kernel
theorem dL_isLineSo_135 : decode cL_isLineSo 135 = .ok (.invokevirtual 99, 3) := by decide +kernel
theorem dL_isLineSo_138 : decode cL_isLineSo 138 = .ok (.iload_n 2, 1) := by decide +kernel
theorem dL_isLineSo_139 : decode cL_isLineSo 139 = .ok (.if_icmp .gt 16, 3) := by decide +kernel
theorem dL_isLineSo_142 : decode cL_isLineSo 142 = .ok (.aload_n 0, 1) := by decide +kernel
theorem dL_isLineSo_143 : decode cL_isLineSo 143 = .ok (.invokevirtual 96, 3) := by decide +kernel
theorem dL_isLineSo_146 : decode cL_isLineSo 146 = .ok (.bipush 40, 2) := by decide +kernel
theorem dL_isLineSo_148 : decode cL_isLineSo 148 = .ok (.if_icmp .gt 7, 3) := by decide +kernel
theorem dL_isLineSo_151 : decode cL_isLineSo 151 = .ok (.iconst 1, 1) := by decide +kernel
theorem dL_isLineSo_152 : decode cL_isLineSo 152 = .ok (.goto 4, 3) := by decide +kernel
theorem dL_isLineSo_155 : decode cL_isLineSo 155 = .ok (.iconst 0, 1) := by decide +kernel
theorem dL_isLineSo_156 : decode cL_isLineSo 156 = .ok (.ireturn, 1) := by decide +kernel
theorem dL_law_0 : decode cL_law 0 = .ok (.new 9, 3) := by decide +kernel
theorem dL_law_3 : decode cL_law 3 = .ok (.dup, 1) := by decide +kernel
theorem dL_law_4 : decode cL_law 4 = .ok (.invokespecial 134, 3) := by decide +kernel
theorem dL_law_7 : decode cL_law 7 = .ok (.astore_n 1, 1) := by decide +kernel
theorem dL_law_8 : decode cL_law 8 = .ok (.new 9, 3) := by decide +kernel
theorem dL_law_11 : decode cL_law 11 = .ok (.dup, 1) := by decide +kernel
theorem dL_law_12 : decode cL_law 12 = .ok (.invokespecial 134, 3) := by decide +kernel
theorem dL_law_15 : decode cL_law 15 = .ok (.astore_n 2, 1) := by decide +kernel
theorem dL_law_16 : decode cL_law 16 = .ok (.iconst 0, 1) := by decide +kernel
theorem dL_law_17 : decode cL_law 17 = .ok (.istore_n 3, 1) := by decide +kernel
theorem dL_law_18 : decode cL_law 18 = .ok (.iload_n 3, 1) := by decide +kernel
theorem dL_law_19 : decode cL_law 19 = .ok (.bipush 100, 2) := by decide +kernel
theorem dL_law_21 : decode cL_law 21 = .ok (.if_icmp .ge 85, 3) := by decide +kernel
theorem dL_law_24 : decode cL_law 24 = .ok (.aload_n 0, 1) := by decide +kernel
theorem dL_law_25 : decode cL_law 25 = .ok (.iload_n 3, 1) := by decide +kernel
theorem dL_law_26 : decode cL_law 26 = .ok (.invokestatic 135, 3) := by decide +kernel
theorem dL_law_29 : decode cL_law 29 = .ok (.istore 4, 2) := by decide +kernel
theorem dL_law_31 : decode cL_law 31 = .ok (.aload_n 1, 1) := by decide +kernel
theorem dL_law_32 : decode cL_law 32 = .ok (.invokevirtual 86, 3) := by decide +kernel
theorem dL_law_35 : decode cL_law 35 = .ok (.istore 5, 2) := by decide +kernel
theorem dL_law_37 : decode cL_law 37 = .ok (.aload_n 1, 1) := by decide +kernel
theorem dL_law_38 : decode cL_law 38 = .ok (.iload 4, 2) := by decide +kernel
theorem dL_law_40 : decode cL_law 40 = .ok (.invokestatic 139, 3) := by decide +kernel
theorem dL_law_43 : decode cL_law 43 = .ok (.istore 6, 2) := by decide +kernel
theorem dL_law_45 : decode cL_law 45 = .ok (.iload 6, 2) := by decide +kernel
theorem dL_law_47 : decode cL_law 47 = .ok (.ldc 16, 2) := by decide +kernel
theorem dL_law_49 : decode cL_law 49 = .ok (.if_icmp .eq 14, 3) := by decide +kernel
theorem dL_law_52 : decode cL_law 52 = .ok (.aload_n 2, 1) := by decide +kernel
theorem dL_law_53 : decode cL_law 53 = .ok (.iload 4, 2) := by decide +kernel
theorem dL_law_55 : decode cL_law 55 = .ok (.invokestatic 139, 3) := by decide +kernel
theorem dL_law_58 : decode cL_law 58 = .ok (.iload 6, 2) := by decide +kernel
theorem dL_law_60 : decode cL_law 60 = .ok (.if_icmp .ne 20, 3) := by decide +kernel
theorem dL_law_63 : decode cL_law 63 = .ok (.aload_n 1, 1) := by decide +kernel
theorem dL_law_64 : decode cL_law 64 = .ok (.aload_n 2, 1) := by decide +kernel
theorem dL_law_65 : decode cL_law 65 = .ok (.invokestatic 142, 3) := by decide +kernel
theorem dL_law_68 : decode cL_law 68 = .ok (.ifCond .eq 12, 3) := by decide +kernel
theorem dL_law_71 : decode cL_law 71 = .ok (.aload_n 1, 1) := by decide +kernel
theorem dL_law_72 : decode cL_law 72 = .ok (.invokevirtual 86, 3) := by decide +kernel
theorem dL_law_75 : decode cL_law 75 = .ok (.iload 5, 2) := by decide +kernel
theorem dL_law_77 : decode cL_law 77 = .ok (.if_icmp .ge 5, 3) := by decide +kernel
theorem dL_law_80 : decode cL_law 80 = .ok (.iconst 0, 1) := by decide +kernel
theorem dL_law_81 : decode cL_law 81 = .ok (.ireturn, 1) := by decide +kernel
theorem dL_law_82 : decode cL_law 82 = .ok (.iload_n 3, 1) := by decide +kernel
theorem dL_law_83 : decode cL_law 83 = .ok (.bipush 10, 2) := by decide +kernel
theorem dL_law_85 : decode cL_law 85 = .ok (.irem, 1) := by decide +kernel
theorem dL_law_86 : decode cL_law 86 = .ok (.bipush 9, 2) := by decide +kernel
theorem dL_law_88 : decode cL_law 88 = .ok (.if_icmp .ne 12, 3) := by decide +kernel
theorem dL_law_91 : decode cL_law 91 = .ok (.aload_n 1, 1) := by decide +kernel
theorem dL_law_92 : decode cL_law 92 = .ok (.invokestatic 146, 3) := by decide +kernel
theorem dL_law_95 : decode cL_law 95 = .ok (.ifCond .ne 5, 3) := by decide +kernel
theorem dL_law_98 : decode cL_law 98 = .ok (.iconst 0, 1) := by decide +kernel
theorem dL_law_99 : decode cL_law 99 = .ok (.ireturn, 1) := by decide +kernel
theorem dL_law_100 : decode cL_law 100 = .ok (.iinc 3 1, 3) := by decide +kernel
theorem dL_law_103 : decode cL_law 103 = .ok (.goto (-85), 3) := by decide +kernel
theorem dL_law_106 : decode cL_law 106 = .ok (.aload_n 1, 1) := by decide +kernel
theorem dL_law_107 : decode cL_law 107 = .ok (.iconst 0, 1) := by decide +kernel
theorem dL_law_108 : decode cL_law 108 = .ok (.invokestatic 102, 3) := by decide +kernel
theorem dL_law_111 : decode cL_law 111 = .ok (.ifCond .lt 25, 3) := by decide +kernel
theorem dL_law_114 : decode cL_law 114 = .ok (.aload_n 1, 1) := by decide +kernel
theorem dL_law_115 : decode cL_law 115 = .ok (.invokevirtual 96, 3) := by decide +kernel
theorem dL_law_118 : decode cL_law 118 = .ok (.bipush 40, 2) := by decide +kernel
theorem dL_law_120 : decode cL_law 120 = .ok (.if_icmp .eq 16, 3) := by decide +kernel
theorem dL_law_123 : decode cL_law 123 = .ok (.aload_n 1, 1) := by decide +kernel
theorem dL_law_124 : decode cL_law 124 = .ok (.iconst 0, 1) := by decide +kernel
theorem dL_law_125 : decode cL_law 125 = .ok (.invokevirtual 39, 3) := by decide +kernel
theorem dL_law_128 : decode cL_law 128 = .ok (.aload_n 1, 1) := by decide +kernel
theorem dL_law_129 : decode cL_law 129 = .ok (.iconst 0, 1) := by decide +kernel
theorem dL_law_130 : decode cL_law 130 = .ok (.invokevirtual 39, 3) := by decide +kernel
theorem dL_law_133 : decode cL_law 133 = .ok (.if_icmp .ne 7, 3) := by decide +kernel
theorem dL_law_136 : decode cL_law 136 = .ok (.iconst 1, 1) := by decide +kernel
theorem dL_law_137 : decode cL_law 137 = .ok (.goto 4, 3) := by decide +kernel
theorem dL_law_140 : decode cL_law 140 = .ok (.iconst 0, 1) := by decide +kernel
theorem dL_law_141 : decode cL_law 141 = .ok (.istore_n 3, 1) := by decide +kernel
theorem dL_law_142 : decode cL_law 142 = .ok (.aload_n 1, 1) := by decide +kernel
theorem dL_law_143 : decode cL_law 143 = .ok (.iconst 5, 1) := by decide +kernel
theorem dL_law_144 : decode cL_law 144 = .ok (.invokevirtual 32, 3) := by decide +kernel
theorem dL_law_147 : decode cL_law 147 = .ok (.istore 4, 2) := by decide +kernel
theorem dL_law_149 : decode cL_law 149 = .ok (.aload_n 2, 1) := by decide +kernel
theorem dL_law_150 : decode cL_law 150 = .ok (.iconst 0, 1) := by decide +kernel
theorem dL_law_151 : decode cL_law 151 = .ok (.invokestatic 102, 3) := by decide +kernel
theorem dL_law_154 : decode cL_law 154 = .ok (.ifCond .lt 19, 3) := by decide +kernel
theorem dL_law_157 : decode cL_law 157 = .ok (.aload_n 2, 1) := by decide +kernel
theorem dL_law_158 : decode cL_law 158 = .ok (.invokevirtual 96, 3) := by decide +kernel
theorem dL_law_161 : decode cL_law 161 = .ok (.bipush 40, 2) := by decide +kernel
theorem dL_law_163 : decode cL_law 163 = .ok (.if_icmp .ge 10, 3) := by decide +kernel
theorem dL_law_166 : decode cL_law 166 = .ok (.aload_n 2, 1) := by decide +kernel
theorem dL_law_167 : decode cL_law 167 = .ok (.iconst 0, 1) := by decide +kernel
theorem dL_law_168 : decode cL_law 168 = .ok (.invokevirtual 39, 3) := by decide +kernel
theorem dL_law_171 : decode cL_law 171 = .ok (.istore 5, 2) := by decide +kernel
theorem dL_law_173 : decode cL_law 173 = .ok (.iconst 0, 1) := by decide +kernel
theorem dL_law_174 : decode cL_law 174 = .ok (.istore 5, 2) := by decide +kernel
theorem dL_law_176 : decode cL_law 176 = .ok (.iload 5, 2) := by decide +kernel
theorem dL_law_178 : decode cL_law 178 = .ok (.iconst 5, 1) := by decide +kernel
theorem dL_law_179 : decode cL_law 179 = .ok (.if_icmp .ge 19, 3) := by decide +kernel
theorem dL_law_182 : decode cL_law 182 = .ok (.iload 4, 2) := by decide +kernel
theorem dL_law_184 : decode cL_law 184 = .ok (.aload_n 2, 1) := by decide +kernel
theorem dL_law_185 : decode cL_law 185 = .ok (.iconst 1, 1) := by decide +kernel
theorem dL_law_186 : decode cL_law 186 = .ok (.invokevirtual 32, 3) := by decide +kernel
theorem dL_law_189 : decode cL_law 189 = .ok (.isub, 1) := by decide +kernel
theorem dL_law_190 : decode cL_law 190 = .ok (.istore 4, 2) := by decide +kernel
theorem dL_law_192 : decode cL_law 192 = .ok (.iinc 5 1, 3) := by decide +kernel
theorem dL_law_195 : decode cL_law 195 = .ok (.goto (-19), 3) := by decide +kernel
theorem dL_law_198 : decode cL_law 198 = .ok (.iload_n 3, 1) := by decide +kernel
theorem dL_law_199 : decode cL_law 199 = .ok (.ifCond .eq 20, 3) := by decide +kernel
theorem dL_law_202 : decode cL_law 202 = .ok (.iload 4, 2) := by decide +kernel
theorem dL_law_204 : decode cL_law 204 = .ok (.ifCond .ne 15, 3) := by decide +kernel
theorem dL_law_207 : decode cL_law 207 = .ok (.aload_n 1, 1) := by decide +kernel
theorem dL_law_208 : decode cL_law 208 = .ok (.aload_n 2, 1) := by decide +kernel
theorem dL_law_209 : decode cL_law 209 = .ok (.invokestatic 142, 3) := by decide +kernel
theorem dL_law_212 : decode cL_law 212 = .ok (.ifCond .eq 7, 3) := by decide +kernel
theorem dL_law_215 : decode cL_law 215 = .ok (.iconst 1, 1) := by decide +kernel
theorem dL_law_216 : decode cL_law 216 = .ok (.goto 4, 3) := by decide +kernel
theorem dL_law_219 : decode cL_law 219 = .ok (.iconst 0, 1) := by decide +kernel
theorem dL_law_220 : decode cL_law 220 = .ok (.ireturn, 1) := by decide +kernel

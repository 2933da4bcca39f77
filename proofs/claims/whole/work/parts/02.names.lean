/-! names: classes, fields, methods (out of the printed names of this claim) -/
def RX0 : String := "PlantsCommitted$Dispatch"
def TX0 : u_T := fun k => match k with
  | 0 => ("PlantsCommitted$Dispatch", "order", "[I", true)
  | 1 => ("PlantsCommitted$Dispatch", "least", "[I", true)
  | 2 => ("PlantsCommitted$Dispatch", "most", "[I", true)
  | 3 => ("PlantsCommitted$Dispatch", "mostAtFirst", "[I", true)
  | 4 => ("PlantsCommitted$Dispatch", "price", "[I", true)
  | 5 => ("PlantsCommitted$Dispatch", "keep", "[I", true)
  | 6 => ("PlantsCommitted$Dispatch", "shares", "[I", true)
  | _ => ("PlantsCommitted$Dispatch", "many", "I", false)
def tyX0 : Nat → FieldType := fun k => match k with
  | 0 => .array .int
  | 1 => .array .int
  | 2 => .array .int
  | 3 => .array .int
  | 4 => .array .int
  | 5 => .array .int
  | 6 => .array .int
  | _ => .int
abbrev wsX00 : List Cond := u_ws RX0 TX0 8
theorem nmX0 : ∀ a, a < 8 → ∀ b, b < 8 → a ≠ b → (TX0 a).2.1 ≠ (TX0 b).2.1 := by decide +kernel
theorem tyX0_ok : ∀ k, k < 8 → parseFieldDescriptor (TX0 k).2.2.1 = some (tyX0 k) := by decide +kernel
def RX1 : String := "PlantsCommitted$Line"
def TX1 : u_T := fun k => match k with
  | 0 => ("PlantsCommitted$Line", "values", "[I", true)
  | _ => ("PlantsCommitted$Line", "size", "I", false)
def tyX1 : Nat → FieldType := fun k => match k with
  | 0 => .array .int
  | _ => .int
abbrev wsX10 : List Cond := u_ws RX1 TX1 2
theorem nmX1 : ∀ a, a < 2 → ∀ b, b < 2 → a ≠ b → (TX1 a).2.1 ≠ (TX1 b).2.1 := by decide +kernel
theorem tyX1_ok : ∀ k, k < 2 → parseFieldDescriptor (TX1 k).2.2.1 = some (tyX1 k) := by decide +kernel
def RX2 : String := "PlantsCommitted$Market"
def TX2 : u_T := fun k => match k with
  | 0 => ("PlantsCommitted$Market", "scene", "LPlantsCommitted$Scene;", true)
  | 1 => ("PlantsCommitted$Market", "prices", "[I", true)
  | 2 => ("PlantsCommitted$Market", "together", "[I", true)
  | 3 => ("PlantsCommitted$Market", "rows", "[I", true)
  | 4 => ("PlantsCommitted$Market", "nets", "[I", true)
  | _ => ("PlantsCommitted$Market", "amounts", "[I", true)
def tyX2 : Nat → FieldType := fun k => match k with
  | 0 => .object "PlantsCommitted$Scene"
  | 1 => .array .int
  | 2 => .array .int
  | 3 => .array .int
  | 4 => .array .int
  | _ => .array .int
abbrev wsX20 : List Cond := u_ws RX2 TX2 6
theorem nmX2 : ∀ a, a < 6 → ∀ b, b < 6 → a ≠ b → (TX2 a).2.1 ≠ (TX2 b).2.1 := by decide +kernel
theorem tyX2_ok : ∀ k, k < 6 → parseFieldDescriptor (TX2 k).2.2.1 = some (tyX2 k) := by decide +kernel
def RX3 : String := "PlantsCommitted$Plant"
def TX3 : u_T := fun k => match k with
  | 0 => ("PlantsCommitted$Plant", "kind", "I", false)
  | 1 => ("PlantsCommitted$Plant", "figure", "I", false)
  | 2 => ("PlantsCommitted$Plant", "low", "I", false)
  | 3 => ("PlantsCommitted$Plant", "high", "I", false)
  | 4 => ("PlantsCommitted$Plant", "price", "I", false)
  | 5 => ("PlantsCommitted$Plant", "keep", "I", false)
  | 6 => ("PlantsCommitted$Plant", "start", "I", false)
  | 7 => ("PlantsCommitted$Plant", "up", "I", false)
  | 8 => ("PlantsCommitted$Plant", "down", "I", false)
  | _ => ("PlantsCommitted$Plant", "age", "I", false)
def tyX3 : Nat → FieldType := fun k => match k with
  | 0 => .int
  | 1 => .int
  | 2 => .int
  | 3 => .int
  | 4 => .int
  | 5 => .int
  | 6 => .int
  | 7 => .int
  | 8 => .int
  | _ => .int
abbrev wsX30 : List Cond := u_ws RX3 TX3 10
theorem nmX3 : ∀ a, a < 10 → ∀ b, b < 10 → a ≠ b → (TX3 a).2.1 ≠ (TX3 b).2.1 := by decide +kernel
theorem tyX3_ok : ∀ k, k < 10 → parseFieldDescriptor (TX3 k).2.2.1 = some (tyX3 k) := by decide +kernel
def RX4 : String := "PlantsCommitted$Repair"
def TX4 : u_T := fun k => match k with
  | 0 => ("PlantsCommitted$Repair", "scene", "LPlantsCommitted$Scene;", true)
  | 1 => ("PlantsCommitted$Repair", "market", "LPlantsCommitted$Market;", true)
  | 2 => ("PlantsCommitted$Repair", "walk", "LPlantsCommitted$Walk;", true)
  | _ => ("PlantsCommitted$Repair", "rows", "[I", true)
def tyX4 : Nat → FieldType := fun k => match k with
  | 0 => .object "PlantsCommitted$Scene"
  | 1 => .object "PlantsCommitted$Market"
  | 2 => .object "PlantsCommitted$Walk"
  | _ => .array .int
abbrev wsX40 : List Cond := u_ws RX4 TX4 4
theorem nmX4 : ∀ a, a < 4 → ∀ b, b < 4 → a ≠ b → (TX4 a).2.1 ≠ (TX4 b).2.1 := by decide +kernel
theorem tyX4_ok : ∀ k, k < 4 → parseFieldDescriptor (TX4 k).2.2.1 = some (tyX4 k) := by decide +kernel
def RX5 : String := "PlantsCommitted$Scene"
def TX5 : u_T := fun k => match k with
  | 0 => ("PlantsCommitted$Scene", "span", "I", false)
  | 1 => ("PlantsCommitted$Scene", "demand", "[I", true)
  | 2 => ("PlantsCommitted$Scene", "reserve", "[I", true)
  | 3 => ("PlantsCommitted$Scene", "price", "[I", true)
  | 4 => ("PlantsCommitted$Scene", "plants", "[LPlantsCommitted$Plant;", true)
  | 5 => ("PlantsCommitted$Scene", "many", "I", false)
  | 6 => ("PlantsCommitted$Scene", "merit", "I", false)
  | 7 => ("PlantsCommitted$Scene", "step", "I", false)
  | _ => ("PlantsCommitted$Scene", "purse", "J", false)
def tyX5 : Nat → FieldType := fun k => match k with
  | 0 => .int
  | 1 => .array .int
  | 2 => .array .int
  | 3 => .array .int
  | 4 => .array (.object "PlantsCommitted$Plant")
  | 5 => .int
  | 6 => .int
  | 7 => .int
  | _ => .long
abbrev wsX50 : List Cond := u_ws RX5 TX5 9
theorem nmX5 : ∀ a, a < 9 → ∀ b, b < 9 → a ≠ b → (TX5 a).2.1 ≠ (TX5 b).2.1 := by decide +kernel
theorem tyX5_ok : ∀ k, k < 9 → parseFieldDescriptor (TX5 k).2.2.1 = some (tyX5 k) := by decide +kernel
def RX6 : String := "PlantsCommitted$Shelf"
def TX6 : u_T := fun k => match k with
  | 0 => ("PlantsCommitted$Shelf", "places", "[LPlantsCommitted$Plant;", true)
  | 1 => ("PlantsCommitted$Shelf", "full", "[Z", true)
  | 2 => ("PlantsCommitted$Shelf", "kind", "I", false)
  | _ => ("PlantsCommitted$Shelf", "size", "I", false)
def tyX6 : Nat → FieldType := fun k => match k with
  | 0 => .array (.object "PlantsCommitted$Plant")
  | 1 => .array .boolean
  | 2 => .int
  | _ => .int
abbrev wsX60 : List Cond := u_ws RX6 TX6 4
theorem nmX6 : ∀ a, a < 4 → ∀ b, b < 4 → a ≠ b → (TX6 a).2.1 ≠ (TX6 b).2.1 := by decide +kernel
theorem tyX6_ok : ∀ k, k < 4 → parseFieldDescriptor (TX6 k).2.2.1 = some (tyX6 k) := by decide +kernel
def RX7 : String := "PlantsCommitted$Solver"
def TX7 : u_T := fun k => match k with
  | 0 => ("PlantsCommitted$Solver", "dispatch", "LPlantsCommitted$Dispatch;", true)
  | 1 => ("PlantsCommitted$Solver", "scene", "LPlantsCommitted$Scene;", true)
  | 2 => ("PlantsCommitted$Solver", "demand", "[I", true)
  | 3 => ("PlantsCommitted$Solver", "reserve", "[I", true)
  | 4 => ("PlantsCommitted$Solver", "there", "I", false)
  | 5 => ("PlantsCommitted$Solver", "rows", "[I", true)
  | 6 => ("PlantsCommitted$Solver", "states", "[I", true)
  | 7 => ("PlantsCommitted$Solver", "to", "[[I", true)
  | 8 => ("PlantsCommitted$Solver", "mode", "[[I", true)
  | 9 => ("PlantsCommitted$Solver", "toll", "[[I", true)
  | 10 => ("PlantsCommitted$Solver", "hourCosts", "[I", true)
  | 11 => ("PlantsCommitted$Solver", "now", "[I", false)
  | _ => ("PlantsCommitted$Solver", "then", "[I", false)
def tyX7 : Nat → FieldType := fun k => match k with
  | 0 => .object "PlantsCommitted$Dispatch"
  | 1 => .object "PlantsCommitted$Scene"
  | 2 => .array .int
  | 3 => .array .int
  | 4 => .int
  | 5 => .array .int
  | 6 => .array .int
  | 7 => .array (.array .int)
  | 8 => .array (.array .int)
  | 9 => .array (.array .int)
  | 10 => .array .int
  | 11 => .array .int
  | _ => .array .int
abbrev wsX70 : List Cond := u_ws RX7 TX7 13
theorem nmX7 : ∀ a, a < 13 → ∀ b, b < 13 → a ≠ b → (TX7 a).2.1 ≠ (TX7 b).2.1 := by decide +kernel
theorem tyX7_ok : ∀ k, k < 13 → parseFieldDescriptor (TX7 k).2.2.1 = some (tyX7 k) := by decide +kernel
def RX8 : String := "PlantsCommitted$Teller"
def TX8 : u_T := fun k => match k with
  | 0 => ("PlantsCommitted$Teller", "letters", "[I", true)
  | 1 => ("PlantsCommitted$Teller", "many", "I", false)
  | 2 => ("PlantsCommitted$Teller", "at", "I", false)
  | 3 => ("PlantsCommitted$Teller", "sign", "I", false)
  | _ => ("PlantsCommitted$Teller", "numbers", "[I", true)
def tyX8 : Nat → FieldType := fun k => match k with
  | 0 => .array .int
  | 1 => .int
  | 2 => .int
  | 3 => .int
  | _ => .array .int
abbrev wsX80 : List Cond := u_ws RX8 TX8 5
theorem nmX8 : ∀ a, a < 5 → ∀ b, b < 5 → a ≠ b → (TX8 a).2.1 ≠ (TX8 b).2.1 := by decide +kernel
theorem tyX8_ok : ∀ k, k < 5 → parseFieldDescriptor (TX8 k).2.2.1 = some (tyX8 k) := by decide +kernel
def RX9 : String := "PlantsCommitted$Walk"
def TX9 : u_T := fun k => match k with
  | 0 => ("PlantsCommitted$Walk", "dispatch", "LPlantsCommitted$Dispatch;", true)
  | 1 => ("PlantsCommitted$Walk", "scene", "LPlantsCommitted$Scene;", true)
  | _ => ("PlantsCommitted$Walk", "ages", "[I", true)
def tyX9 : Nat → FieldType := fun k => match k with
  | 0 => .object "PlantsCommitted$Dispatch"
  | 1 => .object "PlantsCommitted$Scene"
  | _ => .array .int
abbrev wsX90 : List Cond := u_ws RX9 TX9 3
theorem nmX9 : ∀ a, a < 3 → ∀ b, b < 3 → a ≠ b → (TX9 a).2.1 ≠ (TX9 b).2.1 := by decide +kernel
theorem tyX9_ok : ∀ k, k < 3 → parseFieldDescriptor (TX9 k).2.2.1 = some (tyX9 k) := by decide +kernel
def RX10 : String := "PlantsCommitted"
def TX10 : u_T := fun k => match k with
  | 0 => ("PlantsCommitted", "scene", "LPlantsCommitted$Scene;", true)
  | 1 => ("PlantsCommitted", "before", "LPlantsCommitted$Scene;", true)
  | 2 => ("PlantsCommitted", "taken", "LPlantsCommitted$Scene;", true)
  | 3 => ("PlantsCommitted", "hasTaken", "Z", false)
  | 4 => ("PlantsCommitted", "teller", "LPlantsCommitted$Teller;", true)
  | 5 => ("PlantsCommitted", "dispatch", "LPlantsCommitted$Dispatch;", true)
  | 6 => ("PlantsCommitted", "walk", "LPlantsCommitted$Walk;", true)
  | 7 => ("PlantsCommitted", "solver", "LPlantsCommitted$Solver;", true)
  | 8 => ("PlantsCommitted", "market", "LPlantsCommitted$Market;", true)
  | 9 => ("PlantsCommitted", "repair", "LPlantsCommitted$Repair;", true)
  | 10 => ("PlantsCommitted", "lines", "[LPlantsCommitted$Line;", true)
  | 11 => ("PlantsCommitted", "shelves", "[LPlantsCommitted$Shelf;", true)
  | _ => ("PlantsCommitted", "refusals", "[I", true)
def tyX10 : Nat → FieldType := fun k => match k with
  | 0 => .object "PlantsCommitted$Scene"
  | 1 => .object "PlantsCommitted$Scene"
  | 2 => .object "PlantsCommitted$Scene"
  | 3 => .boolean
  | 4 => .object "PlantsCommitted$Teller"
  | 5 => .object "PlantsCommitted$Dispatch"
  | 6 => .object "PlantsCommitted$Walk"
  | 7 => .object "PlantsCommitted$Solver"
  | 8 => .object "PlantsCommitted$Market"
  | 9 => .object "PlantsCommitted$Repair"
  | 10 => .array (.object "PlantsCommitted$Line")
  | 11 => .array (.object "PlantsCommitted$Shelf")
  | _ => .array .int
abbrev wsX100 : List Cond := u_ws RX10 TX10 13
theorem nmX10 : ∀ a, a < 13 → ∀ b, b < 13 → a ≠ b → (TX10 a).2.1 ≠ (TX10 b).2.1 := by decide +kernel
theorem tyX10_ok : ∀ k, k < 13 → parseFieldDescriptor (TX10 k).2.2.1 = some (tyX10 k) := by decide +kernel
def RX11 : String := "PlantsCommittedModel"
def TX11 : u_T := fun k => match k with
  | 0 => ("PlantsCommittedModel", "s", "[I", true)
  | 1 => ("PlantsCommittedModel", "aside", "[I", true)
  | 2 => ("PlantsCommittedModel", "image", "[I", true)
  | 3 => ("PlantsCommittedModel", "hasImage", "Z", false)
  | 4 => ("PlantsCommittedModel", "purse", "J", false)
  | 5 => ("PlantsCommittedModel", "imagePurse", "J", false)
  | 6 => ("PlantsCommittedModel", "refused", "[I", true)
  | 7 => ("PlantsCommittedModel", "out", "[I", true)
  | 8 => ("PlantsCommittedModel", "absent", "I", false)
  | 9 => ("PlantsCommittedModel", "table", "[I", true)
  | 10 => ("PlantsCommittedModel", "isRow", "[Z", true)
  | 11 => ("PlantsCommittedModel", "freshOf", "[I", true)
  | 12 => ("PlantsCommittedModel", "startCosts", "[I", true)
  | 13 => ("PlantsCommittedModel", "bestRows", "[I", true)
  | 14 => ("PlantsCommittedModel", "triedRows", "[I", true)
  | 15 => ("PlantsCommittedModel", "bestCost", "I", false)
  | 16 => ("PlantsCommittedModel", "answers", "[I", true)
  | 17 => ("PlantsCommittedModel", "lacks", "[I", true)
  | 18 => ("PlantsCommittedModel", "ages", "[I", true)
  | 19 => ("PlantsCommittedModel", "mended", "[I", true)
  | 20 => ("PlantsCommittedModel", "sizes", "[I", true)
  | 21 => ("PlantsCommittedModel", "items", "[I", true)
  | 22 => ("PlantsCommittedModel", "madeFor", "[I", true)
  | 23 => ("PlantsCommittedModel", "rackSizes", "[I", true)
  | 24 => ("PlantsCommittedModel", "laid", "[I", true)
  | 25 => ("PlantsCommittedModel", "letters", "[I", true)
  | 26 => ("PlantsCommittedModel", "letterMany", "I", false)
  | 27 => ("PlantsCommittedModel", "at", "I", false)
  | 28 => ("PlantsCommittedModel", "told", "I", false)
  | 29 => ("PlantsCommittedModel", "sign", "I", false)
  | _ => ("PlantsCommittedModel", "numbers", "[I", true)
def tyX11 : Nat → FieldType := fun k => match k with
  | 0 => .array .int
  | 1 => .array .int
  | 2 => .array .int
  | 3 => .boolean
  | 4 => .long
  | 5 => .long
  | 6 => .array .int
  | 7 => .array .int
  | 8 => .int
  | 9 => .array .int
  | 10 => .array .boolean
  | 11 => .array .int
  | 12 => .array .int
  | 13 => .array .int
  | 14 => .array .int
  | 15 => .int
  | 16 => .array .int
  | 17 => .array .int
  | 18 => .array .int
  | 19 => .array .int
  | 20 => .array .int
  | 21 => .array .int
  | 22 => .array .int
  | 23 => .array .int
  | 24 => .array .int
  | 25 => .array .int
  | 26 => .int
  | 27 => .int
  | 28 => .int
  | 29 => .int
  | _ => .array .int
abbrev wsX110 : List Cond := u_ws RX11 TX11 31
theorem nmX11 : ∀ a, a < 31 → ∀ b, b < 31 → a ≠ b → (TX11 a).2.1 ≠ (TX11 b).2.1 := by decide +kernel
theorem tyX11_ok : ∀ k, k < 31 → parseFieldDescriptor (TX11 k).2.2.1 = some (tyX11 k) := by decide +kernel
def RJx145de : String := "java/io/Serializable"
def TJx145de : u_T := fun k => match k with
  | _ => ("", "", "", false)
def tyJx145de : Nat → FieldType := fun k => match k with
  | _ => .int
def RJx9f9b0 : String := "java/lang/CharSequence"
def TJx9f9b0 : u_T := fun k => match k with
  | _ => ("", "", "", false)
def tyJx9f9b0 : Nat → FieldType := fun k => match k with
  | _ => .int
def RJxb160c : String := "java/lang/Comparable"
def TJxb160c : u_T := fun k => match k with
  | _ => ("", "", "", false)
def tyJxb160c : Nat → FieldType := fun k => match k with
  | _ => .int
def RJxf58ca : String := "java/lang/Float"
def TJxf58ca : u_T := fun k => match k with
  | _ => ("", "", "", false)
def tyJxf58ca : Nat → FieldType := fun k => match k with
  | _ => .int
def RJ6 : String := "java/lang/Integer"
def TJ6 : u_T := fun k => match k with
  | _ => ("", "", "", false)
def tyJ6 : Nat → FieldType := fun k => match k with
  | _ => .int
def RJ9 : String := "java/lang/Math"
def TJ9 : u_T := fun k => match k with
  | _ => ("", "", "", false)
def tyJ9 : Nat → FieldType := fun k => match k with
  | _ => .int
def RJxd2413 : String := "java/lang/Number"
def TJxd2413 : u_T := fun k => match k with
  | _ => ("", "", "", false)
def tyJxd2413 : Nat → FieldType := fun k => match k with
  | _ => .int
def RJ0 : String := "java/lang/String"
def TJ0 : u_T := fun k => match k with
  | _ => ("", "", "", false)
def tyJ0 : Nat → FieldType := fun k => match k with
  | _ => .int
def RJ1 : String := "java/lang/StringLatin1"
def TJ1 : u_T := fun k => match k with
  | _ => ("", "", "", false)
def tyJ1 : Nat → FieldType := fun k => match k with
  | _ => .int
def RJ2 : String := "java/lang/StringUTF16"
def TJ2 : u_T := fun k => match k with
  | _ => ("", "", "", false)
def tyJ2 : Nat → FieldType := fun k => match k with
  | _ => .int
def RJ10 : String := "java/lang/System"
def TJ10 : u_T := fun k => match k with
  | _ => ("", "", "", false)
def tyJ10 : Nat → FieldType := fun k => match k with
  | _ => .int
def RJxfd54e : String := "java/lang/constant/Constable"
def TJxfd54e : u_T := fun k => match k with
  | _ => ("", "", "", false)
def tyJxfd54e : Nat → FieldType := fun k => match k with
  | _ => .int
def RJx3cf43 : String := "java/lang/constant/ConstantDesc"
def TJx3cf43 : u_T := fun k => match k with
  | _ => ("", "", "", false)
def tyJx3cf43 : Nat → FieldType := fun k => match k with
  | _ => .int
def RJ7 : String := "java/util/Arrays"
def TJ7 : u_T := fun k => match k with
  | _ => ("", "", "", false)
def tyJ7 : Nat → FieldType := fun k => match k with
  | _ => .int
def RJ3 : String := "jdk/internal/util/Preconditions"
def TJ3 : u_T := fun k => match k with
  | _ => ("", "", "", false)
def tyJ3 : Nat → FieldType := fun k => match k with
  | _ => .int
def RL : String := "PlantsCommittedLaw"
abbrev vwCl : List vw_C := [(RX0, TX0, 8), (RX1, TX1, 2), (RX2, TX2, 6), (RX3, TX3, 10), (RX4, TX4, 4), (RX5, TX5, 9), (RX6, TX6, 4), (RX7, TX7, 13), (RX8, TX8, 5), (RX9, TX9, 3), (RX10, TX10, 13), (RX11, TX11, 31)]
/-- a method: its name, its bytes, its locals, what it answers -/
abbrev Mth : Type := MethodName × ByteArray × Nat × Option FieldType
def my (M : Mth) : MethodName := M.1
def mc (M : Mth) : ByteArray := M.2.1
def mL (M : Mth) : Nat := M.2.2.1
def mr (M : Mth) : Option FieldType := M.2.2.2
def mX0_init : Mth := (⟨RX0, "<init>", "()V"⟩, prog_2_method_1_code, 1, (Option.none : Option Jvm.ClassFile.FieldType))
def mX0_ready : Mth := (⟨RX0, "ready", "(LPlantsCommitted$Scene;)V"⟩, prog_2_method_2_code, 5, (Option.none : Option Jvm.ClassFile.FieldType))
def mX0_comesAhead : Mth := (⟨RX0, "comesAhead", "(LPlantsCommitted$Plant;LPlantsCommitted$Plant;I)Z"⟩, prog_2_method_3_code, 3, (Option.some Jvm.ClassFile.FieldType.boolean))
def mX0_share : Mth := (⟨RX0, "share", "(IIII)I"⟩, prog_2_method_4_code, 12, (Option.some Jvm.ClassFile.FieldType.int))
def mX0_mostOf : Mth := (⟨RX0, "mostOf", "(II)I"⟩, prog_2_method_5_code, 3, (Option.some Jvm.ClassFile.FieldType.int))
def mX1_init : Mth := (⟨RX1, "<init>", "()V"⟩, prog_3_method_1_code, 1, (Option.none : Option Jvm.ClassFile.FieldType))
def mX1_make : Mth := (⟨RX1, "make", "(I)V"⟩, prog_3_method_2_code, 2, (Option.none : Option Jvm.ClassFile.FieldType))
def mX1_set : Mth := (⟨RX1, "set", "(II)Z"⟩, prog_3_method_3_code, 3, (Option.some Jvm.ClassFile.FieldType.boolean))
def mX1_setAt : Mth := (⟨RX1, "setAt", "(II)I"⟩, prog_3_method_4_code, 5, (Option.some Jvm.ClassFile.FieldType.int))
def mX1_tellsStarts : Mth := (⟨RX1, "tellsStarts", "(III)Z"⟩, prog_3_method_5_code, 5, (Option.some Jvm.ClassFile.FieldType.boolean))
def mX2_init : Mth := (⟨RX2, "<init>", "(LPlantsCommitted$Scene;)V"⟩, prog_4_method_1_code, 2, (Option.none : Option Jvm.ClassFile.FieldType))
def mX2_begin : Mth := (⟨RX2, "begin", "()V"⟩, prog_4_method_2_code, 1, (Option.none : Option Jvm.ClassFile.FieldType))
def mX2_ask : Mth := (⟨RX2, "ask", "()V"⟩, prog_4_method_3_code, 5, (Option.none : Option Jvm.ClassFile.FieldType))
def mX2_netOf : Mth := (⟨RX2, "netOf", "(LPlantsCommitted$Plant;I)I"⟩, prog_4_method_4_code, 8, (Option.some Jvm.ClassFile.FieldType.int))
def mX2_amountAt : Mth := (⟨RX2, "amountAt", "(LPlantsCommitted$Plant;IZ)I"⟩, prog_4_method_5_code, 4, (Option.some Jvm.ClassFile.FieldType.int))
def mX2_addAmounts : Mth := (⟨RX2, "addAmounts", "(LPlantsCommitted$Plant;I)V"⟩, prog_4_method_6_code, 7, (Option.none : Option Jvm.ClassFile.FieldType))
def mX2_boundNow : Mth := (⟨RX2, "boundNow", "()I"⟩, prog_4_method_7_code, 3, (Option.some Jvm.ClassFile.FieldType.int))
def mX2_run : Mth := (⟨RX2, "run", "(I)I"⟩, prog_4_method_8_code, 6, (Option.some Jvm.ClassFile.FieldType.int))
def mX3_init : Mth := (⟨RX3, "<init>", "()V"⟩, prog_5_method_1_code, 1, (Option.none : Option Jvm.ClassFile.FieldType))
def mX3_begin : Mth := (⟨RX3, "begin", "(II)V"⟩, prog_5_method_2_code, 3, (Option.none : Option Jvm.ClassFile.FieldType))
def mX3_copyFrom : Mth := (⟨RX3, "copyFrom", "(LPlantsCommitted$Plant;)V"⟩, prog_5_method_3_code, 2, (Option.none : Option Jvm.ClassFile.FieldType))
def mX3_figureOf : Mth := (⟨RX3, "figureOf", "(I)I"⟩, prog_5_method_4_code, 2, (Option.some Jvm.ClassFile.FieldType.int))
def mX3_kindIsUnder : Mth := (⟨RX3, "kindIsUnder", "(II)Z"⟩, prog_5_method_5_code, 4, (Option.some Jvm.ClassFile.FieldType.boolean))
def mX3_isUnder : Mth := (⟨RX3, "isUnder", "(I)Z"⟩, prog_5_method_6_code, 2, (Option.some Jvm.ClassFile.FieldType.boolean))
def mX3_startOf : Mth := (⟨RX3, "startOf", "(IIII)I"⟩, prog_5_method_7_code, 5, (Option.some Jvm.ClassFile.FieldType.int))
def mX3_startBehind : Mth := (⟨RX3, "startBehind", "(I)I"⟩, prog_5_method_8_code, 2, (Option.some Jvm.ClassFile.FieldType.int))
def mX3_least : Mth := (⟨RX3, "least", "()I"⟩, prog_5_method_9_code, 1, (Option.some Jvm.ClassFile.FieldType.int))
def mX3_most : Mth := (⟨RX3, "most", "(Z)I"⟩, prog_5_method_10_code, 2, (Option.some Jvm.ClassFile.FieldType.int))
def mX3_moved : Mth := (⟨RX3, "moved", "(IZ)I"⟩, prog_5_method_11_code, 3, (Option.some Jvm.ClassFile.FieldType.int))
def mX3_mayRun : Mth := (⟨RX3, "mayRun", "(II)Z"⟩, prog_5_method_12_code, 5, (Option.some Jvm.ClassFile.FieldType.boolean))
def mX4_init : Mth := (⟨RX4, "<init>", "(LPlantsCommitted$Scene;LPlantsCommitted$Market;LPlantsCommitted$Walk;)V"⟩, prog_6_method_1_code, 4, (Option.none : Option Jvm.ClassFile.FieldType))
def mX4_run : Mth := (⟨RX4, "run", "()I"⟩, prog_6_method_2_code, 6, (Option.some Jvm.ClassFile.FieldType.int))
def mX4_nearest : Mth := (⟨RX4, "nearest", "(II)I"⟩, prog_6_method_3_code, 10, (Option.some Jvm.ClassFile.FieldType.int))
def mX5_init : Mth := (⟨RX5, "<init>", "()V"⟩, prog_7_method_1_code, 2, (Option.none : Option Jvm.ClassFile.FieldType))
def mX5_copyFrom : Mth := (⟨RX5, "copyFrom", "(LPlantsCommitted$Scene;)V"⟩, prog_7_method_2_code, 3, (Option.none : Option Jvm.ClassFile.FieldType))
def mX5_noHour : Mth := (⟨RX5, "noHour", "(I)Z"⟩, prog_7_method_3_code, 2, (Option.some Jvm.ClassFile.FieldType.boolean))
def mX5_noPlant : Mth := (⟨RX5, "noPlant", "(I)Z"⟩, prog_7_method_4_code, 2, (Option.some Jvm.ClassFile.FieldType.boolean))
def mX5_demandOfAll : Mth := (⟨RX5, "demandOfAll", "()I"⟩, prog_7_method_5_code, 3, (Option.some Jvm.ClassFile.FieldType.int))
def mX5_setSpan : Mth := (⟨RX5, "setSpan", "(I)I"⟩, prog_7_method_6_code, 3, (Option.some Jvm.ClassFile.FieldType.int))
def mX5_setDemand : Mth := (⟨RX5, "setDemand", "(III)I"⟩, prog_7_method_7_code, 5, (Option.some Jvm.ClassFile.FieldType.int))
def mX5_addPlant : Mth := (⟨RX5, "addPlant", "(II)I"⟩, prog_7_method_8_code, 3, (Option.some Jvm.ClassFile.FieldType.int))
def mX5_setRange : Mth := (⟨RX5, "setRange", "(III)I"⟩, prog_7_method_9_code, 5, (Option.some Jvm.ClassFile.FieldType.int))
def mX5_setCosts : Mth := (⟨RX5, "setCosts", "(IIII)I"⟩, prog_7_method_10_code, 6, (Option.some Jvm.ClassFile.FieldType.int))
def mX5_setTimes : Mth := (⟨RX5, "setTimes", "(III)I"⟩, prog_7_method_11_code, 5, (Option.some Jvm.ClassFile.FieldType.int))
def mX5_setAge : Mth := (⟨RX5, "setAge", "(II)I"⟩, prog_7_method_12_code, 4, (Option.some Jvm.ClassFile.FieldType.int))
def mX6_init : Mth := (⟨RX6, "<init>", "()V"⟩, prog_8_method_1_code, 2, (Option.none : Option Jvm.ClassFile.FieldType))
def mX6_make : Mth := (⟨RX6, "make", "(II)V"⟩, prog_8_method_2_code, 4, (Option.none : Option Jvm.ClassFile.FieldType))
def mX6_noPlace : Mth := (⟨RX6, "noPlace", "(I)Z"⟩, prog_8_method_3_code, 2, (Option.some Jvm.ClassFile.FieldType.boolean))
def mX6_copyFrom : Mth := (⟨RX6, "copyFrom", "(LPlantsCommitted$Shelf;)V"⟩, prog_8_method_4_code, 3, (Option.none : Option Jvm.ClassFile.FieldType))
def mX7_init : Mth := (⟨RX7, "<init>", "(LPlantsCommitted$Scene;LPlantsCommitted$Dispatch;)V"⟩, prog_9_method_1_code, 3, (Option.none : Option Jvm.ClassFile.FieldType))
def mX7_load : Mth := (⟨RX7, "load", "()V"⟩, prog_9_method_2_code, 1, (Option.none : Option Jvm.ClassFile.FieldType))
def mX7_solve : Mth := (⟨RX7, "solve", "()I"⟩, prog_9_method_3_code, 5, (Option.some Jvm.ClassFile.FieldType.int))
def mX7_keepRows : Mth := (⟨RX7, "keepRows", "(I)I"⟩, prog_9_method_4_code, 3, (Option.some Jvm.ClassFile.FieldType.int))
def mX7_rowShift : Mth := (⟨RX7, "rowShift", "(I)I"⟩, prog_9_method_5_code, 1, (Option.some Jvm.ClassFile.FieldType.int))
def mX7_setAt : Mth := (⟨RX7, "setAt", "(I)I"⟩, prog_9_method_6_code, 4, (Option.some Jvm.ClassFile.FieldType.int))
def mX7_layTables : Mth := (⟨RX7, "layTables", "(LPlantsCommitted$Plant;II)I"⟩, prog_9_method_7_code, 11, (Option.some Jvm.ClassFile.FieldType.int))
def mX7_layMove : Mth := (⟨RX7, "layMove", "(IIIII)V"⟩, prog_9_method_8_code, 6, (Option.none : Option Jvm.ClassFile.FieldType))
def mX7_placeOf : Mth := (⟨RX7, "placeOf", "(IIII)I"⟩, prog_9_method_9_code, 5, (Option.some Jvm.ClassFile.FieldType.int))
def mX7_layHourCosts : Mth := (⟨RX7, "layHourCosts", "(I)V"⟩, prog_9_method_10_code, 8, (Option.none : Option Jvm.ClassFile.FieldType))
def mX7_spread : Mth := (⟨RX7, "spread", "(I)V"⟩, prog_9_method_11_code, 6, (Option.none : Option Jvm.ClassFile.FieldType))
def mX7_spreadFrom : Mth := (⟨RX7, "spreadFrom", "(IIIII)V"⟩, prog_9_method_12_code, 13, (Option.none : Option Jvm.ClassFile.FieldType))
def mX8_init : Mth := (⟨RX8, "<init>", "()V"⟩, prog_10_method_1_code, 1, (Option.none : Option Jvm.ClassFile.FieldType))
def mX8_take : Mth := (⟨RX8, "take", "(I)I"⟩, prog_10_method_2_code, 2, (Option.some Jvm.ClassFile.FieldType.int))
def mX8_readAll : Mth := (⟨RX8, "readAll", "()I"⟩, prog_10_method_3_code, 2, (Option.some Jvm.ClassFile.FieldType.int))
def mX8_applyAll : Mth := (⟨RX8, "applyAll", "(LPlantsCommitted$Scene;)I"⟩, prog_10_method_4_code, 5, (Option.some Jvm.ClassFile.FieldType.int))
def mX8_shapeOf : Mth := (⟨RX8, "shapeOf", "(I)Ljava/lang/String;"⟩, prog_10_method_5_code, 1, (Option.some (Jvm.ClassFile.FieldType.object "java/lang/String")))
def mX8_readOne : Mth := (⟨RX8, "readOne", "()Z"⟩, prog_10_method_6_code, 6, (Option.some Jvm.ClassFile.FieldType.boolean))
def mX8_here : Mth := (⟨RX8, "here", "()I"⟩, prog_10_method_7_code, 1, (Option.some Jvm.ClassFile.FieldType.int))
def mX8_isDigit : Mth := (⟨RX8, "isDigit", "()Z"⟩, prog_10_method_8_code, 1, (Option.some Jvm.ClassFile.FieldType.boolean))
def mX8_readNumber : Mth := (⟨RX8, "readNumber", "(I)Z"⟩, prog_10_method_9_code, 3, (Option.some Jvm.ClassFile.FieldType.boolean))
def mX8_readSign : Mth := (⟨RX8, "readSign", "()Z"⟩, prog_10_method_10_code, 1, (Option.some Jvm.ClassFile.FieldType.boolean))
def mX8_readLetter : Mth := (⟨RX8, "readLetter", "(C)Z"⟩, prog_10_method_11_code, 2, (Option.some Jvm.ClassFile.FieldType.boolean))
def mX8_applyOne : Mth := (⟨RX8, "applyOne", "(LPlantsCommitted$Scene;I)I"⟩, prog_10_method_12_code, 3, (Option.some Jvm.ClassFile.FieldType.int))
def mX9_init : Mth := (⟨RX9, "<init>", "(LPlantsCommitted$Scene;LPlantsCommitted$Dispatch;)V"⟩, prog_11_method_1_code, 3, (Option.none : Option Jvm.ClassFile.FieldType))
def mX9_begin : Mth := (⟨RX9, "begin", "()V"⟩, prog_11_method_2_code, 2, (Option.none : Option Jvm.ClassFile.FieldType))
def mX9_tried : Mth := (⟨RX9, "tried", "(II)I"⟩, prog_11_method_3_code, 7, (Option.some Jvm.ClassFile.FieldType.int))
def mX9_pass : Mth := (⟨RX9, "pass", "(II)I"⟩, prog_11_method_4_code, 5, (Option.some Jvm.ClassFile.FieldType.int))
def mX10_init : Mth := (⟨RX10, "<init>", "()V"⟩, prog_1_method_1_code, 2, (Option.none : Option Jvm.ClassFile.FieldType))
def mX10_letter : Mth := (⟨RX10, "letter", "(I)I"⟩, prog_1_method_2_code, 2, (Option.some Jvm.ClassFile.FieldType.int))
def mX10_tells : Mth := (⟨RX10, "tells", "()I"⟩, prog_1_method_3_code, 2, (Option.some Jvm.ClassFile.FieldType.int))
def mX10_hours : Mth := (⟨RX10, "hours", "(I)I"⟩, prog_1_method_4_code, 2, (Option.some Jvm.ClassFile.FieldType.int))
def mX10_demand : Mth := (⟨RX10, "demand", "(III)I"⟩, prog_1_method_5_code, 4, (Option.some Jvm.ClassFile.FieldType.int))
def mX10_plant : Mth := (⟨RX10, "plant", "(II)I"⟩, prog_1_method_6_code, 3, (Option.some Jvm.ClassFile.FieldType.int))
def mX10_gives : Mth := (⟨RX10, "gives", "(III)I"⟩, prog_1_method_7_code, 4, (Option.some Jvm.ClassFile.FieldType.int))
def mX10_costs : Mth := (⟨RX10, "costs", "(IIII)I"⟩, prog_1_method_8_code, 5, (Option.some Jvm.ClassFile.FieldType.int))
def mX10_times : Mth := (⟨RX10, "times", "(III)I"⟩, prog_1_method_9_code, 4, (Option.some Jvm.ClassFile.FieldType.int))
def mX10_age : Mth := (⟨RX10, "age", "(II)I"⟩, prog_1_method_10_code, 3, (Option.some Jvm.ClassFile.FieldType.int))
def mX10_merit : Mth := (⟨RX10, "merit", "(I)I"⟩, prog_1_method_11_code, 3, (Option.some Jvm.ClassFile.FieldType.int))
def mX10_of : Mth := (⟨RX10, "of", "(II)I"⟩, prog_1_method_12_code, 3, (Option.some Jvm.ClassFile.FieldType.int))
def mX10_starts : Mth := (⟨RX10, "starts", "(II)I"⟩, prog_1_method_13_code, 3, (Option.some Jvm.ClassFile.FieldType.int))
def mX10_lawful : Mth := (⟨RX10, "lawful", "(II)I"⟩, prog_1_method_14_code, 3, (Option.some Jvm.ClassFile.FieldType.int))
def mX10_rows : Mth := (⟨RX10, "rows", "(II)I"⟩, prog_1_method_15_code, 5, (Option.some Jvm.ClassFile.FieldType.int))
def mX10_done : Mth := (⟨RX10, "done", "(II)I"⟩, prog_1_method_16_code, 4, (Option.some Jvm.ClassFile.FieldType.int))
def mX10_given : Mth := (⟨RX10, "given", "(III)I"⟩, prog_1_method_17_code, 6, (Option.some Jvm.ClassFile.FieldType.int))
def mX10_best : Mth := (⟨RX10, "best", "()I"⟩, prog_1_method_18_code, 1, (Option.some Jvm.ClassFile.FieldType.int))
def mX10_row : Mth := (⟨RX10, "row", "(I)I"⟩, prog_1_method_19_code, 2, (Option.some Jvm.ClassFile.FieldType.int))
def mX10_cost : Mth := (⟨RX10, "cost", "(I)I"⟩, prog_1_method_20_code, 4, (Option.some Jvm.ClassFile.FieldType.int))
def mX10_margin : Mth := (⟨RX10, "margin", "(I)I"⟩, prog_1_method_21_code, 3, (Option.some Jvm.ClassFile.FieldType.int))
def mX10_worth : Mth := (⟨RX10, "worth", "(I)I"⟩, prog_1_method_22_code, 3, (Option.some Jvm.ClassFile.FieldType.int))
def mX10_hand : Mth := (⟨RX10, "hand", "()I"⟩, prog_1_method_23_code, 5, (Option.some Jvm.ClassFile.FieldType.int))
def mX10_likely : Mth := (⟨RX10, "likely", "(II)J"⟩, prog_1_method_24_code, 6, (Option.some Jvm.ClassFile.FieldType.long))
def mX10_shown : Mth := (⟨RX10, "shown", "(I)J"⟩, prog_1_method_25_code, 5, (Option.some Jvm.ClassFile.FieldType.long))
def mX10_price : Mth := (⟨RX10, "price", "(II)I"⟩, prog_1_method_26_code, 4, (Option.some Jvm.ClassFile.FieldType.int))
def mX10_step : Mth := (⟨RX10, "step", "(I)I"⟩, prog_1_method_27_code, 3, (Option.some Jvm.ClassFile.FieldType.int))
def mX10_answer : Mth := (⟨RX10, "answer", "(II)J"⟩, prog_1_method_28_code, 3, (Option.some Jvm.ClassFile.FieldType.long))
def mX10_bound : Mth := (⟨RX10, "bound", "()I"⟩, prog_1_method_29_code, 1, (Option.some Jvm.ClassFile.FieldType.int))
def mX10_rounds : Mth := (⟨RX10, "rounds", "(II)J"⟩, prog_1_method_30_code, 4, (Option.some Jvm.ClassFile.FieldType.long))
def mX10_goes : Mth := (⟨RX10, "goes", "(I)I"⟩, prog_1_method_31_code, 4, (Option.some Jvm.ClassFile.FieldType.int))
def mX10_repaired : Mth := (⟨RX10, "repaired", "(I)I"⟩, prog_1_method_32_code, 3, (Option.some Jvm.ClassFile.FieldType.int))
def mX10_judge : Mth := (⟨RX10, "judge", "(I)I"⟩, prog_1_method_33_code, 4, (Option.some Jvm.ClassFile.FieldType.int))
def mX10_whatIs : Mth := (⟨RX10, "whatIs", "(III)I"⟩, prog_1_method_34_code, 10, (Option.some Jvm.ClassFile.FieldType.int))
def mX10_lots : Mth := (⟨RX10, "lots", "(III)I"⟩, prog_1_method_35_code, 9, (Option.some Jvm.ClassFile.FieldType.int))
def mX10_list : Mth := (⟨RX10, "list", "(II)I"⟩, prog_1_method_36_code, 3, (Option.some Jvm.ClassFile.FieldType.int))
def mX10_put : Mth := (⟨RX10, "put", "(III)I"⟩, prog_1_method_37_code, 4, (Option.some Jvm.ClassFile.FieldType.int))
def mX10_lays : Mth := (⟨RX10, "lays", "(II)I"⟩, prog_1_method_38_code, 4, (Option.some Jvm.ClassFile.FieldType.int))
def mX10_pays : Mth := (⟨RX10, "pays", "(JJ)I"⟩, prog_1_method_39_code, 9, (Option.some Jvm.ClassFile.FieldType.int))
def mX10_purse : Mth := (⟨RX10, "purse", "()J"⟩, prog_1_method_40_code, 1, (Option.some Jvm.ClassFile.FieldType.long))
def mX10_bills : Mth := (⟨RX10, "bills", "(I)I"⟩, prog_1_method_41_code, 7, (Option.some Jvm.ClassFile.FieldType.int))
def mX10_rack : Mth := (⟨RX10, "rack", "(III)I"⟩, prog_1_method_42_code, 4, (Option.some Jvm.ClassFile.FieldType.int))
def mX10_racks : Mth := (⟨RX10, "racks", "(III)I"⟩, prog_1_method_43_code, 5, (Option.some Jvm.ClassFile.FieldType.int))
def mX10_racked : Mth := (⟨RX10, "racked", "(III)I"⟩, prog_1_method_44_code, 5, (Option.some Jvm.ClassFile.FieldType.int))
def mX10_like : Mth := (⟨RX10, "like", "(II)I"⟩, prog_1_method_45_code, 3, (Option.some Jvm.ClassFile.FieldType.int))
def mX10_image : Mth := (⟨RX10, "image", "()I"⟩, prog_1_method_46_code, 1, (Option.some Jvm.ClassFile.FieldType.int))
def mX10_on : Mth := (⟨RX10, "on", "()I"⟩, prog_1_method_47_code, 1, (Option.some Jvm.ClassFile.FieldType.int))
def mX10_count : Mth := (⟨RX10, "count", "(I)I"⟩, prog_1_method_48_code, 2, (Option.some Jvm.ClassFile.FieldType.int))
def mX10_hour : Mth := (⟨RX10, "hour", "(II)I"⟩, prog_1_method_49_code, 3, (Option.some Jvm.ClassFile.FieldType.int))
def mX10_refuse : Mth := (⟨RX10, "refuse", "(I)I"⟩, prog_1_method_50_code, 2, (Option.some Jvm.ClassFile.FieldType.int))
def mX10_refuseLong : Mth := (⟨RX10, "refuseLong", "(I)J"⟩, prog_1_method_51_code, 2, (Option.some Jvm.ClassFile.FieldType.long))
def mX10_counted : Mth := (⟨RX10, "counted", "(I)I"⟩, prog_1_method_52_code, 2, (Option.some Jvm.ClassFile.FieldType.int))
def mX10_noList : Mth := (⟨RX10, "noList", "(I)Z"⟩, prog_1_method_53_code, 1, (Option.some Jvm.ClassFile.FieldType.boolean))
def mX10_noRack : Mth := (⟨RX10, "noRack", "(I)Z"⟩, prog_1_method_54_code, 1, (Option.some Jvm.ClassFile.FieldType.boolean))
def mX10_refusalOfSet : Mth := (⟨RX10, "refusalOfSet", "(I)I"⟩, prog_1_method_55_code, 2, (Option.some Jvm.ClassFile.FieldType.int))
def mX10_solveAsIs : Mth := (⟨RX10, "solveAsIs", "()I"⟩, prog_1_method_56_code, 1, (Option.some Jvm.ClassFile.FieldType.int))
def mX10_difference : Mth := (⟨RX10, "difference", "(II)I"⟩, prog_1_method_57_code, 2, (Option.some Jvm.ClassFile.FieldType.int))
def mX10_canKeep : Mth := (⟨RX10, "canKeep", "(I)Z"⟩, prog_1_method_58_code, 3, (Option.some Jvm.ClassFile.FieldType.boolean))
def mX10_leansOfBest : Mth := (⟨RX10, "leansOfBest", "()F"⟩, prog_1_method_59_code, 3, (Option.some Jvm.ClassFile.FieldType.float))
def mX10_power : Mth := (⟨RX10, "power", "(II)I"⟩, prog_1_method_60_code, 4, (Option.some Jvm.ClassFile.FieldType.int))
def mX10_commonDivisor : Mth := (⟨RX10, "commonDivisor", "(II)I"⟩, prog_1_method_61_code, 6, (Option.some Jvm.ClassFile.FieldType.int))
def mX10_productIsOver : Mth := (⟨RX10, "productIsOver", "(JJ)Z"⟩, prog_1_method_62_code, 4, (Option.some Jvm.ClassFile.FieldType.boolean))
def mX10_bitsOf : Mth := (⟨RX10, "bitsOf", "(F)I"⟩, prog_1_method_63_code, 4, (Option.some Jvm.ClassFile.FieldType.int))
def mX11_init : Mth := (⟨RX11, "<init>", "()V"⟩, prog_13_method_1_code, 1, (Option.none : Option Jvm.ClassFile.FieldType))
def mX11_isIn : Mth := (⟨RX11, "isIn", "(JJJ)Z"⟩, prog_13_method_2_code, 6, (Option.some Jvm.ClassFile.FieldType.boolean))
def mX11_no : Mth := (⟨RX11, "no", "(I)I"⟩, prog_13_method_3_code, 2, (Option.some Jvm.ClassFile.FieldType.int))
def mX11_noWide : Mth := (⟨RX11, "noWide", "(I)J"⟩, prog_13_method_4_code, 2, (Option.some Jvm.ClassFile.FieldType.long))
def mX11_keeps : Mth := (⟨RX11, "keeps", "()V"⟩, prog_13_method_5_code, 1, (Option.none : Option Jvm.ClassFile.FieldType))
def mX11_laysBack : Mth := (⟨RX11, "laysBack", "()V"⟩, prog_13_method_6_code, 1, (Option.none : Option Jvm.ClassFile.FieldType))
def mX11_isHour : Mth := (⟨RX11, "isHour", "(I)Z"⟩, prog_13_method_7_code, 2, (Option.some Jvm.ClassFile.FieldType.boolean))
def mX11_isPlant : Mth := (⟨RX11, "isPlant", "(I)Z"⟩, prog_13_method_8_code, 2, (Option.some Jvm.ClassFile.FieldType.boolean))
def mX11_of1 : Mth := (⟨RX11, "of1", "(II)I"⟩, prog_13_method_9_code, 3, (Option.some Jvm.ClassFile.FieldType.int))
def mX11_sets : Mth := (⟨RX11, "sets", "(III)V"⟩, prog_13_method_10_code, 4, (Option.none : Option Jvm.ClassFile.FieldType))
def mX11_has : Mth := (⟨RX11, "has", "(II)Z"⟩, prog_13_method_11_code, 2, (Option.some Jvm.ClassFile.FieldType.boolean))
def mX11_wrongBy : Mth := (⟨RX11, "wrongBy", "(III)I"⟩, prog_13_method_12_code, 3, (Option.some Jvm.ClassFile.FieldType.int))
def mX11_wrongOf : Mth := (⟨RX11, "wrongOf", "(IIIIII)I"⟩, prog_13_method_13_code, 6, (Option.some Jvm.ClassFile.FieldType.int))
def mX11_hoursWrong : Mth := (⟨RX11, "hoursWrong", "(I)I"⟩, prog_13_method_14_code, 2, (Option.some Jvm.ClassFile.FieldType.int))
def mX11_hours : Mth := (⟨RX11, "hours", "(I)I"⟩, prog_13_method_15_code, 4, (Option.some Jvm.ClassFile.FieldType.int))
def mX11_demandWrong : Mth := (⟨RX11, "demandWrong", "(III)I"⟩, prog_13_method_16_code, 4, (Option.some Jvm.ClassFile.FieldType.int))
def mX11_demand : Mth := (⟨RX11, "demand", "(III)I"⟩, prog_13_method_17_code, 6, (Option.some Jvm.ClassFile.FieldType.int))
def mX11_plantWrong : Mth := (⟨RX11, "plantWrong", "(II)I"⟩, prog_13_method_18_code, 4, (Option.some Jvm.ClassFile.FieldType.int))
def mX11_adds : Mth := (⟨RX11, "adds", "(II)I"⟩, prog_13_method_19_code, 4, (Option.some Jvm.ClassFile.FieldType.int))
def mX11_plant : Mth := (⟨RX11, "plant", "(II)I"⟩, prog_13_method_20_code, 4, (Option.some Jvm.ClassFile.FieldType.int))
def mX11_givesWrong : Mth := (⟨RX11, "givesWrong", "(III)I"⟩, prog_13_method_21_code, 5, (Option.some Jvm.ClassFile.FieldType.int))
def mX11_gives : Mth := (⟨RX11, "gives", "(III)I"⟩, prog_13_method_22_code, 6, (Option.some Jvm.ClassFile.FieldType.int))
def mX11_costsWrong : Mth := (⟨RX11, "costsWrong", "(IIII)I"⟩, prog_13_method_23_code, 5, (Option.some Jvm.ClassFile.FieldType.int))
def mX11_costs : Mth := (⟨RX11, "costs", "(IIII)I"⟩, prog_13_method_24_code, 7, (Option.some Jvm.ClassFile.FieldType.int))
def mX11_timesWrong : Mth := (⟨RX11, "timesWrong", "(III)I"⟩, prog_13_method_25_code, 4, (Option.some Jvm.ClassFile.FieldType.int))
def mX11_times : Mth := (⟨RX11, "times", "(III)I"⟩, prog_13_method_26_code, 6, (Option.some Jvm.ClassFile.FieldType.int))
def mX11_ageWrong : Mth := (⟨RX11, "ageWrong", "(II)I"⟩, prog_13_method_27_code, 4, (Option.some Jvm.ClassFile.FieldType.int))
def mX11_age : Mth := (⟨RX11, "age", "(II)I"⟩, prog_13_method_28_code, 5, (Option.some Jvm.ClassFile.FieldType.int))
def mX11_merit : Mth := (⟨RX11, "merit", "(I)I"⟩, prog_13_method_29_code, 3, (Option.some Jvm.ClassFile.FieldType.int))
def mX11_startsBy : Mth := (⟨RX11, "startsBy", "(IIII)I"⟩, prog_13_method_30_code, 6, (Option.some Jvm.ClassFile.FieldType.int))
def mX11_startsOf : Mth := (⟨RX11, "startsOf", "(II)I"⟩, prog_13_method_31_code, 3, (Option.some Jvm.ClassFile.FieldType.int))
def mX11_leastOf : Mth := (⟨RX11, "leastOf", "(I)I"⟩, prog_13_method_32_code, 2, (Option.some Jvm.ClassFile.FieldType.int))
def mX11_mostOf : Mth := (⟨RX11, "mostOf", "(IZ)I"⟩, prog_13_method_33_code, 4, (Option.some Jvm.ClassFile.FieldType.int))
def mX11_of : Mth := (⟨RX11, "of", "(II)I"⟩, prog_13_method_34_code, 3, (Option.some Jvm.ClassFile.FieldType.int))
def mX11_starts : Mth := (⟨RX11, "starts", "(II)I"⟩, prog_13_method_35_code, 4, (Option.some Jvm.ClassFile.FieldType.int))
def mX11_mayGo : Mth := (⟨RX11, "mayGo", "(IIZ)Z"⟩, prog_13_method_36_code, 4, (Option.some Jvm.ClassFile.FieldType.boolean))
def mX11_goesOn : Mth := (⟨RX11, "goesOn", "(IZ)I"⟩, prog_13_method_37_code, 2, (Option.some Jvm.ClassFile.FieldType.int))
def mX11_isLawful : Mth := (⟨RX11, "isLawful", "(II)Z"⟩, prog_13_method_38_code, 5, (Option.some Jvm.ClassFile.FieldType.boolean))
def mX11_lawful : Mth := (⟨RX11, "lawful", "(II)I"⟩, prog_13_method_39_code, 4, (Option.some Jvm.ClassFile.FieldType.int))
def mX11_rows : Mth := (⟨RX11, "rows", "(II)I"⟩, prog_13_method_40_code, 5, (Option.some Jvm.ClassFile.FieldType.int))
def mX11_canDo : Mth := (⟨RX11, "canDo", "(III)Z"⟩, prog_13_method_41_code, 7, (Option.some Jvm.ClassFile.FieldType.boolean))
def mX11_isAhead : Mth := (⟨RX11, "isAhead", "(II)Z"⟩, prog_13_method_42_code, 4, (Option.some Jvm.ClassFile.FieldType.boolean))
def mX11_byMerit : Mth := (⟨RX11, "byMerit", "(I)I"⟩, prog_13_method_43_code, 5, (Option.some Jvm.ClassFile.FieldType.int))
def mX11_shares : Mth := (⟨RX11, "shares", "(III)V"⟩, prog_13_method_44_code, 8, (Option.none : Option Jvm.ClassFile.FieldType))
def mX11_costBy : Mth := (⟨RX11, "costBy", "(III)I"⟩, prog_13_method_45_code, 6, (Option.some Jvm.ClassFile.FieldType.int))
def mX11_setWrong : Mth := (⟨RX11, "setWrong", "(I)I"⟩, prog_13_method_46_code, 2, (Option.some Jvm.ClassFile.FieldType.int))
def mX11_done : Mth := (⟨RX11, "done", "(II)I"⟩, prog_13_method_47_code, 5, (Option.some Jvm.ClassFile.FieldType.int))
def mX11_given : Mth := (⟨RX11, "given", "(III)I"⟩, prog_13_method_48_code, 5, (Option.some Jvm.ClassFile.FieldType.int))
def mX11_laysRows : Mth := (⟨RX11, "laysRows", "(I)V"⟩, prog_13_method_49_code, 6, (Option.none : Option Jvm.ClassFile.FieldType))
def mX11_laysTable : Mth := (⟨RX11, "laysTable", "()V"⟩, prog_13_method_50_code, 4, (Option.none : Option Jvm.ClassFile.FieldType))
def mX11_costOfTried : Mth := (⟨RX11, "costOfTried", "()I"⟩, prog_13_method_51_code, 6, (Option.some Jvm.ClassFile.FieldType.int))
def mX11_tries : Mth := (⟨RX11, "tries", "(I)V"⟩, prog_13_method_52_code, 4, (Option.none : Option Jvm.ClassFile.FieldType))
def mX11_bests : Mth := (⟨RX11, "bests", "()I"⟩, prog_13_method_53_code, 2, (Option.some Jvm.ClassFile.FieldType.int))
def mX11_best : Mth := (⟨RX11, "best", "()I"⟩, prog_13_method_54_code, 1, (Option.some Jvm.ClassFile.FieldType.int))
def mX11_row : Mth := (⟨RX11, "row", "(I)I"⟩, prog_13_method_55_code, 2, (Option.some Jvm.ClassFile.FieldType.int))
def mX11_hourBest : Mth := (⟨RX11, "hourBest", "(I)I"⟩, prog_13_method_56_code, 8, (Option.some Jvm.ClassFile.FieldType.int))
def mX11_cost : Mth := (⟨RX11, "cost", "(I)I"⟩, prog_13_method_57_code, 2, (Option.some Jvm.ClassFile.FieldType.int))
def mX11_margin : Mth := (⟨RX11, "margin", "(I)I"⟩, prog_13_method_58_code, 4, (Option.some Jvm.ClassFile.FieldType.int))
def mX11_worth : Mth := (⟨RX11, "worth", "(I)I"⟩, prog_13_method_59_code, 4, (Option.some Jvm.ClassFile.FieldType.int))
def mX11_isBestBy : Mth := (⟨RX11, "isBestBy", "(I)Z"⟩, prog_13_method_60_code, 4, (Option.some Jvm.ClassFile.FieldType.boolean))
def mX11_hand : Mth := (⟨RX11, "hand", "()I"⟩, prog_13_method_61_code, 5, (Option.some Jvm.ClassFile.FieldType.int))
def mX11_lowest : Mth := (⟨RX11, "lowest", "(JJI)J"⟩, prog_13_method_62_code, 11, (Option.some Jvm.ClassFile.FieldType.long))
def mX11_likely : Mth := (⟨RX11, "likely", "(II)J"⟩, prog_13_method_63_code, 12, (Option.some Jvm.ClassFile.FieldType.long))
def mX11_allDemand : Mth := (⟨RX11, "allDemand", "()I"⟩, prog_13_method_64_code, 3, (Option.some Jvm.ClassFile.FieldType.int))
def mX11_shown : Mth := (⟨RX11, "shown", "(I)J"⟩, prog_13_method_65_code, 5, (Option.some Jvm.ClassFile.FieldType.long))
def mX11_price : Mth := (⟨RX11, "price", "(II)I"⟩, prog_13_method_66_code, 5, (Option.some Jvm.ClassFile.FieldType.int))
def mX11_step : Mth := (⟨RX11, "step", "(I)I"⟩, prog_13_method_67_code, 4, (Option.some Jvm.ClassFile.FieldType.int))
def mX11_answersIn : Mth := (⟨RX11, "answersIn", "(IIZ)I"⟩, prog_13_method_68_code, 4, (Option.some Jvm.ClassFile.FieldType.int))
def mX11_netOf : Mth := (⟨RX11, "netOf", "(II)I"⟩, prog_13_method_69_code, 6, (Option.some Jvm.ClassFile.FieldType.int))
def mX11_answerOf : Mth := (⟨RX11, "answerOf", "(I)I"⟩, prog_13_method_70_code, 6, (Option.some Jvm.ClassFile.FieldType.int))
def mX11_givesBy : Mth := (⟨RX11, "givesBy", "(III)I"⟩, prog_13_method_71_code, 6, (Option.some Jvm.ClassFile.FieldType.int))
def mX11_answer : Mth := (⟨RX11, "answer", "(II)J"⟩, prog_13_method_72_code, 6, (Option.some Jvm.ClassFile.FieldType.long))
def mX11_bound : Mth := (⟨RX11, "bound", "()I"⟩, prog_13_method_73_code, 3, (Option.some Jvm.ClassFile.FieldType.int))
def mX11_round : Mth := (⟨RX11, "round", "(I)V"⟩, prog_13_method_74_code, 4, (Option.none : Option Jvm.ClassFile.FieldType))
def mX11_rounds : Mth := (⟨RX11, "rounds", "(II)J"⟩, prog_13_method_75_code, 6, (Option.some Jvm.ClassFile.FieldType.long))
def mX11_goes : Mth := (⟨RX11, "goes", "(I)I"⟩, prog_13_method_76_code, 5, (Option.some Jvm.ClassFile.FieldType.int))
def mX11_mayAll : Mth := (⟨RX11, "mayAll", "(I)Z"⟩, prog_13_method_77_code, 4, (Option.some Jvm.ClassFile.FieldType.boolean))
def mX11_freshIn : Mth := (⟨RX11, "freshIn", "(I)I"⟩, prog_13_method_78_code, 4, (Option.some Jvm.ClassFile.FieldType.int))
def mX11_withStarts : Mth := (⟨RX11, "withStarts", "(II)I"⟩, prog_13_method_79_code, 5, (Option.some Jvm.ClassFile.FieldType.int))
def mX11_unlikeIn : Mth := (⟨RX11, "unlikeIn", "(II)I"⟩, prog_13_method_80_code, 5, (Option.some Jvm.ClassFile.FieldType.int))
def mX11_mends : Mth := (⟨RX11, "mends", "(I)I"⟩, prog_13_method_81_code, 8, (Option.some Jvm.ClassFile.FieldType.int))
def mX11_repairs : Mth := (⟨RX11, "repairs", "()I"⟩, prog_13_method_82_code, 5, (Option.some Jvm.ClassFile.FieldType.int))
def mX11_repaired : Mth := (⟨RX11, "repaired", "(I)I"⟩, prog_13_method_83_code, 3, (Option.some Jvm.ClassFile.FieldType.int))
def mX11_isList : Mth := (⟨RX11, "isList", "(I)Z"⟩, prog_13_method_84_code, 1, (Option.some Jvm.ClassFile.FieldType.boolean))
def mX11_list : Mth := (⟨RX11, "list", "(II)I"⟩, prog_13_method_85_code, 4, (Option.some Jvm.ClassFile.FieldType.int))
def mX11_put : Mth := (⟨RX11, "put", "(III)I"⟩, prog_13_method_86_code, 4, (Option.some Jvm.ClassFile.FieldType.int))
def mX11_lays : Mth := (⟨RX11, "lays", "(II)I"⟩, prog_13_method_87_code, 4, (Option.some Jvm.ClassFile.FieldType.int))
def mX11_firstWrong : Mth := (⟨RX11, "firstWrong", "(I)I"⟩, prog_13_method_88_code, 5, (Option.some Jvm.ClassFile.FieldType.int))
def mX11_judge : Mth := (⟨RX11, "judge", "(I)I"⟩, prog_13_method_89_code, 2, (Option.some Jvm.ClassFile.FieldType.int))
def mX11_isSo : Mth := (⟨RX11, "isSo", "(IIII)Z"⟩, prog_13_method_90_code, 7, (Option.some Jvm.ClassFile.FieldType.boolean))
def mX11_whatIs : Mth := (⟨RX11, "whatIs", "(III)I"⟩, prog_13_method_91_code, 7, (Option.some Jvm.ClassFile.FieldType.int))
def mX11_lots : Mth := (⟨RX11, "lots", "(III)I"⟩, prog_13_method_92_code, 9, (Option.some Jvm.ClassFile.FieldType.int))
def mX11_isOver : Mth := (⟨RX11, "isOver", "(JJ)Z"⟩, prog_13_method_93_code, 4, (Option.some Jvm.ClassFile.FieldType.boolean))
def mX11_comes : Mth := (⟨RX11, "comes", "(J)Z"⟩, prog_13_method_94_code, 5, (Option.some Jvm.ClassFile.FieldType.boolean))
def mX11_pays : Mth := (⟨RX11, "pays", "(JJ)I"⟩, prog_13_method_95_code, 5, (Option.some Jvm.ClassFile.FieldType.int))
def mX11_purse : Mth := (⟨RX11, "purse", "()J"⟩, prog_13_method_96_code, 1, (Option.some Jvm.ClassFile.FieldType.long))
def mX11_bills : Mth := (⟨RX11, "bills", "(I)I"⟩, prog_13_method_97_code, 3, (Option.some Jvm.ClassFile.FieldType.int))
def mX11_isRack : Mth := (⟨RX11, "isRack", "(I)Z"⟩, prog_13_method_98_code, 1, (Option.some Jvm.ClassFile.FieldType.boolean))
def mX11_placeOf : Mth := (⟨RX11, "placeOf", "(II)I"⟩, prog_13_method_99_code, 2, (Option.some Jvm.ClassFile.FieldType.int))
def mX11_rack : Mth := (⟨RX11, "rack", "(III)I"⟩, prog_13_method_100_code, 5, (Option.some Jvm.ClassFile.FieldType.int))
def mX11_above : Mth := (⟨RX11, "above", "(I)I"⟩, prog_13_method_101_code, 1, (Option.some Jvm.ClassFile.FieldType.int))
def mX11_isUnder : Mth := (⟨RX11, "isUnder", "(II)Z"⟩, prog_13_method_102_code, 3, (Option.some Jvm.ClassFile.FieldType.boolean))
def mX11_rackWrong : Mth := (⟨RX11, "rackWrong", "(II)I"⟩, prog_13_method_103_code, 3, (Option.some Jvm.ClassFile.FieldType.int))
def mX11_racks : Mth := (⟨RX11, "racks", "(III)I"⟩, prog_13_method_104_code, 6, (Option.some Jvm.ClassFile.FieldType.int))
def mX11_racked : Mth := (⟨RX11, "racked", "(III)I"⟩, prog_13_method_105_code, 6, (Option.some Jvm.ClassFile.FieldType.int))
def mX11_like : Mth := (⟨RX11, "like", "(II)I"⟩, prog_13_method_106_code, 3, (Option.some Jvm.ClassFile.FieldType.int))
def mX11_letter : Mth := (⟨RX11, "letter", "(I)I"⟩, prog_13_method_107_code, 3, (Option.some Jvm.ClassFile.FieldType.int))
def mX11_here : Mth := (⟨RX11, "here", "()I"⟩, prog_13_method_108_code, 1, (Option.some Jvm.ClassFile.FieldType.int))
def mX11_takes : Mth := (⟨RX11, "takes", "(I)Z"⟩, prog_13_method_109_code, 2, (Option.some Jvm.ClassFile.FieldType.boolean))
def mX11_takesNumber : Mth := (⟨RX11, "takesNumber", "(I)Z"⟩, prog_13_method_110_code, 2, (Option.some Jvm.ClassFile.FieldType.boolean))
def mX11_moreOf : Mth := (⟨RX11, "moreOf", "(I)I"⟩, prog_13_method_111_code, 1, (Option.some Jvm.ClassFile.FieldType.int))
def mX11_takesSign : Mth := (⟨RX11, "takesSign", "()Z"⟩, prog_13_method_112_code, 1, (Option.some Jvm.ClassFile.FieldType.boolean))
def mX11_reads : Mth := (⟨RX11, "reads", "()Z"⟩, prog_13_method_113_code, 3, (Option.some Jvm.ClassFile.FieldType.boolean))
def mX11_wrongTold : Mth := (⟨RX11, "wrongTold", "()I"⟩, prog_13_method_114_code, 4, (Option.some Jvm.ClassFile.FieldType.int))
def mX11_doesTold : Mth := (⟨RX11, "doesTold", "()I"⟩, prog_13_method_115_code, 4, (Option.some Jvm.ClassFile.FieldType.int))
def mX11_tells : Mth := (⟨RX11, "tells", "()I"⟩, prog_13_method_116_code, 7, (Option.some Jvm.ClassFile.FieldType.int))
def mX11_image : Mth := (⟨RX11, "image", "()I"⟩, prog_13_method_117_code, 1, (Option.some Jvm.ClassFile.FieldType.int))
def mX11_on : Mth := (⟨RX11, "on", "()I"⟩, prog_13_method_118_code, 1, (Option.some Jvm.ClassFile.FieldType.int))
def mX11_count : Mth := (⟨RX11, "count", "(I)I"⟩, prog_13_method_119_code, 2, (Option.some Jvm.ClassFile.FieldType.int))
def mX11_hour : Mth := (⟨RX11, "hour", "(II)I"⟩, prog_13_method_120_code, 3, (Option.some Jvm.ClassFile.FieldType.int))
def mJxf58ca_isNaN_12338 : Mth := (⟨RJxf58ca, "isNaN", "(F)Z"⟩, prog_14_method_6_code, 1, (Option.some Jvm.ClassFile.FieldType.boolean))
def mJxf58ca_floatToIntBits_5c35a : Mth := (⟨RJxf58ca, "floatToIntBits", "(F)I"⟩, prog_14_method_24_code, 1, (Option.some Jvm.ClassFile.FieldType.int))
def mJ6_bitCount_0f7a4 : Mth := (⟨RJ6, "bitCount", "(I)I"⟩, prog_15_method_49_code, 1, (Option.some Jvm.ClassFile.FieldType.int))
def mJ9_max_7cf53 : Mth := (⟨RJ9, "max", "(II)I"⟩, prog_16_method_65_code, 2, (Option.some Jvm.ClassFile.FieldType.int))
def mJ9_min_7cf53 : Mth := (⟨RJ9, "min", "(II)I"⟩, prog_16_method_69_code, 2, (Option.some Jvm.ClassFile.FieldType.int))
def mJ0_length_8abf5 : Mth := (⟨RJ0, "length", "()I"⟩, prog_18_method_54_code, 1, (Option.some Jvm.ClassFile.FieldType.int))
def mJ0_isEmpty_aae02 : Mth := (⟨RJ0, "isEmpty", "()Z"⟩, prog_18_method_55_code, 1, (Option.some Jvm.ClassFile.FieldType.boolean))
def mJ0_charAt_5068e : Mth := (⟨RJ0, "charAt", "(I)C"⟩, prog_18_method_56_code, 2, (Option.some Jvm.ClassFile.FieldType.char))
def mJ0_coder_7d493 : Mth := (⟨RJ0, "coder", "()B"⟩, prog_18_method_152_code, 1, (Option.some Jvm.ClassFile.FieldType.byte))
def mJ0_isLatin1_aae02 : Mth := (⟨RJ0, "isLatin1", "()Z"⟩, prog_18_method_154_code, 1, (Option.some Jvm.ClassFile.FieldType.boolean))
def mJ0_checkIndex_df160 : Mth := (⟨RJ0, "checkIndex", "(II)V"⟩, prog_18_method_155_code, 2, (Option.none : Option Jvm.ClassFile.FieldType))
def mJ1_charAt_3b067 : Mth := (⟨RJ1, "charAt", "([BI)C"⟩, prog_19_method_2_code, 2, (Option.some Jvm.ClassFile.FieldType.char))
def mJ2_getChar_3b067 : Mth := (⟨RJ2, "getChar", "([BI)C"⟩, prog_20_method_5_code, 2, (Option.some Jvm.ClassFile.FieldType.char))
def mJ2_length_9d52b : Mth := (⟨RJ2, "length", "([B)I"⟩, prog_20_method_6_code, 1, (Option.some Jvm.ClassFile.FieldType.int))
def mJ2_charAt_3b067 : Mth := (⟨RJ2, "charAt", "([BI)C"⟩, prog_20_method_83_code, 2, (Option.some Jvm.ClassFile.FieldType.char))
def mJ2_checkIndex_2214a : Mth := (⟨RJ2, "checkIndex", "(I[B)V"⟩, prog_20_method_91_code, 2, (Option.none : Option Jvm.ClassFile.FieldType))
def mJ7_rangeCheck_23922 : Mth := (⟨RJ7, "rangeCheck", "(III)V"⟩, prog_22_method_30_code, 3, (Option.none : Option Jvm.ClassFile.FieldType))
def mJ7_fill_53178 : Mth := (⟨RJ7, "fill", "([II)V"⟩, prog_22_method_103_code, 4, (Option.none : Option Jvm.ClassFile.FieldType))
def mJ7_fill_fda19 : Mth := (⟨RJ7, "fill", "([IIII)V"⟩, prog_22_method_104_code, 5, (Option.none : Option Jvm.ClassFile.FieldType))
def mJ3_checkIndex_8e157 : Mth := (⟨RJ3, "checkIndex", "(IILjava/util/function/BiFunction;)I"⟩, prog_23_method_11_code, 3, (Option.some Jvm.ClassFile.FieldType.int))
def mL_law : Mth := (⟨RL, "law", "([I)Z"⟩, code, maxLocals, ret)

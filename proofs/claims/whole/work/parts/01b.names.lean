/-! names of the classes, their fields in the order of the slots (declaring class, name, descriptor, final), their types: rows printed from the class files -/
def RX0 : String := "HouseFiddles$Boards"
def TX0 : u_T := fun k => match k with
  | 0 => ("HouseFiddles$Boards", "cells", "LHouseFiddles$Table;", true)
  | _ => ("HouseFiddles$Boards", "year", "I", false)
def tyX0 : Nat → FieldType := fun k => match k with
  | 0 => .object "HouseFiddles$Table"
  | _ => .int
theorem nmX0 : ∀ a, a < 2 → ∀ b, b < 2 → a ≠ b → (TX0 a).2.1 ≠ (TX0 b).2.1 := by decide +kernel
theorem tyX0_ok : ∀ k, k < 2 → parseFieldDescriptor (TX0 k).2.2.1 = some (tyX0 k) := by decide +kernel
def RX1 : String := "HouseFiddles$Maker"
def TX1 : u_T := fun k => match k with
  | 0 => ("HouseFiddles$Maker", "played", "LHouseFiddles$Table;", true)
  | 1 => ("HouseFiddles$Maker", "reached", "LHouseFiddles$Table;", true)
  | 2 => ("HouseFiddles$Maker", "given", "LHouseFiddles$Table;", true)
  | 3 => ("HouseFiddles$Maker", "instruments", "I", false)
  | _ => ("HouseFiddles$Maker", "free", "I", false)
def tyX1 : Nat → FieldType := fun k => match k with
  | 0 => .object "HouseFiddles$Table"
  | 1 => .object "HouseFiddles$Table"
  | 2 => .object "HouseFiddles$Table"
  | 3 => .int
  | _ => .int
theorem nmX1 : ∀ a, a < 5 → ∀ b, b < 5 → a ≠ b → (TX1 a).2.1 ≠ (TX1 b).2.1 := by decide +kernel
theorem tyX1_ok : ∀ k, k < 5 → parseFieldDescriptor (TX1 k).2.2.1 = some (tyX1 k) := by decide +kernel
def RX2 : String := "HouseFiddles$Reader"
def TX2 : u_T := fun k => match k with
  | 0 => ("HouseFiddles$Reader", "tokens", "LHouseFiddles$Tokens;", true)
  | 1 => ("HouseFiddles$Reader", "town", "LHouseFiddles$Town;", true)
  | 2 => ("HouseFiddles$Reader", "sort", "I", false)
  | 3 => ("HouseFiddles$Reader", "start", "I", false)
  | _ => ("HouseFiddles$Reader", "value", "I", false)
def tyX2 : Nat → FieldType := fun k => match k with
  | 0 => .object "HouseFiddles$Tokens"
  | 1 => .object "HouseFiddles$Town"
  | 2 => .int
  | 3 => .int
  | _ => .int
theorem nmX2 : ∀ a, a < 5 → ∀ b, b < 5 → a ≠ b → (TX2 a).2.1 ≠ (TX2 b).2.1 := by decide +kernel
theorem tyX2_ok : ∀ k, k < 5 → parseFieldDescriptor (TX2 k).2.2.1 = some (tyX2 k) := by decide +kernel
def RX3 : String := "HouseFiddles$Strings"
def TX3 : u_T := fun k => match k with
  | _ => ("", "", "", false)
def tyX3 : Nat → FieldType := fun k => match k with
  | _ => .int
theorem nmX3 : ∀ a, a < 0 → ∀ b, b < 0 → a ≠ b → (TX3 a).2.1 ≠ (TX3 b).2.1 := by decide +kernel
theorem tyX3_ok : ∀ k, k < 0 → parseFieldDescriptor (TX3 k).2.2.1 = some (tyX3 k) := by decide +kernel
def RX4 : String := "HouseFiddles$Table"
def TX4 : u_T := fun k => match k with
  | 0 => ("HouseFiddles$Table", "rows", "I", true)
  | 1 => ("HouseFiddles$Table", "width", "I", true)
  | 2 => ("HouseFiddles$Table", "cells", "[I", true)
  | _ => ("HouseFiddles$Table", "used", "I", false)
def tyX4 : Nat → FieldType := fun k => match k with
  | 0 => .int
  | 1 => .int
  | 2 => .array .int
  | _ => .int
theorem nmX4 : ∀ a, a < 4 → ∀ b, b < 4 → a ≠ b → (TX4 a).2.1 ≠ (TX4 b).2.1 := by decide +kernel
theorem tyX4_ok : ∀ k, k < 4 → parseFieldDescriptor (TX4 k).2.2.1 = some (tyX4 k) := by decide +kernel
def RX5 : String := "HouseFiddles$Tokens"
def TX5 : u_T := fun k => match k with
  | 0 => ("HouseFiddles$Tokens", "found", "LHouseFiddles$Table;", true)
  | _ => ("HouseFiddles$Tokens", "taken", "I", false)
def tyX5 : Nat → FieldType := fun k => match k with
  | 0 => .object "HouseFiddles$Table"
  | _ => .int
theorem nmX5 : ∀ a, a < 2 → ∀ b, b < 2 → a ≠ b → (TX5 a).2.1 ≠ (TX5 b).2.1 := by decide +kernel
theorem tyX5_ok : ∀ k, k < 2 → parseFieldDescriptor (TX5 k).2.2.1 = some (tyX5 k) := by decide +kernel
def RX6 : String := "HouseFiddles$Town"
def TX6 : u_T := fun k => match k with
  | 0 => ("HouseFiddles$Town", "boards", "LHouseFiddles$Boards;", true)
  | 1 => ("HouseFiddles$Town", "past", "LHouseFiddles$Table;", true)
  | 2 => ("HouseFiddles$Town", "wets", "LHouseFiddles$Table;", true)
  | 3 => ("HouseFiddles$Town", "instruments", "LHouseFiddles$Table;", true)
  | 4 => ("HouseFiddles$Town", "heardOnes", "LHouseFiddles$Table;", true)
  | 5 => ("HouseFiddles$Town", "notes", "LHouseFiddles$Table;", true)
  | _ => ("HouseFiddles$Town", "marks", "LHouseFiddles$Table;", true)
def tyX6 : Nat → FieldType := fun k => match k with
  | 0 => .object "HouseFiddles$Boards"
  | 1 => .object "HouseFiddles$Table"
  | 2 => .object "HouseFiddles$Table"
  | 3 => .object "HouseFiddles$Table"
  | 4 => .object "HouseFiddles$Table"
  | 5 => .object "HouseFiddles$Table"
  | _ => .object "HouseFiddles$Table"
theorem nmX6 : ∀ a, a < 7 → ∀ b, b < 7 → a ≠ b → (TX6 a).2.1 ≠ (TX6 b).2.1 := by decide +kernel
theorem tyX6_ok : ∀ k, k < 7 → parseFieldDescriptor (TX6 k).2.2.1 = some (tyX6 k) := by decide +kernel
def RX7 : String := "HouseFiddles$Wood"
def TX7 : u_T := fun k => match k with
  | _ => ("", "", "", false)
def tyX7 : Nat → FieldType := fun k => match k with
  | _ => .int
theorem nmX7 : ∀ a, a < 0 → ∀ b, b < 0 → a ≠ b → (TX7 a).2.1 ≠ (TX7 b).2.1 := by decide +kernel
theorem tyX7_ok : ∀ k, k < 0 → parseFieldDescriptor (TX7 k).2.2.1 = some (tyX7 k) := by decide +kernel
def RX8 : String := "HouseFiddles"
def TX8 : u_T := fun k => match k with
  | 0 => ("HouseFiddles", "now", "LHouseFiddles$Town;", true)
  | 1 => ("HouseFiddles", "firstImage", "LHouseFiddles$Town;", true)
  | 2 => ("HouseFiddles", "secondImage", "LHouseFiddles$Town;", true)
  | 3 => ("HouseFiddles", "trial", "LHouseFiddles$Boards;", true)
  | 4 => ("HouseFiddles", "text", "LHouseFiddles$Table;", true)
  | 5 => ("HouseFiddles", "reader", "LHouseFiddles$Reader;", true)
  | 6 => ("HouseFiddles", "maker", "LHouseFiddles$Maker;", true)
  | 7 => ("HouseFiddles", "alike", "LHouseFiddles$Table;", true)
  | 8 => ("HouseFiddles", "friends", "LHouseFiddles$Table;", true)
  | 9 => ("HouseFiddles", "firstKept", "Z", false)
  | 10 => ("HouseFiddles", "secondKept", "Z", false)
  | 11 => ("HouseFiddles", "above", "J", false)
  | 12 => ("HouseFiddles", "below", "J", false)
  | 13 => ("HouseFiddles", "bads", "I", false)
  | 14 => ("HouseFiddles", "nos", "I", false)
  | _ => ("HouseFiddles", "fulls", "I", false)
def tyX8 : Nat → FieldType := fun k => match k with
  | 0 => .object "HouseFiddles$Town"
  | 1 => .object "HouseFiddles$Town"
  | 2 => .object "HouseFiddles$Town"
  | 3 => .object "HouseFiddles$Boards"
  | 4 => .object "HouseFiddles$Table"
  | 5 => .object "HouseFiddles$Reader"
  | 6 => .object "HouseFiddles$Maker"
  | 7 => .object "HouseFiddles$Table"
  | 8 => .object "HouseFiddles$Table"
  | 9 => .boolean
  | 10 => .boolean
  | 11 => .long
  | 12 => .long
  | 13 => .int
  | 14 => .int
  | _ => .int
theorem nmX8 : ∀ a, a < 16 → ∀ b, b < 16 → a ≠ b → (TX8 a).2.1 ≠ (TX8 b).2.1 := by decide +kernel
theorem tyX8_ok : ∀ k, k < 16 → parseFieldDescriptor (TX8 k).2.2.1 = some (tyX8 k) := by decide +kernel
def RX9 : String := "HouseFiddlesModel"
def TX9 : u_T := fun k => match k with
  | 0 => ("HouseFiddlesModel", "w", "[I", true)
  | 1 => ("HouseFiddlesModel", "isKept", "[Z", true)
  | 2 => ("HouseFiddlesModel", "text", "[I", true)
  | 3 => ("HouseFiddlesModel", "texted", "I", false)
  | 4 => ("HouseFiddlesModel", "above", "J", false)
  | 5 => ("HouseFiddlesModel", "below", "J", false)
  | 6 => ("HouseFiddlesModel", "statuses", "[I", true)
  | 7 => ("HouseFiddlesModel", "at", "I", false)
  | 8 => ("HouseFiddlesModel", "start", "I", false)
  | 9 => ("HouseFiddlesModel", "number", "I", false)
  | 10 => ("HouseFiddlesModel", "bestIn", "[I", true)
  | 11 => ("HouseFiddlesModel", "sixOf", "[I", true)
  | _ => ("HouseFiddlesModel", "h", "J", false)
def tyX9 : Nat → FieldType := fun k => match k with
  | 0 => .array .int
  | 1 => .array .boolean
  | 2 => .array .int
  | 3 => .int
  | 4 => .long
  | 5 => .long
  | 6 => .array .int
  | 7 => .int
  | 8 => .int
  | 9 => .int
  | 10 => .array .int
  | 11 => .array .int
  | _ => .long
theorem nmX9 : ∀ a, a < 13 → ∀ b, b < 13 → a ≠ b → (TX9 a).2.1 ≠ (TX9 b).2.1 := by decide +kernel
theorem tyX9_ok : ∀ k, k < 13 → parseFieldDescriptor (TX9 k).2.2.1 = some (tyX9 k) := by decide +kernel
def RL : String := "HouseFiddlesLaw"
def RJ6 : String := "java/lang/Integer"
def RJ9 : String := "java/lang/Math"
def RJ0 : String := "java/lang/String"
def RJ1 : String := "java/lang/StringLatin1"
def RJ2 : String := "java/lang/StringUTF16"
def RJ10 : String := "java/lang/System"
def RJ3 : String := "jdk/internal/util/Preconditions"

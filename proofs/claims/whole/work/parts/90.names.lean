
def RX0 : String := "HopCourts$Clues"
def TX0 : u_T := fun k => match k with
  | 0 => ("HopCourts$Clues", "whats", "[I", true)
  | 1 => ("HopCourts$Clues", "values", "[I", true)
  | _ => ("HopCourts$Clues", "many", "I", false)
def tyX0 : Nat → FieldType := fun k => match k with
  | 0 => .array .int
  | 1 => .array .int
  | _ => .int
abbrev wsX00 : List Cond := u_ws RX0 TX0 3
theorem nmX0 : ∀ a, a < 3 → ∀ b, b < 3 → a ≠ b → (TX0 a).2.1 ≠ (TX0 b).2.1 := by decide +kernel
theorem tyX0_ok : ∀ k, k < 3 → parseFieldDescriptor (TX0 k).2.2.1 = some (tyX0 k) := by decide +kernel
def RX1 : String := "HopCourts$Court"
def TX1 : u_T := fun k => match k with
  | 0 => ("HopCourts$Court", "rowOf", "[I", true)
  | 1 => ("HopCourts$Court", "squaresIn", "[I", true)
  | 2 => ("HopCourts$Court", "rows", "I", false)
  | _ => ("HopCourts$Court", "squares", "I", false)
def tyX1 : Nat → FieldType := fun k => match k with
  | 0 => .array .int
  | 1 => .array .int
  | 2 => .int
  | _ => .int
abbrev wsX10 : List Cond := u_ws RX1 TX1 4
theorem nmX1 : ∀ a, a < 4 → ∀ b, b < 4 → a ≠ b → (TX1 a).2.1 ≠ (TX1 b).2.1 := by decide +kernel
theorem tyX1_ok : ∀ k, k < 4 → parseFieldDescriptor (TX1 k).2.2.1 = some (tyX1 k) := by decide +kernel
def RX2 : String := "HopCourts$Past"
def TX2 : u_T := fun k => match k with
  | 0 => ("HopCourts$Past", "steps", "[I", true)
  | 1 => ("HopCourts$Past", "kept", "[I", true)
  | 2 => ("HopCourts$Past", "keptSet", "I", false)
  | 3 => ("HopCourts$Past", "latest", "I", false)
  | _ => ("HopCourts$Past", "many", "I", false)
def tyX2 : Nat → FieldType := fun k => match k with
  | 0 => .array .int
  | 1 => .array .int
  | 2 => .int
  | 3 => .int
  | _ => .int
abbrev wsX20 : List Cond := u_ws RX2 TX2 5
theorem nmX2 : ∀ a, a < 5 → ∀ b, b < 5 → a ≠ b → (TX2 a).2.1 ≠ (TX2 b).2.1 := by decide +kernel
theorem tyX2_ok : ∀ k, k < 5 → parseFieldDescriptor (TX2 k).2.2.1 = some (tyX2 k) := by decide +kernel
def RX3 : String := "HopCourts$Path"
def TX3 : u_T := fun k => match k with
  | 0 => ("HopCourts$Path", "ways", "[I", true)
  | 1 => ("HopCourts$Path", "fewest", "[I", true)
  | 2 => ("HopCourts$Path", "most", "[I", true)
  | 3 => ("HopCourts$Path", "next", "[I", true)
  | 4 => ("HopCourts$Path", "beyond", "I", false)
  | 5 => ("HopCourts$Path", "own", "I", false)
  | 6 => ("HopCourts$Path", "reach", "I", false)
  | _ => ("HopCourts$Path", "onward", "I", false)
def tyX3 : Nat → FieldType := fun k => match k with
  | 0 => .array .int
  | 1 => .array .int
  | 2 => .array .int
  | 3 => .array .int
  | 4 => .int
  | 5 => .int
  | 6 => .int
  | _ => .int
abbrev wsX30 : List Cond := u_ws RX3 TX3 8
theorem nmX3 : ∀ a, a < 8 → ∀ b, b < 8 → a ≠ b → (TX3 a).2.1 ≠ (TX3 b).2.1 := by decide +kernel
theorem tyX3_ok : ∀ k, k < 8 → parseFieldDescriptor (TX3 k).2.2.1 = some (tyX3 k) := by decide +kernel
def RX4 : String := "HopCourts$Rule"
def TX4 : u_T := fun k => match k with
  | 0 => ("HopCourts$Rule", "steps", "[I", true)
  | 1 => ("HopCourts$Rule", "stack", "[I", true)
  | 2 => ("HopCourts$Rule", "many", "I", false)
  | 3 => ("HopCourts$Rule", "height", "I", false)
  | 4 => ("HopCourts$Rule", "source", "LHopCourts$Text;", false)
  | 5 => ("HopCourts$Rule", "at", "I", false)
  | _ => ("HopCourts$Rule", "limit", "I", false)
def tyX4 : Nat → FieldType := fun k => match k with
  | 0 => .array .int
  | 1 => .array .int
  | 2 => .int
  | 3 => .int
  | 4 => .object "HopCourts$Text"
  | 5 => .int
  | _ => .int
abbrev wsX40 : List Cond := u_ws RX4 TX4 7
theorem nmX4 : ∀ a, a < 7 → ∀ b, b < 7 → a ≠ b → (TX4 a).2.1 ≠ (TX4 b).2.1 := by decide +kernel
theorem tyX4_ok : ∀ k, k < 7 → parseFieldDescriptor (TX4 k).2.2.1 = some (tyX4 k) := by decide +kernel
def RX5 : String := "HopCourts$Sights"
def TX5 : u_T := fun k => match k with
  | 0 => ("HopCourts$Sights", "thrown", "[I", true)
  | 1 => ("HopCourts$Sights", "offs", "[I", true)
  | _ => ("HopCourts$Sights", "many", "I", false)
def tyX5 : Nat → FieldType := fun k => match k with
  | 0 => .array .int
  | 1 => .array .int
  | _ => .int
abbrev wsX50 : List Cond := u_ws RX5 TX5 3
theorem nmX5 : ∀ a, a < 3 → ∀ b, b < 3 → a ≠ b → (TX5 a).2.1 ≠ (TX5 b).2.1 := by decide +kernel
theorem tyX5_ok : ∀ k, k < 3 → parseFieldDescriptor (TX5 k).2.2.1 = some (tyX5 k) := by decide +kernel
def RX6 : String := "HopCourts$Standing"
def TX6 : u_T := fun k => match k with
  | 0 => ("HopCourts$Standing", "ground", "LHopCourts$Court;", true)
  | 1 => ("HopCourts$Standing", "path", "LHopCourts$Path;", true)
  | _ => ("HopCourts$Standing", "numbers", "[I", true)
def tyX6 : Nat → FieldType := fun k => match k with
  | 0 => .object "HopCourts$Court"
  | 1 => .object "HopCourts$Path"
  | _ => .array .int
abbrev wsX60 : List Cond := u_ws RX6 TX6 3
theorem nmX6 : ∀ a, a < 3 → ∀ b, b < 3 → a ≠ b → (TX6 a).2.1 ≠ (TX6 b).2.1 := by decide +kernel
theorem tyX6_ok : ∀ k, k < 3 → parseFieldDescriptor (TX6 k).2.2.1 = some (tyX6 k) := by decide +kernel
def RX7 : String := "HopCourts$Text"
def TX7 : u_T := fun k => match k with
  | 0 => ("HopCourts$Text", "signs", "[C", true)
  | _ => ("HopCourts$Text", "length", "I", false)
def tyX7 : Nat → FieldType := fun k => match k with
  | 0 => .array .char
  | _ => .int
abbrev wsX70 : List Cond := u_ws RX7 TX7 2
theorem nmX7 : ∀ a, a < 2 → ∀ b, b < 2 → a ≠ b → (TX7 a).2.1 ≠ (TX7 b).2.1 := by decide +kernel
theorem tyX7_ok : ∀ k, k < 2 → parseFieldDescriptor (TX7 k).2.2.1 = some (tyX7 k) := by decide +kernel
def RX8 : String := "HopCourts$Told"
def TX8 : u_T := fun k => match k with
  | 0 => ("HopCourts$Told", "numbers", "[J", true)
  | _ => ("HopCourts$Told", "many", "I", false)
def tyX8 : Nat → FieldType := fun k => match k with
  | 0 => .array .long
  | _ => .int
abbrev wsX80 : List Cond := u_ws RX8 TX8 2
theorem nmX8 : ∀ a, a < 2 → ∀ b, b < 2 → a ≠ b → (TX8 a).2.1 ≠ (TX8 b).2.1 := by decide +kernel
theorem tyX8_ok : ∀ k, k < 2 → parseFieldDescriptor (TX8 k).2.2.1 = some (tyX8 k) := by decide +kernel
def RX9 : String := "HopCourts"
def TX9 : u_T := fun k => match k with
  | 0 => ("HopCourts", "text", "LHopCourts$Text;", true)
  | 1 => ("HopCourts", "told", "LHopCourts$Told;", true)
  | 2 => ("HopCourts", "ground", "LHopCourts$Court;", true)
  | 3 => ("HopCourts", "path", "LHopCourts$Path;", true)
  | 4 => ("HopCourts", "now", "LHopCourts$Standing;", true)
  | 5 => ("HopCourts", "trial", "LHopCourts$Standing;", true)
  | 6 => ("HopCourts", "before", "LHopCourts$Standing;", true)
  | 7 => ("HopCourts", "past", "LHopCourts$Past;", true)
  | 8 => ("HopCourts", "clues", "LHopCourts$Clues;", true)
  | 9 => ("HopCourts", "sights", "LHopCourts$Sights;", true)
  | 10 => ("HopCourts", "marks", "[J", true)
  | 11 => ("HopCourts", "ruling", "LHopCourts$Rule;", false)
  | _ => ("HopCourts", "draft", "LHopCourts$Rule;", false)
def tyX9 : Nat → FieldType := fun k => match k with
  | 0 => .object "HopCourts$Text"
  | 1 => .object "HopCourts$Told"
  | 2 => .object "HopCourts$Court"
  | 3 => .object "HopCourts$Path"
  | 4 => .object "HopCourts$Standing"
  | 5 => .object "HopCourts$Standing"
  | 6 => .object "HopCourts$Standing"
  | 7 => .object "HopCourts$Past"
  | 8 => .object "HopCourts$Clues"
  | 9 => .object "HopCourts$Sights"
  | 10 => .array .long
  | 11 => .object "HopCourts$Rule"
  | _ => .object "HopCourts$Rule"
abbrev wsX90 : List Cond := u_ws RX9 TX9 13
theorem nmX9 : ∀ a, a < 13 → ∀ b, b < 13 → a ≠ b → (TX9 a).2.1 ≠ (TX9 b).2.1 := by decide +kernel
theorem tyX9_ok : ∀ k, k < 13 → parseFieldDescriptor (TX9 k).2.2.1 = some (tyX9 k) := by decide +kernel
def RX10 : String := "HopCourtsModel"
def TX10 : u_T := fun k => match k with
  | 0 => ("HopCourtsModel", "now", "[I", true)
  | 1 => ("HopCourtsModel", "players", "I", false)
  | 2 => ("HopCourtsModel", "rows", "I", false)
  | 3 => ("HopCourtsModel", "squares", "I", false)
  | 4 => ("HopCourtsModel", "rowOf", "[I", true)
  | 5 => ("HopCourtsModel", "firstOf", "[I", true)
  | 6 => ("HopCourtsModel", "text", "[B", true)
  | 7 => ("HopCourtsModel", "typed", "I", false)
  | 8 => ("HopCourtsModel", "row", "[J", true)
  | 9 => ("HopCourtsModel", "rowMany", "I", false)
  | 10 => ("HopCourtsModel", "thrown", "I", false)
  | 11 => ("HopCourtsModel", "read", "[B", false)
  | 12 => ("HopCourtsModel", "length", "I", false)
  | 13 => ("HopCourtsModel", "top", "I", false)
  | 14 => ("HopCourtsModel", "at", "I", false)
  | 15 => ("HopCourtsModel", "wrong", "I", false)
  | 16 => ("HopCourtsModel", "sizes", "[I", true)
  | 17 => ("HopCourtsModel", "told", "[I", true)
  | 18 => ("HopCourtsModel", "rule", "[B", false)
  | 19 => ("HopCourtsModel", "otherRule", "[B", false)
  | 20 => ("HopCourtsModel", "ruleSize", "I", false)
  | 21 => ("HopCourtsModel", "isAsked", "Z", false)
  | 22 => ("HopCourtsModel", "asked", "[I", true)
  | 23 => ("HopCourtsModel", "hops", "[I", true)
  | 24 => ("HopCourtsModel", "ways", "[J", true)
  | 25 => ("HopCourtsModel", "most", "[I", true)
  | 26 => ("HopCourtsModel", "undos", "[I", true)
  | 27 => ("HopCourtsModel", "undoMany", "I", false)
  | 28 => ("HopCourtsModel", "aside", "[I", true)
  | 29 => ("HopCourtsModel", "then", "[I", true)
  | 30 => ("HopCourtsModel", "went", "I", false)
  | 31 => ("HopCourtsModel", "acts", "[I", true)
  | 32 => ("HopCourtsModel", "trail", "[I", true)
  | 33 => ("HopCourtsModel", "heardOf", "[I", true)
  | 34 => ("HopCourtsModel", "heardBy", "[I", true)
  | 35 => ("HopCourtsModel", "heardMany", "I", false)
  | 36 => ("HopCourtsModel", "sawBy", "[I", true)
  | 37 => ("HopCourtsModel", "sawAs", "[I", true)
  | 38 => ("HopCourtsModel", "sawMany", "I", false)
  | 39 => ("HopCourtsModel", "many", "[I", true)
  | 40 => ("HopCourtsModel", "wins", "[Z", true)
  | 41 => ("HopCourtsModel", "drawn", "I", false)
  | 42 => ("HopCourtsModel", "came", "I", false)
  | 43 => ("HopCourtsModel", "kept", "[I", true)
  | 44 => ("HopCourtsModel", "isKept", "[Z", true)
  | _ => ("HopCourtsModel", "keptCame", "[I", true)
def tyX10 : Nat → FieldType := fun k => match k with
  | 0 => .array .int
  | 1 => .int
  | 2 => .int
  | 3 => .int
  | 4 => .array .int
  | 5 => .array .int
  | 6 => .array .byte
  | 7 => .int
  | 8 => .array .long
  | 9 => .int
  | 10 => .int
  | 11 => .array .byte
  | 12 => .int
  | 13 => .int
  | 14 => .int
  | 15 => .int
  | 16 => .array .int
  | 17 => .array .int
  | 18 => .array .byte
  | 19 => .array .byte
  | 20 => .int
  | 21 => .boolean
  | 22 => .array .int
  | 23 => .array .int
  | 24 => .array .long
  | 25 => .array .int
  | 26 => .array .int
  | 27 => .int
  | 28 => .array .int
  | 29 => .array .int
  | 30 => .int
  | 31 => .array .int
  | 32 => .array .int
  | 33 => .array .int
  | 34 => .array .int
  | 35 => .int
  | 36 => .array .int
  | 37 => .array .int
  | 38 => .int
  | 39 => .array .int
  | 40 => .array .boolean
  | 41 => .int
  | 42 => .int
  | 43 => .array .int
  | 44 => .array .boolean
  | _ => .array .int
abbrev wsX100 : List Cond := u_ws RX10 TX10 46
theorem nmX10 : ∀ a, a < 46 → ∀ b, b < 46 → a ≠ b → (TX10 a).2.1 ≠ (TX10 b).2.1 := by decide +kernel
theorem tyX10_ok : ∀ k, k < 46 → parseFieldDescriptor (TX10 k).2.2.1 = some (tyX10 k) := by decide +kernel
def RL : String := "HopCourtsLaw"
abbrev vwCl : List vw_C := [(RX0, TX0, 3), (RX1, TX1, 4), (RX2, TX2, 5), (RX3, TX3, 8), (RX4, TX4, 7), (RX5, TX5, 3), (RX6, TX6, 3), (RX7, TX7, 2), (RX8, TX8, 2), (RX9, TX9, 13), (RX10, TX10, 46)]

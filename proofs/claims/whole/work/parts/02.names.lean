def RX0 : String := "RoundFigures$Laws"
def TX0 : u_T := fun k => match k with
  | 0 => ("RoundFigures$Laws", "texts", "[LRoundFigures$Text;", true)
  | _ => ("RoundFigures$Laws", "stack", "[I", true)
def tyX0 : Nat → FieldType := fun k => match k with
  | 0 => .array (.object "RoundFigures$Text")
  | _ => .array .int
abbrev wsX00 : List Cond := u_ws RX0 TX0 2
theorem nmX0 : ∀ a, a < 2 → ∀ b, b < 2 → a ≠ b → (TX0 a).2.1 ≠ (TX0 b).2.1 := by decide +kernel
theorem tyX0_ok : ∀ k, k < 2 → parseFieldDescriptor (TX0 k).2.2.1 = some (tyX0 k) := by decide +kernel
def RX1 : String := "RoundFigures$Least"
def TX1 : u_T := fun k => match k with
  | 0 => ("RoundFigures$Least", "any", "Z", false)
  | 1 => ("RoundFigures$Least", "place", "I", false)
  | _ => ("RoundFigures$Least", "sum", "I", false)
def tyX1 : Nat → FieldType := fun k => match k with
  | 0 => .boolean
  | 1 => .int
  | _ => .int
abbrev wsX10 : List Cond := u_ws RX1 TX1 3
theorem nmX1 : ∀ a, a < 3 → ∀ b, b < 3 → a ≠ b → (TX1 a).2.1 ≠ (TX1 b).2.1 := by decide +kernel
theorem tyX1_ok : ∀ k, k < 3 → parseFieldDescriptor (TX1 k).2.2.1 = some (tyX1 k) := by decide +kernel
def RX2 : String := "RoundFigures$Reader"
def TX2 : u_T := fun k => match k with
  | 0 => ("RoundFigures$Reader", "tape", "[I", true)
  | 1 => ("RoundFigures$Reader", "code", "[I", true)
  | 2 => ("RoundFigures$Reader", "codeLength", "I", false)
  | 3 => ("RoundFigures$Reader", "parts", "I", false)
  | 4 => ("RoundFigures$Reader", "length", "I", false)
  | 5 => ("RoundFigures$Reader", "start", "I", false)
  | 6 => ("RoundFigures$Reader", "end", "I", false)
  | 7 => ("RoundFigures$Reader", "sort", "I", false)
  | _ => ("RoundFigures$Reader", "key", "I", false)
def tyX2 : Nat → FieldType := fun k => match k with
  | 0 => .array .int
  | 1 => .array .int
  | 2 => .int
  | 3 => .int
  | 4 => .int
  | 5 => .int
  | 6 => .int
  | 7 => .int
  | _ => .int
abbrev wsX20 : List Cond := u_ws RX2 TX2 9
theorem nmX2 : ∀ a, a < 9 → ∀ b, b < 9 → a ≠ b → (TX2 a).2.1 ≠ (TX2 b).2.1 := by decide +kernel
theorem tyX2_ok : ∀ k, k < 9 → parseFieldDescriptor (TX2 k).2.2.1 = some (tyX2 k) := by decide +kernel
def RX3 : String := "RoundFigures$Row"
def TX3 : u_T := fun k => match k with
  | 0 => ("RoundFigures$Row", "sort", "I", false)
  | 1 => ("RoundFigures$Row", "size", "I", false)
  | _ => ("RoundFigures$Row", "places", "[I", true)
def tyX3 : Nat → FieldType := fun k => match k with
  | 0 => .int
  | 1 => .int
  | _ => .array .int
abbrev wsX30 : List Cond := u_ws RX3 TX3 3
theorem nmX3 : ∀ a, a < 3 → ∀ b, b < 3 → a ≠ b → (TX3 a).2.1 ≠ (TX3 b).2.1 := by decide +kernel
theorem tyX3_ok : ∀ k, k < 3 → parseFieldDescriptor (TX3 k).2.2.1 = some (tyX3 k) := by decide +kernel
def RX4 : String := "RoundFigures$Slot"
def TX4 : u_T := fun k => match k with
  | 0 => ("RoundFigures$Slot", "thing", "I", false)
  | 1 => ("RoundFigures$Slot", "number", "I", false)
  | 2 => ("RoundFigures$Slot", "traveller", "LRoundFigures$Traveller;", true)
  | _ => ("RoundFigures$Slot", "row", "LRoundFigures$Row;", true)
def tyX4 : Nat → FieldType := fun k => match k with
  | 0 => .int
  | 1 => .int
  | 2 => .object "RoundFigures$Traveller"
  | _ => .object "RoundFigures$Row"
abbrev wsX40 : List Cond := u_ws RX4 TX4 4
theorem nmX4 : ∀ a, a < 4 → ∀ b, b < 4 → a ≠ b → (TX4 a).2.1 ≠ (TX4 b).2.1 := by decide +kernel
theorem tyX4_ok : ∀ k, k < 4 → parseFieldDescriptor (TX4 k).2.2.1 = some (tyX4 k) := by decide +kernel
def RX5 : String := "RoundFigures$Text"
def TX5 : u_T := fun k => match k with
  | 0 => ("RoundFigures$Text", "key", "I", true)
  | 1 => ("RoundFigures$Text", "parts", "I", true)
  | _ => ("RoundFigures$Text", "code", "[I", true)
def tyX5 : Nat → FieldType := fun k => match k with
  | 0 => .int
  | 1 => .int
  | _ => .array .int
abbrev wsX50 : List Cond := u_ws RX5 TX5 3
theorem nmX5 : ∀ a, a < 3 → ∀ b, b < 3 → a ≠ b → (TX5 a).2.1 ≠ (TX5 b).2.1 := by decide +kernel
theorem tyX5_ok : ∀ k, k < 3 → parseFieldDescriptor (TX5 k).2.2.1 = some (tyX5 k) := by decide +kernel
def RX6 : String := "RoundFigures$Traveller"
def TX6 : u_T := fun k => match k with
  | 0 => ("RoundFigures$Traveller", "kind", "I", false)
  | 1 => ("RoundFigures$Traveller", "need", "I", false)
  | 2 => ("RoundFigures$Traveller", "bent", "I", false)
  | 3 => ("RoundFigures$Traveller", "spent", "I", false)
  | 4 => ("RoundFigures$Traveller", "claimed", "I", false)
  | 5 => ("RoundFigures$Traveller", "caught", "I", false)
  | 6 => ("RoundFigures$Traveller", "daysSince", "I", false)
  | 7 => ("RoundFigures$Traveller", "claims", "[I", true)
  | 8 => ("RoundFigures$Traveller", "above", "I", false)
  | 9 => ("RoundFigures$Traveller", "signs", "I", false)
  | _ => ("RoundFigures$Traveller", "looked", "Z", false)
def tyX6 : Nat → FieldType := fun k => match k with
  | 0 => .int
  | 1 => .int
  | 2 => .int
  | 3 => .int
  | 4 => .int
  | 5 => .int
  | 6 => .int
  | 7 => .array .int
  | 8 => .int
  | 9 => .int
  | _ => .boolean
abbrev wsX60 : List Cond := u_ws RX6 TX6 11
theorem nmX6 : ∀ a, a < 11 → ∀ b, b < 11 → a ≠ b → (TX6 a).2.1 ≠ (TX6 b).2.1 := by decide +kernel
theorem tyX6_ok : ∀ k, k < 11 → parseFieldDescriptor (TX6 k).2.2.1 = some (tyX6 k) := by decide +kernel
def RX7 : String := "RoundFigures$World"
def TX7 : u_T := fun k => match k with
  | 0 => ("RoundFigures$World", "laws", "LRoundFigures$Laws;", true)
  | 1 => ("RoundFigures$World", "travellers", "[LRoundFigures$Traveller;", true)
  | 2 => ("RoundFigures$World", "count", "I", false)
  | 3 => ("RoundFigures$World", "line", "I", false)
  | 4 => ("RoundFigures$World", "looks", "I", false)
  | 5 => ("RoundFigures$World", "mode", "I", false)
  | 6 => ("RoundFigures$World", "day", "I", false)
  | 7 => ("RoundFigures$World", "z", "I", false)
  | 8 => ("RoundFigures$World", "texts", "I", false)
  | 9 => ("RoundFigures$World", "counting", "[I", true)
  | _ => ("RoundFigures$World", "absent", "I", false)
def tyX7 : Nat → FieldType := fun k => match k with
  | 0 => .object "RoundFigures$Laws"
  | 1 => .array (.object "RoundFigures$Traveller")
  | 2 => .int
  | 3 => .int
  | 4 => .int
  | 5 => .int
  | 6 => .int
  | 7 => .int
  | 8 => .int
  | 9 => .array .int
  | _ => .int
abbrev wsX70 : List Cond := u_ws RX7 TX7 11
theorem nmX7 : ∀ a, a < 11 → ∀ b, b < 11 → a ≠ b → (TX7 a).2.1 ≠ (TX7 b).2.1 := by decide +kernel
theorem tyX7_ok : ∀ k, k < 11 → parseFieldDescriptor (TX7 k).2.2.1 = some (tyX7 k) := by decide +kernel
def RX8 : String := "RoundFigures"
def TX8 : u_T := fun k => match k with
  | 0 => ("RoundFigures", "laws", "LRoundFigures$Laws;", true)
  | 1 => ("RoundFigures", "now", "LRoundFigures$World;", true)
  | 2 => ("RoundFigures", "image", "LRoundFigures$World;", true)
  | 3 => ("RoundFigures", "thought", "LRoundFigures$World;", true)
  | 4 => ("RoundFigures", "least", "LRoundFigures$Least;", true)
  | 5 => ("RoundFigures", "kept", "Z", false)
  | 6 => ("RoundFigures", "tape", "[I", true)
  | 7 => ("RoundFigures", "tapeLength", "I", false)
  | 8 => ("RoundFigures", "reader", "LRoundFigures$Reader;", true)
  | 9 => ("RoundFigures", "sheets", "[LRoundFigures$Row;", true)
  | 10 => ("RoundFigures", "slots", "[LRoundFigures$Slot;", true)
  | 11 => ("RoundFigures", "waiting", "[I", true)
  | _ => ("RoundFigures", "waitingCount", "I", false)
def tyX8 : Nat → FieldType := fun k => match k with
  | 0 => .object "RoundFigures$Laws"
  | 1 => .object "RoundFigures$World"
  | 2 => .object "RoundFigures$World"
  | 3 => .object "RoundFigures$World"
  | 4 => .object "RoundFigures$Least"
  | 5 => .boolean
  | 6 => .array .int
  | 7 => .int
  | 8 => .object "RoundFigures$Reader"
  | 9 => .array (.object "RoundFigures$Row")
  | 10 => .array (.object "RoundFigures$Slot")
  | 11 => .array .int
  | _ => .int
abbrev wsX80 : List Cond := u_ws RX8 TX8 13
theorem nmX8 : ∀ a, a < 13 → ∀ b, b < 13 → a ≠ b → (TX8 a).2.1 ≠ (TX8 b).2.1 := by decide +kernel
theorem tyX8_ok : ∀ k, k < 13 → parseFieldDescriptor (TX8 k).2.2.1 = some (tyX8 k) := by decide +kernel
def RX9 : String := "RoundFiguresModel"
def TX9 : u_T := fun k => match k with
  | 0 => ("RoundFiguresModel", "now", "[I", true)
  | 1 => ("RoundFiguresModel", "image", "[I", true)
  | 2 => ("RoundFiguresModel", "aside", "[I", true)
  | 3 => ("RoundFiguresModel", "hasImage", "Z", false)
  | 4 => ("RoundFiguresModel", "home", "I", false)
  | 5 => ("RoundFiguresModel", "lies", "[I", true)
  | 6 => ("RoundFiguresModel", "wasSeen", "[Z", true)
  | 7 => ("RoundFiguresModel", "wasCaught", "[Z", true)
  | 8 => ("RoundFiguresModel", "before", "[I", true)
  | 9 => ("RoundFiguresModel", "tape", "[I", true)
  | 10 => ("RoundFiguresModel", "taped", "I", false)
  | 11 => ("RoundFiguresModel", "next", "I", false)
  | 12 => ("RoundFiguresModel", "from", "I", false)
  | 13 => ("RoundFiguresModel", "token", "I", false)
  | 14 => ("RoundFiguresModel", "value", "I", false)
  | 15 => ("RoundFiguresModel", "ended", "I", false)
  | 16 => ("RoundFiguresModel", "key", "I", false)
  | 17 => ("RoundFiguresModel", "keys", "[C", true)
  | 18 => ("RoundFiguresModel", "keyAt", "[I", true)
  | 19 => ("RoundFiguresModel", "code", "[I", true)
  | 20 => ("RoundFiguresModel", "codes", "I", false)
  | 21 => ("RoundFiguresModel", "atoms", "I", false)
  | 22 => ("RoundFiguresModel", "waits", "[I", true)
  | 23 => ("RoundFiguresModel", "held", "I", false)
  | 24 => ("RoundFiguresModel", "tested", "[Z", true)
  | 25 => ("RoundFiguresModel", "stack", "[I", true)
  | 26 => ("RoundFiguresModel", "facts", "[I", true)
  | 27 => ("RoundFiguresModel", "sorts", "[I", true)
  | 28 => ("RoundFiguresModel", "sizes", "[I", true)
  | 29 => ("RoundFiguresModel", "cells", "[I", true)
  | 30 => ("RoundFiguresModel", "holds", "[I", true)
  | 31 => ("RoundFiguresModel", "holdsA", "[I", true)
  | 32 => ("RoundFiguresModel", "holdsB", "[I", true)
  | 33 => ("RoundFiguresModel", "heldCells", "[I", true)
  | 34 => ("RoundFiguresModel", "moved", "[I", true)
  | 35 => ("RoundFiguresModel", "tells", "[I", true)
  | _ => ("RoundFiguresModel", "waiting", "I", false)
def tyX9 : Nat → FieldType := fun k => match k with
  | 0 => .array .int
  | 1 => .array .int
  | 2 => .array .int
  | 3 => .boolean
  | 4 => .int
  | 5 => .array .int
  | 6 => .array .boolean
  | 7 => .array .boolean
  | 8 => .array .int
  | 9 => .array .int
  | 10 => .int
  | 11 => .int
  | 12 => .int
  | 13 => .int
  | 14 => .int
  | 15 => .int
  | 16 => .int
  | 17 => .array .char
  | 18 => .array .int
  | 19 => .array .int
  | 20 => .int
  | 21 => .int
  | 22 => .array .int
  | 23 => .int
  | 24 => .array .boolean
  | 25 => .array .int
  | 26 => .array .int
  | 27 => .array .int
  | 28 => .array .int
  | 29 => .array .int
  | 30 => .array .int
  | 31 => .array .int
  | 32 => .array .int
  | 33 => .array .int
  | 34 => .array .int
  | 35 => .array .int
  | _ => .int
abbrev wsX90 : List Cond := u_ws RX9 TX9 37
theorem nmX9 : ∀ a, a < 37 → ∀ b, b < 37 → a ≠ b → (TX9 a).2.1 ≠ (TX9 b).2.1 := by decide +kernel
theorem tyX9_ok : ∀ k, k < 37 → parseFieldDescriptor (TX9 k).2.2.1 = some (tyX9 k) := by decide +kernel
abbrev vwCl : List vw_C := [(RX0, TX0, 2), (RX1, TX1, 3), (RX2, TX2, 9), (RX3, TX3, 3), (RX4, TX4, 4), (RX5, TX5, 3), (RX6, TX6, 11), (RX7, TX7, 11), (RX8, TX8, 13), (RX9, TX9, 37)]

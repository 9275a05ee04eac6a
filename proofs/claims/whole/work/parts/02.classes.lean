def RX0 : String := "PostScripts$Bids"
def TX0 : u_T := fun k => match k with
  | 0 => ("PostScripts$Bids", "hand", "[I", true)
  | 1 => ("PostScripts$Bids", "place", "[I", true)
  | 2 => ("PostScripts$Bids", "inches", "[I", true)
  | 3 => ("PostScripts$Bids", "pays", "[I", true)
  | _ => ("PostScripts$Bids", "count", "I", false)
def tyX0 : Nat → FieldType := fun k => match k with
  | 0 => .array .int
  | 1 => .array .int
  | 2 => .array .int
  | 3 => .array .int
  | _ => .int
abbrev wsX00 : List Cond := u_ws RX0 TX0 5
theorem nmX0 : ∀ a, a < 5 → ∀ b, b < 5 → a ≠ b → (TX0 a).2.1 ≠ (TX0 b).2.1 := by decide +kernel
theorem tyX0_ok : ∀ k, k < 5 → parseFieldDescriptor (TX0 k).2.2.1 = some (tyX0 k) := by decide +kernel
def RX1 : String := "PostScripts$Duel"
def TX1 : u_T := fun k => match k with
  | _ => ("PostScripts$Duel", "room", "[I", true)
def tyX1 : Nat → FieldType := fun k => match k with
  | _ => .array .int
abbrev wsX10 : List Cond := u_ws RX1 TX1 1
theorem nmX1 : ∀ a, a < 1 → ∀ b, b < 1 → a ≠ b → (TX1 a).2.1 ≠ (TX1 b).2.1 := by decide +kernel
theorem tyX1_ok : ∀ k, k < 1 → parseFieldDescriptor (TX1 k).2.2.1 = some (tyX1 k) := by decide +kernel
def RX2 : String := "PostScripts$Fillings"
def TX2 : u_T := fun k => match k with
  | 0 => ("PostScripts$Fillings", "fit", "[I", true)
  | 1 => ("PostScripts$Fillings", "often", "[I", true)
  | 2 => ("PostScripts$Fillings", "toldPlaces", "[I", true)
  | 3 => ("PostScripts$Fillings", "toldDos", "[I", true)
  | 4 => ("PostScripts$Fillings", "places", "[I", true)
  | 5 => ("PostScripts$Fillings", "dos", "[I", true)
  | 6 => ("PostScripts$Fillings", "known", "Z", false)
  | 7 => ("PostScripts$Fillings", "count", "I", false)
  | 8 => ("PostScripts$Fillings", "lines", "I", false)
  | _ => ("PostScripts$Fillings", "sayings", "I", false)
def tyX2 : Nat → FieldType := fun k => match k with
  | 0 => .array .int
  | 1 => .array .int
  | 2 => .array .int
  | 3 => .array .int
  | 4 => .array .int
  | 5 => .array .int
  | 6 => .boolean
  | 7 => .int
  | 8 => .int
  | _ => .int
abbrev wsX20 : List Cond := u_ws RX2 TX2 10
theorem nmX2 : ∀ a, a < 10 → ∀ b, b < 10 → a ≠ b → (TX2 a).2.1 ≠ (TX2 b).2.1 := by decide +kernel
theorem tyX2_ok : ∀ k, k < 10 → parseFieldDescriptor (TX2 k).2.2.1 = some (tyX2 k) := by decide +kernel
def RX3 : String := "PostScripts$Lette\x72"
def TX3 : u_T := fun k => match k with
  | 0 => ("PostScripts$Lette\x72", "rank", "[I", true)
  | 1 => ("PostScripts$Lette\x72", "inches", "[I", true)
  | 2 => ("PostScripts$Lette\x72", "uppe\x72", "[I", true)
  | 3 => ("PostScripts$Lette\x72", "lowe\x72", "[I", true)
  | 4 => ("PostScripts$Lette\x72", "purse", "[I", true)
  | 5 => ("PostScripts$Lette\x72", "told", "[I", true)
  | 6 => ("PostScripts$Lette\x72", "hiddenAt", "[I", true)
  | 7 => ("PostScripts$Lette\x72", "page", "LPostScripts$Page;", true)
  | 8 => ("PostScripts$Lette\x72", "bids", "LPostScripts$Bids;", true)
  | 9 => ("PostScripts$Lette\x72", "wet", "I", false)
  | 10 => ("PostScripts$Lette\x72", "places", "I", false)
  | 11 => ("PostScripts$Lette\x72", "overs", "I", false)
  | 12 => ("PostScripts$Lette\x72", "hands", "I", false)
  | 13 => ("PostScripts$Lette\x72", "matters", "I", false)
  | 14 => ("PostScripts$Lette\x72", "hidden", "I", false)
  | _ => ("PostScripts$Lette\x72", "dones", "I", false)
def tyX3 : Nat → FieldType := fun k => match k with
  | 0 => .array .int
  | 1 => .array .int
  | 2 => .array .int
  | 3 => .array .int
  | 4 => .array .int
  | 5 => .array .int
  | 6 => .array .int
  | 7 => .object "PostScripts$Page"
  | 8 => .object "PostScripts$Bids"
  | 9 => .int
  | 10 => .int
  | 11 => .int
  | 12 => .int
  | 13 => .int
  | 14 => .int
  | _ => .int
abbrev wsX30 : List Cond := u_ws RX3 TX3 16
theorem nmX3 : ∀ a, a < 16 → ∀ b, b < 16 → a ≠ b → (TX3 a).2.1 ≠ (TX3 b).2.1 := by decide +kernel
theorem tyX3_ok : ∀ k, k < 16 → parseFieldDescriptor (TX3 k).2.2.1 = some (tyX3 k) := by decide +kernel
def RX4 : String := "PostScripts$Names"
def TX4 : u_T := fun k => match k with
  | 0 => ("PostScripts$Names", "from", "[I", true)
  | 1 => ("PostScripts$Names", "length", "[I", true)
  | 2 => ("PostScripts$Names", "sort", "[I", true)
  | 3 => ("PostScripts$Names", "numbe\x72", "[I", true)
  | _ => ("PostScripts$Names", "count", "I", false)
def tyX4 : Nat → FieldType := fun k => match k with
  | 0 => .array .int
  | 1 => .array .int
  | 2 => .array .int
  | 3 => .array .int
  | _ => .int
abbrev wsX40 : List Cond := u_ws RX4 TX4 5
theorem nmX4 : ∀ a, a < 5 → ∀ b, b < 5 → a ≠ b → (TX4 a).2.1 ≠ (TX4 b).2.1 := by decide +kernel
theorem tyX4_ok : ∀ k, k < 5 → parseFieldDescriptor (TX4 k).2.2.1 = some (tyX4 k) := by decide +kernel
def RX5 : String := "PostScripts$Orde\x72"
def TX5 : u_T := fun k => match k with
  | 0 => ("PostScripts$Orde\x72", "below", "[I", true)
  | _ => ("PostScripts$Orde\x72", "count", "I", false)
def tyX5 : Nat → FieldType := fun k => match k with
  | 0 => .array .int
  | _ => .int
abbrev wsX50 : List Cond := u_ws RX5 TX5 2
theorem nmX5 : ∀ a, a < 2 → ∀ b, b < 2 → a ≠ b → (TX5 a).2.1 ≠ (TX5 b).2.1 := by decide +kernel
theorem tyX5_ok : ∀ k, k < 2 → parseFieldDescriptor (TX5 k).2.2.1 = some (tyX5 k) := by decide +kernel
def RX6 : String := "PostScripts$Page"
def TX6 : u_T := fun k => match k with
  | 0 => ("PostScripts$Page", "hand", "[I", true)
  | 1 => ("PostScripts$Page", "place", "[I", true)
  | 2 => ("PostScripts$Page", "matte\x72", "[I", true)
  | 3 => ("PostScripts$Page", "say", "[I", true)
  | 4 => ("PostScripts$Page", "inches", "[I", true)
  | 5 => ("PostScripts$Page", "count", "I", false)
  | 6 => ("PostScripts$Page", "struck", "I", false)
  | _ => ("PostScripts$Page", "folded", "I", false)
def tyX6 : Nat → FieldType := fun k => match k with
  | 0 => .array .int
  | 1 => .array .int
  | 2 => .array .int
  | 3 => .array .int
  | 4 => .array .int
  | 5 => .int
  | 6 => .int
  | _ => .int
abbrev wsX60 : List Cond := u_ws RX6 TX6 8
theorem nmX6 : ∀ a, a < 8 → ∀ b, b < 8 → a ≠ b → (TX6 a).2.1 ≠ (TX6 b).2.1 := by decide +kernel
theorem tyX6_ok : ∀ k, k < 8 → parseFieldDescriptor (TX6 k).2.2.1 = some (tyX6 k) := by decide +kernel
def RX7 : String := "PostScripts$Past"
def TX7 : u_T := fun k => match k with
  | 0 => ("PostScripts$Past", "kind", "[I", true)
  | 1 => ("PostScripts$Past", "of", "[I", true)
  | _ => ("PostScripts$Past", "count", "I", false)
def tyX7 : Nat → FieldType := fun k => match k with
  | 0 => .array .int
  | 1 => .array .int
  | _ => .int
abbrev wsX70 : List Cond := u_ws RX7 TX7 3
theorem nmX7 : ∀ a, a < 3 → ∀ b, b < 3 → a ≠ b → (TX7 a).2.1 ≠ (TX7 b).2.1 := by decide +kernel
theorem tyX7_ok : ∀ k, k < 3 → parseFieldDescriptor (TX7 k).2.2.1 = some (tyX7 k) := by decide +kernel
def RX8 : String := "PostScripts$Reade\x72"
def TX8 : u_T := fun k => match k with
  | 0 => ("PostScripts$Reade\x72", "tape", "LPostScripts$Tape;", true)
  | 1 => ("PostScripts$Reade\x72", "names", "LPostScripts$Names;", true)
  | 2 => ("PostScripts$Reade\x72", "draft", "LPostScripts$Letter;", false)
  | 3 => ("PostScripts$Reade\x72", "fault", "I", false)
  | _ => ("PostScripts$Reade\x72", "faultAt", "I", false)
def tyX8 : Nat → FieldType := fun k => match k with
  | 0 => .object "PostScripts$Tape"
  | 1 => .object "PostScripts$Names"
  | 2 => .object "PostScripts$Lette\x72"
  | 3 => .int
  | _ => .int
abbrev wsX80 : List Cond := u_ws RX8 TX8 5
theorem nmX8 : ∀ a, a < 5 → ∀ b, b < 5 → a ≠ b → (TX8 a).2.1 ≠ (TX8 b).2.1 := by decide +kernel
theorem tyX8_ok : ∀ k, k < 5 → parseFieldDescriptor (TX8 k).2.2.1 = some (tyX8 k) := by decide +kernel
def RX9 : String := "PostScripts$Tape"
def TX9 : u_T := fun k => match k with
  | 0 => ("PostScripts$Tape", "bytes", "[B", true)
  | 1 => ("PostScripts$Tape", "size", "I", false)
  | 2 => ("PostScripts$Tape", "end", "I", false)
  | 3 => ("PostScripts$Tape", "from", "I", false)
  | 4 => ("PostScripts$Tape", "to", "I", false)
  | 5 => ("PostScripts$Tape", "kind", "I", false)
  | _ => ("PostScripts$Tape", "numbe\x72", "I", false)
def tyX9 : Nat → FieldType := fun k => match k with
  | 0 => .array .byte
  | 1 => .int
  | 2 => .int
  | 3 => .int
  | 4 => .int
  | 5 => .int
  | _ => .int
abbrev wsX90 : List Cond := u_ws RX9 TX9 7
theorem nmX9 : ∀ a, a < 7 → ∀ b, b < 7 → a ≠ b → (TX9 a).2.1 ≠ (TX9 b).2.1 := by decide +kernel
theorem tyX9_ok : ∀ k, k < 7 → parseFieldDescriptor (TX9 k).2.2.1 = some (tyX9 k) := by decide +kernel
def RX10 : String := "PostScripts"
def TX10 : u_T := fun k => match k with
  | 0 => ("PostScripts", "reade\x72", "LPostScripts$Reader;", true)
  | 1 => ("PostScripts", "orde\x72", "LPostScripts$Order;", true)
  | 2 => ("PostScripts", "trial", "LPostScripts$Order;", true)
  | 3 => ("PostScripts", "now", "LPostScripts$Page;", true)
  | 4 => ("PostScripts", "images", "[LPostScripts$Page;", true)
  | 5 => ("PostScripts", "past", "LPostScripts$Past;", true)
  | 6 => ("PostScripts", "fillings", "LPostScripts$Fillings;", true)
  | 7 => ("PostScripts", "duel", "LPostScripts$Duel;", true)
  | 8 => ("PostScripts", "current", "LPostScripts$Letter;", false)
  | 9 => ("PostScripts", "imageCount", "I", false)
  | 10 => ("PostScripts", "trouble", "I", false)
  | 11 => ("PostScripts", "fault", "I", false)
  | _ => ("PostScripts", "faultAt", "I", false)
def tyX10 : Nat → FieldType := fun k => match k with
  | 0 => .object "PostScripts$Reade\x72"
  | 1 => .object "PostScripts$Orde\x72"
  | 2 => .object "PostScripts$Orde\x72"
  | 3 => .object "PostScripts$Page"
  | 4 => .array (.object "PostScripts$Page")
  | 5 => .object "PostScripts$Past"
  | 6 => .object "PostScripts$Fillings"
  | 7 => .object "PostScripts$Duel"
  | 8 => .object "PostScripts$Lette\x72"
  | 9 => .int
  | 10 => .int
  | 11 => .int
  | _ => .int
abbrev wsX100 : List Cond := u_ws RX10 TX10 13
theorem nmX10 : ∀ a, a < 13 → ∀ b, b < 13 → a ≠ b → (TX10 a).2.1 ≠ (TX10 b).2.1 := by decide +kernel
theorem tyX10_ok : ∀ k, k < 13 → parseFieldDescriptor (TX10 k).2.2.1 = some (tyX10 k) := by decide +kernel
def RX11 : String := "PostScriptsModel"
def TX11 : u_T := fun k => match k with
  | 0 => ("PostScriptsModel", "thrown", "I", false)
  | 1 => ("PostScriptsModel", "tape", "[I", true)
  | 2 => ("PostScriptsModel", "taped", "I", false)
  | 3 => ("PostScriptsModel", "size", "I", false)
  | 4 => ("PostScriptsModel", "at", "I", false)
  | 5 => ("PostScriptsModel", "end", "I", false)
  | 6 => ("PostScriptsModel", "token", "I", false)
  | 7 => ("PostScriptsModel", "whole", "I", false)
  | 8 => ("PostScriptsModel", "nameSize", "I", false)
  | 9 => ("PostScriptsModel", "fault", "I", false)
  | 10 => ("PostScriptsModel", "place", "I", false)
  | 11 => ("PostScriptsModel", "trouble", "I", false)
  | 12 => ("PostScriptsModel", "letters", "[I", true)
  | 13 => ("PostScriptsModel", "failed", "Z", false)
  | 14 => ("PostScriptsModel", "hasLette\x72", "Z", false)
  | 15 => ("PostScriptsModel", "\x72", "[I", true)
  | 16 => ("PostScriptsModel", "fresh", "[I", true)
  | 17 => ("PostScriptsModel", "told", "[I", true)
  | 18 => ("PostScriptsModel", "read", "[I", true)
  | 19 => ("PostScriptsModel", "st", "[I", true)
  | 20 => ("PostScriptsModel", "undone", "[I", true)
  | 21 => ("PostScriptsModel", "kept", "[I", true)
  | 22 => ("PostScriptsModel", "undos", "I", false)
  | 23 => ("PostScriptsModel", "images", "I", false)
  | 24 => ("PostScriptsModel", "dropped", "I", false)
  | 25 => ("PostScriptsModel", "listAt", "[I", true)
  | 26 => ("PostScriptsModel", "listSays", "[I", true)
  | 27 => ("PostScriptsModel", "listLine", "[I", true)
  | 28 => ("PostScriptsModel", "listMany", "I", false)
  | 29 => ("PostScriptsModel", "moreAt", "[I", true)
  | 30 => ("PostScriptsModel", "moreSays", "[I", true)
  | 31 => ("PostScriptsModel", "moreMany", "I", false)
  | 32 => ("PostScriptsModel", "winsFirst", "I", false)
  | 33 => ("PostScriptsModel", "way", "[I", true)
  | 34 => ("PostScriptsModel", "ring", "[I", true)
  | 35 => ("PostScriptsModel", "ringMany", "I", false)
  | 36 => ("PostScriptsModel", "often", "[I", true)
  | 37 => ("PostScriptsModel", "fitMany", "I", false)
  | 38 => ("PostScriptsModel", "firstRest", "I", false)
  | _ => ("PostScriptsModel", "smudges", "I", false)
def tyX11 : Nat → FieldType := fun k => match k with
  | 0 => .int
  | 1 => .array .int
  | 2 => .int
  | 3 => .int
  | 4 => .int
  | 5 => .int
  | 6 => .int
  | 7 => .int
  | 8 => .int
  | 9 => .int
  | 10 => .int
  | 11 => .int
  | 12 => .array .int
  | 13 => .boolean
  | 14 => .boolean
  | 15 => .array .int
  | 16 => .array .int
  | 17 => .array .int
  | 18 => .array .int
  | 19 => .array .int
  | 20 => .array .int
  | 21 => .array .int
  | 22 => .int
  | 23 => .int
  | 24 => .int
  | 25 => .array .int
  | 26 => .array .int
  | 27 => .array .int
  | 28 => .int
  | 29 => .array .int
  | 30 => .array .int
  | 31 => .int
  | 32 => .int
  | 33 => .array .int
  | 34 => .array .int
  | 35 => .int
  | 36 => .array .int
  | 37 => .int
  | 38 => .int
  | _ => .int
abbrev wsX110 : List Cond := u_ws RX11 TX11 40
theorem nmX11 : ∀ a, a < 40 → ∀ b, b < 40 → a ≠ b → (TX11 a).2.1 ≠ (TX11 b).2.1 := by decide +kernel
theorem tyX11_ok : ∀ k, k < 40 → parseFieldDescriptor (TX11 k).2.2.1 = some (tyX11 k) := by decide +kernel
abbrev vwCl : List vw_C := [(RX0, TX0, 5), (RX1, TX1, 1), (RX2, TX2, 10), (RX3, TX3, 16), (RX4, TX4, 5), (RX5, TX5, 2), (RX6, TX6, 8), (RX7, TX7, 3), (RX8, TX8, 5), (RX9, TX9, 7), (RX10, TX10, 13), (RX11, TX11, 40)]

/-- of each class, in the order of its slots: is the field a reference -/
def zf : Nat → List Bool := fun c => match c with
  | 0 => [true, true, true, true, false]
  | 1 => [true]
  | 2 => [true, true, true, true, true, true, false, false, false, false]
  | 3 => [true, true, true, true, true, true, true, true, true, false, false, false, false, false, false, false]
  | 4 => [true, true, true, true, false]
  | 5 => [true, false]
  | 6 => [true, true, true, true, true, false, false, false]
  | 7 => [true, true, false]
  | 8 => [true, true, true, false, false]
  | 9 => [true, false, false, false, false, false, false]
  | 10 => [true, true, true, true, true, true, true, true, true, false, false, false, false]
  | 11 => [false, true, false, false, false, false, false, false, false, false, false, false, true, false, false, true, true, true, true, true, true, true, false, false, false, true, true, true, false, true, true, false, false, true, true, false, true, false, false, false]
  | _ => []

/-! NAMES (by a program of ours out of the claim's own tables): classes, their places in the order of the slots, methods -/
def RX0 : String := "StencilHouse$Day"
def TX0 : u_T := fun k => match k with
  | 0 => ("StencilHouse$Day", "deedCount", "I", false)
  | _ => ("StencilHouse$Day", "parts", "[I", true)
def tyX0 : Nat → FieldType := fun k => match k with
  | 0 => .int
  | _ => .array .int
theorem nmX0 : ∀ a, a < 2 → ∀ b, b < 2 → a ≠ b → (TX0 a).2.1 ≠ (TX0 b).2.1 := by decide +kernel
theorem tyokX0 : ∀ k, k < 2 → parseFieldDescriptor (TX0 k).2.2.1 = some (tyX0 k) := by decide +kernel
def RX2 : String := "StencilHouse$Marks"
def TX2 : u_T := fun k => match k with
  | 0 => ("StencilHouse$Marks", "markCount", "I", false)
  | 1 => ("StencilHouse$Marks", "column", "[I", true)
  | 2 => ("StencilHouse$Marks", "row", "[I", true)
  | _ => ("StencilHouse$Marks", "sheet", "[I", true)
def tyX2 : Nat → FieldType := fun k => match k with
  | 0 => .int
  | 1 => .array .int
  | 2 => .array .int
  | _ => .array .int
theorem nmX2 : ∀ a, a < 4 → ∀ b, b < 4 → a ≠ b → (TX2 a).2.1 ≠ (TX2 b).2.1 := by decide +kernel
theorem tyokX2 : ∀ k, k < 4 → parseFieldDescriptor (TX2 k).2.2.1 = some (tyX2 k) := by decide +kernel
def RX3 : String := "StencilHouse$Orders"
def TX3 : u_T := fun k => match k with
  | 0 => ("StencilHouse$Orders", "items", "[I", true)
  | 1 => ("StencilHouse$Orders", "found", "[I", true)
  | 2 => ("StencilHouse$Orders", "spraysMade", "[I", true)
  | 3 => ("StencilHouse$Orders", "wanted", "[I", true)
  | 4 => ("StencilHouse$Orders", "tops", "[I", true)
  | 5 => ("StencilHouse$Orders", "size", "I", false)
  | _ => ("StencilHouse$Orders", "length", "I", false)
def tyX3 : Nat → FieldType := fun k => match k with
  | 0 => .array .int
  | 1 => .array .int
  | 2 => .array .int
  | 3 => .array .int
  | 4 => .array .int
  | 5 => .int
  | _ => .int
theorem nmX3 : ∀ a, a < 7 → ∀ b, b < 7 → a ≠ b → (TX3 a).2.1 ≠ (TX3 b).2.1 := by decide +kernel
theorem tyokX3 : ∀ k, k < 7 → parseFieldDescriptor (TX3 k).2.2.1 = some (tyX3 k) := by decide +kernel
def RX4 : String := "StencilHouse$Picture"
def TX4 : u_T := fun k => match k with
  | _ => ("StencilHouse$Picture", "colour", "[I", true)
def tyX4 : Nat → FieldType := fun k => match k with
  | _ => .array .int
theorem nmX4 : ∀ a, a < 1 → ∀ b, b < 1 → a ≠ b → (TX4 a).2.1 ≠ (TX4 b).2.1 := by decide +kernel
theorem tyokX4 : ∀ k, k < 1 → parseFieldDescriptor (TX4 k).2.2.1 = some (tyX4 k) := by decide +kernel
def RX5 : String := "StencilHouse$Reader"
def TX5 : u_T := fun k => match k with
  | 0 => ("StencilHouse$Reader", "shopRead", "LStencilHouse$Shop;", true)
  | 1 => ("StencilHouse$Reader", "dayRead", "LStencilHouse$Day;", true)
  | 2 => ("StencilHouse$Reader", "pictureRead", "LStencilHouse$Picture;", true)
  | 3 => ("StencilHouse$Reader", "marksRead", "LStencilHouse$Marks;", true)
  | 4 => ("StencilHouse$Reader", "fault", "I", false)
  | 5 => ("StencilHouse$Reader", "faultPlace", "I", false)
  | 6 => ("StencilHouse$Reader", "tokens", "LStencilHouse$Tokens;", true)
  | 7 => ("StencilHouse$Reader", "sheetRows", "[I", true)
  | 8 => ("StencilHouse$Reader", "numbers", "[I", true)
  | 9 => ("StencilHouse$Reader", "wornSheets", "I", false)
  | _ => ("StencilHouse$Reader", "pictureRows", "I", false)
def tyX5 : Nat → FieldType := fun k => match k with
  | 0 => .object "StencilHouse$Shop"
  | 1 => .object "StencilHouse$Day"
  | 2 => .object "StencilHouse$Picture"
  | 3 => .object "StencilHouse$Marks"
  | 4 => .int
  | 5 => .int
  | 6 => .object "StencilHouse$Tokens"
  | 7 => .array .int
  | 8 => .array .int
  | 9 => .int
  | _ => .int
theorem nmX5 : ∀ a, a < 11 → ∀ b, b < 11 → a ≠ b → (TX5 a).2.1 ≠ (TX5 b).2.1 := by decide +kernel
theorem tyokX5 : ∀ k, k < 11 → parseFieldDescriptor (TX5 k).2.2.1 = some (tyX5 k) := by decide +kernel
def RX6 : String := "StencilHouse$Shop"
def TX6 : u_T := fun k => match k with
  | 0 => ("StencilHouse$Shop", "columns", "I", false)
  | 1 => ("StencilHouse$Shop", "rows", "I", false)
  | 2 => ("StencilHouse$Shop", "slip", "I", false)
  | 3 => ("StencilHouse$Shop", "sheetCount", "I", false)
  | 4 => ("StencilHouse$Shop", "cut", "[I", true)
  | 5 => ("StencilHouse$Shop", "wear", "[I", true)
  | 6 => ("StencilHouse$Shop", "open", "[I", true)
  | 7 => ("StencilHouse$Shop", "all", "I", false)
  | 8 => ("StencilHouse$Shop", "left", "I", false)
  | 9 => ("StencilHouse$Shop", "right", "I", false)
  | _ => ("StencilHouse$Shop", "rim", "I", false)
def tyX6 : Nat → FieldType := fun k => match k with
  | 0 => .int
  | 1 => .int
  | 2 => .int
  | 3 => .int
  | 4 => .array .int
  | 5 => .array .int
  | 6 => .array .int
  | 7 => .int
  | 8 => .int
  | 9 => .int
  | _ => .int
theorem nmX6 : ∀ a, a < 11 → ∀ b, b < 11 → a ≠ b → (TX6 a).2.1 ≠ (TX6 b).2.1 := by decide +kernel
theorem tyokX6 : ∀ k, k < 11 → parseFieldDescriptor (TX6 k).2.2.1 = some (tyX6 k) := by decide +kernel
def RX7 : String := "StencilHouse$Tokens"
def TX7 : u_T := fun k => match k with
  | 0 => ("StencilHouse$Tokens", "tape", "[I", false)
  | 1 => ("StencilHouse$Tokens", "length", "I", false)
  | 2 => ("StencilHouse$Tokens", "behind", "I", false)
  | 3 => ("StencilHouse$Tokens", "kind", "I", false)
  | 4 => ("StencilHouse$Tokens", "place", "I", false)
  | _ => ("StencilHouse$Tokens", "value", "I", false)
def tyX7 : Nat → FieldType := fun k => match k with
  | 0 => .array .int
  | 1 => .int
  | 2 => .int
  | 3 => .int
  | 4 => .int
  | _ => .int
theorem nmX7 : ∀ a, a < 6 → ∀ b, b < 6 → a ≠ b → (TX7 a).2.1 ≠ (TX7 b).2.1 := by decide +kernel
theorem tyokX7 : ∀ k, k < 6 → parseFieldDescriptor (TX7 k).2.2.1 = some (tyX7 k) := by decide +kernel
def RX8 : String := "StencilHouse$Told"
def TX8 : u_T := fun k => match k with
  | 0 => ("StencilHouse$Told", "tape", "[I", true)
  | 1 => ("StencilHouse$Told", "tapeLength", "I", false)
  | 2 => ("StencilHouse$Told", "fault", "I", false)
  | 3 => ("StencilHouse$Told", "faultPlace", "I", false)
  | 4 => ("StencilHouse$Told", "counts", "[I", true)
  | 5 => ("StencilHouse$Told", "shopList", "[LStencilHouse$Shop;", true)
  | 6 => ("StencilHouse$Told", "dayList", "[LStencilHouse$Day;", true)
  | 7 => ("StencilHouse$Told", "pictureList", "[LStencilHouse$Picture;", true)
  | _ => ("StencilHouse$Told", "marksList", "[LStencilHouse$Marks;", true)
def tyX8 : Nat → FieldType := fun k => match k with
  | 0 => .array .int
  | 1 => .int
  | 2 => .int
  | 3 => .int
  | 4 => .array .int
  | 5 => .array (.object "StencilHouse$Shop")
  | 6 => .array (.object "StencilHouse$Day")
  | 7 => .array (.object "StencilHouse$Picture")
  | _ => .array (.object "StencilHouse$Marks")
theorem nmX8 : ∀ a, a < 9 → ∀ b, b < 9 → a ≠ b → (TX8 a).2.1 ≠ (TX8 b).2.1 := by decide +kernel
theorem tyokX8 : ∀ k, k < 9 → parseFieldDescriptor (TX8 k).2.2.1 = some (tyX8 k) := by decide +kernel
def RX9 : String := "StencilHouse$Wall"
def TX9 : u_T := fun k => match k with
  | 0 => ("StencilHouse$Wall", "shop", "LStencilHouse$Shop;", false)
  | 1 => ("StencilHouse$Wall", "cellsOf", "[I", true)
  | 2 => ("StencilHouse$Wall", "cut", "[I", true)
  | 3 => ("StencilHouse$Wall", "sprayed", "[I", true)
  | 4 => ("StencilHouse$Wall", "across", "[I", true)
  | 5 => ("StencilHouse$Wall", "down", "[I", true)
  | 6 => ("StencilHouse$Wall", "deedsDone", "I", false)
  | 7 => ("StencilHouse$Wall", "sprayCount", "I", false)
  | 8 => ("StencilHouse$Wall", "seed", "I", false)
  | 9 => ("StencilHouse$Wall", "firstOver", "I", false)
  | 10 => ("StencilHouse$Wall", "over", "I", false)
  | _ => ("StencilHouse$Wall", "washed", "I", false)
def tyX9 : Nat → FieldType := fun k => match k with
  | 0 => .object "StencilHouse$Shop"
  | 1 => .array .int
  | 2 => .array .int
  | 3 => .array .int
  | 4 => .array .int
  | 5 => .array .int
  | 6 => .int
  | 7 => .int
  | 8 => .int
  | 9 => .int
  | 10 => .int
  | _ => .int
theorem nmX9 : ∀ a, a < 12 → ∀ b, b < 12 → a ≠ b → (TX9 a).2.1 ≠ (TX9 b).2.1 := by decide +kernel
theorem tyokX9 : ∀ k, k < 12 → parseFieldDescriptor (TX9 k).2.2.1 = some (tyX9 k) := by decide +kernel
def RX10 : String := "StencilHouse"
def TX10 : u_T := fun k => match k with
  | 0 => ("StencilHouse", "told", "LStencilHouse$Told;", true)
  | 1 => ("StencilHouse", "images", "[LStencilHouse$Told;", true)
  | 2 => ("StencilHouse", "reader", "LStencilHouse$Reader;", true)
  | 3 => ("StencilHouse", "wall", "LStencilHouse$Wall;", true)
  | _ => ("StencilHouse", "orders", "LStencilHouse$Orders;", true)
def tyX10 : Nat → FieldType := fun k => match k with
  | 0 => .object "StencilHouse$Told"
  | 1 => .array (.object "StencilHouse$Told")
  | 2 => .object "StencilHouse$Reader"
  | 3 => .object "StencilHouse$Wall"
  | _ => .object "StencilHouse$Orders"
theorem nmX10 : ∀ a, a < 5 → ∀ b, b < 5 → a ≠ b → (TX10 a).2.1 ≠ (TX10 b).2.1 := by decide +kernel
theorem tyokX10 : ∀ k, k < 5 → parseFieldDescriptor (TX10 k).2.2.1 = some (tyX10 k) := by decide +kernel
def RX11 : String := "StencilHouseModel"
def TX11 : u_T := fun k => match k with
  | 0 => ("StencilHouseModel", "code", "I", false)
  | 1 => ("StencilHouseModel", "tape", "[B", true)
  | 2 => ("StencilHouseModel", "size", "[I", true)
  | 3 => ("StencilHouseModel", "fault", "[I", true)
  | 4 => ("StencilHouseModel", "faultPlace", "[I", true)
  | 5 => ("StencilHouseModel", "many", "[I", true)
  | 6 => ("StencilHouseModel", "shops", "[I", true)
  | 7 => ("StencilHouseModel", "days", "[I", true)
  | 8 => ("StencilHouseModel", "pictures", "[I", true)
  | 9 => ("StencilHouseModel", "marks", "[I", true)
  | 10 => ("StencilHouseModel", "reached", "I", false)
  | 11 => ("StencilHouseModel", "length", "I", false)
  | 12 => ("StencilHouseModel", "begins", "I", false)
  | 13 => ("StencilHouseModel", "sort", "I", false)
  | 14 => ("StencilHouseModel", "value", "I", false)
  | 15 => ("StencilHouseModel", "word", "J", false)
  | 16 => ("StencilHouseModel", "wrongAt", "I", false)
  | 17 => ("StencilHouseModel", "laterFault", "I", false)
  | 18 => ("StencilHouseModel", "laterPlace", "I", false)
  | 19 => ("StencilHouseModel", "told", "[I", true)
  | 20 => ("StencilHouseModel", "read", "[I", true)
  | 21 => ("StencilHouseModel", "farOne", "I", false)
  | 22 => ("StencilHouseModel", "good", "Z", false)
  | 23 => ("StencilHouseModel", "shop", "I", false)
  | 24 => ("StencilHouseModel", "wide", "I", false)
  | 25 => ("StencilHouseModel", "high", "I", false)
  | 26 => ("StencilHouseModel", "cells", "I", false)
  | 27 => ("StencilHouseModel", "sheets", "I", false)
  | 28 => ("StencilHouseModel", "sprays", "I", false)
  | 29 => ("StencilHouseModel", "cut", "[I", true)
  | 30 => ("StencilHouseModel", "open", "[I", true)
  | 31 => ("StencilHouseModel", "right", "[I", true)
  | 32 => ("StencilHouseModel", "down", "[I", true)
  | 33 => ("StencilHouseModel", "sprayed", "[I", true)
  | 34 => ("StencilHouseModel", "wall", "[I", true)
  | 35 => ("StencilHouseModel", "day", "I", false)
  | 36 => ("StencilHouseModel", "over", "I", false)
  | 37 => ("StencilHouseModel", "washed", "I", false)
  | 38 => ("StencilHouseModel", "picture", "I", false)
  | 39 => ("StencilHouseModel", "row", "[I", true)
  | 40 => ("StencilHouseModel", "rowColour", "[I", true)
  | 41 => ("StencilHouseModel", "bestRow", "[I", true)
  | 42 => ("StencilHouseModel", "ends", "[I", true)
  | 43 => ("StencilHouseModel", "which", "I", false)
  | 44 => ("StencilHouseModel", "mark", "I", false)
  | 45 => ("StencilHouseModel", "found", "I", false)
  | 46 => ("StencilHouseModel", "asked", "I", false)
  | 47 => ("StencilHouseModel", "last", "I", false)
  | 48 => ("StencilHouseModel", "tops", "[I", true)
  | 49 => ("StencilHouseModel", "seed", "I", false)
  | _ => ("StencilHouseModel", "saved", "[Z", true)
def tyX11 : Nat → FieldType := fun k => match k with
  | 0 => .int
  | 1 => .array .byte
  | 2 => .array .int
  | 3 => .array .int
  | 4 => .array .int
  | 5 => .array .int
  | 6 => .array .int
  | 7 => .array .int
  | 8 => .array .int
  | 9 => .array .int
  | 10 => .int
  | 11 => .int
  | 12 => .int
  | 13 => .int
  | 14 => .int
  | 15 => .long
  | 16 => .int
  | 17 => .int
  | 18 => .int
  | 19 => .array .int
  | 20 => .array .int
  | 21 => .int
  | 22 => .boolean
  | 23 => .int
  | 24 => .int
  | 25 => .int
  | 26 => .int
  | 27 => .int
  | 28 => .int
  | 29 => .array .int
  | 30 => .array .int
  | 31 => .array .int
  | 32 => .array .int
  | 33 => .array .int
  | 34 => .array .int
  | 35 => .int
  | 36 => .int
  | 37 => .int
  | 38 => .int
  | 39 => .array .int
  | 40 => .array .int
  | 41 => .array .int
  | 42 => .array .int
  | 43 => .int
  | 44 => .int
  | 45 => .int
  | 46 => .int
  | 47 => .int
  | 48 => .array .int
  | 49 => .int
  | _ => .array .boolean
theorem nmX11 : ∀ a, a < 51 → ∀ b, b < 51 → a ≠ b → (TX11 a).2.1 ≠ (TX11 b).2.1 := by decide +kernel
theorem tyokX11 : ∀ k, k < 51 → parseFieldDescriptor (TX11 k).2.2.1 = some (tyX11 k) := by decide +kernel
def classes : List vw_C := [(RX0, TX0, 2), (RX2, TX2, 4), (RX3, TX3, 7), (RX4, TX4, 1), (RX5, TX5, 11), (RX6, TX6, 11), (RX7, TX7, 6), (RX8, TX8, 9), (RX9, TX9, 12), (RX10, TX10, 5), (RX11, TX11, 51)]
def clty : List (Nat → FieldType) := [tyX0, tyX2, tyX3, tyX4, tyX5, tyX6, tyX7, tyX8, tyX9, tyX10, tyX11]

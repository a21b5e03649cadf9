/-! printed names: classes, fields (out of NAMES.whole) -/
def RX0 : String := "HopeBank$Hush"
def TX0 : u_T := fun k => match k with
  | 0 => ("HopeBank$Hush", "town", "LHopeBank$Town;", true)
  | 1 => ("HopeBank$Hush", "sets", "LHopeBank$Sets;", true)
  | 2 => ("HopeBank$Hush", "longest", "[I", true)
  | 3 => ("HopeBank$Hush", "ways", "[I", true)
  | _ => ("HopeBank$Hush", "filled", "I", false)
def tyX0 : Nat → FieldType := fun k => match k with
  | 0 => .object "HopeBank$Town"
  | 1 => .object "HopeBank$Sets"
  | 2 => .array .int
  | 3 => .array .int
  | _ => .int
theorem nmX0 : ∀ a, a < 5 → ∀ b, b < 5 → a ≠ b → (TX0 a).2.1 ≠ (TX0 b).2.1 := by decide +kernel
theorem tyX0_ok : ∀ k, k < 5 → parseFieldDescriptor (TX0 k).2.2.1 = some (tyX0 k) := by decide +kernel
def RX1 : String := "HopeBank$Look"
def TX1 : u_T := fun k => match k with
  | 0 => ("HopeBank$Look", "town", "LHopeBank$Town;", true)
  | _ => ("HopeBank$Look", "play", "LHopeBank$Play;", true)
def tyX1 : Nat → FieldType := fun k => match k with
  | 0 => .object "HopeBank$Town"
  | _ => .object "HopeBank$Play"
theorem nmX1 : ∀ a, a < 2 → ∀ b, b < 2 → a ≠ b → (TX1 a).2.1 ≠ (TX1 b).2.1 := by decide +kernel
theorem tyX1_ok : ∀ k, k < 2 → parseFieldDescriptor (TX1 k).2.2.1 = some (tyX1 k) := by decide +kernel
def RX2 : String := "HopeBank$Packing"
def TX2 : u_T := fun k => match k with
  | 0 => ("HopeBank$Packing", "town", "LHopeBank$Town;", true)
  | 1 => ("HopeBank$Packing", "sets", "LHopeBank$Sets;", true)
  | 2 => ("HopeBank$Packing", "reached", "[I", true)
  | 3 => ("HopeBank$Packing", "fixed", "[I", true)
  | 4 => ("HopeBank$Packing", "choice", "[I", true)
  | 5 => ("HopeBank$Packing", "greatest", "I", false)
  | 6 => ("HopeBank$Packing", "highest", "I", false)
  | _ => ("HopeBank$Packing", "settled", "Z", false)
def tyX2 : Nat → FieldType := fun k => match k with
  | 0 => .object "HopeBank$Town"
  | 1 => .object "HopeBank$Sets"
  | 2 => .array .int
  | 3 => .array .int
  | 4 => .array .int
  | 5 => .int
  | 6 => .int
  | _ => .boolean
theorem nmX2 : ∀ a, a < 8 → ∀ b, b < 8 → a ≠ b → (TX2 a).2.1 ≠ (TX2 b).2.1 := by decide +kernel
theorem tyX2_ok : ∀ k, k < 8 → parseFieldDescriptor (TX2 k).2.2.1 = some (tyX2 k) := by decide +kernel
def RX3 : String := "HopeBank$Play"
def TX3 : u_T := fun k => match k with
  | 0 => ("HopeBank$Play", "town", "LHopeBank$Town;", true)
  | 1 => ("HopeBank$Play", "fell", "[I", true)
  | 2 => ("HopeBank$Play", "into", "[I", true)
  | 3 => ("HopeBank$Play", "volume", "[I", true)
  | 4 => ("HopeBank$Play", "gone", "[I", true)
  | 5 => ("HopeBank$Play", "how", "[I", true)
  | 6 => ("HopeBank$Play", "took", "[I", true)
  | 7 => ("HopeBank$Play", "results", "[I", true)
  | 8 => ("HopeBank$Play", "wentIn", "I", false)
  | 9 => ("HopeBank$Play", "spares", "[I", true)
  | 10 => ("HopeBank$Play", "inside", "[I", true)
  | 11 => ("HopeBank$Play", "broken", "I", false)
  | 12 => ("HopeBank$Play", "coming", "I", false)
  | 13 => ("HopeBank$Play", "breaking", "Z", false)
  | 14 => ("HopeBank$Play", "widened", "I", false)
  | _ => ("HopeBank$Play", "widenedRoom", "I", false)
def tyX3 : Nat → FieldType := fun k => match k with
  | 0 => .object "HopeBank$Town"
  | 1 => .array .int
  | 2 => .array .int
  | 3 => .array .int
  | 4 => .array .int
  | 5 => .array .int
  | 6 => .array .int
  | 7 => .array .int
  | 8 => .int
  | 9 => .array .int
  | 10 => .array .int
  | 11 => .int
  | 12 => .int
  | 13 => .boolean
  | 14 => .int
  | _ => .int
theorem nmX3 : ∀ a, a < 16 → ∀ b, b < 16 → a ≠ b → (TX3 a).2.1 ≠ (TX3 b).2.1 := by decide +kernel
theorem tyX3_ok : ∀ k, k < 16 → parseFieldDescriptor (TX3 k).2.2.1 = some (tyX3 k) := by decide +kernel
def RX4 : String := "HopeBank$Reader"
def TX4 : u_T := fun k => match k with
  | 0 => ("HopeBank$Reader", "tape", "[B", true)
  | 1 => ("HopeBank$Reader", "length", "I", false)
  | 2 => ("HopeBank$Reader", "found", "LHopeBank$Town;", true)
  | 3 => ("HopeBank$Reader", "fault", "I", false)
  | 4 => ("HopeBank$Reader", "place", "I", false)
  | 5 => ("HopeBank$Reader", "next", "I", false)
  | 6 => ("HopeBank$Reader", "kind", "I", false)
  | 7 => ("HopeBank$Reader", "start", "I", false)
  | 8 => ("HopeBank$Reader", "numbers", "[I", true)
  | _ => ("HopeBank$Reader", "read", "I", false)
def tyX4 : Nat → FieldType := fun k => match k with
  | 0 => .array .byte
  | 1 => .int
  | 2 => .object "HopeBank$Town"
  | 3 => .int
  | 4 => .int
  | 5 => .int
  | 6 => .int
  | 7 => .int
  | 8 => .array .int
  | _ => .int
theorem nmX4 : ∀ a, a < 10 → ∀ b, b < 10 → a ≠ b → (TX4 a).2.1 ≠ (TX4 b).2.1 := by decide +kernel
theorem tyX4_ok : ∀ k, k < 10 → parseFieldDescriptor (TX4 k).2.2.1 = some (tyX4 k) := by decide +kernel
def RX5 : String := "HopeBank$Sets"
def TX5 : u_T := fun k => match k with
  | 0 => ("HopeBank$Sets", "town", "LHopeBank$Town;", true)
  | 1 => ("HopeBank$Sets", "weights", "[I", true)
  | 2 => ("HopeBank$Sets", "worths", "[I", true)
  | _ => ("HopeBank$Sets", "whole", "I", false)
def tyX5 : Nat → FieldType := fun k => match k with
  | 0 => .object "HopeBank$Town"
  | 1 => .array .int
  | 2 => .array .int
  | _ => .int
theorem nmX5 : ∀ a, a < 4 → ∀ b, b < 4 → a ≠ b → (TX5 a).2.1 ≠ (TX5 b).2.1 := by decide +kernel
theorem tyX5_ok : ∀ k, k < 4 → parseFieldDescriptor (TX5 k).2.2.1 = some (tyX5 k) := by decide +kernel
def RX6 : String := "HopeBank$Slots"
def TX6 : u_T := fun k => match k with
  | 0 => ("HopeBank$Slots", "numbers", "[[J", true)
  | 1 => ("HopeBank$Slots", "widths", "[I", true)
  | _ => ("HopeBank$Slots", "lengths", "[I", true)
def tyX6 : Nat → FieldType := fun k => match k with
  | 0 => .array (.array .long)
  | 1 => .array .int
  | _ => .array .int
theorem nmX6 : ∀ a, a < 3 → ∀ b, b < 3 → a ≠ b → (TX6 a).2.1 ≠ (TX6 b).2.1 := by decide +kernel
theorem tyX6_ok : ∀ k, k < 3 → parseFieldDescriptor (TX6 k).2.2.1 = some (tyX6 k) := by decide +kernel
def RX7 : String := "HopeBank$Table"
def TX7 : u_T := fun k => match k with
  | 0 => ("HopeBank$Table", "wide", "I", true)
  | 1 => ("HopeBank$Table", "cells", "[I", true)
  | _ => ("HopeBank$Table", "size", "I", false)
def tyX7 : Nat → FieldType := fun k => match k with
  | 0 => .int
  | 1 => .array .int
  | _ => .int
theorem nmX7 : ∀ a, a < 3 → ∀ b, b < 3 → a ≠ b → (TX7 a).2.1 ≠ (TX7 b).2.1 := by decide +kernel
theorem tyX7_ok : ∀ k, k < 3 → parseFieldDescriptor (TX7 k).2.2.1 = some (tyX7 k) := by decide +kernel
def RX8 : String := "HopeBank$Tilting"
def TX8 : u_T := fun k => match k with
  | 0 => ("HopeBank$Tilting", "town", "LHopeBank$Town;", true)
  | 1 => ("HopeBank$Tilting", "sets", "LHopeBank$Sets;", true)
  | 2 => ("HopeBank$Tilting", "slots", "LHopeBank$Slots;", true)
  | 3 => ("HopeBank$Tilting", "fitting", "[I", true)
  | 4 => ("HopeBank$Tilting", "parts", "[I", true)
  | _ => ("HopeBank$Tilting", "size", "I", false)
def tyX8 : Nat → FieldType := fun k => match k with
  | 0 => .object "HopeBank$Town"
  | 1 => .object "HopeBank$Sets"
  | 2 => .object "HopeBank$Slots"
  | 3 => .array .int
  | 4 => .array .int
  | _ => .int
theorem nmX8 : ∀ a, a < 6 → ∀ b, b < 6 → a ≠ b → (TX8 a).2.1 ≠ (TX8 b).2.1 := by decide +kernel
theorem tyX8_ok : ∀ k, k < 6 → parseFieldDescriptor (TX8 k).2.2.1 = some (tyX8 k) := by decide +kernel
def RX9 : String := "HopeBank$Town"
def TX9 : u_T := fun k => match k with
  | 0 => ("HopeBank$Town", "head", "LHopeBank$Table;", true)
  | 1 => ("HopeBank$Town", "pigs", "LHopeBank$Table;", true)
  | 2 => ("HopeBank$Town", "hopes", "LHopeBank$Table;", true)
  | 3 => ("HopeBank$Town", "told", "LHopeBank$Table;", true)
  | 4 => ("HopeBank$Town", "thieves", "LHopeBank$Table;", true)
  | 5 => ("HopeBank$Town", "acts", "LHopeBank$Table;", true)
  | 6 => ("HopeBank$Town", "events", "LHopeBank$Table;", true)
  | _ => ("HopeBank$Town", "lines", "I", false)
def tyX9 : Nat → FieldType := fun k => match k with
  | 0 => .object "HopeBank$Table"
  | 1 => .object "HopeBank$Table"
  | 2 => .object "HopeBank$Table"
  | 3 => .object "HopeBank$Table"
  | 4 => .object "HopeBank$Table"
  | 5 => .object "HopeBank$Table"
  | 6 => .object "HopeBank$Table"
  | _ => .int
theorem nmX9 : ∀ a, a < 8 → ∀ b, b < 8 → a ≠ b → (TX9 a).2.1 ≠ (TX9 b).2.1 := by decide +kernel
theorem tyX9_ok : ∀ k, k < 8 → parseFieldDescriptor (TX9 k).2.2.1 = some (tyX9 k) := by decide +kernel
def RX10 : String := "HopeBank$Trials"
def TX10 : u_T := fun k => match k with
  | 0 => ("HopeBank$Trials", "town", "LHopeBank$Town;", true)
  | 1 => ("HopeBank$Trials", "play", "LHopeBank$Play;", true)
  | 2 => ("HopeBank$Trials", "look", "LHopeBank$Look;", true)
  | 3 => ("HopeBank$Trials", "above", "J", false)
  | _ => ("HopeBank$Trials", "below", "J", false)
def tyX10 : Nat → FieldType := fun k => match k with
  | 0 => .object "HopeBank$Town"
  | 1 => .object "HopeBank$Play"
  | 2 => .object "HopeBank$Look"
  | 3 => .long
  | _ => .long
theorem nmX10 : ∀ a, a < 5 → ∀ b, b < 5 → a ≠ b → (TX10 a).2.1 ≠ (TX10 b).2.1 := by decide +kernel
theorem tyX10_ok : ∀ k, k < 5 → parseFieldDescriptor (TX10 k).2.2.1 = some (tyX10 k) := by decide +kernel
def RX11 : String := "HopeBank"
def TX11 : u_T := fun k => match k with
  | 0 => ("HopeBank", "reader", "LHopeBank$Reader;", true)
  | 1 => ("HopeBank", "current", "LHopeBank$Town;", true)
  | 2 => ("HopeBank", "images", "[LHopeBank$Town;", true)
  | 3 => ("HopeBank", "kept", "I", false)
  | 4 => ("HopeBank", "play", "LHopeBank$Play;", true)
  | 5 => ("HopeBank", "look", "LHopeBank$Look;", true)
  | 6 => ("HopeBank", "trials", "LHopeBank$Trials;", true)
  | 7 => ("HopeBank", "sets", "LHopeBank$Sets;", true)
  | 8 => ("HopeBank", "packing", "LHopeBank$Packing;", true)
  | 9 => ("HopeBank", "hush", "LHopeBank$Hush;", true)
  | 10 => ("HopeBank", "slots", "LHopeBank$Slots;", true)
  | _ => ("HopeBank", "tilting", "LHopeBank$Tilting;", true)
def tyX11 : Nat → FieldType := fun k => match k with
  | 0 => .object "HopeBank$Reader"
  | 1 => .object "HopeBank$Town"
  | 2 => .array (.object "HopeBank$Town")
  | 3 => .int
  | 4 => .object "HopeBank$Play"
  | 5 => .object "HopeBank$Look"
  | 6 => .object "HopeBank$Trials"
  | 7 => .object "HopeBank$Sets"
  | 8 => .object "HopeBank$Packing"
  | 9 => .object "HopeBank$Hush"
  | 10 => .object "HopeBank$Slots"
  | _ => .object "HopeBank$Tilting"
theorem nmX11 : ∀ a, a < 12 → ∀ b, b < 12 → a ≠ b → (TX11 a).2.1 ≠ (TX11 b).2.1 := by decide +kernel
theorem tyX11_ok : ∀ k, k < 12 → parseFieldDescriptor (TX11 k).2.2.1 = some (tyX11 k) := by decide +kernel
def RX12 : String := "HopeBankModel"
def TX12 : u_T := fun k => match k with
  | 0 => ("HopeBankModel", "thrown", "I", false)
  | 1 => ("HopeBankModel", "world", "[I", true)
  | 2 => ("HopeBankModel", "images", "[I", true)
  | 3 => ("HopeBankModel", "hasImage", "[Z", true)
  | 4 => ("HopeBankModel", "tape", "[B", true)
  | 5 => ("HopeBankModel", "taped", "I", false)
  | 6 => ("HopeBankModel", "five", "[I", true)
  | 7 => ("HopeBankModel", "size", "I", false)
  | 8 => ("HopeBankModel", "at", "I", false)
  | 9 => ("HopeBankModel", "from", "I", false)
  | 10 => ("HopeBankModel", "token", "I", false)
  | 11 => ("HopeBankModel", "value", "I", false)
  | 12 => ("HopeBankModel", "faultKind", "I", false)
  | 13 => ("HopeBankModel", "faultPlace", "I", false)
  | 14 => ("HopeBankModel", "fresh", "[I", true)
  | 15 => ("HopeBankModel", "roomOf", "[I", true)
  | 16 => ("HopeBankModel", "whereNow", "[I", true)
  | 17 => ("HopeBankModel", "whereAt", "[I", true)
  | 18 => ("HopeBankModel", "fellAt", "[I", true)
  | 19 => ("HopeBankModel", "fellInto", "[I", true)
  | 20 => ("HopeBankModel", "heardOf", "[I", true)
  | 21 => ("HopeBankModel", "takenBy", "[I", true)
  | 22 => ("HopeBankModel", "isBroken", "[Z", true)
  | 23 => ("HopeBankModel", "absent", "I", false)
  | 24 => ("HopeBankModel", "hasBreaks", "Z", false)
  | 25 => ("HopeBankModel", "missed", "I", false)
  | 26 => ("HopeBankModel", "mayPig", "I", false)
  | 27 => ("HopeBankModel", "mayNight", "I", false)
  | 28 => ("HopeBankModel", "maySet", "I", false)
  | 29 => ("HopeBankModel", "actDone", "I", false)
  | 30 => ("HopeBankModel", "victimSet", "I", false)
  | 31 => ("HopeBankModel", "canHold", "[Z", true)
  | 32 => ("HopeBankModel", "fixedIn", "[I", true)
  | 33 => ("HopeBankModel", "moreOf", "[I", true)
  | 34 => ("HopeBankModel", "waysOf", "[I", true)
  | 35 => ("HopeBankModel", "tiltSets", "[I", true)
  | 36 => ("HopeBankModel", "tiltMany", "I", false)
  | 37 => ("HopeBankModel", "askWorst", "I", false)
  | 38 => ("HopeBankModel", "takenBest", "I", false)
  | 39 => ("HopeBankModel", "oftenAll", "J", false)
  | 40 => ("HopeBankModel", "oftenIn", "J", false)
  | 41 => ("HopeBankModel", "oftenValue", "J", false)
  | 42 => ("HopeBankModel", "many", "[I", true)
  | 43 => ("HopeBankModel", "width", "[I", true)
  | 44 => ("HopeBankModel", "numbers", "[J", true)
  | _ => ("HopeBankModel", "moving", "[J", true)
def tyX12 : Nat → FieldType := fun k => match k with
  | 0 => .int
  | 1 => .array .int
  | 2 => .array .int
  | 3 => .array .boolean
  | 4 => .array .byte
  | 5 => .int
  | 6 => .array .int
  | 7 => .int
  | 8 => .int
  | 9 => .int
  | 10 => .int
  | 11 => .int
  | 12 => .int
  | 13 => .int
  | 14 => .array .int
  | 15 => .array .int
  | 16 => .array .int
  | 17 => .array .int
  | 18 => .array .int
  | 19 => .array .int
  | 20 => .array .int
  | 21 => .array .int
  | 22 => .array .boolean
  | 23 => .int
  | 24 => .boolean
  | 25 => .int
  | 26 => .int
  | 27 => .int
  | 28 => .int
  | 29 => .int
  | 30 => .int
  | 31 => .array .boolean
  | 32 => .array .int
  | 33 => .array .int
  | 34 => .array .int
  | 35 => .array .int
  | 36 => .int
  | 37 => .int
  | 38 => .int
  | 39 => .long
  | 40 => .long
  | 41 => .long
  | 42 => .array .int
  | 43 => .array .int
  | 44 => .array .long
  | _ => .array .long
theorem nmX12 : ∀ a, a < 46 → ∀ b, b < 46 → a ≠ b → (TX12 a).2.1 ≠ (TX12 b).2.1 := by decide +kernel
theorem tyX12_ok : ∀ k, k < 46 → parseFieldDescriptor (TX12 k).2.2.1 = some (tyX12 k) := by decide +kernel
abbrev vwCl : List vw_C := [(RX0, TX0, 5), (RX1, TX1, 2), (RX2, TX2, 8), (RX3, TX3, 16), (RX4, TX4, 10), (RX5, TX5, 4), (RX6, TX6, 3), (RX7, TX7, 3), (RX8, TX8, 6), (RX9, TX9, 8), (RX10, TX10, 5), (RX11, TX11, 12), (RX12, TX12, 46)]

/-! names of the classes, their fields, the shape of the objects (printed by wip/whole/gen/names.py out of the claim) -/
def nR0 : String := "LastWordHill$Image"
def nT0 : u_T := fun k => match k with
  | 0 => ("LastWordHill$Image", "scene", "LLastWordHill$Scene;", true)
  | 1 => ("LastWordHill$Image", "texts", "LLastWordHill$Texts;", true)
  | 2 => ("LastWordHill$Image", "told", "LLastWordHill$Told;", true)
  | 3 => ("LastWordHill$Image", "written", "LLastWordHill$Table;", true)
  | _ => ("LastWordHill$Image", "there", "Z", false)
def ny0 : Nat → FieldType := fun k => match k with
  | 0 => .object "LastWordHill$Scene"
  | 1 => .object "LastWordHill$Texts"
  | 2 => .object "LastWordHill$Told"
  | 3 => .object "LastWordHill$Table"
  | _ => .boolean
theorem nN0 : ∀ a, a < 5 → ∀ b, b < 5 → a ≠ b → (nT0 a).2.1 ≠ (nT0 b).2.1 := by decide +kernel
theorem nY0 : ∀ k, k < 5 → parseFieldDescriptor (nT0 k).2.2.1 = some (ny0 k) := by decide +kernel
def nR1 : String := "LastWordHill$Law"
def nT1 : u_T := fun k => match k with
  | 0 => ("LastWordHill$Law", "lines", "LLastWordHill$Table;", true)
  | 1 => ("LastWordHill$Law", "code", "[I", true)
  | 2 => ("LastWordHill$Law", "stack", "[I", true)
  | _ => ("LastWordHill$Law", "size", "I", false)
def ny1 : Nat → FieldType := fun k => match k with
  | 0 => .object "LastWordHill$Table"
  | 1 => .array .int
  | 2 => .array .int
  | _ => .int
theorem nN1 : ∀ a, a < 4 → ∀ b, b < 4 → a ≠ b → (nT1 a).2.1 ≠ (nT1 b).2.1 := by decide +kernel
theorem nY1 : ∀ k, k < 4 → parseFieldDescriptor (nT1 k).2.2.1 = some (ny1 k) := by decide +kernel
def nR2 : String := "LastWordHill$Muse"
def nT2 : u_T := fun k => match k with
  | 0 => ("LastWordHill$Muse", "texts", "LLastWordHill$Texts;", true)
  | 1 => ("LastWordHill$Muse", "told", "LLastWordHill$Told;", true)
  | 2 => ("LastWordHill$Muse", "far", "[I", true)
  | 3 => ("LastWordHill$Muse", "order", "[I", true)
  | 4 => ("LastWordHill$Muse", "bestOrder", "[I", true)
  | 5 => ("LastWordHill$Muse", "nim", "[I", true)
  | 6 => ("LastWordHill$Muse", "most", "I", false)
  | 7 => ("LastWordHill$Muse", "fewest", "I", false)
  | _ => ("LastWordHill$Muse", "leastSet", "I", false)
def ny2 : Nat → FieldType := fun k => match k with
  | 0 => .object "LastWordHill$Texts"
  | 1 => .object "LastWordHill$Told"
  | 2 => .array .int
  | 3 => .array .int
  | 4 => .array .int
  | 5 => .array .int
  | 6 => .int
  | 7 => .int
  | _ => .int
theorem nN2 : ∀ a, a < 9 → ∀ b, b < 9 → a ≠ b → (nT2 a).2.1 ≠ (nT2 b).2.1 := by decide +kernel
theorem nY2 : ∀ k, k < 9 → parseFieldDescriptor (nT2 k).2.2.1 = some (ny2 k) := by decide +kernel
def nR3 : String := "LastWordHill$Past"
def nT3 : u_T := fun k => match k with
  | 0 => ("LastWordHill$Past", "scenes", "[LLastWordHill$Scene;", true)
  | 1 => ("LastWordHill$Past", "first", "I", false)
  | _ => ("LastWordHill$Past", "count", "I", false)
def ny3 : Nat → FieldType := fun k => match k with
  | 0 => .array (.object "LastWordHill$Scene")
  | 1 => .int
  | _ => .int
theorem nN3 : ∀ a, a < 3 → ∀ b, b < 3 → a ≠ b → (nT3 a).2.1 ≠ (nT3 b).2.1 := by decide +kernel
theorem nY3 : ∀ k, k < 3 → parseFieldDescriptor (nT3 k).2.2.1 = some (ny3 k) := by decide +kernel
def nR4 : String := "LastWordHill$Reader"
def nT4 : u_T := fun k => match k with
  | 0 => ("LastWordHill$Reader", "tokens", "LLastWordHill$Tokens;", true)
  | 1 => ("LastWordHill$Reader", "draft", "LLastWordHill$Texts;", true)
  | 2 => ("LastWordHill$Reader", "waiting", "[I", true)
  | 3 => ("LastWordHill$Reader", "fault", "I", false)
  | 4 => ("LastWordHill$Reader", "faultPlace", "I", false)
  | 5 => ("LastWordHill$Reader", "got", "I", false)
  | 6 => ("LastWordHill$Reader", "waits", "I", false)
  | _ => ("LastWordHill$Reader", "open", "I", false)
def ny4 : Nat → FieldType := fun k => match k with
  | 0 => .object "LastWordHill$Tokens"
  | 1 => .object "LastWordHill$Texts"
  | 2 => .array .int
  | 3 => .int
  | 4 => .int
  | 5 => .int
  | 6 => .int
  | _ => .int
theorem nN4 : ∀ a, a < 8 → ∀ b, b < 8 → a ≠ b → (nT4 a).2.1 ≠ (nT4 b).2.1 := by decide +kernel
theorem nY4 : ∀ k, k < 8 → parseFieldDescriptor (nT4 k).2.2.1 = some (ny4 k) := by decide +kernel
def nR5 : String := "LastWordHill$Scene"
def nT5 : u_T := fun k => match k with
  | 0 => ("LastWordHill$Scene", "rows", "[I", true)
  | 1 => ("LastWordHill$Scene", "people", "I", false)
  | 2 => ("LastWordHill$Scene", "word", "I", false)
  | 3 => ("LastWordHill$Scene", "wordBy", "I", false)
  | 4 => ("LastWordHill$Scene", "last", "I", false)
  | 5 => ("LastWordHill$Scene", "lastBy", "I", false)
  | 6 => ("LastWordHill$Scene", "asked", "I", false)
  | 7 => ("LastWordHill$Scene", "right", "I", false)
  | 8 => ("LastWordHill$Scene", "sunset", "I", false)
  | 9 => ("LastWordHill$Scene", "minute", "I", false)
  | 10 => ("LastWordHill$Scene", "day", "I", false)
  | 11 => ("LastWordHill$Scene", "draws", "I", false)
  | _ => ("LastWordHill$Scene", "lines", "I", false)
def ny5 : Nat → FieldType := fun k => match k with
  | 0 => .array .int
  | 1 => .int
  | 2 => .int
  | 3 => .int
  | 4 => .int
  | 5 => .int
  | 6 => .int
  | 7 => .int
  | 8 => .int
  | 9 => .int
  | 10 => .int
  | 11 => .int
  | _ => .int
theorem nN5 : ∀ a, a < 13 → ∀ b, b < 13 → a ≠ b → (nT5 a).2.1 ≠ (nT5 b).2.1 := by decide +kernel
theorem nY5 : ∀ k, k < 13 → parseFieldDescriptor (nT5 k).2.2.1 = some (ny5 k) := by decide +kernel
def nR6 : String := "LastWordHill$Sun"
def nT6 : u_T := fun k => match k with
  | 0 => ("LastWordHill$Sun", "texts", "LLastWordHill$Texts;", true)
  | _ => ("LastWordHill$Sun", "written", "LLastWordHill$Table;", true)
def ny6 : Nat → FieldType := fun k => match k with
  | 0 => .object "LastWordHill$Texts"
  | _ => .object "LastWordHill$Table"
theorem nN6 : ∀ a, a < 2 → ∀ b, b < 2 → a ≠ b → (nT6 a).2.1 ≠ (nT6 b).2.1 := by decide +kernel
theorem nY6 : ∀ k, k < 2 → parseFieldDescriptor (nT6 k).2.2.1 = some (ny6 k) := by decide +kernel
def nR7 : String := "LastWordHill$Table"
def nT7 : u_T := fun k => match k with
  | 0 => ("LastWordHill$Table", "width", "I", true)
  | 1 => ("LastWordHill$Table", "limit", "I", true)
  | 2 => ("LastWordHill$Table", "cells", "[I", true)
  | _ => ("LastWordHill$Table", "count", "I", false)
def ny7 : Nat → FieldType := fun k => match k with
  | 0 => .int
  | 1 => .int
  | 2 => .array .int
  | _ => .int
theorem nN7 : ∀ a, a < 4 → ∀ b, b < 4 → a ≠ b → (nT7 a).2.1 ≠ (nT7 b).2.1 := by decide +kernel
theorem nY7 : ∀ k, k < 4 → parseFieldDescriptor (nT7 k).2.2.1 = some (ny7 k) := by decide +kernel
def nR8 : String := "LastWordHill$Texts"
def nT8 : u_T := fun k => match k with
  | 0 => ("LastWordHill$Texts", "law", "LLastWordHill$Law;", true)
  | 1 => ("LastWordHill$Texts", "climbs", "LLastWordHill$Table;", true)
  | 2 => ("LastWordHill$Texts", "suns", "LLastWordHill$Table;", true)
  | 3 => ("LastWordHill$Texts", "answers", "[I", true)
  | _ => ("LastWordHill$Texts", "suitLines", "I", false)
def ny8 : Nat → FieldType := fun k => match k with
  | 0 => .object "LastWordHill$Law"
  | 1 => .object "LastWordHill$Table"
  | 2 => .object "LastWordHill$Table"
  | 3 => .array .int
  | _ => .int
theorem nN8 : ∀ a, a < 5 → ∀ b, b < 5 → a ≠ b → (nT8 a).2.1 ≠ (nT8 b).2.1 := by decide +kernel
theorem nY8 : ∀ k, k < 5 → parseFieldDescriptor (nT8 k).2.2.1 = some (ny8 k) := by decide +kernel
def nR9 : String := "LastWordHill$Tokens"
def nT9 : u_T := fun k => match k with
  | 0 => ("LastWordHill$Tokens", "tape", "[I", true)
  | 1 => ("LastWordHill$Tokens", "kinds", "[I", true)
  | 2 => ("LastWordHill$Tokens", "places", "[I", true)
  | 3 => ("LastWordHill$Tokens", "values", "[I", true)
  | 4 => ("LastWordHill$Tokens", "length", "I", false)
  | 5 => ("LastWordHill$Tokens", "count", "I", false)
  | 6 => ("LastWordHill$Tokens", "current", "I", false)
  | 7 => ("LastWordHill$Tokens", "kind", "I", false)
  | 8 => ("LastWordHill$Tokens", "place", "I", false)
  | _ => ("LastWordHill$Tokens", "value", "I", false)
def ny9 : Nat → FieldType := fun k => match k with
  | 0 => .array .int
  | 1 => .array .int
  | 2 => .array .int
  | 3 => .array .int
  | 4 => .int
  | 5 => .int
  | 6 => .int
  | 7 => .int
  | 8 => .int
  | _ => .int
theorem nN9 : ∀ a, a < 10 → ∀ b, b < 10 → a ≠ b → (nT9 a).2.1 ≠ (nT9 b).2.1 := by decide +kernel
theorem nY9 : ∀ k, k < 10 → parseFieldDescriptor (nT9 k).2.2.1 = some (ny9 k) := by decide +kernel
def nR10 : String := "LastWordHill$Told"
def nT10 : u_T := fun k => match k with
  | 0 => ("LastWordHill$Told", "answers", "LLastWordHill$Table;", true)
  | 1 => ("LastWordHill$Told", "watches", "LLastWordHill$Table;", true)
  | 2 => ("LastWordHill$Told", "steps", "LLastWordHill$Table;", true)
  | 3 => ("LastWordHill$Told", "spelled", "LLastWordHill$Table;", true)
  | 4 => ("LastWordHill$Told", "speakers", "LLastWordHill$Table;", true)
  | 5 => ("LastWordHill$Told", "shouts", "LLastWordHill$Table;", true)
  | 6 => ("LastWordHill$Told", "worths", "LLastWordHill$Table;", true)
  | 7 => ("LastWordHill$Told", "times", "I", false)
  | 8 => ("LastWordHill$Told", "more", "I", false)
  | _ => ("LastWordHill$Told", "modulus", "I", false)
def ny10 : Nat → FieldType := fun k => match k with
  | 0 => .object "LastWordHill$Table"
  | 1 => .object "LastWordHill$Table"
  | 2 => .object "LastWordHill$Table"
  | 3 => .object "LastWordHill$Table"
  | 4 => .object "LastWordHill$Table"
  | 5 => .object "LastWordHill$Table"
  | 6 => .object "LastWordHill$Table"
  | 7 => .int
  | 8 => .int
  | _ => .int
theorem nN10 : ∀ a, a < 10 → ∀ b, b < 10 → a ≠ b → (nT10 a).2.1 ≠ (nT10 b).2.1 := by decide +kernel
theorem nY10 : ∀ k, k < 10 → parseFieldDescriptor (nT10 k).2.2.1 = some (ny10 k) := by decide +kernel
def nR11 : String := "LastWordHill"
def nT11 : u_T := fun k => match k with
  | 0 => ("LastWordHill", "now", "LLastWordHill$Scene;", true)
  | 1 => ("LastWordHill", "thought", "LLastWordHill$Scene;", true)
  | 2 => ("LastWordHill", "past", "LLastWordHill$Past;", true)
  | 3 => ("LastWordHill", "texts", "LLastWordHill$Texts;", true)
  | 4 => ("LastWordHill", "reader", "LLastWordHill$Reader;", true)
  | 5 => ("LastWordHill", "told", "LLastWordHill$Told;", true)
  | 6 => ("LastWordHill", "written", "LLastWordHill$Table;", true)
  | 7 => ("LastWordHill", "sun", "LLastWordHill$Sun;", true)
  | 8 => ("LastWordHill", "muse", "LLastWordHill$Muse;", true)
  | _ => ("LastWordHill", "kept", "LLastWordHill$Image;", true)
def ny11 : Nat → FieldType := fun k => match k with
  | 0 => .object "LastWordHill$Scene"
  | 1 => .object "LastWordHill$Scene"
  | 2 => .object "LastWordHill$Past"
  | 3 => .object "LastWordHill$Texts"
  | 4 => .object "LastWordHill$Reader"
  | 5 => .object "LastWordHill$Told"
  | 6 => .object "LastWordHill$Table"
  | 7 => .object "LastWordHill$Sun"
  | 8 => .object "LastWordHill$Muse"
  | _ => .object "LastWordHill$Image"
theorem nN11 : ∀ a, a < 10 → ∀ b, b < 10 → a ≠ b → (nT11 a).2.1 ≠ (nT11 b).2.1 := by decide +kernel
theorem nY11 : ∀ k, k < 10 → parseFieldDescriptor (nT11 k).2.2.1 = some (ny11 k) := by decide +kernel
def nR12 : String := "LastWordHillModel"
def nT12 : u_T := fun k => match k with
  | 0 => ("LastWordHillModel", "told", "I", false)
  | 1 => ("LastWordHillModel", "now", "[I", true)
  | 2 => ("LastWordHillModel", "rows", "[I", true)
  | 3 => ("LastWordHillModel", "undoable", "I", false)
  | 4 => ("LastWordHillModel", "waiting", "[I", true)
  | 5 => ("LastWordHillModel", "isThought", "Z", false)
  | 6 => ("LastWordHillModel", "people", "I", false)
  | 7 => ("LastWordHillModel", "voice", "[I", true)
  | 8 => ("LastWordHillModel", "legs", "[I", true)
  | 9 => ("LastWordHillModel", "party", "[I", true)
  | 10 => ("LastWordHillModel", "book", "[I", true)
  | 11 => ("LastWordHillModel", "tape", "[I", true)
  | 12 => ("LastWordHillModel", "taped", "I", false)
  | 13 => ("LastWordHillModel", "spot", "I", false)
  | 14 => ("LastWordHillModel", "from", "I", false)
  | 15 => ("LastWordHillModel", "token", "I", false)
  | 16 => ("LastWordHillModel", "value", "I", false)
  | 17 => ("LastWordHillModel", "words", "[I", true)
  | 18 => ("LastWordHillModel", "lineMany", "[I", true)
  | 19 => ("LastWordHillModel", "lineWord", "[I", true)
  | 20 => ("LastWordHillModel", "lineFrom", "[I", true)
  | 21 => ("LastWordHillModel", "lineWhen", "[I", true)
  | 22 => ("LastWordHillModel", "lineTo", "[I", true)
  | 23 => ("LastWordHillModel", "op", "[I", true)
  | 24 => ("LastWordHillModel", "arg", "[I", true)
  | 25 => ("LastWordHillModel", "which", "I", false)
  | 26 => ("LastWordHillModel", "codes", "I", false)
  | 27 => ("LastWordHillModel", "open", "I", false)
  | 28 => ("LastWordHillModel", "pending", "[I", true)
  | 29 => ("LastWordHillModel", "pendings", "I", false)
  | 30 => ("LastWordHillModel", "readFault", "I", false)
  | 31 => ("LastWordHillModel", "readPlace", "I", false)
  | 32 => ("LastWordHillModel", "faultKind", "I", false)
  | 33 => ("LastWordHillModel", "faultPlace", "I", false)
  | 34 => ("LastWordHillModel", "climbMany", "I", false)
  | 35 => ("LastWordHillModel", "climbs", "[I", true)
  | 36 => ("LastWordHillModel", "sunMany", "I", false)
  | 37 => ("LastWordHillModel", "suns", "[I", true)
  | 38 => ("LastWordHillModel", "suitMany", "I", false)
  | 39 => ("LastWordHillModel", "suits", "[I", true)
  | 40 => ("LastWordHillModel", "asked", "[I", true)
  | 41 => ("LastWordHillModel", "stack", "[I", true)
  | 42 => ("LastWordHillModel", "fewest", "[I", true)
  | 43 => ("LastWordHillModel", "answerMany", "I", false)
  | 44 => ("LastWordHillModel", "answerTo", "[I", true)
  | 45 => ("LastWordHillModel", "answerRight", "[I", true)
  | 46 => ("LastWordHillModel", "watchMany", "I", false)
  | 47 => ("LastWordHillModel", "watchFrom", "[I", true)
  | 48 => ("LastWordHillModel", "watchTo", "[I", true)
  | 49 => ("LastWordHillModel", "stepMany", "I", false)
  | 50 => ("LastWordHillModel", "stepUp", "[I", true)
  | 51 => ("LastWordHillModel", "letterMany", "[I", true)
  | 52 => ("LastWordHillModel", "letters", "[I", true)
  | 53 => ("LastWordHillModel", "speakerMany", "I", false)
  | 54 => ("LastWordHillModel", "speaks", "[I", true)
  | 55 => ("LastWordHillModel", "patience", "[I", true)
  | 56 => ("LastWordHillModel", "order", "[I", true)
  | 57 => ("LastWordHillModel", "bestOrder", "[I", true)
  | 58 => ("LastWordHillModel", "ruleBut", "I", false)
  | 59 => ("LastWordHillModel", "ruleB", "I", false)
  | 60 => ("LastWordHillModel", "ruleUnder", "I", false)
  | 61 => ("LastWordHillModel", "been", "[I", true)
  | 62 => ("LastWordHillModel", "priceMany", "I", false)
  | 63 => ("LastWordHillModel", "shouts", "[I", true)
  | 64 => ("LastWordHillModel", "worthOf", "[I", true)
  | 65 => ("LastWordHillModel", "nimbers", "[I", true)
  | 66 => ("LastWordHillModel", "isTaking", "Z", false)
  | 67 => ("LastWordHillModel", "hasImage", "Z", false)
  | 68 => ("LastWordHillModel", "keptAt", "I", false)
  | _ => ("LastWordHillModel", "images", "[I", true)
def ny12 : Nat → FieldType := fun k => match k with
  | 0 => .int
  | 1 => .array .int
  | 2 => .array .int
  | 3 => .int
  | 4 => .array .int
  | 5 => .boolean
  | 6 => .int
  | 7 => .array .int
  | 8 => .array .int
  | 9 => .array .int
  | 10 => .array .int
  | 11 => .array .int
  | 12 => .int
  | 13 => .int
  | 14 => .int
  | 15 => .int
  | 16 => .int
  | 17 => .array .int
  | 18 => .array .int
  | 19 => .array .int
  | 20 => .array .int
  | 21 => .array .int
  | 22 => .array .int
  | 23 => .array .int
  | 24 => .array .int
  | 25 => .int
  | 26 => .int
  | 27 => .int
  | 28 => .array .int
  | 29 => .int
  | 30 => .int
  | 31 => .int
  | 32 => .int
  | 33 => .int
  | 34 => .int
  | 35 => .array .int
  | 36 => .int
  | 37 => .array .int
  | 38 => .int
  | 39 => .array .int
  | 40 => .array .int
  | 41 => .array .int
  | 42 => .array .int
  | 43 => .int
  | 44 => .array .int
  | 45 => .array .int
  | 46 => .int
  | 47 => .array .int
  | 48 => .array .int
  | 49 => .int
  | 50 => .array .int
  | 51 => .array .int
  | 52 => .array .int
  | 53 => .int
  | 54 => .array .int
  | 55 => .array .int
  | 56 => .array .int
  | 57 => .array .int
  | 58 => .int
  | 59 => .int
  | 60 => .int
  | 61 => .array .int
  | 62 => .int
  | 63 => .array .int
  | 64 => .array .int
  | 65 => .array .int
  | 66 => .boolean
  | 67 => .boolean
  | 68 => .int
  | _ => .array .int
theorem nN12 : ∀ a, a < 70 → ∀ b, b < 70 → a ≠ b → (nT12 a).2.1 ≠ (nT12 b).2.1 := by decide +kernel
theorem nY12 : ∀ k, k < 70 → parseFieldDescriptor (nT12 k).2.2.1 = some (ny12 k) := by decide +kernel
abbrev hz_cl : List vw_C := [(nR0, nT0, 5), (nR1, nT1, 4), (nR2, nT2, 9), (nR3, nT3, 3), (nR4, nT4, 8), (nR5, nT5, 13), (nR6, nT6, 2), (nR7, nT7, 4), (nR8, nT8, 5), (nR9, nT9, 10), (nR10, nT10, 10), (nR11, nT11, 10), (nR12, nT12, 70)]
def hz_wt : List Cond := lw_tbl.filter goodWord
theorem hz_in {w : Cond} (i : Nat) (h : lw_tbl[i]? = some w) (g : goodWord w = true) : w ∈ hz_wt := List.mem_filter.mpr ⟨List.mem_of_getElem? h, g⟩
theorem nL0 : ∀ w ∈ u_ws nR0 nT0 5, w ∈ hz_wt := by
  intro w hw
  obtain ⟨k, hk, rfl⟩ := List.mem_map.mp hw
  have hk := List.mem_range.mp hk
  refine hz_in (([542, 544, 546, 548, 550] : List Nat).getD k 0) ?_ ?_
  · revert k; decide +kernel
  · revert k; decide +kernel
theorem nL1 : ∀ w ∈ u_ws nR1 nT1 4, w ∈ hz_wt := by
  intro w hw
  obtain ⟨k, hk, rfl⟩ := List.mem_map.mp hw
  have hk := List.mem_range.mp hk
  refine hz_in (([298, 300, 302, 304] : List Nat).getD k 0) ?_ ?_
  · revert k; decide +kernel
  · revert k; decide +kernel
theorem nL2 : ∀ w ∈ u_ws nR2 nT2 9, w ∈ hz_wt := by
  intro w hw
  obtain ⟨k, hk, rfl⟩ := List.mem_map.mp hw
  have hk := List.mem_range.mp hk
  refine hz_in (([503, 505, 507, 509, 511, 513, 515, 517, 519] : List Nat).getD k 0) ?_ ?_
  · revert k; decide +kernel
  · revert k; decide +kernel
theorem nL3 : ∀ w ∈ u_ws nR3 nT3 3, w ∈ hz_wt := by
  intro w hw
  obtain ⟨k, hk, rfl⟩ := List.mem_map.mp hw
  have hk := List.mem_range.mp hk
  refine hz_in (([245, 247, 249] : List Nat).getD k 0) ?_ ?_
  · revert k; decide +kernel
  · revert k; decide +kernel
theorem nL4 : ∀ w ∈ u_ws nR4 nT4 8, w ∈ hz_wt := by
  intro w hw
  obtain ⟨k, hk, rfl⟩ := List.mem_map.mp hw
  have hk := List.mem_range.mp hk
  refine hz_in (([395, 397, 399, 401, 403, 405, 407, 409] : List Nat).getD k 0) ?_ ?_
  · revert k; decide +kernel
  · revert k; decide +kernel
theorem nL5 : ∀ w ∈ u_ws nR5 nT5 13, w ∈ hz_wt := by
  intro w hw
  obtain ⟨k, hk, rfl⟩ := List.mem_map.mp hw
  have hk := List.mem_range.mp hk
  refine hz_in (([204, 206, 208, 210, 212, 214, 216, 218, 220, 222, 224, 226, 228] : List Nat).getD k 0) ?_ ?_
  · revert k; decide +kernel
  · revert k; decide +kernel
theorem nL6 : ∀ w ∈ u_ws nR6 nT6 2, w ∈ hz_wt := by
  intro w hw
  obtain ⟨k, hk, rfl⟩ := List.mem_map.mp hw
  have hk := List.mem_range.mp hk
  refine hz_in (([481, 483] : List Nat).getD k 0) ?_ ?_
  · revert k; decide +kernel
  · revert k; decide +kernel
theorem nL7 : ∀ w ∈ u_ws nR7 nT7 4, w ∈ hz_wt := by
  intro w hw
  obtain ⟨k, hk, rfl⟩ := List.mem_map.mp hw
  have hk := List.mem_range.mp hk
  refine hz_in (([282, 284, 286, 288] : List Nat).getD k 0) ?_ ?_
  · revert k; decide +kernel
  · revert k; decide +kernel
theorem nL8 : ∀ w ∈ u_ws nR8 nT8 5, w ∈ hz_wt := by
  intro w hw
  obtain ⟨k, hk, rfl⟩ := List.mem_map.mp hw
  have hk := List.mem_range.mp hk
  refine hz_in (([322, 324, 326, 328, 330] : List Nat).getD k 0) ?_ ?_
  · revert k; decide +kernel
  · revert k; decide +kernel
theorem nL9 : ∀ w ∈ u_ws nR9 nT9 10, w ∈ hz_wt := by
  intro w hw
  obtain ⟨k, hk, rfl⟩ := List.mem_map.mp hw
  have hk := List.mem_range.mp hk
  refine hz_in (([360, 362, 364, 366, 368, 370, 372, 374, 376, 378] : List Nat).getD k 0) ?_ ?_
  · revert k; decide +kernel
  · revert k; decide +kernel
theorem nL10 : ∀ w ∈ u_ws nR10 nT10 10, w ∈ hz_wt := by
  intro w hw
  obtain ⟨k, hk, rfl⟩ := List.mem_map.mp hw
  have hk := List.mem_range.mp hk
  refine hz_in (([450, 452, 454, 456, 458, 460, 462, 464, 466, 468] : List Nat).getD k 0) ?_ ?_
  · revert k; decide +kernel
  · revert k; decide +kernel
theorem nL11 : ∀ w ∈ u_ws nR11 nT11 10, w ∈ hz_wt := by
  intro w hw
  obtain ⟨k, hk, rfl⟩ := List.mem_map.mp hw
  have hk := List.mem_range.mp hk
  refine hz_in (([563, 565, 567, 569, 571, 573, 575, 577, 579, 581] : List Nat).getD k 0) ?_ ?_
  · revert k; decide +kernel
  · revert k; decide +kernel
theorem nL12 : ∀ w ∈ u_ws nR12 nT12 70, w ∈ hz_wt := by
  intro w hw
  obtain ⟨k, hk, rfl⟩ := List.mem_map.mp hw
  have hk := List.mem_range.mp hk
  refine hz_in (([1482, 1484, 1486, 1488, 1490, 1492, 1494, 1496, 1498, 1500, 1502, 1504, 1506, 1508, 1510, 1512, 1514, 1516, 1518, 1520, 1522, 1524, 1526, 1528, 1530, 1532, 1534, 1536, 1538, 1540, 1542, 1544, 1546, 1548, 1550, 1552, 1554, 1556, 1558, 1560, 1562, 1564, 1566, 1568, 1570, 1572, 1574, 1576, 1578, 1580, 1582, 1584, 1586, 1588, 1590, 1592, 1594, 1596, 1598, 1600, 1602, 1604, 1606, 1608, 1610, 1612, 1614, 1616, 1618, 1620] : List Nat).getD k 0) ?_ ?_
  · revert k; decide +kernel
  · revert k; decide +kernel
/-! the objects: 142, by their numbers in the order in which they are made; kinds 0..12 the classes, 13 int[], 14 Scene[] -/
def hz_kdL : List Nat := [11, 5, 13, 5, 13, 3, 14, 5, 13, 5, 13, 5, 13, 5, 13, 5, 13, 5, 13, 8, 1, 7, 13, 13, 13, 7, 13, 7, 13, 13, 4, 9, 13, 13, 13, 13, 8, 1, 7, 13, 13, 13, 7, 13, 7, 13, 13, 13, 10, 7, 13, 7, 13, 7, 13, 7, 13, 7, 13, 7, 13, 7, 13, 7, 13, 6, 2, 13, 13, 13, 13, 0, 5, 13, 8, 1, 7, 13, 13, 13, 7, 13, 7, 13, 13, 10, 7, 13, 7, 13, 7, 13, 7, 13, 7, 13, 7, 13, 7, 13, 7, 13, 12, 13, 13, 13, 13, 13, 13, 13, 13, 13, 13, 13, 13, 13, 13, 13, 13, 13, 13, 13, 13, 13, 13, 13, 13, 13, 13, 13, 13, 13, 13, 13, 13, 13, 13, 13, 13, 13, 13, 13]
def hz_lnL : List Nat := [0, 0, 80, 0, 80, 0, 6, 0, 80, 0, 80, 0, 80, 0, 80, 0, 80, 0, 80, 0, 0, 0, 64, 400, 64, 0, 64, 0, 32, 20, 0, 0, 400, 401, 401, 401, 0, 0, 0, 64, 400, 64, 0, 64, 0, 32, 20, 27, 0, 0, 20, 0, 18, 0, 48, 0, 16, 0, 12, 0, 12, 0, 4, 0, 750, 0, 0, 10, 6, 6, 100, 0, 0, 80, 0, 0, 0, 64, 400, 64, 0, 64, 0, 32, 20, 0, 0, 20, 0, 18, 0, 48, 0, 16, 0, 12, 0, 12, 0, 4, 0, 750, 0, 50, 300, 50, 10, 10, 10, 750, 400, 122, 2, 48, 48, 48, 48, 1200, 1200, 40, 128, 64, 40, 9, 420, 21504, 10, 10, 9, 9, 200, 8, 40, 6, 6, 6, 6, 1000, 12, 4, 100, 2300]
def hz_rfL : List (List Nat) := [[1, 3, 5, 19, 30, 48, 63, 65, 66, 71], [2], [], [4], [], [6], [7, 9, 11, 13, 15, 17], [8], [], [10], [], [12], [], [14], [], [16], [], [18], [], [20, 25, 27, 29], [21, 23, 24], [0, 0, 22], [], [], [], [0, 0, 26], [], [0, 0, 28], [], [], [31, 36, 47], [32, 33, 34, 35], [], [], [], [], [37, 42, 44, 46], [38, 40, 41], [0, 0, 39], [], [], [], [0, 0, 43], [], [0, 0, 45], [], [], [], [49, 51, 53, 55, 57, 59, 61], [0, 0, 50], [], [0, 0, 52], [], [0, 0, 54], [], [0, 0, 56], [], [0, 0, 58], [], [0, 0, 60], [], [0, 0, 62], [], [0, 0, 64], [], [19, 63], [19, 48, 67, 68, 69, 70], [], [], [], [], [72, 74, 85, 100], [73], [], [75, 80, 82, 84], [76, 78, 79], [0, 0, 77], [], [], [], [0, 0, 81], [], [0, 0, 83], [], [], [86, 88, 90, 92, 94, 96, 98], [0, 0, 87], [], [0, 0, 89], [], [0, 0, 91], [], [0, 0, 93], [], [0, 0, 95], [], [0, 0, 97], [], [0, 0, 99], [], [0, 0, 101], [], [0, 103, 104, 0, 105, 0, 0, 106, 107, 108, 109, 110, 0, 0, 0, 0, 0, 111, 112, 113, 114, 115, 116, 117, 118, 0, 0, 0, 119, 0, 0, 0, 0, 0, 0, 120, 0, 121, 0, 122, 123, 124, 125, 0, 126, 127, 0, 128, 129, 0, 130, 131, 132, 0, 133, 134, 135, 136, 0, 0, 0, 137, 0, 138, 139, 140, 0, 0, 0, 141], [], [], [], [], [], [], [], [], [], [], [], [], [], [], [], [], [], [], [], [], [], [], [], [], [], [], [], [], [], [], [], [], [], [], [], [], [], [], []]
def hz_bsL : List (List Bool) := [[true, true, true, true, false], [true, true, true, false], [true, true, true, true, true, true, false, false, false], [true, false, false], [true, true, true, false, false, false, false, false], [true, false, false, false, false, false, false, false, false, false, false, false, false], [true, true], [false, false, true, false], [true, true, true, true, false], [true, true, true, true, false, false, false, false, false, false], [true, true, true, true, true, true, true, false, false, false], [true, true, true, true, true, true, true, true, true, true], [false, true, true, false, true, false, false, true, true, true, true, true, false, false, false, false, false, true, true, true, true, true, true, true, true, false, false, false, true, false, false, false, false, false, false, true, false, true, false, true, true, true, true, false, true, true, false, true, true, false, true, true, true, false, true, true, true, true, false, false, false, true, false, true, true, true, false, false, false, true]]
def hz_kd (o : Nat) : Nat := hz_kdL.getD o 99
def hz_ln (o : Nat) : Nat := hz_lnL.getD o 0
def hz_rf (o j : Nat) : Nat := (hz_rfL.getD o []).getD j 0
def hz_bs (k : Nat) : List Bool := hz_bsL.getD k []
abbrev hz_NO : Nat := 142
theorem hz_dec {P : Nat → Prop} (h : ∀ o, o < 142 → P o) (hn : ∀ o, hz_kdL[o]? = none → P o) (o : Nat) : P o := by
  by_cases ho : o < 142
  · exact h o ho
  · exact hn o (List.getElem?_eq_none (by have : hz_kdL.length = 142 := by decide +kernel
                                          omega))
theorem sk_0_0 {o : Nat} (h : hz_kd o = 0) : hz_kd (hz_rf o 0) = 5 := hz_dec (P := fun o => hz_kd o = 0 → hz_kd (hz_rf o 0) = 5) (by decide +kernel) (fun o ho h => by simp [hz_kd, List.getD, ho] at h) o h
theorem sk_0_1 {o : Nat} (h : hz_kd o = 0) : hz_kd (hz_rf o 1) = 8 := hz_dec (P := fun o => hz_kd o = 0 → hz_kd (hz_rf o 1) = 8) (by decide +kernel) (fun o ho h => by simp [hz_kd, List.getD, ho] at h) o h
theorem sk_0_2 {o : Nat} (h : hz_kd o = 0) : hz_kd (hz_rf o 2) = 10 := hz_dec (P := fun o => hz_kd o = 0 → hz_kd (hz_rf o 2) = 10) (by decide +kernel) (fun o ho h => by simp [hz_kd, List.getD, ho] at h) o h
theorem sk_0_3 {o : Nat} (h : hz_kd o = 0) : hz_kd (hz_rf o 3) = 7 := hz_dec (P := fun o => hz_kd o = 0 → hz_kd (hz_rf o 3) = 7) (by decide +kernel) (fun o ho h => by simp [hz_kd, List.getD, ho] at h) o h
theorem sk_1_0 {o : Nat} (h : hz_kd o = 1) : hz_kd (hz_rf o 0) = 7 := hz_dec (P := fun o => hz_kd o = 1 → hz_kd (hz_rf o 0) = 7) (by decide +kernel) (fun o ho h => by simp [hz_kd, List.getD, ho] at h) o h
theorem sk_1_1 {o : Nat} (h : hz_kd o = 1) : hz_kd (hz_rf o 1) = 13 := hz_dec (P := fun o => hz_kd o = 1 → hz_kd (hz_rf o 1) = 13) (by decide +kernel) (fun o ho h => by simp [hz_kd, List.getD, ho] at h) o h
theorem sl_1_1 {o : Nat} (h : hz_kd o = 1) : hz_ln (hz_rf o 1) = 400 := hz_dec (P := fun o => hz_kd o = 1 → hz_ln (hz_rf o 1) = 400) (by decide +kernel) (fun o ho h => by simp [hz_kd, List.getD, ho] at h) o h
theorem sk_1_2 {o : Nat} (h : hz_kd o = 1) : hz_kd (hz_rf o 2) = 13 := hz_dec (P := fun o => hz_kd o = 1 → hz_kd (hz_rf o 2) = 13) (by decide +kernel) (fun o ho h => by simp [hz_kd, List.getD, ho] at h) o h
theorem sl_1_2 {o : Nat} (h : hz_kd o = 1) : hz_ln (hz_rf o 2) = 64 := hz_dec (P := fun o => hz_kd o = 1 → hz_ln (hz_rf o 2) = 64) (by decide +kernel) (fun o ho h => by simp [hz_kd, List.getD, ho] at h) o h
theorem sk_2_0 {o : Nat} (h : hz_kd o = 2) : hz_kd (hz_rf o 0) = 8 := hz_dec (P := fun o => hz_kd o = 2 → hz_kd (hz_rf o 0) = 8) (by decide +kernel) (fun o ho h => by simp [hz_kd, List.getD, ho] at h) o h
theorem sk_2_1 {o : Nat} (h : hz_kd o = 2) : hz_kd (hz_rf o 1) = 10 := hz_dec (P := fun o => hz_kd o = 2 → hz_kd (hz_rf o 1) = 10) (by decide +kernel) (fun o ho h => by simp [hz_kd, List.getD, ho] at h) o h
theorem sk_2_2 {o : Nat} (h : hz_kd o = 2) : hz_kd (hz_rf o 2) = 13 := hz_dec (P := fun o => hz_kd o = 2 → hz_kd (hz_rf o 2) = 13) (by decide +kernel) (fun o ho h => by simp [hz_kd, List.getD, ho] at h) o h
theorem sl_2_2 {o : Nat} (h : hz_kd o = 2) : hz_ln (hz_rf o 2) = 10 := hz_dec (P := fun o => hz_kd o = 2 → hz_ln (hz_rf o 2) = 10) (by decide +kernel) (fun o ho h => by simp [hz_kd, List.getD, ho] at h) o h
theorem sk_2_3 {o : Nat} (h : hz_kd o = 2) : hz_kd (hz_rf o 3) = 13 := hz_dec (P := fun o => hz_kd o = 2 → hz_kd (hz_rf o 3) = 13) (by decide +kernel) (fun o ho h => by simp [hz_kd, List.getD, ho] at h) o h
theorem sl_2_3 {o : Nat} (h : hz_kd o = 2) : hz_ln (hz_rf o 3) = 6 := hz_dec (P := fun o => hz_kd o = 2 → hz_ln (hz_rf o 3) = 6) (by decide +kernel) (fun o ho h => by simp [hz_kd, List.getD, ho] at h) o h
theorem sk_2_4 {o : Nat} (h : hz_kd o = 2) : hz_kd (hz_rf o 4) = 13 := hz_dec (P := fun o => hz_kd o = 2 → hz_kd (hz_rf o 4) = 13) (by decide +kernel) (fun o ho h => by simp [hz_kd, List.getD, ho] at h) o h
theorem sl_2_4 {o : Nat} (h : hz_kd o = 2) : hz_ln (hz_rf o 4) = 6 := hz_dec (P := fun o => hz_kd o = 2 → hz_ln (hz_rf o 4) = 6) (by decide +kernel) (fun o ho h => by simp [hz_kd, List.getD, ho] at h) o h
theorem sk_2_5 {o : Nat} (h : hz_kd o = 2) : hz_kd (hz_rf o 5) = 13 := hz_dec (P := fun o => hz_kd o = 2 → hz_kd (hz_rf o 5) = 13) (by decide +kernel) (fun o ho h => by simp [hz_kd, List.getD, ho] at h) o h
theorem sl_2_5 {o : Nat} (h : hz_kd o = 2) : hz_ln (hz_rf o 5) = 100 := hz_dec (P := fun o => hz_kd o = 2 → hz_ln (hz_rf o 5) = 100) (by decide +kernel) (fun o ho h => by simp [hz_kd, List.getD, ho] at h) o h
theorem sk_3_0 {o : Nat} (h : hz_kd o = 3) : hz_kd (hz_rf o 0) = 14 := hz_dec (P := fun o => hz_kd o = 3 → hz_kd (hz_rf o 0) = 14) (by decide +kernel) (fun o ho h => by simp [hz_kd, List.getD, ho] at h) o h
theorem sk_4_0 {o : Nat} (h : hz_kd o = 4) : hz_kd (hz_rf o 0) = 9 := hz_dec (P := fun o => hz_kd o = 4 → hz_kd (hz_rf o 0) = 9) (by decide +kernel) (fun o ho h => by simp [hz_kd, List.getD, ho] at h) o h
theorem sk_4_1 {o : Nat} (h : hz_kd o = 4) : hz_kd (hz_rf o 1) = 8 := hz_dec (P := fun o => hz_kd o = 4 → hz_kd (hz_rf o 1) = 8) (by decide +kernel) (fun o ho h => by simp [hz_kd, List.getD, ho] at h) o h
theorem sk_4_2 {o : Nat} (h : hz_kd o = 4) : hz_kd (hz_rf o 2) = 13 := hz_dec (P := fun o => hz_kd o = 4 → hz_kd (hz_rf o 2) = 13) (by decide +kernel) (fun o ho h => by simp [hz_kd, List.getD, ho] at h) o h
theorem sl_4_2 {o : Nat} (h : hz_kd o = 4) : hz_ln (hz_rf o 2) = 27 := hz_dec (P := fun o => hz_kd o = 4 → hz_ln (hz_rf o 2) = 27) (by decide +kernel) (fun o ho h => by simp [hz_kd, List.getD, ho] at h) o h
theorem sk_5_0 {o : Nat} (h : hz_kd o = 5) : hz_kd (hz_rf o 0) = 13 := hz_dec (P := fun o => hz_kd o = 5 → hz_kd (hz_rf o 0) = 13) (by decide +kernel) (fun o ho h => by simp [hz_kd, List.getD, ho] at h) o h
theorem sl_5_0 {o : Nat} (h : hz_kd o = 5) : hz_ln (hz_rf o 0) = 80 := hz_dec (P := fun o => hz_kd o = 5 → hz_ln (hz_rf o 0) = 80) (by decide +kernel) (fun o ho h => by simp [hz_kd, List.getD, ho] at h) o h
theorem sk_6_0 {o : Nat} (h : hz_kd o = 6) : hz_kd (hz_rf o 0) = 8 := hz_dec (P := fun o => hz_kd o = 6 → hz_kd (hz_rf o 0) = 8) (by decide +kernel) (fun o ho h => by simp [hz_kd, List.getD, ho] at h) o h
theorem sk_6_1 {o : Nat} (h : hz_kd o = 6) : hz_kd (hz_rf o 1) = 7 := hz_dec (P := fun o => hz_kd o = 6 → hz_kd (hz_rf o 1) = 7) (by decide +kernel) (fun o ho h => by simp [hz_kd, List.getD, ho] at h) o h
theorem sk_7_2 {o : Nat} (h : hz_kd o = 7) : hz_kd (hz_rf o 2) = 13 := hz_dec (P := fun o => hz_kd o = 7 → hz_kd (hz_rf o 2) = 13) (by decide +kernel) (fun o ho h => by simp [hz_kd, List.getD, ho] at h) o h
theorem sk_8_0 {o : Nat} (h : hz_kd o = 8) : hz_kd (hz_rf o 0) = 1 := hz_dec (P := fun o => hz_kd o = 8 → hz_kd (hz_rf o 0) = 1) (by decide +kernel) (fun o ho h => by simp [hz_kd, List.getD, ho] at h) o h
theorem sk_8_1 {o : Nat} (h : hz_kd o = 8) : hz_kd (hz_rf o 1) = 7 := hz_dec (P := fun o => hz_kd o = 8 → hz_kd (hz_rf o 1) = 7) (by decide +kernel) (fun o ho h => by simp [hz_kd, List.getD, ho] at h) o h
theorem sk_8_2 {o : Nat} (h : hz_kd o = 8) : hz_kd (hz_rf o 2) = 7 := hz_dec (P := fun o => hz_kd o = 8 → hz_kd (hz_rf o 2) = 7) (by decide +kernel) (fun o ho h => by simp [hz_kd, List.getD, ho] at h) o h
theorem sk_8_3 {o : Nat} (h : hz_kd o = 8) : hz_kd (hz_rf o 3) = 13 := hz_dec (P := fun o => hz_kd o = 8 → hz_kd (hz_rf o 3) = 13) (by decide +kernel) (fun o ho h => by simp [hz_kd, List.getD, ho] at h) o h
theorem sl_8_3 {o : Nat} (h : hz_kd o = 8) : hz_ln (hz_rf o 3) = 20 := hz_dec (P := fun o => hz_kd o = 8 → hz_ln (hz_rf o 3) = 20) (by decide +kernel) (fun o ho h => by simp [hz_kd, List.getD, ho] at h) o h
theorem sk_9_0 {o : Nat} (h : hz_kd o = 9) : hz_kd (hz_rf o 0) = 13 := hz_dec (P := fun o => hz_kd o = 9 → hz_kd (hz_rf o 0) = 13) (by decide +kernel) (fun o ho h => by simp [hz_kd, List.getD, ho] at h) o h
theorem sl_9_0 {o : Nat} (h : hz_kd o = 9) : hz_ln (hz_rf o 0) = 400 := hz_dec (P := fun o => hz_kd o = 9 → hz_ln (hz_rf o 0) = 400) (by decide +kernel) (fun o ho h => by simp [hz_kd, List.getD, ho] at h) o h
theorem sk_9_1 {o : Nat} (h : hz_kd o = 9) : hz_kd (hz_rf o 1) = 13 := hz_dec (P := fun o => hz_kd o = 9 → hz_kd (hz_rf o 1) = 13) (by decide +kernel) (fun o ho h => by simp [hz_kd, List.getD, ho] at h) o h
theorem sl_9_1 {o : Nat} (h : hz_kd o = 9) : hz_ln (hz_rf o 1) = 401 := hz_dec (P := fun o => hz_kd o = 9 → hz_ln (hz_rf o 1) = 401) (by decide +kernel) (fun o ho h => by simp [hz_kd, List.getD, ho] at h) o h
theorem sk_9_2 {o : Nat} (h : hz_kd o = 9) : hz_kd (hz_rf o 2) = 13 := hz_dec (P := fun o => hz_kd o = 9 → hz_kd (hz_rf o 2) = 13) (by decide +kernel) (fun o ho h => by simp [hz_kd, List.getD, ho] at h) o h
theorem sl_9_2 {o : Nat} (h : hz_kd o = 9) : hz_ln (hz_rf o 2) = 401 := hz_dec (P := fun o => hz_kd o = 9 → hz_ln (hz_rf o 2) = 401) (by decide +kernel) (fun o ho h => by simp [hz_kd, List.getD, ho] at h) o h
theorem sk_9_3 {o : Nat} (h : hz_kd o = 9) : hz_kd (hz_rf o 3) = 13 := hz_dec (P := fun o => hz_kd o = 9 → hz_kd (hz_rf o 3) = 13) (by decide +kernel) (fun o ho h => by simp [hz_kd, List.getD, ho] at h) o h
theorem sl_9_3 {o : Nat} (h : hz_kd o = 9) : hz_ln (hz_rf o 3) = 401 := hz_dec (P := fun o => hz_kd o = 9 → hz_ln (hz_rf o 3) = 401) (by decide +kernel) (fun o ho h => by simp [hz_kd, List.getD, ho] at h) o h
theorem sk_10_0 {o : Nat} (h : hz_kd o = 10) : hz_kd (hz_rf o 0) = 7 := hz_dec (P := fun o => hz_kd o = 10 → hz_kd (hz_rf o 0) = 7) (by decide +kernel) (fun o ho h => by simp [hz_kd, List.getD, ho] at h) o h
theorem sk_10_1 {o : Nat} (h : hz_kd o = 10) : hz_kd (hz_rf o 1) = 7 := hz_dec (P := fun o => hz_kd o = 10 → hz_kd (hz_rf o 1) = 7) (by decide +kernel) (fun o ho h => by simp [hz_kd, List.getD, ho] at h) o h
theorem sk_10_2 {o : Nat} (h : hz_kd o = 10) : hz_kd (hz_rf o 2) = 7 := hz_dec (P := fun o => hz_kd o = 10 → hz_kd (hz_rf o 2) = 7) (by decide +kernel) (fun o ho h => by simp [hz_kd, List.getD, ho] at h) o h
theorem sk_10_3 {o : Nat} (h : hz_kd o = 10) : hz_kd (hz_rf o 3) = 7 := hz_dec (P := fun o => hz_kd o = 10 → hz_kd (hz_rf o 3) = 7) (by decide +kernel) (fun o ho h => by simp [hz_kd, List.getD, ho] at h) o h
theorem sk_10_4 {o : Nat} (h : hz_kd o = 10) : hz_kd (hz_rf o 4) = 7 := hz_dec (P := fun o => hz_kd o = 10 → hz_kd (hz_rf o 4) = 7) (by decide +kernel) (fun o ho h => by simp [hz_kd, List.getD, ho] at h) o h
theorem sk_10_5 {o : Nat} (h : hz_kd o = 10) : hz_kd (hz_rf o 5) = 7 := hz_dec (P := fun o => hz_kd o = 10 → hz_kd (hz_rf o 5) = 7) (by decide +kernel) (fun o ho h => by simp [hz_kd, List.getD, ho] at h) o h
theorem sk_10_6 {o : Nat} (h : hz_kd o = 10) : hz_kd (hz_rf o 6) = 7 := hz_dec (P := fun o => hz_kd o = 10 → hz_kd (hz_rf o 6) = 7) (by decide +kernel) (fun o ho h => by simp [hz_kd, List.getD, ho] at h) o h
theorem sk_11_0 {o : Nat} (h : hz_kd o = 11) : hz_kd (hz_rf o 0) = 5 := hz_dec (P := fun o => hz_kd o = 11 → hz_kd (hz_rf o 0) = 5) (by decide +kernel) (fun o ho h => by simp [hz_kd, List.getD, ho] at h) o h
theorem sk_11_1 {o : Nat} (h : hz_kd o = 11) : hz_kd (hz_rf o 1) = 5 := hz_dec (P := fun o => hz_kd o = 11 → hz_kd (hz_rf o 1) = 5) (by decide +kernel) (fun o ho h => by simp [hz_kd, List.getD, ho] at h) o h
theorem sk_11_2 {o : Nat} (h : hz_kd o = 11) : hz_kd (hz_rf o 2) = 3 := hz_dec (P := fun o => hz_kd o = 11 → hz_kd (hz_rf o 2) = 3) (by decide +kernel) (fun o ho h => by simp [hz_kd, List.getD, ho] at h) o h
theorem sk_11_3 {o : Nat} (h : hz_kd o = 11) : hz_kd (hz_rf o 3) = 8 := hz_dec (P := fun o => hz_kd o = 11 → hz_kd (hz_rf o 3) = 8) (by decide +kernel) (fun o ho h => by simp [hz_kd, List.getD, ho] at h) o h
theorem sk_11_4 {o : Nat} (h : hz_kd o = 11) : hz_kd (hz_rf o 4) = 4 := hz_dec (P := fun o => hz_kd o = 11 → hz_kd (hz_rf o 4) = 4) (by decide +kernel) (fun o ho h => by simp [hz_kd, List.getD, ho] at h) o h
theorem sk_11_5 {o : Nat} (h : hz_kd o = 11) : hz_kd (hz_rf o 5) = 10 := hz_dec (P := fun o => hz_kd o = 11 → hz_kd (hz_rf o 5) = 10) (by decide +kernel) (fun o ho h => by simp [hz_kd, List.getD, ho] at h) o h
theorem sk_11_6 {o : Nat} (h : hz_kd o = 11) : hz_kd (hz_rf o 6) = 7 := hz_dec (P := fun o => hz_kd o = 11 → hz_kd (hz_rf o 6) = 7) (by decide +kernel) (fun o ho h => by simp [hz_kd, List.getD, ho] at h) o h
theorem sk_11_7 {o : Nat} (h : hz_kd o = 11) : hz_kd (hz_rf o 7) = 6 := hz_dec (P := fun o => hz_kd o = 11 → hz_kd (hz_rf o 7) = 6) (by decide +kernel) (fun o ho h => by simp [hz_kd, List.getD, ho] at h) o h
theorem sk_11_8 {o : Nat} (h : hz_kd o = 11) : hz_kd (hz_rf o 8) = 2 := hz_dec (P := fun o => hz_kd o = 11 → hz_kd (hz_rf o 8) = 2) (by decide +kernel) (fun o ho h => by simp [hz_kd, List.getD, ho] at h) o h
theorem sk_11_9 {o : Nat} (h : hz_kd o = 11) : hz_kd (hz_rf o 9) = 0 := hz_dec (P := fun o => hz_kd o = 11 → hz_kd (hz_rf o 9) = 0) (by decide +kernel) (fun o ho h => by simp [hz_kd, List.getD, ho] at h) o h
theorem sk_12_1 {o : Nat} (h : hz_kd o = 12) : hz_kd (hz_rf o 1) = 13 := hz_dec (P := fun o => hz_kd o = 12 → hz_kd (hz_rf o 1) = 13) (by decide +kernel) (fun o ho h => by simp [hz_kd, List.getD, ho] at h) o h
theorem sl_12_1 {o : Nat} (h : hz_kd o = 12) : hz_ln (hz_rf o 1) = 50 := hz_dec (P := fun o => hz_kd o = 12 → hz_ln (hz_rf o 1) = 50) (by decide +kernel) (fun o ho h => by simp [hz_kd, List.getD, ho] at h) o h
theorem sk_12_2 {o : Nat} (h : hz_kd o = 12) : hz_kd (hz_rf o 2) = 13 := hz_dec (P := fun o => hz_kd o = 12 → hz_kd (hz_rf o 2) = 13) (by decide +kernel) (fun o ho h => by simp [hz_kd, List.getD, ho] at h) o h
theorem sl_12_2 {o : Nat} (h : hz_kd o = 12) : hz_ln (hz_rf o 2) = 300 := hz_dec (P := fun o => hz_kd o = 12 → hz_ln (hz_rf o 2) = 300) (by decide +kernel) (fun o ho h => by simp [hz_kd, List.getD, ho] at h) o h
theorem sk_12_4 {o : Nat} (h : hz_kd o = 12) : hz_kd (hz_rf o 4) = 13 := hz_dec (P := fun o => hz_kd o = 12 → hz_kd (hz_rf o 4) = 13) (by decide +kernel) (fun o ho h => by simp [hz_kd, List.getD, ho] at h) o h
theorem sl_12_4 {o : Nat} (h : hz_kd o = 12) : hz_ln (hz_rf o 4) = 50 := hz_dec (P := fun o => hz_kd o = 12 → hz_ln (hz_rf o 4) = 50) (by decide +kernel) (fun o ho h => by simp [hz_kd, List.getD, ho] at h) o h
theorem sk_12_7 {o : Nat} (h : hz_kd o = 12) : hz_kd (hz_rf o 7) = 13 := hz_dec (P := fun o => hz_kd o = 12 → hz_kd (hz_rf o 7) = 13) (by decide +kernel) (fun o ho h => by simp [hz_kd, List.getD, ho] at h) o h
theorem sl_12_7 {o : Nat} (h : hz_kd o = 12) : hz_ln (hz_rf o 7) = 10 := hz_dec (P := fun o => hz_kd o = 12 → hz_ln (hz_rf o 7) = 10) (by decide +kernel) (fun o ho h => by simp [hz_kd, List.getD, ho] at h) o h
theorem sk_12_8 {o : Nat} (h : hz_kd o = 12) : hz_kd (hz_rf o 8) = 13 := hz_dec (P := fun o => hz_kd o = 12 → hz_kd (hz_rf o 8) = 13) (by decide +kernel) (fun o ho h => by simp [hz_kd, List.getD, ho] at h) o h
theorem sl_12_8 {o : Nat} (h : hz_kd o = 12) : hz_ln (hz_rf o 8) = 10 := hz_dec (P := fun o => hz_kd o = 12 → hz_ln (hz_rf o 8) = 10) (by decide +kernel) (fun o ho h => by simp [hz_kd, List.getD, ho] at h) o h
theorem sk_12_9 {o : Nat} (h : hz_kd o = 12) : hz_kd (hz_rf o 9) = 13 := hz_dec (P := fun o => hz_kd o = 12 → hz_kd (hz_rf o 9) = 13) (by decide +kernel) (fun o ho h => by simp [hz_kd, List.getD, ho] at h) o h
theorem sl_12_9 {o : Nat} (h : hz_kd o = 12) : hz_ln (hz_rf o 9) = 10 := hz_dec (P := fun o => hz_kd o = 12 → hz_ln (hz_rf o 9) = 10) (by decide +kernel) (fun o ho h => by simp [hz_kd, List.getD, ho] at h) o h
theorem sk_12_10 {o : Nat} (h : hz_kd o = 12) : hz_kd (hz_rf o 10) = 13 := hz_dec (P := fun o => hz_kd o = 12 → hz_kd (hz_rf o 10) = 13) (by decide +kernel) (fun o ho h => by simp [hz_kd, List.getD, ho] at h) o h
theorem sl_12_10 {o : Nat} (h : hz_kd o = 12) : hz_ln (hz_rf o 10) = 750 := hz_dec (P := fun o => hz_kd o = 12 → hz_ln (hz_rf o 10) = 750) (by decide +kernel) (fun o ho h => by simp [hz_kd, List.getD, ho] at h) o h
theorem sk_12_11 {o : Nat} (h : hz_kd o = 12) : hz_kd (hz_rf o 11) = 13 := hz_dec (P := fun o => hz_kd o = 12 → hz_kd (hz_rf o 11) = 13) (by decide +kernel) (fun o ho h => by simp [hz_kd, List.getD, ho] at h) o h
theorem sl_12_11 {o : Nat} (h : hz_kd o = 12) : hz_ln (hz_rf o 11) = 400 := hz_dec (P := fun o => hz_kd o = 12 → hz_ln (hz_rf o 11) = 400) (by decide +kernel) (fun o ho h => by simp [hz_kd, List.getD, ho] at h) o h
theorem sk_12_17 {o : Nat} (h : hz_kd o = 12) : hz_kd (hz_rf o 17) = 13 := hz_dec (P := fun o => hz_kd o = 12 → hz_kd (hz_rf o 17) = 13) (by decide +kernel) (fun o ho h => by simp [hz_kd, List.getD, ho] at h) o h
theorem sl_12_17 {o : Nat} (h : hz_kd o = 12) : hz_ln (hz_rf o 17) = 122 := hz_dec (P := fun o => hz_kd o = 12 → hz_ln (hz_rf o 17) = 122) (by decide +kernel) (fun o ho h => by simp [hz_kd, List.getD, ho] at h) o h
theorem sk_12_18 {o : Nat} (h : hz_kd o = 12) : hz_kd (hz_rf o 18) = 13 := hz_dec (P := fun o => hz_kd o = 12 → hz_kd (hz_rf o 18) = 13) (by decide +kernel) (fun o ho h => by simp [hz_kd, List.getD, ho] at h) o h
theorem sl_12_18 {o : Nat} (h : hz_kd o = 12) : hz_ln (hz_rf o 18) = 2 := hz_dec (P := fun o => hz_kd o = 12 → hz_ln (hz_rf o 18) = 2) (by decide +kernel) (fun o ho h => by simp [hz_kd, List.getD, ho] at h) o h
theorem sk_12_19 {o : Nat} (h : hz_kd o = 12) : hz_kd (hz_rf o 19) = 13 := hz_dec (P := fun o => hz_kd o = 12 → hz_kd (hz_rf o 19) = 13) (by decide +kernel) (fun o ho h => by simp [hz_kd, List.getD, ho] at h) o h
theorem sl_12_19 {o : Nat} (h : hz_kd o = 12) : hz_ln (hz_rf o 19) = 48 := hz_dec (P := fun o => hz_kd o = 12 → hz_ln (hz_rf o 19) = 48) (by decide +kernel) (fun o ho h => by simp [hz_kd, List.getD, ho] at h) o h
theorem sk_12_20 {o : Nat} (h : hz_kd o = 12) : hz_kd (hz_rf o 20) = 13 := hz_dec (P := fun o => hz_kd o = 12 → hz_kd (hz_rf o 20) = 13) (by decide +kernel) (fun o ho h => by simp [hz_kd, List.getD, ho] at h) o h
theorem sl_12_20 {o : Nat} (h : hz_kd o = 12) : hz_ln (hz_rf o 20) = 48 := hz_dec (P := fun o => hz_kd o = 12 → hz_ln (hz_rf o 20) = 48) (by decide +kernel) (fun o ho h => by simp [hz_kd, List.getD, ho] at h) o h
theorem sk_12_21 {o : Nat} (h : hz_kd o = 12) : hz_kd (hz_rf o 21) = 13 := hz_dec (P := fun o => hz_kd o = 12 → hz_kd (hz_rf o 21) = 13) (by decide +kernel) (fun o ho h => by simp [hz_kd, List.getD, ho] at h) o h
theorem sl_12_21 {o : Nat} (h : hz_kd o = 12) : hz_ln (hz_rf o 21) = 48 := hz_dec (P := fun o => hz_kd o = 12 → hz_ln (hz_rf o 21) = 48) (by decide +kernel) (fun o ho h => by simp [hz_kd, List.getD, ho] at h) o h
theorem sk_12_22 {o : Nat} (h : hz_kd o = 12) : hz_kd (hz_rf o 22) = 13 := hz_dec (P := fun o => hz_kd o = 12 → hz_kd (hz_rf o 22) = 13) (by decide +kernel) (fun o ho h => by simp [hz_kd, List.getD, ho] at h) o h
theorem sl_12_22 {o : Nat} (h : hz_kd o = 12) : hz_ln (hz_rf o 22) = 48 := hz_dec (P := fun o => hz_kd o = 12 → hz_ln (hz_rf o 22) = 48) (by decide +kernel) (fun o ho h => by simp [hz_kd, List.getD, ho] at h) o h
theorem sk_12_23 {o : Nat} (h : hz_kd o = 12) : hz_kd (hz_rf o 23) = 13 := hz_dec (P := fun o => hz_kd o = 12 → hz_kd (hz_rf o 23) = 13) (by decide +kernel) (fun o ho h => by simp [hz_kd, List.getD, ho] at h) o h
theorem sl_12_23 {o : Nat} (h : hz_kd o = 12) : hz_ln (hz_rf o 23) = 1200 := hz_dec (P := fun o => hz_kd o = 12 → hz_ln (hz_rf o 23) = 1200) (by decide +kernel) (fun o ho h => by simp [hz_kd, List.getD, ho] at h) o h
theorem sk_12_24 {o : Nat} (h : hz_kd o = 12) : hz_kd (hz_rf o 24) = 13 := hz_dec (P := fun o => hz_kd o = 12 → hz_kd (hz_rf o 24) = 13) (by decide +kernel) (fun o ho h => by simp [hz_kd, List.getD, ho] at h) o h
theorem sl_12_24 {o : Nat} (h : hz_kd o = 12) : hz_ln (hz_rf o 24) = 1200 := hz_dec (P := fun o => hz_kd o = 12 → hz_ln (hz_rf o 24) = 1200) (by decide +kernel) (fun o ho h => by simp [hz_kd, List.getD, ho] at h) o h
theorem sk_12_28 {o : Nat} (h : hz_kd o = 12) : hz_kd (hz_rf o 28) = 13 := hz_dec (P := fun o => hz_kd o = 12 → hz_kd (hz_rf o 28) = 13) (by decide +kernel) (fun o ho h => by simp [hz_kd, List.getD, ho] at h) o h
theorem sl_12_28 {o : Nat} (h : hz_kd o = 12) : hz_ln (hz_rf o 28) = 40 := hz_dec (P := fun o => hz_kd o = 12 → hz_ln (hz_rf o 28) = 40) (by decide +kernel) (fun o ho h => by simp [hz_kd, List.getD, ho] at h) o h
theorem sk_12_35 {o : Nat} (h : hz_kd o = 12) : hz_kd (hz_rf o 35) = 13 := hz_dec (P := fun o => hz_kd o = 12 → hz_kd (hz_rf o 35) = 13) (by decide +kernel) (fun o ho h => by simp [hz_kd, List.getD, ho] at h) o h
theorem sl_12_35 {o : Nat} (h : hz_kd o = 12) : hz_ln (hz_rf o 35) = 128 := hz_dec (P := fun o => hz_kd o = 12 → hz_ln (hz_rf o 35) = 128) (by decide +kernel) (fun o ho h => by simp [hz_kd, List.getD, ho] at h) o h
theorem sk_12_37 {o : Nat} (h : hz_kd o = 12) : hz_kd (hz_rf o 37) = 13 := hz_dec (P := fun o => hz_kd o = 12 → hz_kd (hz_rf o 37) = 13) (by decide +kernel) (fun o ho h => by simp [hz_kd, List.getD, ho] at h) o h
theorem sl_12_37 {o : Nat} (h : hz_kd o = 12) : hz_ln (hz_rf o 37) = 64 := hz_dec (P := fun o => hz_kd o = 12 → hz_ln (hz_rf o 37) = 64) (by decide +kernel) (fun o ho h => by simp [hz_kd, List.getD, ho] at h) o h
theorem sk_12_39 {o : Nat} (h : hz_kd o = 12) : hz_kd (hz_rf o 39) = 13 := hz_dec (P := fun o => hz_kd o = 12 → hz_kd (hz_rf o 39) = 13) (by decide +kernel) (fun o ho h => by simp [hz_kd, List.getD, ho] at h) o h
theorem sl_12_39 {o : Nat} (h : hz_kd o = 12) : hz_ln (hz_rf o 39) = 40 := hz_dec (P := fun o => hz_kd o = 12 → hz_ln (hz_rf o 39) = 40) (by decide +kernel) (fun o ho h => by simp [hz_kd, List.getD, ho] at h) o h
theorem sk_12_40 {o : Nat} (h : hz_kd o = 12) : hz_kd (hz_rf o 40) = 13 := hz_dec (P := fun o => hz_kd o = 12 → hz_kd (hz_rf o 40) = 13) (by decide +kernel) (fun o ho h => by simp [hz_kd, List.getD, ho] at h) o h
theorem sl_12_40 {o : Nat} (h : hz_kd o = 12) : hz_ln (hz_rf o 40) = 9 := hz_dec (P := fun o => hz_kd o = 12 → hz_ln (hz_rf o 40) = 9) (by decide +kernel) (fun o ho h => by simp [hz_kd, List.getD, ho] at h) o h
theorem sk_12_41 {o : Nat} (h : hz_kd o = 12) : hz_kd (hz_rf o 41) = 13 := hz_dec (P := fun o => hz_kd o = 12 → hz_kd (hz_rf o 41) = 13) (by decide +kernel) (fun o ho h => by simp [hz_kd, List.getD, ho] at h) o h
theorem sl_12_41 {o : Nat} (h : hz_kd o = 12) : hz_ln (hz_rf o 41) = 420 := hz_dec (P := fun o => hz_kd o = 12 → hz_ln (hz_rf o 41) = 420) (by decide +kernel) (fun o ho h => by simp [hz_kd, List.getD, ho] at h) o h
theorem sk_12_42 {o : Nat} (h : hz_kd o = 12) : hz_kd (hz_rf o 42) = 13 := hz_dec (P := fun o => hz_kd o = 12 → hz_kd (hz_rf o 42) = 13) (by decide +kernel) (fun o ho h => by simp [hz_kd, List.getD, ho] at h) o h
theorem sl_12_42 {o : Nat} (h : hz_kd o = 12) : hz_ln (hz_rf o 42) = 21504 := hz_dec (P := fun o => hz_kd o = 12 → hz_ln (hz_rf o 42) = 21504) (by decide +kernel) (fun o ho h => by simp [hz_kd, List.getD, ho] at h) o h
theorem sk_12_44 {o : Nat} (h : hz_kd o = 12) : hz_kd (hz_rf o 44) = 13 := hz_dec (P := fun o => hz_kd o = 12 → hz_kd (hz_rf o 44) = 13) (by decide +kernel) (fun o ho h => by simp [hz_kd, List.getD, ho] at h) o h
theorem sl_12_44 {o : Nat} (h : hz_kd o = 12) : hz_ln (hz_rf o 44) = 10 := hz_dec (P := fun o => hz_kd o = 12 → hz_ln (hz_rf o 44) = 10) (by decide +kernel) (fun o ho h => by simp [hz_kd, List.getD, ho] at h) o h
theorem sk_12_45 {o : Nat} (h : hz_kd o = 12) : hz_kd (hz_rf o 45) = 13 := hz_dec (P := fun o => hz_kd o = 12 → hz_kd (hz_rf o 45) = 13) (by decide +kernel) (fun o ho h => by simp [hz_kd, List.getD, ho] at h) o h
theorem sl_12_45 {o : Nat} (h : hz_kd o = 12) : hz_ln (hz_rf o 45) = 10 := hz_dec (P := fun o => hz_kd o = 12 → hz_ln (hz_rf o 45) = 10) (by decide +kernel) (fun o ho h => by simp [hz_kd, List.getD, ho] at h) o h
theorem sk_12_47 {o : Nat} (h : hz_kd o = 12) : hz_kd (hz_rf o 47) = 13 := hz_dec (P := fun o => hz_kd o = 12 → hz_kd (hz_rf o 47) = 13) (by decide +kernel) (fun o ho h => by simp [hz_kd, List.getD, ho] at h) o h
theorem sl_12_47 {o : Nat} (h : hz_kd o = 12) : hz_ln (hz_rf o 47) = 9 := hz_dec (P := fun o => hz_kd o = 12 → hz_ln (hz_rf o 47) = 9) (by decide +kernel) (fun o ho h => by simp [hz_kd, List.getD, ho] at h) o h
theorem sk_12_48 {o : Nat} (h : hz_kd o = 12) : hz_kd (hz_rf o 48) = 13 := hz_dec (P := fun o => hz_kd o = 12 → hz_kd (hz_rf o 48) = 13) (by decide +kernel) (fun o ho h => by simp [hz_kd, List.getD, ho] at h) o h
theorem sl_12_48 {o : Nat} (h : hz_kd o = 12) : hz_ln (hz_rf o 48) = 9 := hz_dec (P := fun o => hz_kd o = 12 → hz_ln (hz_rf o 48) = 9) (by decide +kernel) (fun o ho h => by simp [hz_kd, List.getD, ho] at h) o h
theorem sk_12_50 {o : Nat} (h : hz_kd o = 12) : hz_kd (hz_rf o 50) = 13 := hz_dec (P := fun o => hz_kd o = 12 → hz_kd (hz_rf o 50) = 13) (by decide +kernel) (fun o ho h => by simp [hz_kd, List.getD, ho] at h) o h
theorem sl_12_50 {o : Nat} (h : hz_kd o = 12) : hz_ln (hz_rf o 50) = 200 := hz_dec (P := fun o => hz_kd o = 12 → hz_ln (hz_rf o 50) = 200) (by decide +kernel) (fun o ho h => by simp [hz_kd, List.getD, ho] at h) o h
theorem sk_12_51 {o : Nat} (h : hz_kd o = 12) : hz_kd (hz_rf o 51) = 13 := hz_dec (P := fun o => hz_kd o = 12 → hz_kd (hz_rf o 51) = 13) (by decide +kernel) (fun o ho h => by simp [hz_kd, List.getD, ho] at h) o h
theorem sl_12_51 {o : Nat} (h : hz_kd o = 12) : hz_ln (hz_rf o 51) = 8 := hz_dec (P := fun o => hz_kd o = 12 → hz_ln (hz_rf o 51) = 8) (by decide +kernel) (fun o ho h => by simp [hz_kd, List.getD, ho] at h) o h
theorem sk_12_52 {o : Nat} (h : hz_kd o = 12) : hz_kd (hz_rf o 52) = 13 := hz_dec (P := fun o => hz_kd o = 12 → hz_kd (hz_rf o 52) = 13) (by decide +kernel) (fun o ho h => by simp [hz_kd, List.getD, ho] at h) o h
theorem sl_12_52 {o : Nat} (h : hz_kd o = 12) : hz_ln (hz_rf o 52) = 40 := hz_dec (P := fun o => hz_kd o = 12 → hz_ln (hz_rf o 52) = 40) (by decide +kernel) (fun o ho h => by simp [hz_kd, List.getD, ho] at h) o h
theorem sk_12_54 {o : Nat} (h : hz_kd o = 12) : hz_kd (hz_rf o 54) = 13 := hz_dec (P := fun o => hz_kd o = 12 → hz_kd (hz_rf o 54) = 13) (by decide +kernel) (fun o ho h => by simp [hz_kd, List.getD, ho] at h) o h
theorem sl_12_54 {o : Nat} (h : hz_kd o = 12) : hz_ln (hz_rf o 54) = 6 := hz_dec (P := fun o => hz_kd o = 12 → hz_ln (hz_rf o 54) = 6) (by decide +kernel) (fun o ho h => by simp [hz_kd, List.getD, ho] at h) o h
theorem sk_12_55 {o : Nat} (h : hz_kd o = 12) : hz_kd (hz_rf o 55) = 13 := hz_dec (P := fun o => hz_kd o = 12 → hz_kd (hz_rf o 55) = 13) (by decide +kernel) (fun o ho h => by simp [hz_kd, List.getD, ho] at h) o h
theorem sl_12_55 {o : Nat} (h : hz_kd o = 12) : hz_ln (hz_rf o 55) = 6 := hz_dec (P := fun o => hz_kd o = 12 → hz_ln (hz_rf o 55) = 6) (by decide +kernel) (fun o ho h => by simp [hz_kd, List.getD, ho] at h) o h
theorem sk_12_56 {o : Nat} (h : hz_kd o = 12) : hz_kd (hz_rf o 56) = 13 := hz_dec (P := fun o => hz_kd o = 12 → hz_kd (hz_rf o 56) = 13) (by decide +kernel) (fun o ho h => by simp [hz_kd, List.getD, ho] at h) o h
theorem sl_12_56 {o : Nat} (h : hz_kd o = 12) : hz_ln (hz_rf o 56) = 6 := hz_dec (P := fun o => hz_kd o = 12 → hz_ln (hz_rf o 56) = 6) (by decide +kernel) (fun o ho h => by simp [hz_kd, List.getD, ho] at h) o h
theorem sk_12_57 {o : Nat} (h : hz_kd o = 12) : hz_kd (hz_rf o 57) = 13 := hz_dec (P := fun o => hz_kd o = 12 → hz_kd (hz_rf o 57) = 13) (by decide +kernel) (fun o ho h => by simp [hz_kd, List.getD, ho] at h) o h
theorem sl_12_57 {o : Nat} (h : hz_kd o = 12) : hz_ln (hz_rf o 57) = 6 := hz_dec (P := fun o => hz_kd o = 12 → hz_ln (hz_rf o 57) = 6) (by decide +kernel) (fun o ho h => by simp [hz_kd, List.getD, ho] at h) o h
theorem sk_12_61 {o : Nat} (h : hz_kd o = 12) : hz_kd (hz_rf o 61) = 13 := hz_dec (P := fun o => hz_kd o = 12 → hz_kd (hz_rf o 61) = 13) (by decide +kernel) (fun o ho h => by simp [hz_kd, List.getD, ho] at h) o h
theorem sl_12_61 {o : Nat} (h : hz_kd o = 12) : hz_ln (hz_rf o 61) = 1000 := hz_dec (P := fun o => hz_kd o = 12 → hz_ln (hz_rf o 61) = 1000) (by decide +kernel) (fun o ho h => by simp [hz_kd, List.getD, ho] at h) o h
theorem sk_12_63 {o : Nat} (h : hz_kd o = 12) : hz_kd (hz_rf o 63) = 13 := hz_dec (P := fun o => hz_kd o = 12 → hz_kd (hz_rf o 63) = 13) (by decide +kernel) (fun o ho h => by simp [hz_kd, List.getD, ho] at h) o h
theorem sl_12_63 {o : Nat} (h : hz_kd o = 12) : hz_ln (hz_rf o 63) = 12 := hz_dec (P := fun o => hz_kd o = 12 → hz_ln (hz_rf o 63) = 12) (by decide +kernel) (fun o ho h => by simp [hz_kd, List.getD, ho] at h) o h
theorem sk_12_64 {o : Nat} (h : hz_kd o = 12) : hz_kd (hz_rf o 64) = 13 := hz_dec (P := fun o => hz_kd o = 12 → hz_kd (hz_rf o 64) = 13) (by decide +kernel) (fun o ho h => by simp [hz_kd, List.getD, ho] at h) o h
theorem sl_12_64 {o : Nat} (h : hz_kd o = 12) : hz_ln (hz_rf o 64) = 4 := hz_dec (P := fun o => hz_kd o = 12 → hz_ln (hz_rf o 64) = 4) (by decide +kernel) (fun o ho h => by simp [hz_kd, List.getD, ho] at h) o h
theorem sk_12_65 {o : Nat} (h : hz_kd o = 12) : hz_kd (hz_rf o 65) = 13 := hz_dec (P := fun o => hz_kd o = 12 → hz_kd (hz_rf o 65) = 13) (by decide +kernel) (fun o ho h => by simp [hz_kd, List.getD, ho] at h) o h
theorem sl_12_65 {o : Nat} (h : hz_kd o = 12) : hz_ln (hz_rf o 65) = 100 := hz_dec (P := fun o => hz_kd o = 12 → hz_ln (hz_rf o 65) = 100) (by decide +kernel) (fun o ho h => by simp [hz_kd, List.getD, ho] at h) o h
theorem sk_12_69 {o : Nat} (h : hz_kd o = 12) : hz_kd (hz_rf o 69) = 13 := hz_dec (P := fun o => hz_kd o = 12 → hz_kd (hz_rf o 69) = 13) (by decide +kernel) (fun o ho h => by simp [hz_kd, List.getD, ho] at h) o h
theorem sl_12_69 {o : Nat} (h : hz_kd o = 12) : hz_ln (hz_rf o 69) = 2300 := hz_dec (P := fun o => hz_kd o = 12 → hz_ln (hz_rf o 69) = 2300) (by decide +kernel) (fun o ho h => by simp [hz_kd, List.getD, ho] at h) o h
theorem sk_14 {o j : Nat} (h : hz_kd o = 14) (hj : j < 6) : hz_kd (hz_rf o j) = 5 := hz_dec (P := fun o => hz_kd o = 14 → ∀ j, j < 6 → hz_kd (hz_rf o j) = 5) (by decide +kernel) (fun o ho h => by simp [hz_kd, List.getD, ho] at h) o h j hj

/-! names: classes, fields, methods (by program) -/
def RJ7 : String := "java/util/Arrays"
def RX0 : String := "FlateFilter$Codes"
def RX1 : String := "FlateFilter$Dictionary"
def RX2 : String := "FlateFilter$FlateCodes"
def RX3 : String := "FlateFilter$FlatePacker"
def RX4 : String := "FlateFilter$FlateUnpacker"
def RX5 : String := "FlateFilter$Matches"
def RX6 : String := "FlateFilter$Predictor"
def RX7 : String := "FlateFilter$RunLengths"
def RX8 : String := "FlateFilter$Signs"
def RX9 : String := "FlateFilter$Sink"
def RX10 : String := "FlateFilter$Source"
def RX11 : String := "FlateFilter"
def RX12 : String := "FlateFilterModel"
def TX0 : u_T := fun k => match k with
  | 0 => ("FlateFilter$Codes", "lengths", "[I", true)
  | 1 => ("FlateFilter$Codes", "turned", "[I", true)
  | 2 => ("FlateFilter$Codes", "sorted", "[I", true)
  | 3 => ("FlateFilter$Codes", "counts", "[I", true)
  | 4 => ("FlateFilter$Codes", "next", "[I", true)
  | 5 => ("FlateFilter$Codes", "places", "[I", true)
  | _ => ("FlateFilter$Codes", "used", "I", false)
def tyX0 : Nat → FieldType := fun k => match k with
  | 0 => .array .int
  | 1 => .array .int
  | 2 => .array .int
  | 3 => .array .int
  | 4 => .array .int
  | 5 => .array .int
  | _ => .int
theorem nmX0 : ∀ a, a < 7 → ∀ b, b < 7 → a ≠ b → (TX0 a).2.1 ≠ (TX0 b).2.1 := by decide +kernel
theorem tyX0_ok : ∀ k, k < 7 → parseFieldDescriptor (TX0 k).2.2.1 = some (tyX0 k) := by decide +kernel
theorem wsX0_ok : ∀ w ∈ u_ws RX0 TX0 7, w ∈ TB := inTs_ok (r := [194, 196, 198, 200, 202, 204, 206]) (by decide +kernel)
def TX1 : u_T := fun k => match k with
  | 0 => ("FlateFilter$Dictionary", "starts", "[I", true)
  | 1 => ("FlateFilter$Dictionary", "sizes", "[I", true)
  | _ => ("FlateFilter$Dictionary", "lasts", "[I", true)
def tyX1 : Nat → FieldType := fun k => match k with
  | 0 => .array .int
  | 1 => .array .int
  | _ => .array .int
theorem nmX1 : ∀ a, a < 3 → ∀ b, b < 3 → a ≠ b → (TX1 a).2.1 ≠ (TX1 b).2.1 := by decide +kernel
theorem tyX1_ok : ∀ k, k < 3 → parseFieldDescriptor (TX1 k).2.2.1 = some (tyX1 k) := by decide +kernel
theorem wsX1_ok : ∀ w ∈ u_ws RX1 TX1 3, w ∈ TB := inTs_ok (r := [330, 332, 334]) (by decide +kernel)
def TX3 : u_T := fun k => match k with
  | 0 => ("FlateFilter$FlatePacker", "symbols", "LFlateFilter$Codes;", true)
  | 1 => ("FlateFilter$FlatePacker", "distances", "LFlateFilter$Codes;", true)
  | 2 => ("FlateFilter$FlatePacker", "tellers", "LFlateFilter$Codes;", true)
  | 3 => ("FlateFilter$FlatePacker", "matches", "LFlateFilter$Matches;", true)
  | 4 => ("FlateFilter$FlatePacker", "symbolCounts", "[I", true)
  | 5 => ("FlateFilter$FlatePacker", "distanceCounts", "[I", true)
  | 6 => ("FlateFilter$FlatePacker", "groupCounts", "[I", true)
  | 7 => ("FlateFilter$FlatePacker", "groupOf", "[I", true)
  | 8 => ("FlateFilter$FlatePacker", "groupLengths", "[I", true)
  | 9 => ("FlateFilter$FlatePacker", "lengths", "[I", true)
  | 10 => ("FlateFilter$FlatePacker", "told", "[I", true)
  | 11 => ("FlateFilter$FlatePacker", "toldMore", "[I", true)
  | 12 => ("FlateFilter$FlatePacker", "toldCount", "I", false)
  | 13 => ("FlateFilter$FlatePacker", "symbolCount", "I", false)
  | _ => ("FlateFilter$FlatePacker", "distanceCount", "I", false)
def tyX3 : Nat → FieldType := fun k => match k with
  | 0 => .object "FlateFilter$Codes"
  | 1 => .object "FlateFilter$Codes"
  | 2 => .object "FlateFilter$Codes"
  | 3 => .object "FlateFilter$Matches"
  | 4 => .array .int
  | 5 => .array .int
  | 6 => .array .int
  | 7 => .array .int
  | 8 => .array .int
  | 9 => .array .int
  | 10 => .array .int
  | 11 => .array .int
  | 12 => .int
  | 13 => .int
  | _ => .int
theorem nmX3 : ∀ a, a < 15 → ∀ b, b < 15 → a ≠ b → (TX3 a).2.1 ≠ (TX3 b).2.1 := by decide +kernel
theorem tyX3_ok : ∀ k, k < 15 → parseFieldDescriptor (TX3 k).2.2.1 = some (tyX3 k) := by decide +kernel
theorem wsX3_ok : ∀ w ∈ u_ws RX3 TX3 15, w ∈ TB := inTs_ok (r := [259, 261, 263, 265, 267, 269, 271, 273, 275, 277, 279, 281, 283, 285, 287]) (by decide +kernel)
def TX4 : u_T := fun k => match k with
  | 0 => ("FlateFilter$FlateUnpacker", "symbols", "LFlateFilter$Codes;", true)
  | 1 => ("FlateFilter$FlateUnpacker", "distances", "LFlateFilter$Codes;", true)
  | 2 => ("FlateFilter$FlateUnpacker", "tellers", "LFlateFilter$Codes;", true)
  | 3 => ("FlateFilter$FlateUnpacker", "told", "[I", true)
  | 4 => ("FlateFilter$FlateUnpacker", "symbolCount", "I", false)
  | 5 => ("FlateFilter$FlateUnpacker", "distanceCount", "I", false)
  | 6 => ("FlateFilter$FlateUnpacker", "in", "LFlateFilter$Source;", false)
  | _ => ("FlateFilter$FlateUnpacker", "to", "LFlateFilter$Sink;", false)
def tyX4 : Nat → FieldType := fun k => match k with
  | 0 => .object "FlateFilter$Codes"
  | 1 => .object "FlateFilter$Codes"
  | 2 => .object "FlateFilter$Codes"
  | 3 => .array .int
  | 4 => .int
  | 5 => .int
  | 6 => .object "FlateFilter$Source"
  | _ => .object "FlateFilter$Sink"
theorem nmX4 : ∀ a, a < 8 → ∀ b, b < 8 → a ≠ b → (TX4 a).2.1 ≠ (TX4 b).2.1 := by decide +kernel
theorem tyX4_ok : ∀ k, k < 8 → parseFieldDescriptor (TX4 k).2.2.1 = some (tyX4 k) := by decide +kernel
theorem wsX4_ok : ∀ w ∈ u_ws RX4 TX4 8, w ∈ TB := inTs_ok (r := [304, 306, 308, 310, 312, 314, 316, 318]) (by decide +kernel)
def TX5 : u_T := fun k => match k with
  | 0 => ("FlateFilter$Matches", "earlier", "[I", true)
  | 1 => ("FlateFilter$Matches", "latest", "[I", true)
  | 2 => ("FlateFilter$Matches", "values", "[I", true)
  | 3 => ("FlateFilter$Matches", "distances", "[I", true)
  | 4 => ("FlateFilter$Matches", "count", "I", false)
  | 5 => ("FlateFilter$Matches", "bestLength", "I", false)
  | _ => ("FlateFilter$Matches", "bestDistance", "I", false)
def tyX5 : Nat → FieldType := fun k => match k with
  | 0 => .array .int
  | 1 => .array .int
  | 2 => .array .int
  | 3 => .array .int
  | 4 => .int
  | 5 => .int
  | _ => .int
theorem nmX5 : ∀ a, a < 7 → ∀ b, b < 7 → a ≠ b → (TX5 a).2.1 ≠ (TX5 b).2.1 := by decide +kernel
theorem tyX5_ok : ∀ k, k < 7 → parseFieldDescriptor (TX5 k).2.2.1 = some (tyX5 k) := by decide +kernel
theorem wsX5_ok : ∀ w ∈ u_ws RX5 TX5 7, w ∈ TB := inTs_ok (r := [229, 231, 233, 235, 237, 239, 241]) (by decide +kernel)
def TX6 : u_T := fun k => match k with
  | 0 => ("FlateFilter$Predictor", "kind", "I", false)
  | 1 => ("FlateFilter$Predictor", "rowBytes", "I", false)
  | _ => ("FlateFilter$Predictor", "step", "I", false)
def tyX6 : Nat → FieldType := fun k => match k with
  | 0 => .int
  | 1 => .int
  | _ => .int
theorem nmX6 : ∀ a, a < 3 → ∀ b, b < 3 → a ≠ b → (TX6 a).2.1 ≠ (TX6 b).2.1 := by decide +kernel
theorem tyX6_ok : ∀ k, k < 3 → parseFieldDescriptor (TX6 k).2.2.1 = some (tyX6 k) := by decide +kernel
theorem wsX6_ok : ∀ w ∈ u_ws RX6 TX6 3, w ∈ TB := inTs_ok (r := [141, 143, 145]) (by decide +kernel)
def TX9 : u_T := fun k => match k with
  | 0 => ("FlateFilter$Sink", "cells", "[B", false)
  | _ => ("FlateFilter$Sink", "bits", "I", false)
def tyX9 : Nat → FieldType := fun k => match k with
  | 0 => .array .byte
  | _ => .int
theorem nmX9 : ∀ a, a < 2 → ∀ b, b < 2 → a ≠ b → (TX9 a).2.1 ≠ (TX9 b).2.1 := by decide +kernel
theorem tyX9_ok : ∀ k, k < 2 → parseFieldDescriptor (TX9 k).2.2.1 = some (tyX9 k) := by decide +kernel
theorem wsX9_ok : ∀ w ∈ u_ws RX9 TX9 2, w ∈ TB := inTs_ok (r := [176, 178]) (by decide +kernel)
def TX10 : u_T := fun k => match k with
  | 0 => ("FlateFilter$Source", "cells", "[B", false)
  | 1 => ("FlateFilter$Source", "count", "I", false)
  | 2 => ("FlateFilter$Source", "taken", "I", false)
  | _ => ("FlateFilter$Source", "fault", "I", false)
def tyX10 : Nat → FieldType := fun k => match k with
  | 0 => .array .byte
  | 1 => .int
  | 2 => .int
  | _ => .int
theorem nmX10 : ∀ a, a < 4 → ∀ b, b < 4 → a ≠ b → (TX10 a).2.1 ≠ (TX10 b).2.1 := by decide +kernel
theorem tyX10_ok : ∀ k, k < 4 → parseFieldDescriptor (TX10 k).2.2.1 = some (tyX10 k) := by decide +kernel
theorem wsX10_ok : ∀ w ∈ u_ws RX10 TX10 4, w ∈ TB := inTs_ok (r := [159, 161, 163, 165]) (by decide +kernel)
def TX11 : u_T := fun k => match k with
  | 0 => ("FlateFilter", "bound", "I", true)
  | 1 => ("FlateFilter", "bytes", "[B", true)
  | 2 => ("FlateFilter", "byteCount", "I", false)
  | 3 => ("FlateFilter", "result", "[B", false)
  | 4 => ("FlateFilter", "resultCount", "I", false)
  | 5 => ("FlateFilter", "spare", "[B", false)
  | 6 => ("FlateFilter", "predicted", "[B", true)
  | 7 => ("FlateFilter", "sumDiffered", "Z", false)
  | 8 => ("FlateFilter", "rows", "LFlateFilter$Predictor;", true)
  | 9 => ("FlateFilter", "source", "LFlateFilter$Source;", true)
  | 10 => ("FlateFilter", "sink", "LFlateFilter$Sink;", true)
  | 11 => ("FlateFilter", "flatePacker", "LFlateFilter$FlatePacker;", true)
  | 12 => ("FlateFilter", "flateUnpacker", "LFlateFilter$FlateUnpacker;", true)
  | _ => ("FlateFilter", "dictionary", "LFlateFilter$Dictionary;", true)
def tyX11 : Nat → FieldType := fun k => match k with
  | 0 => .int
  | 1 => .array .byte
  | 2 => .int
  | 3 => .array .byte
  | 4 => .int
  | 5 => .array .byte
  | 6 => .array .byte
  | 7 => .boolean
  | 8 => .object "FlateFilter$Predictor"
  | 9 => .object "FlateFilter$Source"
  | 10 => .object "FlateFilter$Sink"
  | 11 => .object "FlateFilter$FlatePacker"
  | 12 => .object "FlateFilter$FlateUnpacker"
  | _ => .object "FlateFilter$Dictionary"
theorem nmX11 : ∀ a, a < 14 → ∀ b, b < 14 → a ≠ b → (TX11 a).2.1 ≠ (TX11 b).2.1 := by decide +kernel
theorem tyX11_ok : ∀ k, k < 14 → parseFieldDescriptor (TX11 k).2.2.1 = some (tyX11 k) := by decide +kernel
theorem wsX11_ok : ∀ w ∈ u_ws RX11 TX11 14, w ∈ TB := inTs_ok (r := [351, 353, 355, 357, 359, 361, 363, 365, 367, 369, 371, 373, 375, 377]) (by decide +kernel)
def TX12 : u_T := fun k => match k with
  | 0 => ("FlateFilterModel", "thrown", "I", false)
  | 1 => ("FlateFilterModel", "most", "I", true)
  | 2 => ("FlateFilterModel", "size", "I", false)
  | 3 => ("FlateFilterModel", "bytes", "[I", true)
  | 4 => ("FlateFilterModel", "outSize", "I", false)
  | 5 => ("FlateFilterModel", "out", "[I", true)
  | 6 => ("FlateFilterModel", "isOther", "Z", false)
  | 7 => ("FlateFilterModel", "predictor", "I", false)
  | 8 => ("FlateFilterModel", "colours", "I", false)
  | 9 => ("FlateFilterModel", "depth", "I", false)
  | 10 => ("FlateFilterModel", "columns", "I", false)
  | 11 => ("FlateFilterModel", "rowSize", "I", false)
  | 12 => ("FlateFilterModel", "row", "[I", true)
  | 13 => ("FlateFilterModel", "madeSize", "I", false)
  | 14 => ("FlateFilterModel", "made", "[I", true)
  | 15 => ("FlateFilterModel", "bestSize", "I", false)
  | 16 => ("FlateFilterModel", "best", "[I", true)
  | 17 => ("FlateFilterModel", "isLowest", "Z", false)
  | 18 => ("FlateFilterModel", "held", "I", false)
  | 19 => ("FlateFilterModel", "many", "I", false)
  | 20 => ("FlateFilterModel", "tokens", "I", false)
  | 21 => ("FlateFilterModel", "tokenLength", "[I", true)
  | 22 => ("FlateFilterModel", "tokenDistance", "[I", true)
  | 23 => ("FlateFilterModel", "matchLength", "I", false)
  | 24 => ("FlateFilterModel", "matchDistance", "I", false)
  | 25 => ("FlateFilterModel", "often", "[I", true)
  | 26 => ("FlateFilterModel", "length", "[I", true)
  | 27 => ("FlateFilterModel", "code", "[I", true)
  | 28 => ("FlateFilterModel", "weight", "[I", true)
  | 29 => ("FlateFilterModel", "greatest", "[I", true)
  | 30 => ("FlateFilterModel", "parent", "[I", true)
  | 31 => ("FlateFilterModel", "all", "[I", true)
  | 32 => ("FlateFilterModel", "tells", "I", false)
  | 33 => ("FlateFilterModel", "tell", "[I", true)
  | 34 => ("FlateFilterModel", "tellMore", "[I", true)
  | 35 => ("FlateFilterModel", "fault", "I", false)
  | 36 => ("FlateFilterModel", "place", "I", false)
  | 37 => ("FlateFilterModel", "taken", "I", false)
  | 38 => ("FlateFilterModel", "starts", "[I", true)
  | _ => ("FlateFilterModel", "sizes", "[I", true)
def tyX12 : Nat → FieldType := fun k => match k with
  | 0 => .int
  | 1 => .int
  | 2 => .int
  | 3 => .array .int
  | 4 => .int
  | 5 => .array .int
  | 6 => .boolean
  | 7 => .int
  | 8 => .int
  | 9 => .int
  | 10 => .int
  | 11 => .int
  | 12 => .array .int
  | 13 => .int
  | 14 => .array .int
  | 15 => .int
  | 16 => .array .int
  | 17 => .boolean
  | 18 => .int
  | 19 => .int
  | 20 => .int
  | 21 => .array .int
  | 22 => .array .int
  | 23 => .int
  | 24 => .int
  | 25 => .array .int
  | 26 => .array .int
  | 27 => .array .int
  | 28 => .array .int
  | 29 => .array .int
  | 30 => .array .int
  | 31 => .array .int
  | 32 => .int
  | 33 => .array .int
  | 34 => .array .int
  | 35 => .int
  | 36 => .int
  | 37 => .int
  | 38 => .array .int
  | _ => .array .int
theorem nmX12 : ∀ a, a < 40 → ∀ b, b < 40 → a ≠ b → (TX12 a).2.1 ≠ (TX12 b).2.1 := by decide +kernel
theorem tyX12_ok : ∀ k, k < 40 → parseFieldDescriptor (TX12 k).2.2.1 = some (tyX12 k) := by decide +kernel
theorem wsX12_ok : ∀ w ∈ u_ws RX12 TX12 40, w ∈ TB := inTs_ok (r := [1068, 1070, 1072, 1074, 1076, 1078, 1080, 1082, 1084, 1086, 1088, 1090, 1092, 1094, 1096, 1098, 1100, 1102, 1104, 1106, 1108, 1110, 1112, 1114, 1116, 1118, 1120, 1122, 1124, 1126, 1128, 1130, 1132, 1134, 1136, 1138, 1140, 1142, 1144, 1146]) (by decide +kernel)
def nCl : List vw_C := [(RX0, TX0, 7), (RX1, TX1, 3), (RX3, TX3, 15), (RX4, TX4, 8), (RX5, TX5, 7), (RX6, TX6, 3), (RX9, TX9, 2), (RX10, TX10, 4), (RX11, TX11, 14), (RX12, TX12, 40)]
def nTy (ci : Nat) : Nat → FieldType := match ci with
  | 0 => tyX0
  | 1 => tyX1
  | 2 => tyX3
  | 3 => tyX4
  | 4 => tyX5
  | 5 => tyX6
  | 6 => tyX9
  | 7 => tyX10
  | 8 => tyX11
  | _ => tyX12
theorem nCl_ok : CLok TB nCl nTy := by
  intro ci r h
  match ci, h with
  | 0, h => cases h; exact ⟨wsX0_ok, tyX0_ok, nmX0⟩
  | 1, h => cases h; exact ⟨wsX1_ok, tyX1_ok, nmX1⟩
  | 2, h => cases h; exact ⟨wsX3_ok, tyX3_ok, nmX3⟩
  | 3, h => cases h; exact ⟨wsX4_ok, tyX4_ok, nmX4⟩
  | 4, h => cases h; exact ⟨wsX5_ok, tyX5_ok, nmX5⟩
  | 5, h => cases h; exact ⟨wsX6_ok, tyX6_ok, nmX6⟩
  | 6, h => cases h; exact ⟨wsX9_ok, tyX9_ok, nmX9⟩
  | 7, h => cases h; exact ⟨wsX10_ok, tyX10_ok, nmX10⟩
  | 8, h => cases h; exact ⟨wsX11_ok, tyX11_ok, nmX11⟩
  | 9, h => cases h; exact ⟨wsX12_ok, tyX12_ok, nmX12⟩
  | ci + 10, h => exact absurd h (by simp [nCl])
def nMT0 : List (MI × Nat) := [
  ((⟨RX0, "<init>", "(I)V"⟩, prog_2_method_1_code, 2, none, 1), 99),
  ((⟨RX0, "clear", "()V"⟩, prog_2_method_2_code, 1, none, 0), 99),
  ((⟨RX0, "setLength", "(II)V"⟩, prog_2_method_3_code, 3, none, 2), 99),
  ((⟨RX0, "setLengths", "(III)V"⟩, prog_2_method_4_code, 5, none, 3), 99),
  ((⟨RX0, "lengthOf", "(I)I"⟩, prog_2_method_5_code, 2, (some .int), 1), 99),
  ((⟨RX0, "turnedCodeOf", "(I)I"⟩, prog_2_method_6_code, 2, (some .int), 1), 99),
  ((⟨RX0, "toldSymbols", "(I)I"⟩, prog_2_method_7_code, 4, (some .int), 1), 99),
  ((⟨RX0, "arrange", "(Z)Z"⟩, prog_2_method_8_code, 6, (some .boolean), 1), 99),
  ((⟨RX0, "turn", "(II)I"⟩, prog_2_method_9_code, 4, (some .int), 2), 99),
  ((⟨RX0, "countLengths", "()I"⟩, prog_2_method_10_code, 5, (some .int), 0), 99),
  ((⟨RX0, "read", "(LFlateFilter$Source;)I"⟩, prog_2_method_11_code, 8, (some .int), 1), 99),
  ((⟨RX1, "<init>", "()V"⟩, prog_3_method_1_code, 1, none, 0), 103),
  ((⟨RX1, "widthFor", "(I)I"⟩, prog_3_method_2_code, 1, (some .int), 1), 103),
  ((⟨RX1, "read", "(LFlateFilter$Source;LFlateFilter$Sink;)V"⟩, prog_3_method_3_code, 8, none, 2), 103),
  ((⟨RX1, "sizeOf", "(II)I"⟩, prog_3_method_4_code, 3, (some .int), 2), 103),
  ((⟨RX1, "giveCode", "(IILFlateFilter$Sink;)Z"⟩, prog_3_method_5_code, 6, (some .boolean), 3), 103),
  ((⟨RX1, "write", "([BILFlateFilter$Sink;)V"⟩, prog_3_method_6_code, 10, none, 3), 103),
  ((⟨RX1, "longerBy", "(II)I"⟩, prog_3_method_7_code, 5, (some .int), 2), 103),
  ((⟨RX1, "hang", "(III)V"⟩, prog_3_method_8_code, 4, none, 3), 103),
  ((⟨RX2, "tellerAt", "(I)I"⟩, prog_4_method_2_code, 1, (some .int), 1), 111),
  ((⟨RX2, "tellerBits", "(I)I"⟩, prog_4_method_3_code, 1, (some .int), 1), 111),
  ((⟨RX2, "tellerLeast", "(I)I"⟩, prog_4_method_4_code, 1, (some .int), 1), 111),
  ((⟨RX2, "lengthWidth", "(I)I"⟩, prog_4_method_5_code, 1, (some .int), 1), 111),
  ((⟨RX2, "leastLength", "(II)I"⟩, prog_4_method_6_code, 2, (some .int), 2), 111),
  ((⟨RX2, "distanceWidth", "(I)I"⟩, prog_4_method_7_code, 1, (some .int), 1), 111),
  ((⟨RX2, "leastDistance", "(II)I"⟩, prog_4_method_8_code, 2, (some .int), 2), 111),
  ((⟨RX2, "setFixed", "(LFlateFilter$Codes;LFlateFilter$Codes;)V"⟩, prog_4_method_9_code, 2, none, 2), 111),
  ((⟨RX3, "<init>", "(LFlateFilter$Codes;LFlateFilter$Codes;LFlateFilter$Codes;)V"⟩, prog_5_method_1_code, 4, none, 3), 100),
  ((⟨RX3, "write", "([BIILFlateFilter$Sink;)V"⟩, prog_5_method_2_code, 8, none, 4), 100),
  ((⟨RX3, "writeLevel", "([BIILFlateFilter$Sink;)V"⟩, prog_5_method_3_code, 8, none, 4), 100)]
set_option maxRecDepth 100000 in
set_option maxHeartbeats 4000000 in
theorem nMT0_c : ∀ q ∈ nMT0, Cond.code q.1.1 q.1.2.1 q.1.2.2.1 q.1.2.2.2.1 ∈ TB := codes_ok [185, 695, 609, 605, 679, 711, 674, 613, 621, 617, 844, 325, 735, 902, 911, 915, 730, 743, 747, 702, 714, 888, 853, 863, 856, 859, 601, 214, 553, 581] rfl
theorem nMT0_ok : MTok TB (nMT0.map fun q => q.1) := MTok_of (by decide +kernel) nMT0_c
def nMT1 : List (MI × Nat) := [
  ((⟨RX3, "writeStored", "([BILFlateFilter$Sink;)V"⟩, prog_5_method_4_code, 5, none, 3), 100),
  ((⟨RX3, "writeMatches", "(LFlateFilter$Sink;)V"⟩, prog_5_method_5_code, 6, none, 1), 100),
  ((⟨RX3, "writeCode", "(LFlateFilter$Codes;ILFlateFilter$Sink;)V"⟩, prog_5_method_6_code, 3, none, 3), 100),
  ((⟨RX3, "extraWidth", "(II)I"⟩, prog_5_method_7_code, 3, (some .int), 2), 100),
  ((⟨RX3, "lengthSymbol", "(I)I"⟩, prog_5_method_8_code, 2, (some .int), 1), 100),
  ((⟨RX3, "distanceSymbol", "(I)I"⟩, prog_5_method_9_code, 2, (some .int), 1), 100),
  ((⟨RX3, "makeCodes", "()V"⟩, prog_5_method_10_code, 3, none, 0), 100),
  ((⟨RX3, "countOne", "([II)V"⟩, prog_5_method_11_code, 2, none, 2), 100),
  ((⟨RX3, "makeLengths", "([ILFlateFilter$Codes;)V"⟩, prog_5_method_12_code, 7, none, 2), 100),
  ((⟨RX3, "leastGroup", "(II)I"⟩, prog_5_method_13_code, 7, (some .int), 2), 100),
  ((⟨RX3, "joinGroups", "(III)V"⟩, prog_5_method_14_code, 7, none, 3), 100),
  ((⟨RX3, "tellLengths", "()V"⟩, prog_5_method_15_code, 6, none, 0), 100),
  ((⟨RX3, "runOf", "(II)I"⟩, prog_5_method_16_code, 4, (some .int), 2), 100),
  ((⟨RX3, "tell", "(III)I"⟩, prog_5_method_17_code, 4, (some .int), 3), 100),
  ((⟨RX3, "makeTellers", "()V"⟩, prog_5_method_18_code, 5, none, 0), 100),
  ((⟨RX3, "writeTellers", "(LFlateFilter$Sink;)V"⟩, prog_5_method_19_code, 4, none, 1), 100),
  ((⟨RX4, "<init>", "(LFlateFilter$Codes;LFlateFilter$Codes;LFlateFilter$Codes;)V"⟩, prog_6_method_1_code, 4, none, 3), 102),
  ((⟨RX4, "read", "(LFlateFilter$Source;LFlateFilter$Sink;)Z"⟩, prog_6_method_2_code, 6, (some .boolean), 2), 102),
  ((⟨RX4, "takeByte", "(I)Z"⟩, prog_6_method_3_code, 3, (some .boolean), 1), 102),
  ((⟨RX4, "readPair", "(Z)I"⟩, prog_6_method_4_code, 4, (some .int), 1), 102),
  ((⟨RX4, "readBlock", "(I)Z"⟩, prog_6_method_5_code, 2, (some .boolean), 1), 102),
  ((⟨RX4, "readStored", "()Z"⟩, prog_6_method_6_code, 5, (some .boolean), 0), 102),
  ((⟨RX4, "readSymbols", "()Z"⟩, prog_6_method_7_code, 4, (some .boolean), 0), 102),
  ((⟨RX4, "copyMatch", "(I)Z"⟩, prog_6_method_8_code, 10, (some .boolean), 1), 102),
  ((⟨RX4, "readTellers", "()Z"⟩, prog_6_method_9_code, 4, (some .boolean), 0), 102),
  ((⟨RX4, "readTold", "()Z"⟩, prog_6_method_10_code, 9, (some .boolean), 0), 102),
  ((⟨RX4, "useTold", "()Z"⟩, prog_6_method_11_code, 2, (some .boolean), 0), 102),
  ((⟨RX5, "<init>", "(I)V"⟩, prog_7_method_1_code, 2, none, 1), 101),
  ((⟨RX5, "count", "()I"⟩, prog_7_method_2_code, 1, (some .int), 0), 101),
  ((⟨RX5, "valueAt", "(I)I"⟩, prog_7_method_3_code, 2, (some .int), 1), 101)]
set_option maxRecDepth 100000 in
set_option maxHeartbeats 4000000 in
theorem nMT1_c : ∀ q ∈ nMT1, Cond.code q.1.1 q.1.2.1 q.1.2.2.1 q.1.2.2.2.1 ∈ TB := codes_ok [597, 718, 707, 647, 644, 650, 625, 641, 654, 659, 663, 670, 683, 687, 691, 699, 294, 801, 805, 830, 822, 826, 840, 850, 871, 883, 892, 220, 630, 638] rfl
theorem nMT1_ok : MTok TB (nMT1.map fun q => q.1) := MTok_of (by decide +kernel) nMT1_c
def nMT2 : List (MI × Nat) := [
  ((⟨RX5, "distanceAt", "(I)I"⟩, prog_7_method_4_code, 2, (some .int), 1), 101),
  ((⟨RX5, "find", "([BI)V"⟩, prog_7_method_5_code, 8, none, 2), 101),
  ((⟨RX5, "keep", "(II)V"⟩, prog_7_method_6_code, 3, none, 2), 101),
  ((⟨RX5, "link", "([BI)V"⟩, prog_7_method_7_code, 5, none, 2), 101),
  ((⟨RX5, "seek", "([BII)V"⟩, prog_7_method_8_code, 8, none, 3), 101),
  ((⟨RX5, "alike", "([BIII)I"⟩, prog_7_method_9_code, 6, (some .int), 4), 101),
  ((⟨RX6, "<init>", "()V"⟩, prog_8_method_1_code, 1, none, 0), 96),
  ((⟨RX6, "isNone", "()Z"⟩, prog_8_method_2_code, 1, (some .boolean), 0), 96),
  ((⟨RX6, "choose", "(IIII)I"⟩, prog_8_method_3_code, 7, (some .int), 4), 96),
  ((⟨RX6, "filter", "([BI[B)I"⟩, prog_8_method_4_code, 10, (some .int), 3), 96),
  ((⟨RX6, "restore", "([BI)I"⟩, prog_8_method_5_code, 11, (some .int), 2), 96),
  ((⟨RX6, "wayOf", "([BII)I"⟩, prog_8_method_6_code, 8, (some .int), 3), 96),
  ((⟨RX6, "costOf", "([BIII)I"⟩, prog_8_method_7_code, 8, (some .int), 4), 96),
  ((⟨RX6, "guess", "([BIII)I"⟩, prog_8_method_8_code, 10, (some .int), 4), 96),
  ((⟨RX6, "cellAt", "([BI)I"⟩, prog_8_method_9_code, 2, (some .int), 2), 96),
  ((⟨RX6, "nearest", "(III)I"⟩, prog_8_method_10_code, 7, (some .int), 3), 96),
  ((⟨RX7, "write", "([BILFlateFilter$Sink;)V"⟩, prog_9_method_2_code, 8, none, 3), 112),
  ((⟨RX7, "runOf", "([BII)I"⟩, prog_9_method_3_code, 4, (some .int), 3), 112),
  ((⟨RX7, "endOfOthers", "([BII)I"⟩, prog_9_method_4_code, 4, (some .int), 3), 112),
  ((⟨RX7, "read", "(LFlateFilter$Source;LFlateFilter$Sink;)V"⟩, prog_9_method_5_code, 7, none, 2), 112),
  ((⟨RX8, "writeHalves", "([BILFlateFilter$Sink;)V"⟩, prog_10_method_2_code, 4, none, 3), 113),
  ((⟨RX8, "halfSign", "(I)I"⟩, prog_10_method_3_code, 1, (some .int), 1), 113),
  ((⟨RX8, "halfOf", "(I)I"⟩, prog_10_method_4_code, 1, (some .int), 1), 113),
  ((⟨RX8, "readHalves", "(LFlateFilter$Source;LFlateFilter$Sink;)V"⟩, prog_10_method_5_code, 7, none, 2), 113),
  ((⟨RX8, "writeFives", "([BILFlateFilter$Sink;)V"⟩, prog_10_method_6_code, 9, none, 3), 113),
  ((⟨RX8, "digitOf", "(JI)I"⟩, prog_10_method_7_code, 6, (some .int), 2), 113),
  ((⟨RX8, "readFives", "(LFlateFilter$Source;LFlateFilter$Sink;)V"⟩, prog_10_method_8_code, 8, none, 2), 113),
  ((⟨RX8, "endFives", "(JILFlateFilter$Source;LFlateFilter$Sink;)V"⟩, prog_10_method_9_code, 8, none, 4), 113),
  ((⟨RX8, "giveFour", "(JILFlateFilter$Sink;)Z"⟩, prog_10_method_10_code, 5, (some .boolean), 3), 113),
  ((⟨RX9, "<init>", "()V"⟩, prog_11_method_1_code, 1, none, 0), 98)]
set_option maxRecDepth 100000 in
set_option maxHeartbeats 4000000 in
theorem nMT2_c : ∀ q ∈ nMT2, Cond.code q.1.1 q.1.2.1 q.1.2.2.1 q.1.2.2.2.1 ∈ TB := codes_ok [634, 557, 577, 562, 569, 573, 136, 517, 387, 521, 949, 528, 532, 536, 539, 542, 750, 754, 758, 921, 761, 764, 931, 927, 768, 773, 936, 939, 944, 172] rfl
theorem nMT2_ok : MTok TB (nMT2.map fun q => q.1) := MTok_of (by decide +kernel) nMT2_c
def nMT3 : List (MI × Nat) := [
  ((⟨RX9, "begin", "([B)V"⟩, prog_11_method_2_code, 2, none, 1), 98),
  ((⟨RX9, "restart", "()V"⟩, prog_11_method_3_code, 1, none, 0), 98),
  ((⟨RX9, "size", "()I"⟩, prog_11_method_4_code, 1, (some .int), 0), 98),
  ((⟨RX9, "at", "(I)I"⟩, prog_11_method_5_code, 2, (some .int), 1), 98),
  ((⟨RX9, "sumOfAll", "()J"⟩, prog_11_method_6_code, 1, (some .long), 0), 98),
  ((⟨RX9, "put", "(I)V"⟩, prog_11_method_7_code, 3, none, 1), 98),
  ((⟨RX9, "offer", "(I)Z"⟩, prog_11_method_8_code, 3, (some .boolean), 1), 98),
  ((⟨RX9, "putLowNumber", "(II)V"⟩, prog_11_method_9_code, 7, none, 2), 98),
  ((⟨RX9, "putHighNumber", "(II)V"⟩, prog_11_method_10_code, 7, none, 2), 98),
  ((⟨RX10, "<init>", "()V"⟩, prog_12_method_1_code, 1, none, 0), 97),
  ((⟨RX10, "begin", "([BI)V"⟩, prog_12_method_2_code, 3, none, 2), 97),
  ((⟨RX10, "isFaulty", "()Z"⟩, prog_12_method_3_code, 1, (some .boolean), 0), 97),
  ((⟨RX10, "faultPlace", "()I"⟩, prog_12_method_4_code, 1, (some .int), 0), 97),
  ((⟨RX10, "fail", "()Z"⟩, prog_12_method_5_code, 1, (some .boolean), 0), 97),
  ((⟨RX10, "nextByte", "()I"⟩, prog_12_method_6_code, 2, (some .int), 0), 97),
  ((⟨RX10, "lowNumber", "(I)I"⟩, prog_12_method_7_code, 5, (some .int), 1), 97),
  ((⟨RX10, "highNumber", "(I)I"⟩, prog_12_method_8_code, 5, (some .int), 1), 97),
  ((⟨RX11, "<init>", "(J)V"⟩, prog_1_method_1_code, 6, none, 1), 94),
  ((⟨RX11, "add", "(B)V"⟩, prog_1_method_2_code, 2, none, 1), 94),
  ((⟨RX11, "pack", "(II)I"⟩, prog_1_method_3_code, 3, (some .int), 2), 94),
  ((⟨RX11, "unpack", "(I)I"⟩, prog_1_method_4_code, 3, (some .int), 1), 94),
  ((⟨RX11, "out", "(I)B"⟩, prog_1_method_5_code, 2, (some .byte), 1), 94),
  ((⟨RX11, "predictor", "(IIII)I"⟩, prog_1_method_6_code, 5, (some .int), 4), 94),
  ((⟨RX11, "table", "(I)I"⟩, prog_1_method_7_code, 5, (some .int), 1), 94),
  ((⟨RX11, "sum", "(I)J"⟩, prog_1_method_8_code, 2, (some .long), 1), 94),
  ((⟨RX11, "differs", "()Z"⟩, prog_1_method_9_code, 1, (some .boolean), 0), 94),
  ((⟨RX11, "chain", "(I)I"⟩, prog_1_method_10_code, 3, (some .int), 1), 94),
  ((⟨RX11, "cell", "(I)I"⟩, prog_1_method_11_code, 2, (some .int), 1), 94),
  ((⟨RX11, "isKind", "(I)Z"⟩, prog_1_method_12_code, 1, (some .boolean), 1), 94),
  ((⟨RX11, "isPredicted", "(I)Z"⟩, prog_1_method_13_code, 2, (some .boolean), 1), 94)]
set_option maxRecDepth 100000 in
set_option maxHeartbeats 4000000 in
theorem nMT3_c : ∀ q ∈ nMT3, Cond.code q.1.1 q.1.2.1 q.1.2.2.1 q.1.2.2.2.1 ∈ TB := codes_ok [549, 585, 726, 867, 896, 589, 835, 593, 739, 153, 792, 875, 954, 813, 809, 818, 906, 121, 410, 485, 788, 962, 383, 394, 990, 399, 1004, 1019, 488, 513] rfl
theorem nMT3_ok : MTok TB (nMT3.map fun q => q.1) := MTok_of (by decide +kernel) nMT3_c
def nMT4 : List (MI × Nat) := [
  ((⟨RX11, "packToSpare", "([BIII)I"⟩, prog_1_method_14_code, 7, (some .int), 4), 94),
  ((⟨RX11, "unpackToSpare", "(I)Z"⟩, prog_1_method_15_code, 2, (some .boolean), 1), 94),
  ((⟨RX11, "keepSpare", "(I)I"⟩, prog_1_method_16_code, 3, (some .int), 1), 94),
  ((⟨RX11, "becomeBytes", "(I)V"⟩, prog_1_method_17_code, 2, none, 1), 94),
  ((⟨RX11, "byteSum", "([BI)J"⟩, prog_1_method_18_code, 5, (some .long), 2), 94),
  ((⟨RX11, "byteRemainder", "([BI)J"⟩, prog_1_method_19_code, 5, (some .long), 2), 94),
  ((⟨RX12, "<init>", "(J)V"⟩, prog_14_method_1_code, 3, none, 1), 104),
  ((⟨RX12, "add", "(B)V"⟩, prog_14_method_3_code, 2, none, 1), 104),
  ((⟨RX12, "rowBytes", "()I"⟩, prog_14_method_4_code, 2, (some .int), 0), 104),
  ((⟨RX12, "size", "(I)I"⟩, prog_14_method_5_code, 1, (some .int), 1), 104),
  ((⟨RX12, "predicted", "(I[III)I"⟩, prog_14_method_6_code, 14, (some .int), 4), 104),
  ((⟨RX12, "costOf", "(I[III)I"⟩, prog_14_method_7_code, 8, (some .int), 4), 104),
  ((⟨RX12, "predict", "([IIZ)V"⟩, prog_14_method_8_code, 9, none, 3), 104),
  ((⟨RX12, "putByte", "(I)V"⟩, prog_14_method_9_code, 2, none, 1), 104),
  ((⟨RX12, "putBit", "(I)V"⟩, prog_14_method_10_code, 2, none, 1), 104),
  ((⟨RX12, "putNumber", "(II)V"⟩, prog_14_method_11_code, 4, none, 2), 104),
  ((⟨RX12, "putCode", "(II)V"⟩, prog_14_method_12_code, 4, none, 2), 104),
  ((⟨RX12, "fill", "()V"⟩, prog_14_method_13_code, 1, none, 0), 104),
  ((⟨RX12, "begin", "(Z)V"⟩, prog_14_method_14_code, 2, none, 1), 104),
  ((⟨RX12, "number", "(II)V"⟩, prog_14_method_15_code, 6, none, 2), 104),
  ((⟨RX12, "leastNode", "(I)I"⟩, prog_14_method_16_code, 5, (some .int), 1), 104),
  ((⟨RX12, "suit", "(II)V"⟩, prog_14_method_17_code, 9, none, 2), 104),
  ((⟨RX12, "setFixed", "()V"⟩, prog_14_method_18_code, 2, none, 0), 104),
  ((⟨RX12, "lengthExtra", "(I)I"⟩, prog_14_method_19_code, 1, (some .int), 1), 104),
  ((⟨RX12, "lengthFrom", "(I)I"⟩, prog_14_method_20_code, 1, (some .int), 1), 104),
  ((⟨RX12, "distanceExtra", "(I)I"⟩, prog_14_method_21_code, 1, (some .int), 1), 104),
  ((⟨RX12, "distanceFrom", "(I)I"⟩, prog_14_method_22_code, 1, (some .int), 1), 104),
  ((⟨RX12, "lengthSymbol", "(I)I"⟩, prog_14_method_23_code, 3, (some .int), 1), 104),
  ((⟨RX12, "distanceSymbol", "(I)I"⟩, prog_14_method_24_code, 3, (some .int), 1), 104),
  ((⟨RX12, "match", "(I)V"⟩, prog_14_method_25_code, 4, none, 1), 104)]
set_option maxRecDepth 100000 in
set_option maxHeartbeats 4000000 in
theorem nMT4_c : ∀ q ∈ nMT4, Cond.code q.1.1 q.1.2.1 q.1.2.2.1 q.1.2.2.2.1 ∈ TB := codes_ok [509, 797, 780, 1008, 721, 995, 1025, 1152, 1168, 1179, 1176, 1172, 1164, 1195, 1203, 1199, 1236, 1207, 1191, 1224, 1266, 1262, 1220, 1245, 1242, 1254, 1251, 1239, 1248, 1216] rfl
theorem nMT4_ok : MTok TB (nMT4.map fun q => q.1) := MTok_of (by decide +kernel) nMT4_c
def nMT5 : List (MI × Nat) := [
  ((⟨RX12, "findTokens", "()V"⟩, prog_14_method_26_code, 5, none, 0), 104),
  ((⟨RX12, "putSymbol", "(II)V"⟩, prog_14_method_27_code, 3, none, 2), 104),
  ((⟨RX12, "putTokens", "()V"⟩, prog_14_method_28_code, 4, none, 0), 104),
  ((⟨RX12, "orderOf", "(I)I"⟩, prog_14_method_29_code, 2, (some .int), 1), 104),
  ((⟨RX12, "addTell", "(II)V"⟩, prog_14_method_30_code, 3, none, 2), 104),
  ((⟨RX12, "alikeFrom", "(III)I"⟩, prog_14_method_31_code, 5, (some .int), 3), 104),
  ((⟨RX12, "findTells", "(I)V"⟩, prog_14_method_32_code, 5, none, 1), 104),
  ((⟨RX12, "setTellCodes", "()V"⟩, prog_14_method_33_code, 5, none, 0), 104),
  ((⟨RX12, "putTold", "()V"⟩, prog_14_method_34_code, 5, none, 0), 104),
  ((⟨RX12, "sumOf", "([II)J"⟩, prog_14_method_35_code, 7, (some .long), 2), 104),
  ((⟨RX12, "remainderOf", "([II)J"⟩, prog_14_method_36_code, 6, (some .long), 2), 104),
  ((⟨RX12, "packWay", "(I)V"⟩, prog_14_method_37_code, 5, none, 1), 104),
  ((⟨RX12, "packFlate", "(I)V"⟩, prog_14_method_38_code, 4, none, 1), 104),
  ((⟨RX12, "widthOf", "(I)I"⟩, prog_14_method_39_code, 2, (some .int), 1), 104),
  ((⟨RX12, "fitsAt", "(II)I"⟩, prog_14_method_40_code, 5, (some .int), 2), 104),
  ((⟨RX12, "packDictionary", "()V"⟩, prog_14_method_41_code, 10, none, 0), 104),
  ((⟨RX12, "runAt", "(I)I"⟩, prog_14_method_42_code, 3, (some .int), 1), 104),
  ((⟨RX12, "packRuns", "()V"⟩, prog_14_method_43_code, 4, none, 0), 104),
  ((⟨RX12, "signOf", "(I)I"⟩, prog_14_method_44_code, 1, (some .int), 1), 104),
  ((⟨RX12, "packHalves", "()V"⟩, prog_14_method_45_code, 2, none, 0), 104),
  ((⟨RX12, "packFives", "()V"⟩, prog_14_method_46_code, 8, none, 0), 104),
  ((⟨RX12, "packAll", "([IIII)Z"⟩, prog_14_method_47_code, 5, (some .boolean), 4), 104),
  ((⟨RX12, "becomeOut", "()V"⟩, prog_14_method_48_code, 2, none, 0), 104),
  ((⟨RX12, "pack", "(II)I"⟩, prog_14_method_49_code, 3, (some .int), 2), 104),
  ((⟨RX12, "chain", "(I)I"⟩, prog_14_method_50_code, 4, (some .int), 1), 104),
  ((⟨RX12, "must", "(ZI)Z"⟩, prog_14_method_51_code, 3, (some .boolean), 2), 104),
  ((⟨RX12, "bit", "()I"⟩, prog_14_method_52_code, 2, (some .int), 0), 104),
  ((⟨RX12, "lowNumber", "(I)I"⟩, prog_14_method_53_code, 4, (some .int), 1), 104),
  ((⟨RX12, "highNumber", "(I)I"⟩, prog_14_method_54_code, 4, (some .int), 1), 104),
  ((⟨RX12, "passByte", "()V"⟩, prog_14_method_55_code, 1, none, 0), 104)]
set_option maxRecDepth 100000 in
set_option maxHeartbeats 4000000 in
theorem nMT5_c : ∀ q ∈ nMT5, Cond.code q.1.1 q.1.2.1 q.1.2.2.1 q.1.2.2.2.1 ∈ TB := codes_ok [1212, 1232, 1228, 1285, 1278, 1274, 1270, 1282, 1258, 1288, 1446, 1187, 1183, 1298, 1302, 1295, 1310, 1306, 1317, 1314, 1321, 1160, 1329, 1156, 1333, 1345, 1349, 1353, 1398, 1361] rfl
theorem nMT5_ok : MTok TB (nMT5.map fun q => q.1) := MTok_of (by decide +kernel) nMT5_c
def nMT6 : List (MI × Nat) := [
  ((⟨RX12, "give", "(II)V"⟩, prog_14_method_56_code, 3, none, 2), 104),
  ((⟨RX12, "take", "(II)I"⟩, prog_14_method_57_code, 6, (some .int), 2), 104),
  ((⟨RX12, "stateOf", "(II)I"⟩, prog_14_method_58_code, 7, (some .int), 2), 104),
  ((⟨RX12, "isRight", "(IIZ)Z"⟩, prog_14_method_59_code, 7, (some .boolean), 3), 104),
  ((⟨RX12, "stored", "()V"⟩, prog_14_method_60_code, 5, none, 0), 104),
  ((⟨RX12, "symbols", "(II)V"⟩, prog_14_method_61_code, 4, none, 2), 104),
  ((⟨RX12, "copyBack", "(II)V"⟩, prog_14_method_62_code, 7, none, 2), 104),
  ((⟨RX12, "toldCodes", "()V"⟩, prog_14_method_63_code, 9, none, 0), 104),
  ((⟨RX12, "unpackFlate", "()V"⟩, prog_14_method_64_code, 5, none, 0), 104),
  ((⟨RX12, "unpackDictionary", "()V"⟩, prog_14_method_65_code, 10, none, 0), 104),
  ((⟨RX12, "byteAt", "(I)I"⟩, prog_14_method_66_code, 2, (some .int), 1), 104),
  ((⟨RX12, "unpackRuns", "()V"⟩, prog_14_method_67_code, 6, none, 0), 104),
  ((⟨RX12, "halfOf", "(I)I"⟩, prog_14_method_68_code, 2, (some .int), 1), 104),
  ((⟨RX12, "unpackHalves", "()V"⟩, prog_14_method_69_code, 5, none, 0), 104),
  ((⟨RX12, "giveFour", "(JII)V"⟩, prog_14_method_70_code, 6, none, 3), 104),
  ((⟨RX12, "unpackFives", "()V"⟩, prog_14_method_71_code, 8, none, 0), 104),
  ((⟨RX12, "unpredict", "(Z)V"⟩, prog_14_method_72_code, 7, none, 1), 104),
  ((⟨RX12, "unpack", "(I)I"⟩, prog_14_method_73_code, 2, (some .int), 1), 104),
  ((⟨RX12, "out", "(I)B"⟩, prog_14_method_74_code, 2, (some .byte), 1), 104),
  ((⟨RX12, "predictor", "(IIII)I"⟩, prog_14_method_75_code, 7, (some .int), 4), 104),
  ((⟨RX12, "table", "(I)I"⟩, prog_14_method_76_code, 3, (some .int), 1), 104),
  ((⟨RX12, "sum", "(I)J"⟩, prog_14_method_77_code, 2, (some .long), 1), 104),
  ((⟨RX12, "differs", "()Z"⟩, prog_14_method_78_code, 1, (some .boolean), 0), 104),
  ((⟨RX12, "cell", "(I)I"⟩, prog_14_method_79_code, 2, (some .int), 1), 104),
  ((⟨RJ7, "fill", "([II)V"⟩, prog_25_method_103_code, 4, none, 2), 110)]
set_option maxRecDepth 100000 in
set_option maxHeartbeats 4000000 in
theorem nMT6_c : ∀ q ∈ nMT6, Cond.code q.1.1 q.1.2.1 q.1.2.2.1 q.1.2.2.2.1 ∈ TB := codes_ok [1365, 1373, 1389, 1385, 1357, 1369, 1377, 1381, 1341, 1394, 1406, 1402, 1413, 1410, 1421, 1417, 1427, 1337, 1431, 1435, 1439, 1443, 1453, 1457, 565] rfl
theorem nMT6_ok : MTok TB (nMT6.map fun q => q.1) := MTok_of (by decide +kernel) nMT6_c
def nMT : List MI := (nMT0.map fun q => q.1) ++ ((nMT1.map fun q => q.1) ++ ((nMT2.map fun q => q.1) ++ ((nMT3.map fun q => q.1) ++ ((nMT4.map fun q => q.1) ++ ((nMT5.map fun q => q.1) ++ ((nMT6.map fun q => q.1)))))))
theorem nMT_ok : MTok TB nMT := MTok_app nMT0_ok (MTok_app nMT1_ok (MTok_app nMT2_ok (MTok_app nMT3_ok (MTok_app nMT4_ok (MTok_app nMT5_ok (nMT6_ok))))))
theorem nAI : Cond.arrayClass .int ∈ TB ∧ Cond.arrayClass .byte ∈ TB := ⟨inT_ok (i := 209) (by decide +kernel), inT_ok (i := 148) (by decide +kernel)⟩

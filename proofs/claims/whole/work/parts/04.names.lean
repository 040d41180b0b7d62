/-! the fields of the made objects (names and types printed by program) -/
/-- words that stay true -/
def am_wk (w : Cond) : Bool := (w.onTables && w.keeps) || match w with
  | .arrayClass _ => true
  | .fieldLinkNest .. => true
  | .methodLinkNest .. => true
  | .castable .. => true
  | .arrayOver (.object _) => true
  | .arrayOver (.array _) => true
  | _ => false
def am_tb : List Cond := lw_tbl.filter am_wk
theorem am_mem {w : Cond} (i : Nat) (h : lw_tbl[i]? = some w) (hw : am_wk w = true) : w ∈ am_tb := List.mem_filter.mpr ⟨List.mem_of_getElem? h, hw⟩
theorem am_inP (ws : List Cond) (ps : List Nat) (hp : ws = ps.filterMap (fun i => lw_tbl[i]?)) (ha : ws.all am_wk = true) : ∀ w ∈ ws, w ∈ am_tb := by
  intro w hw
  have h1 := List.all_eq_true.mp ha w hw
  rw [hp] at hw
  obtain ⟨i, -, hi⟩ := List.mem_filterMap.mp hw
  exact am_mem i hi h1
def RX0 : String := "SnorePlay$Graph"
def TX0 : u_T := fun k => match k with
  | 0 => ("SnorePlay$Graph", "stage", "LSnorePlay$Stage;", true)
  | 1 => ("SnorePlay$Graph", "trial", "LSnorePlay$Play;", true)
  | 2 => ("SnorePlay$Graph", "next", "[I", true)
  | 3 => ("SnorePlay$Graph", "nextIfWoken", "[I", true)
  | 4 => ("SnorePlay$Graph", "setting", "J", false)
  | 5 => ("SnorePlay$Graph", "now", "I", false)
  | 6 => ("SnorePlay$Graph", "reached", "[I", true)
  | 7 => ("SnorePlay$Graph", "reachedCount", "I", false)
  | 8 => ("SnorePlay$Graph", "reachedMarks", "[I", true)
  | 9 => ("SnorePlay$Graph", "path", "[I", true)
  | 10 => ("SnorePlay$Graph", "placeOnPath", "[I", true)
  | 11 => ("SnorePlay$Graph", "steps", "I", false)
  | _ => ("SnorePlay$Graph", "loop", "I", false)
def tyX0 : Nat → FieldType := fun k => match k with
  | 0 => .object "SnorePlay$Stage"
  | 1 => .object "SnorePlay$Play"
  | 2 => .array .int
  | 3 => .array .int
  | 4 => .long
  | 5 => .int
  | 6 => .array .int
  | 7 => .int
  | 8 => .array .int
  | 9 => .array .int
  | 10 => .array .int
  | 11 => .int
  | _ => .int
theorem nmX0 : ∀ a, a < 13 → ∀ b, b < 13 → a ≠ b → (TX0 a).2.1 ≠ (TX0 b).2.1 := by decide +kernel
theorem tyX0_ok : ∀ k, k < 13 → parseFieldDescriptor (TX0 k).2.2.1 = some (tyX0 k) := by decide +kernel
set_option maxRecDepth 20000 in
theorem inX0 : ∀ w ∈ u_ws RX0 TX0 13, w ∈ am_tb := am_inP (u_ws RX0 TX0 13) [411, 413, 415, 417, 419, 421, 423, 425, 427, 429, 431, 433, 435] rfl (by decide +kernel)
def RX1 : String := "SnorePlay$House"
def TX1 : u_T := fun k => match k with
  | 0 => ("SnorePlay$House", "serial", "I", true)
  | 1 => ("SnorePlay$House", "beds", "I", false)
  | 2 => ("SnorePlay$House", "sounds", "I", false)
  | 3 => ("SnorePlay$House", "acts", "I", false)
  | 4 => ("SnorePlay$House", "sleepers", "I", false)
  | 5 => ("SnorePlay$House", "bedOf", "[I", true)
  | 6 => ("SnorePlay$House", "dreamOf", "[I", true)
  | 7 => ("SnorePlay$House", "openingLast", "I", false)
  | 8 => ("SnorePlay$House", "openingSound", "I", false)
  | 9 => ("SnorePlay$House", "turningSound", "I", false)
  | 10 => ("SnorePlay$House", "hush", "I", false)
  | 11 => ("SnorePlay$House", "lines", "I", false)
  | 12 => ("SnorePlay$House", "answers", "[I", false)
  | _ => ("SnorePlay$House", "says", "[I", false)
def tyX1 : Nat → FieldType := fun k => match k with
  | 0 => .int
  | 1 => .int
  | 2 => .int
  | 3 => .int
  | 4 => .int
  | 5 => .array .int
  | 6 => .array .int
  | 7 => .int
  | 8 => .int
  | 9 => .int
  | 10 => .int
  | 11 => .int
  | 12 => .array .int
  | _ => .array .int
theorem nmX1 : ∀ a, a < 14 → ∀ b, b < 14 → a ≠ b → (TX1 a).2.1 ≠ (TX1 b).2.1 := by decide +kernel
theorem tyX1_ok : ∀ k, k < 14 → parseFieldDescriptor (TX1 k).2.2.1 = some (tyX1 k) := by decide +kernel
set_option maxRecDepth 20000 in
theorem inX1 : ∀ w ∈ u_ws RX1 TX1 14, w ∈ am_tb := am_inP (u_ws RX1 TX1 14) [243, 245, 247, 249, 251, 253, 255, 257, 259, 261, 263, 265, 267, 269] rfl (by decide +kernel)
def RX2 : String := "SnorePlay$Past"
def TX2 : u_T := fun k => match k with
  | 0 => ("SnorePlay$Past", "ring", "[LSnorePlay$Play;", true)
  | 1 => ("SnorePlay$Past", "next", "I", false)
  | _ => ("SnorePlay$Past", "kept", "I", false)
def tyX2 : Nat → FieldType := fun k => match k with
  | 0 => .array (.object "SnorePlay$Play")
  | 1 => .int
  | _ => .int
theorem nmX2 : ∀ a, a < 3 → ∀ b, b < 3 → a ≠ b → (TX2 a).2.1 ≠ (TX2 b).2.1 := by decide +kernel
theorem tyX2_ok : ∀ k, k < 3 → parseFieldDescriptor (TX2 k).2.2.1 = some (tyX2 k) := by decide +kernel
set_option maxRecDepth 20000 in
theorem inX2 : ∀ w ∈ u_ws RX2 TX2 3, w ∈ am_tb := am_inP (u_ws RX2 TX2 3) [522, 524, 526] rfl (by decide +kernel)
def RX3 : String := "SnorePlay$Placer"
def TX3 : u_T := fun k => match k with
  | 0 => ("SnorePlay$Placer", "stage", "LSnorePlay$Stage;", true)
  | 1 => ("SnorePlay$Placer", "trial", "LSnorePlay$Play;", true)
  | 2 => ("SnorePlay$Placer", "order", "[I", true)
  | 3 => ("SnorePlay$Placer", "firstOrder", "[I", true)
  | 4 => ("SnorePlay$Placer", "fewest", "I", false)
  | 5 => ("SnorePlay$Placer", "placedSetting", "J", false)
  | _ => ("SnorePlay$Placer", "placedNode", "I", false)
def tyX3 : Nat → FieldType := fun k => match k with
  | 0 => .object "SnorePlay$Stage"
  | 1 => .object "SnorePlay$Play"
  | 2 => .array .int
  | 3 => .array .int
  | 4 => .int
  | 5 => .long
  | _ => .int
theorem nmX3 : ∀ a, a < 7 → ∀ b, b < 7 → a ≠ b → (TX3 a).2.1 ≠ (TX3 b).2.1 := by decide +kernel
theorem tyX3_ok : ∀ k, k < 7 → parseFieldDescriptor (TX3 k).2.2.1 = some (tyX3 k) := by decide +kernel
set_option maxRecDepth 20000 in
theorem inX3 : ∀ w ∈ u_ws RX3 TX3 7, w ∈ am_tb := am_inP (u_ws RX3 TX3 7) [495, 497, 499, 501, 503, 505, 507] rfl (by decide +kernel)
def RX4 : String := "SnorePlay$Play"
def TX4 : u_T := fun k => match k with
  | 0 => ("SnorePlay$Play", "house", "LSnorePlay$House;", false)
  | 1 => ("SnorePlay$Play", "bedOf", "[I", true)
  | 2 => ("SnorePlay$Play", "dreamOf", "[I", true)
  | 3 => ("SnorePlay$Play", "hush", "I", false)
  | 4 => ("SnorePlay$Play", "last", "I", false)
  | 5 => ("SnorePlay$Play", "sound", "I", false)
  | 6 => ("SnorePlay$Play", "act", "I", false)
  | 7 => ("SnorePlay$Play", "snored", "I", false)
  | _ => ("SnorePlay$Play", "still", "Z", false)
def tyX4 : Nat → FieldType := fun k => match k with
  | 0 => .object "SnorePlay$House"
  | 1 => .array .int
  | 2 => .array .int
  | 3 => .int
  | 4 => .int
  | 5 => .int
  | 6 => .int
  | 7 => .int
  | _ => .boolean
theorem nmX4 : ∀ a, a < 9 → ∀ b, b < 9 → a ≠ b → (TX4 a).2.1 ≠ (TX4 b).2.1 := by decide +kernel
theorem tyX4_ok : ∀ k, k < 9 → parseFieldDescriptor (TX4 k).2.2.1 = some (tyX4 k) := by decide +kernel
set_option maxRecDepth 20000 in
theorem inX4 : ∀ w ∈ u_ws RX4 TX4 9, w ∈ am_tb := am_inP (u_ws RX4 TX4 9) [364, 366, 368, 370, 372, 374, 376, 378, 380] rfl (by decide +kernel)
def RX5 : String := "SnorePlay$Reader"
def TX5 : u_T := fun k => match k with
  | 0 => ("SnorePlay$Reader", "tokens", "LSnorePlay$Tokens;", true)
  | 1 => ("SnorePlay$Reader", "codes", "[I", true)
  | 2 => ("SnorePlay$Reader", "size", "I", false)
  | _ => ("SnorePlay$Reader", "draft", "LSnorePlay$House;", false)
def tyX5 : Nat → FieldType := fun k => match k with
  | 0 => .object "SnorePlay$Tokens"
  | 1 => .array .int
  | 2 => .int
  | _ => .object "SnorePlay$House"
theorem nmX5 : ∀ a, a < 4 → ∀ b, b < 4 → a ≠ b → (TX5 a).2.1 ≠ (TX5 b).2.1 := by decide +kernel
theorem tyX5_ok : ∀ k, k < 4 → parseFieldDescriptor (TX5 k).2.2.1 = some (tyX5 k) := by decide +kernel
set_option maxRecDepth 20000 in
theorem inX5 : ∀ w ∈ u_ws RX5 TX5 4, w ∈ am_tb := am_inP (u_ws RX5 TX5 4) [277, 279, 281, 283] rfl (by decide +kernel)
def RX6 : String := "SnorePlay$Search"
def TX6 : u_T := fun k => match k with
  | 0 => ("SnorePlay$Search", "graph", "LSnorePlay$Graph;", true)
  | 1 => ("SnorePlay$Search", "rank", "[I", true)
  | _ => ("SnorePlay$Search", "otherRank", "[I", true)
def tyX6 : Nat → FieldType := fun k => match k with
  | 0 => .object "SnorePlay$Graph"
  | 1 => .array .int
  | _ => .array .int
theorem nmX6 : ∀ a, a < 3 → ∀ b, b < 3 → a ≠ b → (TX6 a).2.1 ≠ (TX6 b).2.1 := by decide +kernel
theorem tyX6_ok : ∀ k, k < 3 → parseFieldDescriptor (TX6 k).2.2.1 = some (tyX6 k) := by decide +kernel
set_option maxRecDepth 20000 in
theorem inX6 : ∀ w ∈ u_ws RX6 TX6 3, w ∈ am_tb := am_inP (u_ws RX6 TX6 3) [447, 449, 451] rfl (by decide +kernel)
def RX7 : String := "SnorePlay$Stage"
def TX7 : u_T := fun k => match k with
  | 0 => ("SnorePlay$Stage", "amounts", "[I", true)
  | 1 => ("SnorePlay$Stage", "amountMarks", "[I", true)
  | 2 => ("SnorePlay$Stage", "tones", "[I", true)
  | 3 => ("SnorePlay$Stage", "toneMarks", "[I", true)
  | 4 => ("SnorePlay$Stage", "values", "[I", true)
  | 5 => ("SnorePlay$Stage", "stack", "[I", true)
  | 6 => ("SnorePlay$Stage", "seen", "[I", true)
  | _ => ("SnorePlay$Stage", "walks", "I", false)
def tyX7 : Nat → FieldType := fun k => match k with
  | 0 => .array .int
  | 1 => .array .int
  | 2 => .array .int
  | 3 => .array .int
  | 4 => .array .int
  | 5 => .array .int
  | 6 => .array .int
  | _ => .int
theorem nmX7 : ∀ a, a < 8 → ∀ b, b < 8 → a ≠ b → (TX7 a).2.1 ≠ (TX7 b).2.1 := by decide +kernel
theorem tyX7_ok : ∀ k, k < 8 → parseFieldDescriptor (TX7 k).2.2.1 = some (tyX7 k) := by decide +kernel
set_option maxRecDepth 20000 in
theorem inX7 : ∀ w ∈ u_ws RX7 TX7 8, w ∈ am_tb := am_inP (u_ws RX7 TX7 8) [300, 302, 304, 306, 308, 310, 312, 314] rfl (by decide +kernel)
def RX8 : String := "SnorePlay$Tally"
def TX8 : u_T := fun k => match k with
  | 0 => ("SnorePlay$Tally", "graph", "LSnorePlay$Graph;", true)
  | 1 => ("SnorePlay$Tally", "ways", "[J", false)
  | 2 => ("SnorePlay$Tally", "waysThen", "[J", false)
  | 3 => ("SnorePlay$Tally", "metAt", "[I", true)
  | _ => ("SnorePlay$Tally", "fitting", "[[J", true)
def tyX8 : Nat → FieldType := fun k => match k with
  | 0 => .object "SnorePlay$Graph"
  | 1 => .array .long
  | 2 => .array .long
  | 3 => .array .int
  | _ => .array (.array .long)
theorem nmX8 : ∀ a, a < 5 → ∀ b, b < 5 → a ≠ b → (TX8 a).2.1 ≠ (TX8 b).2.1 := by decide +kernel
theorem tyX8_ok : ∀ k, k < 5 → parseFieldDescriptor (TX8 k).2.2.1 = some (tyX8 k) := by decide +kernel
set_option maxRecDepth 20000 in
theorem inX8 : ∀ w ∈ u_ws RX8 TX8 5, w ∈ am_tb := am_inP (u_ws RX8 TX8 5) [467, 469, 471, 473, 475] rfl (by decide +kernel)
def RX9 : String := "SnorePlay$Tokens"
def TX9 : u_T := fun k => match k with
  | 0 => ("SnorePlay$Tokens", "text", "[B", false)
  | 1 => ("SnorePlay$Tokens", "length", "I", false)
  | 2 => ("SnorePlay$Tokens", "kind", "I", false)
  | 3 => ("SnorePlay$Tokens", "start", "I", false)
  | 4 => ("SnorePlay$Tokens", "stop", "I", false)
  | 5 => ("SnorePlay$Tokens", "number", "I", false)
  | 6 => ("SnorePlay$Tokens", "fault", "I", false)
  | _ => ("SnorePlay$Tokens", "place", "I", false)
def tyX9 : Nat → FieldType := fun k => match k with
  | 0 => .array .byte
  | 1 => .int
  | 2 => .int
  | 3 => .int
  | 4 => .int
  | 5 => .int
  | 6 => .int
  | _ => .int
theorem nmX9 : ∀ a, a < 8 → ∀ b, b < 8 → a ≠ b → (TX9 a).2.1 ≠ (TX9 b).2.1 := by decide +kernel
theorem tyX9_ok : ∀ k, k < 8 → parseFieldDescriptor (TX9 k).2.2.1 = some (tyX9 k) := by decide +kernel
set_option maxRecDepth 20000 in
theorem inX9 : ∀ w ∈ u_ws RX9 TX9 8, w ∈ am_tb := am_inP (u_ws RX9 TX9 8) [176, 178, 180, 182, 184, 186, 188, 190] rfl (by decide +kernel)
def RX10 : String := "SnorePlay$Tray"
def TX10 : u_T := fun k => match k with
  | 0 => ("SnorePlay$Tray", "missing", "Z", false)
  | 1 => ("SnorePlay$Tray", "sort", "I", false)
  | 2 => ("SnorePlay$Tray", "size", "I", false)
  | _ => ("SnorePlay$Tray", "held", "[J", true)
def tyX10 : Nat → FieldType := fun k => match k with
  | 0 => .boolean
  | 1 => .int
  | 2 => .int
  | _ => .array .long
theorem nmX10 : ∀ a, a < 4 → ∀ b, b < 4 → a ≠ b → (TX10 a).2.1 ≠ (TX10 b).2.1 := by decide +kernel
theorem tyX10_ok : ∀ k, k < 4 → parseFieldDescriptor (TX10 k).2.2.1 = some (tyX10 k) := by decide +kernel
set_option maxRecDepth 20000 in
theorem inX10 : ∀ w ∈ u_ws RX10 TX10 4, w ∈ am_tb := am_inP (u_ws RX10 TX10 4) [543, 545, 547, 549] rfl (by decide +kernel)
def RX11 : String := "SnorePlay"
def TX11 : u_T := fun k => match k with
  | 0 => ("SnorePlay", "tape", "[B", true)
  | 1 => ("SnorePlay", "taped", "I", false)
  | 2 => ("SnorePlay", "latestFault", "I", false)
  | 3 => ("SnorePlay", "latestPlace", "I", false)
  | 4 => ("SnorePlay", "housesRead", "I", false)
  | 5 => ("SnorePlay", "drawn", "I", false)
  | 6 => ("SnorePlay", "reader", "LSnorePlay$Reader;", true)
  | 7 => ("SnorePlay", "stage", "LSnorePlay$Stage;", true)
  | 8 => ("SnorePlay", "graph", "LSnorePlay$Graph;", true)
  | 9 => ("SnorePlay", "search", "LSnorePlay$Search;", true)
  | 10 => ("SnorePlay", "tally", "LSnorePlay$Tally;", true)
  | 11 => ("SnorePlay", "placer", "LSnorePlay$Placer;", true)
  | 12 => ("SnorePlay", "play", "LSnorePlay$Play;", true)
  | 13 => ("SnorePlay", "trial", "LSnorePlay$Play;", true)
  | 14 => ("SnorePlay", "past", "LSnorePlay$Past;", true)
  | 15 => ("SnorePlay", "trays", "[LSnorePlay$Tray;", true)
  | 16 => ("SnorePlay", "images", "[LSnorePlay$Play;", true)
  | 17 => ("SnorePlay", "imageMade", "[Z", true)
  | _ => ("SnorePlay", "groupSizes", "[I", true)
def tyX11 : Nat → FieldType := fun k => match k with
  | 0 => .array .byte
  | 1 => .int
  | 2 => .int
  | 3 => .int
  | 4 => .int
  | 5 => .int
  | 6 => .object "SnorePlay$Reader"
  | 7 => .object "SnorePlay$Stage"
  | 8 => .object "SnorePlay$Graph"
  | 9 => .object "SnorePlay$Search"
  | 10 => .object "SnorePlay$Tally"
  | 11 => .object "SnorePlay$Placer"
  | 12 => .object "SnorePlay$Play"
  | 13 => .object "SnorePlay$Play"
  | 14 => .object "SnorePlay$Past"
  | 15 => .array (.object "SnorePlay$Tray")
  | 16 => .array (.object "SnorePlay$Play")
  | 17 => .array .boolean
  | _ => .array .int
theorem nmX11 : ∀ a, a < 19 → ∀ b, b < 19 → a ≠ b → (TX11 a).2.1 ≠ (TX11 b).2.1 := by decide +kernel
theorem tyX11_ok : ∀ k, k < 19 → parseFieldDescriptor (TX11 k).2.2.1 = some (tyX11 k) := by decide +kernel
set_option maxRecDepth 20000 in
theorem inX11 : ∀ w ∈ u_ws RX11 TX11 19, w ∈ am_tb := am_inP (u_ws RX11 TX11 19) [571, 573, 575, 577, 579, 581, 583, 585, 587, 589, 591, 593, 595, 597, 599, 601, 603, 605, 607] rfl (by decide +kernel)
def RX12 : String := "SnorePlayModel"
def TX12 : u_T := fun k => match k with
  | 0 => ("SnorePlayModel", "thrown", "I", false)
  | 1 => ("SnorePlayModel", "all", "[I", true)
  | 2 => ("SnorePlayModel", "hasImage", "[Z", true)
  | 3 => ("SnorePlayModel", "tape", "[I", true)
  | 4 => ("SnorePlayModel", "fresh", "[I", true)
  | 5 => ("SnorePlayModel", "taped", "I", false)
  | 6 => ("SnorePlayModel", "at", "I", false)
  | 7 => ("SnorePlayModel", "behind", "I", false)
  | 8 => ("SnorePlayModel", "size", "I", false)
  | 9 => ("SnorePlayModel", "kind", "I", false)
  | 10 => ("SnorePlayModel", "number", "I", false)
  | 11 => ("SnorePlayModel", "wrong", "I", false)
  | 12 => ("SnorePlayModel", "wrongAt", "I", false)
  | 13 => ("SnorePlayModel", "faultKind", "I", false)
  | 14 => ("SnorePlayModel", "faultPlace", "I", false)
  | 15 => ("SnorePlayModel", "reckoned", "[I", true)
  | 16 => ("SnorePlayModel", "words", "[I", true)
  | 17 => ("SnorePlayModel", "was", "[I", true)
  | 18 => ("SnorePlayModel", "toldWhy", "I", false)
  | 19 => ("SnorePlayModel", "x", "I", false)
  | 20 => ("SnorePlayModel", "line", "[I", true)
  | 21 => ("SnorePlayModel", "placeIn", "[I", true)
  | 22 => ("SnorePlayModel", "lineMany", "I", false)
  | 23 => ("SnorePlayModel", "tail", "I", false)
  | 24 => ("SnorePlayModel", "stand", "[I", true)
  | 25 => ("SnorePlayModel", "then", "[I", true)
  | 26 => ("SnorePlayModel", "far", "[I", true)
  | 27 => ("SnorePlayModel", "farOther", "[I", true)
  | 28 => ("SnorePlayModel", "known", "[Z", true)
  | 29 => ("SnorePlayModel", "standMany", "I", false)
  | 30 => ("SnorePlayModel", "many", "[J", true)
  | 31 => ("SnorePlayModel", "manyThen", "[J", true)
  | 32 => ("SnorePlayModel", "bedsNow", "[I", true)
  | 33 => ("SnorePlayModel", "bestBeds", "[I", true)
  | 34 => ("SnorePlayModel", "bestBeats", "I", false)
  | 35 => ("SnorePlayModel", "on", "[J", true)
  | 36 => ("SnorePlayModel", "saidBy", "[I", true)
  | 37 => ("SnorePlayModel", "rowSort", "[I", true)
  | 38 => ("SnorePlayModel", "rowMany", "[I", true)
  | _ => ("SnorePlayModel", "numbers", "[J", true)
def tyX12 : Nat → FieldType := fun k => match k with
  | 0 => .int
  | 1 => .array .int
  | 2 => .array .boolean
  | 3 => .array .int
  | 4 => .array .int
  | 5 => .int
  | 6 => .int
  | 7 => .int
  | 8 => .int
  | 9 => .int
  | 10 => .int
  | 11 => .int
  | 12 => .int
  | 13 => .int
  | 14 => .int
  | 15 => .array .int
  | 16 => .array .int
  | 17 => .array .int
  | 18 => .int
  | 19 => .int
  | 20 => .array .int
  | 21 => .array .int
  | 22 => .int
  | 23 => .int
  | 24 => .array .int
  | 25 => .array .int
  | 26 => .array .int
  | 27 => .array .int
  | 28 => .array .boolean
  | 29 => .int
  | 30 => .array .long
  | 31 => .array .long
  | 32 => .array .int
  | 33 => .array .int
  | 34 => .int
  | 35 => .array .long
  | 36 => .array .int
  | 37 => .array .int
  | 38 => .array .int
  | _ => .array .long
theorem nmX12 : ∀ a, a < 40 → ∀ b, b < 40 → a ≠ b → (TX12 a).2.1 ≠ (TX12 b).2.1 := by decide +kernel
theorem tyX12_ok : ∀ k, k < 40 → parseFieldDescriptor (TX12 k).2.2.1 = some (tyX12 k) := by decide +kernel
set_option maxRecDepth 20000 in
theorem inX12 : ∀ w ∈ u_ws RX12 TX12 40, w ∈ am_tb := am_inP (u_ws RX12 TX12 40) [1513, 1515, 1517, 1519, 1521, 1523, 1525, 1527, 1529, 1531, 1533, 1535, 1537, 1539, 1541, 1543, 1545, 1547, 1549, 1551, 1553, 1555, 1557, 1559, 1561, 1563, 1565, 1567, 1569, 1571, 1573, 1575, 1577, 1579, 1581, 1583, 1585, 1587, 1589, 1591] rfl (by decide +kernel)
abbrev am_cl_ : List vw_C := [(RX0, TX0, 13), (RX1, TX1, 14), (RX2, TX2, 3), (RX3, TX3, 7), (RX4, TX4, 9), (RX5, TX5, 4), (RX6, TX6, 3), (RX7, TX7, 8), (RX8, TX8, 5), (RX9, TX9, 8), (RX10, TX10, 4), (RX11, TX11, 19), (RX12, TX12, 40)]
/-- the sort of a field: 0 an int, 1 a long, 2 a reference -/
def am_ft (c k : Nat) : Nat := (([[2, 2, 2, 2, 1, 0, 2, 0, 2, 2, 2, 0, 0], [0, 0, 0, 0, 0, 2, 2, 0, 0, 0, 0, 0, 2, 2], [2, 0, 0], [2, 2, 2, 2, 0, 1, 0], [2, 2, 2, 0, 0, 0, 0, 0, 0], [2, 2, 0, 2], [2, 2, 2], [2, 2, 2, 2, 2, 2, 2, 0], [2, 2, 2, 2, 2], [2, 0, 0, 0, 0, 0, 0, 0], [0, 0, 0, 2], [2, 0, 0, 0, 0, 0, 2, 2, 2, 2, 2, 2, 2, 2, 2, 2, 2, 2, 2], [0, 2, 2, 2, 2, 0, 0, 0, 0, 0, 0, 0, 0, 0, 0, 2, 2, 2, 0, 0, 2, 2, 0, 0, 2, 2, 2, 2, 2, 0, 2, 2, 2, 2, 0, 2, 2, 2, 2, 2]] : List (List Nat)).getD c []).getD k 0

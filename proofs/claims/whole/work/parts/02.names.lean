def gW : List Cond := lw_tbl.filter goodWord
theorem gW_in {w : Cond} (h : w ∈ gW) : w ∈ lw_tbl := (List.mem_filter.mp h).1
theorem gW_good {w : Cond} (h : w ∈ gW) : goodWord w = true := (List.mem_filter.mp h).2
theorem gW_i (i : Nat) (w : Cond) (h : tables_1[i]? = some w) (g : goodWord w = true) : w ∈ gW := List.mem_filter.mpr ⟨List.mem_append_right _ (List.mem_of_getElem? h), g⟩
theorem gW_s (i : Nat) (w : Cond) (h : (k2_sels lw_privs)[i]? = some w) (g : goodWord w = true) : w ∈ gW := List.mem_filter.mpr ⟨List.mem_append_left _ (List.mem_of_getElem? h), g⟩
theorem gW_l (ws : List Cond) (ps : List Nat) (hp : ps.map (fun i => tables_1[i]?) = ws.map some) (hg : ws.all goodWord = true) : ∀ w ∈ ws, w ∈ gW := by
  intro w hw
  have h1 : some w ∈ ws.map some := List.mem_map.mpr ⟨w, hw, rfl⟩
  rw [← hp] at h1
  obtain ⟨i, -, hi⟩ := List.mem_map.mp h1
  exact gW_i i w hi (List.all_eq_true.mp hg w hw)
def RX0 : String := "BesideTom$CorkKind"
def TX0 : u_T := fun k => match k with
  | _ => ("", "", "", false)
def tyX0 : Nat → FieldType := fun k => match k with
  | _ => .int
def RX1 : String := "BesideTom$PupilKind"
def TX1 : u_T := fun k => match k with
  | _ => ("", "", "", false)
def tyX1 : Nat → FieldType := fun k => match k with
  | _ => .int
def RX2 : String := "BesideTom$QuietKind"
def TX2 : u_T := fun k => match k with
  | _ => ("", "", "", false)
def tyX2 : Nat → FieldType := fun k => match k with
  | _ => .int
def RX3 : String := "BesideTom$Rooms"
def TX3 : u_T := fun k => match k with
  | 0 => ("BesideTom$Rooms", "texts", "[[B", true)
  | 1 => ("BesideTom$Rooms", "lengths", "[I", true)
  | 2 => ("BesideTom$Rooms", "many", "I", false)
  | 3 => ("BesideTom$Rooms", "row", "I", false)
  | 4 => ("BesideTom$Rooms", "at", "I", false)
  | 5 => ("BesideTom$Rooms", "sign", "I", false)
  | 6 => ("BesideTom$Rooms", "fault", "I", false)
  | 7 => ("BesideTom$Rooms", "pupil", "I", false)
  | 8 => ("BesideTom$Rooms", "kind", "I", false)
  | 9 => ("BesideTom$Rooms", "v", "I", false)
  | 10 => ("BesideTom$Rooms", "desk", "I", false)
  | 11 => ("BesideTom$Rooms", "mouth", "I", false)
  | 12 => ("BesideTom$Rooms", "wears", "I", false)
  | _ => ("BesideTom$Rooms", "cost", "I", false)
def tyX3 : Nat → FieldType := fun k => match k with
  | 0 => .array (.array .byte)
  | 1 => .array .int
  | 2 => .int
  | 3 => .int
  | 4 => .int
  | 5 => .int
  | 6 => .int
  | 7 => .int
  | 8 => .int
  | 9 => .int
  | 10 => .int
  | 11 => .int
  | 12 => .int
  | _ => .int
def RX4 : String := "BesideTom$Rows"
def TX4 : u_T := fun k => match k with
  | 0 => ("BesideTom$Rows", "first", "[I", true)
  | 1 => ("BesideTom$Rows", "second", "[I", true)
  | _ => ("BesideTom$Rows", "many", "I", false)
def tyX4 : Nat → FieldType := fun k => match k with
  | 0 => .array .int
  | 1 => .array .int
  | _ => .int
def RX5 : String := "BesideTom$Seating"
def TX5 : u_T := fun k => match k with
  | 0 => ("BesideTom$Seating", "kinds", "[LBesideTom$PupilKind;", true)
  | 1 => ("BesideTom$Seating", "many", "I", false)
  | 2 => ("BesideTom$Seating", "week", "I", false)
  | 3 => ("BesideTom$Seating", "wear", "I", false)
  | 4 => ("BesideTom$Seating", "wears", "I", false)
  | 5 => ("BesideTom$Seating", "cost", "I", false)
  | 6 => ("BesideTom$Seating", "held", "I", false)
  | 7 => ("BesideTom$Seating", "away", "I", false)
  | 8 => ("BesideTom$Seating", "corks", "I", false)
  | 9 => ("BesideTom$Seating", "kind", "[I", true)
  | 10 => ("BesideTom$Seating", "v", "[I", true)
  | 11 => ("BesideTom$Seating", "desk", "[I", true)
  | 12 => ("BesideTom$Seating", "knows", "[I", true)
  | 13 => ("BesideTom$Seating", "lines", "[I", true)
  | 14 => ("BesideTom$Seating", "mouths", "[I", true)
  | 15 => ("BesideTom$Seating", "heard", "LBesideTom$Rows;", true)
  | 16 => ("BesideTom$Seating", "term", "LBesideTom$Rows;", true)
  | _ => ("BesideTom$Seating", "book", "LBesideTom$Rows;", true)
def tyX5 : Nat → FieldType := fun k => match k with
  | 0 => .array (.object "BesideTom$PupilKind")
  | 1 => .int
  | 2 => .int
  | 3 => .int
  | 4 => .int
  | 5 => .int
  | 6 => .int
  | 7 => .int
  | 8 => .int
  | 9 => .array .int
  | 10 => .array .int
  | 11 => .array .int
  | 12 => .array .int
  | 13 => .array .int
  | 14 => .array .int
  | 15 => .object "BesideTom$Rows"
  | 16 => .object "BesideTom$Rows"
  | _ => .object "BesideTom$Rows"
def RX6 : String := "BesideTom$ShortKind"
def TX6 : u_T := fun k => match k with
  | _ => ("", "", "", false)
def tyX6 : Nat → FieldType := fun k => match k with
  | _ => .int
def RX7 : String := "BesideTom$TalkerKind"
def TX7 : u_T := fun k => match k with
  | _ => ("", "", "", false)
def tyX7 : Nat → FieldType := fun k => match k with
  | _ => .int
def RX8 : String := "BesideTom$ToldKind"
def TX8 : u_T := fun k => match k with
  | _ => ("", "", "", false)
def tyX8 : Nat → FieldType := fun k => match k with
  | _ => .int
def RX9 : String := "BesideTom$TomKind"
def TX9 : u_T := fun k => match k with
  | _ => ("", "", "", false)
def tyX9 : Nat → FieldType := fun k => match k with
  | _ => .int
def RX10 : String := "BesideTom$Trace"
def TX10 : u_T := fun k => match k with
  | 0 => ("BesideTom$Trace", "bodies", "[I", true)
  | 1 => ("BesideTom$Trace", "ran", "I", false)
  | 2 => ("BesideTom$Trace", "number", "I", false)
  | _ => ("BesideTom$Trace", "v", "I", false)
def tyX10 : Nat → FieldType := fun k => match k with
  | 0 => .array .int
  | 1 => .int
  | 2 => .int
  | _ => .int
def RX11 : String := "BesideTom"
def TX11 : u_T := fun k => match k with
  | 0 => ("BesideTom", "now", "LBesideTom$Seating;", true)
  | 1 => ("BesideTom", "asked", "LBesideTom$Seating;", true)
  | 2 => ("BesideTom", "kept", "LBesideTom$Seating;", true)
  | 3 => ("BesideTom", "imaged", "Z", false)
  | 4 => ("BesideTom", "rooms", "LBesideTom$Rooms;", true)
  | 5 => ("BesideTom", "trace", "LBesideTom$Trace;", true)
  | 6 => ("BesideTom", "plan", "[I", true)
  | 7 => ("BesideTom", "tapes", "[[J", true)
  | 8 => ("BesideTom", "sorts", "[I", true)
  | _ => ("BesideTom", "sizes", "[I", true)
def tyX11 : Nat → FieldType := fun k => match k with
  | 0 => .object "BesideTom$Seating"
  | 1 => .object "BesideTom$Seating"
  | 2 => .object "BesideTom$Seating"
  | 3 => .boolean
  | 4 => .object "BesideTom$Rooms"
  | 5 => .object "BesideTom$Trace"
  | 6 => .array .int
  | 7 => .array (.array .long)
  | 8 => .array .int
  | _ => .array .int
def RX12 : String := "BesideTomModel"
def TX12 : u_T := fun k => match k with
  | 0 => ("BesideTomModel", "pupils", "I", false)
  | 1 => ("BesideTomModel", "gone", "I", false)
  | 2 => ("BesideTomModel", "worn", "I", false)
  | 3 => ("BesideTomModel", "weeks", "I", false)
  | 4 => ("BesideTomModel", "kind", "[I", true)
  | 5 => ("BesideTomModel", "v", "[I", true)
  | 6 => ("BesideTomModel", "desk", "[I", true)
  | 7 => ("BesideTomModel", "knew", "[I", true)
  | 8 => ("BesideTomModel", "lines", "[I", true)
  | 9 => ("BesideTomModel", "rooms", "I", false)
  | 10 => ("BesideTomModel", "the", "I", false)
  | 11 => ("BesideTomModel", "fed", "I", false)
  | 12 => ("BesideTomModel", "at", "I", false)
  | 13 => ("BesideTomModel", "digits", "I", false)
  | 14 => ("BesideTomModel", "text", "[I", true)
  | 15 => ("BesideTomModel", "clauses", "[I", true)
  | 16 => ("BesideTomModel", "word", "[I", true)
  | 17 => ("BesideTomModel", "number", "[I", true)
  | 18 => ("BesideTomModel", "from", "[I", true)
  | 19 => ("BesideTomModel", "to", "[I", true)
  | 20 => ("BesideTomModel", "sign", "[I", true)
  | 21 => ("BesideTomModel", "waits", "[I", true)
  | 22 => ("BesideTomModel", "signs", "I", false)
  | 23 => ("BesideTomModel", "waiting", "I", false)
  | 24 => ("BesideTomModel", "open", "I", false)
  | 25 => ("BesideTomModel", "letters", "[I", true)
  | 26 => ("BesideTomModel", "pile", "[Z", true)
  | 27 => ("BesideTomModel", "mostKnown", "I", false)
  | 28 => ("BesideTomModel", "keptGone", "I", false)
  | 29 => ("BesideTomModel", "keptWorn", "I", false)
  | 30 => ("BesideTomModel", "keptWeeks", "I", false)
  | 31 => ("BesideTomModel", "keptDesk", "[I", true)
  | 32 => ("BesideTomModel", "keptKnew", "[I", true)
  | 33 => ("BesideTomModel", "bestDesk", "[I", true)
  | 34 => ("BesideTomModel", "heard", "I", false)
  | 35 => ("BesideTomModel", "heardNoise", "[I", true)
  | 36 => ("BesideTomModel", "heardWhen", "[I", true)
  | 37 => ("BesideTomModel", "terms", "I", false)
  | 38 => ("BesideTomModel", "books", "I", false)
  | 39 => ("BesideTomModel", "termWhat", "[I", true)
  | 40 => ("BesideTomModel", "termNumber", "[I", true)
  | 41 => ("BesideTomModel", "bookWho", "[I", true)
  | 42 => ("BesideTomModel", "bookDesk", "[I", true)
  | 43 => ("BesideTomModel", "hasImage", "Z", false)
  | 44 => ("BesideTomModel", "imageThe", "I", false)
  | 45 => ("BesideTomModel", "imagePupils", "I", false)
  | 46 => ("BesideTomModel", "imageGone", "I", false)
  | 47 => ("BesideTomModel", "imageWorn", "I", false)
  | 48 => ("BesideTomModel", "imageWeeks", "I", false)
  | 49 => ("BesideTomModel", "imageHeard", "I", false)
  | 50 => ("BesideTomModel", "imageTerms", "I", false)
  | 51 => ("BesideTomModel", "imageBooks", "I", false)
  | 52 => ("BesideTomModel", "imageKind", "[I", true)
  | 53 => ("BesideTomModel", "imageV", "[I", true)
  | 54 => ("BesideTomModel", "imageDesk", "[I", true)
  | 55 => ("BesideTomModel", "imageKnew", "[I", true)
  | 56 => ("BesideTomModel", "imageLines", "[I", true)
  | 57 => ("BesideTomModel", "imageNoise", "[I", true)
  | 58 => ("BesideTomModel", "imageWhen", "[I", true)
  | 59 => ("BesideTomModel", "imageWhat", "[I", true)
  | 60 => ("BesideTomModel", "imageNumber", "[I", true)
  | 61 => ("BesideTomModel", "imageBookWho", "[I", true)
  | 62 => ("BesideTomModel", "imageBookDesk", "[I", true)
  | 63 => ("BesideTomModel", "ran", "I", false)
  | 64 => ("BesideTomModel", "bodies", "[I", true)
  | 65 => ("BesideTomModel", "sort", "[I", true)
  | 66 => ("BesideTomModel", "length", "[I", true)
  | 67 => ("BesideTomModel", "item", "[J", true)
  | _ => ("BesideTomModel", "aside", "[J", true)
def tyX12 : Nat → FieldType := fun k => match k with
  | 0 => .int
  | 1 => .int
  | 2 => .int
  | 3 => .int
  | 4 => .array .int
  | 5 => .array .int
  | 6 => .array .int
  | 7 => .array .int
  | 8 => .array .int
  | 9 => .int
  | 10 => .int
  | 11 => .int
  | 12 => .int
  | 13 => .int
  | 14 => .array .int
  | 15 => .array .int
  | 16 => .array .int
  | 17 => .array .int
  | 18 => .array .int
  | 19 => .array .int
  | 20 => .array .int
  | 21 => .array .int
  | 22 => .int
  | 23 => .int
  | 24 => .int
  | 25 => .array .int
  | 26 => .array .boolean
  | 27 => .int
  | 28 => .int
  | 29 => .int
  | 30 => .int
  | 31 => .array .int
  | 32 => .array .int
  | 33 => .array .int
  | 34 => .int
  | 35 => .array .int
  | 36 => .array .int
  | 37 => .int
  | 38 => .int
  | 39 => .array .int
  | 40 => .array .int
  | 41 => .array .int
  | 42 => .array .int
  | 43 => .boolean
  | 44 => .int
  | 45 => .int
  | 46 => .int
  | 47 => .int
  | 48 => .int
  | 49 => .int
  | 50 => .int
  | 51 => .int
  | 52 => .array .int
  | 53 => .array .int
  | 54 => .array .int
  | 55 => .array .int
  | 56 => .array .int
  | 57 => .array .int
  | 58 => .array .int
  | 59 => .array .int
  | 60 => .array .int
  | 61 => .array .int
  | 62 => .array .int
  | 63 => .int
  | 64 => .array .int
  | 65 => .array .int
  | 66 => .array .int
  | 67 => .array .long
  | _ => .array .long
abbrev vwCl : List vw_C := [(RX0, TX0, 0), (RX1, TX1, 0), (RX2, TX2, 0), (RX3, TX3, 14), (RX4, TX4, 3), (RX5, TX5, 18), (RX6, TX6, 0), (RX7, TX7, 0), (RX8, TX8, 0), (RX9, TX9, 0), (RX10, TX10, 4), (RX11, TX11, 10), (RX12, TX12, 69)]
theorem in_X0 : ∀ w ∈ u_ws RX0 TX0 0, w ∈ gW := fun w h => absurd h (List.not_mem_nil)
theorem in_X1 : ∀ w ∈ u_ws RX1 TX1 0, w ∈ gW := fun w h => absurd h (List.not_mem_nil)
theorem in_X2 : ∀ w ∈ u_ws RX2 TX2 0, w ∈ gW := fun w h => absurd h (List.not_mem_nil)
set_option maxRecDepth 100000 in
theorem in_X3 : ∀ w ∈ u_ws RX3 TX3 14, w ∈ gW := gW_l _ [213, 215, 217, 219, 221, 223, 225, 227, 229, 231, 233, 235, 237, 239] (by decide +kernel) (by decide +kernel)
theorem nm_X3 : ∀ a, a < 14 → ∀ b, b < 14 → a ≠ b → (TX3 a).2.1 ≠ (TX3 b).2.1 := by decide +kernel
theorem ty_X3 : ∀ k, k < 14 → parseFieldDescriptor (TX3 k).2.2.1 = some (tyX3 k) := by decide +kernel
set_option maxRecDepth 100000 in
theorem in_X4 : ∀ w ∈ u_ws RX4 TX4 3, w ∈ gW := gW_l _ [107, 109, 111] (by decide +kernel) (by decide +kernel)
theorem nm_X4 : ∀ a, a < 3 → ∀ b, b < 3 → a ≠ b → (TX4 a).2.1 ≠ (TX4 b).2.1 := by decide +kernel
theorem ty_X4 : ∀ k, k < 3 → parseFieldDescriptor (TX4 k).2.2.1 = some (tyX4 k) := by decide +kernel
set_option maxRecDepth 100000 in
theorem in_X5 : ∀ w ∈ u_ws RX5 TX5 18, w ∈ gW := gW_l _ [151, 153, 155, 157, 159, 161, 163, 165, 167, 169, 171, 173, 175, 177, 179, 181, 183, 185] (by decide +kernel) (by decide +kernel)
theorem nm_X5 : ∀ a, a < 18 → ∀ b, b < 18 → a ≠ b → (TX5 a).2.1 ≠ (TX5 b).2.1 := by decide +kernel
theorem ty_X5 : ∀ k, k < 18 → parseFieldDescriptor (TX5 k).2.2.1 = some (tyX5 k) := by decide +kernel
theorem in_X6 : ∀ w ∈ u_ws RX6 TX6 0, w ∈ gW := fun w h => absurd h (List.not_mem_nil)
theorem in_X7 : ∀ w ∈ u_ws RX7 TX7 0, w ∈ gW := fun w h => absurd h (List.not_mem_nil)
theorem in_X8 : ∀ w ∈ u_ws RX8 TX8 0, w ∈ gW := fun w h => absurd h (List.not_mem_nil)
theorem in_X9 : ∀ w ∈ u_ws RX9 TX9 0, w ∈ gW := fun w h => absurd h (List.not_mem_nil)
set_option maxRecDepth 100000 in
theorem in_X10 : ∀ w ∈ u_ws RX10 TX10 4, w ∈ gW := gW_l _ [259, 261, 263, 265] (by decide +kernel) (by decide +kernel)
theorem nm_X10 : ∀ a, a < 4 → ∀ b, b < 4 → a ≠ b → (TX10 a).2.1 ≠ (TX10 b).2.1 := by decide +kernel
theorem ty_X10 : ∀ k, k < 4 → parseFieldDescriptor (TX10 k).2.2.1 = some (tyX10 k) := by decide +kernel
set_option maxRecDepth 100000 in
theorem in_X11 : ∀ w ∈ u_ws RX11 TX11 10, w ∈ gW := gW_l _ [278, 280, 282, 284, 286, 288, 290, 292, 294, 296] (by decide +kernel) (by decide +kernel)
theorem nm_X11 : ∀ a, a < 10 → ∀ b, b < 10 → a ≠ b → (TX11 a).2.1 ≠ (TX11 b).2.1 := by decide +kernel
theorem ty_X11 : ∀ k, k < 10 → parseFieldDescriptor (TX11 k).2.2.1 = some (tyX11 k) := by decide +kernel
set_option maxRecDepth 100000 in
theorem in_X12 : ∀ w ∈ u_ws RX12 TX12 69, w ∈ gW := gW_l _ [965, 967, 969, 971, 973, 975, 977, 979, 981, 983, 985, 987, 989, 991, 993, 995, 997, 999, 1001, 1003, 1005, 1007, 1009, 1011, 1013, 1015, 1017, 1019, 1021, 1023, 1025, 1027, 1029, 1031, 1033, 1035, 1037, 1039, 1041, 1043, 1045, 1047, 1049, 1051, 1053, 1055, 1057, 1059, 1061, 1063, 1065, 1067, 1069, 1071, 1073, 1075, 1077, 1079, 1081, 1083, 1085, 1087, 1089, 1091, 1093, 1095, 1097, 1099, 1101] (by decide +kernel) (by decide +kernel)
theorem nm_X12 : ∀ a, a < 69 → ∀ b, b < 69 → a ≠ b → (TX12 a).2.1 ≠ (TX12 b).2.1 := by decide +kernel
theorem ty_X12 : ∀ k, k < 69 → parseFieldDescriptor (TX12 k).2.2.1 = some (tyX12 k) := by decide +kernel

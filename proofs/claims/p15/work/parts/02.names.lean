def RX0 : String := "BubbleTorus$Grid"
def TX0 : u_T := fun k => match k with
  | 0 => ("BubbleTorus$Grid", "nexts", "[I", true)
  | 1 => ("BubbleTorus$Grid", "nearer", "[I", true)
  | 2 => ("BubbleTorus$Grid", "escapes", "[I", true)
  | 3 => ("BubbleTorus$Grid", "columns", "I", false)
  | 4 => ("BubbleTorus$Grid", "rows", "I", false)
  | 5 => ("BubbleTorus$Grid", "nodes", "I", false)
  | _ => ("BubbleTorus$Grid", "rings", "I", false)
def tyX0 : Nat → FieldType := fun k => match k with
  | 0 => .array .int
  | 1 => .array .int
  | 2 => .array .int
  | 3 => .int
  | 4 => .int
  | 5 => .int
  | _ => .int
abbrev wsX00 : List Cond := u_ws RX0 TX0 7
theorem nmX0 : ∀ a, a < 7 → ∀ b, b < 7 → a ≠ b → (TX0 a).2.1 ≠ (TX0 b).2.1 := by decide +kernel
theorem tyX0_ok : ∀ k, k < 7 → parseFieldDescriptor (TX0 k).2.2.1 = some (tyX0 k) := by decide +kernel
def RX1 : String := "BubbleTorus$LoneRing"
def TX1 : u_T := fun k => match k with
  | 0 => ("BubbleTorus$LoneRing", "answers", "[I", true)
  | 1 => ("BubbleTorus$LoneRing", "known", "[Z", true)
  | 2 => ("BubbleTorus$LoneRing", "queues", "[I", true)
  | 3 => ("BubbleTorus$LoneRing", "lengths", "[I", true)
  | 4 => ("BubbleTorus$LoneRing", "weights", "[I", true)
  | 5 => ("BubbleTorus$LoneRing", "steps", "[I", true)
  | 6 => ("BubbleTorus$LoneRing", "order", "[I", false)
  | 7 => ("BubbleTorus$LoneRing", "notes", "[I", false)
  | 8 => ("BubbleTorus$LoneRing", "nodes", "I", false)
  | 9 => ("BubbleTorus$LoneRing", "places", "I", false)
  | 10 => ("BubbleTorus$LoneRing", "rule", "I", false)
  | 11 => ("BubbleTorus$LoneRing", "kinds", "I", false)
  | 12 => ("BubbleTorus$LoneRing", "critical", "I", false)
  | 13 => ("BubbleTorus$LoneRing", "count", "I", false)
  | 14 => ("BubbleTorus$LoneRing", "stepCount", "I", false)
  | _ => ("BubbleTorus$LoneRing", "plainCount", "I", false)
def tyX1 : Nat → FieldType := fun k => match k with
  | 0 => .array .int
  | 1 => .array .boolean
  | 2 => .array .int
  | 3 => .array .int
  | 4 => .array .int
  | 5 => .array .int
  | 6 => .array .int
  | 7 => .array .int
  | 8 => .int
  | 9 => .int
  | 10 => .int
  | 11 => .int
  | 12 => .int
  | 13 => .int
  | 14 => .int
  | _ => .int
abbrev wsX10 : List Cond := u_ws RX1 TX1 16
theorem nmX1 : ∀ a, a < 16 → ∀ b, b < 16 → a ≠ b → (TX1 a).2.1 ≠ (TX1 b).2.1 := by decide +kernel
theorem tyX1_ok : ∀ k, k < 16 → parseFieldDescriptor (TX1 k).2.2.1 = some (tyX1 k) := by decide +kernel
def RX2 : String := "BubbleTorus$Moves"
def TX2 : u_T := fun k => match k with
  | 0 => ("BubbleTorus$Moves", "facts", "[I", true)
  | _ => ("BubbleTorus$Moves", "count", "I", false)
def tyX2 : Nat → FieldType := fun k => match k with
  | 0 => .array .int
  | _ => .int
abbrev wsX20 : List Cond := u_ws RX2 TX2 2
theorem nmX2 : ∀ a, a < 2 → ∀ b, b < 2 → a ≠ b → (TX2 a).2.1 ≠ (TX2 b).2.1 := by decide +kernel
theorem tyX2_ok : ∀ k, k < 2 → parseFieldDescriptor (TX2 k).2.2.1 = some (tyX2 k) := by decide +kernel
def RX3 : String := "BubbleTorus$Net"
def TX3 : u_T := fun k => match k with
  | 0 => ("BubbleTorus$Net", "grid", "LBubbleTorus$Grid;", true)
  | 1 => ("BubbleTorus$Net", "packets", "LBubbleTorus$Packets;", true)
  | 2 => ("BubbleTorus$Net", "queues", "LBubbleTorus$Queues;", true)
  | 3 => ("BubbleTorus$Net", "moves", "LBubbleTorus$Moves;", true)
  | 4 => ("BubbleTorus$Net", "rings", "LBubbleTorus$Rings;", true)
  | 5 => ("BubbleTorus$Net", "links", "[I", true)
  | 6 => ("BubbleTorus$Net", "escapePlaces", "I", false)
  | 7 => ("BubbleTorus$Net", "adaptivePlaces", "I", false)
  | 8 => ("BubbleTorus$Net", "rule", "I", false)
  | 9 => ("BubbleTorus$Net", "limit", "I", false)
  | 10 => ("BubbleTorus$Net", "clock", "I", false)
  | 11 => ("BubbleTorus$Net", "adaptiveHops", "I", false)
  | _ => ("BubbleTorus$Net", "lost", "I", false)
def tyX3 : Nat → FieldType := fun k => match k with
  | 0 => .object "BubbleTorus$Grid"
  | 1 => .object "BubbleTorus$Packets"
  | 2 => .object "BubbleTorus$Queues"
  | 3 => .object "BubbleTorus$Moves"
  | 4 => .object "BubbleTorus$Rings"
  | 5 => .array .int
  | 6 => .int
  | 7 => .int
  | 8 => .int
  | 9 => .int
  | 10 => .int
  | 11 => .int
  | _ => .int
abbrev wsX30 : List Cond := u_ws RX3 TX3 13
theorem nmX3 : ∀ a, a < 13 → ∀ b, b < 13 → a ≠ b → (TX3 a).2.1 ≠ (TX3 b).2.1 := by decide +kernel
theorem tyX3_ok : ∀ k, k < 13 → parseFieldDescriptor (TX3 k).2.2.1 = some (tyX3 k) := by decide +kernel
def RX4 : String := "BubbleTorus$Outlook"
def TX4 : u_T := fun k => match k with
  | _ => ("BubbleTorus$Outlook", "goesOn", "[Z", true)
def tyX4 : Nat → FieldType := fun k => match k with
  | _ => .array .boolean
abbrev wsX40 : List Cond := u_ws RX4 TX4 1
theorem nmX4 : ∀ a, a < 1 → ∀ b, b < 1 → a ≠ b → (TX4 a).2.1 ≠ (TX4 b).2.1 := by decide +kernel
theorem tyX4_ok : ∀ k, k < 1 → parseFieldDescriptor (TX4 k).2.2.1 = some (tyX4 k) := by decide +kernel
def RX5 : String := "BubbleTorus$Packets"
def TX5 : u_T := fun k => match k with
  | 0 => ("BubbleTorus$Packets", "from", "[I", true)
  | 1 => ("BubbleTorus$Packets", "to", "[I", true)
  | 2 => ("BubbleTorus$Packets", "born", "[I", true)
  | 3 => ("BubbleTorus$Packets", "lane", "[I", true)
  | 4 => ("BubbleTorus$Packets", "at", "[I", true)
  | 5 => ("BubbleTorus$Packets", "cameBy", "[I", true)
  | 6 => ("BubbleTorus$Packets", "hops", "[I", true)
  | 7 => ("BubbleTorus$Packets", "done", "[I", true)
  | 8 => ("BubbleTorus$Packets", "entered", "[I", true)
  | 9 => ("BubbleTorus$Packets", "disorder", "[I", true)
  | 10 => ("BubbleTorus$Packets", "leftDoor", "[I", true)
  | 11 => ("BubbleTorus$Packets", "lastWent", "[I", true)
  | 12 => ("BubbleTorus$Packets", "traces", "[I", true)
  | 13 => ("BubbleTorus$Packets", "count", "I", false)
  | _ => ("BubbleTorus$Packets", "delivered", "I", false)
def tyX5 : Nat → FieldType := fun k => match k with
  | 0 => .array .int
  | 1 => .array .int
  | 2 => .array .int
  | 3 => .array .int
  | 4 => .array .int
  | 5 => .array .int
  | 6 => .array .int
  | 7 => .array .int
  | 8 => .array .int
  | 9 => .array .int
  | 10 => .array .int
  | 11 => .array .int
  | 12 => .array .int
  | 13 => .int
  | _ => .int
abbrev wsX50 : List Cond := u_ws RX5 TX5 15
theorem nmX5 : ∀ a, a < 15 → ∀ b, b < 15 → a ≠ b → (TX5 a).2.1 ≠ (TX5 b).2.1 := by decide +kernel
theorem tyX5_ok : ∀ k, k < 15 → parseFieldDescriptor (TX5 k).2.2.1 = some (tyX5 k) := by decide +kernel
def RX6 : String := "BubbleTorus$Queues"
def TX6 : u_T := fun k => match k with
  | 0 => ("BubbleTorus$Queues", "sizes", "[I", true)
  | _ => ("BubbleTorus$Queues", "items", "[I", true)
def tyX6 : Nat → FieldType := fun k => match k with
  | 0 => .array .int
  | _ => .array .int
abbrev wsX60 : List Cond := u_ws RX6 TX6 2
theorem nmX6 : ∀ a, a < 2 → ∀ b, b < 2 → a ≠ b → (TX6 a).2.1 ≠ (TX6 b).2.1 := by decide +kernel
theorem tyX6_ok : ∀ k, k < 2 → parseFieldDescriptor (TX6 k).2.2.1 = some (tyX6 k) := by decide +kernel
def RX7 : String := "BubbleTorus$Rings"
def TX7 : u_T := fun k => match k with
  | 0 => ("BubbleTorus$Rings", "critical", "[I", true)
  | 1 => ("BubbleTorus$Rings", "owner", "[I", true)
  | 2 => ("BubbleTorus$Rings", "mark", "[I", true)
  | 3 => ("BubbleTorus$Rings", "barred", "[I", true)
  | 4 => ("BubbleTorus$Rings", "entries", "[I", true)
  | 5 => ("BubbleTorus$Rings", "fewest", "[I", true)
  | 6 => ("BubbleTorus$Rings", "hungers", "[I", true)
  | 7 => ("BubbleTorus$Rings", "topHunger", "[I", true)
  | 8 => ("BubbleTorus$Rings", "enteredNow", "[Z", true)
  | _ => ("BubbleTorus$Rings", "marksEver", "I", false)
def tyX7 : Nat → FieldType := fun k => match k with
  | 0 => .array .int
  | 1 => .array .int
  | 2 => .array .int
  | 3 => .array .int
  | 4 => .array .int
  | 5 => .array .int
  | 6 => .array .int
  | 7 => .array .int
  | 8 => .array .boolean
  | _ => .int
abbrev wsX70 : List Cond := u_ws RX7 TX7 10
theorem nmX7 : ∀ a, a < 10 → ∀ b, b < 10 → a ≠ b → (TX7 a).2.1 ≠ (TX7 b).2.1 := by decide +kernel
theorem tyX7_ok : ∀ k, k < 10 → parseFieldDescriptor (TX7 k).2.2.1 = some (tyX7 k) := by decide +kernel
def RX8 : String := "BubbleTorus$Search"
def TX8 : u_T := fun k => match k with
  | 0 => ("BubbleTorus$Search", "keys", "[J", true)
  | 1 => ("BubbleTorus$Search", "ways", "[I", true)
  | 2 => ("BubbleTorus$Search", "ids", "[I", true)
  | 3 => ("BubbleTorus$Search", "spots", "[I", true)
  | 4 => ("BubbleTorus$Search", "places", "[I", true)
  | 5 => ("BubbleTorus$Search", "answers", "[I", true)
  | 6 => ("BubbleTorus$Search", "left", "I", false)
  | 7 => ("BubbleTorus$Search", "count", "I", false)
  | 8 => ("BubbleTorus$Search", "steps", "I", false)
  | _ => ("BubbleTorus$Search", "tooMany", "Z", false)
def tyX8 : Nat → FieldType := fun k => match k with
  | 0 => .array .long
  | 1 => .array .int
  | 2 => .array .int
  | 3 => .array .int
  | 4 => .array .int
  | 5 => .array .int
  | 6 => .int
  | 7 => .int
  | 8 => .int
  | _ => .boolean
abbrev wsX80 : List Cond := u_ws RX8 TX8 10
theorem nmX8 : ∀ a, a < 10 → ∀ b, b < 10 → a ≠ b → (TX8 a).2.1 ≠ (TX8 b).2.1 := by decide +kernel
theorem tyX8_ok : ∀ k, k < 10 → parseFieldDescriptor (TX8 k).2.2.1 = some (tyX8 k) := by decide +kernel
def RX9 : String := "BubbleTorus"
def TX9 : u_T := fun k => match k with
  | 0 => ("BubbleTorus", "net", "LBubbleTorus$Net;", true)
  | 1 => ("BubbleTorus", "thought", "LBubbleTorus$Net;", true)
  | 2 => ("BubbleTorus", "grid", "LBubbleTorus$Grid;", true)
  | 3 => ("BubbleTorus", "outlook", "LBubbleTorus$Outlook;", true)
  | 4 => ("BubbleTorus", "search", "LBubbleTorus$Search;", true)
  | 5 => ("BubbleTorus", "loneRing", "LBubbleTorus$LoneRing;", true)
  | _ => ("BubbleTorus", "drawState", "I", false)
def tyX9 : Nat → FieldType := fun k => match k with
  | 0 => .object "BubbleTorus$Net"
  | 1 => .object "BubbleTorus$Net"
  | 2 => .object "BubbleTorus$Grid"
  | 3 => .object "BubbleTorus$Outlook"
  | 4 => .object "BubbleTorus$Search"
  | 5 => .object "BubbleTorus$LoneRing"
  | _ => .int
abbrev wsX90 : List Cond := u_ws RX9 TX9 7
theorem nmX9 : ∀ a, a < 7 → ∀ b, b < 7 → a ≠ b → (TX9 a).2.1 ≠ (TX9 b).2.1 := by decide +kernel
theorem tyX9_ok : ∀ k, k < 7 → parseFieldDescriptor (TX9 k).2.2.1 = some (tyX9 k) := by decide +kernel
def RX10 : String := "BubbleTorusModel"
def TX10 : u_T := fun k => match k with
  | 0 => ("BubbleTorusModel", "w", "[I", true)
  | 1 => ("BubbleTorusModel", "aside", "[I", true)
  | 2 => ("BubbleTorusModel", "state", "I", false)
  | 3 => ("BubbleTorusModel", "canOn", "[Z", true)
  | 4 => ("BubbleTorusModel", "some", "[I", true)
  | 5 => ("BubbleTorusModel", "waysTo", "[I", true)
  | 6 => ("BubbleTorusModel", "live", "[I", true)
  | 7 => ("BubbleTorusModel", "liveMany", "I", false)
  | 8 => ("BubbleTorusModel", "states", "I", false)
  | 9 => ("BubbleTorusModel", "stepMany", "I", false)
  | 10 => ("BubbleTorusModel", "n1", "I", false)
  | 11 => ("BubbleTorusModel", "e1", "I", false)
  | 12 => ("BubbleTorusModel", "rule1", "I", false)
  | 13 => ("BubbleTorusModel", "goals", "I", false)
  | 14 => ("BubbleTorusModel", "kinds", "I", false)
  | 15 => ("BubbleTorusModel", "held", "[I", true)
  | 16 => ("BubbleTorusModel", "critical", "I", false)
  | 17 => ("BubbleTorusModel", "stepsTo", "[I", true)
  | 18 => ("BubbleTorusModel", "order", "[I", true)
  | 19 => ("BubbleTorusModel", "found", "I", false)
  | 20 => ("BubbleTorusModel", "isDenied", "[Z", true)
  | 21 => ("BubbleTorusModel", "waits", "[I", true)
  | 22 => ("BubbleTorusModel", "isGone", "[Z", true)
  | 23 => ("BubbleTorusModel", "after", "[I", true)
  | 24 => ("BubbleTorusModel", "afterMany", "I", false)
  | _ => ("BubbleTorusModel", "afterQuiet", "I", false)
def tyX10 : Nat → FieldType := fun k => match k with
  | 0 => .array .int
  | 1 => .array .int
  | 2 => .int
  | 3 => .array .boolean
  | 4 => .array .int
  | 5 => .array .int
  | 6 => .array .int
  | 7 => .int
  | 8 => .int
  | 9 => .int
  | 10 => .int
  | 11 => .int
  | 12 => .int
  | 13 => .int
  | 14 => .int
  | 15 => .array .int
  | 16 => .int
  | 17 => .array .int
  | 18 => .array .int
  | 19 => .int
  | 20 => .array .boolean
  | 21 => .array .int
  | 22 => .array .boolean
  | 23 => .array .int
  | 24 => .int
  | _ => .int
abbrev wsX100 : List Cond := u_ws RX10 TX10 26
theorem nmX10 : ∀ a, a < 26 → ∀ b, b < 26 → a ≠ b → (TX10 a).2.1 ≠ (TX10 b).2.1 := by decide +kernel
theorem tyX10_ok : ∀ k, k < 26 → parseFieldDescriptor (TX10 k).2.2.1 = some (tyX10 k) := by decide +kernel
theorem tn1 {w : Cond} {j : Nat} (h : tables_1_1[j]? = some w) : w ∈ lw_tbl := List.mem_append_right _ (show w ∈ tables_1 from List.mem_append_left _ (List.mem_of_getElem? h))
def qT : List Cond := lw_tbl.filter goodWord
theorem tm1 {w : Cond} {j : Nat} (h : tables_1_1[j]? = some w) (g : goodWord w = true) : w ∈ qT := List.mem_filter.mpr ⟨List.mem_append_right _ (show w ∈ tables_1 from List.mem_append_left _ (List.mem_of_getElem? h)), g⟩
theorem tn2 {w : Cond} {j : Nat} (h : tables_1_2[j]? = some w) : w ∈ lw_tbl := List.mem_append_right _ (show w ∈ tables_1 from List.mem_append_right _ (List.mem_append_left _ (List.mem_of_getElem? h)))
theorem tm2 {w : Cond} {j : Nat} (h : tables_1_2[j]? = some w) (g : goodWord w = true) : w ∈ qT := List.mem_filter.mpr ⟨List.mem_append_right _ (show w ∈ tables_1 from List.mem_append_right _ (List.mem_append_left _ (List.mem_of_getElem? h))), g⟩
theorem tn3 {w : Cond} {j : Nat} (h : tables_1_3[j]? = some w) : w ∈ lw_tbl := List.mem_append_right _ (show w ∈ tables_1 from List.mem_append_right _ (List.mem_append_right _ (List.mem_append_left _ (List.mem_of_getElem? h))))
theorem tm3 {w : Cond} {j : Nat} (h : tables_1_3[j]? = some w) (g : goodWord w = true) : w ∈ qT := List.mem_filter.mpr ⟨List.mem_append_right _ (show w ∈ tables_1 from List.mem_append_right _ (List.mem_append_right _ (List.mem_append_left _ (List.mem_of_getElem? h)))), g⟩
theorem tn4 {w : Cond} {j : Nat} (h : tables_1_4[j]? = some w) : w ∈ lw_tbl := List.mem_append_right _ (show w ∈ tables_1 from List.mem_append_right _ (List.mem_append_right _ (List.mem_append_right _ (List.mem_append_left _ (List.mem_of_getElem? h)))))
theorem tm4 {w : Cond} {j : Nat} (h : tables_1_4[j]? = some w) (g : goodWord w = true) : w ∈ qT := List.mem_filter.mpr ⟨List.mem_append_right _ (show w ∈ tables_1 from List.mem_append_right _ (List.mem_append_right _ (List.mem_append_right _ (List.mem_append_left _ (List.mem_of_getElem? h))))), g⟩
theorem tn5 {w : Cond} {j : Nat} (h : tables_1_5[j]? = some w) : w ∈ lw_tbl := List.mem_append_right _ (show w ∈ tables_1 from List.mem_append_right _ (List.mem_append_right _ (List.mem_append_right _ (List.mem_append_right _ (List.mem_append_left _ (List.mem_of_getElem? h))))))
theorem tm5 {w : Cond} {j : Nat} (h : tables_1_5[j]? = some w) (g : goodWord w = true) : w ∈ qT := List.mem_filter.mpr ⟨List.mem_append_right _ (show w ∈ tables_1 from List.mem_append_right _ (List.mem_append_right _ (List.mem_append_right _ (List.mem_append_right _ (List.mem_append_left _ (List.mem_of_getElem? h)))))), g⟩
theorem tn6 {w : Cond} {j : Nat} (h : tables_1_6[j]? = some w) : w ∈ lw_tbl := List.mem_append_right _ (show w ∈ tables_1 from List.mem_append_right _ (List.mem_append_right _ (List.mem_append_right _ (List.mem_append_right _ (List.mem_append_right _ (List.mem_append_left _ (List.mem_of_getElem? h)))))))
theorem tm6 {w : Cond} {j : Nat} (h : tables_1_6[j]? = some w) (g : goodWord w = true) : w ∈ qT := List.mem_filter.mpr ⟨List.mem_append_right _ (show w ∈ tables_1 from List.mem_append_right _ (List.mem_append_right _ (List.mem_append_right _ (List.mem_append_right _ (List.mem_append_right _ (List.mem_append_left _ (List.mem_of_getElem? h))))))), g⟩
theorem tn7 {w : Cond} {j : Nat} (h : tables_1_7[j]? = some w) : w ∈ lw_tbl := List.mem_append_right _ (show w ∈ tables_1 from List.mem_append_right _ (List.mem_append_right _ (List.mem_append_right _ (List.mem_append_right _ (List.mem_append_right _ (List.mem_append_right _ (List.mem_append_left _ (List.mem_of_getElem? h))))))))
theorem tm7 {w : Cond} {j : Nat} (h : tables_1_7[j]? = some w) (g : goodWord w = true) : w ∈ qT := List.mem_filter.mpr ⟨List.mem_append_right _ (show w ∈ tables_1 from List.mem_append_right _ (List.mem_append_right _ (List.mem_append_right _ (List.mem_append_right _ (List.mem_append_right _ (List.mem_append_right _ (List.mem_append_left _ (List.mem_of_getElem? h)))))))), g⟩
theorem tn8 {w : Cond} {j : Nat} (h : tables_1_8[j]? = some w) : w ∈ lw_tbl := List.mem_append_right _ (show w ∈ tables_1 from List.mem_append_right _ (List.mem_append_right _ (List.mem_append_right _ (List.mem_append_right _ (List.mem_append_right _ (List.mem_append_right _ (List.mem_append_right _ (List.mem_of_getElem? h))))))))
theorem tm8 {w : Cond} {j : Nat} (h : tables_1_8[j]? = some w) (g : goodWord w = true) : w ∈ qT := List.mem_filter.mpr ⟨List.mem_append_right _ (show w ∈ tables_1 from List.mem_append_right _ (List.mem_append_right _ (List.mem_append_right _ (List.mem_append_right _ (List.mem_append_right _ (List.mem_append_right _ (List.mem_append_right _ (List.mem_of_getElem? h)))))))), g⟩
theorem tmp {q : MethodName × Nat} (h : q ∈ lw_privs) : Cond.selects q.1.cls q.1 q.1 ∈ qT := List.mem_filter.mpr ⟨List.mem_append_left _ (List.mem_map.mpr ⟨q, h, rfl⟩), rfl⟩
def RL : String := "BubbleTorusLaw"
def qNM (o : Option Cond) : String := match o with | some (.instanceMethod y) => y.name | _ => ""
abbrev qMI : Type := MethodName × ByteArray × Nat × Option FieldType × Nat × Nat
set_option maxRecDepth 20000 in
theorem inX0 : ∀ w ∈ u_ws RX0 TX0 7, w ∈ qT := (List.forall_mem_cons.mpr ⟨(tm1 (j := 83) rfl rfl), (List.forall_mem_cons.mpr ⟨(tm1 (j := 85) rfl rfl), (List.forall_mem_cons.mpr ⟨(tm1 (j := 87) rfl rfl), (List.forall_mem_cons.mpr ⟨(tm1 (j := 89) rfl rfl), (List.forall_mem_cons.mpr ⟨(tm1 (j := 91) rfl rfl), (List.forall_mem_cons.mpr ⟨(tm1 (j := 93) rfl rfl), (List.forall_mem_cons.mpr ⟨(tm1 (j := 95) rfl rfl), (fun _ h => absurd h List.not_mem_nil)⟩)⟩)⟩)⟩)⟩)⟩)⟩)
set_option maxRecDepth 20000 in
theorem inX1 : ∀ w ∈ u_ws RX1 TX1 16, w ∈ qT := (List.forall_mem_cons.mpr ⟨(tm2 (j := 140) rfl rfl), (List.forall_mem_cons.mpr ⟨(tm2 (j := 142) rfl rfl), (List.forall_mem_cons.mpr ⟨(tm2 (j := 144) rfl rfl), (List.forall_mem_cons.mpr ⟨(tm2 (j := 146) rfl rfl), (List.forall_mem_cons.mpr ⟨(tm2 (j := 148) rfl rfl), (List.forall_mem_cons.mpr ⟨(tm2 (j := 150) rfl rfl), (List.forall_mem_cons.mpr ⟨(tm2 (j := 152) rfl rfl), (List.forall_mem_cons.mpr ⟨(tm2 (j := 154) rfl rfl), (List.forall_mem_cons.mpr ⟨(tm2 (j := 156) rfl rfl), (List.forall_mem_cons.mpr ⟨(tm2 (j := 158) rfl rfl), (List.forall_mem_cons.mpr ⟨(tm2 (j := 160) rfl rfl), (List.forall_mem_cons.mpr ⟨(tm2 (j := 162) rfl rfl), (List.forall_mem_cons.mpr ⟨(tm2 (j := 164) rfl rfl), (List.forall_mem_cons.mpr ⟨(tm2 (j := 166) rfl rfl), (List.forall_mem_cons.mpr ⟨(tm2 (j := 168) rfl rfl), (List.forall_mem_cons.mpr ⟨(tm2 (j := 170) rfl rfl), (fun _ h => absurd h List.not_mem_nil)⟩)⟩)⟩)⟩)⟩)⟩)⟩)⟩)⟩)⟩)⟩)⟩)⟩)⟩)⟩)⟩)
set_option maxRecDepth 20000 in
theorem inX2 : ∀ w ∈ u_ws RX2 TX2 2, w ∈ qT := (List.forall_mem_cons.mpr ⟨(tm1 (j := 188) rfl rfl), (List.forall_mem_cons.mpr ⟨(tm1 (j := 190) rfl rfl), (fun _ h => absurd h List.not_mem_nil)⟩)⟩)
set_option maxRecDepth 20000 in
theorem inX3 : ∀ w ∈ u_ws RX3 TX3 13, w ∈ qT := (List.forall_mem_cons.mpr ⟨(tm2 (j := 41) rfl rfl), (List.forall_mem_cons.mpr ⟨(tm2 (j := 43) rfl rfl), (List.forall_mem_cons.mpr ⟨(tm2 (j := 45) rfl rfl), (List.forall_mem_cons.mpr ⟨(tm2 (j := 47) rfl rfl), (List.forall_mem_cons.mpr ⟨(tm2 (j := 49) rfl rfl), (List.forall_mem_cons.mpr ⟨(tm2 (j := 51) rfl rfl), (List.forall_mem_cons.mpr ⟨(tm2 (j := 53) rfl rfl), (List.forall_mem_cons.mpr ⟨(tm2 (j := 55) rfl rfl), (List.forall_mem_cons.mpr ⟨(tm2 (j := 57) rfl rfl), (List.forall_mem_cons.mpr ⟨(tm2 (j := 59) rfl rfl), (List.forall_mem_cons.mpr ⟨(tm2 (j := 61) rfl rfl), (List.forall_mem_cons.mpr ⟨(tm2 (j := 63) rfl rfl), (List.forall_mem_cons.mpr ⟨(tm2 (j := 65) rfl rfl), (fun _ h => absurd h List.not_mem_nil)⟩)⟩)⟩)⟩)⟩)⟩)⟩)⟩)⟩)⟩)⟩)⟩)⟩)
set_option maxRecDepth 20000 in
theorem inX4 : ∀ w ∈ u_ws RX4 TX4 1, w ∈ qT := (List.forall_mem_cons.mpr ⟨(tm2 (j := 76) rfl rfl), (fun _ h => absurd h List.not_mem_nil)⟩)
set_option maxRecDepth 20000 in
theorem inX5 : ∀ w ∈ u_ws RX5 TX5 15, w ∈ qT := (List.forall_mem_cons.mpr ⟨(tm1 (j := 130) rfl rfl), (List.forall_mem_cons.mpr ⟨(tm1 (j := 132) rfl rfl), (List.forall_mem_cons.mpr ⟨(tm1 (j := 134) rfl rfl), (List.forall_mem_cons.mpr ⟨(tm1 (j := 136) rfl rfl), (List.forall_mem_cons.mpr ⟨(tm1 (j := 138) rfl rfl), (List.forall_mem_cons.mpr ⟨(tm1 (j := 140) rfl rfl), (List.forall_mem_cons.mpr ⟨(tm1 (j := 142) rfl rfl), (List.forall_mem_cons.mpr ⟨(tm1 (j := 144) rfl rfl), (List.forall_mem_cons.mpr ⟨(tm1 (j := 146) rfl rfl), (List.forall_mem_cons.mpr ⟨(tm1 (j := 148) rfl rfl), (List.forall_mem_cons.mpr ⟨(tm1 (j := 150) rfl rfl), (List.forall_mem_cons.mpr ⟨(tm1 (j := 152) rfl rfl), (List.forall_mem_cons.mpr ⟨(tm1 (j := 154) rfl rfl), (List.forall_mem_cons.mpr ⟨(tm1 (j := 156) rfl rfl), (List.forall_mem_cons.mpr ⟨(tm1 (j := 158) rfl rfl), (fun _ h => absurd h List.not_mem_nil)⟩)⟩)⟩)⟩)⟩)⟩)⟩)⟩)⟩)⟩)⟩)⟩)⟩)⟩)⟩)
set_option maxRecDepth 20000 in
theorem inX6 : ∀ w ∈ u_ws RX6 TX6 2, w ∈ qT := (List.forall_mem_cons.mpr ⟨(tm1 (j := 173) rfl rfl), (List.forall_mem_cons.mpr ⟨(tm1 (j := 175) rfl rfl), (fun _ h => absurd h List.not_mem_nil)⟩)⟩)
set_option maxRecDepth 20000 in
theorem inX7 : ∀ w ∈ u_ws RX7 TX7 10, w ∈ qT := (List.forall_mem_cons.mpr ⟨(tm1 (j := 227) rfl rfl), (List.forall_mem_cons.mpr ⟨(tm1 (j := 229) rfl rfl), (List.forall_mem_cons.mpr ⟨(tm1 (j := 231) rfl rfl), (List.forall_mem_cons.mpr ⟨(tm1 (j := 233) rfl rfl), (List.forall_mem_cons.mpr ⟨(tm1 (j := 235) rfl rfl), (List.forall_mem_cons.mpr ⟨(tm1 (j := 237) rfl rfl), (List.forall_mem_cons.mpr ⟨(tm1 (j := 239) rfl rfl), (List.forall_mem_cons.mpr ⟨(tm2 (j := 1) rfl rfl), (List.forall_mem_cons.mpr ⟨(tm2 (j := 3) rfl rfl), (List.forall_mem_cons.mpr ⟨(tm2 (j := 5) rfl rfl), (fun _ h => absurd h List.not_mem_nil)⟩)⟩)⟩)⟩)⟩)⟩)⟩)⟩)⟩)⟩)
set_option maxRecDepth 20000 in
theorem inX8 : ∀ w ∈ u_ws RX8 TX8 10, w ∈ qT := (List.forall_mem_cons.mpr ⟨(tm2 (j := 96) rfl rfl), (List.forall_mem_cons.mpr ⟨(tm2 (j := 98) rfl rfl), (List.forall_mem_cons.mpr ⟨(tm2 (j := 100) rfl rfl), (List.forall_mem_cons.mpr ⟨(tm2 (j := 102) rfl rfl), (List.forall_mem_cons.mpr ⟨(tm2 (j := 104) rfl rfl), (List.forall_mem_cons.mpr ⟨(tm2 (j := 106) rfl rfl), (List.forall_mem_cons.mpr ⟨(tm2 (j := 108) rfl rfl), (List.forall_mem_cons.mpr ⟨(tm2 (j := 110) rfl rfl), (List.forall_mem_cons.mpr ⟨(tm2 (j := 112) rfl rfl), (List.forall_mem_cons.mpr ⟨(tm2 (j := 114) rfl rfl), (fun _ h => absurd h List.not_mem_nil)⟩)⟩)⟩)⟩)⟩)⟩)⟩)⟩)⟩)⟩)
set_option maxRecDepth 20000 in
theorem inX9 : ∀ w ∈ u_ws RX9 TX9 7, w ∈ qT := (List.forall_mem_cons.mpr ⟨(tm2 (j := 213) rfl rfl), (List.forall_mem_cons.mpr ⟨(tm2 (j := 215) rfl rfl), (List.forall_mem_cons.mpr ⟨(tm2 (j := 217) rfl rfl), (List.forall_mem_cons.mpr ⟨(tm2 (j := 219) rfl rfl), (List.forall_mem_cons.mpr ⟨(tm2 (j := 221) rfl rfl), (List.forall_mem_cons.mpr ⟨(tm2 (j := 223) rfl rfl), (List.forall_mem_cons.mpr ⟨(tm2 (j := 225) rfl rfl), (fun _ h => absurd h List.not_mem_nil)⟩)⟩)⟩)⟩)⟩)⟩)⟩)
set_option maxRecDepth 20000 in
theorem inX10 : ∀ w ∈ u_ws RX10 TX10 26, w ∈ qT := (List.forall_mem_cons.mpr ⟨(tm5 (j := 228) rfl rfl), (List.forall_mem_cons.mpr ⟨(tm5 (j := 230) rfl rfl), (List.forall_mem_cons.mpr ⟨(tm5 (j := 232) rfl rfl), (List.forall_mem_cons.mpr ⟨(tm5 (j := 234) rfl rfl), (List.forall_mem_cons.mpr ⟨(tm5 (j := 236) rfl rfl), (List.forall_mem_cons.mpr ⟨(tm5 (j := 238) rfl rfl), (List.forall_mem_cons.mpr ⟨(tm6 (j := 0) rfl rfl), (List.forall_mem_cons.mpr ⟨(tm6 (j := 2) rfl rfl), (List.forall_mem_cons.mpr ⟨(tm6 (j := 4) rfl rfl), (List.forall_mem_cons.mpr ⟨(tm6 (j := 6) rfl rfl), (List.forall_mem_cons.mpr ⟨(tm6 (j := 8) rfl rfl), (List.forall_mem_cons.mpr ⟨(tm6 (j := 10) rfl rfl), (List.forall_mem_cons.mpr ⟨(tm6 (j := 12) rfl rfl), (List.forall_mem_cons.mpr ⟨(tm6 (j := 14) rfl rfl), (List.forall_mem_cons.mpr ⟨(tm6 (j := 16) rfl rfl), (List.forall_mem_cons.mpr ⟨(tm6 (j := 18) rfl rfl), (List.forall_mem_cons.mpr ⟨(tm6 (j := 20) rfl rfl), (List.forall_mem_cons.mpr ⟨(tm6 (j := 22) rfl rfl), (List.forall_mem_cons.mpr ⟨(tm6 (j := 24) rfl rfl), (List.forall_mem_cons.mpr ⟨(tm6 (j := 26) rfl rfl), (List.forall_mem_cons.mpr ⟨(tm6 (j := 28) rfl rfl), (List.forall_mem_cons.mpr ⟨(tm6 (j := 30) rfl rfl), (List.forall_mem_cons.mpr ⟨(tm6 (j := 32) rfl rfl), (List.forall_mem_cons.mpr ⟨(tm6 (j := 34) rfl rfl), (List.forall_mem_cons.mpr ⟨(tm6 (j := 36) rfl rfl), (List.forall_mem_cons.mpr ⟨(tm6 (j := 38) rfl rfl), (fun _ h => absurd h List.not_mem_nil)⟩)⟩)⟩)⟩)⟩)⟩)⟩)⟩)⟩)⟩)⟩)⟩)⟩)⟩)⟩)⟩)⟩)⟩)⟩)⟩)⟩)⟩)⟩)⟩)⟩)⟩)
abbrev vwCl : List vw_C := [(RX0, TX0, 7), (RX1, TX1, 16), (RX2, TX2, 2), (RX3, TX3, 13), (RX4, TX4, 1), (RX5, TX5, 15), (RX6, TX6, 2), (RX7, TX7, 10), (RX8, TX8, 10), (RX9, TX9, 7), (RX10, TX10, 26)]
def m_X_init : qMI := (⟨"BubbleTorus", "<init>", "()V"⟩, prog_1_method_1_code, 1, none, 0, 7)
def m_JO_init : qMI := (⟨"java/lang/Object", "<init>", "()V"⟩, object_method_1_code, 1, none, 0, 0)
def m_N_init : qMI := (⟨"BubbleTorus$Net", "<init>", "()V"⟩, prog_5_method_1_code, 1, none, 0, 6)
def m_G_init : qMI := (⟨"BubbleTorus$Grid", "<init>", "()V"⟩, prog_2_method_1_code, 1, none, 0, 5)
def m_G_lay : qMI := (⟨"BubbleTorus$Grid", "lay", "(II)V"⟩, prog_2_method_2_code, 6, none, 2, 4)
def m_X_within : qMI := (⟨"BubbleTorus", "within", "(III)Z"⟩, prog_1_method_36_code, 3, (some .boolean), 3, 0)
def m_G_step : qMI := (⟨"BubbleTorus$Grid", "step", "(II)I"⟩, prog_2_method_16_code, 5, (some .int), 2, 0)
def m_G_directionsNearer : qMI := (⟨"BubbleTorus$Grid", "directionsNearer", "(II)I"⟩, prog_2_method_17_code, 5, (some .int), 2, 3)
def m_G_distance : qMI := (⟨"BubbleTorus$Grid", "distance", "(II)I"⟩, prog_2_method_8_code, 3, (some .int), 2, 2)
def m_G_gap : qMI := (⟨"BubbleTorus$Grid", "gap", "(III)I"⟩, prog_2_method_19_code, 4, (some .int), 3, 1)
def m_JM_abs : qMI := (⟨"java/lang/Math", "abs", "(I)I"⟩, prog_13_method_59_code, 1, (some .int), 1, 0)
def m_JM_min : qMI := (⟨"java/lang/Math", "min", "(II)I"⟩, prog_13_method_69_code, 2, (some .int), 2, 0)
def m_G_leastOf : qMI := (⟨"BubbleTorus$Grid", "leastOf", "(I)I"⟩, prog_2_method_18_code, 2, (some .int), 1, 0)
def m_P_init : qMI := (⟨"BubbleTorus$Packets", "<init>", "()V"⟩, prog_7_method_1_code, 1, none, 0, 1)
def m_Q_init : qMI := (⟨"BubbleTorus$Queues", "<init>", "()V"⟩, prog_8_method_1_code, 1, none, 0, 1)
def m_V_init : qMI := (⟨"BubbleTorus$Moves", "<init>", "()V"⟩, prog_4_method_1_code, 1, none, 0, 1)
def m_R_init : qMI := (⟨"BubbleTorus$Rings", "<init>", "()V"⟩, prog_9_method_1_code, 1, none, 0, 1)
def m_O_init : qMI := (⟨"BubbleTorus$Outlook", "<init>", "()V"⟩, prog_6_method_1_code, 1, none, 0, 1)
def m_S_init : qMI := (⟨"BubbleTorus$Search", "<init>", "()V"⟩, prog_10_method_1_code, 1, none, 0, 1)
def m_L_init : qMI := (⟨"BubbleTorus$LoneRing", "<init>", "()V"⟩, prog_3_method_1_code, 1, none, 0, 1)
def m_N_begin : qMI := (⟨"BubbleTorus$Net", "begin", "(IIII)V"⟩, prog_5_method_2_code, 5, none, 4, 2)
def m_P_clearAll : qMI := (⟨"BubbleTorus$Packets", "clearAll", "()V"⟩, prog_7_method_2_code, 1, none, 0, 0)
def m_Q_clearAll : qMI := (⟨"BubbleTorus$Queues", "clearAll", "()V"⟩, prog_8_method_2_code, 1, none, 0, 1)
def m_JA_fill : qMI := (⟨"java/util/Arrays", "fill", "([II)V"⟩, prog_15_method_103_code, 4, none, 2, 0)
def m_R_clearAll : qMI := (⟨"BubbleTorus$Rings", "clearAll", "(LBubbleTorus$Grid;I)V"⟩, prog_9_method_2_code, 4, none, 2, 1)
def m_G_ringNode : qMI := (⟨"BubbleTorus$Grid", "ringNode", "(II)I"⟩, prog_2_method_13_code, 4, (some .int), 2, 0)
def m_G_ringLength : qMI := (⟨"BubbleTorus$Grid", "ringLength", "(I)I"⟩, prog_2_method_12_code, 2, (some .int), 1, 0)
def m_R_forgetEntries : qMI := (⟨"BubbleTorus$Rings", "forgetEntries", "()V"⟩, prog_9_method_4_code, 2, none, 0, 0)
def m_X_torus : qMI := (⟨"BubbleTorus", "torus", "(IIIIII)Z"⟩, prog_1_method_2_code, 7, (some .boolean), 6, 5)
def m_X_isBound : qMI := (⟨"BubbleTorus", "isBound", "(I)Z"⟩, prog_1_method_38_code, 1, (some .boolean), 1, 1)
def m_X_send : qMI := (⟨"BubbleTorus", "send", "(II)I"⟩, prog_1_method_3_code, 3, (some .int), 2, 2)
def m_N_admit : qMI := (⟨"BubbleTorus$Net", qNM (tables_1_3[2]?), "(II)I"⟩, prog_5_method_4_code, 5, (some .int), 2, 1)
def m_G_hasNode : qMI := (⟨"BubbleTorus$Grid", "hasNode", "(I)Z"⟩, prog_2_method_4_code, 2, (some .boolean), 1, 0)
def m_P_add : qMI := (⟨"BubbleTorus$Packets", "add", "(III)I"⟩, prog_7_method_8_code, 5, (some .int), 3, 0)
def m_Q_put : qMI := (⟨"BubbleTorus$Queues", "put", "(II)V"⟩, prog_8_method_7_code, 3, none, 2, 0)
def m_X_shower : qMI := (⟨"BubbleTorus", "shower", "(I)I"⟩, prog_1_method_4_code, 6, (some .int), 1, 3)
def m_X_draw : qMI := (⟨"BubbleTorus", "draw", "(I)I"⟩, prog_1_method_34_code, 2, (some .int), 1, 0)
def m_N_admitOrLose : qMI := (⟨"BubbleTorus$Net", "admitOrLose", "(II)I"⟩, prog_5_method_5_code, 3, (some .int), 2, 2)
def m_X_pattern : qMI := (⟨"BubbleTorus", "pattern", "(II)I"⟩, prog_1_method_5_code, 6, (some .int), 2, 3)
def m_G_aimOf : qMI := (⟨"BubbleTorus$Grid", "aimOf", "(II)I"⟩, prog_2_method_15_code, 5, (some .int), 2, 1)
def m_G_nextBy : qMI := (⟨"BubbleTorus$Grid", "nextBy", "(II)I"⟩, prog_2_method_5_code, 3, (some .int), 2, 0)
def m_X_tick : qMI := (⟨"BubbleTorus", "tick", "(I)I"⟩, prog_1_method_6_code, 4, (some .int), 1, 6)
def m_N_runTick : qMI := (⟨"BubbleTorus$Net", "runTick", "()I"⟩, prog_5_method_6_code, 6, (some .int), 0, 5)
def m_N_deliverFirsts : qMI := (⟨"BubbleTorus$Net", "deliverFirsts", "()I"⟩, prog_5_method_7_code, 5, (some .int), 0, 3)
def m_Q_first : qMI := (⟨"BubbleTorus$Queues", "first", "(I)I"⟩, prog_8_method_4_code, 2, (some .int), 1, 0)
def m_Q_dropFirst : qMI := (⟨"BubbleTorus$Queues", "dropFirst", "(I)V"⟩, prog_8_method_8_code, 4, none, 1, 0)
def m_P_noteDelivery : qMI := (⟨"BubbleTorus$Packets", "noteDelivery", "(II)V"⟩, prog_7_method_10_code, 3, none, 2, 2)
def m_P_laterIsDelivered : qMI := (⟨"BubbleTorus$Packets", "laterIsDelivered", "(I)Z"⟩, prog_7_method_11_code, 3, (some .boolean), 1, 1)
def m_P_isBetween : qMI := (⟨"BubbleTorus$Packets", "isBetween", "(III)Z"⟩, prog_7_method_12_code, 4, (some .boolean), 3, 0)
def m_P_isDelivered : qMI := (⟨"BubbleTorus$Packets", "isDelivered", "(I)Z"⟩, prog_7_method_6_code, 2, (some .boolean), 1, 0)
def m_N_chosenQueue : qMI := (⟨"BubbleTorus$Net", "chosenQueue", "(II)I"⟩, prog_5_method_8_code, 7, (some .int), 2, 4)
def m_N_canGo : qMI := (⟨"BubbleTorus$Net", "canGo", "(III)Z"⟩, prog_5_method_9_code, 4, (some .boolean), 3, 3)
def m_N_adaptiveLets : qMI := (⟨"BubbleTorus$Net", "adaptiveLets", "(III)Z"⟩, prog_5_method_14_code, 4, (some .boolean), 3, 2)
def m_N_isProfitable : qMI := (⟨"BubbleTorus$Net", "isProfitable", "(III)Z"⟩, prog_5_method_12_code, 5, (some .boolean), 3, 1)
def m_G_nearerBy : qMI := (⟨"BubbleTorus$Grid", "nearerBy", "(II)I"⟩, prog_2_method_6_code, 3, (some .int), 2, 0)
def m_N_escapeLets : qMI := (⟨"BubbleTorus$Net", "escapeLets", "(III)Z"⟩, prog_5_method_15_code, 4, (some .boolean), 3, 2)
def m_N_isEscape : qMI := (⟨"BubbleTorus$Net", "isEscape", "(III)Z"⟩, prog_5_method_11_code, 5, (some .boolean), 3, 1)
def m_G_escapeBy : qMI := (⟨"BubbleTorus$Grid", "escapeBy", "(II)I"⟩, prog_2_method_7_code, 3, (some .int), 2, 0)
def m_N_freeAhead : qMI := (⟨"BubbleTorus$Net", "freeAhead", "(II)I"⟩, prog_5_method_16_code, 3, (some .int), 2, 0)
def m_N_ruleLets : qMI := (⟨"BubbleTorus$Net", "ruleLets", "(II)Z"⟩, prog_5_method_17_code, 4, (some .boolean), 2, 1)
def m_G_ringIndex : qMI := (⟨"BubbleTorus$Grid", "ringIndex", "(II)I"⟩, prog_2_method_10_code, 5, (some .int), 2, 0)
def m_N_continues : qMI := (⟨"BubbleTorus$Net", "continues", "(III)Z"⟩, prog_5_method_10_code, 4, (some .boolean), 3, 2)
def m_N_isBarred : qMI := (⟨"BubbleTorus$Net", "isBarred", "(II)Z"⟩, prog_5_method_18_code, 3, (some .boolean), 2, 1)
def m_N_goFrom : qMI := (⟨"BubbleTorus$Net", "goFrom", "(III)V"⟩, prog_5_method_19_code, 7, none, 3, 4)
def m_N_shift : qMI := (⟨"BubbleTorus$Net", "shift", "(IIII)V"⟩, prog_5_method_20_code, 9, none, 4, 3)
def m_X_firstOfLane : qMI := (⟨"BubbleTorus", "firstOfLane", "(I)I"⟩, prog_1_method_39_code, 1, (some .int), 1, 0)
def m_P_noteHop : qMI := (⟨"BubbleTorus$Packets", "noteHop", "(IIIII)V"⟩, prog_7_method_9_code, 6, none, 5, 0)
def m_V_add : qMI := (⟨"BubbleTorus$Moves", "add", "(IIIII)V"⟩, prog_4_method_3_code, 7, none, 5, 0)
def m_N_feelHunger : qMI := (⟨"BubbleTorus$Net", "feelHunger", "()V"⟩, prog_5_method_21_code, 3, none, 0, 3)
def m_N_wantsIn : qMI := (⟨"BubbleTorus$Net", "wantsIn", "(II)Z"⟩, prog_5_method_22_code, 4, (some .boolean), 2, 2)
def m_R_noteHunger : qMI := (⟨"BubbleTorus$Rings", "noteHunger", "(IIZ)V"⟩, prog_9_method_5_code, 5, none, 3, 1)
def m_JM_max : qMI := (⟨"java/lang/Math", "max", "(II)I"⟩, prog_13_method_65_code, 2, (some .int), 2, 0)
def m_N_turnMarks : qMI := (⟨"BubbleTorus$Net", "turnMarks", "()V"⟩, prog_5_method_23_code, 5, none, 0, 2)
def m_G_ringDirection : qMI := (⟨"BubbleTorus$Grid", "ringDirection", "(I)I"⟩, prog_2_method_11_code, 2, (some .int), 1, 0)
def m_R_carryMark : qMI := (⟨"BubbleTorus$Rings", "carryMark", "(II)V"⟩, prog_9_method_7_code, 3, none, 2, 0)
def m_R_endMark : qMI := (⟨"BubbleTorus$Rings", "endMark", "(I)V"⟩, prog_9_method_8_code, 2, none, 1, 0)
def m_N_hungriestIn : qMI := (⟨"BubbleTorus$Net", "hungriestIn", "(II)I"⟩, prog_5_method_24_code, 7, (some .int), 2, 1)
def m_R_setMark : qMI := (⟨"BubbleTorus$Rings", "setMark", "(II)V"⟩, prog_9_method_6_code, 3, none, 2, 0)
def m_N_noteFewest : qMI := (⟨"BubbleTorus$Net", "noteFewest", "()V"⟩, prog_5_method_25_code, 2, none, 0, 3)
def m_N_freeIn : qMI := (⟨"BubbleTorus$Net", "freeIn", "(I)I"⟩, prog_5_method_27_code, 2, (some .int), 1, 2)
def m_N_heldIn : qMI := (⟨"BubbleTorus$Net", "heldIn", "(I)I"⟩, prog_5_method_26_code, 5, (some .int), 1, 1)
def m_X_state : qMI := (⟨"BubbleTorus", "state", "(I)I"⟩, prog_1_method_7_code, 3, (some .int), 1, 0)
def m_X_bound : qMI := (⟨"BubbleTorus", "bound", "(I)Z"⟩, prog_1_method_8_code, 2, (some .boolean), 1, 2)
def m_X_packet : qMI := (⟨"BubbleTorus", "packet", "(II)I"⟩, prog_1_method_9_code, 3, (some .int), 2, 1)
def m_P_has : qMI := (⟨"BubbleTorus$Packets", "has", "(I)Z"⟩, prog_7_method_5_code, 2, (some .boolean), 1, 0)
def m_P_fact : qMI := (⟨"BubbleTorus$Packets", "fact", "(II)I"⟩, prog_7_method_13_code, 3, (some .int), 2, 0)
def m_X_queue : qMI := (⟨"BubbleTorus", "queue", "(IIII)I"⟩, prog_1_method_10_code, 6, (some .int), 4, 2)
def m_X_isDirection : qMI := (⟨"BubbleTorus", "isDirection", "(I)Z"⟩, prog_1_method_37_code, 1, (some .boolean), 1, 1)
def m_Q_itemAt : qMI := (⟨"BubbleTorus$Queues", "itemAt", "(II)I"⟩, prog_8_method_5_code, 3, (some .int), 2, 0)
def m_X_next : qMI := (⟨"BubbleTorus", "next", "(II)I"⟩, prog_1_method_11_code, 3, (some .int), 2, 2)
def m_X_far : qMI := (⟨"BubbleTorus", "far", "(II)I"⟩, prog_1_method_12_code, 3, (some .int), 2, 3)
def m_X_profitable : qMI := (⟨"BubbleTorus", "profitable", "(II)I"⟩, prog_1_method_13_code, 3, (some .int), 2, 1)
def m_X_way : qMI := (⟨"BubbleTorus", "way", "(III)I"⟩, prog_1_method_14_code, 4, (some .int), 3, 4)
def m_G_wayStep : qMI := (⟨"BubbleTorus$Grid", "wayStep", "(III)I"⟩, prog_2_method_9_code, 7, (some .int), 3, 3)
def m_X_ring : qMI := (⟨"BubbleTorus", "ring", "(II)I"⟩, prog_1_method_15_code, 3, (some .int), 2, 3)
def m_X_ringOf : qMI := (⟨"BubbleTorus", "ringOf", "(II)I"⟩, prog_1_method_16_code, 3, (some .int), 2, 2)
def m_X_hunger : qMI := (⟨"BubbleTorus", "hunger", "(II)I"⟩, prog_1_method_17_code, 3, (some .int), 2, 2)
def m_X_node : qMI := (⟨"BubbleTorus", "node", "(II)I"⟩, prog_1_method_18_code, 3, (some .int), 2, 2)
def m_Q_heldFrom : qMI := (⟨"BubbleTorus$Queues", "heldFrom", "(II)I"⟩, prog_8_method_9_code, 5, (some .int), 2, 0)
def m_P_sentFrom : qMI := (⟨"BubbleTorus$Packets", "sentFrom", "(I)I"⟩, prog_7_method_15_code, 4, (some .int), 1, 0)
def m_P_deliveredTo : qMI := (⟨"BubbleTorus$Packets", "deliveredTo", "(I)I"⟩, prog_7_method_16_code, 4, (some .int), 1, 1)
def m_P_longestAtDoor : qMI := (⟨"BubbleTorus$Packets", "longestAtDoor", "(I)I"⟩, prog_7_method_17_code, 4, (some .int), 1, 1)
def m_X_move : qMI := (⟨"BubbleTorus", "move", "(II)I"⟩, prog_1_method_19_code, 3, (some .int), 2, 2)
def m_V_fact : qMI := (⟨"BubbleTorus$Moves", "fact", "(II)I"⟩, prog_4_method_4_code, 3, (some .int), 2, 1)
def m_X_link : qMI := (⟨"BubbleTorus", "link", "(II)I"⟩, prog_1_method_20_code, 3, (some .int), 2, 2)
def m_X_trace : qMI := (⟨"BubbleTorus", "trace", "(II)I"⟩, prog_1_method_21_code, 3, (some .int), 2, 1)
def m_P_nodeBehind : qMI := (⟨"BubbleTorus$Packets", "nodeBehind", "(II)I"⟩, prog_7_method_14_code, 3, (some .int), 2, 0)
def m_X_pair : qMI := (⟨"BubbleTorus", "pair", "(III)I"⟩, prog_1_method_22_code, 4, (some .int), 3, 2)
def m_P_sentBetween : qMI := (⟨"BubbleTorus$Packets", "sentBetween", "(II)I"⟩, prog_7_method_18_code, 5, (some .int), 2, 1)
def m_P_deliveredBetween : qMI := (⟨"BubbleTorus$Packets", "deliveredBetween", "(II)I"⟩, prog_7_method_19_code, 5, (some .int), 2, 1)
def m_P_disorderBetween : qMI := (⟨"BubbleTorus$Packets", "disorderBetween", "(II)I"⟩, prog_7_method_20_code, 5, (some .int), 2, 1)
def m_P_latestBetween : qMI := (⟨"BubbleTorus$Packets", "latestBetween", "(II)I"⟩, prog_7_method_21_code, 5, (some .int), 2, 1)
def m_P_lateness : qMI := (⟨"BubbleTorus$Packets", "lateness", "(I)I"⟩, prog_7_method_22_code, 2, (some .int), 1, 0)
def m_X_late : qMI := (⟨"BubbleTorus", "late", "(II)I"⟩, prog_1_method_23_code, 3, (some .int), 2, 2)
def m_P_lateWithin : qMI := (⟨"BubbleTorus$Packets", "lateWithin", "(II)I"⟩, prog_7_method_23_code, 5, (some .int), 2, 1)
def m_X_lates : qMI := (⟨"BubbleTorus", "lates", "(II)I"⟩, prog_1_method_24_code, 4, (some .int), 2, 3)
def m_P_differentLates : qMI := (⟨"BubbleTorus$Packets", "differentLates", "()I"⟩, prog_7_method_25_code, 3, (some .int), 0, 2)
def m_P_lateAbove : qMI := (⟨"BubbleTorus$Packets", "lateAbove", "(I)I"⟩, prog_7_method_24_code, 4, (some .int), 1, 1)
def m_P_lateAt : qMI := (⟨"BubbleTorus$Packets", "lateAt", "(I)I"⟩, prog_7_method_26_code, 4, (some .int), 1, 2)
def m_X_goesOn : qMI := (⟨"BubbleTorus", "goesOn", "(I)I"⟩, prog_1_method_25_code, 3, (some .int), 1, 5)
def m_N_queueOf : qMI := (⟨"BubbleTorus$Net", "queueOf", "(I)I"⟩, prog_5_method_29_code, 3, (some .int), 1, 1)
def m_O_judge : qMI := (⟨"BubbleTorus$Outlook", "judge", "(LBubbleTorus$Net;)V"⟩, prog_6_method_2_code, 5, none, 1, 4)
def m_O_goesAtOnce : qMI := (⟨"BubbleTorus$Outlook", "goesAtOnce", "(LBubbleTorus$Net;II)Z"⟩, prog_6_method_3_code, 5, (some .boolean), 3, 3)
def m_N_isInTo : qMI := (⟨"BubbleTorus$Net", "isInTo", "(II)Z"⟩, prog_5_method_13_code, 4, (some .boolean), 2, 1)
def m_O_follows : qMI := (⟨"BubbleTorus$Outlook", "follows", "(LBubbleTorus$Net;II)Z"⟩, prog_6_method_4_code, 6, (some .boolean), 3, 3)
def m_O_anyInRing : qMI := (⟨"BubbleTorus$Outlook", "anyInRing", "(LBubbleTorus$Grid;II)Z"⟩, prog_6_method_5_code, 6, (some .boolean), 3, 1)
def m_X_stuck : qMI := (⟨"BubbleTorus", "stuck", "()I"⟩, prog_1_method_26_code, 1, (some .int), 0, 5)
def m_O_held : qMI := (⟨"BubbleTorus$Outlook", "held", "(LBubbleTorus$Net;)I"⟩, prog_6_method_7_code, 4, (some .int), 1, 0)
def m_X_dead : qMI := (⟨"BubbleTorus", "dead", "()I"⟩, prog_1_method_27_code, 1, (some .int), 0, 5)
def m_P_left : qMI := (⟨"BubbleTorus$Packets", "left", "()I"⟩, prog_7_method_7_code, 1, (some .int), 0, 0)
def m_O_anyGoesOn : qMI := (⟨"BubbleTorus$Outlook", "anyGoesOn", "()Z"⟩, prog_6_method_6_code, 2, (some .boolean), 0, 0)
def m_X_through : qMI := (⟨"BubbleTorus", "through", "()I"⟩, prog_1_method_28_code, 1, (some .int), 0, 7)
def m_N_copyFrom : qMI := (⟨"BubbleTorus$Net", "copyFrom", "(LBubbleTorus$Net;)V"⟩, prog_5_method_3_code, 2, none, 1, 6)
def m_G_copyFrom : qMI := (⟨"BubbleTorus$Grid", "copyFrom", "(LBubbleTorus$Grid;)V"⟩, prog_2_method_3_code, 2, none, 1, 5)
def m_V_copyFrom : qMI := (⟨"BubbleTorus$Moves", "copyFrom", "(LBubbleTorus$Moves;)V"⟩, prog_4_method_2_code, 2, none, 1, 2)
def m_P_copyFrom : qMI := (⟨"BubbleTorus$Packets", "copyFrom", "(LBubbleTorus$Packets;)V"⟩, prog_7_method_3_code, 2, none, 1, 3)
def m_P_copyRow : qMI := (⟨"BubbleTorus$Packets", "copyRow", "([I[I)V"⟩, prog_7_method_4_code, 3, none, 2, 2)
def m_Q_copyFrom : qMI := (⟨"BubbleTorus$Queues", "copyFrom", "(LBubbleTorus$Queues;)V"⟩, prog_8_method_3_code, 2, none, 1, 2)
def m_R_copyFrom : qMI := (⟨"BubbleTorus$Rings", "copyFrom", "(LBubbleTorus$Rings;)V"⟩, prog_9_method_3_code, 2, none, 1, 2)
def m_X_ticksUntilDelivered : qMI := (⟨"BubbleTorus", "ticksUntilDelivered", "(I)I"⟩, prog_1_method_35_code, 5, (some .int), 1, 6)
def m_X_arrives : qMI := (⟨"BubbleTorus", "arrives", "(II)I"⟩, prog_1_method_29_code, 4, (some .int), 2, 7)
def m_X_enters : qMI := (⟨"BubbleTorus", "enters", "(II)I"⟩, prog_1_method_30_code, 3, (some .int), 2, 2)
def m_X_schedules : qMI := (⟨"BubbleTorus", "schedules", "(I)I"⟩, prog_1_method_31_code, 2, (some .int), 1, 7)
def m_S_run : qMI := (⟨"BubbleTorus$Search", "run", "(LBubbleTorus$Net;)Z"⟩, prog_10_method_2_code, 3, (some .boolean), 1, 6)
def m_S_findLeft : qMI := (⟨"BubbleTorus$Search", "findLeft", "(LBubbleTorus$Net;)V"⟩, prog_10_method_3_code, 3, none, 1, 2)
def m_S_reach : qMI := (⟨"BubbleTorus$Search", "reach", "(LBubbleTorus$Net;I)V"⟩, prog_10_method_7_code, 6, none, 2, 2)
def m_S_keyOf : qMI := (⟨"BubbleTorus$Search", "keyOf", "(LBubbleTorus$Net;)J"⟩, prog_10_method_8_code, 6, (some .long), 1, 1)
def m_Q_placeOf : qMI := (⟨"BubbleTorus$Queues", "placeOf", "(II)I"⟩, prog_8_method_6_code, 4, (some .int), 2, 0)
def m_G_placeInRing : qMI := (⟨"BubbleTorus$Grid", "placeInRing", "(II)I"⟩, prog_2_method_14_code, 3, (some .int), 2, 0)
def m_S_open : qMI := (⟨"BubbleTorus$Search", "open", "(LBubbleTorus$Net;J)V"⟩, prog_10_method_9_code, 8, none, 2, 1)
def m_S_extend : qMI := (⟨"BubbleTorus$Search", "extend", "(LBubbleTorus$Net;I)V"⟩, prog_10_method_4_code, 6, none, 2, 5)
def m_S_close : qMI := (⟨"BubbleTorus$Search", "close", "(LBubbleTorus$Net;III)V"⟩, prog_10_method_6_code, 5, none, 4, 3)
def m_S_tryBy : qMI := (⟨"BubbleTorus$Search", "tryBy", "(LBubbleTorus$Net;III)V"⟩, prog_10_method_5_code, 8, none, 4, 4)
def m_S_weigh : qMI := (⟨"BubbleTorus$Search", "weigh", "(LBubbleTorus$Net;I)V"⟩, prog_10_method_10_code, 5, none, 2, 3)
def m_N_heldInLane : qMI := (⟨"BubbleTorus$Net", "heldInLane", "(I)I"⟩, prog_5_method_28_code, 4, (some .int), 1, 1)
def m_X_alone : qMI := (⟨"BubbleTorus", "alone", "(IIII)I"⟩, prog_1_method_32_code, 5, (some .int), 4, 7)
def m_L_answer : qMI := (⟨"BubbleTorus$LoneRing", "answer", "(IIII)I"⟩, prog_3_method_3_code, 6, (some .int), 4, 6)
def m_L_canBe : qMI := (⟨"BubbleTorus$LoneRing", "canBe", "(II)Z"⟩, prog_3_method_2_code, 2, (some .boolean), 2, 1)
def m_L_solve : qMI := (⟨"BubbleTorus$LoneRing", "solve", "(IIII)V"⟩, prog_3_method_4_code, 6, none, 4, 5)
def m_L_prepare : qMI := (⟨"BubbleTorus$LoneRing", "prepare", "(III)V"⟩, prog_3_method_5_code, 6, none, 3, 0)
def m_L_explore : qMI := (⟨"BubbleTorus$LoneRing", "explore", "()V"⟩, prog_3_method_6_code, 4, none, 0, 3)
def m_L_open : qMI := (⟨"BubbleTorus$LoneRing", "open", "(I)V"⟩, prog_3_method_12_code, 3, none, 1, 1)
def m_L_lengthOf : qMI := (⟨"BubbleTorus$LoneRing", "lengthOf", "(I)I"⟩, prog_3_method_17_code, 4, (some .int), 1, 0)
def m_L_listSteps : qMI := (⟨"BubbleTorus$LoneRing", "listSteps", "(I)V"⟩, prog_3_method_13_code, 4, none, 1, 2)
def m_L_listStepOfFirst : qMI := (⟨"BubbleTorus$LoneRing", "listStepOfFirst", "(II)V"⟩, prog_3_method_14_code, 9, none, 2, 1)
def m_L_addStep : qMI := (⟨"BubbleTorus$LoneRing", "addStep", "(I)V"⟩, prog_3_method_15_code, 2, none, 1, 0)
def m_L_put : qMI := (⟨"BubbleTorus$LoneRing", "put", "(II)I"⟩, prog_3_method_16_code, 5, (some .int), 2, 0)
def m_L_ruleLets : qMI := (⟨"BubbleTorus$LoneRing", "ruleLets", "(I)Z"⟩, prog_3_method_18_code, 3, (some .boolean), 1, 0)
def m_L_weigh : qMI := (⟨"BubbleTorus$LoneRing", "weigh", "(II)V"⟩, prog_3_method_7_code, 5, none, 2, 3)
def m_L_isStarving : qMI := (⟨"BubbleTorus$LoneRing", "isStarving", "()Z"⟩, prog_3_method_8_code, 5, (some .boolean), 0, 4)
def m_L_leadsOn : qMI := (⟨"BubbleTorus$LoneRing", "leadsOn", "(I)Z"⟩, prog_3_method_9_code, 3, (some .boolean), 1, 3)
def m_L_longestWait : qMI := (⟨"BubbleTorus$LoneRing", "longestWait", "()I"⟩, prog_3_method_10_code, 7, (some .int), 0, 4)
def m_L_waitIn : qMI := (⟨"BubbleTorus$LoneRing", "waitIn", "(I)I"⟩, prog_3_method_11_code, 4, (some .int), 1, 3)
def m_X_look : qMI := (⟨"BubbleTorus", "look", "(I)I"⟩, prog_1_method_33_code, 2, (some .int), 1, 2)
def m_P_lateTogether : qMI := (⟨"BubbleTorus$Packets", "lateTogether", "()I"⟩, prog_7_method_27_code, 3, (some .int), 0, 1)
def m_P_hopsTogether : qMI := (⟨"BubbleTorus$Packets", "hopsTogether", "()I"⟩, prog_7_method_28_code, 3, (some .int), 0, 0)
def m_R_marksNow : qMI := (⟨"BubbleTorus$Rings", "marksNow", "()I"⟩, prog_9_method_9_code, 3, (some .int), 0, 0)
def m_P_disorderTogether : qMI := (⟨"BubbleTorus$Packets", "disorderTogether", "()I"⟩, prog_7_method_29_code, 3, (some .int), 0, 0)
def m_M_init : qMI := (⟨"BubbleTorusModel", "<init>", "()V"⟩, prog_12_method_2_code, 1, none, 0, 3)
def m_M_begins : qMI := (⟨"BubbleTorusModel", "begins", "(IIIIII)V"⟩, prog_12_method_3_code, 8, none, 6, 2)
def m_M_rings : qMI := (⟨"BubbleTorusModel", "rings", "()I"⟩, prog_12_method_13_code, 1, (some .int), 0, 0)
def m_M_ringAt : qMI := (⟨"BubbleTorusModel", "ringAt", "(I)I"⟩, prog_12_method_14_code, 1, (some .int), 1, 0)
def m_M_leastNode : qMI := (⟨"BubbleTorusModel", "leastNode", "(I)I"⟩, prog_12_method_17_code, 2, (some .int), 1, 1)
def m_M_directionOf : qMI := (⟨"BubbleTorusModel", "directionOf", "(I)I"⟩, prog_12_method_16_code, 2, (some .int), 1, 0)
def m_M_longOf : qMI := (⟨"BubbleTorusModel", "longOf", "(I)I"⟩, prog_12_method_18_code, 2, (some .int), 1, 1)
def m_M_torus : qMI := (⟨"BubbleTorusModel", "torus", "(IIIIII)Z"⟩, prog_12_method_4_code, 7, (some .boolean), 6, 3)
def m_M_isIn : qMI := (⟨"BubbleTorusModel", "isIn", "(III)Z"⟩, prog_12_method_1_code, 3, (some .boolean), 3, 0)
def m_M_next : qMI := (⟨"BubbleTorusModel", "next", "(II)I"⟩, prog_12_method_19_code, 3, (some .int), 2, 2)
def m_M_isNode : qMI := (⟨"BubbleTorusModel", "isNode", "(I)Z"⟩, prog_12_method_6_code, 2, (some .boolean), 1, 1)
def m_M_nodes : qMI := (⟨"BubbleTorusModel", "nodes", "()I"⟩, prog_12_method_5_code, 1, (some .int), 0, 0)
def m_M_isDirection : qMI := (⟨"BubbleTorusModel", "isDirection", "(I)Z"⟩, prog_12_method_7_code, 1, (some .boolean), 1, 1)
def m_M_nextOf : qMI := (⟨"BubbleTorusModel", "nextOf", "(II)I"⟩, prog_12_method_8_code, 5, (some .int), 2, 0)
def m_M_far : qMI := (⟨"BubbleTorusModel", "far", "(II)I"⟩, prog_12_method_20_code, 3, (some .int), 2, 2)
def m_M_farOf : qMI := (⟨"BubbleTorusModel", "farOf", "(II)I"⟩, prog_12_method_10_code, 3, (some .int), 2, 1)
def m_M_apart : qMI := (⟨"BubbleTorusModel", "apart", "(III)I"⟩, prog_12_method_9_code, 4, (some .int), 3, 0)
def m_M_profitable : qMI := (⟨"BubbleTorusModel", "profitable", "(II)I"⟩, prog_12_method_21_code, 5, (some .int), 2, 3)
def m_M_isProfitable : qMI := (⟨"BubbleTorusModel", "isProfitable", "(III)Z"⟩, prog_12_method_11_code, 4, (some .boolean), 3, 2)
def m_M_way : qMI := (⟨"BubbleTorusModel", "way", "(III)I"⟩, prog_12_method_22_code, 7, (some .int), 3, 4)
def m_M_escapeOf : qMI := (⟨"BubbleTorusModel", "escapeOf", "(II)I"⟩, prog_12_method_12_code, 4, (some .int), 2, 3)
def m_M_ringOf : qMI := (⟨"BubbleTorusModel", "ringOf", "(II)I"⟩, prog_12_method_23_code, 3, (some .int), 2, 2)
def m_M_ringFor : qMI := (⟨"BubbleTorusModel", "ringFor", "(II)I"⟩, prog_12_method_15_code, 3, (some .int), 2, 0)
def m_M_send : qMI := (⟨"BubbleTorusModel", "send", "(II)I"⟩, prog_12_method_35_code, 3, (some .int), 2, 4)
def m_M_sends : qMI := (⟨"BubbleTorusModel", "sends", "(II)I"⟩, prog_12_method_34_code, 6, (some .int), 2, 3)
def m_M_free : qMI := (⟨"BubbleTorusModel", "free", "(II)I"⟩, prog_12_method_28_code, 3, (some .int), 2, 2)
def m_M_placesOf : qMI := (⟨"BubbleTorusModel", "placesOf", "(I)I"⟩, prog_12_method_27_code, 2, (some .int), 1, 0)
def m_M_many : qMI := (⟨"BubbleTorusModel", "many", "(II)I"⟩, prog_12_method_25_code, 3, (some .int), 2, 1)
def m_M_queueAt : qMI := (⟨"BubbleTorusModel", "queueAt", "(II)I"⟩, prog_12_method_24_code, 2, (some .int), 2, 0)
def m_M_packetAt : qMI := (⟨"BubbleTorusModel", "packetAt", "(I)I"⟩, prog_12_method_31_code, 1, (some .int), 1, 0)
def m_M_comes : qMI := (⟨"BubbleTorusModel", "comes", "(III)V"⟩, prog_12_method_29_code, 5, none, 3, 1)
def m_M_state : qMI := (⟨"BubbleTorusModel", "state", "(I)I"⟩, prog_12_method_37_code, 3, (some .int), 1, 0)
def m_M_shower : qMI := (⟨"BubbleTorusModel", "shower", "(I)I"⟩, prog_12_method_39_code, 6, (some .int), 1, 5)
def m_M_drawOf : qMI := (⟨"BubbleTorusModel", "drawOf", "(I)I"⟩, prog_12_method_36_code, 2, (some .int), 1, 0)
def m_M_sendsOrNot : qMI := (⟨"BubbleTorusModel", "sendsOrNot", "(II)I"⟩, prog_12_method_38_code, 4, (some .int), 2, 4)
def m_M_pattern : qMI := (⟨"BubbleTorusModel", "pattern", "(II)I"⟩, prog_12_method_41_code, 6, (some .int), 2, 5)
def m_M_patternTo : qMI := (⟨"BubbleTorusModel", "patternTo", "(III)I"⟩, prog_12_method_40_code, 6, (some .int), 3, 1)
def m_M_bound : qMI := (⟨"BubbleTorusModel", "bound", "(I)Z"⟩, prog_12_method_42_code, 2, (some .boolean), 1, 1)
def m_M_tick : qMI := (⟨"BubbleTorusModel", "tick", "(I)I"⟩, prog_12_method_62_code, 4, (some .int), 1, 9)
def m_M_ticks : qMI := (⟨"BubbleTorusModel", "ticks", "()V"⟩, prog_12_method_61_code, 4, none, 0, 8)
def m_M_delivers : qMI := (⟨"BubbleTorusModel", "delivers", "(II)V"⟩, prog_12_method_44_code, 5, none, 2, 3)
def m_M_firstOf : qMI := (⟨"BubbleTorusModel", "firstOf", "(II)I"⟩, prog_12_method_26_code, 3, (some .int), 2, 2)
def m_M_of : qMI := (⟨"BubbleTorusModel", "of", "(II)I"⟩, prog_12_method_32_code, 3, (some .int), 2, 1)
def m_M_leaves : qMI := (⟨"BubbleTorusModel", "leaves", "(II)V"⟩, prog_12_method_30_code, 5, none, 2, 1)
def m_M_isOvertaken : qMI := (⟨"BubbleTorusModel", "isOvertaken", "(I)Z"⟩, prog_12_method_43_code, 3, (some .boolean), 1, 2)
def m_M_oneGoes : qMI := (⟨"BubbleTorusModel", "oneGoes", "(II)V"⟩, prog_12_method_55_code, 7, none, 2, 7)
def m_M_canGo : qMI := (⟨"BubbleTorusModel", "canGo", "(IIIZ)Z"⟩, prog_12_method_50_code, 5, (some .boolean), 4, 6)
def m_M_canByAdaptive : qMI := (⟨"BubbleTorusModel", "canByAdaptive", "(III)Z"⟩, prog_12_method_49_code, 4, (some .boolean), 3, 3)
def m_M_canByEscape : qMI := (⟨"BubbleTorusModel", "canByEscape", "(IIIZ)Z"⟩, prog_12_method_48_code, 6, (some .boolean), 4, 5)
def m_M_doesContinue : qMI := (⟨"BubbleTorusModel", "doesContinue", "(III)Z"⟩, prog_12_method_45_code, 4, (some .boolean), 3, 4)
def m_M_isBarred : qMI := (⟨"BubbleTorusModel", "isBarred", "(II)Z"⟩, prog_12_method_47_code, 3, (some .boolean), 2, 1)
def m_M_doesRuleLet : qMI := (⟨"BubbleTorusModel", "doesRuleLet", "(II)Z"⟩, prog_12_method_46_code, 4, (some .boolean), 2, 3)
def m_M_isAhead : qMI := (⟨"BubbleTorusModel", "isAhead", "(IIII)Z"⟩, prog_12_method_51_code, 6, (some .boolean), 4, 5)
def m_M_goes : qMI := (⟨"BubbleTorusModel", "goes", "(IIII)V"⟩, prog_12_method_54_code, 10, none, 4, 5)
def m_M_enters3 : qMI := (⟨"BubbleTorusModel", "enters", "(III)V"⟩, prog_12_method_53_code, 4, none, 3, 1)
def m_M_notes : qMI := (⟨"BubbleTorusModel", "notes", "(IIIII)V"⟩, prog_12_method_52_code, 7, none, 5, 0)
def m_M_hungers : qMI := (⟨"BubbleTorusModel", "hungers", "(II)V"⟩, prog_12_method_57_code, 4, none, 2, 5)
def m_M_isHungry : qMI := (⟨"BubbleTorusModel", "isHungry", "(II)Z"⟩, prog_12_method_56_code, 5, (some .boolean), 2, 4)
def m_M_marks : qMI := (⟨"BubbleTorusModel", "marks", "(I)V"⟩, prog_12_method_59_code, 6, none, 1, 2)
def m_M_hungriest : qMI := (⟨"BubbleTorusModel", "hungriest", "(I)I"⟩, prog_12_method_58_code, 6, (some .int), 1, 1)
def m_M_freeIn : qMI := (⟨"BubbleTorusModel", "freeIn", "(I)I"⟩, prog_12_method_60_code, 5, (some .int), 1, 3)
def m_M_packet : qMI := (⟨"BubbleTorusModel", "packet", "(II)I"⟩, prog_12_method_63_code, 3, (some .int), 2, 2)
def m_M_isPacket : qMI := (⟨"BubbleTorusModel", "isPacket", "(I)Z"⟩, prog_12_method_33_code, 2, (some .boolean), 1, 1)
def m_M_queue : qMI := (⟨"BubbleTorusModel", "queue", "(IIII)I"⟩, prog_12_method_64_code, 6, (some .int), 4, 2)
def m_M_ring : qMI := (⟨"BubbleTorusModel", "ring", "(II)I"⟩, prog_12_method_65_code, 4, (some .int), 2, 4)
def m_M_hunger : qMI := (⟨"BubbleTorusModel", "hunger", "(II)I"⟩, prog_12_method_66_code, 3, (some .int), 2, 2)
def m_M_node : qMI := (⟨"BubbleTorusModel", "node", "(II)I"⟩, prog_12_method_70_code, 3, (some .int), 2, 3)
def m_M_inQueues : qMI := (⟨"BubbleTorusModel", "inQueues", "(I)I"⟩, prog_12_method_67_code, 4, (some .int), 1, 2)
def m_M_packetsBy : qMI := (⟨"BubbleTorusModel", "packetsBy", "(IZ)I"⟩, prog_12_method_69_code, 5, (some .int), 2, 2)
def m_M_longestInDoor : qMI := (⟨"BubbleTorusModel", "longestInDoor", "(I)I"⟩, prog_12_method_68_code, 5, (some .int), 1, 2)
def m_M_move : qMI := (⟨"BubbleTorusModel", "move", "(II)I"⟩, prog_12_method_71_code, 3, (some .int), 2, 1)
def m_M_link : qMI := (⟨"BubbleTorusModel", "link", "(II)I"⟩, prog_12_method_72_code, 3, (some .int), 2, 2)
def m_M_trace : qMI := (⟨"BubbleTorusModel", "trace", "(II)I"⟩, prog_12_method_73_code, 3, (some .int), 2, 2)
def m_M_pair : qMI := (⟨"BubbleTorusModel", "pair", "(III)I"⟩, prog_12_method_75_code, 8, (some .int), 3, 3)
def m_M_lateOf : qMI := (⟨"BubbleTorusModel", "lateOf", "(I)I"⟩, prog_12_method_74_code, 2, (some .int), 1, 2)
def m_M_late : qMI := (⟨"BubbleTorusModel", "late", "(II)I"⟩, prog_12_method_76_code, 5, (some .int), 2, 3)
def m_M_lates : qMI := (⟨"BubbleTorusModel", "lates", "(II)I"⟩, prog_12_method_78_code, 5, (some .int), 2, 4)
def m_M_lateAbove : qMI := (⟨"BubbleTorusModel", "lateAbove", "(I)I"⟩, prog_12_method_77_code, 4, (some .int), 1, 3)
def m_M_goesOn : qMI := (⟨"BubbleTorusModel", "goesOn", "(I)I"⟩, prog_12_method_84_code, 4, (some .int), 1, 9)
def m_M_laysOn : qMI := (⟨"BubbleTorusModel", "laysOn", "()V"⟩, prog_12_method_83_code, 4, none, 0, 8)
def m_M_slot : qMI := (⟨"BubbleTorusModel", "slot", "(II)I"⟩, prog_12_method_79_code, 2, (some .int), 2, 0)
def m_M_canNow : qMI := (⟨"BubbleTorusModel", "canNow", "(II)Z"⟩, prog_12_method_80_code, 5, (some .boolean), 2, 7)
def m_M_canThen : qMI := (⟨"BubbleTorusModel", "canThen", "(II)Z"⟩, prog_12_method_82_code, 6, (some .boolean), 2, 5)
def m_M_someOfRing : qMI := (⟨"BubbleTorusModel", "someOfRing", "(I)Z"⟩, prog_12_method_81_code, 4, (some .boolean), 1, 1)
def m_M_stuck : qMI := (⟨"BubbleTorusModel", "stuck", "()I"⟩, prog_12_method_85_code, 4, (some .int), 0, 9)
def m_M_dead : qMI := (⟨"BubbleTorusModel", "dead", "()I"⟩, prog_12_method_86_code, 1, (some .int), 0, 10)
def m_M_through : qMI := (⟨"BubbleTorusModel", "through", "()I"⟩, prog_12_method_89_code, 3, (some .int), 0, 9)
def m_M_laysAside : qMI := (⟨"BubbleTorusModel", "laysAside", "()V"⟩, prog_12_method_87_code, 2, none, 0, 0)
def m_M_comesBack : qMI := (⟨"BubbleTorusModel", "comesBack", "()V"⟩, prog_12_method_88_code, 2, none, 0, 0)
def m_M_arrives : qMI := (⟨"BubbleTorusModel", "arrives", "(II)I"⟩, prog_12_method_90_code, 6, (some .int), 2, 9)
def m_M_enters : qMI := (⟨"BubbleTorusModel", "enters", "(II)I"⟩, prog_12_method_91_code, 3, (some .int), 2, 4)
def m_M_schedules : qMI := (⟨"BubbleTorusModel", "schedules", "(I)I"⟩, prog_12_method_101_code, 3, (some .int), 1, 8)
def m_M_laysLive : qMI := (⟨"BubbleTorusModel", "laysLive", "()Z"⟩, prog_12_method_92_code, 2, (some .boolean), 0, 2)
def m_M_laysSchedules : qMI := (⟨"BubbleTorusModel", "laysSchedules", "(I)I"⟩, prog_12_method_100_code, 10, (some .int), 1, 7)
def m_M_meetsState : qMI := (⟨"BubbleTorusModel", "meetsState", "()I"⟩, prog_12_method_94_code, 4, (some .int), 0, 3)
def m_M_placeIn : qMI := (⟨"BubbleTorusModel", "placeIn", "(I)I"⟩, prog_12_method_93_code, 5, (some .int), 1, 2)
def m_M_opensState : qMI := (⟨"BubbleTorusModel", "opensState", "(I)V"⟩, prog_12_method_95_code, 8, none, 1, 2)
def m_M_inLane : qMI := (⟨"BubbleTorusModel", "inLane", "(I)I"⟩, prog_12_method_123_code, 5, (some .int), 1, 2)
def m_M_fewestFree : qMI := (⟨"BubbleTorusModel", "fewestFree", "()I"⟩, prog_12_method_99_code, 3, (some .int), 0, 4)
def m_M_goesAll : qMI := (⟨"BubbleTorusModel", "goesAll", "(III)Z"⟩, prog_12_method_98_code, 6, (some .boolean), 3, 6)
def m_M_comesFrom : qMI := (⟨"BubbleTorusModel", "comesFrom", "(I)Z"⟩, prog_12_method_96_code, 3, (some .boolean), 1, 4)
def m_M_stepsTo : qMI := (⟨"BubbleTorusModel", "stepsTo", "(IIIIZ)Z"⟩, prog_12_method_97_code, 9, (some .boolean), 5, 5)
def m_M_alone : qMI := (⟨"BubbleTorusModel", "alone", "(IIII)I"⟩, prog_12_method_122_code, 6, (some .int), 4, 6)
def m_M_firstKind : qMI := (⟨"BubbleTorusModel", "firstKind", "(I)I"⟩, prog_12_method_103_code, 5, (some .int), 1, 0)
def m_M_searches : qMI := (⟨"BubbleTorusModel", "searches", "()V"⟩, prog_12_method_114_code, 4, none, 0, 4)
def m_M_finds : qMI := (⟨"BubbleTorusModel", "finds", "(II)V"⟩, prog_12_method_113_code, 3, none, 2, 0)
def m_M_laysAfter : qMI := (⟨"BubbleTorusModel", "laysAfter", "(I)V"⟩, prog_12_method_112_code, 6, none, 1, 3)
def m_M_opens : qMI := (⟨"BubbleTorusModel", "opens", "(I)V"⟩, prog_12_method_109_code, 4, none, 1, 0)
def m_M_goalOf : qMI := (⟨"BubbleTorusModel", "goalOf", "(I)I"⟩, prog_12_method_105_code, 3, (some .int), 1, 1)
def m_M_longQueue : qMI := (⟨"BubbleTorusModel", "longQueue", "(I)I"⟩, prog_12_method_102_code, 5, (some .int), 1, 0)
def m_M_power : qMI := (⟨"BubbleTorusModel", "power", "(I)I"⟩, prog_12_method_104_code, 4, (some .int), 1, 0)
def m_M_freeAt : qMI := (⟨"BubbleTorusModel", "freeAt", "(I)I"⟩, prog_12_method_110_code, 2, (some .int), 1, 1)
def m_M_without : qMI := (⟨"BubbleTorusModel", "without", "(I)I"⟩, prog_12_method_106_code, 3, (some .int), 1, 1)
def m_M_withOne : qMI := (⟨"BubbleTorusModel", "withOne", "(II)I"⟩, prog_12_method_107_code, 4, (some .int), 2, 1)
def m_M_number : qMI := (⟨"BubbleTorusModel", "number", "()I"⟩, prog_12_method_108_code, 3, (some .int), 0, 0)
def m_M_mayEnter : qMI := (⟨"BubbleTorusModel", "mayEnter", "(I)Z"⟩, prog_12_method_111_code, 3, (some .boolean), 1, 2)
def m_M_soonestDead : qMI := (⟨"BubbleTorusModel", "soonestDead", "()I"⟩, prog_12_method_121_code, 2, (some .int), 0, 5)
def m_M_isDeadState : qMI := (⟨"BubbleTorusModel", "isDeadState", "(I)Z"⟩, prog_12_method_116_code, 2, (some .boolean), 1, 4)
def m_M_packetsIn : qMI := (⟨"BubbleTorusModel", "packetsIn", "()I"⟩, prog_12_method_115_code, 3, (some .int), 0, 1)
def m_M_isStarving : qMI := (⟨"BubbleTorusModel", "isStarving", "()Z"⟩, prog_12_method_117_code, 5, (some .boolean), 0, 5)
def m_M_leadsOn : qMI := (⟨"BubbleTorusModel", "leadsOn", "(I)Z"⟩, prog_12_method_118_code, 3, (some .boolean), 1, 4)
def m_M_longestWait : qMI := (⟨"BubbleTorusModel", "longestWait", "()I"⟩, prog_12_method_119_code, 7, (some .int), 0, 4)
def m_M_countOf : qMI := (⟨"BubbleTorusModel", "countOf", "(I)I"⟩, prog_12_method_120_code, 6, (some .int), 1, 5)
def m_M_look : qMI := (⟨"BubbleTorusModel", "look", "(I)I"⟩, prog_12_method_125_code, 2, (some .int), 1, 3)
def m_M_marksNow : qMI := (⟨"BubbleTorusModel", "marksNow", "()I"⟩, prog_12_method_124_code, 3, (some .int), 0, 1)
def m_W_law : qMI := (⟨"BubbleTorusLaw", "law", "([I)Z"⟩, code, 4, (some .boolean), 1, 0)
theorem mc_X_init : Cond.code m_X_init.1 m_X_init.2.1 m_X_init.2.2.1 m_X_init.2.2.2.1 ∈ qT := (tm1 (j := 19) rfl rfl)
theorem mi_X_init : Cond.instanceMethod m_X_init.1 ∈ qT := (tm1 (j := 18) rfl rfl)
theorem mc_JO_init : Cond.code m_JO_init.1 m_JO_init.2.1 m_JO_init.2.2.1 m_JO_init.2.2.2.1 ∈ qT := (tm1 (j := 22) rfl rfl)
theorem mi_JO_init : Cond.instanceMethod m_JO_init.1 ∈ qT := (tm1 (j := 21) rfl rfl)
theorem mc_N_init : Cond.code m_N_init.1 m_N_init.2.1 m_N_init.2.2.1 m_N_init.2.2.2.1 ∈ qT := (tm1 (j := 27) rfl rfl)
theorem mi_N_init : Cond.instanceMethod m_N_init.1 ∈ qT := (tm1 (j := 26) rfl rfl)
theorem mc_G_init : Cond.code m_G_init.1 m_G_init.2.1 m_G_init.2.2.1 m_G_init.2.2.2.1 ∈ qT := (tm1 (j := 33) rfl rfl)
theorem mi_G_init : Cond.instanceMethod m_G_init.1 ∈ qT := (tm1 (j := 32) rfl rfl)
theorem mc_G_lay : Cond.code m_G_lay.1 m_G_lay.2.1 m_G_lay.2.2.1 m_G_lay.2.2.2.1 ∈ qT := (tm1 (j := 38) rfl rfl)
theorem mi_G_lay : Cond.instanceMethod m_G_lay.1 ∈ qT := (tm1 (j := 36) rfl rfl)
theorem mv_G_lay : Cond.selects m_G_lay.1.cls m_G_lay.1 m_G_lay.1 ∈ qT := (tm1 (j := 37) rfl rfl)
theorem mc_X_within : Cond.code m_X_within.1 m_X_within.2.1 m_X_within.2.2.1 m_X_within.2.2.2.1 ∈ qT := (tm1 (j := 41) rfl rfl)
theorem ms_X_within : Cond.static m_X_within.1 ∈ qT := (tm1 (j := 40) rfl rfl)
theorem mc_G_step : Cond.code m_G_step.1 m_G_step.2.1 m_G_step.2.2.1 m_G_step.2.2.2.1 ∈ qT := (tm1 (j := 45) rfl rfl)
theorem mi_G_step : Cond.instanceMethod m_G_step.1 ∈ qT := (tm1 (j := 44) rfl rfl)
theorem mv_G_step : Cond.selects m_G_step.1.cls m_G_step.1 m_G_step.1 ∈ qT := tmp (q := (m_G_step.1, 7)) (show (m_G_step.1, 7) ∈ lw_privs from List.mem_append_left _ (List.mem_of_getElem? (i := 0) rfl))
theorem mc_G_directionsNearer : Cond.code m_G_directionsNearer.1 m_G_directionsNearer.2.1 m_G_directionsNearer.2.2.1 m_G_directionsNearer.2.2.2.1 ∈ qT := (tm1 (j := 49) rfl rfl)
theorem mi_G_directionsNearer : Cond.instanceMethod m_G_directionsNearer.1 ∈ qT := (tm1 (j := 48) rfl rfl)
theorem mv_G_directionsNearer : Cond.selects m_G_directionsNearer.1.cls m_G_directionsNearer.1 m_G_directionsNearer.1 ∈ qT := tmp (q := (m_G_directionsNearer.1, 7)) (show (m_G_directionsNearer.1, 7) ∈ lw_privs from List.mem_append_left _ (List.mem_of_getElem? (i := 1) rfl))
theorem mc_G_distance : Cond.code m_G_distance.1 m_G_distance.2.1 m_G_distance.2.2.1 m_G_distance.2.2.2.1 ∈ qT := (tm1 (j := 53) rfl rfl)
theorem mi_G_distance : Cond.instanceMethod m_G_distance.1 ∈ qT := (tm1 (j := 51) rfl rfl)
theorem mv_G_distance : Cond.selects m_G_distance.1.cls m_G_distance.1 m_G_distance.1 ∈ qT := (tm1 (j := 52) rfl rfl)
theorem mc_G_gap : Cond.code m_G_gap.1 m_G_gap.2.1 m_G_gap.2.2.1 m_G_gap.2.2.2.1 ∈ qT := (tm1 (j := 56) rfl rfl)
theorem ms_G_gap : Cond.static m_G_gap.1 ∈ qT := (tm1 (j := 55) rfl rfl)
theorem mc_JM_abs : Cond.code m_JM_abs.1 m_JM_abs.2.1 m_JM_abs.2.2.1 m_JM_abs.2.2.2.1 ∈ qT := (tm1 (j := 59) rfl rfl)
theorem ms_JM_abs : Cond.static m_JM_abs.1 ∈ qT := (tm1 (j := 58) rfl rfl)
theorem mc_JM_min : Cond.code m_JM_min.1 m_JM_min.2.1 m_JM_min.2.2.1 m_JM_min.2.2.2.1 ∈ qT := (tm1 (j := 62) rfl rfl)
theorem ms_JM_min : Cond.static m_JM_min.1 ∈ qT := (tm1 (j := 61) rfl rfl)
theorem mc_G_leastOf : Cond.code m_G_leastOf.1 m_G_leastOf.2.1 m_G_leastOf.2.2.1 m_G_leastOf.2.2.2.1 ∈ qT := (tm1 (j := 65) rfl rfl)
theorem ms_G_leastOf : Cond.static m_G_leastOf.1 ∈ qT := (tm1 (j := 64) rfl rfl)
theorem mc_P_init : Cond.code m_P_init.1 m_P_init.2.1 m_P_init.2.2.1 m_P_init.2.2.2.1 ∈ qT := (tm1 (j := 103) rfl rfl)
theorem mi_P_init : Cond.instanceMethod m_P_init.1 ∈ qT := (tm1 (j := 102) rfl rfl)
theorem mc_Q_init : Cond.code m_Q_init.1 m_Q_init.2.1 m_Q_init.2.2.1 m_Q_init.2.2.2.1 ∈ qT := (tm1 (j := 165) rfl rfl)
theorem mi_Q_init : Cond.instanceMethod m_Q_init.1 ∈ qT := (tm1 (j := 164) rfl rfl)
theorem mc_V_init : Cond.code m_V_init.1 m_V_init.2.1 m_V_init.2.2.1 m_V_init.2.2.2.1 ∈ qT := (tm1 (j := 182) rfl rfl)
theorem mi_V_init : Cond.instanceMethod m_V_init.1 ∈ qT := (tm1 (j := 181) rfl rfl)
theorem mc_R_init : Cond.code m_R_init.1 m_R_init.2.1 m_R_init.2.2.1 m_R_init.2.2.2.1 ∈ qT := (tm1 (j := 197) rfl rfl)
theorem mi_R_init : Cond.instanceMethod m_R_init.1 ∈ qT := (tm1 (j := 196) rfl rfl)
theorem mc_O_init : Cond.code m_O_init.1 m_O_init.2.1 m_O_init.2.2.1 m_O_init.2.2.2.1 ∈ qT := (tm2 (j := 72) rfl rfl)
theorem mi_O_init : Cond.instanceMethod m_O_init.1 ∈ qT := (tm2 (j := 71) rfl rfl)
theorem mc_S_init : Cond.code m_S_init.1 m_S_init.2.1 m_S_init.2.2.1 m_S_init.2.2.2.1 ∈ qT := (tm2 (j := 83) rfl rfl)
theorem mi_S_init : Cond.instanceMethod m_S_init.1 ∈ qT := (tm2 (j := 82) rfl rfl)
theorem mc_L_init : Cond.code m_L_init.1 m_L_init.2.1 m_L_init.2.2.1 m_L_init.2.2.2.1 ∈ qT := (tm2 (j := 122) rfl rfl)
theorem mi_L_init : Cond.instanceMethod m_L_init.1 ∈ qT := (tm2 (j := 121) rfl rfl)
theorem mc_N_begin : Cond.code m_N_begin.1 m_N_begin.2.1 m_N_begin.2.2.1 m_N_begin.2.2.2.1 ∈ qT := (tm2 (j := 176) rfl rfl)
theorem mi_N_begin : Cond.instanceMethod m_N_begin.1 ∈ qT := (tm2 (j := 174) rfl rfl)
theorem mv_N_begin : Cond.selects m_N_begin.1.cls m_N_begin.1 m_N_begin.1 ∈ qT := (tm2 (j := 175) rfl rfl)
theorem mc_P_clearAll : Cond.code m_P_clearAll.1 m_P_clearAll.2.1 m_P_clearAll.2.2.1 m_P_clearAll.2.2.2.1 ∈ qT := (tm2 (j := 180) rfl rfl)
theorem mi_P_clearAll : Cond.instanceMethod m_P_clearAll.1 ∈ qT := (tm2 (j := 178) rfl rfl)
theorem mv_P_clearAll : Cond.selects m_P_clearAll.1.cls m_P_clearAll.1 m_P_clearAll.1 ∈ qT := (tm2 (j := 179) rfl rfl)
theorem mc_Q_clearAll : Cond.code m_Q_clearAll.1 m_Q_clearAll.2.1 m_Q_clearAll.2.2.1 m_Q_clearAll.2.2.2.1 ∈ qT := (tm2 (j := 184) rfl rfl)
theorem mi_Q_clearAll : Cond.instanceMethod m_Q_clearAll.1 ∈ qT := (tm2 (j := 182) rfl rfl)
theorem mv_Q_clearAll : Cond.selects m_Q_clearAll.1.cls m_Q_clearAll.1 m_Q_clearAll.1 ∈ qT := (tm2 (j := 183) rfl rfl)
theorem mc_JA_fill : Cond.code m_JA_fill.1 m_JA_fill.2.1 m_JA_fill.2.2.1 m_JA_fill.2.2.2.1 ∈ qT := (tm2 (j := 187) rfl rfl)
theorem ms_JA_fill : Cond.static m_JA_fill.1 ∈ qT := (tm2 (j := 186) rfl rfl)
theorem mc_R_clearAll : Cond.code m_R_clearAll.1 m_R_clearAll.2.1 m_R_clearAll.2.2.1 m_R_clearAll.2.2.2.1 ∈ qT := (tm2 (j := 191) rfl rfl)
theorem mi_R_clearAll : Cond.instanceMethod m_R_clearAll.1 ∈ qT := (tm2 (j := 189) rfl rfl)
theorem mv_R_clearAll : Cond.selects m_R_clearAll.1.cls m_R_clearAll.1 m_R_clearAll.1 ∈ qT := (tm2 (j := 190) rfl rfl)
theorem mc_G_ringNode : Cond.code m_G_ringNode.1 m_G_ringNode.2.1 m_G_ringNode.2.2.1 m_G_ringNode.2.2.2.1 ∈ qT := (tm2 (j := 196) rfl rfl)
theorem mi_G_ringNode : Cond.instanceMethod m_G_ringNode.1 ∈ qT := (tm2 (j := 194) rfl rfl)
theorem mv_G_ringNode : Cond.selects m_G_ringNode.1.cls m_G_ringNode.1 m_G_ringNode.1 ∈ qT := (tm2 (j := 195) rfl rfl)
theorem mc_G_ringLength : Cond.code m_G_ringLength.1 m_G_ringLength.2.1 m_G_ringLength.2.2.1 m_G_ringLength.2.2.2.1 ∈ qT := (tm2 (j := 200) rfl rfl)
theorem mi_G_ringLength : Cond.instanceMethod m_G_ringLength.1 ∈ qT := (tm2 (j := 198) rfl rfl)
theorem mv_G_ringLength : Cond.selects m_G_ringLength.1.cls m_G_ringLength.1 m_G_ringLength.1 ∈ qT := (tm2 (j := 199) rfl rfl)
theorem mc_R_forgetEntries : Cond.code m_R_forgetEntries.1 m_R_forgetEntries.2.1 m_R_forgetEntries.2.2.1 m_R_forgetEntries.2.2.2.1 ∈ qT := (tm2 (j := 204) rfl rfl)
theorem mi_R_forgetEntries : Cond.instanceMethod m_R_forgetEntries.1 ∈ qT := (tm2 (j := 202) rfl rfl)
theorem mv_R_forgetEntries : Cond.selects m_R_forgetEntries.1.cls m_R_forgetEntries.1 m_R_forgetEntries.1 ∈ qT := (tm2 (j := 203) rfl rfl)
theorem mc_X_torus : Cond.code m_X_torus.1 m_X_torus.2.1 m_X_torus.2.2.1 m_X_torus.2.2.2.1 ∈ qT := (tm2 (j := 231) rfl rfl)
theorem mi_X_torus : Cond.instanceMethod m_X_torus.1 ∈ qT := (tm2 (j := 229) rfl rfl)
theorem mv_X_torus : Cond.selects m_X_torus.1.cls m_X_torus.1 m_X_torus.1 ∈ qT := (tm2 (j := 230) rfl rfl)
theorem mc_X_isBound : Cond.code m_X_isBound.1 m_X_isBound.2.1 m_X_isBound.2.2.1 m_X_isBound.2.2.2.1 ∈ qT := (tm2 (j := 235) rfl rfl)
theorem ms_X_isBound : Cond.static m_X_isBound.1 ∈ qT := (tm2 (j := 234) rfl rfl)
theorem mc_X_send : Cond.code m_X_send.1 m_X_send.2.1 m_X_send.2.2.1 m_X_send.2.2.2.1 ∈ qT := (tm3 (j := 0) rfl rfl)
theorem mi_X_send : Cond.instanceMethod m_X_send.1 ∈ qT := (tm2 (j := 238) rfl rfl)
theorem mv_X_send : Cond.selects m_X_send.1.cls m_X_send.1 m_X_send.1 ∈ qT := (tm2 (j := 239) rfl rfl)
theorem mc_N_admit : Cond.code m_N_admit.1 m_N_admit.2.1 m_N_admit.2.2.1 m_N_admit.2.2.2.1 ∈ qT := (tm3 (j := 4) rfl rfl)
theorem mi_N_admit : Cond.instanceMethod m_N_admit.1 ∈ qT := (tm3 (j := 2) rfl rfl)
theorem mv_N_admit : Cond.selects m_N_admit.1.cls m_N_admit.1 m_N_admit.1 ∈ qT := (tm3 (j := 3) rfl rfl)
theorem mc_G_hasNode : Cond.code m_G_hasNode.1 m_G_hasNode.2.1 m_G_hasNode.2.2.1 m_G_hasNode.2.2.2.1 ∈ qT := (tm3 (j := 8) rfl rfl)
theorem mi_G_hasNode : Cond.instanceMethod m_G_hasNode.1 ∈ qT := (tm3 (j := 6) rfl rfl)
theorem mv_G_hasNode : Cond.selects m_G_hasNode.1.cls m_G_hasNode.1 m_G_hasNode.1 ∈ qT := (tm3 (j := 7) rfl rfl)
theorem mc_P_add : Cond.code m_P_add.1 m_P_add.2.1 m_P_add.2.2.1 m_P_add.2.2.2.1 ∈ qT := (tm3 (j := 12) rfl rfl)
theorem mi_P_add : Cond.instanceMethod m_P_add.1 ∈ qT := (tm3 (j := 10) rfl rfl)
theorem mv_P_add : Cond.selects m_P_add.1.cls m_P_add.1 m_P_add.1 ∈ qT := (tm3 (j := 11) rfl rfl)
theorem mc_Q_put : Cond.code m_Q_put.1 m_Q_put.2.1 m_Q_put.2.2.1 m_Q_put.2.2.2.1 ∈ qT := (tm3 (j := 16) rfl rfl)
theorem mi_Q_put : Cond.instanceMethod m_Q_put.1 ∈ qT := (tm3 (j := 14) rfl rfl)
theorem mv_Q_put : Cond.selects m_Q_put.1.cls m_Q_put.1 m_Q_put.1 ∈ qT := (tm3 (j := 15) rfl rfl)
theorem mc_X_shower : Cond.code m_X_shower.1 m_X_shower.2.1 m_X_shower.2.2.1 m_X_shower.2.2.2.1 ∈ qT := (tm3 (j := 20) rfl rfl)
theorem mi_X_shower : Cond.instanceMethod m_X_shower.1 ∈ qT := (tm3 (j := 18) rfl rfl)
theorem mv_X_shower : Cond.selects m_X_shower.1.cls m_X_shower.1 m_X_shower.1 ∈ qT := (tm3 (j := 19) rfl rfl)
theorem mc_X_draw : Cond.code m_X_draw.1 m_X_draw.2.1 m_X_draw.2.2.1 m_X_draw.2.2.2.1 ∈ qT := (tm3 (j := 24) rfl rfl)
theorem mi_X_draw : Cond.instanceMethod m_X_draw.1 ∈ qT := (tm3 (j := 23) rfl rfl)
theorem mv_X_draw : Cond.selects m_X_draw.1.cls m_X_draw.1 m_X_draw.1 ∈ qT := tmp (q := (m_X_draw.1, 7)) (show (m_X_draw.1, 7) ∈ lw_privs from List.mem_append_left _ (List.mem_of_getElem? (i := 2) rfl))
theorem mc_N_admitOrLose : Cond.code m_N_admitOrLose.1 m_N_admitOrLose.2.1 m_N_admitOrLose.2.2.1 m_N_admitOrLose.2.2.2.1 ∈ qT := (tm3 (j := 30) rfl rfl)
theorem mi_N_admitOrLose : Cond.instanceMethod m_N_admitOrLose.1 ∈ qT := (tm3 (j := 28) rfl rfl)
theorem mv_N_admitOrLose : Cond.selects m_N_admitOrLose.1.cls m_N_admitOrLose.1 m_N_admitOrLose.1 ∈ qT := (tm3 (j := 29) rfl rfl)
theorem mc_X_pattern : Cond.code m_X_pattern.1 m_X_pattern.2.1 m_X_pattern.2.2.1 m_X_pattern.2.2.2.1 ∈ qT := (tm3 (j := 35) rfl rfl)
theorem mi_X_pattern : Cond.instanceMethod m_X_pattern.1 ∈ qT := (tm3 (j := 33) rfl rfl)
theorem mv_X_pattern : Cond.selects m_X_pattern.1.cls m_X_pattern.1 m_X_pattern.1 ∈ qT := (tm3 (j := 34) rfl rfl)
theorem mc_G_aimOf : Cond.code m_G_aimOf.1 m_G_aimOf.2.1 m_G_aimOf.2.2.1 m_G_aimOf.2.2.2.1 ∈ qT := (tm3 (j := 40) rfl rfl)
theorem mi_G_aimOf : Cond.instanceMethod m_G_aimOf.1 ∈ qT := (tm3 (j := 38) rfl rfl)
theorem mv_G_aimOf : Cond.selects m_G_aimOf.1.cls m_G_aimOf.1 m_G_aimOf.1 ∈ qT := (tm3 (j := 39) rfl rfl)
theorem mc_G_nextBy : Cond.code m_G_nextBy.1 m_G_nextBy.2.1 m_G_nextBy.2.2.1 m_G_nextBy.2.2.2.1 ∈ qT := (tm3 (j := 44) rfl rfl)
theorem mi_G_nextBy : Cond.instanceMethod m_G_nextBy.1 ∈ qT := (tm3 (j := 42) rfl rfl)
theorem mv_G_nextBy : Cond.selects m_G_nextBy.1.cls m_G_nextBy.1 m_G_nextBy.1 ∈ qT := (tm3 (j := 43) rfl rfl)
theorem mc_X_tick : Cond.code m_X_tick.1 m_X_tick.2.1 m_X_tick.2.2.1 m_X_tick.2.2.2.1 ∈ qT := (tm3 (j := 48) rfl rfl)
theorem mi_X_tick : Cond.instanceMethod m_X_tick.1 ∈ qT := (tm3 (j := 46) rfl rfl)
theorem mv_X_tick : Cond.selects m_X_tick.1.cls m_X_tick.1 m_X_tick.1 ∈ qT := (tm3 (j := 47) rfl rfl)
theorem mc_N_runTick : Cond.code m_N_runTick.1 m_N_runTick.2.1 m_N_runTick.2.2.1 m_N_runTick.2.2.2.1 ∈ qT := (tm3 (j := 52) rfl rfl)
theorem mi_N_runTick : Cond.instanceMethod m_N_runTick.1 ∈ qT := (tm3 (j := 50) rfl rfl)
theorem mv_N_runTick : Cond.selects m_N_runTick.1.cls m_N_runTick.1 m_N_runTick.1 ∈ qT := (tm3 (j := 51) rfl rfl)
theorem mc_N_deliverFirsts : Cond.code m_N_deliverFirsts.1 m_N_deliverFirsts.2.1 m_N_deliverFirsts.2.2.1 m_N_deliverFirsts.2.2.2.1 ∈ qT := (tm3 (j := 57) rfl rfl)
theorem mi_N_deliverFirsts : Cond.instanceMethod m_N_deliverFirsts.1 ∈ qT := (tm3 (j := 56) rfl rfl)
theorem mv_N_deliverFirsts : Cond.selects m_N_deliverFirsts.1.cls m_N_deliverFirsts.1 m_N_deliverFirsts.1 ∈ qT := tmp (q := (m_N_deliverFirsts.1, 13)) (show (m_N_deliverFirsts.1, 13) ∈ lw_privs from List.mem_append_left _ (List.mem_of_getElem? (i := 3) rfl))
theorem mc_Q_first : Cond.code m_Q_first.1 m_Q_first.2.1 m_Q_first.2.2.1 m_Q_first.2.2.2.1 ∈ qT := (tm3 (j := 61) rfl rfl)
theorem mi_Q_first : Cond.instanceMethod m_Q_first.1 ∈ qT := (tm3 (j := 59) rfl rfl)
theorem mv_Q_first : Cond.selects m_Q_first.1.cls m_Q_first.1 m_Q_first.1 ∈ qT := (tm3 (j := 60) rfl rfl)
theorem mc_Q_dropFirst : Cond.code m_Q_dropFirst.1 m_Q_dropFirst.2.1 m_Q_dropFirst.2.2.1 m_Q_dropFirst.2.2.2.1 ∈ qT := (tm3 (j := 65) rfl rfl)
theorem mi_Q_dropFirst : Cond.instanceMethod m_Q_dropFirst.1 ∈ qT := (tm3 (j := 63) rfl rfl)
theorem mv_Q_dropFirst : Cond.selects m_Q_dropFirst.1.cls m_Q_dropFirst.1 m_Q_dropFirst.1 ∈ qT := (tm3 (j := 64) rfl rfl)
theorem mc_P_noteDelivery : Cond.code m_P_noteDelivery.1 m_P_noteDelivery.2.1 m_P_noteDelivery.2.2.1 m_P_noteDelivery.2.2.2.1 ∈ qT := (tm3 (j := 69) rfl rfl)
theorem mi_P_noteDelivery : Cond.instanceMethod m_P_noteDelivery.1 ∈ qT := (tm3 (j := 67) rfl rfl)
theorem mv_P_noteDelivery : Cond.selects m_P_noteDelivery.1.cls m_P_noteDelivery.1 m_P_noteDelivery.1 ∈ qT := (tm3 (j := 68) rfl rfl)
theorem mc_P_laterIsDelivered : Cond.code m_P_laterIsDelivered.1 m_P_laterIsDelivered.2.1 m_P_laterIsDelivered.2.2.1 m_P_laterIsDelivered.2.2.2.1 ∈ qT := (tm3 (j := 73) rfl rfl)
theorem mi_P_laterIsDelivered : Cond.instanceMethod m_P_laterIsDelivered.1 ∈ qT := (tm3 (j := 72) rfl rfl)
theorem mv_P_laterIsDelivered : Cond.selects m_P_laterIsDelivered.1.cls m_P_laterIsDelivered.1 m_P_laterIsDelivered.1 ∈ qT := tmp (q := (m_P_laterIsDelivered.1, 15)) (show (m_P_laterIsDelivered.1, 15) ∈ lw_privs from List.mem_append_left _ (List.mem_of_getElem? (i := 4) rfl))
theorem mc_P_isBetween : Cond.code m_P_isBetween.1 m_P_isBetween.2.1 m_P_isBetween.2.2.1 m_P_isBetween.2.2.2.1 ∈ qT := (tm3 (j := 77) rfl rfl)
theorem mi_P_isBetween : Cond.instanceMethod m_P_isBetween.1 ∈ qT := (tm3 (j := 76) rfl rfl)
theorem mv_P_isBetween : Cond.selects m_P_isBetween.1.cls m_P_isBetween.1 m_P_isBetween.1 ∈ qT := tmp (q := (m_P_isBetween.1, 15)) (show (m_P_isBetween.1, 15) ∈ lw_privs from List.mem_append_left _ (List.mem_of_getElem? (i := 5) rfl))
theorem mc_P_isDelivered : Cond.code m_P_isDelivered.1 m_P_isDelivered.2.1 m_P_isDelivered.2.2.1 m_P_isDelivered.2.2.2.1 ∈ qT := (tm3 (j := 81) rfl rfl)
theorem mi_P_isDelivered : Cond.instanceMethod m_P_isDelivered.1 ∈ qT := (tm3 (j := 79) rfl rfl)
theorem mv_P_isDelivered : Cond.selects m_P_isDelivered.1.cls m_P_isDelivered.1 m_P_isDelivered.1 ∈ qT := (tm3 (j := 80) rfl rfl)
theorem mc_N_chosenQueue : Cond.code m_N_chosenQueue.1 m_N_chosenQueue.2.1 m_N_chosenQueue.2.2.1 m_N_chosenQueue.2.2.2.1 ∈ qT := (tm3 (j := 85) rfl rfl)
theorem mi_N_chosenQueue : Cond.instanceMethod m_N_chosenQueue.1 ∈ qT := (tm3 (j := 84) rfl rfl)
theorem mv_N_chosenQueue : Cond.selects m_N_chosenQueue.1.cls m_N_chosenQueue.1 m_N_chosenQueue.1 ∈ qT := tmp (q := (m_N_chosenQueue.1, 13)) (show (m_N_chosenQueue.1, 13) ∈ lw_privs from List.mem_append_left _ (List.mem_of_getElem? (i := 6) rfl))
theorem mc_N_canGo : Cond.code m_N_canGo.1 m_N_canGo.2.1 m_N_canGo.2.2.1 m_N_canGo.2.2.2.1 ∈ qT := (tm3 (j := 89) rfl rfl)
theorem mi_N_canGo : Cond.instanceMethod m_N_canGo.1 ∈ qT := (tm3 (j := 88) rfl rfl)
theorem mv_N_canGo : Cond.selects m_N_canGo.1.cls m_N_canGo.1 m_N_canGo.1 ∈ qT := tmp (q := (m_N_canGo.1, 13)) (show (m_N_canGo.1, 13) ∈ lw_privs from List.mem_append_left _ (List.mem_of_getElem? (i := 7) rfl))
theorem mc_N_adaptiveLets : Cond.code m_N_adaptiveLets.1 m_N_adaptiveLets.2.1 m_N_adaptiveLets.2.2.1 m_N_adaptiveLets.2.2.2.1 ∈ qT := (tm3 (j := 93) rfl rfl)
theorem mi_N_adaptiveLets : Cond.instanceMethod m_N_adaptiveLets.1 ∈ qT := (tm3 (j := 91) rfl rfl)
theorem mv_N_adaptiveLets : Cond.selects m_N_adaptiveLets.1.cls m_N_adaptiveLets.1 m_N_adaptiveLets.1 ∈ qT := (tm3 (j := 92) rfl rfl)
theorem mc_N_isProfitable : Cond.code m_N_isProfitable.1 m_N_isProfitable.2.1 m_N_isProfitable.2.2.1 m_N_isProfitable.2.2.2.1 ∈ qT := (tm3 (j := 97) rfl rfl)
theorem mi_N_isProfitable : Cond.instanceMethod m_N_isProfitable.1 ∈ qT := (tm3 (j := 95) rfl rfl)
theorem mv_N_isProfitable : Cond.selects m_N_isProfitable.1.cls m_N_isProfitable.1 m_N_isProfitable.1 ∈ qT := (tm3 (j := 96) rfl rfl)
theorem mc_G_nearerBy : Cond.code m_G_nearerBy.1 m_G_nearerBy.2.1 m_G_nearerBy.2.2.1 m_G_nearerBy.2.2.2.1 ∈ qT := (tm3 (j := 101) rfl rfl)
theorem mi_G_nearerBy : Cond.instanceMethod m_G_nearerBy.1 ∈ qT := (tm3 (j := 99) rfl rfl)
theorem mv_G_nearerBy : Cond.selects m_G_nearerBy.1.cls m_G_nearerBy.1 m_G_nearerBy.1 ∈ qT := (tm3 (j := 100) rfl rfl)
theorem mc_N_escapeLets : Cond.code m_N_escapeLets.1 m_N_escapeLets.2.1 m_N_escapeLets.2.2.1 m_N_escapeLets.2.2.2.1 ∈ qT := (tm3 (j := 106) rfl rfl)
theorem mi_N_escapeLets : Cond.instanceMethod m_N_escapeLets.1 ∈ qT := (tm3 (j := 104) rfl rfl)
theorem mv_N_escapeLets : Cond.selects m_N_escapeLets.1.cls m_N_escapeLets.1 m_N_escapeLets.1 ∈ qT := (tm3 (j := 105) rfl rfl)
theorem mc_N_isEscape : Cond.code m_N_isEscape.1 m_N_isEscape.2.1 m_N_isEscape.2.2.1 m_N_isEscape.2.2.2.1 ∈ qT := (tm3 (j := 110) rfl rfl)
theorem mi_N_isEscape : Cond.instanceMethod m_N_isEscape.1 ∈ qT := (tm3 (j := 108) rfl rfl)
theorem mv_N_isEscape : Cond.selects m_N_isEscape.1.cls m_N_isEscape.1 m_N_isEscape.1 ∈ qT := (tm3 (j := 109) rfl rfl)
theorem mc_G_escapeBy : Cond.code m_G_escapeBy.1 m_G_escapeBy.2.1 m_G_escapeBy.2.2.1 m_G_escapeBy.2.2.2.1 ∈ qT := (tm3 (j := 114) rfl rfl)
theorem mi_G_escapeBy : Cond.instanceMethod m_G_escapeBy.1 ∈ qT := (tm3 (j := 112) rfl rfl)
theorem mv_G_escapeBy : Cond.selects m_G_escapeBy.1.cls m_G_escapeBy.1 m_G_escapeBy.1 ∈ qT := (tm3 (j := 113) rfl rfl)
theorem mc_N_freeAhead : Cond.code m_N_freeAhead.1 m_N_freeAhead.2.1 m_N_freeAhead.2.2.1 m_N_freeAhead.2.2.2.1 ∈ qT := (tm3 (j := 118) rfl rfl)
theorem mi_N_freeAhead : Cond.instanceMethod m_N_freeAhead.1 ∈ qT := (tm3 (j := 117) rfl rfl)
theorem mv_N_freeAhead : Cond.selects m_N_freeAhead.1.cls m_N_freeAhead.1 m_N_freeAhead.1 ∈ qT := tmp (q := (m_N_freeAhead.1, 13)) (show (m_N_freeAhead.1, 13) ∈ lw_privs from List.mem_append_left _ (List.mem_of_getElem? (i := 8) rfl))
theorem mc_N_ruleLets : Cond.code m_N_ruleLets.1 m_N_ruleLets.2.1 m_N_ruleLets.2.2.1 m_N_ruleLets.2.2.2.1 ∈ qT := (tm3 (j := 122) rfl rfl)
theorem mi_N_ruleLets : Cond.instanceMethod m_N_ruleLets.1 ∈ qT := (tm3 (j := 120) rfl rfl)
theorem mv_N_ruleLets : Cond.selects m_N_ruleLets.1.cls m_N_ruleLets.1 m_N_ruleLets.1 ∈ qT := (tm3 (j := 121) rfl rfl)
theorem mc_G_ringIndex : Cond.code m_G_ringIndex.1 m_G_ringIndex.2.1 m_G_ringIndex.2.2.1 m_G_ringIndex.2.2.2.1 ∈ qT := (tm3 (j := 126) rfl rfl)
theorem mi_G_ringIndex : Cond.instanceMethod m_G_ringIndex.1 ∈ qT := (tm3 (j := 124) rfl rfl)
theorem mv_G_ringIndex : Cond.selects m_G_ringIndex.1.cls m_G_ringIndex.1 m_G_ringIndex.1 ∈ qT := (tm3 (j := 125) rfl rfl)
theorem mc_N_continues : Cond.code m_N_continues.1 m_N_continues.2.1 m_N_continues.2.2.1 m_N_continues.2.2.2.1 ∈ qT := (tm3 (j := 130) rfl rfl)
theorem mi_N_continues : Cond.instanceMethod m_N_continues.1 ∈ qT := (tm3 (j := 128) rfl rfl)
theorem mv_N_continues : Cond.selects m_N_continues.1.cls m_N_continues.1 m_N_continues.1 ∈ qT := (tm3 (j := 129) rfl rfl)
theorem mc_N_isBarred : Cond.code m_N_isBarred.1 m_N_isBarred.2.1 m_N_isBarred.2.2.1 m_N_isBarred.2.2.2.1 ∈ qT := (tm3 (j := 134) rfl rfl)
theorem mi_N_isBarred : Cond.instanceMethod m_N_isBarred.1 ∈ qT := (tm3 (j := 132) rfl rfl)
theorem mv_N_isBarred : Cond.selects m_N_isBarred.1.cls m_N_isBarred.1 m_N_isBarred.1 ∈ qT := (tm3 (j := 133) rfl rfl)
theorem mc_N_goFrom : Cond.code m_N_goFrom.1 m_N_goFrom.2.1 m_N_goFrom.2.2.1 m_N_goFrom.2.2.2.1 ∈ qT := (tm3 (j := 138) rfl rfl)
theorem mi_N_goFrom : Cond.instanceMethod m_N_goFrom.1 ∈ qT := (tm3 (j := 137) rfl rfl)
theorem mv_N_goFrom : Cond.selects m_N_goFrom.1.cls m_N_goFrom.1 m_N_goFrom.1 ∈ qT := tmp (q := (m_N_goFrom.1, 13)) (show (m_N_goFrom.1, 13) ∈ lw_privs from List.mem_append_left _ (List.mem_of_getElem? (i := 9) rfl))
theorem mc_N_shift : Cond.code m_N_shift.1 m_N_shift.2.1 m_N_shift.2.2.1 m_N_shift.2.2.2.1 ∈ qT := (tm3 (j := 142) rfl rfl)
theorem mi_N_shift : Cond.instanceMethod m_N_shift.1 ∈ qT := (tm3 (j := 140) rfl rfl)
theorem mv_N_shift : Cond.selects m_N_shift.1.cls m_N_shift.1 m_N_shift.1 ∈ qT := (tm3 (j := 141) rfl rfl)
theorem mc_X_firstOfLane : Cond.code m_X_firstOfLane.1 m_X_firstOfLane.2.1 m_X_firstOfLane.2.2.1 m_X_firstOfLane.2.2.2.1 ∈ qT := (tm3 (j := 145) rfl rfl)
theorem ms_X_firstOfLane : Cond.static m_X_firstOfLane.1 ∈ qT := (tm3 (j := 144) rfl rfl)
theorem mc_P_noteHop : Cond.code m_P_noteHop.1 m_P_noteHop.2.1 m_P_noteHop.2.2.1 m_P_noteHop.2.2.2.1 ∈ qT := (tm3 (j := 149) rfl rfl)
theorem mi_P_noteHop : Cond.instanceMethod m_P_noteHop.1 ∈ qT := (tm3 (j := 147) rfl rfl)
theorem mv_P_noteHop : Cond.selects m_P_noteHop.1.cls m_P_noteHop.1 m_P_noteHop.1 ∈ qT := (tm3 (j := 148) rfl rfl)
theorem mc_V_add : Cond.code m_V_add.1 m_V_add.2.1 m_V_add.2.2.1 m_V_add.2.2.2.1 ∈ qT := (tm3 (j := 153) rfl rfl)
theorem mi_V_add : Cond.instanceMethod m_V_add.1 ∈ qT := (tm3 (j := 151) rfl rfl)
theorem mv_V_add : Cond.selects m_V_add.1.cls m_V_add.1 m_V_add.1 ∈ qT := (tm3 (j := 152) rfl rfl)
theorem mc_N_feelHunger : Cond.code m_N_feelHunger.1 m_N_feelHunger.2.1 m_N_feelHunger.2.2.1 m_N_feelHunger.2.2.2.1 ∈ qT := (tm3 (j := 157) rfl rfl)
theorem mi_N_feelHunger : Cond.instanceMethod m_N_feelHunger.1 ∈ qT := (tm3 (j := 156) rfl rfl)
theorem mv_N_feelHunger : Cond.selects m_N_feelHunger.1.cls m_N_feelHunger.1 m_N_feelHunger.1 ∈ qT := tmp (q := (m_N_feelHunger.1, 13)) (show (m_N_feelHunger.1, 13) ∈ lw_privs from List.mem_append_left _ (List.mem_of_getElem? (i := 10) rfl))
theorem mc_N_wantsIn : Cond.code m_N_wantsIn.1 m_N_wantsIn.2.1 m_N_wantsIn.2.2.1 m_N_wantsIn.2.2.2.1 ∈ qT := (tm3 (j := 161) rfl rfl)
theorem mi_N_wantsIn : Cond.instanceMethod m_N_wantsIn.1 ∈ qT := (tm3 (j := 160) rfl rfl)
theorem mv_N_wantsIn : Cond.selects m_N_wantsIn.1.cls m_N_wantsIn.1 m_N_wantsIn.1 ∈ qT := tmp (q := (m_N_wantsIn.1, 13)) (show (m_N_wantsIn.1, 13) ∈ lw_privs from List.mem_append_left _ (List.mem_of_getElem? (i := 11) rfl))
theorem mc_R_noteHunger : Cond.code m_R_noteHunger.1 m_R_noteHunger.2.1 m_R_noteHunger.2.2.1 m_R_noteHunger.2.2.2.1 ∈ qT := (tm3 (j := 165) rfl rfl)
theorem mi_R_noteHunger : Cond.instanceMethod m_R_noteHunger.1 ∈ qT := (tm3 (j := 163) rfl rfl)
theorem mv_R_noteHunger : Cond.selects m_R_noteHunger.1.cls m_R_noteHunger.1 m_R_noteHunger.1 ∈ qT := (tm3 (j := 164) rfl rfl)
theorem mc_JM_max : Cond.code m_JM_max.1 m_JM_max.2.1 m_JM_max.2.2.1 m_JM_max.2.2.2.1 ∈ qT := (tm3 (j := 169) rfl rfl)
theorem ms_JM_max : Cond.static m_JM_max.1 ∈ qT := (tm3 (j := 168) rfl rfl)
theorem mc_N_turnMarks : Cond.code m_N_turnMarks.1 m_N_turnMarks.2.1 m_N_turnMarks.2.2.1 m_N_turnMarks.2.2.2.1 ∈ qT := (tm3 (j := 173) rfl rfl)
theorem mi_N_turnMarks : Cond.instanceMethod m_N_turnMarks.1 ∈ qT := (tm3 (j := 172) rfl rfl)
theorem mv_N_turnMarks : Cond.selects m_N_turnMarks.1.cls m_N_turnMarks.1 m_N_turnMarks.1 ∈ qT := tmp (q := (m_N_turnMarks.1, 13)) (show (m_N_turnMarks.1, 13) ∈ lw_privs from List.mem_append_left _ (List.mem_of_getElem? (i := 12) rfl))
theorem mc_G_ringDirection : Cond.code m_G_ringDirection.1 m_G_ringDirection.2.1 m_G_ringDirection.2.2.1 m_G_ringDirection.2.2.2.1 ∈ qT := (tm3 (j := 177) rfl rfl)
theorem mi_G_ringDirection : Cond.instanceMethod m_G_ringDirection.1 ∈ qT := (tm3 (j := 175) rfl rfl)
theorem mv_G_ringDirection : Cond.selects m_G_ringDirection.1.cls m_G_ringDirection.1 m_G_ringDirection.1 ∈ qT := (tm3 (j := 176) rfl rfl)
theorem mc_R_carryMark : Cond.code m_R_carryMark.1 m_R_carryMark.2.1 m_R_carryMark.2.2.1 m_R_carryMark.2.2.2.1 ∈ qT := (tm3 (j := 181) rfl rfl)
theorem mi_R_carryMark : Cond.instanceMethod m_R_carryMark.1 ∈ qT := (tm3 (j := 179) rfl rfl)
theorem mv_R_carryMark : Cond.selects m_R_carryMark.1.cls m_R_carryMark.1 m_R_carryMark.1 ∈ qT := (tm3 (j := 180) rfl rfl)
theorem mc_R_endMark : Cond.code m_R_endMark.1 m_R_endMark.2.1 m_R_endMark.2.2.1 m_R_endMark.2.2.2.1 ∈ qT := (tm3 (j := 185) rfl rfl)
theorem mi_R_endMark : Cond.instanceMethod m_R_endMark.1 ∈ qT := (tm3 (j := 183) rfl rfl)
theorem mv_R_endMark : Cond.selects m_R_endMark.1.cls m_R_endMark.1 m_R_endMark.1 ∈ qT := (tm3 (j := 184) rfl rfl)
theorem mc_N_hungriestIn : Cond.code m_N_hungriestIn.1 m_N_hungriestIn.2.1 m_N_hungriestIn.2.2.1 m_N_hungriestIn.2.2.2.1 ∈ qT := (tm3 (j := 189) rfl rfl)
theorem mi_N_hungriestIn : Cond.instanceMethod m_N_hungriestIn.1 ∈ qT := (tm3 (j := 188) rfl rfl)
theorem mv_N_hungriestIn : Cond.selects m_N_hungriestIn.1.cls m_N_hungriestIn.1 m_N_hungriestIn.1 ∈ qT := tmp (q := (m_N_hungriestIn.1, 13)) (show (m_N_hungriestIn.1, 13) ∈ lw_privs from List.mem_append_left _ (List.mem_of_getElem? (i := 13) rfl))
theorem mc_R_setMark : Cond.code m_R_setMark.1 m_R_setMark.2.1 m_R_setMark.2.2.1 m_R_setMark.2.2.2.1 ∈ qT := (tm3 (j := 195) rfl rfl)
theorem mi_R_setMark : Cond.instanceMethod m_R_setMark.1 ∈ qT := (tm3 (j := 193) rfl rfl)
theorem mv_R_setMark : Cond.selects m_R_setMark.1.cls m_R_setMark.1 m_R_setMark.1 ∈ qT := (tm3 (j := 194) rfl rfl)
theorem mc_N_noteFewest : Cond.code m_N_noteFewest.1 m_N_noteFewest.2.1 m_N_noteFewest.2.2.1 m_N_noteFewest.2.2.2.1 ∈ qT := (tm3 (j := 199) rfl rfl)
theorem mi_N_noteFewest : Cond.instanceMethod m_N_noteFewest.1 ∈ qT := (tm3 (j := 198) rfl rfl)
theorem mv_N_noteFewest : Cond.selects m_N_noteFewest.1.cls m_N_noteFewest.1 m_N_noteFewest.1 ∈ qT := tmp (q := (m_N_noteFewest.1, 13)) (show (m_N_noteFewest.1, 13) ∈ lw_privs from List.mem_append_left _ (List.mem_of_getElem? (i := 14) rfl))
theorem mc_N_freeIn : Cond.code m_N_freeIn.1 m_N_freeIn.2.1 m_N_freeIn.2.2.1 m_N_freeIn.2.2.2.1 ∈ qT := (tm3 (j := 203) rfl rfl)
theorem mi_N_freeIn : Cond.instanceMethod m_N_freeIn.1 ∈ qT := (tm3 (j := 201) rfl rfl)
theorem mv_N_freeIn : Cond.selects m_N_freeIn.1.cls m_N_freeIn.1 m_N_freeIn.1 ∈ qT := (tm3 (j := 202) rfl rfl)
theorem mc_N_heldIn : Cond.code m_N_heldIn.1 m_N_heldIn.2.1 m_N_heldIn.2.2.1 m_N_heldIn.2.2.2.1 ∈ qT := (tm3 (j := 207) rfl rfl)
theorem mi_N_heldIn : Cond.instanceMethod m_N_heldIn.1 ∈ qT := (tm3 (j := 205) rfl rfl)
theorem mv_N_heldIn : Cond.selects m_N_heldIn.1.cls m_N_heldIn.1 m_N_heldIn.1 ∈ qT := (tm3 (j := 206) rfl rfl)
theorem mc_X_state : Cond.code m_X_state.1 m_X_state.2.1 m_X_state.2.2.1 m_X_state.2.2.2.1 ∈ qT := (tm3 (j := 212) rfl rfl)
theorem mi_X_state : Cond.instanceMethod m_X_state.1 ∈ qT := (tm3 (j := 210) rfl rfl)
theorem mv_X_state : Cond.selects m_X_state.1.cls m_X_state.1 m_X_state.1 ∈ qT := (tm3 (j := 211) rfl rfl)
theorem mc_X_bound : Cond.code m_X_bound.1 m_X_bound.2.1 m_X_bound.2.2.1 m_X_bound.2.2.2.1 ∈ qT := (tm3 (j := 216) rfl rfl)
theorem mi_X_bound : Cond.instanceMethod m_X_bound.1 ∈ qT := (tm3 (j := 214) rfl rfl)
theorem mv_X_bound : Cond.selects m_X_bound.1.cls m_X_bound.1 m_X_bound.1 ∈ qT := (tm3 (j := 215) rfl rfl)
theorem mc_X_packet : Cond.code m_X_packet.1 m_X_packet.2.1 m_X_packet.2.2.1 m_X_packet.2.2.2.1 ∈ qT := (tm3 (j := 220) rfl rfl)
theorem mi_X_packet : Cond.instanceMethod m_X_packet.1 ∈ qT := (tm3 (j := 218) rfl rfl)
theorem mv_X_packet : Cond.selects m_X_packet.1.cls m_X_packet.1 m_X_packet.1 ∈ qT := (tm3 (j := 219) rfl rfl)
theorem mc_P_has : Cond.code m_P_has.1 m_P_has.2.1 m_P_has.2.2.1 m_P_has.2.2.2.1 ∈ qT := (tm3 (j := 224) rfl rfl)
theorem mi_P_has : Cond.instanceMethod m_P_has.1 ∈ qT := (tm3 (j := 222) rfl rfl)
theorem mv_P_has : Cond.selects m_P_has.1.cls m_P_has.1 m_P_has.1 ∈ qT := (tm3 (j := 223) rfl rfl)
theorem mc_P_fact : Cond.code m_P_fact.1 m_P_fact.2.1 m_P_fact.2.2.1 m_P_fact.2.2.2.1 ∈ qT := (tm3 (j := 228) rfl rfl)
theorem mi_P_fact : Cond.instanceMethod m_P_fact.1 ∈ qT := (tm3 (j := 226) rfl rfl)
theorem mv_P_fact : Cond.selects m_P_fact.1.cls m_P_fact.1 m_P_fact.1 ∈ qT := (tm3 (j := 227) rfl rfl)
theorem mc_X_queue : Cond.code m_X_queue.1 m_X_queue.2.1 m_X_queue.2.2.1 m_X_queue.2.2.2.1 ∈ qT := (tm3 (j := 232) rfl rfl)
theorem mi_X_queue : Cond.instanceMethod m_X_queue.1 ∈ qT := (tm3 (j := 230) rfl rfl)
theorem mv_X_queue : Cond.selects m_X_queue.1.cls m_X_queue.1 m_X_queue.1 ∈ qT := (tm3 (j := 231) rfl rfl)
theorem mc_X_isDirection : Cond.code m_X_isDirection.1 m_X_isDirection.2.1 m_X_isDirection.2.2.1 m_X_isDirection.2.2.2.1 ∈ qT := (tm3 (j := 235) rfl rfl)
theorem ms_X_isDirection : Cond.static m_X_isDirection.1 ∈ qT := (tm3 (j := 234) rfl rfl)
theorem mc_Q_itemAt : Cond.code m_Q_itemAt.1 m_Q_itemAt.2.1 m_Q_itemAt.2.2.1 m_Q_itemAt.2.2.2.1 ∈ qT := (tm4 (j := 0) rfl rfl)
theorem mi_Q_itemAt : Cond.instanceMethod m_Q_itemAt.1 ∈ qT := (tm3 (j := 238) rfl rfl)
theorem mv_Q_itemAt : Cond.selects m_Q_itemAt.1.cls m_Q_itemAt.1 m_Q_itemAt.1 ∈ qT := (tm3 (j := 239) rfl rfl)
theorem mc_X_next : Cond.code m_X_next.1 m_X_next.2.1 m_X_next.2.2.1 m_X_next.2.2.2.1 ∈ qT := (tm4 (j := 4) rfl rfl)
theorem mi_X_next : Cond.instanceMethod m_X_next.1 ∈ qT := (tm4 (j := 2) rfl rfl)
theorem mv_X_next : Cond.selects m_X_next.1.cls m_X_next.1 m_X_next.1 ∈ qT := (tm4 (j := 3) rfl rfl)
theorem mc_X_far : Cond.code m_X_far.1 m_X_far.2.1 m_X_far.2.2.1 m_X_far.2.2.2.1 ∈ qT := (tm4 (j := 9) rfl rfl)
theorem mi_X_far : Cond.instanceMethod m_X_far.1 ∈ qT := (tm4 (j := 7) rfl rfl)
theorem mv_X_far : Cond.selects m_X_far.1.cls m_X_far.1 m_X_far.1 ∈ qT := (tm4 (j := 8) rfl rfl)
theorem mc_X_profitable : Cond.code m_X_profitable.1 m_X_profitable.2.1 m_X_profitable.2.2.1 m_X_profitable.2.2.2.1 ∈ qT := (tm4 (j := 14) rfl rfl)
theorem mi_X_profitable : Cond.instanceMethod m_X_profitable.1 ∈ qT := (tm4 (j := 12) rfl rfl)
theorem mv_X_profitable : Cond.selects m_X_profitable.1.cls m_X_profitable.1 m_X_profitable.1 ∈ qT := (tm4 (j := 13) rfl rfl)
theorem mc_X_way : Cond.code m_X_way.1 m_X_way.2.1 m_X_way.2.2.1 m_X_way.2.2.2.1 ∈ qT := (tm4 (j := 19) rfl rfl)
theorem mi_X_way : Cond.instanceMethod m_X_way.1 ∈ qT := (tm4 (j := 17) rfl rfl)
theorem mv_X_way : Cond.selects m_X_way.1.cls m_X_way.1 m_X_way.1 ∈ qT := (tm4 (j := 18) rfl rfl)
theorem mc_G_wayStep : Cond.code m_G_wayStep.1 m_G_wayStep.2.1 m_G_wayStep.2.2.1 m_G_wayStep.2.2.2.1 ∈ qT := (tm4 (j := 23) rfl rfl)
theorem mi_G_wayStep : Cond.instanceMethod m_G_wayStep.1 ∈ qT := (tm4 (j := 21) rfl rfl)
theorem mv_G_wayStep : Cond.selects m_G_wayStep.1.cls m_G_wayStep.1 m_G_wayStep.1 ∈ qT := (tm4 (j := 22) rfl rfl)
theorem mc_X_ring : Cond.code m_X_ring.1 m_X_ring.2.1 m_X_ring.2.2.1 m_X_ring.2.2.2.1 ∈ qT := (tm4 (j := 28) rfl rfl)
theorem mi_X_ring : Cond.instanceMethod m_X_ring.1 ∈ qT := (tm4 (j := 26) rfl rfl)
theorem mv_X_ring : Cond.selects m_X_ring.1.cls m_X_ring.1 m_X_ring.1 ∈ qT := (tm4 (j := 27) rfl rfl)
theorem mc_X_ringOf : Cond.code m_X_ringOf.1 m_X_ringOf.2.1 m_X_ringOf.2.2.1 m_X_ringOf.2.2.2.1 ∈ qT := (tm4 (j := 37) rfl rfl)
theorem mi_X_ringOf : Cond.instanceMethod m_X_ringOf.1 ∈ qT := (tm4 (j := 35) rfl rfl)
theorem mv_X_ringOf : Cond.selects m_X_ringOf.1.cls m_X_ringOf.1 m_X_ringOf.1 ∈ qT := (tm4 (j := 36) rfl rfl)
theorem mc_X_hunger : Cond.code m_X_hunger.1 m_X_hunger.2.1 m_X_hunger.2.2.1 m_X_hunger.2.2.2.1 ∈ qT := (tm4 (j := 42) rfl rfl)
theorem mi_X_hunger : Cond.instanceMethod m_X_hunger.1 ∈ qT := (tm4 (j := 40) rfl rfl)
theorem mv_X_hunger : Cond.selects m_X_hunger.1.cls m_X_hunger.1 m_X_hunger.1 ∈ qT := (tm4 (j := 41) rfl rfl)
theorem mc_X_node : Cond.code m_X_node.1 m_X_node.2.1 m_X_node.2.2.1 m_X_node.2.2.2.1 ∈ qT := (tm4 (j := 46) rfl rfl)
theorem mi_X_node : Cond.instanceMethod m_X_node.1 ∈ qT := (tm4 (j := 44) rfl rfl)
theorem mv_X_node : Cond.selects m_X_node.1.cls m_X_node.1 m_X_node.1 ∈ qT := (tm4 (j := 45) rfl rfl)
theorem mc_Q_heldFrom : Cond.code m_Q_heldFrom.1 m_Q_heldFrom.2.1 m_Q_heldFrom.2.2.1 m_Q_heldFrom.2.2.2.1 ∈ qT := (tm4 (j := 50) rfl rfl)
theorem mi_Q_heldFrom : Cond.instanceMethod m_Q_heldFrom.1 ∈ qT := (tm4 (j := 48) rfl rfl)
theorem mv_Q_heldFrom : Cond.selects m_Q_heldFrom.1.cls m_Q_heldFrom.1 m_Q_heldFrom.1 ∈ qT := (tm4 (j := 49) rfl rfl)
theorem mc_P_sentFrom : Cond.code m_P_sentFrom.1 m_P_sentFrom.2.1 m_P_sentFrom.2.2.1 m_P_sentFrom.2.2.2.1 ∈ qT := (tm4 (j := 54) rfl rfl)
theorem mi_P_sentFrom : Cond.instanceMethod m_P_sentFrom.1 ∈ qT := (tm4 (j := 52) rfl rfl)
theorem mv_P_sentFrom : Cond.selects m_P_sentFrom.1.cls m_P_sentFrom.1 m_P_sentFrom.1 ∈ qT := (tm4 (j := 53) rfl rfl)
theorem mc_P_deliveredTo : Cond.code m_P_deliveredTo.1 m_P_deliveredTo.2.1 m_P_deliveredTo.2.2.1 m_P_deliveredTo.2.2.2.1 ∈ qT := (tm4 (j := 58) rfl rfl)
theorem mi_P_deliveredTo : Cond.instanceMethod m_P_deliveredTo.1 ∈ qT := (tm4 (j := 56) rfl rfl)
theorem mv_P_deliveredTo : Cond.selects m_P_deliveredTo.1.cls m_P_deliveredTo.1 m_P_deliveredTo.1 ∈ qT := (tm4 (j := 57) rfl rfl)
theorem mc_P_longestAtDoor : Cond.code m_P_longestAtDoor.1 m_P_longestAtDoor.2.1 m_P_longestAtDoor.2.2.1 m_P_longestAtDoor.2.2.2.1 ∈ qT := (tm4 (j := 62) rfl rfl)
theorem mi_P_longestAtDoor : Cond.instanceMethod m_P_longestAtDoor.1 ∈ qT := (tm4 (j := 60) rfl rfl)
theorem mv_P_longestAtDoor : Cond.selects m_P_longestAtDoor.1.cls m_P_longestAtDoor.1 m_P_longestAtDoor.1 ∈ qT := (tm4 (j := 61) rfl rfl)
theorem mc_X_move : Cond.code m_X_move.1 m_X_move.2.1 m_X_move.2.2.1 m_X_move.2.2.2.1 ∈ qT := (tm4 (j := 67) rfl rfl)
theorem mi_X_move : Cond.instanceMethod m_X_move.1 ∈ qT := (tm4 (j := 65) rfl rfl)
theorem mv_X_move : Cond.selects m_X_move.1.cls m_X_move.1 m_X_move.1 ∈ qT := (tm4 (j := 66) rfl rfl)
theorem mc_V_fact : Cond.code m_V_fact.1 m_V_fact.2.1 m_V_fact.2.2.1 m_V_fact.2.2.2.1 ∈ qT := (tm4 (j := 71) rfl rfl)
theorem mi_V_fact : Cond.instanceMethod m_V_fact.1 ∈ qT := (tm4 (j := 69) rfl rfl)
theorem mv_V_fact : Cond.selects m_V_fact.1.cls m_V_fact.1 m_V_fact.1 ∈ qT := (tm4 (j := 70) rfl rfl)
theorem mc_X_link : Cond.code m_X_link.1 m_X_link.2.1 m_X_link.2.2.1 m_X_link.2.2.2.1 ∈ qT := (tm4 (j := 76) rfl rfl)
theorem mi_X_link : Cond.instanceMethod m_X_link.1 ∈ qT := (tm4 (j := 74) rfl rfl)
theorem mv_X_link : Cond.selects m_X_link.1.cls m_X_link.1 m_X_link.1 ∈ qT := (tm4 (j := 75) rfl rfl)
theorem mc_X_trace : Cond.code m_X_trace.1 m_X_trace.2.1 m_X_trace.2.2.1 m_X_trace.2.2.2.1 ∈ qT := (tm4 (j := 80) rfl rfl)
theorem mi_X_trace : Cond.instanceMethod m_X_trace.1 ∈ qT := (tm4 (j := 78) rfl rfl)
theorem mv_X_trace : Cond.selects m_X_trace.1.cls m_X_trace.1 m_X_trace.1 ∈ qT := (tm4 (j := 79) rfl rfl)
theorem mc_P_nodeBehind : Cond.code m_P_nodeBehind.1 m_P_nodeBehind.2.1 m_P_nodeBehind.2.2.1 m_P_nodeBehind.2.2.2.1 ∈ qT := (tm4 (j := 84) rfl rfl)
theorem mi_P_nodeBehind : Cond.instanceMethod m_P_nodeBehind.1 ∈ qT := (tm4 (j := 82) rfl rfl)
theorem mv_P_nodeBehind : Cond.selects m_P_nodeBehind.1.cls m_P_nodeBehind.1 m_P_nodeBehind.1 ∈ qT := (tm4 (j := 83) rfl rfl)
theorem mc_X_pair : Cond.code m_X_pair.1 m_X_pair.2.1 m_X_pair.2.2.1 m_X_pair.2.2.2.1 ∈ qT := (tm4 (j := 88) rfl rfl)
theorem mi_X_pair : Cond.instanceMethod m_X_pair.1 ∈ qT := (tm4 (j := 86) rfl rfl)
theorem mv_X_pair : Cond.selects m_X_pair.1.cls m_X_pair.1 m_X_pair.1 ∈ qT := (tm4 (j := 87) rfl rfl)
theorem mc_P_sentBetween : Cond.code m_P_sentBetween.1 m_P_sentBetween.2.1 m_P_sentBetween.2.2.1 m_P_sentBetween.2.2.2.1 ∈ qT := (tm4 (j := 92) rfl rfl)
theorem mi_P_sentBetween : Cond.instanceMethod m_P_sentBetween.1 ∈ qT := (tm4 (j := 90) rfl rfl)
theorem mv_P_sentBetween : Cond.selects m_P_sentBetween.1.cls m_P_sentBetween.1 m_P_sentBetween.1 ∈ qT := (tm4 (j := 91) rfl rfl)
theorem mc_P_deliveredBetween : Cond.code m_P_deliveredBetween.1 m_P_deliveredBetween.2.1 m_P_deliveredBetween.2.2.1 m_P_deliveredBetween.2.2.2.1 ∈ qT := (tm4 (j := 96) rfl rfl)
theorem mi_P_deliveredBetween : Cond.instanceMethod m_P_deliveredBetween.1 ∈ qT := (tm4 (j := 94) rfl rfl)
theorem mv_P_deliveredBetween : Cond.selects m_P_deliveredBetween.1.cls m_P_deliveredBetween.1 m_P_deliveredBetween.1 ∈ qT := (tm4 (j := 95) rfl rfl)
theorem mc_P_disorderBetween : Cond.code m_P_disorderBetween.1 m_P_disorderBetween.2.1 m_P_disorderBetween.2.2.1 m_P_disorderBetween.2.2.2.1 ∈ qT := (tm4 (j := 100) rfl rfl)
theorem mi_P_disorderBetween : Cond.instanceMethod m_P_disorderBetween.1 ∈ qT := (tm4 (j := 98) rfl rfl)
theorem mv_P_disorderBetween : Cond.selects m_P_disorderBetween.1.cls m_P_disorderBetween.1 m_P_disorderBetween.1 ∈ qT := (tm4 (j := 99) rfl rfl)
theorem mc_P_latestBetween : Cond.code m_P_latestBetween.1 m_P_latestBetween.2.1 m_P_latestBetween.2.2.1 m_P_latestBetween.2.2.2.1 ∈ qT := (tm4 (j := 104) rfl rfl)
theorem mi_P_latestBetween : Cond.instanceMethod m_P_latestBetween.1 ∈ qT := (tm4 (j := 102) rfl rfl)
theorem mv_P_latestBetween : Cond.selects m_P_latestBetween.1.cls m_P_latestBetween.1 m_P_latestBetween.1 ∈ qT := (tm4 (j := 103) rfl rfl)
theorem mc_P_lateness : Cond.code m_P_lateness.1 m_P_lateness.2.1 m_P_lateness.2.2.1 m_P_lateness.2.2.2.1 ∈ qT := (tm4 (j := 108) rfl rfl)
theorem mi_P_lateness : Cond.instanceMethod m_P_lateness.1 ∈ qT := (tm4 (j := 107) rfl rfl)
theorem mv_P_lateness : Cond.selects m_P_lateness.1.cls m_P_lateness.1 m_P_lateness.1 ∈ qT := tmp (q := (m_P_lateness.1, 15)) (show (m_P_lateness.1, 15) ∈ lw_privs from List.mem_append_left _ (List.mem_of_getElem? (i := 15) rfl))
theorem mc_X_late : Cond.code m_X_late.1 m_X_late.2.1 m_X_late.2.2.1 m_X_late.2.2.2.1 ∈ qT := (tm4 (j := 112) rfl rfl)
theorem mi_X_late : Cond.instanceMethod m_X_late.1 ∈ qT := (tm4 (j := 110) rfl rfl)
theorem mv_X_late : Cond.selects m_X_late.1.cls m_X_late.1 m_X_late.1 ∈ qT := (tm4 (j := 111) rfl rfl)
theorem mc_P_lateWithin : Cond.code m_P_lateWithin.1 m_P_lateWithin.2.1 m_P_lateWithin.2.2.1 m_P_lateWithin.2.2.2.1 ∈ qT := (tm4 (j := 116) rfl rfl)
theorem mi_P_lateWithin : Cond.instanceMethod m_P_lateWithin.1 ∈ qT := (tm4 (j := 114) rfl rfl)
theorem mv_P_lateWithin : Cond.selects m_P_lateWithin.1.cls m_P_lateWithin.1 m_P_lateWithin.1 ∈ qT := (tm4 (j := 115) rfl rfl)
theorem mc_X_lates : Cond.code m_X_lates.1 m_X_lates.2.1 m_X_lates.2.2.1 m_X_lates.2.2.2.1 ∈ qT := (tm4 (j := 120) rfl rfl)
theorem mi_X_lates : Cond.instanceMethod m_X_lates.1 ∈ qT := (tm4 (j := 118) rfl rfl)
theorem mv_X_lates : Cond.selects m_X_lates.1.cls m_X_lates.1 m_X_lates.1 ∈ qT := (tm4 (j := 119) rfl rfl)
theorem mc_P_differentLates : Cond.code m_P_differentLates.1 m_P_differentLates.2.1 m_P_differentLates.2.2.1 m_P_differentLates.2.2.2.1 ∈ qT := (tm4 (j := 124) rfl rfl)
theorem mi_P_differentLates : Cond.instanceMethod m_P_differentLates.1 ∈ qT := (tm4 (j := 122) rfl rfl)
theorem mv_P_differentLates : Cond.selects m_P_differentLates.1.cls m_P_differentLates.1 m_P_differentLates.1 ∈ qT := (tm4 (j := 123) rfl rfl)
theorem mc_P_lateAbove : Cond.code m_P_lateAbove.1 m_P_lateAbove.2.1 m_P_lateAbove.2.2.1 m_P_lateAbove.2.2.2.1 ∈ qT := (tm4 (j := 128) rfl rfl)
theorem mi_P_lateAbove : Cond.instanceMethod m_P_lateAbove.1 ∈ qT := (tm4 (j := 127) rfl rfl)
theorem mv_P_lateAbove : Cond.selects m_P_lateAbove.1.cls m_P_lateAbove.1 m_P_lateAbove.1 ∈ qT := tmp (q := (m_P_lateAbove.1, 15)) (show (m_P_lateAbove.1, 15) ∈ lw_privs from List.mem_append_right _ (List.mem_append_left _ (List.mem_of_getElem? (i := 0) rfl)))
theorem mc_P_lateAt : Cond.code m_P_lateAt.1 m_P_lateAt.2.1 m_P_lateAt.2.2.1 m_P_lateAt.2.2.2.1 ∈ qT := (tm4 (j := 132) rfl rfl)
theorem mi_P_lateAt : Cond.instanceMethod m_P_lateAt.1 ∈ qT := (tm4 (j := 130) rfl rfl)
theorem mv_P_lateAt : Cond.selects m_P_lateAt.1.cls m_P_lateAt.1 m_P_lateAt.1 ∈ qT := (tm4 (j := 131) rfl rfl)
theorem mc_X_goesOn : Cond.code m_X_goesOn.1 m_X_goesOn.2.1 m_X_goesOn.2.2.1 m_X_goesOn.2.2.2.1 ∈ qT := (tm4 (j := 136) rfl rfl)
theorem mi_X_goesOn : Cond.instanceMethod m_X_goesOn.1 ∈ qT := (tm4 (j := 134) rfl rfl)
theorem mv_X_goesOn : Cond.selects m_X_goesOn.1.cls m_X_goesOn.1 m_X_goesOn.1 ∈ qT := (tm4 (j := 135) rfl rfl)
theorem mc_N_queueOf : Cond.code m_N_queueOf.1 m_N_queueOf.2.1 m_N_queueOf.2.2.1 m_N_queueOf.2.2.2.1 ∈ qT := (tm4 (j := 141) rfl rfl)
theorem mi_N_queueOf : Cond.instanceMethod m_N_queueOf.1 ∈ qT := (tm4 (j := 139) rfl rfl)
theorem mv_N_queueOf : Cond.selects m_N_queueOf.1.cls m_N_queueOf.1 m_N_queueOf.1 ∈ qT := (tm4 (j := 140) rfl rfl)
theorem mc_O_judge : Cond.code m_O_judge.1 m_O_judge.2.1 m_O_judge.2.2.1 m_O_judge.2.2.2.1 ∈ qT := (tm4 (j := 146) rfl rfl)
theorem mi_O_judge : Cond.instanceMethod m_O_judge.1 ∈ qT := (tm4 (j := 144) rfl rfl)
theorem mv_O_judge : Cond.selects m_O_judge.1.cls m_O_judge.1 m_O_judge.1 ∈ qT := (tm4 (j := 145) rfl rfl)
theorem mc_O_goesAtOnce : Cond.code m_O_goesAtOnce.1 m_O_goesAtOnce.2.1 m_O_goesAtOnce.2.2.1 m_O_goesAtOnce.2.2.2.1 ∈ qT := (tm4 (j := 150) rfl rfl)
theorem mi_O_goesAtOnce : Cond.instanceMethod m_O_goesAtOnce.1 ∈ qT := (tm4 (j := 149) rfl rfl)
theorem mv_O_goesAtOnce : Cond.selects m_O_goesAtOnce.1.cls m_O_goesAtOnce.1 m_O_goesAtOnce.1 ∈ qT := tmp (q := (m_O_goesAtOnce.1, 1)) (show (m_O_goesAtOnce.1, 1) ∈ lw_privs from List.mem_append_right _ (List.mem_append_left _ (List.mem_of_getElem? (i := 1) rfl)))
theorem mc_N_isInTo : Cond.code m_N_isInTo.1 m_N_isInTo.2.1 m_N_isInTo.2.2.1 m_N_isInTo.2.2.2.1 ∈ qT := (tm4 (j := 154) rfl rfl)
theorem mi_N_isInTo : Cond.instanceMethod m_N_isInTo.1 ∈ qT := (tm4 (j := 152) rfl rfl)
theorem mv_N_isInTo : Cond.selects m_N_isInTo.1.cls m_N_isInTo.1 m_N_isInTo.1 ∈ qT := (tm4 (j := 153) rfl rfl)
theorem mc_O_follows : Cond.code m_O_follows.1 m_O_follows.2.1 m_O_follows.2.2.1 m_O_follows.2.2.2.1 ∈ qT := (tm4 (j := 160) rfl rfl)
theorem mi_O_follows : Cond.instanceMethod m_O_follows.1 ∈ qT := (tm4 (j := 159) rfl rfl)
theorem mv_O_follows : Cond.selects m_O_follows.1.cls m_O_follows.1 m_O_follows.1 ∈ qT := tmp (q := (m_O_follows.1, 1)) (show (m_O_follows.1, 1) ∈ lw_privs from List.mem_append_right _ (List.mem_append_left _ (List.mem_of_getElem? (i := 2) rfl)))
theorem mc_O_anyInRing : Cond.code m_O_anyInRing.1 m_O_anyInRing.2.1 m_O_anyInRing.2.2.1 m_O_anyInRing.2.2.2.1 ∈ qT := (tm4 (j := 168) rfl rfl)
theorem mi_O_anyInRing : Cond.instanceMethod m_O_anyInRing.1 ∈ qT := (tm4 (j := 167) rfl rfl)
theorem mv_O_anyInRing : Cond.selects m_O_anyInRing.1.cls m_O_anyInRing.1 m_O_anyInRing.1 ∈ qT := tmp (q := (m_O_anyInRing.1, 1)) (show (m_O_anyInRing.1, 1) ∈ lw_privs from List.mem_append_right _ (List.mem_append_left _ (List.mem_of_getElem? (i := 3) rfl)))
theorem mc_X_stuck : Cond.code m_X_stuck.1 m_X_stuck.2.1 m_X_stuck.2.2.1 m_X_stuck.2.2.2.1 ∈ qT := (tm4 (j := 175) rfl rfl)
theorem mi_X_stuck : Cond.instanceMethod m_X_stuck.1 ∈ qT := (tm4 (j := 173) rfl rfl)
theorem mv_X_stuck : Cond.selects m_X_stuck.1.cls m_X_stuck.1 m_X_stuck.1 ∈ qT := (tm4 (j := 174) rfl rfl)
theorem mc_O_held : Cond.code m_O_held.1 m_O_held.2.1 m_O_held.2.2.1 m_O_held.2.2.2.1 ∈ qT := (tm4 (j := 179) rfl rfl)
theorem mi_O_held : Cond.instanceMethod m_O_held.1 ∈ qT := (tm4 (j := 177) rfl rfl)
theorem mv_O_held : Cond.selects m_O_held.1.cls m_O_held.1 m_O_held.1 ∈ qT := (tm4 (j := 178) rfl rfl)
theorem mc_X_dead : Cond.code m_X_dead.1 m_X_dead.2.1 m_X_dead.2.2.1 m_X_dead.2.2.2.1 ∈ qT := (tm4 (j := 183) rfl rfl)
theorem mi_X_dead : Cond.instanceMethod m_X_dead.1 ∈ qT := (tm4 (j := 181) rfl rfl)
theorem mv_X_dead : Cond.selects m_X_dead.1.cls m_X_dead.1 m_X_dead.1 ∈ qT := (tm4 (j := 182) rfl rfl)
theorem mc_P_left : Cond.code m_P_left.1 m_P_left.2.1 m_P_left.2.2.1 m_P_left.2.2.2.1 ∈ qT := (tm4 (j := 187) rfl rfl)
theorem mi_P_left : Cond.instanceMethod m_P_left.1 ∈ qT := (tm4 (j := 185) rfl rfl)
theorem mv_P_left : Cond.selects m_P_left.1.cls m_P_left.1 m_P_left.1 ∈ qT := (tm4 (j := 186) rfl rfl)
theorem mc_O_anyGoesOn : Cond.code m_O_anyGoesOn.1 m_O_anyGoesOn.2.1 m_O_anyGoesOn.2.2.1 m_O_anyGoesOn.2.2.2.1 ∈ qT := (tm4 (j := 191) rfl rfl)
theorem mi_O_anyGoesOn : Cond.instanceMethod m_O_anyGoesOn.1 ∈ qT := (tm4 (j := 189) rfl rfl)
theorem mv_O_anyGoesOn : Cond.selects m_O_anyGoesOn.1.cls m_O_anyGoesOn.1 m_O_anyGoesOn.1 ∈ qT := (tm4 (j := 190) rfl rfl)
theorem mc_X_through : Cond.code m_X_through.1 m_X_through.2.1 m_X_through.2.2.1 m_X_through.2.2.2.1 ∈ qT := (tm4 (j := 195) rfl rfl)
theorem mi_X_through : Cond.instanceMethod m_X_through.1 ∈ qT := (tm4 (j := 193) rfl rfl)
theorem mv_X_through : Cond.selects m_X_through.1.cls m_X_through.1 m_X_through.1 ∈ qT := (tm4 (j := 194) rfl rfl)
theorem mc_N_copyFrom : Cond.code m_N_copyFrom.1 m_N_copyFrom.2.1 m_N_copyFrom.2.2.1 m_N_copyFrom.2.2.2.1 ∈ qT := (tm4 (j := 199) rfl rfl)
theorem mi_N_copyFrom : Cond.instanceMethod m_N_copyFrom.1 ∈ qT := (tm4 (j := 197) rfl rfl)
theorem mv_N_copyFrom : Cond.selects m_N_copyFrom.1.cls m_N_copyFrom.1 m_N_copyFrom.1 ∈ qT := (tm4 (j := 198) rfl rfl)
theorem mc_G_copyFrom : Cond.code m_G_copyFrom.1 m_G_copyFrom.2.1 m_G_copyFrom.2.2.1 m_G_copyFrom.2.2.2.1 ∈ qT := (tm4 (j := 203) rfl rfl)
theorem mi_G_copyFrom : Cond.instanceMethod m_G_copyFrom.1 ∈ qT := (tm4 (j := 201) rfl rfl)
theorem mv_G_copyFrom : Cond.selects m_G_copyFrom.1.cls m_G_copyFrom.1 m_G_copyFrom.1 ∈ qT := (tm4 (j := 202) rfl rfl)
theorem mc_V_copyFrom : Cond.code m_V_copyFrom.1 m_V_copyFrom.2.1 m_V_copyFrom.2.2.1 m_V_copyFrom.2.2.2.1 ∈ qT := (tm4 (j := 207) rfl rfl)
theorem mi_V_copyFrom : Cond.instanceMethod m_V_copyFrom.1 ∈ qT := (tm4 (j := 205) rfl rfl)
theorem mv_V_copyFrom : Cond.selects m_V_copyFrom.1.cls m_V_copyFrom.1 m_V_copyFrom.1 ∈ qT := (tm4 (j := 206) rfl rfl)
theorem mc_P_copyFrom : Cond.code m_P_copyFrom.1 m_P_copyFrom.2.1 m_P_copyFrom.2.2.1 m_P_copyFrom.2.2.2.1 ∈ qT := (tm4 (j := 214) rfl rfl)
theorem mi_P_copyFrom : Cond.instanceMethod m_P_copyFrom.1 ∈ qT := (tm4 (j := 212) rfl rfl)
theorem mv_P_copyFrom : Cond.selects m_P_copyFrom.1.cls m_P_copyFrom.1 m_P_copyFrom.1 ∈ qT := (tm4 (j := 213) rfl rfl)
theorem mc_P_copyRow : Cond.code m_P_copyRow.1 m_P_copyRow.2.1 m_P_copyRow.2.2.1 m_P_copyRow.2.2.2.1 ∈ qT := (tm4 (j := 218) rfl rfl)
theorem mi_P_copyRow : Cond.instanceMethod m_P_copyRow.1 ∈ qT := (tm4 (j := 217) rfl rfl)
theorem mv_P_copyRow : Cond.selects m_P_copyRow.1.cls m_P_copyRow.1 m_P_copyRow.1 ∈ qT := tmp (q := (m_P_copyRow.1, 15)) (show (m_P_copyRow.1, 15) ∈ lw_privs from List.mem_append_right _ (List.mem_append_left _ (List.mem_of_getElem? (i := 4) rfl)))
theorem mc_Q_copyFrom : Cond.code m_Q_copyFrom.1 m_Q_copyFrom.2.1 m_Q_copyFrom.2.2.1 m_Q_copyFrom.2.2.2.1 ∈ qT := (tm4 (j := 223) rfl rfl)
theorem mi_Q_copyFrom : Cond.instanceMethod m_Q_copyFrom.1 ∈ qT := (tm4 (j := 221) rfl rfl)
theorem mv_Q_copyFrom : Cond.selects m_Q_copyFrom.1.cls m_Q_copyFrom.1 m_Q_copyFrom.1 ∈ qT := (tm4 (j := 222) rfl rfl)
theorem mc_R_copyFrom : Cond.code m_R_copyFrom.1 m_R_copyFrom.2.1 m_R_copyFrom.2.2.1 m_R_copyFrom.2.2.2.1 ∈ qT := (tm4 (j := 228) rfl rfl)
theorem mi_R_copyFrom : Cond.instanceMethod m_R_copyFrom.1 ∈ qT := (tm4 (j := 226) rfl rfl)
theorem mv_R_copyFrom : Cond.selects m_R_copyFrom.1.cls m_R_copyFrom.1 m_R_copyFrom.1 ∈ qT := (tm4 (j := 227) rfl rfl)
theorem mc_X_ticksUntilDelivered : Cond.code m_X_ticksUntilDelivered.1 m_X_ticksUntilDelivered.2.1 m_X_ticksUntilDelivered.2.2.1 m_X_ticksUntilDelivered.2.2.2.1 ∈ qT := (tm4 (j := 234) rfl rfl)
theorem mi_X_ticksUntilDelivered : Cond.instanceMethod m_X_ticksUntilDelivered.1 ∈ qT := (tm4 (j := 233) rfl rfl)
theorem mv_X_ticksUntilDelivered : Cond.selects m_X_ticksUntilDelivered.1.cls m_X_ticksUntilDelivered.1 m_X_ticksUntilDelivered.1 ∈ qT := tmp (q := (m_X_ticksUntilDelivered.1, 7)) (show (m_X_ticksUntilDelivered.1, 7) ∈ lw_privs from List.mem_append_right _ (List.mem_append_left _ (List.mem_of_getElem? (i := 5) rfl)))
theorem mc_X_arrives : Cond.code m_X_arrives.1 m_X_arrives.2.1 m_X_arrives.2.2.1 m_X_arrives.2.2.2.1 ∈ qT := (tm4 (j := 238) rfl rfl)
theorem mi_X_arrives : Cond.instanceMethod m_X_arrives.1 ∈ qT := (tm4 (j := 236) rfl rfl)
theorem mv_X_arrives : Cond.selects m_X_arrives.1.cls m_X_arrives.1 m_X_arrives.1 ∈ qT := (tm4 (j := 237) rfl rfl)
theorem mc_X_enters : Cond.code m_X_enters.1 m_X_enters.2.1 m_X_enters.2.2.1 m_X_enters.2.2.2.1 ∈ qT := (tm5 (j := 2) rfl rfl)
theorem mi_X_enters : Cond.instanceMethod m_X_enters.1 ∈ qT := (tm5 (j := 0) rfl rfl)
theorem mv_X_enters : Cond.selects m_X_enters.1.cls m_X_enters.1 m_X_enters.1 ∈ qT := (tm5 (j := 1) rfl rfl)
theorem mc_X_schedules : Cond.code m_X_schedules.1 m_X_schedules.2.1 m_X_schedules.2.2.1 m_X_schedules.2.2.2.1 ∈ qT := (tm5 (j := 8) rfl rfl)
theorem mi_X_schedules : Cond.instanceMethod m_X_schedules.1 ∈ qT := (tm5 (j := 6) rfl rfl)
theorem mv_X_schedules : Cond.selects m_X_schedules.1.cls m_X_schedules.1 m_X_schedules.1 ∈ qT := (tm5 (j := 7) rfl rfl)
theorem mc_S_run : Cond.code m_S_run.1 m_S_run.2.1 m_S_run.2.2.1 m_S_run.2.2.2.1 ∈ qT := (tm5 (j := 12) rfl rfl)
theorem mi_S_run : Cond.instanceMethod m_S_run.1 ∈ qT := (tm5 (j := 10) rfl rfl)
theorem mv_S_run : Cond.selects m_S_run.1.cls m_S_run.1 m_S_run.1 ∈ qT := (tm5 (j := 11) rfl rfl)
theorem mc_S_findLeft : Cond.code m_S_findLeft.1 m_S_findLeft.2.1 m_S_findLeft.2.2.1 m_S_findLeft.2.2.2.1 ∈ qT := (tm5 (j := 17) rfl rfl)
theorem mi_S_findLeft : Cond.instanceMethod m_S_findLeft.1 ∈ qT := (tm5 (j := 16) rfl rfl)
theorem mv_S_findLeft : Cond.selects m_S_findLeft.1.cls m_S_findLeft.1 m_S_findLeft.1 ∈ qT := tmp (q := (m_S_findLeft.1, 10)) (show (m_S_findLeft.1, 10) ∈ lw_privs from List.mem_append_right _ (List.mem_append_left _ (List.mem_of_getElem? (i := 6) rfl)))
theorem mc_S_reach : Cond.code m_S_reach.1 m_S_reach.2.1 m_S_reach.2.2.1 m_S_reach.2.2.2.1 ∈ qT := (tm5 (j := 24) rfl rfl)
theorem mi_S_reach : Cond.instanceMethod m_S_reach.1 ∈ qT := (tm5 (j := 23) rfl rfl)
theorem mv_S_reach : Cond.selects m_S_reach.1.cls m_S_reach.1 m_S_reach.1 ∈ qT := tmp (q := (m_S_reach.1, 10)) (show (m_S_reach.1, 10) ∈ lw_privs from List.mem_append_right _ (List.mem_append_left _ (List.mem_of_getElem? (i := 7) rfl)))
theorem mc_S_keyOf : Cond.code m_S_keyOf.1 m_S_keyOf.2.1 m_S_keyOf.2.2.1 m_S_keyOf.2.2.2.1 ∈ qT := (tm5 (j := 28) rfl rfl)
theorem mi_S_keyOf : Cond.instanceMethod m_S_keyOf.1 ∈ qT := (tm5 (j := 27) rfl rfl)
theorem mv_S_keyOf : Cond.selects m_S_keyOf.1.cls m_S_keyOf.1 m_S_keyOf.1 ∈ qT := tmp (q := (m_S_keyOf.1, 10)) (show (m_S_keyOf.1, 10) ∈ lw_privs from List.mem_append_right _ (List.mem_append_left _ (List.mem_of_getElem? (i := 8) rfl)))
theorem mc_Q_placeOf : Cond.code m_Q_placeOf.1 m_Q_placeOf.2.1 m_Q_placeOf.2.2.1 m_Q_placeOf.2.2.2.1 ∈ qT := (tm5 (j := 32) rfl rfl)
theorem mi_Q_placeOf : Cond.instanceMethod m_Q_placeOf.1 ∈ qT := (tm5 (j := 30) rfl rfl)
theorem mv_Q_placeOf : Cond.selects m_Q_placeOf.1.cls m_Q_placeOf.1 m_Q_placeOf.1 ∈ qT := (tm5 (j := 31) rfl rfl)
theorem mc_G_placeInRing : Cond.code m_G_placeInRing.1 m_G_placeInRing.2.1 m_G_placeInRing.2.2.1 m_G_placeInRing.2.2.2.1 ∈ qT := (tm5 (j := 37) rfl rfl)
theorem mi_G_placeInRing : Cond.instanceMethod m_G_placeInRing.1 ∈ qT := (tm5 (j := 35) rfl rfl)
theorem mv_G_placeInRing : Cond.selects m_G_placeInRing.1.cls m_G_placeInRing.1 m_G_placeInRing.1 ∈ qT := (tm5 (j := 36) rfl rfl)
theorem mc_S_open : Cond.code m_S_open.1 m_S_open.2.1 m_S_open.2.2.1 m_S_open.2.2.2.1 ∈ qT := (tm5 (j := 42) rfl rfl)
theorem mi_S_open : Cond.instanceMethod m_S_open.1 ∈ qT := (tm5 (j := 41) rfl rfl)
theorem mv_S_open : Cond.selects m_S_open.1.cls m_S_open.1 m_S_open.1 ∈ qT := tmp (q := (m_S_open.1, 10)) (show (m_S_open.1, 10) ∈ lw_privs from List.mem_append_right _ (List.mem_append_left _ (List.mem_of_getElem? (i := 9) rfl)))
theorem mc_S_extend : Cond.code m_S_extend.1 m_S_extend.2.1 m_S_extend.2.2.1 m_S_extend.2.2.2.1 ∈ qT := (tm5 (j := 50) rfl rfl)
theorem mi_S_extend : Cond.instanceMethod m_S_extend.1 ∈ qT := (tm5 (j := 49) rfl rfl)
theorem mv_S_extend : Cond.selects m_S_extend.1.cls m_S_extend.1 m_S_extend.1 ∈ qT := tmp (q := (m_S_extend.1, 10)) (show (m_S_extend.1, 10) ∈ lw_privs from List.mem_append_right _ (List.mem_append_left _ (List.mem_of_getElem? (i := 10) rfl)))
theorem mc_S_close : Cond.code m_S_close.1 m_S_close.2.1 m_S_close.2.2.1 m_S_close.2.2.2.1 ∈ qT := (tm5 (j := 57) rfl rfl)
theorem mi_S_close : Cond.instanceMethod m_S_close.1 ∈ qT := (tm5 (j := 56) rfl rfl)
theorem mv_S_close : Cond.selects m_S_close.1.cls m_S_close.1 m_S_close.1 ∈ qT := tmp (q := (m_S_close.1, 10)) (show (m_S_close.1, 10) ∈ lw_privs from List.mem_append_right _ (List.mem_append_left _ (List.mem_of_getElem? (i := 11) rfl)))
theorem mc_S_tryBy : Cond.code m_S_tryBy.1 m_S_tryBy.2.1 m_S_tryBy.2.2.1 m_S_tryBy.2.2.2.1 ∈ qT := (tm5 (j := 61) rfl rfl)
theorem mi_S_tryBy : Cond.instanceMethod m_S_tryBy.1 ∈ qT := (tm5 (j := 60) rfl rfl)
theorem mv_S_tryBy : Cond.selects m_S_tryBy.1.cls m_S_tryBy.1 m_S_tryBy.1 ∈ qT := tmp (q := (m_S_tryBy.1, 10)) (show (m_S_tryBy.1, 10) ∈ lw_privs from List.mem_append_right _ (List.mem_append_left _ (List.mem_of_getElem? (i := 12) rfl)))
theorem mc_S_weigh : Cond.code m_S_weigh.1 m_S_weigh.2.1 m_S_weigh.2.2.1 m_S_weigh.2.2.2.1 ∈ qT := (tm5 (j := 69) rfl rfl)
theorem mi_S_weigh : Cond.instanceMethod m_S_weigh.1 ∈ qT := (tm5 (j := 68) rfl rfl)
theorem mv_S_weigh : Cond.selects m_S_weigh.1.cls m_S_weigh.1 m_S_weigh.1 ∈ qT := tmp (q := (m_S_weigh.1, 10)) (show (m_S_weigh.1, 10) ∈ lw_privs from List.mem_append_right _ (List.mem_append_left _ (List.mem_of_getElem? (i := 13) rfl)))
theorem mc_N_heldInLane : Cond.code m_N_heldInLane.1 m_N_heldInLane.2.1 m_N_heldInLane.2.2.1 m_N_heldInLane.2.2.2.1 ∈ qT := (tm5 (j := 73) rfl rfl)
theorem mi_N_heldInLane : Cond.instanceMethod m_N_heldInLane.1 ∈ qT := (tm5 (j := 71) rfl rfl)
theorem mv_N_heldInLane : Cond.selects m_N_heldInLane.1.cls m_N_heldInLane.1 m_N_heldInLane.1 ∈ qT := (tm5 (j := 72) rfl rfl)
theorem mc_X_alone : Cond.code m_X_alone.1 m_X_alone.2.1 m_X_alone.2.2.1 m_X_alone.2.2.2.1 ∈ qT := (tm5 (j := 81) rfl rfl)
theorem mi_X_alone : Cond.instanceMethod m_X_alone.1 ∈ qT := (tm5 (j := 79) rfl rfl)
theorem mv_X_alone : Cond.selects m_X_alone.1.cls m_X_alone.1 m_X_alone.1 ∈ qT := (tm5 (j := 80) rfl rfl)
theorem mc_L_answer : Cond.code m_L_answer.1 m_L_answer.2.1 m_L_answer.2.2.1 m_L_answer.2.2.2.1 ∈ qT := (tm5 (j := 85) rfl rfl)
theorem mi_L_answer : Cond.instanceMethod m_L_answer.1 ∈ qT := (tm5 (j := 83) rfl rfl)
theorem mv_L_answer : Cond.selects m_L_answer.1.cls m_L_answer.1 m_L_answer.1 ∈ qT := (tm5 (j := 84) rfl rfl)
theorem mc_L_canBe : Cond.code m_L_canBe.1 m_L_canBe.2.1 m_L_canBe.2.2.1 m_L_canBe.2.2.2.1 ∈ qT := (tm5 (j := 88) rfl rfl)
theorem ms_L_canBe : Cond.static m_L_canBe.1 ∈ qT := (tm5 (j := 87) rfl rfl)
theorem mc_L_solve : Cond.code m_L_solve.1 m_L_solve.2.1 m_L_solve.2.2.1 m_L_solve.2.2.2.1 ∈ qT := (tm5 (j := 93) rfl rfl)
theorem mi_L_solve : Cond.instanceMethod m_L_solve.1 ∈ qT := (tm5 (j := 92) rfl rfl)
theorem mv_L_solve : Cond.selects m_L_solve.1.cls m_L_solve.1 m_L_solve.1 ∈ qT := tmp (q := (m_L_solve.1, 16)) (show (m_L_solve.1, 16) ∈ lw_privs from List.mem_append_right _ (List.mem_append_left _ (List.mem_of_getElem? (i := 14) rfl)))
theorem mc_L_prepare : Cond.code m_L_prepare.1 m_L_prepare.2.1 m_L_prepare.2.2.1 m_L_prepare.2.2.2.1 ∈ qT := (tm5 (j := 97) rfl rfl)
theorem mi_L_prepare : Cond.instanceMethod m_L_prepare.1 ∈ qT := (tm5 (j := 96) rfl rfl)
theorem mv_L_prepare : Cond.selects m_L_prepare.1.cls m_L_prepare.1 m_L_prepare.1 ∈ qT := tmp (q := (m_L_prepare.1, 16)) (show (m_L_prepare.1, 16) ∈ lw_privs from List.mem_append_right _ (List.mem_append_left _ (List.mem_of_getElem? (i := 15) rfl)))
theorem mc_L_explore : Cond.code m_L_explore.1 m_L_explore.2.1 m_L_explore.2.2.1 m_L_explore.2.2.2.1 ∈ qT := (tm5 (j := 101) rfl rfl)
theorem mi_L_explore : Cond.instanceMethod m_L_explore.1 ∈ qT := (tm5 (j := 100) rfl rfl)
theorem mv_L_explore : Cond.selects m_L_explore.1.cls m_L_explore.1 m_L_explore.1 ∈ qT := tmp (q := (m_L_explore.1, 16)) (show (m_L_explore.1, 16) ∈ lw_privs from List.mem_append_right _ (List.mem_append_right _ (List.mem_append_left _ (List.mem_of_getElem? (i := 0) rfl))))
theorem mc_L_open : Cond.code m_L_open.1 m_L_open.2.1 m_L_open.2.2.1 m_L_open.2.2.2.1 ∈ qT := (tm5 (j := 106) rfl rfl)
theorem mi_L_open : Cond.instanceMethod m_L_open.1 ∈ qT := (tm5 (j := 105) rfl rfl)
theorem mv_L_open : Cond.selects m_L_open.1.cls m_L_open.1 m_L_open.1 ∈ qT := tmp (q := (m_L_open.1, 16)) (show (m_L_open.1, 16) ∈ lw_privs from List.mem_append_right _ (List.mem_append_right _ (List.mem_append_left _ (List.mem_of_getElem? (i := 1) rfl))))
theorem mc_L_lengthOf : Cond.code m_L_lengthOf.1 m_L_lengthOf.2.1 m_L_lengthOf.2.2.1 m_L_lengthOf.2.2.2.1 ∈ qT := (tm5 (j := 110) rfl rfl)
theorem mi_L_lengthOf : Cond.instanceMethod m_L_lengthOf.1 ∈ qT := (tm5 (j := 109) rfl rfl)
theorem mv_L_lengthOf : Cond.selects m_L_lengthOf.1.cls m_L_lengthOf.1 m_L_lengthOf.1 ∈ qT := tmp (q := (m_L_lengthOf.1, 16)) (show (m_L_lengthOf.1, 16) ∈ lw_privs from List.mem_append_right _ (List.mem_append_right _ (List.mem_append_left _ (List.mem_of_getElem? (i := 2) rfl))))
theorem mc_L_listSteps : Cond.code m_L_listSteps.1 m_L_listSteps.2.1 m_L_listSteps.2.2.1 m_L_listSteps.2.2.2.1 ∈ qT := (tm5 (j := 114) rfl rfl)
theorem mi_L_listSteps : Cond.instanceMethod m_L_listSteps.1 ∈ qT := (tm5 (j := 113) rfl rfl)
theorem mv_L_listSteps : Cond.selects m_L_listSteps.1.cls m_L_listSteps.1 m_L_listSteps.1 ∈ qT := tmp (q := (m_L_listSteps.1, 16)) (show (m_L_listSteps.1, 16) ∈ lw_privs from List.mem_append_right _ (List.mem_append_right _ (List.mem_append_left _ (List.mem_of_getElem? (i := 3) rfl))))
theorem mc_L_listStepOfFirst : Cond.code m_L_listStepOfFirst.1 m_L_listStepOfFirst.2.1 m_L_listStepOfFirst.2.2.1 m_L_listStepOfFirst.2.2.2.1 ∈ qT := (tm5 (j := 118) rfl rfl)
theorem mi_L_listStepOfFirst : Cond.instanceMethod m_L_listStepOfFirst.1 ∈ qT := (tm5 (j := 117) rfl rfl)
theorem mv_L_listStepOfFirst : Cond.selects m_L_listStepOfFirst.1.cls m_L_listStepOfFirst.1 m_L_listStepOfFirst.1 ∈ qT := tmp (q := (m_L_listStepOfFirst.1, 16)) (show (m_L_listStepOfFirst.1, 16) ∈ lw_privs from List.mem_append_right _ (List.mem_append_right _ (List.mem_append_left _ (List.mem_of_getElem? (i := 4) rfl))))
theorem mc_L_addStep : Cond.code m_L_addStep.1 m_L_addStep.2.1 m_L_addStep.2.2.1 m_L_addStep.2.2.2.1 ∈ qT := (tm5 (j := 122) rfl rfl)
theorem mi_L_addStep : Cond.instanceMethod m_L_addStep.1 ∈ qT := (tm5 (j := 121) rfl rfl)
theorem mv_L_addStep : Cond.selects m_L_addStep.1.cls m_L_addStep.1 m_L_addStep.1 ∈ qT := tmp (q := (m_L_addStep.1, 16)) (show (m_L_addStep.1, 16) ∈ lw_privs from List.mem_append_right _ (List.mem_append_right _ (List.mem_append_left _ (List.mem_of_getElem? (i := 5) rfl))))
theorem mc_L_put : Cond.code m_L_put.1 m_L_put.2.1 m_L_put.2.2.1 m_L_put.2.2.2.1 ∈ qT := (tm5 (j := 126) rfl rfl)
theorem mi_L_put : Cond.instanceMethod m_L_put.1 ∈ qT := (tm5 (j := 125) rfl rfl)
theorem mv_L_put : Cond.selects m_L_put.1.cls m_L_put.1 m_L_put.1 ∈ qT := tmp (q := (m_L_put.1, 16)) (show (m_L_put.1, 16) ∈ lw_privs from List.mem_append_right _ (List.mem_append_right _ (List.mem_append_left _ (List.mem_of_getElem? (i := 6) rfl))))
theorem mc_L_ruleLets : Cond.code m_L_ruleLets.1 m_L_ruleLets.2.1 m_L_ruleLets.2.2.1 m_L_ruleLets.2.2.2.1 ∈ qT := (tm5 (j := 130) rfl rfl)
theorem mi_L_ruleLets : Cond.instanceMethod m_L_ruleLets.1 ∈ qT := (tm5 (j := 129) rfl rfl)
theorem mv_L_ruleLets : Cond.selects m_L_ruleLets.1.cls m_L_ruleLets.1 m_L_ruleLets.1 ∈ qT := tmp (q := (m_L_ruleLets.1, 16)) (show (m_L_ruleLets.1, 16) ∈ lw_privs from List.mem_append_right _ (List.mem_append_right _ (List.mem_append_left _ (List.mem_of_getElem? (i := 7) rfl))))
theorem mc_L_weigh : Cond.code m_L_weigh.1 m_L_weigh.2.1 m_L_weigh.2.2.1 m_L_weigh.2.2.2.1 ∈ qT := (tm5 (j := 134) rfl rfl)
theorem mi_L_weigh : Cond.instanceMethod m_L_weigh.1 ∈ qT := (tm5 (j := 133) rfl rfl)
theorem mv_L_weigh : Cond.selects m_L_weigh.1.cls m_L_weigh.1 m_L_weigh.1 ∈ qT := tmp (q := (m_L_weigh.1, 16)) (show (m_L_weigh.1, 16) ∈ lw_privs from List.mem_append_right _ (List.mem_append_right _ (List.mem_append_left _ (List.mem_of_getElem? (i := 8) rfl))))
theorem mc_L_isStarving : Cond.code m_L_isStarving.1 m_L_isStarving.2.1 m_L_isStarving.2.2.1 m_L_isStarving.2.2.2.1 ∈ qT := (tm5 (j := 139) rfl rfl)
theorem mi_L_isStarving : Cond.instanceMethod m_L_isStarving.1 ∈ qT := (tm5 (j := 138) rfl rfl)
theorem mv_L_isStarving : Cond.selects m_L_isStarving.1.cls m_L_isStarving.1 m_L_isStarving.1 ∈ qT := tmp (q := (m_L_isStarving.1, 16)) (show (m_L_isStarving.1, 16) ∈ lw_privs from List.mem_append_right _ (List.mem_append_right _ (List.mem_append_left _ (List.mem_of_getElem? (i := 9) rfl))))
theorem mc_L_leadsOn : Cond.code m_L_leadsOn.1 m_L_leadsOn.2.1 m_L_leadsOn.2.2.1 m_L_leadsOn.2.2.2.1 ∈ qT := (tm5 (j := 143) rfl rfl)
theorem mi_L_leadsOn : Cond.instanceMethod m_L_leadsOn.1 ∈ qT := (tm5 (j := 142) rfl rfl)
theorem mv_L_leadsOn : Cond.selects m_L_leadsOn.1.cls m_L_leadsOn.1 m_L_leadsOn.1 ∈ qT := tmp (q := (m_L_leadsOn.1, 16)) (show (m_L_leadsOn.1, 16) ∈ lw_privs from List.mem_append_right _ (List.mem_append_right _ (List.mem_append_left _ (List.mem_of_getElem? (i := 10) rfl))))
theorem mc_L_longestWait : Cond.code m_L_longestWait.1 m_L_longestWait.2.1 m_L_longestWait.2.2.1 m_L_longestWait.2.2.2.1 ∈ qT := (tm5 (j := 147) rfl rfl)
theorem mi_L_longestWait : Cond.instanceMethod m_L_longestWait.1 ∈ qT := (tm5 (j := 146) rfl rfl)
theorem mv_L_longestWait : Cond.selects m_L_longestWait.1.cls m_L_longestWait.1 m_L_longestWait.1 ∈ qT := tmp (q := (m_L_longestWait.1, 16)) (show (m_L_longestWait.1, 16) ∈ lw_privs from List.mem_append_right _ (List.mem_append_right _ (List.mem_append_left _ (List.mem_of_getElem? (i := 11) rfl))))
theorem mc_L_waitIn : Cond.code m_L_waitIn.1 m_L_waitIn.2.1 m_L_waitIn.2.2.1 m_L_waitIn.2.2.2.1 ∈ qT := (tm5 (j := 151) rfl rfl)
theorem mi_L_waitIn : Cond.instanceMethod m_L_waitIn.1 ∈ qT := (tm5 (j := 150) rfl rfl)
theorem mv_L_waitIn : Cond.selects m_L_waitIn.1.cls m_L_waitIn.1 m_L_waitIn.1 ∈ qT := tmp (q := (m_L_waitIn.1, 16)) (show (m_L_waitIn.1, 16) ∈ lw_privs from List.mem_append_right _ (List.mem_append_right _ (List.mem_append_left _ (List.mem_of_getElem? (i := 12) rfl))))
theorem mc_X_look : Cond.code m_X_look.1 m_X_look.2.1 m_X_look.2.2.1 m_X_look.2.2.2.1 ∈ qT := (tm5 (j := 155) rfl rfl)
theorem mi_X_look : Cond.instanceMethod m_X_look.1 ∈ qT := (tm5 (j := 153) rfl rfl)
theorem mv_X_look : Cond.selects m_X_look.1.cls m_X_look.1 m_X_look.1 ∈ qT := (tm5 (j := 154) rfl rfl)
theorem mc_P_lateTogether : Cond.code m_P_lateTogether.1 m_P_lateTogether.2.1 m_P_lateTogether.2.2.1 m_P_lateTogether.2.2.2.1 ∈ qT := (tm5 (j := 160) rfl rfl)
theorem mi_P_lateTogether : Cond.instanceMethod m_P_lateTogether.1 ∈ qT := (tm5 (j := 158) rfl rfl)
theorem mv_P_lateTogether : Cond.selects m_P_lateTogether.1.cls m_P_lateTogether.1 m_P_lateTogether.1 ∈ qT := (tm5 (j := 159) rfl rfl)
theorem mc_P_hopsTogether : Cond.code m_P_hopsTogether.1 m_P_hopsTogether.2.1 m_P_hopsTogether.2.2.1 m_P_hopsTogether.2.2.2.1 ∈ qT := (tm5 (j := 164) rfl rfl)
theorem mi_P_hopsTogether : Cond.instanceMethod m_P_hopsTogether.1 ∈ qT := (tm5 (j := 162) rfl rfl)
theorem mv_P_hopsTogether : Cond.selects m_P_hopsTogether.1.cls m_P_hopsTogether.1 m_P_hopsTogether.1 ∈ qT := (tm5 (j := 163) rfl rfl)
theorem mc_R_marksNow : Cond.code m_R_marksNow.1 m_R_marksNow.2.1 m_R_marksNow.2.2.1 m_R_marksNow.2.2.2.1 ∈ qT := (tm5 (j := 168) rfl rfl)
theorem mi_R_marksNow : Cond.instanceMethod m_R_marksNow.1 ∈ qT := (tm5 (j := 166) rfl rfl)
theorem mv_R_marksNow : Cond.selects m_R_marksNow.1.cls m_R_marksNow.1 m_R_marksNow.1 ∈ qT := (tm5 (j := 167) rfl rfl)
theorem mc_P_disorderTogether : Cond.code m_P_disorderTogether.1 m_P_disorderTogether.2.1 m_P_disorderTogether.2.2.1 m_P_disorderTogether.2.2.2.1 ∈ qT := (tm5 (j := 172) rfl rfl)
theorem mi_P_disorderTogether : Cond.instanceMethod m_P_disorderTogether.1 ∈ qT := (tm5 (j := 170) rfl rfl)
theorem mv_P_disorderTogether : Cond.selects m_P_disorderTogether.1.cls m_P_disorderTogether.1 m_P_disorderTogether.1 ∈ qT := (tm5 (j := 171) rfl rfl)
theorem mc_M_init : Cond.code m_M_init.1 m_M_init.2.1 m_M_init.2.2.1 m_M_init.2.2.2.1 ∈ qT := (tm5 (j := 177) rfl rfl)
theorem mi_M_init : Cond.instanceMethod m_M_init.1 ∈ qT := (tm5 (j := 176) rfl rfl)
theorem mc_M_begins : Cond.code m_M_begins.1 m_M_begins.2.1 m_M_begins.2.2.1 m_M_begins.2.2.2.1 ∈ qT := (tm5 (j := 182) rfl rfl)
theorem mi_M_begins : Cond.instanceMethod m_M_begins.1 ∈ qT := (tm5 (j := 181) rfl rfl)
theorem mv_M_begins : Cond.selects m_M_begins.1.cls m_M_begins.1 m_M_begins.1 ∈ qT := tmp (q := (m_M_begins.1, 26)) (show (m_M_begins.1, 26) ∈ lw_privs from List.mem_append_right _ (List.mem_append_right _ (List.mem_append_left _ (List.mem_of_getElem? (i := 13) rfl))))
theorem mc_M_rings : Cond.code m_M_rings.1 m_M_rings.2.1 m_M_rings.2.2.1 m_M_rings.2.2.2.1 ∈ qT := (tm5 (j := 186) rfl rfl)
theorem mi_M_rings : Cond.instanceMethod m_M_rings.1 ∈ qT := (tm5 (j := 185) rfl rfl)
theorem mv_M_rings : Cond.selects m_M_rings.1.cls m_M_rings.1 m_M_rings.1 ∈ qT := tmp (q := (m_M_rings.1, 26)) (show (m_M_rings.1, 26) ∈ lw_privs from List.mem_append_right _ (List.mem_append_right _ (List.mem_append_left _ (List.mem_of_getElem? (i := 14) rfl))))
theorem mc_M_ringAt : Cond.code m_M_ringAt.1 m_M_ringAt.2.1 m_M_ringAt.2.2.1 m_M_ringAt.2.2.2.1 ∈ qT := (tm5 (j := 189) rfl rfl)
theorem ms_M_ringAt : Cond.static m_M_ringAt.1 ∈ qT := (tm5 (j := 188) rfl rfl)
theorem mc_M_leastNode : Cond.code m_M_leastNode.1 m_M_leastNode.2.1 m_M_leastNode.2.2.1 m_M_leastNode.2.2.2.1 ∈ qT := (tm5 (j := 193) rfl rfl)
theorem mi_M_leastNode : Cond.instanceMethod m_M_leastNode.1 ∈ qT := (tm5 (j := 192) rfl rfl)
theorem mv_M_leastNode : Cond.selects m_M_leastNode.1.cls m_M_leastNode.1 m_M_leastNode.1 ∈ qT := tmp (q := (m_M_leastNode.1, 26)) (show (m_M_leastNode.1, 26) ∈ lw_privs from List.mem_append_right _ (List.mem_append_right _ (List.mem_append_left _ (List.mem_of_getElem? (i := 15) rfl))))
theorem mc_M_directionOf : Cond.code m_M_directionOf.1 m_M_directionOf.2.1 m_M_directionOf.2.2.1 m_M_directionOf.2.2.2.1 ∈ qT := (tm5 (j := 197) rfl rfl)
theorem mi_M_directionOf : Cond.instanceMethod m_M_directionOf.1 ∈ qT := (tm5 (j := 196) rfl rfl)
theorem mv_M_directionOf : Cond.selects m_M_directionOf.1.cls m_M_directionOf.1 m_M_directionOf.1 ∈ qT := tmp (q := (m_M_directionOf.1, 26)) (show (m_M_directionOf.1, 26) ∈ lw_privs from List.mem_append_right _ (List.mem_append_right _ (List.mem_append_right _ (List.mem_append_left _ (List.mem_of_getElem? (i := 0) rfl)))))
theorem mc_M_longOf : Cond.code m_M_longOf.1 m_M_longOf.2.1 m_M_longOf.2.2.1 m_M_longOf.2.2.2.1 ∈ qT := (tm5 (j := 201) rfl rfl)
theorem mi_M_longOf : Cond.instanceMethod m_M_longOf.1 ∈ qT := (tm5 (j := 200) rfl rfl)
theorem mv_M_longOf : Cond.selects m_M_longOf.1.cls m_M_longOf.1 m_M_longOf.1 ∈ qT := tmp (q := (m_M_longOf.1, 26)) (show (m_M_longOf.1, 26) ∈ lw_privs from List.mem_append_right _ (List.mem_append_right _ (List.mem_append_right _ (List.mem_append_left _ (List.mem_of_getElem? (i := 1) rfl)))))
theorem mc_M_torus : Cond.code m_M_torus.1 m_M_torus.2.1 m_M_torus.2.2.1 m_M_torus.2.2.2.1 ∈ qT := (tm6 (j := 44) rfl rfl)
theorem mi_M_torus : Cond.instanceMethod m_M_torus.1 ∈ qT := (tm6 (j := 42) rfl rfl)
theorem mv_M_torus : Cond.selects m_M_torus.1.cls m_M_torus.1 m_M_torus.1 ∈ qT := (tm6 (j := 43) rfl rfl)
theorem mc_M_isIn : Cond.code m_M_isIn.1 m_M_isIn.2.1 m_M_isIn.2.2.1 m_M_isIn.2.2.2.1 ∈ qT := (tm6 (j := 47) rfl rfl)
theorem ms_M_isIn : Cond.static m_M_isIn.1 ∈ qT := (tm6 (j := 46) rfl rfl)
theorem mc_M_next : Cond.code m_M_next.1 m_M_next.2.1 m_M_next.2.2.1 m_M_next.2.2.2.1 ∈ qT := (tm6 (j := 51) rfl rfl)
theorem mi_M_next : Cond.instanceMethod m_M_next.1 ∈ qT := (tm6 (j := 49) rfl rfl)
theorem mv_M_next : Cond.selects m_M_next.1.cls m_M_next.1 m_M_next.1 ∈ qT := (tm6 (j := 50) rfl rfl)
theorem mc_M_isNode : Cond.code m_M_isNode.1 m_M_isNode.2.1 m_M_isNode.2.2.1 m_M_isNode.2.2.2.1 ∈ qT := (tm6 (j := 55) rfl rfl)
theorem mi_M_isNode : Cond.instanceMethod m_M_isNode.1 ∈ qT := (tm6 (j := 54) rfl rfl)
theorem mv_M_isNode : Cond.selects m_M_isNode.1.cls m_M_isNode.1 m_M_isNode.1 ∈ qT := tmp (q := (m_M_isNode.1, 26)) (show (m_M_isNode.1, 26) ∈ lw_privs from List.mem_append_right _ (List.mem_append_right _ (List.mem_append_right _ (List.mem_append_left _ (List.mem_of_getElem? (i := 2) rfl)))))
theorem mc_M_nodes : Cond.code m_M_nodes.1 m_M_nodes.2.1 m_M_nodes.2.2.1 m_M_nodes.2.2.2.1 ∈ qT := (tm6 (j := 59) rfl rfl)
theorem mi_M_nodes : Cond.instanceMethod m_M_nodes.1 ∈ qT := (tm6 (j := 58) rfl rfl)
theorem mv_M_nodes : Cond.selects m_M_nodes.1.cls m_M_nodes.1 m_M_nodes.1 ∈ qT := tmp (q := (m_M_nodes.1, 26)) (show (m_M_nodes.1, 26) ∈ lw_privs from List.mem_append_right _ (List.mem_append_right _ (List.mem_append_right _ (List.mem_append_left _ (List.mem_of_getElem? (i := 3) rfl)))))
theorem mc_M_isDirection : Cond.code m_M_isDirection.1 m_M_isDirection.2.1 m_M_isDirection.2.2.1 m_M_isDirection.2.2.2.1 ∈ qT := (tm6 (j := 62) rfl rfl)
theorem ms_M_isDirection : Cond.static m_M_isDirection.1 ∈ qT := (tm6 (j := 61) rfl rfl)
theorem mc_M_nextOf : Cond.code m_M_nextOf.1 m_M_nextOf.2.1 m_M_nextOf.2.2.1 m_M_nextOf.2.2.2.1 ∈ qT := (tm6 (j := 66) rfl rfl)
theorem mi_M_nextOf : Cond.instanceMethod m_M_nextOf.1 ∈ qT := (tm6 (j := 65) rfl rfl)
theorem mv_M_nextOf : Cond.selects m_M_nextOf.1.cls m_M_nextOf.1 m_M_nextOf.1 ∈ qT := tmp (q := (m_M_nextOf.1, 26)) (show (m_M_nextOf.1, 26) ∈ lw_privs from List.mem_append_right _ (List.mem_append_right _ (List.mem_append_right _ (List.mem_append_left _ (List.mem_of_getElem? (i := 4) rfl)))))
theorem mc_M_far : Cond.code m_M_far.1 m_M_far.2.1 m_M_far.2.2.1 m_M_far.2.2.2.1 ∈ qT := (tm6 (j := 70) rfl rfl)
theorem mi_M_far : Cond.instanceMethod m_M_far.1 ∈ qT := (tm6 (j := 68) rfl rfl)
theorem mv_M_far : Cond.selects m_M_far.1.cls m_M_far.1 m_M_far.1 ∈ qT := (tm6 (j := 69) rfl rfl)
theorem mc_M_farOf : Cond.code m_M_farOf.1 m_M_farOf.2.1 m_M_farOf.2.2.1 m_M_farOf.2.2.2.1 ∈ qT := (tm6 (j := 74) rfl rfl)
theorem mi_M_farOf : Cond.instanceMethod m_M_farOf.1 ∈ qT := (tm6 (j := 73) rfl rfl)
theorem mv_M_farOf : Cond.selects m_M_farOf.1.cls m_M_farOf.1 m_M_farOf.1 ∈ qT := tmp (q := (m_M_farOf.1, 26)) (show (m_M_farOf.1, 26) ∈ lw_privs from List.mem_append_right _ (List.mem_append_right _ (List.mem_append_right _ (List.mem_append_left _ (List.mem_of_getElem? (i := 5) rfl)))))
theorem mc_M_apart : Cond.code m_M_apart.1 m_M_apart.2.1 m_M_apart.2.2.1 m_M_apart.2.2.2.1 ∈ qT := (tm6 (j := 77) rfl rfl)
theorem ms_M_apart : Cond.static m_M_apart.1 ∈ qT := (tm6 (j := 76) rfl rfl)
theorem mc_M_profitable : Cond.code m_M_profitable.1 m_M_profitable.2.1 m_M_profitable.2.2.1 m_M_profitable.2.2.2.1 ∈ qT := (tm6 (j := 81) rfl rfl)
theorem mi_M_profitable : Cond.instanceMethod m_M_profitable.1 ∈ qT := (tm6 (j := 79) rfl rfl)
theorem mv_M_profitable : Cond.selects m_M_profitable.1.cls m_M_profitable.1 m_M_profitable.1 ∈ qT := (tm6 (j := 80) rfl rfl)
theorem mc_M_isProfitable : Cond.code m_M_isProfitable.1 m_M_isProfitable.2.1 m_M_isProfitable.2.2.1 m_M_isProfitable.2.2.2.1 ∈ qT := (tm6 (j := 85) rfl rfl)
theorem mi_M_isProfitable : Cond.instanceMethod m_M_isProfitable.1 ∈ qT := (tm6 (j := 84) rfl rfl)
theorem mv_M_isProfitable : Cond.selects m_M_isProfitable.1.cls m_M_isProfitable.1 m_M_isProfitable.1 ∈ qT := tmp (q := (m_M_isProfitable.1, 26)) (show (m_M_isProfitable.1, 26) ∈ lw_privs from List.mem_append_right _ (List.mem_append_right _ (List.mem_append_right _ (List.mem_append_left _ (List.mem_of_getElem? (i := 6) rfl)))))
theorem mc_M_way : Cond.code m_M_way.1 m_M_way.2.1 m_M_way.2.2.1 m_M_way.2.2.2.1 ∈ qT := (tm6 (j := 89) rfl rfl)
theorem mi_M_way : Cond.instanceMethod m_M_way.1 ∈ qT := (tm6 (j := 87) rfl rfl)
theorem mv_M_way : Cond.selects m_M_way.1.cls m_M_way.1 m_M_way.1 ∈ qT := (tm6 (j := 88) rfl rfl)
theorem mc_M_escapeOf : Cond.code m_M_escapeOf.1 m_M_escapeOf.2.1 m_M_escapeOf.2.2.1 m_M_escapeOf.2.2.2.1 ∈ qT := (tm6 (j := 93) rfl rfl)
theorem mi_M_escapeOf : Cond.instanceMethod m_M_escapeOf.1 ∈ qT := (tm6 (j := 92) rfl rfl)
theorem mv_M_escapeOf : Cond.selects m_M_escapeOf.1.cls m_M_escapeOf.1 m_M_escapeOf.1 ∈ qT := tmp (q := (m_M_escapeOf.1, 26)) (show (m_M_escapeOf.1, 26) ∈ lw_privs from List.mem_append_right _ (List.mem_append_right _ (List.mem_append_right _ (List.mem_append_left _ (List.mem_of_getElem? (i := 7) rfl)))))
theorem mc_M_ringOf : Cond.code m_M_ringOf.1 m_M_ringOf.2.1 m_M_ringOf.2.2.1 m_M_ringOf.2.2.2.1 ∈ qT := (tm6 (j := 97) rfl rfl)
theorem mi_M_ringOf : Cond.instanceMethod m_M_ringOf.1 ∈ qT := (tm6 (j := 95) rfl rfl)
theorem mv_M_ringOf : Cond.selects m_M_ringOf.1.cls m_M_ringOf.1 m_M_ringOf.1 ∈ qT := (tm6 (j := 96) rfl rfl)
theorem mc_M_ringFor : Cond.code m_M_ringFor.1 m_M_ringFor.2.1 m_M_ringFor.2.2.1 m_M_ringFor.2.2.2.1 ∈ qT := (tm6 (j := 101) rfl rfl)
theorem mi_M_ringFor : Cond.instanceMethod m_M_ringFor.1 ∈ qT := (tm6 (j := 100) rfl rfl)
theorem mv_M_ringFor : Cond.selects m_M_ringFor.1.cls m_M_ringFor.1 m_M_ringFor.1 ∈ qT := tmp (q := (m_M_ringFor.1, 26)) (show (m_M_ringFor.1, 26) ∈ lw_privs from List.mem_append_right _ (List.mem_append_right _ (List.mem_append_right _ (List.mem_append_left _ (List.mem_of_getElem? (i := 8) rfl)))))
theorem mc_M_send : Cond.code m_M_send.1 m_M_send.2.1 m_M_send.2.2.1 m_M_send.2.2.2.1 ∈ qT := (tm6 (j := 105) rfl rfl)
theorem mi_M_send : Cond.instanceMethod m_M_send.1 ∈ qT := (tm6 (j := 103) rfl rfl)
theorem mv_M_send : Cond.selects m_M_send.1.cls m_M_send.1 m_M_send.1 ∈ qT := (tm6 (j := 104) rfl rfl)
theorem mc_M_sends : Cond.code m_M_sends.1 m_M_sends.2.1 m_M_sends.2.2.1 m_M_sends.2.2.2.1 ∈ qT := (tm6 (j := 109) rfl rfl)
theorem mi_M_sends : Cond.instanceMethod m_M_sends.1 ∈ qT := (tm6 (j := 108) rfl rfl)
theorem mv_M_sends : Cond.selects m_M_sends.1.cls m_M_sends.1 m_M_sends.1 ∈ qT := tmp (q := (m_M_sends.1, 26)) (show (m_M_sends.1, 26) ∈ lw_privs from List.mem_append_right _ (List.mem_append_right _ (List.mem_append_right _ (List.mem_append_left _ (List.mem_of_getElem? (i := 9) rfl)))))
theorem mc_M_free : Cond.code m_M_free.1 m_M_free.2.1 m_M_free.2.2.1 m_M_free.2.2.2.1 ∈ qT := (tm6 (j := 113) rfl rfl)
theorem mi_M_free : Cond.instanceMethod m_M_free.1 ∈ qT := (tm6 (j := 112) rfl rfl)
theorem mv_M_free : Cond.selects m_M_free.1.cls m_M_free.1 m_M_free.1 ∈ qT := tmp (q := (m_M_free.1, 26)) (show (m_M_free.1, 26) ∈ lw_privs from List.mem_append_right _ (List.mem_append_right _ (List.mem_append_right _ (List.mem_append_left _ (List.mem_of_getElem? (i := 10) rfl)))))
theorem mc_M_placesOf : Cond.code m_M_placesOf.1 m_M_placesOf.2.1 m_M_placesOf.2.2.1 m_M_placesOf.2.2.2.1 ∈ qT := (tm6 (j := 117) rfl rfl)
theorem mi_M_placesOf : Cond.instanceMethod m_M_placesOf.1 ∈ qT := (tm6 (j := 116) rfl rfl)
theorem mv_M_placesOf : Cond.selects m_M_placesOf.1.cls m_M_placesOf.1 m_M_placesOf.1 ∈ qT := tmp (q := (m_M_placesOf.1, 26)) (show (m_M_placesOf.1, 26) ∈ lw_privs from List.mem_append_right _ (List.mem_append_right _ (List.mem_append_right _ (List.mem_append_left _ (List.mem_of_getElem? (i := 11) rfl)))))
theorem mc_M_many : Cond.code m_M_many.1 m_M_many.2.1 m_M_many.2.2.1 m_M_many.2.2.2.1 ∈ qT := (tm6 (j := 121) rfl rfl)
theorem mi_M_many : Cond.instanceMethod m_M_many.1 ∈ qT := (tm6 (j := 120) rfl rfl)
theorem mv_M_many : Cond.selects m_M_many.1.cls m_M_many.1 m_M_many.1 ∈ qT := tmp (q := (m_M_many.1, 26)) (show (m_M_many.1, 26) ∈ lw_privs from List.mem_append_right _ (List.mem_append_right _ (List.mem_append_right _ (List.mem_append_left _ (List.mem_of_getElem? (i := 12) rfl)))))
theorem mc_M_queueAt : Cond.code m_M_queueAt.1 m_M_queueAt.2.1 m_M_queueAt.2.2.1 m_M_queueAt.2.2.2.1 ∈ qT := (tm6 (j := 124) rfl rfl)
theorem ms_M_queueAt : Cond.static m_M_queueAt.1 ∈ qT := (tm6 (j := 123) rfl rfl)
theorem mc_M_packetAt : Cond.code m_M_packetAt.1 m_M_packetAt.2.1 m_M_packetAt.2.2.1 m_M_packetAt.2.2.2.1 ∈ qT := (tm6 (j := 127) rfl rfl)
theorem ms_M_packetAt : Cond.static m_M_packetAt.1 ∈ qT := (tm6 (j := 126) rfl rfl)
theorem mc_M_comes : Cond.code m_M_comes.1 m_M_comes.2.1 m_M_comes.2.2.1 m_M_comes.2.2.2.1 ∈ qT := (tm6 (j := 131) rfl rfl)
theorem mi_M_comes : Cond.instanceMethod m_M_comes.1 ∈ qT := (tm6 (j := 130) rfl rfl)
theorem mv_M_comes : Cond.selects m_M_comes.1.cls m_M_comes.1 m_M_comes.1 ∈ qT := tmp (q := (m_M_comes.1, 26)) (show (m_M_comes.1, 26) ∈ lw_privs from List.mem_append_right _ (List.mem_append_right _ (List.mem_append_right _ (List.mem_append_left _ (List.mem_of_getElem? (i := 13) rfl)))))
theorem mc_M_state : Cond.code m_M_state.1 m_M_state.2.1 m_M_state.2.2.1 m_M_state.2.2.2.1 ∈ qT := (tm6 (j := 135) rfl rfl)
theorem mi_M_state : Cond.instanceMethod m_M_state.1 ∈ qT := (tm6 (j := 133) rfl rfl)
theorem mv_M_state : Cond.selects m_M_state.1.cls m_M_state.1 m_M_state.1 ∈ qT := (tm6 (j := 134) rfl rfl)
theorem mc_M_shower : Cond.code m_M_shower.1 m_M_shower.2.1 m_M_shower.2.2.1 m_M_shower.2.2.2.1 ∈ qT := (tm6 (j := 139) rfl rfl)
theorem mi_M_shower : Cond.instanceMethod m_M_shower.1 ∈ qT := (tm6 (j := 137) rfl rfl)
theorem mv_M_shower : Cond.selects m_M_shower.1.cls m_M_shower.1 m_M_shower.1 ∈ qT := (tm6 (j := 138) rfl rfl)
theorem mc_M_drawOf : Cond.code m_M_drawOf.1 m_M_drawOf.2.1 m_M_drawOf.2.2.1 m_M_drawOf.2.2.2.1 ∈ qT := (tm6 (j := 143) rfl rfl)
theorem mi_M_drawOf : Cond.instanceMethod m_M_drawOf.1 ∈ qT := (tm6 (j := 142) rfl rfl)
theorem mv_M_drawOf : Cond.selects m_M_drawOf.1.cls m_M_drawOf.1 m_M_drawOf.1 ∈ qT := tmp (q := (m_M_drawOf.1, 26)) (show (m_M_drawOf.1, 26) ∈ lw_privs from List.mem_append_right _ (List.mem_append_right _ (List.mem_append_right _ (List.mem_append_left _ (List.mem_of_getElem? (i := 14) rfl)))))
theorem mc_M_sendsOrNot : Cond.code m_M_sendsOrNot.1 m_M_sendsOrNot.2.1 m_M_sendsOrNot.2.2.1 m_M_sendsOrNot.2.2.2.1 ∈ qT := (tm6 (j := 149) rfl rfl)
theorem mi_M_sendsOrNot : Cond.instanceMethod m_M_sendsOrNot.1 ∈ qT := (tm6 (j := 148) rfl rfl)
theorem mv_M_sendsOrNot : Cond.selects m_M_sendsOrNot.1.cls m_M_sendsOrNot.1 m_M_sendsOrNot.1 ∈ qT := tmp (q := (m_M_sendsOrNot.1, 26)) (show (m_M_sendsOrNot.1, 26) ∈ lw_privs from List.mem_append_right _ (List.mem_append_right _ (List.mem_append_right _ (List.mem_append_left _ (List.mem_of_getElem? (i := 15) rfl)))))
theorem mc_M_pattern : Cond.code m_M_pattern.1 m_M_pattern.2.1 m_M_pattern.2.2.1 m_M_pattern.2.2.2.1 ∈ qT := (tm6 (j := 153) rfl rfl)
theorem mi_M_pattern : Cond.instanceMethod m_M_pattern.1 ∈ qT := (tm6 (j := 151) rfl rfl)
theorem mv_M_pattern : Cond.selects m_M_pattern.1.cls m_M_pattern.1 m_M_pattern.1 ∈ qT := (tm6 (j := 152) rfl rfl)
theorem mc_M_patternTo : Cond.code m_M_patternTo.1 m_M_patternTo.2.1 m_M_patternTo.2.2.1 m_M_patternTo.2.2.2.1 ∈ qT := (tm6 (j := 157) rfl rfl)
theorem mi_M_patternTo : Cond.instanceMethod m_M_patternTo.1 ∈ qT := (tm6 (j := 156) rfl rfl)
theorem mv_M_patternTo : Cond.selects m_M_patternTo.1.cls m_M_patternTo.1 m_M_patternTo.1 ∈ qT := tmp (q := (m_M_patternTo.1, 26)) (show (m_M_patternTo.1, 26) ∈ lw_privs from List.mem_append_right _ (List.mem_append_right _ (List.mem_append_right _ (List.mem_append_right _ (List.mem_append_left _ (List.mem_of_getElem? (i := 0) rfl))))))
theorem mc_M_bound : Cond.code m_M_bound.1 m_M_bound.2.1 m_M_bound.2.2.1 m_M_bound.2.2.2.1 ∈ qT := (tm6 (j := 161) rfl rfl)
theorem mi_M_bound : Cond.instanceMethod m_M_bound.1 ∈ qT := (tm6 (j := 159) rfl rfl)
theorem mv_M_bound : Cond.selects m_M_bound.1.cls m_M_bound.1 m_M_bound.1 ∈ qT := (tm6 (j := 160) rfl rfl)
theorem mc_M_tick : Cond.code m_M_tick.1 m_M_tick.2.1 m_M_tick.2.2.1 m_M_tick.2.2.2.1 ∈ qT := (tm6 (j := 165) rfl rfl)
theorem mi_M_tick : Cond.instanceMethod m_M_tick.1 ∈ qT := (tm6 (j := 163) rfl rfl)
theorem mv_M_tick : Cond.selects m_M_tick.1.cls m_M_tick.1 m_M_tick.1 ∈ qT := (tm6 (j := 164) rfl rfl)
theorem mc_M_ticks : Cond.code m_M_ticks.1 m_M_ticks.2.1 m_M_ticks.2.2.1 m_M_ticks.2.2.2.1 ∈ qT := (tm6 (j := 169) rfl rfl)
theorem mi_M_ticks : Cond.instanceMethod m_M_ticks.1 ∈ qT := (tm6 (j := 168) rfl rfl)
theorem mv_M_ticks : Cond.selects m_M_ticks.1.cls m_M_ticks.1 m_M_ticks.1 ∈ qT := tmp (q := (m_M_ticks.1, 26)) (show (m_M_ticks.1, 26) ∈ lw_privs from List.mem_append_right _ (List.mem_append_right _ (List.mem_append_right _ (List.mem_append_right _ (List.mem_append_left _ (List.mem_of_getElem? (i := 1) rfl))))))
theorem mc_M_delivers : Cond.code m_M_delivers.1 m_M_delivers.2.1 m_M_delivers.2.2.1 m_M_delivers.2.2.2.1 ∈ qT := (tm6 (j := 173) rfl rfl)
theorem mi_M_delivers : Cond.instanceMethod m_M_delivers.1 ∈ qT := (tm6 (j := 172) rfl rfl)
theorem mv_M_delivers : Cond.selects m_M_delivers.1.cls m_M_delivers.1 m_M_delivers.1 ∈ qT := tmp (q := (m_M_delivers.1, 26)) (show (m_M_delivers.1, 26) ∈ lw_privs from List.mem_append_right _ (List.mem_append_right _ (List.mem_append_right _ (List.mem_append_right _ (List.mem_append_left _ (List.mem_of_getElem? (i := 2) rfl))))))
theorem mc_M_firstOf : Cond.code m_M_firstOf.1 m_M_firstOf.2.1 m_M_firstOf.2.2.1 m_M_firstOf.2.2.2.1 ∈ qT := (tm6 (j := 177) rfl rfl)
theorem mi_M_firstOf : Cond.instanceMethod m_M_firstOf.1 ∈ qT := (tm6 (j := 176) rfl rfl)
theorem mv_M_firstOf : Cond.selects m_M_firstOf.1.cls m_M_firstOf.1 m_M_firstOf.1 ∈ qT := tmp (q := (m_M_firstOf.1, 26)) (show (m_M_firstOf.1, 26) ∈ lw_privs from List.mem_append_right _ (List.mem_append_right _ (List.mem_append_right _ (List.mem_append_right _ (List.mem_append_left _ (List.mem_of_getElem? (i := 3) rfl))))))
theorem mc_M_of : Cond.code m_M_of.1 m_M_of.2.1 m_M_of.2.2.1 m_M_of.2.2.2.1 ∈ qT := (tm6 (j := 181) rfl rfl)
theorem mi_M_of : Cond.instanceMethod m_M_of.1 ∈ qT := (tm6 (j := 180) rfl rfl)
theorem mv_M_of : Cond.selects m_M_of.1.cls m_M_of.1 m_M_of.1 ∈ qT := tmp (q := (m_M_of.1, 26)) (show (m_M_of.1, 26) ∈ lw_privs from List.mem_append_right _ (List.mem_append_right _ (List.mem_append_right _ (List.mem_append_right _ (List.mem_append_left _ (List.mem_of_getElem? (i := 4) rfl))))))
theorem mc_M_leaves : Cond.code m_M_leaves.1 m_M_leaves.2.1 m_M_leaves.2.2.1 m_M_leaves.2.2.2.1 ∈ qT := (tm6 (j := 185) rfl rfl)
theorem mi_M_leaves : Cond.instanceMethod m_M_leaves.1 ∈ qT := (tm6 (j := 184) rfl rfl)
theorem mv_M_leaves : Cond.selects m_M_leaves.1.cls m_M_leaves.1 m_M_leaves.1 ∈ qT := tmp (q := (m_M_leaves.1, 26)) (show (m_M_leaves.1, 26) ∈ lw_privs from List.mem_append_right _ (List.mem_append_right _ (List.mem_append_right _ (List.mem_append_right _ (List.mem_append_left _ (List.mem_of_getElem? (i := 5) rfl))))))
theorem mc_M_isOvertaken : Cond.code m_M_isOvertaken.1 m_M_isOvertaken.2.1 m_M_isOvertaken.2.2.1 m_M_isOvertaken.2.2.2.1 ∈ qT := (tm6 (j := 189) rfl rfl)
theorem mi_M_isOvertaken : Cond.instanceMethod m_M_isOvertaken.1 ∈ qT := (tm6 (j := 188) rfl rfl)
theorem mv_M_isOvertaken : Cond.selects m_M_isOvertaken.1.cls m_M_isOvertaken.1 m_M_isOvertaken.1 ∈ qT := tmp (q := (m_M_isOvertaken.1, 26)) (show (m_M_isOvertaken.1, 26) ∈ lw_privs from List.mem_append_right _ (List.mem_append_right _ (List.mem_append_right _ (List.mem_append_right _ (List.mem_append_left _ (List.mem_of_getElem? (i := 6) rfl))))))
theorem mc_M_oneGoes : Cond.code m_M_oneGoes.1 m_M_oneGoes.2.1 m_M_oneGoes.2.2.1 m_M_oneGoes.2.2.2.1 ∈ qT := (tm6 (j := 193) rfl rfl)
theorem mi_M_oneGoes : Cond.instanceMethod m_M_oneGoes.1 ∈ qT := (tm6 (j := 192) rfl rfl)
theorem mv_M_oneGoes : Cond.selects m_M_oneGoes.1.cls m_M_oneGoes.1 m_M_oneGoes.1 ∈ qT := tmp (q := (m_M_oneGoes.1, 26)) (show (m_M_oneGoes.1, 26) ∈ lw_privs from List.mem_append_right _ (List.mem_append_right _ (List.mem_append_right _ (List.mem_append_right _ (List.mem_append_left _ (List.mem_of_getElem? (i := 7) rfl))))))
theorem mc_M_canGo : Cond.code m_M_canGo.1 m_M_canGo.2.1 m_M_canGo.2.2.1 m_M_canGo.2.2.2.1 ∈ qT := (tm6 (j := 197) rfl rfl)
theorem mi_M_canGo : Cond.instanceMethod m_M_canGo.1 ∈ qT := (tm6 (j := 196) rfl rfl)
theorem mv_M_canGo : Cond.selects m_M_canGo.1.cls m_M_canGo.1 m_M_canGo.1 ∈ qT := tmp (q := (m_M_canGo.1, 26)) (show (m_M_canGo.1, 26) ∈ lw_privs from List.mem_append_right _ (List.mem_append_right _ (List.mem_append_right _ (List.mem_append_right _ (List.mem_append_left _ (List.mem_of_getElem? (i := 8) rfl))))))
theorem mc_M_canByAdaptive : Cond.code m_M_canByAdaptive.1 m_M_canByAdaptive.2.1 m_M_canByAdaptive.2.2.1 m_M_canByAdaptive.2.2.2.1 ∈ qT := (tm6 (j := 201) rfl rfl)
theorem mi_M_canByAdaptive : Cond.instanceMethod m_M_canByAdaptive.1 ∈ qT := (tm6 (j := 200) rfl rfl)
theorem mv_M_canByAdaptive : Cond.selects m_M_canByAdaptive.1.cls m_M_canByAdaptive.1 m_M_canByAdaptive.1 ∈ qT := tmp (q := (m_M_canByAdaptive.1, 26)) (show (m_M_canByAdaptive.1, 26) ∈ lw_privs from List.mem_append_right _ (List.mem_append_right _ (List.mem_append_right _ (List.mem_append_right _ (List.mem_append_left _ (List.mem_of_getElem? (i := 9) rfl))))))
theorem mc_M_canByEscape : Cond.code m_M_canByEscape.1 m_M_canByEscape.2.1 m_M_canByEscape.2.2.1 m_M_canByEscape.2.2.2.1 ∈ qT := (tm6 (j := 205) rfl rfl)
theorem mi_M_canByEscape : Cond.instanceMethod m_M_canByEscape.1 ∈ qT := (tm6 (j := 204) rfl rfl)
theorem mv_M_canByEscape : Cond.selects m_M_canByEscape.1.cls m_M_canByEscape.1 m_M_canByEscape.1 ∈ qT := tmp (q := (m_M_canByEscape.1, 26)) (show (m_M_canByEscape.1, 26) ∈ lw_privs from List.mem_append_right _ (List.mem_append_right _ (List.mem_append_right _ (List.mem_append_right _ (List.mem_append_left _ (List.mem_of_getElem? (i := 10) rfl))))))
theorem mc_M_doesContinue : Cond.code m_M_doesContinue.1 m_M_doesContinue.2.1 m_M_doesContinue.2.2.1 m_M_doesContinue.2.2.2.1 ∈ qT := (tm6 (j := 209) rfl rfl)
theorem mi_M_doesContinue : Cond.instanceMethod m_M_doesContinue.1 ∈ qT := (tm6 (j := 208) rfl rfl)
theorem mv_M_doesContinue : Cond.selects m_M_doesContinue.1.cls m_M_doesContinue.1 m_M_doesContinue.1 ∈ qT := tmp (q := (m_M_doesContinue.1, 26)) (show (m_M_doesContinue.1, 26) ∈ lw_privs from List.mem_append_right _ (List.mem_append_right _ (List.mem_append_right _ (List.mem_append_right _ (List.mem_append_left _ (List.mem_of_getElem? (i := 11) rfl))))))
theorem mc_M_isBarred : Cond.code m_M_isBarred.1 m_M_isBarred.2.1 m_M_isBarred.2.2.1 m_M_isBarred.2.2.2.1 ∈ qT := (tm6 (j := 213) rfl rfl)
theorem mi_M_isBarred : Cond.instanceMethod m_M_isBarred.1 ∈ qT := (tm6 (j := 212) rfl rfl)
theorem mv_M_isBarred : Cond.selects m_M_isBarred.1.cls m_M_isBarred.1 m_M_isBarred.1 ∈ qT := tmp (q := (m_M_isBarred.1, 26)) (show (m_M_isBarred.1, 26) ∈ lw_privs from List.mem_append_right _ (List.mem_append_right _ (List.mem_append_right _ (List.mem_append_right _ (List.mem_append_left _ (List.mem_of_getElem? (i := 12) rfl))))))
theorem mc_M_doesRuleLet : Cond.code m_M_doesRuleLet.1 m_M_doesRuleLet.2.1 m_M_doesRuleLet.2.2.1 m_M_doesRuleLet.2.2.2.1 ∈ qT := (tm6 (j := 217) rfl rfl)
theorem mi_M_doesRuleLet : Cond.instanceMethod m_M_doesRuleLet.1 ∈ qT := (tm6 (j := 216) rfl rfl)
theorem mv_M_doesRuleLet : Cond.selects m_M_doesRuleLet.1.cls m_M_doesRuleLet.1 m_M_doesRuleLet.1 ∈ qT := tmp (q := (m_M_doesRuleLet.1, 26)) (show (m_M_doesRuleLet.1, 26) ∈ lw_privs from List.mem_append_right _ (List.mem_append_right _ (List.mem_append_right _ (List.mem_append_right _ (List.mem_append_left _ (List.mem_of_getElem? (i := 13) rfl))))))
theorem mc_M_isAhead : Cond.code m_M_isAhead.1 m_M_isAhead.2.1 m_M_isAhead.2.2.1 m_M_isAhead.2.2.2.1 ∈ qT := (tm6 (j := 221) rfl rfl)
theorem mi_M_isAhead : Cond.instanceMethod m_M_isAhead.1 ∈ qT := (tm6 (j := 220) rfl rfl)
theorem mv_M_isAhead : Cond.selects m_M_isAhead.1.cls m_M_isAhead.1 m_M_isAhead.1 ∈ qT := tmp (q := (m_M_isAhead.1, 26)) (show (m_M_isAhead.1, 26) ∈ lw_privs from List.mem_append_right _ (List.mem_append_right _ (List.mem_append_right _ (List.mem_append_right _ (List.mem_append_left _ (List.mem_of_getElem? (i := 14) rfl))))))
theorem mc_M_goes : Cond.code m_M_goes.1 m_M_goes.2.1 m_M_goes.2.2.1 m_M_goes.2.2.2.1 ∈ qT := (tm6 (j := 225) rfl rfl)
theorem mi_M_goes : Cond.instanceMethod m_M_goes.1 ∈ qT := (tm6 (j := 224) rfl rfl)
theorem mv_M_goes : Cond.selects m_M_goes.1.cls m_M_goes.1 m_M_goes.1 ∈ qT := tmp (q := (m_M_goes.1, 26)) (show (m_M_goes.1, 26) ∈ lw_privs from List.mem_append_right _ (List.mem_append_right _ (List.mem_append_right _ (List.mem_append_right _ (List.mem_append_left _ (List.mem_of_getElem? (i := 15) rfl))))))
theorem mc_M_enters3 : Cond.code m_M_enters3.1 m_M_enters3.2.1 m_M_enters3.2.2.1 m_M_enters3.2.2.2.1 ∈ qT := (tm6 (j := 229) rfl rfl)
theorem mi_M_enters3 : Cond.instanceMethod m_M_enters3.1 ∈ qT := (tm6 (j := 228) rfl rfl)
theorem mv_M_enters3 : Cond.selects m_M_enters3.1.cls m_M_enters3.1 m_M_enters3.1 ∈ qT := tmp (q := (m_M_enters3.1, 26)) (show (m_M_enters3.1, 26) ∈ lw_privs from List.mem_append_right _ (List.mem_append_right _ (List.mem_append_right _ (List.mem_append_right _ (List.mem_append_right _ (List.mem_append_left _ (List.mem_of_getElem? (i := 0) rfl)))))))
theorem mc_M_notes : Cond.code m_M_notes.1 m_M_notes.2.1 m_M_notes.2.2.1 m_M_notes.2.2.2.1 ∈ qT := (tm6 (j := 233) rfl rfl)
theorem mi_M_notes : Cond.instanceMethod m_M_notes.1 ∈ qT := (tm6 (j := 232) rfl rfl)
theorem mv_M_notes : Cond.selects m_M_notes.1.cls m_M_notes.1 m_M_notes.1 ∈ qT := tmp (q := (m_M_notes.1, 26)) (show (m_M_notes.1, 26) ∈ lw_privs from List.mem_append_right _ (List.mem_append_right _ (List.mem_append_right _ (List.mem_append_right _ (List.mem_append_right _ (List.mem_append_left _ (List.mem_of_getElem? (i := 1) rfl)))))))
theorem mc_M_hungers : Cond.code m_M_hungers.1 m_M_hungers.2.1 m_M_hungers.2.2.1 m_M_hungers.2.2.2.1 ∈ qT := (tm6 (j := 237) rfl rfl)
theorem mi_M_hungers : Cond.instanceMethod m_M_hungers.1 ∈ qT := (tm6 (j := 236) rfl rfl)
theorem mv_M_hungers : Cond.selects m_M_hungers.1.cls m_M_hungers.1 m_M_hungers.1 ∈ qT := tmp (q := (m_M_hungers.1, 26)) (show (m_M_hungers.1, 26) ∈ lw_privs from List.mem_append_right _ (List.mem_append_right _ (List.mem_append_right _ (List.mem_append_right _ (List.mem_append_right _ (List.mem_append_left _ (List.mem_of_getElem? (i := 2) rfl)))))))
theorem mc_M_isHungry : Cond.code m_M_isHungry.1 m_M_isHungry.2.1 m_M_isHungry.2.2.1 m_M_isHungry.2.2.2.1 ∈ qT := (tm7 (j := 1) rfl rfl)
theorem mi_M_isHungry : Cond.instanceMethod m_M_isHungry.1 ∈ qT := (tm7 (j := 0) rfl rfl)
theorem mv_M_isHungry : Cond.selects m_M_isHungry.1.cls m_M_isHungry.1 m_M_isHungry.1 ∈ qT := tmp (q := (m_M_isHungry.1, 26)) (show (m_M_isHungry.1, 26) ∈ lw_privs from List.mem_append_right _ (List.mem_append_right _ (List.mem_append_right _ (List.mem_append_right _ (List.mem_append_right _ (List.mem_append_left _ (List.mem_of_getElem? (i := 3) rfl)))))))
theorem mc_M_marks : Cond.code m_M_marks.1 m_M_marks.2.1 m_M_marks.2.2.1 m_M_marks.2.2.2.1 ∈ qT := (tm7 (j := 5) rfl rfl)
theorem mi_M_marks : Cond.instanceMethod m_M_marks.1 ∈ qT := (tm7 (j := 4) rfl rfl)
theorem mv_M_marks : Cond.selects m_M_marks.1.cls m_M_marks.1 m_M_marks.1 ∈ qT := tmp (q := (m_M_marks.1, 26)) (show (m_M_marks.1, 26) ∈ lw_privs from List.mem_append_right _ (List.mem_append_right _ (List.mem_append_right _ (List.mem_append_right _ (List.mem_append_right _ (List.mem_append_left _ (List.mem_of_getElem? (i := 4) rfl)))))))
theorem mc_M_hungriest : Cond.code m_M_hungriest.1 m_M_hungriest.2.1 m_M_hungriest.2.2.1 m_M_hungriest.2.2.2.1 ∈ qT := (tm7 (j := 9) rfl rfl)
theorem mi_M_hungriest : Cond.instanceMethod m_M_hungriest.1 ∈ qT := (tm7 (j := 8) rfl rfl)
theorem mv_M_hungriest : Cond.selects m_M_hungriest.1.cls m_M_hungriest.1 m_M_hungriest.1 ∈ qT := tmp (q := (m_M_hungriest.1, 26)) (show (m_M_hungriest.1, 26) ∈ lw_privs from List.mem_append_right _ (List.mem_append_right _ (List.mem_append_right _ (List.mem_append_right _ (List.mem_append_right _ (List.mem_append_left _ (List.mem_of_getElem? (i := 5) rfl)))))))
theorem mc_M_freeIn : Cond.code m_M_freeIn.1 m_M_freeIn.2.1 m_M_freeIn.2.2.1 m_M_freeIn.2.2.2.1 ∈ qT := (tm7 (j := 13) rfl rfl)
theorem mi_M_freeIn : Cond.instanceMethod m_M_freeIn.1 ∈ qT := (tm7 (j := 12) rfl rfl)
theorem mv_M_freeIn : Cond.selects m_M_freeIn.1.cls m_M_freeIn.1 m_M_freeIn.1 ∈ qT := tmp (q := (m_M_freeIn.1, 26)) (show (m_M_freeIn.1, 26) ∈ lw_privs from List.mem_append_right _ (List.mem_append_right _ (List.mem_append_right _ (List.mem_append_right _ (List.mem_append_right _ (List.mem_append_left _ (List.mem_of_getElem? (i := 6) rfl)))))))
theorem mc_M_packet : Cond.code m_M_packet.1 m_M_packet.2.1 m_M_packet.2.2.1 m_M_packet.2.2.2.1 ∈ qT := (tm7 (j := 17) rfl rfl)
theorem mi_M_packet : Cond.instanceMethod m_M_packet.1 ∈ qT := (tm7 (j := 15) rfl rfl)
theorem mv_M_packet : Cond.selects m_M_packet.1.cls m_M_packet.1 m_M_packet.1 ∈ qT := (tm7 (j := 16) rfl rfl)
theorem mc_M_isPacket : Cond.code m_M_isPacket.1 m_M_isPacket.2.1 m_M_isPacket.2.2.1 m_M_isPacket.2.2.2.1 ∈ qT := (tm7 (j := 21) rfl rfl)
theorem mi_M_isPacket : Cond.instanceMethod m_M_isPacket.1 ∈ qT := (tm7 (j := 20) rfl rfl)
theorem mv_M_isPacket : Cond.selects m_M_isPacket.1.cls m_M_isPacket.1 m_M_isPacket.1 ∈ qT := tmp (q := (m_M_isPacket.1, 26)) (show (m_M_isPacket.1, 26) ∈ lw_privs from List.mem_append_right _ (List.mem_append_right _ (List.mem_append_right _ (List.mem_append_right _ (List.mem_append_right _ (List.mem_append_left _ (List.mem_of_getElem? (i := 7) rfl)))))))
theorem mc_M_queue : Cond.code m_M_queue.1 m_M_queue.2.1 m_M_queue.2.2.1 m_M_queue.2.2.2.1 ∈ qT := (tm7 (j := 25) rfl rfl)
theorem mi_M_queue : Cond.instanceMethod m_M_queue.1 ∈ qT := (tm7 (j := 23) rfl rfl)
theorem mv_M_queue : Cond.selects m_M_queue.1.cls m_M_queue.1 m_M_queue.1 ∈ qT := (tm7 (j := 24) rfl rfl)
theorem mc_M_ring : Cond.code m_M_ring.1 m_M_ring.2.1 m_M_ring.2.2.1 m_M_ring.2.2.2.1 ∈ qT := (tm7 (j := 29) rfl rfl)
theorem mi_M_ring : Cond.instanceMethod m_M_ring.1 ∈ qT := (tm7 (j := 27) rfl rfl)
theorem mv_M_ring : Cond.selects m_M_ring.1.cls m_M_ring.1 m_M_ring.1 ∈ qT := (tm7 (j := 28) rfl rfl)
theorem mc_M_hunger : Cond.code m_M_hunger.1 m_M_hunger.2.1 m_M_hunger.2.2.1 m_M_hunger.2.2.2.1 ∈ qT := (tm7 (j := 33) rfl rfl)
theorem mi_M_hunger : Cond.instanceMethod m_M_hunger.1 ∈ qT := (tm7 (j := 31) rfl rfl)
theorem mv_M_hunger : Cond.selects m_M_hunger.1.cls m_M_hunger.1 m_M_hunger.1 ∈ qT := (tm7 (j := 32) rfl rfl)
theorem mc_M_node : Cond.code m_M_node.1 m_M_node.2.1 m_M_node.2.2.1 m_M_node.2.2.2.1 ∈ qT := (tm7 (j := 37) rfl rfl)
theorem mi_M_node : Cond.instanceMethod m_M_node.1 ∈ qT := (tm7 (j := 35) rfl rfl)
theorem mv_M_node : Cond.selects m_M_node.1.cls m_M_node.1 m_M_node.1 ∈ qT := (tm7 (j := 36) rfl rfl)
theorem mc_M_inQueues : Cond.code m_M_inQueues.1 m_M_inQueues.2.1 m_M_inQueues.2.2.1 m_M_inQueues.2.2.2.1 ∈ qT := (tm7 (j := 41) rfl rfl)
theorem mi_M_inQueues : Cond.instanceMethod m_M_inQueues.1 ∈ qT := (tm7 (j := 40) rfl rfl)
theorem mv_M_inQueues : Cond.selects m_M_inQueues.1.cls m_M_inQueues.1 m_M_inQueues.1 ∈ qT := tmp (q := (m_M_inQueues.1, 26)) (show (m_M_inQueues.1, 26) ∈ lw_privs from List.mem_append_right _ (List.mem_append_right _ (List.mem_append_right _ (List.mem_append_right _ (List.mem_append_right _ (List.mem_append_left _ (List.mem_of_getElem? (i := 8) rfl)))))))
theorem mc_M_packetsBy : Cond.code m_M_packetsBy.1 m_M_packetsBy.2.1 m_M_packetsBy.2.2.1 m_M_packetsBy.2.2.2.1 ∈ qT := (tm7 (j := 45) rfl rfl)
theorem mi_M_packetsBy : Cond.instanceMethod m_M_packetsBy.1 ∈ qT := (tm7 (j := 44) rfl rfl)
theorem mv_M_packetsBy : Cond.selects m_M_packetsBy.1.cls m_M_packetsBy.1 m_M_packetsBy.1 ∈ qT := tmp (q := (m_M_packetsBy.1, 26)) (show (m_M_packetsBy.1, 26) ∈ lw_privs from List.mem_append_right _ (List.mem_append_right _ (List.mem_append_right _ (List.mem_append_right _ (List.mem_append_right _ (List.mem_append_left _ (List.mem_of_getElem? (i := 9) rfl)))))))
theorem mc_M_longestInDoor : Cond.code m_M_longestInDoor.1 m_M_longestInDoor.2.1 m_M_longestInDoor.2.2.1 m_M_longestInDoor.2.2.2.1 ∈ qT := (tm7 (j := 49) rfl rfl)
theorem mi_M_longestInDoor : Cond.instanceMethod m_M_longestInDoor.1 ∈ qT := (tm7 (j := 48) rfl rfl)
theorem mv_M_longestInDoor : Cond.selects m_M_longestInDoor.1.cls m_M_longestInDoor.1 m_M_longestInDoor.1 ∈ qT := tmp (q := (m_M_longestInDoor.1, 26)) (show (m_M_longestInDoor.1, 26) ∈ lw_privs from List.mem_append_right _ (List.mem_append_right _ (List.mem_append_right _ (List.mem_append_right _ (List.mem_append_right _ (List.mem_append_left _ (List.mem_of_getElem? (i := 10) rfl)))))))
theorem mc_M_move : Cond.code m_M_move.1 m_M_move.2.1 m_M_move.2.2.1 m_M_move.2.2.2.1 ∈ qT := (tm7 (j := 53) rfl rfl)
theorem mi_M_move : Cond.instanceMethod m_M_move.1 ∈ qT := (tm7 (j := 51) rfl rfl)
theorem mv_M_move : Cond.selects m_M_move.1.cls m_M_move.1 m_M_move.1 ∈ qT := (tm7 (j := 52) rfl rfl)
theorem mc_M_link : Cond.code m_M_link.1 m_M_link.2.1 m_M_link.2.2.1 m_M_link.2.2.2.1 ∈ qT := (tm7 (j := 57) rfl rfl)
theorem mi_M_link : Cond.instanceMethod m_M_link.1 ∈ qT := (tm7 (j := 55) rfl rfl)
theorem mv_M_link : Cond.selects m_M_link.1.cls m_M_link.1 m_M_link.1 ∈ qT := (tm7 (j := 56) rfl rfl)
theorem mc_M_trace : Cond.code m_M_trace.1 m_M_trace.2.1 m_M_trace.2.2.1 m_M_trace.2.2.2.1 ∈ qT := (tm7 (j := 61) rfl rfl)
theorem mi_M_trace : Cond.instanceMethod m_M_trace.1 ∈ qT := (tm7 (j := 59) rfl rfl)
theorem mv_M_trace : Cond.selects m_M_trace.1.cls m_M_trace.1 m_M_trace.1 ∈ qT := (tm7 (j := 60) rfl rfl)
theorem mc_M_pair : Cond.code m_M_pair.1 m_M_pair.2.1 m_M_pair.2.2.1 m_M_pair.2.2.2.1 ∈ qT := (tm7 (j := 65) rfl rfl)
theorem mi_M_pair : Cond.instanceMethod m_M_pair.1 ∈ qT := (tm7 (j := 63) rfl rfl)
theorem mv_M_pair : Cond.selects m_M_pair.1.cls m_M_pair.1 m_M_pair.1 ∈ qT := (tm7 (j := 64) rfl rfl)
theorem mc_M_lateOf : Cond.code m_M_lateOf.1 m_M_lateOf.2.1 m_M_lateOf.2.2.1 m_M_lateOf.2.2.2.1 ∈ qT := (tm7 (j := 69) rfl rfl)
theorem mi_M_lateOf : Cond.instanceMethod m_M_lateOf.1 ∈ qT := (tm7 (j := 68) rfl rfl)
theorem mv_M_lateOf : Cond.selects m_M_lateOf.1.cls m_M_lateOf.1 m_M_lateOf.1 ∈ qT := tmp (q := (m_M_lateOf.1, 26)) (show (m_M_lateOf.1, 26) ∈ lw_privs from List.mem_append_right _ (List.mem_append_right _ (List.mem_append_right _ (List.mem_append_right _ (List.mem_append_right _ (List.mem_append_left _ (List.mem_of_getElem? (i := 11) rfl)))))))
theorem mc_M_late : Cond.code m_M_late.1 m_M_late.2.1 m_M_late.2.2.1 m_M_late.2.2.2.1 ∈ qT := (tm7 (j := 73) rfl rfl)
theorem mi_M_late : Cond.instanceMethod m_M_late.1 ∈ qT := (tm7 (j := 71) rfl rfl)
theorem mv_M_late : Cond.selects m_M_late.1.cls m_M_late.1 m_M_late.1 ∈ qT := (tm7 (j := 72) rfl rfl)
theorem mc_M_lates : Cond.code m_M_lates.1 m_M_lates.2.1 m_M_lates.2.2.1 m_M_lates.2.2.2.1 ∈ qT := (tm7 (j := 77) rfl rfl)
theorem mi_M_lates : Cond.instanceMethod m_M_lates.1 ∈ qT := (tm7 (j := 75) rfl rfl)
theorem mv_M_lates : Cond.selects m_M_lates.1.cls m_M_lates.1 m_M_lates.1 ∈ qT := (tm7 (j := 76) rfl rfl)
theorem mc_M_lateAbove : Cond.code m_M_lateAbove.1 m_M_lateAbove.2.1 m_M_lateAbove.2.2.1 m_M_lateAbove.2.2.2.1 ∈ qT := (tm7 (j := 81) rfl rfl)
theorem mi_M_lateAbove : Cond.instanceMethod m_M_lateAbove.1 ∈ qT := (tm7 (j := 80) rfl rfl)
theorem mv_M_lateAbove : Cond.selects m_M_lateAbove.1.cls m_M_lateAbove.1 m_M_lateAbove.1 ∈ qT := tmp (q := (m_M_lateAbove.1, 26)) (show (m_M_lateAbove.1, 26) ∈ lw_privs from List.mem_append_right _ (List.mem_append_right _ (List.mem_append_right _ (List.mem_append_right _ (List.mem_append_right _ (List.mem_append_left _ (List.mem_of_getElem? (i := 12) rfl)))))))
theorem mc_M_goesOn : Cond.code m_M_goesOn.1 m_M_goesOn.2.1 m_M_goesOn.2.2.1 m_M_goesOn.2.2.2.1 ∈ qT := (tm7 (j := 86) rfl rfl)
theorem mi_M_goesOn : Cond.instanceMethod m_M_goesOn.1 ∈ qT := (tm7 (j := 84) rfl rfl)
theorem mv_M_goesOn : Cond.selects m_M_goesOn.1.cls m_M_goesOn.1 m_M_goesOn.1 ∈ qT := (tm7 (j := 85) rfl rfl)
theorem mc_M_laysOn : Cond.code m_M_laysOn.1 m_M_laysOn.2.1 m_M_laysOn.2.2.1 m_M_laysOn.2.2.2.1 ∈ qT := (tm7 (j := 90) rfl rfl)
theorem mi_M_laysOn : Cond.instanceMethod m_M_laysOn.1 ∈ qT := (tm7 (j := 89) rfl rfl)
theorem mv_M_laysOn : Cond.selects m_M_laysOn.1.cls m_M_laysOn.1 m_M_laysOn.1 ∈ qT := tmp (q := (m_M_laysOn.1, 26)) (show (m_M_laysOn.1, 26) ∈ lw_privs from List.mem_append_right _ (List.mem_append_right _ (List.mem_append_right _ (List.mem_append_right _ (List.mem_append_right _ (List.mem_append_left _ (List.mem_of_getElem? (i := 13) rfl)))))))
theorem mc_M_slot : Cond.code m_M_slot.1 m_M_slot.2.1 m_M_slot.2.2.1 m_M_slot.2.2.2.1 ∈ qT := (tm7 (j := 93) rfl rfl)
theorem ms_M_slot : Cond.static m_M_slot.1 ∈ qT := (tm7 (j := 92) rfl rfl)
theorem mc_M_canNow : Cond.code m_M_canNow.1 m_M_canNow.2.1 m_M_canNow.2.2.1 m_M_canNow.2.2.2.1 ∈ qT := (tm7 (j := 97) rfl rfl)
theorem mi_M_canNow : Cond.instanceMethod m_M_canNow.1 ∈ qT := (tm7 (j := 96) rfl rfl)
theorem mv_M_canNow : Cond.selects m_M_canNow.1.cls m_M_canNow.1 m_M_canNow.1 ∈ qT := tmp (q := (m_M_canNow.1, 26)) (show (m_M_canNow.1, 26) ∈ lw_privs from List.mem_append_right _ (List.mem_append_right _ (List.mem_append_right _ (List.mem_append_right _ (List.mem_append_right _ (List.mem_append_left _ (List.mem_of_getElem? (i := 14) rfl)))))))
theorem mc_M_canThen : Cond.code m_M_canThen.1 m_M_canThen.2.1 m_M_canThen.2.2.1 m_M_canThen.2.2.2.1 ∈ qT := (tm7 (j := 101) rfl rfl)
theorem mi_M_canThen : Cond.instanceMethod m_M_canThen.1 ∈ qT := (tm7 (j := 100) rfl rfl)
theorem mv_M_canThen : Cond.selects m_M_canThen.1.cls m_M_canThen.1 m_M_canThen.1 ∈ qT := tmp (q := (m_M_canThen.1, 26)) (show (m_M_canThen.1, 26) ∈ lw_privs from List.mem_append_right _ (List.mem_append_right _ (List.mem_append_right _ (List.mem_append_right _ (List.mem_append_right _ (List.mem_append_left _ (List.mem_of_getElem? (i := 15) rfl)))))))
theorem mc_M_someOfRing : Cond.code m_M_someOfRing.1 m_M_someOfRing.2.1 m_M_someOfRing.2.2.1 m_M_someOfRing.2.2.2.1 ∈ qT := (tm7 (j := 105) rfl rfl)
theorem mi_M_someOfRing : Cond.instanceMethod m_M_someOfRing.1 ∈ qT := (tm7 (j := 104) rfl rfl)
theorem mv_M_someOfRing : Cond.selects m_M_someOfRing.1.cls m_M_someOfRing.1 m_M_someOfRing.1 ∈ qT := tmp (q := (m_M_someOfRing.1, 26)) (show (m_M_someOfRing.1, 26) ∈ lw_privs from List.mem_append_right _ (List.mem_append_right _ (List.mem_append_right _ (List.mem_append_right _ (List.mem_append_right _ (List.mem_append_right _ (List.mem_append_left _ (List.mem_of_getElem? (i := 0) rfl))))))))
theorem mc_M_stuck : Cond.code m_M_stuck.1 m_M_stuck.2.1 m_M_stuck.2.2.1 m_M_stuck.2.2.2.1 ∈ qT := (tm7 (j := 109) rfl rfl)
theorem mi_M_stuck : Cond.instanceMethod m_M_stuck.1 ∈ qT := (tm7 (j := 107) rfl rfl)
theorem mv_M_stuck : Cond.selects m_M_stuck.1.cls m_M_stuck.1 m_M_stuck.1 ∈ qT := (tm7 (j := 108) rfl rfl)
theorem mc_M_dead : Cond.code m_M_dead.1 m_M_dead.2.1 m_M_dead.2.2.1 m_M_dead.2.2.2.1 ∈ qT := (tm7 (j := 113) rfl rfl)
theorem mi_M_dead : Cond.instanceMethod m_M_dead.1 ∈ qT := (tm7 (j := 111) rfl rfl)
theorem mv_M_dead : Cond.selects m_M_dead.1.cls m_M_dead.1 m_M_dead.1 ∈ qT := (tm7 (j := 112) rfl rfl)
theorem mc_M_through : Cond.code m_M_through.1 m_M_through.2.1 m_M_through.2.2.1 m_M_through.2.2.2.1 ∈ qT := (tm7 (j := 118) rfl rfl)
theorem mi_M_through : Cond.instanceMethod m_M_through.1 ∈ qT := (tm7 (j := 116) rfl rfl)
theorem mv_M_through : Cond.selects m_M_through.1.cls m_M_through.1 m_M_through.1 ∈ qT := (tm7 (j := 117) rfl rfl)
theorem mc_M_laysAside : Cond.code m_M_laysAside.1 m_M_laysAside.2.1 m_M_laysAside.2.2.1 m_M_laysAside.2.2.2.1 ∈ qT := (tm7 (j := 122) rfl rfl)
theorem mi_M_laysAside : Cond.instanceMethod m_M_laysAside.1 ∈ qT := (tm7 (j := 121) rfl rfl)
theorem mv_M_laysAside : Cond.selects m_M_laysAside.1.cls m_M_laysAside.1 m_M_laysAside.1 ∈ qT := tmp (q := (m_M_laysAside.1, 26)) (show (m_M_laysAside.1, 26) ∈ lw_privs from List.mem_append_right _ (List.mem_append_right _ (List.mem_append_right _ (List.mem_append_right _ (List.mem_append_right _ (List.mem_append_right _ (List.mem_append_left _ (List.mem_of_getElem? (i := 1) rfl))))))))
theorem mc_M_comesBack : Cond.code m_M_comesBack.1 m_M_comesBack.2.1 m_M_comesBack.2.2.1 m_M_comesBack.2.2.2.1 ∈ qT := (tm7 (j := 126) rfl rfl)
theorem mi_M_comesBack : Cond.instanceMethod m_M_comesBack.1 ∈ qT := (tm7 (j := 125) rfl rfl)
theorem mv_M_comesBack : Cond.selects m_M_comesBack.1.cls m_M_comesBack.1 m_M_comesBack.1 ∈ qT := tmp (q := (m_M_comesBack.1, 26)) (show (m_M_comesBack.1, 26) ∈ lw_privs from List.mem_append_right _ (List.mem_append_right _ (List.mem_append_right _ (List.mem_append_right _ (List.mem_append_right _ (List.mem_append_right _ (List.mem_append_left _ (List.mem_of_getElem? (i := 2) rfl))))))))
theorem mc_M_arrives : Cond.code m_M_arrives.1 m_M_arrives.2.1 m_M_arrives.2.2.1 m_M_arrives.2.2.2.1 ∈ qT := (tm7 (j := 130) rfl rfl)
theorem mi_M_arrives : Cond.instanceMethod m_M_arrives.1 ∈ qT := (tm7 (j := 128) rfl rfl)
theorem mv_M_arrives : Cond.selects m_M_arrives.1.cls m_M_arrives.1 m_M_arrives.1 ∈ qT := (tm7 (j := 129) rfl rfl)
theorem mc_M_enters : Cond.code m_M_enters.1 m_M_enters.2.1 m_M_enters.2.2.1 m_M_enters.2.2.2.1 ∈ qT := (tm7 (j := 134) rfl rfl)
theorem mi_M_enters : Cond.instanceMethod m_M_enters.1 ∈ qT := (tm7 (j := 132) rfl rfl)
theorem mv_M_enters : Cond.selects m_M_enters.1.cls m_M_enters.1 m_M_enters.1 ∈ qT := (tm7 (j := 133) rfl rfl)
theorem mc_M_schedules : Cond.code m_M_schedules.1 m_M_schedules.2.1 m_M_schedules.2.2.1 m_M_schedules.2.2.2.1 ∈ qT := (tm7 (j := 138) rfl rfl)
theorem mi_M_schedules : Cond.instanceMethod m_M_schedules.1 ∈ qT := (tm7 (j := 136) rfl rfl)
theorem mv_M_schedules : Cond.selects m_M_schedules.1.cls m_M_schedules.1 m_M_schedules.1 ∈ qT := (tm7 (j := 137) rfl rfl)
theorem mc_M_laysLive : Cond.code m_M_laysLive.1 m_M_laysLive.2.1 m_M_laysLive.2.2.1 m_M_laysLive.2.2.2.1 ∈ qT := (tm7 (j := 142) rfl rfl)
theorem mi_M_laysLive : Cond.instanceMethod m_M_laysLive.1 ∈ qT := (tm7 (j := 141) rfl rfl)
theorem mv_M_laysLive : Cond.selects m_M_laysLive.1.cls m_M_laysLive.1 m_M_laysLive.1 ∈ qT := tmp (q := (m_M_laysLive.1, 26)) (show (m_M_laysLive.1, 26) ∈ lw_privs from List.mem_append_right _ (List.mem_append_right _ (List.mem_append_right _ (List.mem_append_right _ (List.mem_append_right _ (List.mem_append_right _ (List.mem_append_left _ (List.mem_of_getElem? (i := 3) rfl))))))))
theorem mc_M_laysSchedules : Cond.code m_M_laysSchedules.1 m_M_laysSchedules.2.1 m_M_laysSchedules.2.2.1 m_M_laysSchedules.2.2.2.1 ∈ qT := (tm7 (j := 146) rfl rfl)
theorem mi_M_laysSchedules : Cond.instanceMethod m_M_laysSchedules.1 ∈ qT := (tm7 (j := 145) rfl rfl)
theorem mv_M_laysSchedules : Cond.selects m_M_laysSchedules.1.cls m_M_laysSchedules.1 m_M_laysSchedules.1 ∈ qT := tmp (q := (m_M_laysSchedules.1, 26)) (show (m_M_laysSchedules.1, 26) ∈ lw_privs from List.mem_append_right _ (List.mem_append_right _ (List.mem_append_right _ (List.mem_append_right _ (List.mem_append_right _ (List.mem_append_right _ (List.mem_append_left _ (List.mem_of_getElem? (i := 4) rfl))))))))
theorem mc_M_meetsState : Cond.code m_M_meetsState.1 m_M_meetsState.2.1 m_M_meetsState.2.2.1 m_M_meetsState.2.2.2.1 ∈ qT := (tm7 (j := 150) rfl rfl)
theorem mi_M_meetsState : Cond.instanceMethod m_M_meetsState.1 ∈ qT := (tm7 (j := 149) rfl rfl)
theorem mv_M_meetsState : Cond.selects m_M_meetsState.1.cls m_M_meetsState.1 m_M_meetsState.1 ∈ qT := tmp (q := (m_M_meetsState.1, 26)) (show (m_M_meetsState.1, 26) ∈ lw_privs from List.mem_append_right _ (List.mem_append_right _ (List.mem_append_right _ (List.mem_append_right _ (List.mem_append_right _ (List.mem_append_right _ (List.mem_append_left _ (List.mem_of_getElem? (i := 5) rfl))))))))
theorem mc_M_placeIn : Cond.code m_M_placeIn.1 m_M_placeIn.2.1 m_M_placeIn.2.2.1 m_M_placeIn.2.2.2.1 ∈ qT := (tm7 (j := 154) rfl rfl)
theorem mi_M_placeIn : Cond.instanceMethod m_M_placeIn.1 ∈ qT := (tm7 (j := 153) rfl rfl)
theorem mv_M_placeIn : Cond.selects m_M_placeIn.1.cls m_M_placeIn.1 m_M_placeIn.1 ∈ qT := tmp (q := (m_M_placeIn.1, 26)) (show (m_M_placeIn.1, 26) ∈ lw_privs from List.mem_append_right _ (List.mem_append_right _ (List.mem_append_right _ (List.mem_append_right _ (List.mem_append_right _ (List.mem_append_right _ (List.mem_append_left _ (List.mem_of_getElem? (i := 6) rfl))))))))
theorem mc_M_opensState : Cond.code m_M_opensState.1 m_M_opensState.2.1 m_M_opensState.2.2.1 m_M_opensState.2.2.2.1 ∈ qT := (tm7 (j := 158) rfl rfl)
theorem mi_M_opensState : Cond.instanceMethod m_M_opensState.1 ∈ qT := (tm7 (j := 157) rfl rfl)
theorem mv_M_opensState : Cond.selects m_M_opensState.1.cls m_M_opensState.1 m_M_opensState.1 ∈ qT := tmp (q := (m_M_opensState.1, 26)) (show (m_M_opensState.1, 26) ∈ lw_privs from List.mem_append_right _ (List.mem_append_right _ (List.mem_append_right _ (List.mem_append_right _ (List.mem_append_right _ (List.mem_append_right _ (List.mem_append_left _ (List.mem_of_getElem? (i := 7) rfl))))))))
theorem mc_M_inLane : Cond.code m_M_inLane.1 m_M_inLane.2.1 m_M_inLane.2.2.1 m_M_inLane.2.2.2.1 ∈ qT := (tm7 (j := 162) rfl rfl)
theorem mi_M_inLane : Cond.instanceMethod m_M_inLane.1 ∈ qT := (tm7 (j := 161) rfl rfl)
theorem mv_M_inLane : Cond.selects m_M_inLane.1.cls m_M_inLane.1 m_M_inLane.1 ∈ qT := tmp (q := (m_M_inLane.1, 26)) (show (m_M_inLane.1, 26) ∈ lw_privs from List.mem_append_right _ (List.mem_append_right _ (List.mem_append_right _ (List.mem_append_right _ (List.mem_append_right _ (List.mem_append_right _ (List.mem_append_left _ (List.mem_of_getElem? (i := 8) rfl))))))))
theorem mc_M_fewestFree : Cond.code m_M_fewestFree.1 m_M_fewestFree.2.1 m_M_fewestFree.2.2.1 m_M_fewestFree.2.2.2.1 ∈ qT := (tm7 (j := 166) rfl rfl)
theorem mi_M_fewestFree : Cond.instanceMethod m_M_fewestFree.1 ∈ qT := (tm7 (j := 165) rfl rfl)
theorem mv_M_fewestFree : Cond.selects m_M_fewestFree.1.cls m_M_fewestFree.1 m_M_fewestFree.1 ∈ qT := tmp (q := (m_M_fewestFree.1, 26)) (show (m_M_fewestFree.1, 26) ∈ lw_privs from List.mem_append_right _ (List.mem_append_right _ (List.mem_append_right _ (List.mem_append_right _ (List.mem_append_right _ (List.mem_append_right _ (List.mem_append_left _ (List.mem_of_getElem? (i := 9) rfl))))))))
theorem mc_M_goesAll : Cond.code m_M_goesAll.1 m_M_goesAll.2.1 m_M_goesAll.2.2.1 m_M_goesAll.2.2.2.1 ∈ qT := (tm7 (j := 170) rfl rfl)
theorem mi_M_goesAll : Cond.instanceMethod m_M_goesAll.1 ∈ qT := (tm7 (j := 169) rfl rfl)
theorem mv_M_goesAll : Cond.selects m_M_goesAll.1.cls m_M_goesAll.1 m_M_goesAll.1 ∈ qT := tmp (q := (m_M_goesAll.1, 26)) (show (m_M_goesAll.1, 26) ∈ lw_privs from List.mem_append_right _ (List.mem_append_right _ (List.mem_append_right _ (List.mem_append_right _ (List.mem_append_right _ (List.mem_append_right _ (List.mem_append_left _ (List.mem_of_getElem? (i := 10) rfl))))))))
theorem mc_M_comesFrom : Cond.code m_M_comesFrom.1 m_M_comesFrom.2.1 m_M_comesFrom.2.2.1 m_M_comesFrom.2.2.2.1 ∈ qT := (tm7 (j := 174) rfl rfl)
theorem mi_M_comesFrom : Cond.instanceMethod m_M_comesFrom.1 ∈ qT := (tm7 (j := 173) rfl rfl)
theorem mv_M_comesFrom : Cond.selects m_M_comesFrom.1.cls m_M_comesFrom.1 m_M_comesFrom.1 ∈ qT := tmp (q := (m_M_comesFrom.1, 26)) (show (m_M_comesFrom.1, 26) ∈ lw_privs from List.mem_append_right _ (List.mem_append_right _ (List.mem_append_right _ (List.mem_append_right _ (List.mem_append_right _ (List.mem_append_right _ (List.mem_append_left _ (List.mem_of_getElem? (i := 11) rfl))))))))
theorem mc_M_stepsTo : Cond.code m_M_stepsTo.1 m_M_stepsTo.2.1 m_M_stepsTo.2.2.1 m_M_stepsTo.2.2.2.1 ∈ qT := (tm7 (j := 179) rfl rfl)
theorem mi_M_stepsTo : Cond.instanceMethod m_M_stepsTo.1 ∈ qT := (tm7 (j := 178) rfl rfl)
theorem mv_M_stepsTo : Cond.selects m_M_stepsTo.1.cls m_M_stepsTo.1 m_M_stepsTo.1 ∈ qT := tmp (q := (m_M_stepsTo.1, 26)) (show (m_M_stepsTo.1, 26) ∈ lw_privs from List.mem_append_right _ (List.mem_append_right _ (List.mem_append_right _ (List.mem_append_right _ (List.mem_append_right _ (List.mem_append_right _ (List.mem_append_left _ (List.mem_of_getElem? (i := 12) rfl))))))))
theorem mc_M_alone : Cond.code m_M_alone.1 m_M_alone.2.1 m_M_alone.2.2.1 m_M_alone.2.2.2.1 ∈ qT := (tm7 (j := 183) rfl rfl)
theorem mi_M_alone : Cond.instanceMethod m_M_alone.1 ∈ qT := (tm7 (j := 181) rfl rfl)
theorem mv_M_alone : Cond.selects m_M_alone.1.cls m_M_alone.1 m_M_alone.1 ∈ qT := (tm7 (j := 182) rfl rfl)
theorem mc_M_firstKind : Cond.code m_M_firstKind.1 m_M_firstKind.2.1 m_M_firstKind.2.2.1 m_M_firstKind.2.2.2.1 ∈ qT := (tm7 (j := 187) rfl rfl)
theorem mi_M_firstKind : Cond.instanceMethod m_M_firstKind.1 ∈ qT := (tm7 (j := 186) rfl rfl)
theorem mv_M_firstKind : Cond.selects m_M_firstKind.1.cls m_M_firstKind.1 m_M_firstKind.1 ∈ qT := tmp (q := (m_M_firstKind.1, 26)) (show (m_M_firstKind.1, 26) ∈ lw_privs from List.mem_append_right _ (List.mem_append_right _ (List.mem_append_right _ (List.mem_append_right _ (List.mem_append_right _ (List.mem_append_right _ (List.mem_append_left _ (List.mem_of_getElem? (i := 13) rfl))))))))
theorem mc_M_searches : Cond.code m_M_searches.1 m_M_searches.2.1 m_M_searches.2.2.1 m_M_searches.2.2.2.1 ∈ qT := (tm7 (j := 191) rfl rfl)
theorem mi_M_searches : Cond.instanceMethod m_M_searches.1 ∈ qT := (tm7 (j := 190) rfl rfl)
theorem mv_M_searches : Cond.selects m_M_searches.1.cls m_M_searches.1 m_M_searches.1 ∈ qT := tmp (q := (m_M_searches.1, 26)) (show (m_M_searches.1, 26) ∈ lw_privs from List.mem_append_right _ (List.mem_append_right _ (List.mem_append_right _ (List.mem_append_right _ (List.mem_append_right _ (List.mem_append_right _ (List.mem_append_left _ (List.mem_of_getElem? (i := 14) rfl))))))))
theorem mc_M_finds : Cond.code m_M_finds.1 m_M_finds.2.1 m_M_finds.2.2.1 m_M_finds.2.2.2.1 ∈ qT := (tm7 (j := 195) rfl rfl)
theorem mi_M_finds : Cond.instanceMethod m_M_finds.1 ∈ qT := (tm7 (j := 194) rfl rfl)
theorem mv_M_finds : Cond.selects m_M_finds.1.cls m_M_finds.1 m_M_finds.1 ∈ qT := tmp (q := (m_M_finds.1, 26)) (show (m_M_finds.1, 26) ∈ lw_privs from List.mem_append_right _ (List.mem_append_right _ (List.mem_append_right _ (List.mem_append_right _ (List.mem_append_right _ (List.mem_append_right _ (List.mem_append_left _ (List.mem_of_getElem? (i := 15) rfl))))))))
theorem mc_M_laysAfter : Cond.code m_M_laysAfter.1 m_M_laysAfter.2.1 m_M_laysAfter.2.2.1 m_M_laysAfter.2.2.2.1 ∈ qT := (tm7 (j := 199) rfl rfl)
theorem mi_M_laysAfter : Cond.instanceMethod m_M_laysAfter.1 ∈ qT := (tm7 (j := 198) rfl rfl)
theorem mv_M_laysAfter : Cond.selects m_M_laysAfter.1.cls m_M_laysAfter.1 m_M_laysAfter.1 ∈ qT := tmp (q := (m_M_laysAfter.1, 26)) (show (m_M_laysAfter.1, 26) ∈ lw_privs from List.mem_append_right _ (List.mem_append_right _ (List.mem_append_right _ (List.mem_append_right _ (List.mem_append_right _ (List.mem_append_right _ (List.mem_append_right _ (List.mem_append_left _ (List.mem_of_getElem? (i := 0) rfl)))))))))
theorem mc_M_opens : Cond.code m_M_opens.1 m_M_opens.2.1 m_M_opens.2.2.1 m_M_opens.2.2.2.1 ∈ qT := (tm7 (j := 203) rfl rfl)
theorem mi_M_opens : Cond.instanceMethod m_M_opens.1 ∈ qT := (tm7 (j := 202) rfl rfl)
theorem mv_M_opens : Cond.selects m_M_opens.1.cls m_M_opens.1 m_M_opens.1 ∈ qT := tmp (q := (m_M_opens.1, 26)) (show (m_M_opens.1, 26) ∈ lw_privs from List.mem_append_right _ (List.mem_append_right _ (List.mem_append_right _ (List.mem_append_right _ (List.mem_append_right _ (List.mem_append_right _ (List.mem_append_right _ (List.mem_append_left _ (List.mem_of_getElem? (i := 1) rfl)))))))))
theorem mc_M_goalOf : Cond.code m_M_goalOf.1 m_M_goalOf.2.1 m_M_goalOf.2.2.1 m_M_goalOf.2.2.2.1 ∈ qT := (tm7 (j := 207) rfl rfl)
theorem mi_M_goalOf : Cond.instanceMethod m_M_goalOf.1 ∈ qT := (tm7 (j := 206) rfl rfl)
theorem mv_M_goalOf : Cond.selects m_M_goalOf.1.cls m_M_goalOf.1 m_M_goalOf.1 ∈ qT := tmp (q := (m_M_goalOf.1, 26)) (show (m_M_goalOf.1, 26) ∈ lw_privs from List.mem_append_right _ (List.mem_append_right _ (List.mem_append_right _ (List.mem_append_right _ (List.mem_append_right _ (List.mem_append_right _ (List.mem_append_right _ (List.mem_append_left _ (List.mem_of_getElem? (i := 2) rfl)))))))))
theorem mc_M_longQueue : Cond.code m_M_longQueue.1 m_M_longQueue.2.1 m_M_longQueue.2.2.1 m_M_longQueue.2.2.2.1 ∈ qT := (tm7 (j := 211) rfl rfl)
theorem mi_M_longQueue : Cond.instanceMethod m_M_longQueue.1 ∈ qT := (tm7 (j := 210) rfl rfl)
theorem mv_M_longQueue : Cond.selects m_M_longQueue.1.cls m_M_longQueue.1 m_M_longQueue.1 ∈ qT := tmp (q := (m_M_longQueue.1, 26)) (show (m_M_longQueue.1, 26) ∈ lw_privs from List.mem_append_right _ (List.mem_append_right _ (List.mem_append_right _ (List.mem_append_right _ (List.mem_append_right _ (List.mem_append_right _ (List.mem_append_right _ (List.mem_append_left _ (List.mem_of_getElem? (i := 3) rfl)))))))))
theorem mc_M_power : Cond.code m_M_power.1 m_M_power.2.1 m_M_power.2.2.1 m_M_power.2.2.2.1 ∈ qT := (tm7 (j := 215) rfl rfl)
theorem mi_M_power : Cond.instanceMethod m_M_power.1 ∈ qT := (tm7 (j := 214) rfl rfl)
theorem mv_M_power : Cond.selects m_M_power.1.cls m_M_power.1 m_M_power.1 ∈ qT := tmp (q := (m_M_power.1, 26)) (show (m_M_power.1, 26) ∈ lw_privs from List.mem_append_right _ (List.mem_append_right _ (List.mem_append_right _ (List.mem_append_right _ (List.mem_append_right _ (List.mem_append_right _ (List.mem_append_right _ (List.mem_append_left _ (List.mem_of_getElem? (i := 4) rfl)))))))))
theorem mc_M_freeAt : Cond.code m_M_freeAt.1 m_M_freeAt.2.1 m_M_freeAt.2.2.1 m_M_freeAt.2.2.2.1 ∈ qT := (tm7 (j := 219) rfl rfl)
theorem mi_M_freeAt : Cond.instanceMethod m_M_freeAt.1 ∈ qT := (tm7 (j := 218) rfl rfl)
theorem mv_M_freeAt : Cond.selects m_M_freeAt.1.cls m_M_freeAt.1 m_M_freeAt.1 ∈ qT := tmp (q := (m_M_freeAt.1, 26)) (show (m_M_freeAt.1, 26) ∈ lw_privs from List.mem_append_right _ (List.mem_append_right _ (List.mem_append_right _ (List.mem_append_right _ (List.mem_append_right _ (List.mem_append_right _ (List.mem_append_right _ (List.mem_append_left _ (List.mem_of_getElem? (i := 5) rfl)))))))))
theorem mc_M_without : Cond.code m_M_without.1 m_M_without.2.1 m_M_without.2.2.1 m_M_without.2.2.2.1 ∈ qT := (tm7 (j := 223) rfl rfl)
theorem mi_M_without : Cond.instanceMethod m_M_without.1 ∈ qT := (tm7 (j := 222) rfl rfl)
theorem mv_M_without : Cond.selects m_M_without.1.cls m_M_without.1 m_M_without.1 ∈ qT := tmp (q := (m_M_without.1, 26)) (show (m_M_without.1, 26) ∈ lw_privs from List.mem_append_right _ (List.mem_append_right _ (List.mem_append_right _ (List.mem_append_right _ (List.mem_append_right _ (List.mem_append_right _ (List.mem_append_right _ (List.mem_append_left _ (List.mem_of_getElem? (i := 6) rfl)))))))))
theorem mc_M_withOne : Cond.code m_M_withOne.1 m_M_withOne.2.1 m_M_withOne.2.2.1 m_M_withOne.2.2.2.1 ∈ qT := (tm7 (j := 227) rfl rfl)
theorem mi_M_withOne : Cond.instanceMethod m_M_withOne.1 ∈ qT := (tm7 (j := 226) rfl rfl)
theorem mv_M_withOne : Cond.selects m_M_withOne.1.cls m_M_withOne.1 m_M_withOne.1 ∈ qT := tmp (q := (m_M_withOne.1, 26)) (show (m_M_withOne.1, 26) ∈ lw_privs from List.mem_append_right _ (List.mem_append_right _ (List.mem_append_right _ (List.mem_append_right _ (List.mem_append_right _ (List.mem_append_right _ (List.mem_append_right _ (List.mem_append_left _ (List.mem_of_getElem? (i := 7) rfl)))))))))
theorem mc_M_number : Cond.code m_M_number.1 m_M_number.2.1 m_M_number.2.2.1 m_M_number.2.2.2.1 ∈ qT := (tm7 (j := 231) rfl rfl)
theorem mi_M_number : Cond.instanceMethod m_M_number.1 ∈ qT := (tm7 (j := 230) rfl rfl)
theorem mv_M_number : Cond.selects m_M_number.1.cls m_M_number.1 m_M_number.1 ∈ qT := tmp (q := (m_M_number.1, 26)) (show (m_M_number.1, 26) ∈ lw_privs from List.mem_append_right _ (List.mem_append_right _ (List.mem_append_right _ (List.mem_append_right _ (List.mem_append_right _ (List.mem_append_right _ (List.mem_append_right _ (List.mem_append_left _ (List.mem_of_getElem? (i := 8) rfl)))))))))
theorem mc_M_mayEnter : Cond.code m_M_mayEnter.1 m_M_mayEnter.2.1 m_M_mayEnter.2.2.1 m_M_mayEnter.2.2.2.1 ∈ qT := (tm7 (j := 235) rfl rfl)
theorem mi_M_mayEnter : Cond.instanceMethod m_M_mayEnter.1 ∈ qT := (tm7 (j := 234) rfl rfl)
theorem mv_M_mayEnter : Cond.selects m_M_mayEnter.1.cls m_M_mayEnter.1 m_M_mayEnter.1 ∈ qT := tmp (q := (m_M_mayEnter.1, 26)) (show (m_M_mayEnter.1, 26) ∈ lw_privs from List.mem_append_right _ (List.mem_append_right _ (List.mem_append_right _ (List.mem_append_right _ (List.mem_append_right _ (List.mem_append_right _ (List.mem_append_right _ (List.mem_append_left _ (List.mem_of_getElem? (i := 9) rfl)))))))))
theorem mc_M_soonestDead : Cond.code m_M_soonestDead.1 m_M_soonestDead.2.1 m_M_soonestDead.2.2.1 m_M_soonestDead.2.2.2.1 ∈ qT := (tm7 (j := 239) rfl rfl)
theorem mi_M_soonestDead : Cond.instanceMethod m_M_soonestDead.1 ∈ qT := (tm7 (j := 238) rfl rfl)
theorem mv_M_soonestDead : Cond.selects m_M_soonestDead.1.cls m_M_soonestDead.1 m_M_soonestDead.1 ∈ qT := tmp (q := (m_M_soonestDead.1, 26)) (show (m_M_soonestDead.1, 26) ∈ lw_privs from List.mem_append_right _ (List.mem_append_right _ (List.mem_append_right _ (List.mem_append_right _ (List.mem_append_right _ (List.mem_append_right _ (List.mem_append_right _ (List.mem_append_left _ (List.mem_of_getElem? (i := 10) rfl)))))))))
theorem mc_M_isDeadState : Cond.code m_M_isDeadState.1 m_M_isDeadState.2.1 m_M_isDeadState.2.2.1 m_M_isDeadState.2.2.2.1 ∈ qT := (tm8 (j := 3) rfl rfl)
theorem mi_M_isDeadState : Cond.instanceMethod m_M_isDeadState.1 ∈ qT := (tm8 (j := 2) rfl rfl)
theorem mv_M_isDeadState : Cond.selects m_M_isDeadState.1.cls m_M_isDeadState.1 m_M_isDeadState.1 ∈ qT := tmp (q := (m_M_isDeadState.1, 26)) (show (m_M_isDeadState.1, 26) ∈ lw_privs from List.mem_append_right _ (List.mem_append_right _ (List.mem_append_right _ (List.mem_append_right _ (List.mem_append_right _ (List.mem_append_right _ (List.mem_append_right _ (List.mem_append_left _ (List.mem_of_getElem? (i := 11) rfl)))))))))
theorem mc_M_packetsIn : Cond.code m_M_packetsIn.1 m_M_packetsIn.2.1 m_M_packetsIn.2.2.1 m_M_packetsIn.2.2.2.1 ∈ qT := (tm8 (j := 7) rfl rfl)
theorem mi_M_packetsIn : Cond.instanceMethod m_M_packetsIn.1 ∈ qT := (tm8 (j := 6) rfl rfl)
theorem mv_M_packetsIn : Cond.selects m_M_packetsIn.1.cls m_M_packetsIn.1 m_M_packetsIn.1 ∈ qT := tmp (q := (m_M_packetsIn.1, 26)) (show (m_M_packetsIn.1, 26) ∈ lw_privs from List.mem_append_right _ (List.mem_append_right _ (List.mem_append_right _ (List.mem_append_right _ (List.mem_append_right _ (List.mem_append_right _ (List.mem_append_right _ (List.mem_append_left _ (List.mem_of_getElem? (i := 12) rfl)))))))))
theorem mc_M_isStarving : Cond.code m_M_isStarving.1 m_M_isStarving.2.1 m_M_isStarving.2.2.1 m_M_isStarving.2.2.2.1 ∈ qT := (tm8 (j := 11) rfl rfl)
theorem mi_M_isStarving : Cond.instanceMethod m_M_isStarving.1 ∈ qT := (tm8 (j := 10) rfl rfl)
theorem mv_M_isStarving : Cond.selects m_M_isStarving.1.cls m_M_isStarving.1 m_M_isStarving.1 ∈ qT := tmp (q := (m_M_isStarving.1, 26)) (show (m_M_isStarving.1, 26) ∈ lw_privs from List.mem_append_right _ (List.mem_append_right _ (List.mem_append_right _ (List.mem_append_right _ (List.mem_append_right _ (List.mem_append_right _ (List.mem_append_right _ (List.mem_append_left _ (List.mem_of_getElem? (i := 13) rfl)))))))))
theorem mc_M_leadsOn : Cond.code m_M_leadsOn.1 m_M_leadsOn.2.1 m_M_leadsOn.2.2.1 m_M_leadsOn.2.2.2.1 ∈ qT := (tm8 (j := 15) rfl rfl)
theorem mi_M_leadsOn : Cond.instanceMethod m_M_leadsOn.1 ∈ qT := (tm8 (j := 14) rfl rfl)
theorem mv_M_leadsOn : Cond.selects m_M_leadsOn.1.cls m_M_leadsOn.1 m_M_leadsOn.1 ∈ qT := tmp (q := (m_M_leadsOn.1, 26)) (show (m_M_leadsOn.1, 26) ∈ lw_privs from List.mem_append_right _ (List.mem_append_right _ (List.mem_append_right _ (List.mem_append_right _ (List.mem_append_right _ (List.mem_append_right _ (List.mem_append_right _ (List.mem_append_left _ (List.mem_of_getElem? (i := 14) rfl)))))))))
theorem mc_M_longestWait : Cond.code m_M_longestWait.1 m_M_longestWait.2.1 m_M_longestWait.2.2.1 m_M_longestWait.2.2.2.1 ∈ qT := (tm8 (j := 19) rfl rfl)
theorem mi_M_longestWait : Cond.instanceMethod m_M_longestWait.1 ∈ qT := (tm8 (j := 18) rfl rfl)
theorem mv_M_longestWait : Cond.selects m_M_longestWait.1.cls m_M_longestWait.1 m_M_longestWait.1 ∈ qT := tmp (q := (m_M_longestWait.1, 26)) (show (m_M_longestWait.1, 26) ∈ lw_privs from List.mem_append_right _ (List.mem_append_right _ (List.mem_append_right _ (List.mem_append_right _ (List.mem_append_right _ (List.mem_append_right _ (List.mem_append_right _ (List.mem_append_left _ (List.mem_of_getElem? (i := 15) rfl)))))))))
theorem mc_M_countOf : Cond.code m_M_countOf.1 m_M_countOf.2.1 m_M_countOf.2.2.1 m_M_countOf.2.2.2.1 ∈ qT := (tm8 (j := 24) rfl rfl)
theorem mi_M_countOf : Cond.instanceMethod m_M_countOf.1 ∈ qT := (tm8 (j := 23) rfl rfl)
theorem mv_M_countOf : Cond.selects m_M_countOf.1.cls m_M_countOf.1 m_M_countOf.1 ∈ qT := tmp (q := (m_M_countOf.1, 26)) (show (m_M_countOf.1, 26) ∈ lw_privs from List.mem_append_right _ (List.mem_append_right _ (List.mem_append_right _ (List.mem_append_right _ (List.mem_append_right _ (List.mem_append_right _ (List.mem_append_right _ (List.mem_append_right _ (List.mem_of_getElem? (i := 0) rfl)))))))))
theorem mc_M_look : Cond.code m_M_look.1 m_M_look.2.1 m_M_look.2.2.1 m_M_look.2.2.2.1 ∈ qT := (tm8 (j := 28) rfl rfl)
theorem mi_M_look : Cond.instanceMethod m_M_look.1 ∈ qT := (tm8 (j := 26) rfl rfl)
theorem mv_M_look : Cond.selects m_M_look.1.cls m_M_look.1 m_M_look.1 ∈ qT := (tm8 (j := 27) rfl rfl)
theorem mc_M_marksNow : Cond.code m_M_marksNow.1 m_M_marksNow.2.1 m_M_marksNow.2.2.1 m_M_marksNow.2.2.2.1 ∈ qT := (tm8 (j := 32) rfl rfl)
theorem mi_M_marksNow : Cond.instanceMethod m_M_marksNow.1 ∈ qT := (tm8 (j := 31) rfl rfl)
theorem mv_M_marksNow : Cond.selects m_M_marksNow.1.cls m_M_marksNow.1 m_M_marksNow.1 ∈ qT := tmp (q := (m_M_marksNow.1, 26)) (show (m_M_marksNow.1, 26) ∈ lw_privs from List.mem_append_right _ (List.mem_append_right _ (List.mem_append_right _ (List.mem_append_right _ (List.mem_append_right _ (List.mem_append_right _ (List.mem_append_right _ (List.mem_append_right _ (List.mem_of_getElem? (i := 1) rfl)))))))))
def qOM (M : qMI) : Prop := plainName M.1.cls = true ∧ M.1.cls ≠ RL ∧ (M.1.cls ≠ "java/lang/invoke/MethodHandle" ∧ M.1.cls ≠ "java/lang/invoke/VarHandle" ∧ (parseMethodDescriptor M.1.desc).map (fun d => d.parameters.length) = some M.2.2.2.2.1) ∧ M.2.2.1 ≤ 20
theorem mo_X_init : qOM m_X_init := ⟨by decide +kernel, by decide +kernel, ⟨by decide +kernel, by decide +kernel, by decide +kernel⟩, by decide⟩
theorem mo_N_init : qOM m_N_init := ⟨by decide +kernel, by decide +kernel, ⟨by decide +kernel, by decide +kernel, by decide +kernel⟩, by decide⟩
theorem mo_G_init : qOM m_G_init := ⟨by decide +kernel, by decide +kernel, ⟨by decide +kernel, by decide +kernel, by decide +kernel⟩, by decide⟩
theorem mo_G_lay : qOM m_G_lay := ⟨by decide +kernel, by decide +kernel, ⟨by decide +kernel, by decide +kernel, by decide +kernel⟩, by decide⟩
theorem mo_X_within : qOM m_X_within := ⟨by decide +kernel, by decide +kernel, ⟨by decide +kernel, by decide +kernel, by decide +kernel⟩, by decide⟩
theorem mo_G_step : qOM m_G_step := ⟨by decide +kernel, by decide +kernel, ⟨by decide +kernel, by decide +kernel, by decide +kernel⟩, by decide⟩
theorem mo_G_directionsNearer : qOM m_G_directionsNearer := ⟨by decide +kernel, by decide +kernel, ⟨by decide +kernel, by decide +kernel, by decide +kernel⟩, by decide⟩
theorem mo_G_distance : qOM m_G_distance := ⟨by decide +kernel, by decide +kernel, ⟨by decide +kernel, by decide +kernel, by decide +kernel⟩, by decide⟩
theorem mo_G_gap : qOM m_G_gap := ⟨by decide +kernel, by decide +kernel, ⟨by decide +kernel, by decide +kernel, by decide +kernel⟩, by decide⟩
theorem mo_G_leastOf : qOM m_G_leastOf := ⟨by decide +kernel, by decide +kernel, ⟨by decide +kernel, by decide +kernel, by decide +kernel⟩, by decide⟩
theorem mo_P_init : qOM m_P_init := ⟨by decide +kernel, by decide +kernel, ⟨by decide +kernel, by decide +kernel, by decide +kernel⟩, by decide⟩
theorem mo_Q_init : qOM m_Q_init := ⟨by decide +kernel, by decide +kernel, ⟨by decide +kernel, by decide +kernel, by decide +kernel⟩, by decide⟩
theorem mo_V_init : qOM m_V_init := ⟨by decide +kernel, by decide +kernel, ⟨by decide +kernel, by decide +kernel, by decide +kernel⟩, by decide⟩
theorem mo_R_init : qOM m_R_init := ⟨by decide +kernel, by decide +kernel, ⟨by decide +kernel, by decide +kernel, by decide +kernel⟩, by decide⟩
theorem mo_O_init : qOM m_O_init := ⟨by decide +kernel, by decide +kernel, ⟨by decide +kernel, by decide +kernel, by decide +kernel⟩, by decide⟩
theorem mo_S_init : qOM m_S_init := ⟨by decide +kernel, by decide +kernel, ⟨by decide +kernel, by decide +kernel, by decide +kernel⟩, by decide⟩
theorem mo_L_init : qOM m_L_init := ⟨by decide +kernel, by decide +kernel, ⟨by decide +kernel, by decide +kernel, by decide +kernel⟩, by decide⟩
theorem mo_N_begin : qOM m_N_begin := ⟨by decide +kernel, by decide +kernel, ⟨by decide +kernel, by decide +kernel, by decide +kernel⟩, by decide⟩
theorem mo_P_clearAll : qOM m_P_clearAll := ⟨by decide +kernel, by decide +kernel, ⟨by decide +kernel, by decide +kernel, by decide +kernel⟩, by decide⟩
theorem mo_Q_clearAll : qOM m_Q_clearAll := ⟨by decide +kernel, by decide +kernel, ⟨by decide +kernel, by decide +kernel, by decide +kernel⟩, by decide⟩
theorem mo_JA_fill : qOM m_JA_fill := ⟨by decide +kernel, by decide +kernel, ⟨by decide +kernel, by decide +kernel, by decide +kernel⟩, by decide⟩
theorem mo_R_clearAll : qOM m_R_clearAll := ⟨by decide +kernel, by decide +kernel, ⟨by decide +kernel, by decide +kernel, by decide +kernel⟩, by decide⟩
theorem mo_G_ringNode : qOM m_G_ringNode := ⟨by decide +kernel, by decide +kernel, ⟨by decide +kernel, by decide +kernel, by decide +kernel⟩, by decide⟩
theorem mo_G_ringLength : qOM m_G_ringLength := ⟨by decide +kernel, by decide +kernel, ⟨by decide +kernel, by decide +kernel, by decide +kernel⟩, by decide⟩
theorem mo_R_forgetEntries : qOM m_R_forgetEntries := ⟨by decide +kernel, by decide +kernel, ⟨by decide +kernel, by decide +kernel, by decide +kernel⟩, by decide⟩
theorem mo_X_torus : qOM m_X_torus := ⟨by decide +kernel, by decide +kernel, ⟨by decide +kernel, by decide +kernel, by decide +kernel⟩, by decide⟩
theorem mo_X_isBound : qOM m_X_isBound := ⟨by decide +kernel, by decide +kernel, ⟨by decide +kernel, by decide +kernel, by decide +kernel⟩, by decide⟩
theorem mo_X_send : qOM m_X_send := ⟨by decide +kernel, by decide +kernel, ⟨by decide +kernel, by decide +kernel, by decide +kernel⟩, by decide⟩
theorem mo_N_admit : qOM m_N_admit := ⟨by decide +kernel, by decide +kernel, ⟨by decide +kernel, by decide +kernel, by decide +kernel⟩, by decide⟩
theorem mo_G_hasNode : qOM m_G_hasNode := ⟨by decide +kernel, by decide +kernel, ⟨by decide +kernel, by decide +kernel, by decide +kernel⟩, by decide⟩
theorem mo_P_add : qOM m_P_add := ⟨by decide +kernel, by decide +kernel, ⟨by decide +kernel, by decide +kernel, by decide +kernel⟩, by decide⟩
theorem mo_Q_put : qOM m_Q_put := ⟨by decide +kernel, by decide +kernel, ⟨by decide +kernel, by decide +kernel, by decide +kernel⟩, by decide⟩
theorem mo_X_shower : qOM m_X_shower := ⟨by decide +kernel, by decide +kernel, ⟨by decide +kernel, by decide +kernel, by decide +kernel⟩, by decide⟩
theorem mo_X_draw : qOM m_X_draw := ⟨by decide +kernel, by decide +kernel, ⟨by decide +kernel, by decide +kernel, by decide +kernel⟩, by decide⟩
theorem mo_N_admitOrLose : qOM m_N_admitOrLose := ⟨by decide +kernel, by decide +kernel, ⟨by decide +kernel, by decide +kernel, by decide +kernel⟩, by decide⟩
theorem mo_X_pattern : qOM m_X_pattern := ⟨by decide +kernel, by decide +kernel, ⟨by decide +kernel, by decide +kernel, by decide +kernel⟩, by decide⟩
theorem mo_G_aimOf : qOM m_G_aimOf := ⟨by decide +kernel, by decide +kernel, ⟨by decide +kernel, by decide +kernel, by decide +kernel⟩, by decide⟩
theorem mo_G_nextBy : qOM m_G_nextBy := ⟨by decide +kernel, by decide +kernel, ⟨by decide +kernel, by decide +kernel, by decide +kernel⟩, by decide⟩
theorem mo_X_tick : qOM m_X_tick := ⟨by decide +kernel, by decide +kernel, ⟨by decide +kernel, by decide +kernel, by decide +kernel⟩, by decide⟩
theorem mo_N_runTick : qOM m_N_runTick := ⟨by decide +kernel, by decide +kernel, ⟨by decide +kernel, by decide +kernel, by decide +kernel⟩, by decide⟩
theorem mo_N_deliverFirsts : qOM m_N_deliverFirsts := ⟨by decide +kernel, by decide +kernel, ⟨by decide +kernel, by decide +kernel, by decide +kernel⟩, by decide⟩
theorem mo_Q_first : qOM m_Q_first := ⟨by decide +kernel, by decide +kernel, ⟨by decide +kernel, by decide +kernel, by decide +kernel⟩, by decide⟩
theorem mo_Q_dropFirst : qOM m_Q_dropFirst := ⟨by decide +kernel, by decide +kernel, ⟨by decide +kernel, by decide +kernel, by decide +kernel⟩, by decide⟩
theorem mo_P_noteDelivery : qOM m_P_noteDelivery := ⟨by decide +kernel, by decide +kernel, ⟨by decide +kernel, by decide +kernel, by decide +kernel⟩, by decide⟩
theorem mo_P_laterIsDelivered : qOM m_P_laterIsDelivered := ⟨by decide +kernel, by decide +kernel, ⟨by decide +kernel, by decide +kernel, by decide +kernel⟩, by decide⟩
theorem mo_P_isBetween : qOM m_P_isBetween := ⟨by decide +kernel, by decide +kernel, ⟨by decide +kernel, by decide +kernel, by decide +kernel⟩, by decide⟩
theorem mo_P_isDelivered : qOM m_P_isDelivered := ⟨by decide +kernel, by decide +kernel, ⟨by decide +kernel, by decide +kernel, by decide +kernel⟩, by decide⟩
theorem mo_N_chosenQueue : qOM m_N_chosenQueue := ⟨by decide +kernel, by decide +kernel, ⟨by decide +kernel, by decide +kernel, by decide +kernel⟩, by decide⟩
theorem mo_N_canGo : qOM m_N_canGo := ⟨by decide +kernel, by decide +kernel, ⟨by decide +kernel, by decide +kernel, by decide +kernel⟩, by decide⟩
theorem mo_N_adaptiveLets : qOM m_N_adaptiveLets := ⟨by decide +kernel, by decide +kernel, ⟨by decide +kernel, by decide +kernel, by decide +kernel⟩, by decide⟩
theorem mo_N_isProfitable : qOM m_N_isProfitable := ⟨by decide +kernel, by decide +kernel, ⟨by decide +kernel, by decide +kernel, by decide +kernel⟩, by decide⟩
theorem mo_G_nearerBy : qOM m_G_nearerBy := ⟨by decide +kernel, by decide +kernel, ⟨by decide +kernel, by decide +kernel, by decide +kernel⟩, by decide⟩
theorem mo_N_escapeLets : qOM m_N_escapeLets := ⟨by decide +kernel, by decide +kernel, ⟨by decide +kernel, by decide +kernel, by decide +kernel⟩, by decide⟩
theorem mo_N_isEscape : qOM m_N_isEscape := ⟨by decide +kernel, by decide +kernel, ⟨by decide +kernel, by decide +kernel, by decide +kernel⟩, by decide⟩
theorem mo_G_escapeBy : qOM m_G_escapeBy := ⟨by decide +kernel, by decide +kernel, ⟨by decide +kernel, by decide +kernel, by decide +kernel⟩, by decide⟩
theorem mo_N_freeAhead : qOM m_N_freeAhead := ⟨by decide +kernel, by decide +kernel, ⟨by decide +kernel, by decide +kernel, by decide +kernel⟩, by decide⟩
theorem mo_N_ruleLets : qOM m_N_ruleLets := ⟨by decide +kernel, by decide +kernel, ⟨by decide +kernel, by decide +kernel, by decide +kernel⟩, by decide⟩
theorem mo_G_ringIndex : qOM m_G_ringIndex := ⟨by decide +kernel, by decide +kernel, ⟨by decide +kernel, by decide +kernel, by decide +kernel⟩, by decide⟩
theorem mo_N_continues : qOM m_N_continues := ⟨by decide +kernel, by decide +kernel, ⟨by decide +kernel, by decide +kernel, by decide +kernel⟩, by decide⟩
theorem mo_N_isBarred : qOM m_N_isBarred := ⟨by decide +kernel, by decide +kernel, ⟨by decide +kernel, by decide +kernel, by decide +kernel⟩, by decide⟩
theorem mo_N_goFrom : qOM m_N_goFrom := ⟨by decide +kernel, by decide +kernel, ⟨by decide +kernel, by decide +kernel, by decide +kernel⟩, by decide⟩
theorem mo_N_shift : qOM m_N_shift := ⟨by decide +kernel, by decide +kernel, ⟨by decide +kernel, by decide +kernel, by decide +kernel⟩, by decide⟩
theorem mo_X_firstOfLane : qOM m_X_firstOfLane := ⟨by decide +kernel, by decide +kernel, ⟨by decide +kernel, by decide +kernel, by decide +kernel⟩, by decide⟩
theorem mo_P_noteHop : qOM m_P_noteHop := ⟨by decide +kernel, by decide +kernel, ⟨by decide +kernel, by decide +kernel, by decide +kernel⟩, by decide⟩
theorem mo_V_add : qOM m_V_add := ⟨by decide +kernel, by decide +kernel, ⟨by decide +kernel, by decide +kernel, by decide +kernel⟩, by decide⟩
theorem mo_N_feelHunger : qOM m_N_feelHunger := ⟨by decide +kernel, by decide +kernel, ⟨by decide +kernel, by decide +kernel, by decide +kernel⟩, by decide⟩
theorem mo_N_wantsIn : qOM m_N_wantsIn := ⟨by decide +kernel, by decide +kernel, ⟨by decide +kernel, by decide +kernel, by decide +kernel⟩, by decide⟩
theorem mo_R_noteHunger : qOM m_R_noteHunger := ⟨by decide +kernel, by decide +kernel, ⟨by decide +kernel, by decide +kernel, by decide +kernel⟩, by decide⟩
theorem mo_N_turnMarks : qOM m_N_turnMarks := ⟨by decide +kernel, by decide +kernel, ⟨by decide +kernel, by decide +kernel, by decide +kernel⟩, by decide⟩
theorem mo_G_ringDirection : qOM m_G_ringDirection := ⟨by decide +kernel, by decide +kernel, ⟨by decide +kernel, by decide +kernel, by decide +kernel⟩, by decide⟩
theorem mo_R_carryMark : qOM m_R_carryMark := ⟨by decide +kernel, by decide +kernel, ⟨by decide +kernel, by decide +kernel, by decide +kernel⟩, by decide⟩
theorem mo_R_endMark : qOM m_R_endMark := ⟨by decide +kernel, by decide +kernel, ⟨by decide +kernel, by decide +kernel, by decide +kernel⟩, by decide⟩
theorem mo_N_hungriestIn : qOM m_N_hungriestIn := ⟨by decide +kernel, by decide +kernel, ⟨by decide +kernel, by decide +kernel, by decide +kernel⟩, by decide⟩
theorem mo_R_setMark : qOM m_R_setMark := ⟨by decide +kernel, by decide +kernel, ⟨by decide +kernel, by decide +kernel, by decide +kernel⟩, by decide⟩
theorem mo_N_noteFewest : qOM m_N_noteFewest := ⟨by decide +kernel, by decide +kernel, ⟨by decide +kernel, by decide +kernel, by decide +kernel⟩, by decide⟩
theorem mo_N_freeIn : qOM m_N_freeIn := ⟨by decide +kernel, by decide +kernel, ⟨by decide +kernel, by decide +kernel, by decide +kernel⟩, by decide⟩
theorem mo_N_heldIn : qOM m_N_heldIn := ⟨by decide +kernel, by decide +kernel, ⟨by decide +kernel, by decide +kernel, by decide +kernel⟩, by decide⟩
theorem mo_X_state : qOM m_X_state := ⟨by decide +kernel, by decide +kernel, ⟨by decide +kernel, by decide +kernel, by decide +kernel⟩, by decide⟩
theorem mo_X_bound : qOM m_X_bound := ⟨by decide +kernel, by decide +kernel, ⟨by decide +kernel, by decide +kernel, by decide +kernel⟩, by decide⟩
theorem mo_X_packet : qOM m_X_packet := ⟨by decide +kernel, by decide +kernel, ⟨by decide +kernel, by decide +kernel, by decide +kernel⟩, by decide⟩
theorem mo_P_has : qOM m_P_has := ⟨by decide +kernel, by decide +kernel, ⟨by decide +kernel, by decide +kernel, by decide +kernel⟩, by decide⟩
theorem mo_P_fact : qOM m_P_fact := ⟨by decide +kernel, by decide +kernel, ⟨by decide +kernel, by decide +kernel, by decide +kernel⟩, by decide⟩
theorem mo_X_queue : qOM m_X_queue := ⟨by decide +kernel, by decide +kernel, ⟨by decide +kernel, by decide +kernel, by decide +kernel⟩, by decide⟩
theorem mo_X_isDirection : qOM m_X_isDirection := ⟨by decide +kernel, by decide +kernel, ⟨by decide +kernel, by decide +kernel, by decide +kernel⟩, by decide⟩
theorem mo_Q_itemAt : qOM m_Q_itemAt := ⟨by decide +kernel, by decide +kernel, ⟨by decide +kernel, by decide +kernel, by decide +kernel⟩, by decide⟩
theorem mo_X_next : qOM m_X_next := ⟨by decide +kernel, by decide +kernel, ⟨by decide +kernel, by decide +kernel, by decide +kernel⟩, by decide⟩
theorem mo_X_far : qOM m_X_far := ⟨by decide +kernel, by decide +kernel, ⟨by decide +kernel, by decide +kernel, by decide +kernel⟩, by decide⟩
theorem mo_X_profitable : qOM m_X_profitable := ⟨by decide +kernel, by decide +kernel, ⟨by decide +kernel, by decide +kernel, by decide +kernel⟩, by decide⟩
theorem mo_X_way : qOM m_X_way := ⟨by decide +kernel, by decide +kernel, ⟨by decide +kernel, by decide +kernel, by decide +kernel⟩, by decide⟩
theorem mo_G_wayStep : qOM m_G_wayStep := ⟨by decide +kernel, by decide +kernel, ⟨by decide +kernel, by decide +kernel, by decide +kernel⟩, by decide⟩
theorem mo_X_ring : qOM m_X_ring := ⟨by decide +kernel, by decide +kernel, ⟨by decide +kernel, by decide +kernel, by decide +kernel⟩, by decide⟩
theorem mo_X_ringOf : qOM m_X_ringOf := ⟨by decide +kernel, by decide +kernel, ⟨by decide +kernel, by decide +kernel, by decide +kernel⟩, by decide⟩
theorem mo_X_hunger : qOM m_X_hunger := ⟨by decide +kernel, by decide +kernel, ⟨by decide +kernel, by decide +kernel, by decide +kernel⟩, by decide⟩
theorem mo_X_node : qOM m_X_node := ⟨by decide +kernel, by decide +kernel, ⟨by decide +kernel, by decide +kernel, by decide +kernel⟩, by decide⟩
theorem mo_Q_heldFrom : qOM m_Q_heldFrom := ⟨by decide +kernel, by decide +kernel, ⟨by decide +kernel, by decide +kernel, by decide +kernel⟩, by decide⟩
theorem mo_P_sentFrom : qOM m_P_sentFrom := ⟨by decide +kernel, by decide +kernel, ⟨by decide +kernel, by decide +kernel, by decide +kernel⟩, by decide⟩
theorem mo_P_deliveredTo : qOM m_P_deliveredTo := ⟨by decide +kernel, by decide +kernel, ⟨by decide +kernel, by decide +kernel, by decide +kernel⟩, by decide⟩
theorem mo_P_longestAtDoor : qOM m_P_longestAtDoor := ⟨by decide +kernel, by decide +kernel, ⟨by decide +kernel, by decide +kernel, by decide +kernel⟩, by decide⟩
theorem mo_X_move : qOM m_X_move := ⟨by decide +kernel, by decide +kernel, ⟨by decide +kernel, by decide +kernel, by decide +kernel⟩, by decide⟩
theorem mo_V_fact : qOM m_V_fact := ⟨by decide +kernel, by decide +kernel, ⟨by decide +kernel, by decide +kernel, by decide +kernel⟩, by decide⟩
theorem mo_X_link : qOM m_X_link := ⟨by decide +kernel, by decide +kernel, ⟨by decide +kernel, by decide +kernel, by decide +kernel⟩, by decide⟩
theorem mo_X_trace : qOM m_X_trace := ⟨by decide +kernel, by decide +kernel, ⟨by decide +kernel, by decide +kernel, by decide +kernel⟩, by decide⟩
theorem mo_P_nodeBehind : qOM m_P_nodeBehind := ⟨by decide +kernel, by decide +kernel, ⟨by decide +kernel, by decide +kernel, by decide +kernel⟩, by decide⟩
theorem mo_X_pair : qOM m_X_pair := ⟨by decide +kernel, by decide +kernel, ⟨by decide +kernel, by decide +kernel, by decide +kernel⟩, by decide⟩
theorem mo_P_sentBetween : qOM m_P_sentBetween := ⟨by decide +kernel, by decide +kernel, ⟨by decide +kernel, by decide +kernel, by decide +kernel⟩, by decide⟩
theorem mo_P_deliveredBetween : qOM m_P_deliveredBetween := ⟨by decide +kernel, by decide +kernel, ⟨by decide +kernel, by decide +kernel, by decide +kernel⟩, by decide⟩
theorem mo_P_disorderBetween : qOM m_P_disorderBetween := ⟨by decide +kernel, by decide +kernel, ⟨by decide +kernel, by decide +kernel, by decide +kernel⟩, by decide⟩
theorem mo_P_latestBetween : qOM m_P_latestBetween := ⟨by decide +kernel, by decide +kernel, ⟨by decide +kernel, by decide +kernel, by decide +kernel⟩, by decide⟩
theorem mo_P_lateness : qOM m_P_lateness := ⟨by decide +kernel, by decide +kernel, ⟨by decide +kernel, by decide +kernel, by decide +kernel⟩, by decide⟩
theorem mo_X_late : qOM m_X_late := ⟨by decide +kernel, by decide +kernel, ⟨by decide +kernel, by decide +kernel, by decide +kernel⟩, by decide⟩
theorem mo_P_lateWithin : qOM m_P_lateWithin := ⟨by decide +kernel, by decide +kernel, ⟨by decide +kernel, by decide +kernel, by decide +kernel⟩, by decide⟩
theorem mo_X_lates : qOM m_X_lates := ⟨by decide +kernel, by decide +kernel, ⟨by decide +kernel, by decide +kernel, by decide +kernel⟩, by decide⟩
theorem mo_P_differentLates : qOM m_P_differentLates := ⟨by decide +kernel, by decide +kernel, ⟨by decide +kernel, by decide +kernel, by decide +kernel⟩, by decide⟩
theorem mo_P_lateAbove : qOM m_P_lateAbove := ⟨by decide +kernel, by decide +kernel, ⟨by decide +kernel, by decide +kernel, by decide +kernel⟩, by decide⟩
theorem mo_P_lateAt : qOM m_P_lateAt := ⟨by decide +kernel, by decide +kernel, ⟨by decide +kernel, by decide +kernel, by decide +kernel⟩, by decide⟩
theorem mo_X_goesOn : qOM m_X_goesOn := ⟨by decide +kernel, by decide +kernel, ⟨by decide +kernel, by decide +kernel, by decide +kernel⟩, by decide⟩
theorem mo_N_queueOf : qOM m_N_queueOf := ⟨by decide +kernel, by decide +kernel, ⟨by decide +kernel, by decide +kernel, by decide +kernel⟩, by decide⟩
theorem mo_O_judge : qOM m_O_judge := ⟨by decide +kernel, by decide +kernel, ⟨by decide +kernel, by decide +kernel, by decide +kernel⟩, by decide⟩
theorem mo_O_goesAtOnce : qOM m_O_goesAtOnce := ⟨by decide +kernel, by decide +kernel, ⟨by decide +kernel, by decide +kernel, by decide +kernel⟩, by decide⟩
theorem mo_N_isInTo : qOM m_N_isInTo := ⟨by decide +kernel, by decide +kernel, ⟨by decide +kernel, by decide +kernel, by decide +kernel⟩, by decide⟩
theorem mo_O_follows : qOM m_O_follows := ⟨by decide +kernel, by decide +kernel, ⟨by decide +kernel, by decide +kernel, by decide +kernel⟩, by decide⟩
theorem mo_O_anyInRing : qOM m_O_anyInRing := ⟨by decide +kernel, by decide +kernel, ⟨by decide +kernel, by decide +kernel, by decide +kernel⟩, by decide⟩
theorem mo_X_stuck : qOM m_X_stuck := ⟨by decide +kernel, by decide +kernel, ⟨by decide +kernel, by decide +kernel, by decide +kernel⟩, by decide⟩
theorem mo_O_held : qOM m_O_held := ⟨by decide +kernel, by decide +kernel, ⟨by decide +kernel, by decide +kernel, by decide +kernel⟩, by decide⟩
theorem mo_X_dead : qOM m_X_dead := ⟨by decide +kernel, by decide +kernel, ⟨by decide +kernel, by decide +kernel, by decide +kernel⟩, by decide⟩
theorem mo_P_left : qOM m_P_left := ⟨by decide +kernel, by decide +kernel, ⟨by decide +kernel, by decide +kernel, by decide +kernel⟩, by decide⟩
theorem mo_O_anyGoesOn : qOM m_O_anyGoesOn := ⟨by decide +kernel, by decide +kernel, ⟨by decide +kernel, by decide +kernel, by decide +kernel⟩, by decide⟩
theorem mo_X_through : qOM m_X_through := ⟨by decide +kernel, by decide +kernel, ⟨by decide +kernel, by decide +kernel, by decide +kernel⟩, by decide⟩
theorem mo_N_copyFrom : qOM m_N_copyFrom := ⟨by decide +kernel, by decide +kernel, ⟨by decide +kernel, by decide +kernel, by decide +kernel⟩, by decide⟩
theorem mo_G_copyFrom : qOM m_G_copyFrom := ⟨by decide +kernel, by decide +kernel, ⟨by decide +kernel, by decide +kernel, by decide +kernel⟩, by decide⟩
theorem mo_V_copyFrom : qOM m_V_copyFrom := ⟨by decide +kernel, by decide +kernel, ⟨by decide +kernel, by decide +kernel, by decide +kernel⟩, by decide⟩
theorem mo_P_copyFrom : qOM m_P_copyFrom := ⟨by decide +kernel, by decide +kernel, ⟨by decide +kernel, by decide +kernel, by decide +kernel⟩, by decide⟩
theorem mo_P_copyRow : qOM m_P_copyRow := ⟨by decide +kernel, by decide +kernel, ⟨by decide +kernel, by decide +kernel, by decide +kernel⟩, by decide⟩
theorem mo_Q_copyFrom : qOM m_Q_copyFrom := ⟨by decide +kernel, by decide +kernel, ⟨by decide +kernel, by decide +kernel, by decide +kernel⟩, by decide⟩
theorem mo_R_copyFrom : qOM m_R_copyFrom := ⟨by decide +kernel, by decide +kernel, ⟨by decide +kernel, by decide +kernel, by decide +kernel⟩, by decide⟩
theorem mo_X_ticksUntilDelivered : qOM m_X_ticksUntilDelivered := ⟨by decide +kernel, by decide +kernel, ⟨by decide +kernel, by decide +kernel, by decide +kernel⟩, by decide⟩
theorem mo_X_arrives : qOM m_X_arrives := ⟨by decide +kernel, by decide +kernel, ⟨by decide +kernel, by decide +kernel, by decide +kernel⟩, by decide⟩
theorem mo_X_enters : qOM m_X_enters := ⟨by decide +kernel, by decide +kernel, ⟨by decide +kernel, by decide +kernel, by decide +kernel⟩, by decide⟩
theorem mo_X_schedules : qOM m_X_schedules := ⟨by decide +kernel, by decide +kernel, ⟨by decide +kernel, by decide +kernel, by decide +kernel⟩, by decide⟩
theorem mo_S_run : qOM m_S_run := ⟨by decide +kernel, by decide +kernel, ⟨by decide +kernel, by decide +kernel, by decide +kernel⟩, by decide⟩
theorem mo_S_findLeft : qOM m_S_findLeft := ⟨by decide +kernel, by decide +kernel, ⟨by decide +kernel, by decide +kernel, by decide +kernel⟩, by decide⟩
theorem mo_S_reach : qOM m_S_reach := ⟨by decide +kernel, by decide +kernel, ⟨by decide +kernel, by decide +kernel, by decide +kernel⟩, by decide⟩
theorem mo_S_keyOf : qOM m_S_keyOf := ⟨by decide +kernel, by decide +kernel, ⟨by decide +kernel, by decide +kernel, by decide +kernel⟩, by decide⟩
theorem mo_Q_placeOf : qOM m_Q_placeOf := ⟨by decide +kernel, by decide +kernel, ⟨by decide +kernel, by decide +kernel, by decide +kernel⟩, by decide⟩
theorem mo_G_placeInRing : qOM m_G_placeInRing := ⟨by decide +kernel, by decide +kernel, ⟨by decide +kernel, by decide +kernel, by decide +kernel⟩, by decide⟩
theorem mo_S_open : qOM m_S_open := ⟨by decide +kernel, by decide +kernel, ⟨by decide +kernel, by decide +kernel, by decide +kernel⟩, by decide⟩
theorem mo_S_extend : qOM m_S_extend := ⟨by decide +kernel, by decide +kernel, ⟨by decide +kernel, by decide +kernel, by decide +kernel⟩, by decide⟩
theorem mo_S_close : qOM m_S_close := ⟨by decide +kernel, by decide +kernel, ⟨by decide +kernel, by decide +kernel, by decide +kernel⟩, by decide⟩
theorem mo_S_tryBy : qOM m_S_tryBy := ⟨by decide +kernel, by decide +kernel, ⟨by decide +kernel, by decide +kernel, by decide +kernel⟩, by decide⟩
theorem mo_S_weigh : qOM m_S_weigh := ⟨by decide +kernel, by decide +kernel, ⟨by decide +kernel, by decide +kernel, by decide +kernel⟩, by decide⟩
theorem mo_N_heldInLane : qOM m_N_heldInLane := ⟨by decide +kernel, by decide +kernel, ⟨by decide +kernel, by decide +kernel, by decide +kernel⟩, by decide⟩
theorem mo_X_alone : qOM m_X_alone := ⟨by decide +kernel, by decide +kernel, ⟨by decide +kernel, by decide +kernel, by decide +kernel⟩, by decide⟩
theorem mo_L_answer : qOM m_L_answer := ⟨by decide +kernel, by decide +kernel, ⟨by decide +kernel, by decide +kernel, by decide +kernel⟩, by decide⟩
theorem mo_L_canBe : qOM m_L_canBe := ⟨by decide +kernel, by decide +kernel, ⟨by decide +kernel, by decide +kernel, by decide +kernel⟩, by decide⟩
theorem mo_L_solve : qOM m_L_solve := ⟨by decide +kernel, by decide +kernel, ⟨by decide +kernel, by decide +kernel, by decide +kernel⟩, by decide⟩
theorem mo_L_prepare : qOM m_L_prepare := ⟨by decide +kernel, by decide +kernel, ⟨by decide +kernel, by decide +kernel, by decide +kernel⟩, by decide⟩
theorem mo_L_explore : qOM m_L_explore := ⟨by decide +kernel, by decide +kernel, ⟨by decide +kernel, by decide +kernel, by decide +kernel⟩, by decide⟩
theorem mo_L_open : qOM m_L_open := ⟨by decide +kernel, by decide +kernel, ⟨by decide +kernel, by decide +kernel, by decide +kernel⟩, by decide⟩
theorem mo_L_lengthOf : qOM m_L_lengthOf := ⟨by decide +kernel, by decide +kernel, ⟨by decide +kernel, by decide +kernel, by decide +kernel⟩, by decide⟩
theorem mo_L_listSteps : qOM m_L_listSteps := ⟨by decide +kernel, by decide +kernel, ⟨by decide +kernel, by decide +kernel, by decide +kernel⟩, by decide⟩
theorem mo_L_listStepOfFirst : qOM m_L_listStepOfFirst := ⟨by decide +kernel, by decide +kernel, ⟨by decide +kernel, by decide +kernel, by decide +kernel⟩, by decide⟩
theorem mo_L_addStep : qOM m_L_addStep := ⟨by decide +kernel, by decide +kernel, ⟨by decide +kernel, by decide +kernel, by decide +kernel⟩, by decide⟩
theorem mo_L_put : qOM m_L_put := ⟨by decide +kernel, by decide +kernel, ⟨by decide +kernel, by decide +kernel, by decide +kernel⟩, by decide⟩
theorem mo_L_ruleLets : qOM m_L_ruleLets := ⟨by decide +kernel, by decide +kernel, ⟨by decide +kernel, by decide +kernel, by decide +kernel⟩, by decide⟩
theorem mo_L_weigh : qOM m_L_weigh := ⟨by decide +kernel, by decide +kernel, ⟨by decide +kernel, by decide +kernel, by decide +kernel⟩, by decide⟩
theorem mo_L_isStarving : qOM m_L_isStarving := ⟨by decide +kernel, by decide +kernel, ⟨by decide +kernel, by decide +kernel, by decide +kernel⟩, by decide⟩
theorem mo_L_leadsOn : qOM m_L_leadsOn := ⟨by decide +kernel, by decide +kernel, ⟨by decide +kernel, by decide +kernel, by decide +kernel⟩, by decide⟩
theorem mo_L_longestWait : qOM m_L_longestWait := ⟨by decide +kernel, by decide +kernel, ⟨by decide +kernel, by decide +kernel, by decide +kernel⟩, by decide⟩
theorem mo_L_waitIn : qOM m_L_waitIn := ⟨by decide +kernel, by decide +kernel, ⟨by decide +kernel, by decide +kernel, by decide +kernel⟩, by decide⟩
theorem mo_X_look : qOM m_X_look := ⟨by decide +kernel, by decide +kernel, ⟨by decide +kernel, by decide +kernel, by decide +kernel⟩, by decide⟩
theorem mo_P_lateTogether : qOM m_P_lateTogether := ⟨by decide +kernel, by decide +kernel, ⟨by decide +kernel, by decide +kernel, by decide +kernel⟩, by decide⟩
theorem mo_P_hopsTogether : qOM m_P_hopsTogether := ⟨by decide +kernel, by decide +kernel, ⟨by decide +kernel, by decide +kernel, by decide +kernel⟩, by decide⟩
theorem mo_R_marksNow : qOM m_R_marksNow := ⟨by decide +kernel, by decide +kernel, ⟨by decide +kernel, by decide +kernel, by decide +kernel⟩, by decide⟩
theorem mo_P_disorderTogether : qOM m_P_disorderTogether := ⟨by decide +kernel, by decide +kernel, ⟨by decide +kernel, by decide +kernel, by decide +kernel⟩, by decide⟩
theorem mo_M_init : qOM m_M_init := ⟨by decide +kernel, by decide +kernel, ⟨by decide +kernel, by decide +kernel, by decide +kernel⟩, by decide⟩
theorem mo_M_begins : qOM m_M_begins := ⟨by decide +kernel, by decide +kernel, ⟨by decide +kernel, by decide +kernel, by decide +kernel⟩, by decide⟩
theorem mo_M_rings : qOM m_M_rings := ⟨by decide +kernel, by decide +kernel, ⟨by decide +kernel, by decide +kernel, by decide +kernel⟩, by decide⟩
theorem mo_M_ringAt : qOM m_M_ringAt := ⟨by decide +kernel, by decide +kernel, ⟨by decide +kernel, by decide +kernel, by decide +kernel⟩, by decide⟩
theorem mo_M_leastNode : qOM m_M_leastNode := ⟨by decide +kernel, by decide +kernel, ⟨by decide +kernel, by decide +kernel, by decide +kernel⟩, by decide⟩
theorem mo_M_directionOf : qOM m_M_directionOf := ⟨by decide +kernel, by decide +kernel, ⟨by decide +kernel, by decide +kernel, by decide +kernel⟩, by decide⟩
theorem mo_M_longOf : qOM m_M_longOf := ⟨by decide +kernel, by decide +kernel, ⟨by decide +kernel, by decide +kernel, by decide +kernel⟩, by decide⟩
theorem mo_M_torus : qOM m_M_torus := ⟨by decide +kernel, by decide +kernel, ⟨by decide +kernel, by decide +kernel, by decide +kernel⟩, by decide⟩
theorem mo_M_isIn : qOM m_M_isIn := ⟨by decide +kernel, by decide +kernel, ⟨by decide +kernel, by decide +kernel, by decide +kernel⟩, by decide⟩
theorem mo_M_next : qOM m_M_next := ⟨by decide +kernel, by decide +kernel, ⟨by decide +kernel, by decide +kernel, by decide +kernel⟩, by decide⟩
theorem mo_M_isNode : qOM m_M_isNode := ⟨by decide +kernel, by decide +kernel, ⟨by decide +kernel, by decide +kernel, by decide +kernel⟩, by decide⟩
theorem mo_M_nodes : qOM m_M_nodes := ⟨by decide +kernel, by decide +kernel, ⟨by decide +kernel, by decide +kernel, by decide +kernel⟩, by decide⟩
theorem mo_M_isDirection : qOM m_M_isDirection := ⟨by decide +kernel, by decide +kernel, ⟨by decide +kernel, by decide +kernel, by decide +kernel⟩, by decide⟩
theorem mo_M_nextOf : qOM m_M_nextOf := ⟨by decide +kernel, by decide +kernel, ⟨by decide +kernel, by decide +kernel, by decide +kernel⟩, by decide⟩
theorem mo_M_far : qOM m_M_far := ⟨by decide +kernel, by decide +kernel, ⟨by decide +kernel, by decide +kernel, by decide +kernel⟩, by decide⟩
theorem mo_M_farOf : qOM m_M_farOf := ⟨by decide +kernel, by decide +kernel, ⟨by decide +kernel, by decide +kernel, by decide +kernel⟩, by decide⟩
theorem mo_M_apart : qOM m_M_apart := ⟨by decide +kernel, by decide +kernel, ⟨by decide +kernel, by decide +kernel, by decide +kernel⟩, by decide⟩
theorem mo_M_profitable : qOM m_M_profitable := ⟨by decide +kernel, by decide +kernel, ⟨by decide +kernel, by decide +kernel, by decide +kernel⟩, by decide⟩
theorem mo_M_isProfitable : qOM m_M_isProfitable := ⟨by decide +kernel, by decide +kernel, ⟨by decide +kernel, by decide +kernel, by decide +kernel⟩, by decide⟩
theorem mo_M_way : qOM m_M_way := ⟨by decide +kernel, by decide +kernel, ⟨by decide +kernel, by decide +kernel, by decide +kernel⟩, by decide⟩
theorem mo_M_escapeOf : qOM m_M_escapeOf := ⟨by decide +kernel, by decide +kernel, ⟨by decide +kernel, by decide +kernel, by decide +kernel⟩, by decide⟩
theorem mo_M_ringOf : qOM m_M_ringOf := ⟨by decide +kernel, by decide +kernel, ⟨by decide +kernel, by decide +kernel, by decide +kernel⟩, by decide⟩
theorem mo_M_ringFor : qOM m_M_ringFor := ⟨by decide +kernel, by decide +kernel, ⟨by decide +kernel, by decide +kernel, by decide +kernel⟩, by decide⟩
theorem mo_M_send : qOM m_M_send := ⟨by decide +kernel, by decide +kernel, ⟨by decide +kernel, by decide +kernel, by decide +kernel⟩, by decide⟩
theorem mo_M_sends : qOM m_M_sends := ⟨by decide +kernel, by decide +kernel, ⟨by decide +kernel, by decide +kernel, by decide +kernel⟩, by decide⟩
theorem mo_M_free : qOM m_M_free := ⟨by decide +kernel, by decide +kernel, ⟨by decide +kernel, by decide +kernel, by decide +kernel⟩, by decide⟩
theorem mo_M_placesOf : qOM m_M_placesOf := ⟨by decide +kernel, by decide +kernel, ⟨by decide +kernel, by decide +kernel, by decide +kernel⟩, by decide⟩
theorem mo_M_many : qOM m_M_many := ⟨by decide +kernel, by decide +kernel, ⟨by decide +kernel, by decide +kernel, by decide +kernel⟩, by decide⟩
theorem mo_M_queueAt : qOM m_M_queueAt := ⟨by decide +kernel, by decide +kernel, ⟨by decide +kernel, by decide +kernel, by decide +kernel⟩, by decide⟩
theorem mo_M_packetAt : qOM m_M_packetAt := ⟨by decide +kernel, by decide +kernel, ⟨by decide +kernel, by decide +kernel, by decide +kernel⟩, by decide⟩
theorem mo_M_comes : qOM m_M_comes := ⟨by decide +kernel, by decide +kernel, ⟨by decide +kernel, by decide +kernel, by decide +kernel⟩, by decide⟩
theorem mo_M_state : qOM m_M_state := ⟨by decide +kernel, by decide +kernel, ⟨by decide +kernel, by decide +kernel, by decide +kernel⟩, by decide⟩
theorem mo_M_shower : qOM m_M_shower := ⟨by decide +kernel, by decide +kernel, ⟨by decide +kernel, by decide +kernel, by decide +kernel⟩, by decide⟩
theorem mo_M_drawOf : qOM m_M_drawOf := ⟨by decide +kernel, by decide +kernel, ⟨by decide +kernel, by decide +kernel, by decide +kernel⟩, by decide⟩
theorem mo_M_sendsOrNot : qOM m_M_sendsOrNot := ⟨by decide +kernel, by decide +kernel, ⟨by decide +kernel, by decide +kernel, by decide +kernel⟩, by decide⟩
theorem mo_M_pattern : qOM m_M_pattern := ⟨by decide +kernel, by decide +kernel, ⟨by decide +kernel, by decide +kernel, by decide +kernel⟩, by decide⟩
theorem mo_M_patternTo : qOM m_M_patternTo := ⟨by decide +kernel, by decide +kernel, ⟨by decide +kernel, by decide +kernel, by decide +kernel⟩, by decide⟩
theorem mo_M_bound : qOM m_M_bound := ⟨by decide +kernel, by decide +kernel, ⟨by decide +kernel, by decide +kernel, by decide +kernel⟩, by decide⟩
theorem mo_M_tick : qOM m_M_tick := ⟨by decide +kernel, by decide +kernel, ⟨by decide +kernel, by decide +kernel, by decide +kernel⟩, by decide⟩
theorem mo_M_ticks : qOM m_M_ticks := ⟨by decide +kernel, by decide +kernel, ⟨by decide +kernel, by decide +kernel, by decide +kernel⟩, by decide⟩
theorem mo_M_delivers : qOM m_M_delivers := ⟨by decide +kernel, by decide +kernel, ⟨by decide +kernel, by decide +kernel, by decide +kernel⟩, by decide⟩
theorem mo_M_firstOf : qOM m_M_firstOf := ⟨by decide +kernel, by decide +kernel, ⟨by decide +kernel, by decide +kernel, by decide +kernel⟩, by decide⟩
theorem mo_M_of : qOM m_M_of := ⟨by decide +kernel, by decide +kernel, ⟨by decide +kernel, by decide +kernel, by decide +kernel⟩, by decide⟩
theorem mo_M_leaves : qOM m_M_leaves := ⟨by decide +kernel, by decide +kernel, ⟨by decide +kernel, by decide +kernel, by decide +kernel⟩, by decide⟩
theorem mo_M_isOvertaken : qOM m_M_isOvertaken := ⟨by decide +kernel, by decide +kernel, ⟨by decide +kernel, by decide +kernel, by decide +kernel⟩, by decide⟩
theorem mo_M_oneGoes : qOM m_M_oneGoes := ⟨by decide +kernel, by decide +kernel, ⟨by decide +kernel, by decide +kernel, by decide +kernel⟩, by decide⟩
theorem mo_M_canGo : qOM m_M_canGo := ⟨by decide +kernel, by decide +kernel, ⟨by decide +kernel, by decide +kernel, by decide +kernel⟩, by decide⟩
theorem mo_M_canByAdaptive : qOM m_M_canByAdaptive := ⟨by decide +kernel, by decide +kernel, ⟨by decide +kernel, by decide +kernel, by decide +kernel⟩, by decide⟩
theorem mo_M_canByEscape : qOM m_M_canByEscape := ⟨by decide +kernel, by decide +kernel, ⟨by decide +kernel, by decide +kernel, by decide +kernel⟩, by decide⟩
theorem mo_M_doesContinue : qOM m_M_doesContinue := ⟨by decide +kernel, by decide +kernel, ⟨by decide +kernel, by decide +kernel, by decide +kernel⟩, by decide⟩
theorem mo_M_isBarred : qOM m_M_isBarred := ⟨by decide +kernel, by decide +kernel, ⟨by decide +kernel, by decide +kernel, by decide +kernel⟩, by decide⟩
theorem mo_M_doesRuleLet : qOM m_M_doesRuleLet := ⟨by decide +kernel, by decide +kernel, ⟨by decide +kernel, by decide +kernel, by decide +kernel⟩, by decide⟩
theorem mo_M_isAhead : qOM m_M_isAhead := ⟨by decide +kernel, by decide +kernel, ⟨by decide +kernel, by decide +kernel, by decide +kernel⟩, by decide⟩
theorem mo_M_goes : qOM m_M_goes := ⟨by decide +kernel, by decide +kernel, ⟨by decide +kernel, by decide +kernel, by decide +kernel⟩, by decide⟩
theorem mo_M_enters3 : qOM m_M_enters3 := ⟨by decide +kernel, by decide +kernel, ⟨by decide +kernel, by decide +kernel, by decide +kernel⟩, by decide⟩
theorem mo_M_notes : qOM m_M_notes := ⟨by decide +kernel, by decide +kernel, ⟨by decide +kernel, by decide +kernel, by decide +kernel⟩, by decide⟩
theorem mo_M_hungers : qOM m_M_hungers := ⟨by decide +kernel, by decide +kernel, ⟨by decide +kernel, by decide +kernel, by decide +kernel⟩, by decide⟩
theorem mo_M_isHungry : qOM m_M_isHungry := ⟨by decide +kernel, by decide +kernel, ⟨by decide +kernel, by decide +kernel, by decide +kernel⟩, by decide⟩
theorem mo_M_marks : qOM m_M_marks := ⟨by decide +kernel, by decide +kernel, ⟨by decide +kernel, by decide +kernel, by decide +kernel⟩, by decide⟩
theorem mo_M_hungriest : qOM m_M_hungriest := ⟨by decide +kernel, by decide +kernel, ⟨by decide +kernel, by decide +kernel, by decide +kernel⟩, by decide⟩
theorem mo_M_freeIn : qOM m_M_freeIn := ⟨by decide +kernel, by decide +kernel, ⟨by decide +kernel, by decide +kernel, by decide +kernel⟩, by decide⟩
theorem mo_M_packet : qOM m_M_packet := ⟨by decide +kernel, by decide +kernel, ⟨by decide +kernel, by decide +kernel, by decide +kernel⟩, by decide⟩
theorem mo_M_isPacket : qOM m_M_isPacket := ⟨by decide +kernel, by decide +kernel, ⟨by decide +kernel, by decide +kernel, by decide +kernel⟩, by decide⟩
theorem mo_M_queue : qOM m_M_queue := ⟨by decide +kernel, by decide +kernel, ⟨by decide +kernel, by decide +kernel, by decide +kernel⟩, by decide⟩
theorem mo_M_ring : qOM m_M_ring := ⟨by decide +kernel, by decide +kernel, ⟨by decide +kernel, by decide +kernel, by decide +kernel⟩, by decide⟩
theorem mo_M_hunger : qOM m_M_hunger := ⟨by decide +kernel, by decide +kernel, ⟨by decide +kernel, by decide +kernel, by decide +kernel⟩, by decide⟩
theorem mo_M_node : qOM m_M_node := ⟨by decide +kernel, by decide +kernel, ⟨by decide +kernel, by decide +kernel, by decide +kernel⟩, by decide⟩
theorem mo_M_inQueues : qOM m_M_inQueues := ⟨by decide +kernel, by decide +kernel, ⟨by decide +kernel, by decide +kernel, by decide +kernel⟩, by decide⟩
theorem mo_M_packetsBy : qOM m_M_packetsBy := ⟨by decide +kernel, by decide +kernel, ⟨by decide +kernel, by decide +kernel, by decide +kernel⟩, by decide⟩
theorem mo_M_longestInDoor : qOM m_M_longestInDoor := ⟨by decide +kernel, by decide +kernel, ⟨by decide +kernel, by decide +kernel, by decide +kernel⟩, by decide⟩
theorem mo_M_move : qOM m_M_move := ⟨by decide +kernel, by decide +kernel, ⟨by decide +kernel, by decide +kernel, by decide +kernel⟩, by decide⟩
theorem mo_M_link : qOM m_M_link := ⟨by decide +kernel, by decide +kernel, ⟨by decide +kernel, by decide +kernel, by decide +kernel⟩, by decide⟩
theorem mo_M_trace : qOM m_M_trace := ⟨by decide +kernel, by decide +kernel, ⟨by decide +kernel, by decide +kernel, by decide +kernel⟩, by decide⟩
theorem mo_M_pair : qOM m_M_pair := ⟨by decide +kernel, by decide +kernel, ⟨by decide +kernel, by decide +kernel, by decide +kernel⟩, by decide⟩
theorem mo_M_lateOf : qOM m_M_lateOf := ⟨by decide +kernel, by decide +kernel, ⟨by decide +kernel, by decide +kernel, by decide +kernel⟩, by decide⟩
theorem mo_M_late : qOM m_M_late := ⟨by decide +kernel, by decide +kernel, ⟨by decide +kernel, by decide +kernel, by decide +kernel⟩, by decide⟩
theorem mo_M_lates : qOM m_M_lates := ⟨by decide +kernel, by decide +kernel, ⟨by decide +kernel, by decide +kernel, by decide +kernel⟩, by decide⟩
theorem mo_M_lateAbove : qOM m_M_lateAbove := ⟨by decide +kernel, by decide +kernel, ⟨by decide +kernel, by decide +kernel, by decide +kernel⟩, by decide⟩
theorem mo_M_goesOn : qOM m_M_goesOn := ⟨by decide +kernel, by decide +kernel, ⟨by decide +kernel, by decide +kernel, by decide +kernel⟩, by decide⟩
theorem mo_M_laysOn : qOM m_M_laysOn := ⟨by decide +kernel, by decide +kernel, ⟨by decide +kernel, by decide +kernel, by decide +kernel⟩, by decide⟩
theorem mo_M_slot : qOM m_M_slot := ⟨by decide +kernel, by decide +kernel, ⟨by decide +kernel, by decide +kernel, by decide +kernel⟩, by decide⟩
theorem mo_M_canNow : qOM m_M_canNow := ⟨by decide +kernel, by decide +kernel, ⟨by decide +kernel, by decide +kernel, by decide +kernel⟩, by decide⟩
theorem mo_M_canThen : qOM m_M_canThen := ⟨by decide +kernel, by decide +kernel, ⟨by decide +kernel, by decide +kernel, by decide +kernel⟩, by decide⟩
theorem mo_M_someOfRing : qOM m_M_someOfRing := ⟨by decide +kernel, by decide +kernel, ⟨by decide +kernel, by decide +kernel, by decide +kernel⟩, by decide⟩
theorem mo_M_stuck : qOM m_M_stuck := ⟨by decide +kernel, by decide +kernel, ⟨by decide +kernel, by decide +kernel, by decide +kernel⟩, by decide⟩
theorem mo_M_dead : qOM m_M_dead := ⟨by decide +kernel, by decide +kernel, ⟨by decide +kernel, by decide +kernel, by decide +kernel⟩, by decide⟩
theorem mo_M_through : qOM m_M_through := ⟨by decide +kernel, by decide +kernel, ⟨by decide +kernel, by decide +kernel, by decide +kernel⟩, by decide⟩
theorem mo_M_laysAside : qOM m_M_laysAside := ⟨by decide +kernel, by decide +kernel, ⟨by decide +kernel, by decide +kernel, by decide +kernel⟩, by decide⟩
theorem mo_M_comesBack : qOM m_M_comesBack := ⟨by decide +kernel, by decide +kernel, ⟨by decide +kernel, by decide +kernel, by decide +kernel⟩, by decide⟩
theorem mo_M_arrives : qOM m_M_arrives := ⟨by decide +kernel, by decide +kernel, ⟨by decide +kernel, by decide +kernel, by decide +kernel⟩, by decide⟩
theorem mo_M_enters : qOM m_M_enters := ⟨by decide +kernel, by decide +kernel, ⟨by decide +kernel, by decide +kernel, by decide +kernel⟩, by decide⟩
theorem mo_M_schedules : qOM m_M_schedules := ⟨by decide +kernel, by decide +kernel, ⟨by decide +kernel, by decide +kernel, by decide +kernel⟩, by decide⟩
theorem mo_M_laysLive : qOM m_M_laysLive := ⟨by decide +kernel, by decide +kernel, ⟨by decide +kernel, by decide +kernel, by decide +kernel⟩, by decide⟩
theorem mo_M_laysSchedules : qOM m_M_laysSchedules := ⟨by decide +kernel, by decide +kernel, ⟨by decide +kernel, by decide +kernel, by decide +kernel⟩, by decide⟩
theorem mo_M_meetsState : qOM m_M_meetsState := ⟨by decide +kernel, by decide +kernel, ⟨by decide +kernel, by decide +kernel, by decide +kernel⟩, by decide⟩
theorem mo_M_placeIn : qOM m_M_placeIn := ⟨by decide +kernel, by decide +kernel, ⟨by decide +kernel, by decide +kernel, by decide +kernel⟩, by decide⟩
theorem mo_M_opensState : qOM m_M_opensState := ⟨by decide +kernel, by decide +kernel, ⟨by decide +kernel, by decide +kernel, by decide +kernel⟩, by decide⟩
theorem mo_M_inLane : qOM m_M_inLane := ⟨by decide +kernel, by decide +kernel, ⟨by decide +kernel, by decide +kernel, by decide +kernel⟩, by decide⟩
theorem mo_M_fewestFree : qOM m_M_fewestFree := ⟨by decide +kernel, by decide +kernel, ⟨by decide +kernel, by decide +kernel, by decide +kernel⟩, by decide⟩
theorem mo_M_goesAll : qOM m_M_goesAll := ⟨by decide +kernel, by decide +kernel, ⟨by decide +kernel, by decide +kernel, by decide +kernel⟩, by decide⟩
theorem mo_M_comesFrom : qOM m_M_comesFrom := ⟨by decide +kernel, by decide +kernel, ⟨by decide +kernel, by decide +kernel, by decide +kernel⟩, by decide⟩
theorem mo_M_stepsTo : qOM m_M_stepsTo := ⟨by decide +kernel, by decide +kernel, ⟨by decide +kernel, by decide +kernel, by decide +kernel⟩, by decide⟩
theorem mo_M_alone : qOM m_M_alone := ⟨by decide +kernel, by decide +kernel, ⟨by decide +kernel, by decide +kernel, by decide +kernel⟩, by decide⟩
theorem mo_M_firstKind : qOM m_M_firstKind := ⟨by decide +kernel, by decide +kernel, ⟨by decide +kernel, by decide +kernel, by decide +kernel⟩, by decide⟩
theorem mo_M_searches : qOM m_M_searches := ⟨by decide +kernel, by decide +kernel, ⟨by decide +kernel, by decide +kernel, by decide +kernel⟩, by decide⟩
theorem mo_M_finds : qOM m_M_finds := ⟨by decide +kernel, by decide +kernel, ⟨by decide +kernel, by decide +kernel, by decide +kernel⟩, by decide⟩
theorem mo_M_laysAfter : qOM m_M_laysAfter := ⟨by decide +kernel, by decide +kernel, ⟨by decide +kernel, by decide +kernel, by decide +kernel⟩, by decide⟩
theorem mo_M_opens : qOM m_M_opens := ⟨by decide +kernel, by decide +kernel, ⟨by decide +kernel, by decide +kernel, by decide +kernel⟩, by decide⟩
theorem mo_M_goalOf : qOM m_M_goalOf := ⟨by decide +kernel, by decide +kernel, ⟨by decide +kernel, by decide +kernel, by decide +kernel⟩, by decide⟩
theorem mo_M_longQueue : qOM m_M_longQueue := ⟨by decide +kernel, by decide +kernel, ⟨by decide +kernel, by decide +kernel, by decide +kernel⟩, by decide⟩
theorem mo_M_power : qOM m_M_power := ⟨by decide +kernel, by decide +kernel, ⟨by decide +kernel, by decide +kernel, by decide +kernel⟩, by decide⟩
theorem mo_M_freeAt : qOM m_M_freeAt := ⟨by decide +kernel, by decide +kernel, ⟨by decide +kernel, by decide +kernel, by decide +kernel⟩, by decide⟩
theorem mo_M_without : qOM m_M_without := ⟨by decide +kernel, by decide +kernel, ⟨by decide +kernel, by decide +kernel, by decide +kernel⟩, by decide⟩
theorem mo_M_withOne : qOM m_M_withOne := ⟨by decide +kernel, by decide +kernel, ⟨by decide +kernel, by decide +kernel, by decide +kernel⟩, by decide⟩
theorem mo_M_number : qOM m_M_number := ⟨by decide +kernel, by decide +kernel, ⟨by decide +kernel, by decide +kernel, by decide +kernel⟩, by decide⟩
theorem mo_M_mayEnter : qOM m_M_mayEnter := ⟨by decide +kernel, by decide +kernel, ⟨by decide +kernel, by decide +kernel, by decide +kernel⟩, by decide⟩
theorem mo_M_soonestDead : qOM m_M_soonestDead := ⟨by decide +kernel, by decide +kernel, ⟨by decide +kernel, by decide +kernel, by decide +kernel⟩, by decide⟩
theorem mo_M_isDeadState : qOM m_M_isDeadState := ⟨by decide +kernel, by decide +kernel, ⟨by decide +kernel, by decide +kernel, by decide +kernel⟩, by decide⟩
theorem mo_M_packetsIn : qOM m_M_packetsIn := ⟨by decide +kernel, by decide +kernel, ⟨by decide +kernel, by decide +kernel, by decide +kernel⟩, by decide⟩
theorem mo_M_isStarving : qOM m_M_isStarving := ⟨by decide +kernel, by decide +kernel, ⟨by decide +kernel, by decide +kernel, by decide +kernel⟩, by decide⟩
theorem mo_M_leadsOn : qOM m_M_leadsOn := ⟨by decide +kernel, by decide +kernel, ⟨by decide +kernel, by decide +kernel, by decide +kernel⟩, by decide⟩
theorem mo_M_longestWait : qOM m_M_longestWait := ⟨by decide +kernel, by decide +kernel, ⟨by decide +kernel, by decide +kernel, by decide +kernel⟩, by decide⟩
theorem mo_M_countOf : qOM m_M_countOf := ⟨by decide +kernel, by decide +kernel, ⟨by decide +kernel, by decide +kernel, by decide +kernel⟩, by decide⟩
theorem mo_M_look : qOM m_M_look := ⟨by decide +kernel, by decide +kernel, ⟨by decide +kernel, by decide +kernel, by decide +kernel⟩, by decide⟩
theorem mo_M_marksNow : qOM m_M_marksNow := ⟨by decide +kernel, by decide +kernel, ⟨by decide +kernel, by decide +kernel, by decide +kernel⟩, by decide⟩
theorem ini_X : Cond.initialized "BubbleTorus" ∈ qT := (tm1 (j := 1) rfl rfl)
theorem ini_G : Cond.initialized "BubbleTorus$Grid" ∈ qT := (tm1 (j := 3) rfl rfl)
theorem ini_L : Cond.initialized "BubbleTorus$LoneRing" ∈ qT := (tm1 (j := 11) rfl rfl)
theorem ini_V : Cond.initialized "BubbleTorus$Moves" ∈ qT := (tm1 (j := 7) rfl rfl)
theorem ini_N : Cond.initialized "BubbleTorus$Net" ∈ qT := (tm1 (j := 2) rfl rfl)
theorem ini_O : Cond.initialized "BubbleTorus$Outlook" ∈ qT := (tm1 (j := 9) rfl rfl)
theorem ini_P : Cond.initialized "BubbleTorus$Packets" ∈ qT := (tm1 (j := 5) rfl rfl)
theorem ini_Q : Cond.initialized "BubbleTorus$Queues" ∈ qT := (tm1 (j := 6) rfl rfl)
theorem ini_R : Cond.initialized "BubbleTorus$Rings" ∈ qT := (tm1 (j := 8) rfl rfl)
theorem ini_S : Cond.initialized "BubbleTorus$Search" ∈ qT := (tm1 (j := 10) rfl rfl)
theorem ini_W : Cond.initialized "BubbleTorusLaw" ∈ qT := (tm1 (j := 0) rfl rfl)
theorem ini_M : Cond.initialized "BubbleTorusModel" ∈ qT := (tm1 (j := 13) rfl rfl)
theorem ini_JM : Cond.initialized "java/lang/Math" ∈ qT := (tm1 (j := 4) rfl rfl)
theorem ini_JA : Cond.initialized "java/util/Arrays" ∈ qT := (tm1 (j := 12) rfl rfl)
def qNest : List (String × Nat × MethodName × String) := [("BubbleTorus", 11, m_N_init.1, "BubbleTorus"), ("BubbleTorus", 26, m_O_init.1, "BubbleTorus"), ("BubbleTorus", 33, m_S_init.1, "BubbleTorus"), ("BubbleTorus", 40, m_L_init.1, "BubbleTorus"), ("BubbleTorus$Grid", 38, m_X_within.1, "BubbleTorus"), ("BubbleTorus$LoneRing", 62, m_X_within.1, "BubbleTorus"), ("BubbleTorus$Moves", 25, m_X_within.1, "BubbleTorus"), ("BubbleTorus$Net", 20, m_P_init.1, "BubbleTorus"), ("BubbleTorus$Net", 27, m_Q_init.1, "BubbleTorus"), ("BubbleTorus$Net", 34, m_V_init.1, "BubbleTorus"), ("BubbleTorus$Net", 41, m_R_init.1, "BubbleTorus"), ("BubbleTorus$Net", 243, m_X_firstOfLane.1, "BubbleTorus")]
theorem qNest_in : ∀ q ∈ qNest, Cond.methodLinkNest q.1 q.2.1 q.2.2.1 q.2.2.2 ∈ lw_tbl := (List.forall_mem_cons.mpr ⟨tn1 (j := 25) rfl, (List.forall_mem_cons.mpr ⟨tn2 (j := 70) rfl, (List.forall_mem_cons.mpr ⟨tn2 (j := 81) rfl, (List.forall_mem_cons.mpr ⟨tn2 (j := 120) rfl, (List.forall_mem_cons.mpr ⟨tn1 (j := 39) rfl, (List.forall_mem_cons.mpr ⟨tn5 (j := 89) rfl, (List.forall_mem_cons.mpr ⟨tn4 (j := 72) rfl, (List.forall_mem_cons.mpr ⟨tn1 (j := 101) rfl, (List.forall_mem_cons.mpr ⟨tn1 (j := 163) rfl, (List.forall_mem_cons.mpr ⟨tn1 (j := 180) rfl, (List.forall_mem_cons.mpr ⟨tn1 (j := 195) rfl, (List.forall_mem_cons.mpr ⟨tn3 (j := 143) rfl, (fun _ h => absurd h List.not_mem_nil)⟩)⟩)⟩)⟩)⟩)⟩)⟩)⟩)⟩)⟩)⟩)⟩)
theorem lk_X_3 : Cond.methodLink "BubbleTorus" 3 m_JO_init.1 ∈ qT := (tm1 (j := 20) rfl rfl)
theorem lk_X_11 : ("BubbleTorus", 11, m_N_init.1, "BubbleTorus") ∈ qNest := List.mem_of_getElem? (i := 0) rfl
theorem lk_X_26 : ("BubbleTorus", 26, m_O_init.1, "BubbleTorus") ∈ qNest := List.mem_of_getElem? (i := 1) rfl
theorem lk_X_33 : ("BubbleTorus", 33, m_S_init.1, "BubbleTorus") ∈ qNest := List.mem_of_getElem? (i := 2) rfl
theorem lk_X_40 : ("BubbleTorus", 40, m_L_init.1, "BubbleTorus") ∈ qNest := List.mem_of_getElem? (i := 3) rfl
theorem lk_X_49 : Cond.methodLink "BubbleTorus" 49 m_N_begin.1 ∈ qT := (tm2 (j := 173) rfl rfl)
theorem lk_X_53 : Cond.methodLink "BubbleTorus" 53 m_X_within.1 ∈ qT := (tm2 (j := 232) rfl rfl)
theorem lk_X_57 : Cond.methodLink "BubbleTorus" 57 m_X_isBound.1 ∈ qT := (tm2 (j := 233) rfl rfl)
theorem lk_X_61 : Cond.methodLink "BubbleTorus" 61 m_G_lay.1 ∈ qT := (tm2 (j := 236) rfl rfl)
theorem lk_X_67 : Cond.methodLink "BubbleTorus" 67 m_N_admit.1 ∈ qT := (tm3 (j := 1) rfl rfl)
theorem lk_X_74 : Cond.methodLink "BubbleTorus" 74 m_X_draw.1 ∈ qT := (tm3 (j := 21) rfl rfl)
theorem lk_X_78 : Cond.methodLink "BubbleTorus" 78 m_N_admitOrLose.1 ∈ qT := (tm3 (j := 27) rfl rfl)
theorem lk_X_81 : Cond.methodLink "BubbleTorus" 81 m_G_hasNode.1 ∈ qT := (tm3 (j := 36) rfl rfl)
theorem lk_X_84 : Cond.methodLink "BubbleTorus" 84 m_G_aimOf.1 ∈ qT := (tm3 (j := 37) rfl rfl)
theorem lk_X_87 : Cond.methodLink "BubbleTorus" 87 m_N_runTick.1 ∈ qT := (tm3 (j := 49) rfl rfl)
theorem lk_X_98 : Cond.methodLink "BubbleTorus" 98 m_P_has.1 ∈ qT := (tm3 (j := 221) rfl rfl)
theorem lk_X_103 : Cond.methodLink "BubbleTorus" 103 m_P_fact.1 ∈ qT := (tm3 (j := 225) rfl rfl)
theorem lk_X_106 : Cond.methodLink "BubbleTorus" 106 m_X_isDirection.1 ∈ qT := (tm3 (j := 233) rfl rfl)
theorem lk_X_109 : Cond.methodLink "BubbleTorus" 109 m_X_firstOfLane.1 ∈ qT := (tm3 (j := 236) rfl rfl)
theorem lk_X_122 : Cond.methodLink "BubbleTorus" 122 m_Q_itemAt.1 ∈ qT := (tm3 (j := 237) rfl rfl)
theorem lk_X_125 : Cond.methodLink "BubbleTorus" 125 m_G_nextBy.1 ∈ qT := (tm4 (j := 5) rfl rfl)
theorem lk_X_128 : Cond.methodLink "BubbleTorus" 128 m_G_distance.1 ∈ qT := (tm4 (j := 10) rfl rfl)
theorem lk_X_131 : Cond.methodLink "BubbleTorus" 131 m_G_nearerBy.1 ∈ qT := (tm4 (j := 15) rfl rfl)
theorem lk_X_134 : Cond.methodLink "BubbleTorus" 134 m_G_wayStep.1 ∈ qT := (tm4 (j := 20) rfl rfl)
theorem lk_X_141 : Cond.methodLink "BubbleTorus" 141 m_G_ringDirection.1 ∈ qT := (tm4 (j := 29) rfl rfl)
theorem lk_X_144 : Cond.methodLink "BubbleTorus" 144 m_G_ringNode.1 ∈ qT := (tm4 (j := 30) rfl rfl)
theorem lk_X_147 : Cond.methodLink "BubbleTorus" 147 m_G_ringLength.1 ∈ qT := (tm4 (j := 31) rfl rfl)
theorem lk_X_150 : Cond.methodLink "BubbleTorus" 150 m_N_heldIn.1 ∈ qT := (tm4 (j := 32) rfl rfl)
theorem lk_X_153 : Cond.methodLink "BubbleTorus" 153 m_N_freeIn.1 ∈ qT := (tm4 (j := 33) rfl rfl)
theorem lk_X_182 : Cond.methodLink "BubbleTorus" 182 m_G_ringIndex.1 ∈ qT := (tm4 (j := 38) rfl rfl)
theorem lk_X_188 : Cond.methodLink "BubbleTorus" 188 m_Q_heldFrom.1 ∈ qT := (tm4 (j := 47) rfl rfl)
theorem lk_X_191 : Cond.methodLink "BubbleTorus" 191 m_P_sentFrom.1 ∈ qT := (tm4 (j := 51) rfl rfl)
theorem lk_X_194 : Cond.methodLink "BubbleTorus" 194 m_P_deliveredTo.1 ∈ qT := (tm4 (j := 55) rfl rfl)
theorem lk_X_200 : Cond.methodLink "BubbleTorus" 200 m_P_longestAtDoor.1 ∈ qT := (tm4 (j := 59) rfl rfl)
theorem lk_X_212 : Cond.methodLink "BubbleTorus" 212 m_V_fact.1 ∈ qT := (tm4 (j := 68) rfl rfl)
theorem lk_X_216 : Cond.methodLink "BubbleTorus" 216 m_P_nodeBehind.1 ∈ qT := (tm4 (j := 81) rfl rfl)
theorem lk_X_219 : Cond.methodLink "BubbleTorus" 219 m_P_sentBetween.1 ∈ qT := (tm4 (j := 89) rfl rfl)
theorem lk_X_222 : Cond.methodLink "BubbleTorus" 222 m_P_deliveredBetween.1 ∈ qT := (tm4 (j := 93) rfl rfl)
theorem lk_X_225 : Cond.methodLink "BubbleTorus" 225 m_P_disorderBetween.1 ∈ qT := (tm4 (j := 97) rfl rfl)
theorem lk_X_228 : Cond.methodLink "BubbleTorus" 228 m_P_latestBetween.1 ∈ qT := (tm4 (j := 101) rfl rfl)
theorem lk_X_231 : Cond.methodLink "BubbleTorus" 231 m_P_lateWithin.1 ∈ qT := (tm4 (j := 113) rfl rfl)
theorem lk_X_234 : Cond.methodLink "BubbleTorus" 234 m_P_differentLates.1 ∈ qT := (tm4 (j := 121) rfl rfl)
theorem lk_X_237 : Cond.methodLink "BubbleTorus" 237 m_P_lateAt.1 ∈ qT := (tm4 (j := 129) rfl rfl)
theorem lk_X_240 : Cond.methodLink "BubbleTorus" 240 m_P_isDelivered.1 ∈ qT := (tm4 (j := 137) rfl rfl)
theorem lk_X_243 : Cond.methodLink "BubbleTorus" 243 m_N_queueOf.1 ∈ qT := (tm4 (j := 138) rfl rfl)
theorem lk_X_246 : Cond.methodLink "BubbleTorus" 246 m_Q_first.1 ∈ qT := (tm4 (j := 142) rfl rfl)
theorem lk_X_249 : Cond.methodLink "BubbleTorus" 249 m_O_judge.1 ∈ qT := (tm4 (j := 143) rfl rfl)
theorem lk_X_257 : Cond.methodLink "BubbleTorus" 257 m_O_held.1 ∈ qT := (tm4 (j := 176) rfl rfl)
theorem lk_X_261 : Cond.methodLink "BubbleTorus" 261 m_P_left.1 ∈ qT := (tm4 (j := 184) rfl rfl)
theorem lk_X_264 : Cond.methodLink "BubbleTorus" 264 m_O_anyGoesOn.1 ∈ qT := (tm4 (j := 188) rfl rfl)
theorem lk_X_268 : Cond.methodLink "BubbleTorus" 268 m_N_copyFrom.1 ∈ qT := (tm4 (j := 196) rfl rfl)
theorem lk_X_271 : Cond.methodLink "BubbleTorus" 271 m_X_ticksUntilDelivered.1 ∈ qT := (tm4 (j := 231) rfl rfl)
theorem lk_X_274 : Cond.methodLink "BubbleTorus" 274 m_N_ruleLets.1 ∈ qT := (tm5 (j := 3) rfl rfl)
theorem lk_X_278 : Cond.methodLink "BubbleTorus" 278 m_N_isBarred.1 ∈ qT := (tm5 (j := 4) rfl rfl)
theorem lk_X_281 : Cond.methodLink "BubbleTorus" 281 m_S_run.1 ∈ qT := (tm5 (j := 9) rfl rfl)
theorem lk_X_288 : Cond.methodLink "BubbleTorus" 288 m_L_answer.1 ∈ qT := (tm5 (j := 82) rfl rfl)
theorem lk_X_311 : Cond.methodLink "BubbleTorus" 311 m_N_heldInLane.1 ∈ qT := (tm5 (j := 156) rfl rfl)
theorem lk_X_314 : Cond.methodLink "BubbleTorus" 314 m_P_lateTogether.1 ∈ qT := (tm5 (j := 157) rfl rfl)
theorem lk_X_317 : Cond.methodLink "BubbleTorus" 317 m_P_hopsTogether.1 ∈ qT := (tm5 (j := 161) rfl rfl)
theorem lk_X_326 : Cond.methodLink "BubbleTorus" 326 m_R_marksNow.1 ∈ qT := (tm5 (j := 165) rfl rfl)
theorem lk_X_329 : Cond.methodLink "BubbleTorus" 329 m_P_disorderTogether.1 ∈ qT := (tm5 (j := 169) rfl rfl)
theorem lk_G_3 : Cond.methodLink "BubbleTorus$Grid" 3 m_JO_init.1 ∈ qT := (tm1 (j := 34) rfl rfl)
theorem lk_G_34 : Cond.methodLink "BubbleTorus$Grid" 34 m_G_lay.1 ∈ qT := (tm1 (j := 35) rfl rfl)
theorem lk_G_38 : ("BubbleTorus$Grid", 38, m_X_within.1, "BubbleTorus") ∈ qNest := List.mem_of_getElem? (i := 4) rfl
theorem lk_G_42 : Cond.methodLink "BubbleTorus$Grid" 42 m_G_step.1 ∈ qT := (tm1 (j := 42) rfl rfl)
theorem lk_G_46 : Cond.methodLink "BubbleTorus$Grid" 46 m_G_directionsNearer.1 ∈ qT := (tm1 (j := 46) rfl rfl)
theorem lk_G_49 : Cond.methodLink "BubbleTorus$Grid" 49 m_G_leastOf.1 ∈ qT := (tm1 (j := 63) rfl rfl)
theorem lk_G_53 : Cond.methodLink "BubbleTorus$Grid" 53 m_G_gap.1 ∈ qT := (tm1 (j := 54) rfl rfl)
theorem lk_G_57 : Cond.methodLink "BubbleTorus$Grid" 57 m_G_distance.1 ∈ qT := (tm1 (j := 50) rfl rfl)
theorem lk_G_60 : Cond.methodLink "BubbleTorus$Grid" 60 m_G_escapeBy.1 ∈ qT := (tm4 (j := 24) rfl rfl)
theorem lk_G_63 : Cond.methodLink "BubbleTorus$Grid" 63 m_G_nextBy.1 ∈ qT := (tm3 (j := 41) rfl rfl)
theorem lk_G_66 : Cond.methodLink "BubbleTorus$Grid" 66 m_JM_abs.1 ∈ qT := (tm1 (j := 57) rfl rfl)
theorem lk_G_71 : Cond.methodLink "BubbleTorus$Grid" 71 m_JM_min.1 ∈ qT := (tm1 (j := 60) rfl rfl)
theorem lk_L_3 : Cond.methodLink "BubbleTorus$LoneRing" 3 m_JO_init.1 ∈ qT := (tm2 (j := 123) rfl rfl)
theorem lk_L_62 : ("BubbleTorus$LoneRing", 62, m_X_within.1, "BubbleTorus") ∈ qNest := List.mem_of_getElem? (i := 5) rfl
theorem lk_L_66 : Cond.methodLink "BubbleTorus$LoneRing" 66 m_L_canBe.1 ∈ qT := (tm5 (j := 86) rfl rfl)
theorem lk_L_70 : Cond.methodLink "BubbleTorus$LoneRing" 70 m_L_solve.1 ∈ qT := (tm5 (j := 90) rfl rfl)
theorem lk_L_74 : Cond.methodLink "BubbleTorus$LoneRing" 74 m_L_prepare.1 ∈ qT := (tm5 (j := 94) rfl rfl)
theorem lk_L_78 : Cond.methodLink "BubbleTorus$LoneRing" 78 m_L_explore.1 ∈ qT := (tm5 (j := 98) rfl rfl)
theorem lk_L_81 : Cond.methodLink "BubbleTorus$LoneRing" 81 m_L_weigh.1 ∈ qT := (tm5 (j := 131) rfl rfl)
theorem lk_L_85 : Cond.methodLink "BubbleTorus$LoneRing" 85 m_L_isStarving.1 ∈ qT := (tm5 (j := 136) rfl rfl)
theorem lk_L_89 : Cond.methodLink "BubbleTorus$LoneRing" 89 m_L_longestWait.1 ∈ qT := (tm5 (j := 144) rfl rfl)
theorem lk_L_93 : Cond.methodLink "BubbleTorus$LoneRing" 93 m_JA_fill.1 ∈ qT := (tm5 (j := 102) rfl rfl)
theorem lk_L_99 : Cond.methodLink "BubbleTorus$LoneRing" 99 m_L_open.1 ∈ qT := (tm5 (j := 103) rfl rfl)
theorem lk_L_103 : Cond.methodLink "BubbleTorus$LoneRing" 103 m_L_listSteps.1 ∈ qT := (tm5 (j := 111) rfl rfl)
theorem lk_L_106 : Cond.methodLink "BubbleTorus$LoneRing" 106 m_JM_max.1 ∈ qT := (tm5 (j := 135) rfl rfl)
theorem lk_L_112 : Cond.methodLink "BubbleTorus$LoneRing" 112 m_L_ruleLets.1 ∈ qT := (tm5 (j := 127) rfl rfl)
theorem lk_L_116 : Cond.methodLink "BubbleTorus$LoneRing" 116 m_L_leadsOn.1 ∈ qT := (tm5 (j := 140) rfl rfl)
theorem lk_L_119 : Cond.methodLink "BubbleTorus$LoneRing" 119 m_L_waitIn.1 ∈ qT := (tm5 (j := 148) rfl rfl)
theorem lk_L_123 : Cond.methodLink "BubbleTorus$LoneRing" 123 m_L_lengthOf.1 ∈ qT := (tm5 (j := 107) rfl rfl)
theorem lk_L_126 : Cond.methodLink "BubbleTorus$LoneRing" 126 m_L_listStepOfFirst.1 ∈ qT := (tm5 (j := 115) rfl rfl)
theorem lk_L_129 : Cond.methodLink "BubbleTorus$LoneRing" 129 m_L_put.1 ∈ qT := (tm5 (j := 123) rfl rfl)
theorem lk_L_132 : Cond.methodLink "BubbleTorus$LoneRing" 132 m_L_addStep.1 ∈ qT := (tm5 (j := 119) rfl rfl)
theorem lk_V_3 : Cond.methodLink "BubbleTorus$Moves" 3 m_JO_init.1 ∈ qT := (tm1 (j := 183) rfl rfl)
theorem lk_V_19 : Cond.methodLink "BubbleTorus$Moves" 19 ⟨"java/lang/System", "arraycopy", "(Ljava/lang/Object;ILjava/lang/Object;II)V"⟩ ∈ qT := (tm4 (j := 208) rfl rfl)
theorem lk_V_25 : ("BubbleTorus$Moves", 25, m_X_within.1, "BubbleTorus") ∈ qNest := List.mem_of_getElem? (i := 6) rfl
theorem lk_N_3 : Cond.methodLink "BubbleTorus$Net" 3 m_JO_init.1 ∈ qT := (tm1 (j := 28) rfl rfl)
theorem lk_N_11 : Cond.methodLink "BubbleTorus$Net" 11 m_G_init.1 ∈ qT := (tm1 (j := 31) rfl rfl)
theorem lk_N_20 : ("BubbleTorus$Net", 20, m_P_init.1, "BubbleTorus") ∈ qNest := List.mem_of_getElem? (i := 7) rfl
theorem lk_N_27 : ("BubbleTorus$Net", 27, m_Q_init.1, "BubbleTorus") ∈ qNest := List.mem_of_getElem? (i := 8) rfl
theorem lk_N_34 : ("BubbleTorus$Net", 34, m_V_init.1, "BubbleTorus") ∈ qNest := List.mem_of_getElem? (i := 9) rfl
theorem lk_N_41 : ("BubbleTorus$Net", 41, m_R_init.1, "BubbleTorus") ∈ qNest := List.mem_of_getElem? (i := 10) rfl
theorem lk_N_75 : Cond.methodLink "BubbleTorus$Net" 75 m_P_clearAll.1 ∈ qT := (tm2 (j := 177) rfl rfl)
theorem lk_N_78 : Cond.methodLink "BubbleTorus$Net" 78 m_Q_clearAll.1 ∈ qT := (tm2 (j := 181) rfl rfl)
theorem lk_N_79 : Cond.methodLink "BubbleTorus$Net" 79 m_R_clearAll.1 ∈ qT := (tm2 (j := 188) rfl rfl)
theorem lk_N_82 : Cond.methodLink "BubbleTorus$Net" 82 m_JA_fill.1 ∈ qT := (tm2 (j := 205) rfl rfl)
theorem lk_N_88 : Cond.methodLink "BubbleTorus$Net" 88 m_G_copyFrom.1 ∈ qT := (tm4 (j := 200) rfl rfl)
theorem lk_N_92 : Cond.methodLink "BubbleTorus$Net" 92 m_V_copyFrom.1 ∈ qT := (tm4 (j := 204) rfl rfl)
theorem lk_N_95 : Cond.methodLink "BubbleTorus$Net" 95 m_P_copyFrom.1 ∈ qT := (tm4 (j := 211) rfl rfl)
theorem lk_N_98 : Cond.methodLink "BubbleTorus$Net" 98 m_Q_copyFrom.1 ∈ qT := (tm4 (j := 220) rfl rfl)
theorem lk_N_101 : Cond.methodLink "BubbleTorus$Net" 101 m_R_copyFrom.1 ∈ qT := (tm4 (j := 225) rfl rfl)
theorem lk_N_104 : Cond.methodLink "BubbleTorus$Net" 104 ⟨"java/lang/System", "arraycopy", "(Ljava/lang/Object;ILjava/lang/Object;II)V"⟩ ∈ qT := (tm4 (j := 230) rfl rfl)
theorem lk_N_110 : Cond.methodLink "BubbleTorus$Net" 110 m_G_hasNode.1 ∈ qT := (tm3 (j := 5) rfl rfl)
theorem lk_N_118 : Cond.methodLink "BubbleTorus$Net" 118 m_P_add.1 ∈ qT := (tm3 (j := 9) rfl rfl)
theorem lk_N_122 : Cond.methodLink "BubbleTorus$Net" 122 m_Q_put.1 ∈ qT := (tm3 (j := 13) rfl rfl)
theorem lk_N_126 : Cond.methodLink "BubbleTorus$Net" 126 m_N_admit.1 ∈ qT := (tm3 (j := 31) rfl rfl)
theorem lk_N_130 : Cond.methodLink "BubbleTorus$Net" 130 m_R_forgetEntries.1 ∈ qT := (tm3 (j := 53) rfl rfl)
theorem lk_N_133 : Cond.methodLink "BubbleTorus$Net" 133 m_N_deliverFirsts.1 ∈ qT := (tm3 (j := 54) rfl rfl)
theorem lk_N_140 : Cond.methodLink "BubbleTorus$Net" 140 m_N_chosenQueue.1 ∈ qT := (tm3 (j := 82) rfl rfl)
theorem lk_N_143 : Cond.methodLink "BubbleTorus$Net" 143 m_N_goFrom.1 ∈ qT := (tm3 (j := 135) rfl rfl)
theorem lk_N_147 : Cond.methodLink "BubbleTorus$Net" 147 m_N_feelHunger.1 ∈ qT := (tm3 (j := 154) rfl rfl)
theorem lk_N_150 : Cond.methodLink "BubbleTorus$Net" 150 m_N_turnMarks.1 ∈ qT := (tm3 (j := 170) rfl rfl)
theorem lk_N_153 : Cond.methodLink "BubbleTorus$Net" 153 m_N_noteFewest.1 ∈ qT := (tm3 (j := 196) rfl rfl)
theorem lk_N_156 : Cond.methodLink "BubbleTorus$Net" 156 m_Q_first.1 ∈ qT := (tm3 (j := 58) rfl rfl)
theorem lk_N_163 : Cond.methodLink "BubbleTorus$Net" 163 m_Q_dropFirst.1 ∈ qT := (tm3 (j := 62) rfl rfl)
theorem lk_N_167 : Cond.methodLink "BubbleTorus$Net" 167 m_P_noteDelivery.1 ∈ qT := (tm3 (j := 66) rfl rfl)
theorem lk_N_173 : Cond.methodLink "BubbleTorus$Net" 173 m_N_canGo.1 ∈ qT := (tm3 (j := 86) rfl rfl)
theorem lk_N_177 : Cond.methodLink "BubbleTorus$Net" 177 m_N_continues.1 ∈ qT := (tm3 (j := 127) rfl rfl)
theorem lk_N_180 : Cond.methodLink "BubbleTorus$Net" 180 m_N_adaptiveLets.1 ∈ qT := (tm3 (j := 90) rfl rfl)
theorem lk_N_183 : Cond.methodLink "BubbleTorus$Net" 183 m_N_escapeLets.1 ∈ qT := (tm3 (j := 103) rfl rfl)
theorem lk_N_186 : Cond.methodLink "BubbleTorus$Net" 186 m_N_isBarred.1 ∈ qT := (tm3 (j := 131) rfl rfl)
theorem lk_N_190 : Cond.methodLink "BubbleTorus$Net" 190 m_N_isEscape.1 ∈ qT := (tm3 (j := 107) rfl rfl)
theorem lk_N_193 : Cond.methodLink "BubbleTorus$Net" 193 m_G_escapeBy.1 ∈ qT := (tm3 (j := 111) rfl rfl)
theorem lk_N_196 : Cond.methodLink "BubbleTorus$Net" 196 m_G_nearerBy.1 ∈ qT := (tm3 (j := 98) rfl rfl)
theorem lk_N_199 : Cond.methodLink "BubbleTorus$Net" 199 m_N_isProfitable.1 ∈ qT := (tm3 (j := 94) rfl rfl)
theorem lk_N_202 : Cond.methodLink "BubbleTorus$Net" 202 m_G_nextBy.1 ∈ qT := (tm3 (j := 102) rfl rfl)
theorem lk_N_205 : Cond.methodLink "BubbleTorus$Net" 205 m_N_freeAhead.1 ∈ qT := (tm3 (j := 115) rfl rfl)
theorem lk_N_208 : Cond.methodLink "BubbleTorus$Net" 208 m_N_ruleLets.1 ∈ qT := (tm3 (j := 119) rfl rfl)
theorem lk_N_217 : Cond.methodLink "BubbleTorus$Net" 217 m_G_ringIndex.1 ∈ qT := (tm3 (j := 123) rfl rfl)
theorem lk_N_233 : Cond.methodLink "BubbleTorus$Net" 233 m_N_shift.1 ∈ qT := (tm3 (j := 139) rfl rfl)
theorem lk_N_237 : Cond.methodLink "BubbleTorus$Net" 237 m_P_noteHop.1 ∈ qT := (tm3 (j := 146) rfl rfl)
theorem lk_N_241 : Cond.methodLink "BubbleTorus$Net" 241 m_V_add.1 ∈ qT := (tm3 (j := 150) rfl rfl)
theorem lk_N_243 : ("BubbleTorus$Net", 243, m_X_firstOfLane.1, "BubbleTorus") ∈ qNest := List.mem_of_getElem? (i := 11) rfl
theorem lk_N_246 : Cond.methodLink "BubbleTorus$Net" 246 m_N_wantsIn.1 ∈ qT := (tm3 (j := 158) rfl rfl)
theorem lk_N_249 : Cond.methodLink "BubbleTorus$Net" 249 m_R_noteHunger.1 ∈ qT := (tm3 (j := 162) rfl rfl)
theorem lk_N_255 : Cond.methodLink "BubbleTorus$Net" 255 m_G_ringDirection.1 ∈ qT := (tm3 (j := 174) rfl rfl)
theorem lk_N_267 : Cond.methodLink "BubbleTorus$Net" 267 m_R_carryMark.1 ∈ qT := (tm3 (j := 178) rfl rfl)
theorem lk_N_270 : Cond.methodLink "BubbleTorus$Net" 270 m_R_endMark.1 ∈ qT := (tm3 (j := 182) rfl rfl)
theorem lk_N_273 : Cond.methodLink "BubbleTorus$Net" 273 m_N_hungriestIn.1 ∈ qT := (tm3 (j := 186) rfl rfl)
theorem lk_N_276 : Cond.methodLink "BubbleTorus$Net" 276 m_R_setMark.1 ∈ qT := (tm3 (j := 192) rfl rfl)
theorem lk_N_279 : Cond.methodLink "BubbleTorus$Net" 279 m_G_ringLength.1 ∈ qT := (tm3 (j := 190) rfl rfl)
theorem lk_N_282 : Cond.methodLink "BubbleTorus$Net" 282 m_G_ringNode.1 ∈ qT := (tm3 (j := 191) rfl rfl)
theorem lk_N_288 : Cond.methodLink "BubbleTorus$Net" 288 m_N_freeIn.1 ∈ qT := (tm3 (j := 200) rfl rfl)
theorem lk_N_291 : Cond.methodLink "BubbleTorus$Net" 291 m_JM_min.1 ∈ qT := (tm3 (j := 208) rfl rfl)
theorem lk_N_296 : Cond.methodLink "BubbleTorus$Net" 296 m_N_heldIn.1 ∈ qT := (tm3 (j := 204) rfl rfl)
theorem lk_N_299 : Cond.methodLink "BubbleTorus$Net" 299 m_Q_heldFrom.1 ∈ qT := (tm5 (j := 74) rfl rfl)
theorem lk_O_3 : Cond.methodLink "BubbleTorus$Outlook" 3 m_JO_init.1 ∈ qT := (tm2 (j := 73) rfl rfl)
theorem lk_O_27 : Cond.methodLink "BubbleTorus$Outlook" 27 m_O_goesAtOnce.1 ∈ qT := (tm4 (j := 147) rfl rfl)
theorem lk_O_31 : Cond.methodLink "BubbleTorus$Outlook" 31 m_O_follows.1 ∈ qT := (tm4 (j := 157) rfl rfl)
theorem lk_O_34 : Cond.methodLink "BubbleTorus$Outlook" 34 m_N_isInTo.1 ∈ qT := (tm4 (j := 151) rfl rfl)
theorem lk_O_38 : Cond.methodLink "BubbleTorus$Outlook" 38 m_N_adaptiveLets.1 ∈ qT := (tm4 (j := 155) rfl rfl)
theorem lk_O_42 : Cond.methodLink "BubbleTorus$Outlook" 42 m_N_escapeLets.1 ∈ qT := (tm4 (j := 156) rfl rfl)
theorem lk_O_45 : Cond.methodLink "BubbleTorus$Outlook" 45 m_G_nextBy.1 ∈ qT := (tm4 (j := 161) rfl rfl)
theorem lk_O_49 : Cond.methodLink "BubbleTorus$Outlook" 49 m_N_isProfitable.1 ∈ qT := (tm4 (j := 162) rfl rfl)
theorem lk_O_52 : Cond.methodLink "BubbleTorus$Outlook" 52 m_N_isEscape.1 ∈ qT := (tm4 (j := 163) rfl rfl)
theorem lk_O_55 : Cond.methodLink "BubbleTorus$Outlook" 55 m_N_continues.1 ∈ qT := (tm4 (j := 164) rfl rfl)
theorem lk_O_58 : Cond.methodLink "BubbleTorus$Outlook" 58 m_O_anyInRing.1 ∈ qT := (tm4 (j := 165) rfl rfl)
theorem lk_O_62 : Cond.methodLink "BubbleTorus$Outlook" 62 m_G_ringIndex.1 ∈ qT := (tm4 (j := 169) rfl rfl)
theorem lk_O_65 : Cond.methodLink "BubbleTorus$Outlook" 65 m_G_ringLength.1 ∈ qT := (tm4 (j := 170) rfl rfl)
theorem lk_O_69 : Cond.methodLink "BubbleTorus$Outlook" 69 m_G_ringNode.1 ∈ qT := (tm4 (j := 171) rfl rfl)
theorem lk_P_3 : Cond.methodLink "BubbleTorus$Packets" 3 m_JO_init.1 ∈ qT := (tm1 (j := 104) rfl rfl)
theorem lk_P_58 : Cond.methodLink "BubbleTorus$Packets" 58 m_P_copyRow.1 ∈ qT := (tm4 (j := 215) rfl rfl)
theorem lk_P_62 : Cond.methodLink "BubbleTorus$Packets" 62 ⟨"java/lang/System", "arraycopy", "(Ljava/lang/Object;ILjava/lang/Object;II)V"⟩ ∈ qT := (tm4 (j := 219) rfl rfl)
theorem lk_P_68 : Cond.methodLink "BubbleTorus$Packets" 68 m_P_laterIsDelivered.1 ∈ qT := (tm3 (j := 70) rfl rfl)
theorem lk_P_72 : Cond.methodLink "BubbleTorus$Packets" 72 m_P_isBetween.1 ∈ qT := (tm3 (j := 74) rfl rfl)
theorem lk_P_76 : Cond.methodLink "BubbleTorus$Packets" 76 m_P_isDelivered.1 ∈ qT := (tm3 (j := 78) rfl rfl)
theorem lk_P_79 : Cond.methodLink "BubbleTorus$Packets" 79 m_JM_max.1 ∈ qT := (tm4 (j := 63) rfl rfl)
theorem lk_P_85 : Cond.methodLink "BubbleTorus$Packets" 85 m_P_lateness.1 ∈ qT := (tm4 (j := 105) rfl rfl)
theorem lk_P_89 : Cond.methodLink "BubbleTorus$Packets" 89 m_P_lateAbove.1 ∈ qT := (tm4 (j := 125) rfl rfl)
theorem lk_Q_3 : Cond.methodLink "BubbleTorus$Queues" 3 m_JO_init.1 ∈ qT := (tm1 (j := 166) rfl rfl)
theorem lk_Q_18 : Cond.methodLink "BubbleTorus$Queues" 18 m_JA_fill.1 ∈ qT := (tm2 (j := 185) rfl rfl)
theorem lk_Q_24 : Cond.methodLink "BubbleTorus$Queues" 24 ⟨"java/lang/System", "arraycopy", "(Ljava/lang/Object;ILjava/lang/Object;II)V"⟩ ∈ qT := (tm4 (j := 224) rfl rfl)
theorem lk_R_3 : Cond.methodLink "BubbleTorus$Rings" 3 m_JO_init.1 ∈ qT := (tm1 (j := 198) rfl rfl)
theorem lk_R_44 : Cond.methodLink "BubbleTorus$Rings" 44 m_JA_fill.1 ∈ qT := (tm2 (j := 192) rfl rfl)
theorem lk_R_55 : Cond.methodLink "BubbleTorus$Rings" 55 m_G_ringNode.1 ∈ qT := (tm2 (j := 193) rfl rfl)
theorem lk_R_59 : Cond.methodLink "BubbleTorus$Rings" 59 m_G_ringLength.1 ∈ qT := (tm2 (j := 197) rfl rfl)
theorem lk_R_63 : Cond.methodLink "BubbleTorus$Rings" 63 m_R_forgetEntries.1 ∈ qT := (tm2 (j := 201) rfl rfl)
theorem lk_R_66 : Cond.methodLink "BubbleTorus$Rings" 66 ⟨"java/lang/System", "arraycopy", "(Ljava/lang/Object;ILjava/lang/Object;II)V"⟩ ∈ qT := (tm4 (j := 229) rfl rfl)
theorem lk_R_72 : Cond.methodLink "BubbleTorus$Rings" 72 m_JM_min.1 ∈ qT := (tm3 (j := 166) rfl rfl)
theorem lk_R_77 : Cond.methodLink "BubbleTorus$Rings" 77 m_JM_max.1 ∈ qT := (tm3 (j := 167) rfl rfl)
theorem lk_S_3 : Cond.methodLink "BubbleTorus$Search" 3 m_JO_init.1 ∈ qT := (tm2 (j := 84) rfl rfl)
theorem lk_S_51 : Cond.methodLink "BubbleTorus$Search" 51 m_P_left.1 ∈ qT := (tm5 (j := 13) rfl rfl)
theorem lk_S_56 : Cond.methodLink "BubbleTorus$Search" 56 m_S_findLeft.1 ∈ qT := (tm5 (j := 14) rfl rfl)
theorem lk_S_60 : Cond.methodLink "BubbleTorus$Search" 60 m_JA_fill.1 ∈ qT := (tm5 (j := 18) rfl rfl)
theorem lk_S_66 : Cond.methodLink "BubbleTorus$Search" 66 m_S_reach.1 ∈ qT := (tm5 (j := 21) rfl rfl)
theorem lk_S_70 : Cond.methodLink "BubbleTorus$Search" 70 m_S_open.1 ∈ qT := (tm5 (j := 39) rfl rfl)
theorem lk_S_74 : Cond.methodLink "BubbleTorus$Search" 74 m_S_extend.1 ∈ qT := (tm5 (j := 47) rfl rfl)
theorem lk_S_77 : Cond.methodLink "BubbleTorus$Search" 77 m_S_weigh.1 ∈ qT := (tm5 (j := 66) rfl rfl)
theorem lk_S_81 : Cond.methodLink "BubbleTorus$Search" 81 m_P_isDelivered.1 ∈ qT := (tm5 (j := 19) rfl rfl)
theorem lk_S_85 : Cond.methodLink "BubbleTorus$Search" 85 m_N_queueOf.1 ∈ qT := (tm5 (j := 20) rfl rfl)
theorem lk_S_93 : Cond.methodLink "BubbleTorus$Search" 93 m_Q_first.1 ∈ qT := (tm5 (j := 51) rfl rfl)
theorem lk_S_98 : Cond.methodLink "BubbleTorus$Search" 98 m_N_isInTo.1 ∈ qT := (tm5 (j := 52) rfl rfl)
theorem lk_S_102 : Cond.methodLink "BubbleTorus$Search" 102 m_Q_dropFirst.1 ∈ qT := (tm5 (j := 53) rfl rfl)
theorem lk_S_106 : Cond.methodLink "BubbleTorus$Search" 106 m_S_close.1 ∈ qT := (tm5 (j := 54) rfl rfl)
theorem lk_S_110 : Cond.methodLink "BubbleTorus$Search" 110 m_S_tryBy.1 ∈ qT := (tm5 (j := 58) rfl rfl)
theorem lk_S_117 : Cond.methodLink "BubbleTorus$Search" 117 m_G_nextBy.1 ∈ qT := (tm5 (j := 62) rfl rfl)
theorem lk_S_123 : Cond.methodLink "BubbleTorus$Search" 123 m_N_adaptiveLets.1 ∈ qT := (tm5 (j := 63) rfl rfl)
theorem lk_S_127 : Cond.methodLink "BubbleTorus$Search" 127 m_N_shift.1 ∈ qT := (tm5 (j := 64) rfl rfl)
theorem lk_S_131 : Cond.methodLink "BubbleTorus$Search" 131 m_N_escapeLets.1 ∈ qT := (tm5 (j := 65) rfl rfl)
theorem lk_S_134 : Cond.methodLink "BubbleTorus$Search" 134 m_S_keyOf.1 ∈ qT := (tm5 (j := 25) rfl rfl)
theorem lk_S_139 : Cond.methodLink "BubbleTorus$Search" 139 m_Q_placeOf.1 ∈ qT := (tm5 (j := 29) rfl rfl)
theorem lk_S_153 : Cond.methodLink "BubbleTorus$Search" 153 m_G_ringDirection.1 ∈ qT := (tm5 (j := 33) rfl rfl)
theorem lk_S_156 : Cond.methodLink "BubbleTorus$Search" 156 m_G_placeInRing.1 ∈ qT := (tm5 (j := 34) rfl rfl)
theorem lk_S_161 : Cond.methodLink "BubbleTorus$Search" 161 m_G_ringNode.1 ∈ qT := (tm5 (j := 44) rfl rfl)
theorem lk_S_169 : Cond.methodLink "BubbleTorus$Search" 169 m_Q_put.1 ∈ qT := (tm5 (j := 46) rfl rfl)
theorem lk_S_173 : Cond.methodLink "BubbleTorus$Search" 173 m_N_heldInLane.1 ∈ qT := (tm5 (j := 70) rfl rfl)
theorem lk_S_176 : Cond.methodLink "BubbleTorus$Search" 176 m_JM_max.1 ∈ qT := (tm5 (j := 75) rfl rfl)
theorem lk_S_181 : Cond.methodLink "BubbleTorus$Search" 181 m_N_freeIn.1 ∈ qT := (tm5 (j := 76) rfl rfl)
theorem lk_S_184 : Cond.methodLink "BubbleTorus$Search" 184 m_JM_min.1 ∈ qT := (tm5 (j := 77) rfl rfl)
theorem lk_W_9 : Cond.methodLink "BubbleTorusLaw" 9 m_X_init.1 ∈ qT := (tm1 (j := 17) rfl rfl)
theorem lk_W_12 : Cond.methodLink "BubbleTorusLaw" 12 m_M_init.1 ∈ qT := (tm5 (j := 175) rfl rfl)
theorem lk_W_13 : Cond.methodLink "BubbleTorusLaw" 13 m_X_torus.1 ∈ qT := (tm2 (j := 228) rfl rfl)
theorem lk_W_17 : Cond.methodLink "BubbleTorusLaw" 17 m_M_torus.1 ∈ qT := (tm6 (j := 41) rfl rfl)
theorem lk_W_18 : Cond.methodLink "BubbleTorusLaw" 18 m_X_send.1 ∈ qT := (tm2 (j := 237) rfl rfl)
theorem lk_W_22 : Cond.methodLink "BubbleTorusLaw" 22 m_M_send.1 ∈ qT := (tm6 (j := 102) rfl rfl)
theorem lk_W_23 : Cond.methodLink "BubbleTorusLaw" 23 m_X_shower.1 ∈ qT := (tm3 (j := 17) rfl rfl)
theorem lk_W_27 : Cond.methodLink "BubbleTorusLaw" 27 m_M_shower.1 ∈ qT := (tm6 (j := 136) rfl rfl)
theorem lk_W_28 : Cond.methodLink "BubbleTorusLaw" 28 m_X_pattern.1 ∈ qT := (tm3 (j := 32) rfl rfl)
theorem lk_W_31 : Cond.methodLink "BubbleTorusLaw" 31 m_M_pattern.1 ∈ qT := (tm6 (j := 150) rfl rfl)
theorem lk_W_32 : Cond.methodLink "BubbleTorusLaw" 32 m_X_tick.1 ∈ qT := (tm3 (j := 45) rfl rfl)
theorem lk_W_35 : Cond.methodLink "BubbleTorusLaw" 35 m_M_tick.1 ∈ qT := (tm6 (j := 162) rfl rfl)
theorem lk_W_36 : Cond.methodLink "BubbleTorusLaw" 36 m_X_state.1 ∈ qT := (tm3 (j := 209) rfl rfl)
theorem lk_W_39 : Cond.methodLink "BubbleTorusLaw" 39 m_M_state.1 ∈ qT := (tm6 (j := 132) rfl rfl)
theorem lk_W_40 : Cond.methodLink "BubbleTorusLaw" 40 m_X_bound.1 ∈ qT := (tm3 (j := 213) rfl rfl)
theorem lk_W_44 : Cond.methodLink "BubbleTorusLaw" 44 m_M_bound.1 ∈ qT := (tm6 (j := 158) rfl rfl)
theorem lk_W_45 : Cond.methodLink "BubbleTorusLaw" 45 m_X_packet.1 ∈ qT := (tm3 (j := 217) rfl rfl)
theorem lk_W_48 : Cond.methodLink "BubbleTorusLaw" 48 m_M_packet.1 ∈ qT := (tm7 (j := 14) rfl rfl)
theorem lk_W_49 : Cond.methodLink "BubbleTorusLaw" 49 m_X_queue.1 ∈ qT := (tm3 (j := 229) rfl rfl)
theorem lk_W_53 : Cond.methodLink "BubbleTorusLaw" 53 m_M_queue.1 ∈ qT := (tm7 (j := 22) rfl rfl)
theorem lk_W_54 : Cond.methodLink "BubbleTorusLaw" 54 m_X_next.1 ∈ qT := (tm4 (j := 1) rfl rfl)
theorem lk_W_57 : Cond.methodLink "BubbleTorusLaw" 57 m_M_next.1 ∈ qT := (tm6 (j := 48) rfl rfl)
theorem lk_W_58 : Cond.methodLink "BubbleTorusLaw" 58 m_X_far.1 ∈ qT := (tm4 (j := 6) rfl rfl)
theorem lk_W_61 : Cond.methodLink "BubbleTorusLaw" 61 m_M_far.1 ∈ qT := (tm6 (j := 67) rfl rfl)
theorem lk_W_62 : Cond.methodLink "BubbleTorusLaw" 62 m_X_profitable.1 ∈ qT := (tm4 (j := 11) rfl rfl)
theorem lk_W_65 : Cond.methodLink "BubbleTorusLaw" 65 m_M_profitable.1 ∈ qT := (tm6 (j := 78) rfl rfl)
theorem lk_W_66 : Cond.methodLink "BubbleTorusLaw" 66 m_X_way.1 ∈ qT := (tm4 (j := 16) rfl rfl)
theorem lk_W_70 : Cond.methodLink "BubbleTorusLaw" 70 m_M_way.1 ∈ qT := (tm6 (j := 86) rfl rfl)
theorem lk_W_71 : Cond.methodLink "BubbleTorusLaw" 71 m_X_ring.1 ∈ qT := (tm4 (j := 25) rfl rfl)
theorem lk_W_74 : Cond.methodLink "BubbleTorusLaw" 74 m_M_ring.1 ∈ qT := (tm7 (j := 26) rfl rfl)
theorem lk_W_75 : Cond.methodLink "BubbleTorusLaw" 75 m_X_ringOf.1 ∈ qT := (tm4 (j := 34) rfl rfl)
theorem lk_W_78 : Cond.methodLink "BubbleTorusLaw" 78 m_M_ringOf.1 ∈ qT := (tm6 (j := 94) rfl rfl)
theorem lk_W_79 : Cond.methodLink "BubbleTorusLaw" 79 m_X_hunger.1 ∈ qT := (tm4 (j := 39) rfl rfl)
theorem lk_W_82 : Cond.methodLink "BubbleTorusLaw" 82 m_M_hunger.1 ∈ qT := (tm7 (j := 30) rfl rfl)
theorem lk_W_83 : Cond.methodLink "BubbleTorusLaw" 83 m_X_node.1 ∈ qT := (tm4 (j := 43) rfl rfl)
theorem lk_W_86 : Cond.methodLink "BubbleTorusLaw" 86 m_M_node.1 ∈ qT := (tm7 (j := 34) rfl rfl)
theorem lk_W_87 : Cond.methodLink "BubbleTorusLaw" 87 m_X_move.1 ∈ qT := (tm4 (j := 64) rfl rfl)
theorem lk_W_90 : Cond.methodLink "BubbleTorusLaw" 90 m_M_move.1 ∈ qT := (tm7 (j := 50) rfl rfl)
theorem lk_W_91 : Cond.methodLink "BubbleTorusLaw" 91 m_X_link.1 ∈ qT := (tm4 (j := 73) rfl rfl)
theorem lk_W_94 : Cond.methodLink "BubbleTorusLaw" 94 m_M_link.1 ∈ qT := (tm7 (j := 54) rfl rfl)
theorem lk_W_95 : Cond.methodLink "BubbleTorusLaw" 95 m_X_trace.1 ∈ qT := (tm4 (j := 77) rfl rfl)
theorem lk_W_98 : Cond.methodLink "BubbleTorusLaw" 98 m_M_trace.1 ∈ qT := (tm7 (j := 58) rfl rfl)
theorem lk_W_99 : Cond.methodLink "BubbleTorusLaw" 99 m_X_pair.1 ∈ qT := (tm4 (j := 85) rfl rfl)
theorem lk_W_102 : Cond.methodLink "BubbleTorusLaw" 102 m_M_pair.1 ∈ qT := (tm7 (j := 62) rfl rfl)
theorem lk_W_103 : Cond.methodLink "BubbleTorusLaw" 103 m_X_late.1 ∈ qT := (tm4 (j := 109) rfl rfl)
theorem lk_W_106 : Cond.methodLink "BubbleTorusLaw" 106 m_M_late.1 ∈ qT := (tm7 (j := 70) rfl rfl)
theorem lk_W_107 : Cond.methodLink "BubbleTorusLaw" 107 m_X_lates.1 ∈ qT := (tm4 (j := 117) rfl rfl)
theorem lk_W_110 : Cond.methodLink "BubbleTorusLaw" 110 m_M_lates.1 ∈ qT := (tm7 (j := 74) rfl rfl)
theorem lk_W_111 : Cond.methodLink "BubbleTorusLaw" 111 m_X_goesOn.1 ∈ qT := (tm4 (j := 133) rfl rfl)
theorem lk_W_114 : Cond.methodLink "BubbleTorusLaw" 114 m_M_goesOn.1 ∈ qT := (tm7 (j := 83) rfl rfl)
theorem lk_W_115 : Cond.methodLink "BubbleTorusLaw" 115 m_X_stuck.1 ∈ qT := (tm4 (j := 172) rfl rfl)
theorem lk_W_119 : Cond.methodLink "BubbleTorusLaw" 119 m_M_stuck.1 ∈ qT := (tm7 (j := 106) rfl rfl)
theorem lk_W_120 : Cond.methodLink "BubbleTorusLaw" 120 m_X_dead.1 ∈ qT := (tm4 (j := 180) rfl rfl)
theorem lk_W_123 : Cond.methodLink "BubbleTorusLaw" 123 m_M_dead.1 ∈ qT := (tm7 (j := 110) rfl rfl)
theorem lk_W_124 : Cond.methodLink "BubbleTorusLaw" 124 m_X_through.1 ∈ qT := (tm4 (j := 192) rfl rfl)
theorem lk_W_127 : Cond.methodLink "BubbleTorusLaw" 127 m_M_through.1 ∈ qT := (tm7 (j := 115) rfl rfl)
theorem lk_W_128 : Cond.methodLink "BubbleTorusLaw" 128 m_X_arrives.1 ∈ qT := (tm4 (j := 235) rfl rfl)
theorem lk_W_131 : Cond.methodLink "BubbleTorusLaw" 131 m_M_arrives.1 ∈ qT := (tm7 (j := 127) rfl rfl)
theorem lk_W_132 : Cond.methodLink "BubbleTorusLaw" 132 m_X_enters.1 ∈ qT := (tm4 (j := 239) rfl rfl)
theorem lk_W_135 : Cond.methodLink "BubbleTorusLaw" 135 m_M_enters.1 ∈ qT := (tm7 (j := 131) rfl rfl)
theorem lk_W_136 : Cond.methodLink "BubbleTorusLaw" 136 m_X_schedules.1 ∈ qT := (tm5 (j := 5) rfl rfl)
theorem lk_W_139 : Cond.methodLink "BubbleTorusLaw" 139 m_M_schedules.1 ∈ qT := (tm7 (j := 135) rfl rfl)
theorem lk_W_140 : Cond.methodLink "BubbleTorusLaw" 140 m_X_alone.1 ∈ qT := (tm5 (j := 78) rfl rfl)
theorem lk_W_143 : Cond.methodLink "BubbleTorusLaw" 143 m_M_alone.1 ∈ qT := (tm7 (j := 180) rfl rfl)
theorem lk_W_144 : Cond.methodLink "BubbleTorusLaw" 144 m_X_look.1 ∈ qT := (tm5 (j := 152) rfl rfl)
theorem lk_W_147 : Cond.methodLink "BubbleTorusLaw" 147 m_M_look.1 ∈ qT := (tm8 (j := 25) rfl rfl)
theorem lk_M_1 : Cond.methodLink "BubbleTorusModel" 1 m_JO_init.1 ∈ qT := (tm5 (j := 178) rfl rfl)
theorem lk_M_50 : Cond.methodLink "BubbleTorusModel" 50 m_M_begins.1 ∈ qT := (tm5 (j := 179) rfl rfl)
theorem lk_M_54 : Cond.methodLink "BubbleTorusModel" 54 m_M_rings.1 ∈ qT := (tm5 (j := 183) rfl rfl)
theorem lk_M_58 : Cond.methodLink "BubbleTorusModel" 58 m_M_ringAt.1 ∈ qT := (tm5 (j := 187) rfl rfl)
theorem lk_M_62 : Cond.methodLink "BubbleTorusModel" 62 m_M_leastNode.1 ∈ qT := (tm5 (j := 190) rfl rfl)
theorem lk_M_65 : Cond.methodLink "BubbleTorusModel" 65 m_M_longOf.1 ∈ qT := (tm5 (j := 198) rfl rfl)
theorem lk_M_68 : Cond.methodLink "BubbleTorusModel" 68 m_M_isIn.1 ∈ qT := (tm6 (j := 45) rfl rfl)
theorem lk_M_72 : Cond.methodLink "BubbleTorusModel" 72 m_M_nodes.1 ∈ qT := (tm6 (j := 56) rfl rfl)
theorem lk_M_75 : Cond.methodLink "BubbleTorusModel" 75 m_M_apart.1 ∈ qT := (tm6 (j := 75) rfl rfl)
theorem lk_M_79 : Cond.methodLink "BubbleTorusModel" 79 m_M_nextOf.1 ∈ qT := (tm6 (j := 63) rfl rfl)
theorem lk_M_83 : Cond.methodLink "BubbleTorusModel" 83 m_M_farOf.1 ∈ qT := (tm6 (j := 71) rfl rfl)
theorem lk_M_86 : Cond.methodLink "BubbleTorusModel" 86 m_M_isProfitable.1 ∈ qT := (tm6 (j := 82) rfl rfl)
theorem lk_M_89 : Cond.methodLink "BubbleTorusModel" 89 m_M_directionOf.1 ∈ qT := (tm5 (j := 194) rfl rfl)
theorem lk_M_92 : Cond.methodLink "BubbleTorusModel" 92 m_M_isNode.1 ∈ qT := (tm6 (j := 52) rfl rfl)
theorem lk_M_96 : Cond.methodLink "BubbleTorusModel" 96 m_M_isDirection.1 ∈ qT := (tm6 (j := 60) rfl rfl)
theorem lk_M_99 : Cond.methodLink "BubbleTorusModel" 99 m_M_escapeOf.1 ∈ qT := (tm6 (j := 90) rfl rfl)
theorem lk_M_102 : Cond.methodLink "BubbleTorusModel" 102 m_M_ringFor.1 ∈ qT := (tm6 (j := 98) rfl rfl)
theorem lk_M_105 : Cond.methodLink "BubbleTorusModel" 105 m_M_queueAt.1 ∈ qT := (tm6 (j := 122) rfl rfl)
theorem lk_M_108 : Cond.methodLink "BubbleTorusModel" 108 m_M_many.1 ∈ qT := (tm6 (j := 118) rfl rfl)
theorem lk_M_111 : Cond.methodLink "BubbleTorusModel" 111 m_M_placesOf.1 ∈ qT := (tm6 (j := 114) rfl rfl)
theorem lk_M_114 : Cond.methodLink "BubbleTorusModel" 114 m_M_packetAt.1 ∈ qT := (tm6 (j := 125) rfl rfl)
theorem lk_M_117 : Cond.methodLink "BubbleTorusModel" 117 m_M_free.1 ∈ qT := (tm6 (j := 110) rfl rfl)
theorem lk_M_120 : Cond.methodLink "BubbleTorusModel" 120 m_M_comes.1 ∈ qT := (tm6 (j := 128) rfl rfl)
theorem lk_M_124 : Cond.methodLink "BubbleTorusModel" 124 m_M_sends.1 ∈ qT := (tm6 (j := 106) rfl rfl)
theorem lk_M_133 : Cond.methodLink "BubbleTorusModel" 133 m_M_drawOf.1 ∈ qT := (tm6 (j := 140) rfl rfl)
theorem lk_M_136 : Cond.methodLink "BubbleTorusModel" 136 m_M_sendsOrNot.1 ∈ qT := (tm6 (j := 146) rfl rfl)
theorem lk_M_139 : Cond.methodLink "BubbleTorusModel" 139 m_M_patternTo.1 ∈ qT := (tm6 (j := 154) rfl rfl)
theorem lk_M_142 : Cond.methodLink "BubbleTorusModel" 142 m_M_of.1 ∈ qT := (tm6 (j := 178) rfl rfl)
theorem lk_M_145 : Cond.methodLink "BubbleTorusModel" 145 m_M_firstOf.1 ∈ qT := (tm6 (j := 174) rfl rfl)
theorem lk_M_148 : Cond.methodLink "BubbleTorusModel" 148 m_M_leaves.1 ∈ qT := (tm6 (j := 182) rfl rfl)
theorem lk_M_152 : Cond.methodLink "BubbleTorusModel" 152 m_M_isOvertaken.1 ∈ qT := (tm6 (j := 186) rfl rfl)
theorem lk_M_155 : Cond.methodLink "BubbleTorusModel" 155 m_M_doesContinue.1 ∈ qT := (tm6 (j := 206) rfl rfl)
theorem lk_M_158 : Cond.methodLink "BubbleTorusModel" 158 m_M_isBarred.1 ∈ qT := (tm6 (j := 210) rfl rfl)
theorem lk_M_162 : Cond.methodLink "BubbleTorusModel" 162 m_M_doesRuleLet.1 ∈ qT := (tm6 (j := 214) rfl rfl)
theorem lk_M_165 : Cond.methodLink "BubbleTorusModel" 165 m_M_canByAdaptive.1 ∈ qT := (tm6 (j := 198) rfl rfl)
theorem lk_M_168 : Cond.methodLink "BubbleTorusModel" 168 m_M_canByEscape.1 ∈ qT := (tm6 (j := 202) rfl rfl)
theorem lk_M_172 : Cond.methodLink "BubbleTorusModel" 172 m_M_enters3.1 ∈ qT := (tm6 (j := 226) rfl rfl)
theorem lk_M_175 : Cond.methodLink "BubbleTorusModel" 175 m_M_notes.1 ∈ qT := (tm6 (j := 230) rfl rfl)
theorem lk_M_179 : Cond.methodLink "BubbleTorusModel" 179 m_M_canGo.1 ∈ qT := (tm6 (j := 194) rfl rfl)
theorem lk_M_182 : Cond.methodLink "BubbleTorusModel" 182 m_M_isAhead.1 ∈ qT := (tm6 (j := 218) rfl rfl)
theorem lk_M_186 : Cond.methodLink "BubbleTorusModel" 186 m_M_goes.1 ∈ qT := (tm6 (j := 222) rfl rfl)
theorem lk_M_190 : Cond.methodLink "BubbleTorusModel" 190 m_M_isHungry.1 ∈ qT := (tm6 (j := 238) rfl rfl)
theorem lk_M_193 : Cond.methodLink "BubbleTorusModel" 193 m_M_hungriest.1 ∈ qT := (tm7 (j := 6) rfl rfl)
theorem lk_M_196 : Cond.methodLink "BubbleTorusModel" 196 m_M_delivers.1 ∈ qT := (tm6 (j := 170) rfl rfl)
theorem lk_M_199 : Cond.methodLink "BubbleTorusModel" 199 m_M_oneGoes.1 ∈ qT := (tm6 (j := 190) rfl rfl)
theorem lk_M_202 : Cond.methodLink "BubbleTorusModel" 202 m_M_hungers.1 ∈ qT := (tm6 (j := 234) rfl rfl)
theorem lk_M_205 : Cond.methodLink "BubbleTorusModel" 205 m_M_marks.1 ∈ qT := (tm7 (j := 2) rfl rfl)
theorem lk_M_209 : Cond.methodLink "BubbleTorusModel" 209 m_M_freeIn.1 ∈ qT := (tm7 (j := 10) rfl rfl)
theorem lk_M_212 : Cond.methodLink "BubbleTorusModel" 212 m_M_ticks.1 ∈ qT := (tm6 (j := 166) rfl rfl)
theorem lk_M_215 : Cond.methodLink "BubbleTorusModel" 215 m_M_isPacket.1 ∈ qT := (tm7 (j := 18) rfl rfl)
theorem lk_M_218 : Cond.methodLink "BubbleTorusModel" 218 m_M_inQueues.1 ∈ qT := (tm7 (j := 38) rfl rfl)
theorem lk_M_221 : Cond.methodLink "BubbleTorusModel" 221 m_M_packetsBy.1 ∈ qT := (tm7 (j := 42) rfl rfl)
theorem lk_M_225 : Cond.methodLink "BubbleTorusModel" 225 m_M_longestInDoor.1 ∈ qT := (tm7 (j := 46) rfl rfl)
theorem lk_M_228 : Cond.methodLink "BubbleTorusModel" 228 m_M_lateOf.1 ∈ qT := (tm7 (j := 66) rfl rfl)
theorem lk_M_231 : Cond.methodLink "BubbleTorusModel" 231 m_M_lateAbove.1 ∈ qT := (tm7 (j := 78) rfl rfl)
theorem lk_M_234 : Cond.methodLink "BubbleTorusModel" 234 m_M_late.1 ∈ qT := (tm7 (j := 82) rfl rfl)
theorem lk_M_237 : Cond.methodLink "BubbleTorusModel" 237 m_M_slot.1 ∈ qT := (tm7 (j := 91) rfl rfl)
theorem lk_M_240 : Cond.methodLink "BubbleTorusModel" 240 m_M_someOfRing.1 ∈ qT := (tm7 (j := 102) rfl rfl)
theorem lk_M_243 : Cond.methodLink "BubbleTorusModel" 243 m_M_canNow.1 ∈ qT := (tm7 (j := 94) rfl rfl)
theorem lk_M_246 : Cond.methodLink "BubbleTorusModel" 246 m_M_canThen.1 ∈ qT := (tm7 (j := 98) rfl rfl)
theorem lk_M_249 : Cond.methodLink "BubbleTorusModel" 249 m_M_laysOn.1 ∈ qT := (tm7 (j := 87) rfl rfl)
theorem lk_M_252 : Cond.methodLink "BubbleTorusModel" 252 m_M_stuck.1 ∈ qT := (tm7 (j := 114) rfl rfl)
theorem lk_M_255 : Cond.methodLink "BubbleTorusModel" 255 m_M_laysAside.1 ∈ qT := (tm7 (j := 119) rfl rfl)
theorem lk_M_258 : Cond.methodLink "BubbleTorusModel" 258 m_M_comesBack.1 ∈ qT := (tm7 (j := 123) rfl rfl)
theorem lk_M_267 : Cond.methodLink "BubbleTorusModel" 267 m_M_placeIn.1 ∈ qT := (tm7 (j := 151) rfl rfl)
theorem lk_M_270 : Cond.methodLink "BubbleTorusModel" 270 m_M_meetsState.1 ∈ qT := (tm7 (j := 147) rfl rfl)
theorem lk_M_274 : Cond.methodLink "BubbleTorusModel" 274 m_M_opensState.1 ∈ qT := (tm7 (j := 155) rfl rfl)
theorem lk_M_277 : Cond.methodLink "BubbleTorusModel" 277 m_M_comesFrom.1 ∈ qT := (tm7 (j := 171) rfl rfl)
theorem lk_M_283 : Cond.methodLink "BubbleTorusModel" 283 m_M_stepsTo.1 ∈ qT := (tm7 (j := 176) rfl rfl)
theorem lk_M_286 : Cond.methodLink "BubbleTorusModel" 286 m_M_inLane.1 ∈ qT := (tm7 (j := 159) rfl rfl)
theorem lk_M_289 : Cond.methodLink "BubbleTorusModel" 289 m_M_fewestFree.1 ∈ qT := (tm7 (j := 163) rfl rfl)
theorem lk_M_292 : Cond.methodLink "BubbleTorusModel" 292 m_M_goesAll.1 ∈ qT := (tm7 (j := 167) rfl rfl)
theorem lk_M_295 : Cond.methodLink "BubbleTorusModel" 295 m_M_laysLive.1 ∈ qT := (tm7 (j := 139) rfl rfl)
theorem lk_M_299 : Cond.methodLink "BubbleTorusModel" 299 m_M_laysSchedules.1 ∈ qT := (tm7 (j := 143) rfl rfl)
theorem lk_M_305 : Cond.methodLink "BubbleTorusModel" 305 m_M_longQueue.1 ∈ qT := (tm7 (j := 208) rfl rfl)
theorem lk_M_308 : Cond.methodLink "BubbleTorusModel" 308 m_M_firstKind.1 ∈ qT := (tm7 (j := 184) rfl rfl)
theorem lk_M_311 : Cond.methodLink "BubbleTorusModel" 311 m_M_power.1 ∈ qT := (tm7 (j := 212) rfl rfl)
theorem lk_M_329 : Cond.methodLink "BubbleTorusModel" 329 m_M_freeAt.1 ∈ qT := (tm7 (j := 216) rfl rfl)
theorem lk_M_332 : Cond.methodLink "BubbleTorusModel" 332 m_M_opens.1 ∈ qT := (tm7 (j := 200) rfl rfl)
theorem lk_M_338 : Cond.methodLink "BubbleTorusModel" 338 m_M_goalOf.1 ∈ qT := (tm7 (j := 204) rfl rfl)
theorem lk_M_341 : Cond.methodLink "BubbleTorusModel" 341 m_M_without.1 ∈ qT := (tm7 (j := 220) rfl rfl)
theorem lk_M_344 : Cond.methodLink "BubbleTorusModel" 344 m_M_withOne.1 ∈ qT := (tm7 (j := 224) rfl rfl)
theorem lk_M_347 : Cond.methodLink "BubbleTorusModel" 347 m_M_number.1 ∈ qT := (tm7 (j := 228) rfl rfl)
theorem lk_M_353 : Cond.methodLink "BubbleTorusModel" 353 m_M_mayEnter.1 ∈ qT := (tm7 (j := 232) rfl rfl)
theorem lk_M_359 : Cond.methodLink "BubbleTorusModel" 359 m_M_finds.1 ∈ qT := (tm7 (j := 192) rfl rfl)
theorem lk_M_362 : Cond.methodLink "BubbleTorusModel" 362 m_M_laysAfter.1 ∈ qT := (tm7 (j := 196) rfl rfl)
theorem lk_M_365 : Cond.methodLink "BubbleTorusModel" 365 m_M_packetsIn.1 ∈ qT := (tm8 (j := 4) rfl rfl)
theorem lk_M_368 : Cond.methodLink "BubbleTorusModel" 368 m_M_leadsOn.1 ∈ qT := (tm8 (j := 12) rfl rfl)
theorem lk_M_371 : Cond.methodLink "BubbleTorusModel" 371 m_JM_max.1 ∈ qT := (tm8 (j := 20) rfl rfl)
theorem lk_M_376 : Cond.methodLink "BubbleTorusModel" 376 m_M_isDeadState.1 ∈ qT := (tm8 (j := 0) rfl rfl)
theorem lk_M_379 : Cond.methodLink "BubbleTorusModel" 379 m_M_searches.1 ∈ qT := (tm7 (j := 188) rfl rfl)
theorem lk_M_382 : Cond.methodLink "BubbleTorusModel" 382 m_M_soonestDead.1 ∈ qT := (tm7 (j := 236) rfl rfl)
theorem lk_M_385 : Cond.methodLink "BubbleTorusModel" 385 m_M_isStarving.1 ∈ qT := (tm8 (j := 8) rfl rfl)
theorem lk_M_388 : Cond.methodLink "BubbleTorusModel" 388 m_M_longestWait.1 ∈ qT := (tm8 (j := 16) rfl rfl)
theorem lk_M_391 : Cond.methodLink "BubbleTorusModel" 391 m_M_countOf.1 ∈ qT := (tm8 (j := 21) rfl rfl)
theorem lk_M_394 : Cond.methodLink "BubbleTorusModel" 394 m_M_marksNow.1 ∈ qT := (tm8 (j := 29) rfl rfl)
theorem cl_W_7 : Cond.classLink "BubbleTorusLaw" 7 RX9 ∈ qT := (tm1 (j := 15) rfl rfl)
theorem ist_X : Cond.instantiable RX9 7 ∈ qT := (tm1 (j := 16) rfl rfl)
theorem cl_X_9 : Cond.classLink "BubbleTorus" 9 RX3 ∈ qT := (tm1 (j := 23) rfl rfl)
theorem ist_N : Cond.instantiable RX3 13 ∈ qT := (tm1 (j := 24) rfl rfl)
theorem cl_N_9 : Cond.classLink "BubbleTorus$Net" 9 RX0 ∈ qT := (tm1 (j := 29) rfl rfl)
theorem ist_G : Cond.instantiable RX0 7 ∈ qT := (tm1 (j := 30) rfl rfl)
theorem fl_G_9 : Cond.fieldLink "BubbleTorus$Grid" 9 RX0 (TX0 0).2.1 (TX0 0).2.2.1 ∈ qT := (tm1 (j := 66) rfl rfl)
theorem fl_N_211 : Cond.fieldLink "BubbleTorus$Net" 211 RX0 (TX0 0).2.1 (TX0 0).2.2.1 ∈ qT := (tm1 (j := 67) rfl rfl)
theorem fl_G_15 : Cond.fieldLink "BubbleTorus$Grid" 15 RX0 (TX0 1).2.1 (TX0 1).2.2.1 ∈ qT := (tm1 (j := 68) rfl rfl)
theorem fl_G_18 : Cond.fieldLink "BubbleTorus$Grid" 18 RX0 (TX0 2).2.1 (TX0 2).2.2.1 ∈ qT := (tm1 (j := 69) rfl rfl)
theorem fl_G_21 : Cond.fieldLink "BubbleTorus$Grid" 21 RX0 (TX0 3).2.1 (TX0 3).2.2.1 ∈ qT := (tm1 (j := 70) rfl rfl)
theorem fl_X_292 : Cond.fieldLink "BubbleTorus" 292 RX0 (TX0 3).2.1 (TX0 3).2.2.1 ∈ qT := (tm1 (j := 71) rfl rfl)
theorem fl_G_25 : Cond.fieldLink "BubbleTorus$Grid" 25 RX0 (TX0 4).2.1 (TX0 4).2.2.1 ∈ qT := (tm1 (j := 72) rfl rfl)
theorem fl_X_295 : Cond.fieldLink "BubbleTorus" 295 RX0 (TX0 4).2.1 (TX0 4).2.2.1 ∈ qT := (tm1 (j := 73) rfl rfl)
theorem fl_G_28 : Cond.fieldLink "BubbleTorus$Grid" 28 RX0 (TX0 5).2.1 (TX0 5).2.2.1 ∈ qT := (tm1 (j := 74) rfl rfl)
theorem fl_O_21 : Cond.fieldLink "BubbleTorus$Outlook" 21 RX0 (TX0 5).2.1 (TX0 5).2.2.1 ∈ qT := (tm1 (j := 75) rfl rfl)
theorem fl_X_71 : Cond.fieldLink "BubbleTorus" 71 RX0 (TX0 5).2.1 (TX0 5).2.2.1 ∈ qT := (tm1 (j := 76) rfl rfl)
theorem fl_N_137 : Cond.fieldLink "BubbleTorus$Net" 137 RX0 (TX0 5).2.1 (TX0 5).2.2.1 ∈ qT := (tm1 (j := 77) rfl rfl)
theorem fl_G_31 : Cond.fieldLink "BubbleTorus$Grid" 31 RX0 (TX0 6).2.1 (TX0 6).2.2.1 ∈ qT := (tm1 (j := 78) rfl rfl)
theorem fl_R_50 : Cond.fieldLink "BubbleTorus$Rings" 50 RX0 (TX0 6).2.1 (TX0 6).2.2.1 ∈ qT := (tm1 (j := 79) rfl rfl)
theorem fl_S_142 : Cond.fieldLink "BubbleTorus$Search" 142 RX0 (TX0 6).2.1 (TX0 6).2.2.1 ∈ qT := (tm1 (j := 80) rfl rfl)
theorem fl_X_138 : Cond.fieldLink "BubbleTorus" 138 RX0 (TX0 6).2.1 (TX0 6).2.2.1 ∈ qT := (tm1 (j := 81) rfl rfl)
theorem fl_N_253 : Cond.fieldLink "BubbleTorus$Net" 253 RX0 (TX0 6).2.1 (TX0 6).2.2.1 ∈ qT := (tm1 (j := 82) rfl rfl)
theorem ac_int : Cond.arrayClass .int ∈ qT := (tm1 (j := 98) rfl rfl)
theorem cl_N_18 : Cond.classLink "BubbleTorus$Net" 18 RX5 ∈ qT := (tm1 (j := 99) rfl rfl)
theorem ist_P : Cond.instantiable RX5 15 ∈ qT := (tm1 (j := 100) rfl rfl)
theorem fl_P_9 : Cond.fieldLink "BubbleTorus$Packets" 9 RX5 (TX5 0).2.1 (TX5 0).2.2.1 ∈ qT := (tm1 (j := 105) rfl rfl)
theorem fl_P_15 : Cond.fieldLink "BubbleTorus$Packets" 15 RX5 (TX5 1).2.1 (TX5 1).2.2.1 ∈ qT := (tm1 (j := 106) rfl rfl)
theorem fl_N_160 : Cond.fieldLink "BubbleTorus$Net" 160 RX5 (TX5 1).2.1 (TX5 1).2.2.1 ∈ qT := (tm1 (j := 107) rfl rfl)
theorem fl_P_18 : Cond.fieldLink "BubbleTorus$Packets" 18 RX5 (TX5 2).2.1 (TX5 2).2.2.1 ∈ qT := (tm1 (j := 108) rfl rfl)
theorem fl_P_21 : Cond.fieldLink "BubbleTorus$Packets" 21 RX5 (TX5 3).2.1 (TX5 3).2.2.1 ∈ qT := (tm1 (j := 109) rfl rfl)
theorem fl_N_302 : Cond.fieldLink "BubbleTorus$Net" 302 RX5 (TX5 3).2.1 (TX5 3).2.2.1 ∈ qT := (tm1 (j := 110) rfl rfl)
theorem fl_P_24 : Cond.fieldLink "BubbleTorus$Packets" 24 RX5 (TX5 4).2.1 (TX5 4).2.2.1 ∈ qT := (tm1 (j := 111) rfl rfl)
theorem fl_N_305 : Cond.fieldLink "BubbleTorus$Net" 305 RX5 (TX5 4).2.1 (TX5 4).2.2.1 ∈ qT := (tm1 (j := 112) rfl rfl)
theorem fl_P_27 : Cond.fieldLink "BubbleTorus$Packets" 27 RX5 (TX5 5).2.1 (TX5 5).2.2.1 ∈ qT := (tm1 (j := 113) rfl rfl)
theorem fl_N_308 : Cond.fieldLink "BubbleTorus$Net" 308 RX5 (TX5 5).2.1 (TX5 5).2.2.1 ∈ qT := (tm1 (j := 114) rfl rfl)
theorem fl_P_30 : Cond.fieldLink "BubbleTorus$Packets" 30 RX5 (TX5 6).2.1 (TX5 6).2.2.1 ∈ qT := (tm1 (j := 115) rfl rfl)
theorem fl_P_33 : Cond.fieldLink "BubbleTorus$Packets" 33 RX5 (TX5 7).2.1 (TX5 7).2.2.1 ∈ qT := (tm1 (j := 116) rfl rfl)
theorem fl_P_36 : Cond.fieldLink "BubbleTorus$Packets" 36 RX5 (TX5 8).2.1 (TX5 8).2.2.1 ∈ qT := (tm1 (j := 117) rfl rfl)
theorem fl_N_223 : Cond.fieldLink "BubbleTorus$Net" 223 RX5 (TX5 8).2.1 (TX5 8).2.2.1 ∈ qT := (tm1 (j := 118) rfl rfl)
theorem fl_P_39 : Cond.fieldLink "BubbleTorus$Packets" 39 RX5 (TX5 9).2.1 (TX5 9).2.2.1 ∈ qT := (tm1 (j := 119) rfl rfl)
theorem fl_P_42 : Cond.fieldLink "BubbleTorus$Packets" 42 RX5 (TX5 10).2.1 (TX5 10).2.2.1 ∈ qT := (tm1 (j := 120) rfl rfl)
theorem fl_P_45 : Cond.fieldLink "BubbleTorus$Packets" 45 RX5 (TX5 11).2.1 (TX5 11).2.2.1 ∈ qT := (tm1 (j := 121) rfl rfl)
theorem fl_N_170 : Cond.fieldLink "BubbleTorus$Net" 170 RX5 (TX5 11).2.1 (TX5 11).2.2.1 ∈ qT := (tm1 (j := 122) rfl rfl)
theorem fl_P_48 : Cond.fieldLink "BubbleTorus$Packets" 48 RX5 (TX5 12).2.1 (TX5 12).2.2.1 ∈ qT := (tm1 (j := 123) rfl rfl)
theorem fl_P_51 : Cond.fieldLink "BubbleTorus$Packets" 51 RX5 (TX5 13).2.1 (TX5 13).2.2.1 ∈ qT := (tm1 (j := 124) rfl rfl)
theorem fl_S_80 : Cond.fieldLink "BubbleTorus$Search" 80 RX5 (TX5 13).2.1 (TX5 13).2.2.1 ∈ qT := (tm1 (j := 125) rfl rfl)
theorem fl_N_114 : Cond.fieldLink "BubbleTorus$Net" 114 RX5 (TX5 13).2.1 (TX5 13).2.2.1 ∈ qT := (tm1 (j := 126) rfl rfl)
theorem fl_X_307 : Cond.fieldLink "BubbleTorus" 307 RX5 (TX5 13).2.1 (TX5 13).2.2.1 ∈ qT := (tm1 (j := 127) rfl rfl)
theorem fl_P_55 : Cond.fieldLink "BubbleTorus$Packets" 55 RX5 (TX5 14).2.1 (TX5 14).2.2.1 ∈ qT := (tm1 (j := 128) rfl rfl)
theorem fl_X_308 : Cond.fieldLink "BubbleTorus" 308 RX5 (TX5 14).2.1 (TX5 14).2.2.1 ∈ qT := (tm1 (j := 129) rfl rfl)
theorem cl_N_25 : Cond.classLink "BubbleTorus$Net" 25 RX6 ∈ qT := (tm1 (j := 161) rfl rfl)
theorem ist_Q : Cond.instantiable RX6 2 ∈ qT := (tm1 (j := 162) rfl rfl)
theorem fl_Q_9 : Cond.fieldLink "BubbleTorus$Queues" 9 RX6 (TX6 0).2.1 (TX6 0).2.2.1 ∈ qT := (tm1 (j := 167) rfl rfl)
theorem fl_N_115 : Cond.fieldLink "BubbleTorus$Net" 115 RX6 (TX6 0).2.1 (TX6 0).2.2.1 ∈ qT := (tm1 (j := 168) rfl rfl)
theorem fl_O_76 : Cond.fieldLink "BubbleTorus$Outlook" 76 RX6 (TX6 0).2.1 (TX6 0).2.2.1 ∈ qT := (tm1 (j := 169) rfl rfl)
theorem fl_S_164 : Cond.fieldLink "BubbleTorus$Search" 164 RX6 (TX6 0).2.1 (TX6 0).2.2.1 ∈ qT := (tm1 (j := 170) rfl rfl)
theorem fl_X_116 : Cond.fieldLink "BubbleTorus" 116 RX6 (TX6 0).2.1 (TX6 0).2.2.1 ∈ qT := (tm1 (j := 171) rfl rfl)
theorem fl_Q_15 : Cond.fieldLink "BubbleTorus$Queues" 15 RX6 (TX6 1).2.1 (TX6 1).2.2.1 ∈ qT := (tm1 (j := 172) rfl rfl)
theorem cl_N_32 : Cond.classLink "BubbleTorus$Net" 32 RX2 ∈ qT := (tm1 (j := 178) rfl rfl)
theorem ist_V : Cond.instantiable RX2 2 ∈ qT := (tm1 (j := 179) rfl rfl)
theorem fl_V_11 : Cond.fieldLink "BubbleTorus$Moves" 11 RX2 (TX2 0).2.1 (TX2 0).2.2.1 ∈ qT := (tm1 (j := 184) rfl rfl)
theorem fl_V_15 : Cond.fieldLink "BubbleTorus$Moves" 15 RX2 (TX2 1).2.1 (TX2 1).2.2.1 ∈ qT := (tm1 (j := 185) rfl rfl)
theorem fl_N_72 : Cond.fieldLink "BubbleTorus$Net" 72 RX2 (TX2 1).2.1 (TX2 1).2.2.1 ∈ qT := (tm1 (j := 186) rfl rfl)
theorem fl_X_209 : Cond.fieldLink "BubbleTorus" 209 RX2 (TX2 1).2.1 (TX2 1).2.2.1 ∈ qT := (tm1 (j := 187) rfl rfl)
theorem cl_N_39 : Cond.classLink "BubbleTorus$Net" 39 RX7 ∈ qT := (tm1 (j := 193) rfl rfl)
theorem ist_R : Cond.instantiable RX7 10 ∈ qT := (tm1 (j := 194) rfl rfl)
theorem fl_R_9 : Cond.fieldLink "BubbleTorus$Rings" 9 RX7 (TX7 0).2.1 (TX7 0).2.2.1 ∈ qT := (tm1 (j := 199) rfl rfl)
theorem fl_S_148 : Cond.fieldLink "BubbleTorus$Search" 148 RX7 (TX7 0).2.1 (TX7 0).2.2.1 ∈ qT := (tm1 (j := 200) rfl rfl)
theorem fl_X_162 : Cond.fieldLink "BubbleTorus" 162 RX7 (TX7 0).2.1 (TX7 0).2.2.1 ∈ qT := (tm1 (j := 201) rfl rfl)
theorem fl_N_214 : Cond.fieldLink "BubbleTorus$Net" 214 RX7 (TX7 0).2.1 (TX7 0).2.2.1 ∈ qT := (tm1 (j := 202) rfl rfl)
theorem fl_R_15 : Cond.fieldLink "BubbleTorus$Rings" 15 RX7 (TX7 1).2.1 (TX7 1).2.2.1 ∈ qT := (tm1 (j := 203) rfl rfl)
theorem fl_X_167 : Cond.fieldLink "BubbleTorus" 167 RX7 (TX7 1).2.1 (TX7 1).2.2.1 ∈ qT := (tm1 (j := 204) rfl rfl)
theorem fl_N_258 : Cond.fieldLink "BubbleTorus$Net" 258 RX7 (TX7 1).2.1 (TX7 1).2.2.1 ∈ qT := (tm1 (j := 205) rfl rfl)
theorem fl_R_18 : Cond.fieldLink "BubbleTorus$Rings" 18 RX7 (TX7 2).2.1 (TX7 2).2.2.1 ∈ qT := (tm1 (j := 206) rfl rfl)
theorem fl_X_170 : Cond.fieldLink "BubbleTorus" 170 RX7 (TX7 2).2.1 (TX7 2).2.2.1 ∈ qT := (tm1 (j := 207) rfl rfl)
theorem fl_N_264 : Cond.fieldLink "BubbleTorus$Net" 264 RX7 (TX7 2).2.1 (TX7 2).2.2.1 ∈ qT := (tm1 (j := 208) rfl rfl)
theorem fl_R_21 : Cond.fieldLink "BubbleTorus$Rings" 21 RX7 (TX7 3).2.1 (TX7 3).2.2.1 ∈ qT := (tm1 (j := 209) rfl rfl)
theorem fl_X_173 : Cond.fieldLink "BubbleTorus" 173 RX7 (TX7 3).2.1 (TX7 3).2.2.1 ∈ qT := (tm1 (j := 210) rfl rfl)
theorem fl_N_220 : Cond.fieldLink "BubbleTorus$Net" 220 RX7 (TX7 3).2.1 (TX7 3).2.2.1 ∈ qT := (tm1 (j := 211) rfl rfl)
theorem fl_R_24 : Cond.fieldLink "BubbleTorus$Rings" 24 RX7 (TX7 4).2.1 (TX7 4).2.2.1 ∈ qT := (tm1 (j := 212) rfl rfl)
theorem fl_X_176 : Cond.fieldLink "BubbleTorus" 176 RX7 (TX7 4).2.1 (TX7 4).2.2.1 ∈ qT := (tm1 (j := 213) rfl rfl)
theorem fl_N_226 : Cond.fieldLink "BubbleTorus$Net" 226 RX7 (TX7 4).2.1 (TX7 4).2.2.1 ∈ qT := (tm1 (j := 214) rfl rfl)
theorem fl_R_27 : Cond.fieldLink "BubbleTorus$Rings" 27 RX7 (TX7 5).2.1 (TX7 5).2.2.1 ∈ qT := (tm1 (j := 215) rfl rfl)
theorem fl_X_179 : Cond.fieldLink "BubbleTorus" 179 RX7 (TX7 5).2.1 (TX7 5).2.2.1 ∈ qT := (tm1 (j := 216) rfl rfl)
theorem fl_N_285 : Cond.fieldLink "BubbleTorus$Net" 285 RX7 (TX7 5).2.1 (TX7 5).2.2.1 ∈ qT := (tm1 (j := 217) rfl rfl)
theorem fl_R_30 : Cond.fieldLink "BubbleTorus$Rings" 30 RX7 (TX7 6).2.1 (TX7 6).2.2.1 ∈ qT := (tm1 (j := 218) rfl rfl)
theorem fl_X_185 : Cond.fieldLink "BubbleTorus" 185 RX7 (TX7 6).2.1 (TX7 6).2.2.1 ∈ qT := (tm1 (j := 219) rfl rfl)
theorem fl_N_261 : Cond.fieldLink "BubbleTorus$Net" 261 RX7 (TX7 6).2.1 (TX7 6).2.2.1 ∈ qT := (tm1 (j := 220) rfl rfl)
theorem fl_R_33 : Cond.fieldLink "BubbleTorus$Rings" 33 RX7 (TX7 7).2.1 (TX7 7).2.2.1 ∈ qT := (tm1 (j := 221) rfl rfl)
theorem fl_X_197 : Cond.fieldLink "BubbleTorus" 197 RX7 (TX7 7).2.1 (TX7 7).2.2.1 ∈ qT := (tm1 (j := 222) rfl rfl)
theorem fl_R_36 : Cond.fieldLink "BubbleTorus$Rings" 36 RX7 (TX7 8).2.1 (TX7 8).2.2.1 ∈ qT := (tm1 (j := 223) rfl rfl)
theorem fl_N_229 : Cond.fieldLink "BubbleTorus$Net" 229 RX7 (TX7 8).2.1 (TX7 8).2.2.1 ∈ qT := (tm1 (j := 224) rfl rfl)
theorem fl_R_40 : Cond.fieldLink "BubbleTorus$Rings" 40 RX7 (TX7 9).2.1 (TX7 9).2.2.1 ∈ qT := (tm1 (j := 225) rfl rfl)
theorem fl_X_323 : Cond.fieldLink "BubbleTorus" 323 RX7 (TX7 9).2.1 (TX7 9).2.2.1 ∈ qT := (tm1 (j := 226) rfl rfl)
theorem ac_boolean : Cond.arrayClass .boolean ∈ qT := (tm2 (j := 8) rfl rfl)
theorem fl_N_12 : Cond.fieldLink "BubbleTorus$Net" 12 RX3 (TX3 0).2.1 (TX3 0).2.2.1 ∈ qT := (tm2 (j := 9) rfl rfl)
theorem fl_X_19 : Cond.fieldLink "BubbleTorus" 19 RX3 (TX3 0).2.1 (TX3 0).2.2.1 ∈ qT := (tm2 (j := 10) rfl rfl)
theorem fl_O_15 : Cond.fieldLink "BubbleTorus$Outlook" 15 RX3 (TX3 0).2.1 (TX3 0).2.2.1 ∈ qT := (tm2 (j := 11) rfl rfl)
theorem fl_S_113 : Cond.fieldLink "BubbleTorus$Search" 113 RX3 (TX3 0).2.1 (TX3 0).2.2.1 ∈ qT := (tm2 (j := 12) rfl rfl)
theorem fl_N_21 : Cond.fieldLink "BubbleTorus$Net" 21 RX3 (TX3 1).2.1 (TX3 1).2.2.1 ∈ qT := (tm2 (j := 13) rfl rfl)
theorem fl_S_45 : Cond.fieldLink "BubbleTorus$Search" 45 RX3 (TX3 1).2.1 (TX3 1).2.2.1 ∈ qT := (tm2 (j := 14) rfl rfl)
theorem fl_X_94 : Cond.fieldLink "BubbleTorus" 94 RX3 (TX3 1).2.1 (TX3 1).2.2.1 ∈ qT := (tm2 (j := 15) rfl rfl)
theorem fl_N_28 : Cond.fieldLink "BubbleTorus$Net" 28 RX3 (TX3 2).2.1 (TX3 2).2.2.1 ∈ qT := (tm2 (j := 16) rfl rfl)
theorem fl_S_89 : Cond.fieldLink "BubbleTorus$Search" 89 RX3 (TX3 2).2.1 (TX3 2).2.2.1 ∈ qT := (tm2 (j := 17) rfl rfl)
theorem fl_O_72 : Cond.fieldLink "BubbleTorus$Outlook" 72 RX3 (TX3 2).2.1 (TX3 2).2.2.1 ∈ qT := (tm2 (j := 18) rfl rfl)
theorem fl_X_112 : Cond.fieldLink "BubbleTorus" 112 RX3 (TX3 2).2.1 (TX3 2).2.2.1 ∈ qT := (tm2 (j := 19) rfl rfl)
theorem fl_N_35 : Cond.fieldLink "BubbleTorus$Net" 35 RX3 (TX3 3).2.1 (TX3 3).2.2.1 ∈ qT := (tm2 (j := 20) rfl rfl)
theorem fl_X_205 : Cond.fieldLink "BubbleTorus" 205 RX3 (TX3 3).2.1 (TX3 3).2.2.1 ∈ qT := (tm2 (j := 21) rfl rfl)
theorem fl_N_42 : Cond.fieldLink "BubbleTorus$Net" 42 RX3 (TX3 4).2.1 (TX3 4).2.2.1 ∈ qT := (tm2 (j := 22) rfl rfl)
theorem fl_S_145 : Cond.fieldLink "BubbleTorus$Search" 145 RX3 (TX3 4).2.1 (TX3 4).2.2.1 ∈ qT := (tm2 (j := 23) rfl rfl)
theorem fl_X_159 : Cond.fieldLink "BubbleTorus" 159 RX3 (TX3 4).2.1 (TX3 4).2.2.1 ∈ qT := (tm2 (j := 24) rfl rfl)
theorem fl_N_46 : Cond.fieldLink "BubbleTorus$Net" 46 RX3 (TX3 5).2.1 (TX3 5).2.2.1 ∈ qT := (tm2 (j := 25) rfl rfl)
theorem fl_X_213 : Cond.fieldLink "BubbleTorus" 213 RX3 (TX3 5).2.1 (TX3 5).2.2.1 ∈ qT := (tm2 (j := 26) rfl rfl)
theorem fl_N_50 : Cond.fieldLink "BubbleTorus$Net" 50 RX3 (TX3 6).2.1 (TX3 6).2.2.1 ∈ qT := (tm2 (j := 27) rfl rfl)
theorem fl_X_298 : Cond.fieldLink "BubbleTorus" 298 RX3 (TX3 6).2.1 (TX3 6).2.2.1 ∈ qT := (tm2 (j := 28) rfl rfl)
theorem fl_N_54 : Cond.fieldLink "BubbleTorus$Net" 54 RX3 (TX3 7).2.1 (TX3 7).2.2.1 ∈ qT := (tm2 (j := 29) rfl rfl)
theorem fl_X_301 : Cond.fieldLink "BubbleTorus" 301 RX3 (TX3 7).2.1 (TX3 7).2.2.1 ∈ qT := (tm2 (j := 30) rfl rfl)
theorem fl_N_57 : Cond.fieldLink "BubbleTorus$Net" 57 RX3 (TX3 8).2.1 (TX3 8).2.2.1 ∈ qT := (tm2 (j := 31) rfl rfl)
theorem fl_X_156 : Cond.fieldLink "BubbleTorus" 156 RX3 (TX3 8).2.1 (TX3 8).2.2.1 ∈ qT := (tm2 (j := 32) rfl rfl)
theorem fl_N_60 : Cond.fieldLink "BubbleTorus$Net" 60 RX3 (TX3 9).2.1 (TX3 9).2.2.1 ∈ qT := (tm2 (j := 33) rfl rfl)
theorem fl_X_91 : Cond.fieldLink "BubbleTorus" 91 RX3 (TX3 9).2.1 (TX3 9).2.2.1 ∈ qT := (tm2 (j := 34) rfl rfl)
theorem fl_N_63 : Cond.fieldLink "BubbleTorus$Net" 63 RX3 (TX3 10).2.1 (TX3 10).2.2.1 ∈ qT := (tm2 (j := 35) rfl rfl)
theorem fl_X_304 : Cond.fieldLink "BubbleTorus" 304 RX3 (TX3 10).2.1 (TX3 10).2.2.1 ∈ qT := (tm2 (j := 36) rfl rfl)
theorem fl_N_66 : Cond.fieldLink "BubbleTorus$Net" 66 RX3 (TX3 11).2.1 (TX3 11).2.2.1 ∈ qT := (tm2 (j := 37) rfl rfl)
theorem fl_X_320 : Cond.fieldLink "BubbleTorus" 320 RX3 (TX3 11).2.1 (TX3 11).2.2.1 ∈ qT := (tm2 (j := 38) rfl rfl)
theorem fl_N_69 : Cond.fieldLink "BubbleTorus$Net" 69 RX3 (TX3 12).2.1 (TX3 12).2.2.1 ∈ qT := (tm2 (j := 39) rfl rfl)
theorem fl_X_332 : Cond.fieldLink "BubbleTorus" 332 RX3 (TX3 12).2.1 (TX3 12).2.2.1 ∈ qT := (tm2 (j := 40) rfl rfl)
theorem cl_X_24 : Cond.classLink "BubbleTorus" 24 RX4 ∈ qT := (tm2 (j := 68) rfl rfl)
theorem ist_O : Cond.instantiable RX4 1 ∈ qT := (tm2 (j := 69) rfl rfl)
theorem fl_O_9 : Cond.fieldLink "BubbleTorus$Outlook" 9 RX4 (TX4 0).2.1 (TX4 0).2.2.1 ∈ qT := (tm2 (j := 74) rfl rfl)
theorem fl_X_253 : Cond.fieldLink "BubbleTorus" 253 RX4 (TX4 0).2.1 (TX4 0).2.2.1 ∈ qT := (tm2 (j := 75) rfl rfl)
theorem cl_X_31 : Cond.classLink "BubbleTorus" 31 RX8 ∈ qT := (tm2 (j := 79) rfl rfl)
theorem ist_S : Cond.instantiable RX8 10 ∈ qT := (tm2 (j := 80) rfl rfl)
theorem fl_S_11 : Cond.fieldLink "BubbleTorus$Search" 11 RX8 (TX8 0).2.1 (TX8 0).2.2.1 ∈ qT := (tm2 (j := 85) rfl rfl)
theorem fl_S_15 : Cond.fieldLink "BubbleTorus$Search" 15 RX8 (TX8 1).2.1 (TX8 1).2.2.1 ∈ qT := (tm2 (j := 86) rfl rfl)
theorem fl_S_19 : Cond.fieldLink "BubbleTorus$Search" 19 RX8 (TX8 2).2.1 (TX8 2).2.2.1 ∈ qT := (tm2 (j := 87) rfl rfl)
theorem fl_S_22 : Cond.fieldLink "BubbleTorus$Search" 22 RX8 (TX8 3).2.1 (TX8 3).2.2.1 ∈ qT := (tm2 (j := 88) rfl rfl)
theorem fl_S_25 : Cond.fieldLink "BubbleTorus$Search" 25 RX8 (TX8 4).2.1 (TX8 4).2.2.1 ∈ qT := (tm2 (j := 89) rfl rfl)
theorem fl_S_28 : Cond.fieldLink "BubbleTorus$Search" 28 RX8 (TX8 5).2.1 (TX8 5).2.2.1 ∈ qT := (tm2 (j := 90) rfl rfl)
theorem fl_X_285 : Cond.fieldLink "BubbleTorus" 285 RX8 (TX8 5).2.1 (TX8 5).2.2.1 ∈ qT := (tm2 (j := 91) rfl rfl)
theorem fl_S_31 : Cond.fieldLink "BubbleTorus$Search" 31 RX8 (TX8 6).2.1 (TX8 6).2.2.1 ∈ qT := (tm2 (j := 92) rfl rfl)
theorem fl_S_35 : Cond.fieldLink "BubbleTorus$Search" 35 RX8 (TX8 7).2.1 (TX8 7).2.2.1 ∈ qT := (tm2 (j := 93) rfl rfl)
theorem fl_S_38 : Cond.fieldLink "BubbleTorus$Search" 38 RX8 (TX8 8).2.1 (TX8 8).2.2.1 ∈ qT := (tm2 (j := 94) rfl rfl)
theorem fl_S_41 : Cond.fieldLink "BubbleTorus$Search" 41 RX8 (TX8 9).2.1 (TX8 9).2.2.1 ∈ qT := (tm2 (j := 95) rfl rfl)
theorem ac_long : Cond.arrayClass .long ∈ qT := (tm2 (j := 117) rfl rfl)
theorem cl_X_38 : Cond.classLink "BubbleTorus" 38 RX1 ∈ qT := (tm2 (j := 118) rfl rfl)
theorem ist_L : Cond.instantiable RX1 16 ∈ qT := (tm2 (j := 119) rfl rfl)
theorem fl_L_11 : Cond.fieldLink "BubbleTorus$LoneRing" 11 RX1 (TX1 0).2.1 (TX1 0).2.2.1 ∈ qT := (tm2 (j := 124) rfl rfl)
theorem fl_L_15 : Cond.fieldLink "BubbleTorus$LoneRing" 15 RX1 (TX1 1).2.1 (TX1 1).2.2.1 ∈ qT := (tm2 (j := 125) rfl rfl)
theorem fl_L_19 : Cond.fieldLink "BubbleTorus$LoneRing" 19 RX1 (TX1 2).2.1 (TX1 2).2.2.1 ∈ qT := (tm2 (j := 126) rfl rfl)
theorem fl_L_22 : Cond.fieldLink "BubbleTorus$LoneRing" 22 RX1 (TX1 3).2.1 (TX1 3).2.2.1 ∈ qT := (tm2 (j := 127) rfl rfl)
theorem fl_L_25 : Cond.fieldLink "BubbleTorus$LoneRing" 25 RX1 (TX1 4).2.1 (TX1 4).2.2.1 ∈ qT := (tm2 (j := 128) rfl rfl)
theorem fl_L_28 : Cond.fieldLink "BubbleTorus$LoneRing" 28 RX1 (TX1 5).2.1 (TX1 5).2.2.1 ∈ qT := (tm2 (j := 129) rfl rfl)
theorem fl_L_31 : Cond.fieldLink "BubbleTorus$LoneRing" 31 RX1 (TX1 6).2.1 (TX1 6).2.2.1 ∈ qT := (tm2 (j := 130) rfl rfl)
theorem fl_L_34 : Cond.fieldLink "BubbleTorus$LoneRing" 34 RX1 (TX1 7).2.1 (TX1 7).2.2.1 ∈ qT := (tm2 (j := 131) rfl rfl)
theorem fl_L_37 : Cond.fieldLink "BubbleTorus$LoneRing" 37 RX1 (TX1 8).2.1 (TX1 8).2.2.1 ∈ qT := (tm2 (j := 132) rfl rfl)
theorem fl_L_41 : Cond.fieldLink "BubbleTorus$LoneRing" 41 RX1 (TX1 9).2.1 (TX1 9).2.2.1 ∈ qT := (tm2 (j := 133) rfl rfl)
theorem fl_L_44 : Cond.fieldLink "BubbleTorus$LoneRing" 44 RX1 (TX1 10).2.1 (TX1 10).2.2.1 ∈ qT := (tm2 (j := 134) rfl rfl)
theorem fl_L_47 : Cond.fieldLink "BubbleTorus$LoneRing" 47 RX1 (TX1 11).2.1 (TX1 11).2.2.1 ∈ qT := (tm2 (j := 135) rfl rfl)
theorem fl_L_50 : Cond.fieldLink "BubbleTorus$LoneRing" 50 RX1 (TX1 12).2.1 (TX1 12).2.2.1 ∈ qT := (tm2 (j := 136) rfl rfl)
theorem fl_L_53 : Cond.fieldLink "BubbleTorus$LoneRing" 53 RX1 (TX1 13).2.1 (TX1 13).2.2.1 ∈ qT := (tm2 (j := 137) rfl rfl)
theorem fl_L_56 : Cond.fieldLink "BubbleTorus$LoneRing" 56 RX1 (TX1 14).2.1 (TX1 14).2.2.1 ∈ qT := (tm2 (j := 138) rfl rfl)
theorem fl_L_59 : Cond.fieldLink "BubbleTorus$LoneRing" 59 RX1 (TX1 15).2.1 (TX1 15).2.2.1 ∈ qT := (tm2 (j := 139) rfl rfl)
theorem fl_X_12 : Cond.fieldLink "BubbleTorus" 12 RX9 (TX9 0).2.1 (TX9 0).2.2.1 ∈ qT := (tm2 (j := 206) rfl rfl)
theorem fl_X_16 : Cond.fieldLink "BubbleTorus" 16 RX9 (TX9 1).2.1 (TX9 1).2.2.1 ∈ qT := (tm2 (j := 207) rfl rfl)
theorem fl_X_23 : Cond.fieldLink "BubbleTorus" 23 RX9 (TX9 2).2.1 (TX9 2).2.2.1 ∈ qT := (tm2 (j := 208) rfl rfl)
theorem fl_X_27 : Cond.fieldLink "BubbleTorus" 27 RX9 (TX9 3).2.1 (TX9 3).2.2.1 ∈ qT := (tm2 (j := 209) rfl rfl)
theorem fl_X_34 : Cond.fieldLink "BubbleTorus" 34 RX9 (TX9 4).2.1 (TX9 4).2.2.1 ∈ qT := (tm2 (j := 210) rfl rfl)
theorem fl_X_41 : Cond.fieldLink "BubbleTorus" 41 RX9 (TX9 5).2.1 (TX9 5).2.2.1 ∈ qT := (tm2 (j := 211) rfl rfl)
theorem fl_X_45 : Cond.fieldLink "BubbleTorus" 45 RX9 (TX9 6).2.1 (TX9 6).2.2.1 ∈ qT := (tm2 (j := 212) rfl rfl)
theorem ck_X_335 : Cond.constant "BubbleTorus" 335 (1664525 : Int32) ∈ qT := (tm3 (j := 25) rfl rfl)
theorem ck_X_336 : Cond.constant "BubbleTorus" 336 (1013904223 : Int32) ∈ qT := (tm3 (j := 26) rfl rfl)
theorem nat_copy : Cond.native ⟨"java/lang/System", "arraycopy", "(Ljava/lang/Object;ILjava/lang/Object;II)V"⟩ ∈ qT := (tm4 (j := 210) rfl rfl)
theorem ck_S_138 : Cond.constant "BubbleTorus$Search" 138 (1000003 : Int32) ∈ qT := (tm5 (j := 38) rfl rfl)
theorem ck_S_159 : Cond.constantLong "BubbleTorus$Search" 159 (3 : Int64) ∈ qT := (tm5 (j := 43) rfl rfl)
theorem ck_S_167 : Cond.constantLong "BubbleTorus$Search" 167 (255 : Int64) ∈ qT := (tm5 (j := 45) rfl rfl)
theorem cl_W_10 : Cond.classLink "BubbleTorusLaw" 10 RX10 ∈ qT := (tm5 (j := 173) rfl rfl)
theorem ist_M : Cond.instantiable RX10 26 ∈ qT := (tm5 (j := 174) rfl rfl)
theorem fl_M_7 : Cond.fieldLink "BubbleTorusModel" 7 RX10 (TX10 0).2.1 (TX10 0).2.2.1 ∈ qT := (tm5 (j := 202) rfl rfl)
theorem fl_M_13 : Cond.fieldLink "BubbleTorusModel" 13 RX10 (TX10 1).2.1 (TX10 1).2.2.1 ∈ qT := (tm5 (j := 203) rfl rfl)
theorem fl_M_128 : Cond.fieldLink "BubbleTorusModel" 128 RX10 (TX10 2).2.1 (TX10 2).2.2.1 ∈ qT := (tm5 (j := 204) rfl rfl)
theorem fl_M_16 : Cond.fieldLink "BubbleTorusModel" 16 RX10 (TX10 3).2.1 (TX10 3).2.2.1 ∈ qT := (tm5 (j := 205) rfl rfl)
theorem fl_M_20 : Cond.fieldLink "BubbleTorusModel" 20 RX10 (TX10 4).2.1 (TX10 4).2.2.1 ∈ qT := (tm5 (j := 206) rfl rfl)
theorem fl_M_23 : Cond.fieldLink "BubbleTorusModel" 23 RX10 (TX10 5).2.1 (TX10 5).2.2.1 ∈ qT := (tm5 (j := 207) rfl rfl)
theorem fl_M_26 : Cond.fieldLink "BubbleTorusModel" 26 RX10 (TX10 6).2.1 (TX10 6).2.2.1 ∈ qT := (tm5 (j := 208) rfl rfl)
theorem fl_M_261 : Cond.fieldLink "BubbleTorusModel" 261 RX10 (TX10 7).2.1 (TX10 7).2.2.1 ∈ qT := (tm5 (j := 209) rfl rfl)
theorem fl_M_264 : Cond.fieldLink "BubbleTorusModel" 264 RX10 (TX10 8).2.1 (TX10 8).2.2.1 ∈ qT := (tm5 (j := 210) rfl rfl)
theorem fl_M_280 : Cond.fieldLink "BubbleTorusModel" 280 RX10 (TX10 9).2.1 (TX10 9).2.2.1 ∈ qT := (tm5 (j := 211) rfl rfl)
theorem fl_M_317 : Cond.fieldLink "BubbleTorusModel" 317 RX10 (TX10 10).2.1 (TX10 10).2.2.1 ∈ qT := (tm5 (j := 212) rfl rfl)
theorem fl_M_323 : Cond.fieldLink "BubbleTorusModel" 323 RX10 (TX10 11).2.1 (TX10 11).2.2.1 ∈ qT := (tm5 (j := 213) rfl rfl)
theorem fl_M_326 : Cond.fieldLink "BubbleTorusModel" 326 RX10 (TX10 12).2.1 (TX10 12).2.2.1 ∈ qT := (tm5 (j := 214) rfl rfl)
theorem fl_M_302 : Cond.fieldLink "BubbleTorusModel" 302 RX10 (TX10 13).2.1 (TX10 13).2.2.1 ∈ qT := (tm5 (j := 215) rfl rfl)
theorem fl_M_320 : Cond.fieldLink "BubbleTorusModel" 320 RX10 (TX10 14).2.1 (TX10 14).2.2.1 ∈ qT := (tm5 (j := 216) rfl rfl)
theorem fl_M_29 : Cond.fieldLink "BubbleTorusModel" 29 RX10 (TX10 15).2.1 (TX10 15).2.2.1 ∈ qT := (tm5 (j := 217) rfl rfl)
theorem fl_M_314 : Cond.fieldLink "BubbleTorusModel" 314 RX10 (TX10 16).2.1 (TX10 16).2.2.1 ∈ qT := (tm5 (j := 218) rfl rfl)
theorem fl_M_32 : Cond.fieldLink "BubbleTorusModel" 32 RX10 (TX10 17).2.1 (TX10 17).2.2.1 ∈ qT := (tm5 (j := 219) rfl rfl)
theorem fl_M_35 : Cond.fieldLink "BubbleTorusModel" 35 RX10 (TX10 18).2.1 (TX10 18).2.2.1 ∈ qT := (tm5 (j := 220) rfl rfl)
theorem fl_M_356 : Cond.fieldLink "BubbleTorusModel" 356 RX10 (TX10 19).2.1 (TX10 19).2.2.1 ∈ qT := (tm5 (j := 221) rfl rfl)
theorem fl_M_38 : Cond.fieldLink "BubbleTorusModel" 38 RX10 (TX10 20).2.1 (TX10 20).2.2.1 ∈ qT := (tm5 (j := 222) rfl rfl)
theorem fl_M_41 : Cond.fieldLink "BubbleTorusModel" 41 RX10 (TX10 21).2.1 (TX10 21).2.2.1 ∈ qT := (tm5 (j := 223) rfl rfl)
theorem fl_M_44 : Cond.fieldLink "BubbleTorusModel" 44 RX10 (TX10 22).2.1 (TX10 22).2.2.1 ∈ qT := (tm5 (j := 224) rfl rfl)
theorem fl_M_47 : Cond.fieldLink "BubbleTorusModel" 47 RX10 (TX10 23).2.1 (TX10 23).2.2.1 ∈ qT := (tm5 (j := 225) rfl rfl)
theorem fl_M_335 : Cond.fieldLink "BubbleTorusModel" 335 RX10 (TX10 24).2.1 (TX10 24).2.2.1 ∈ qT := (tm5 (j := 226) rfl rfl)
theorem fl_M_350 : Cond.fieldLink "BubbleTorusModel" 350 RX10 (TX10 25).2.1 (TX10 25).2.2.1 ∈ qT := (tm5 (j := 227) rfl rfl)
theorem ck_M_127 : Cond.constant "BubbleTorusModel" 127 (1664525 : Int32) ∈ qT := (tm6 (j := 144) rfl rfl)
theorem ck_M_132 : Cond.constant "BubbleTorusModel" 132 (1013904223 : Int32) ∈ qT := (tm6 (j := 145) rfl rfl)
theorem ck_M_273 : Cond.constant "BubbleTorusModel" 273 (1000003 : Int32) ∈ qT := (tm7 (j := 175) rfl rfl)
theorem sta_copy : Cond.static ⟨"java/lang/System", "arraycopy", "(Ljava/lang/Object;ILjava/lang/Object;II)V"⟩ ∈ qT := (tm4 (j := 209) rfl rfl)
theorem ini_sys : Cond.initialized "java/lang/System" ∈ qT := (tm1 (j := 14) rfl rfl)
theorem mi_obj : Cond.instanceMethod Lib.objectInit ∈ qT := (tm1 (j := 21) rfl rfl)
theorem mc_obj : Cond.code Lib.objectInit ⟨#[0xb1]⟩ 1 none ∈ qT := (tm1 (j := 22) rfl rfl)
theorem qT_good : ∀ w ∈ qT, (w.onTables && w.keeps) = true ∨ ∃ ty, w = .arrayClass ty := fun w h => good_of_word (List.mem_filter.mp h).2
theorem qT_in : ∀ w ∈ qT, w ∈ lw_tbl := fun w h => (List.mem_filter.mp h).1

def RX0 : String := "RingCounts$BatchText"
def TX0 : u_T := fun k => match k with
  | 0 => ("RingCounts$BatchText", "kinds", "[I", true)
  | 1 => ("RingCounts$BatchText", "firsts", "[I", true)
  | 2 => ("RingCounts$BatchText", "seconds", "[I", true)
  | 3 => ("RingCounts$BatchText", "worths", "[I", true)
  | _ => ("RingCounts$BatchText", "count", "I", false)
def tyX0 : Nat → FieldType := fun k => match k with
  | 0 => .array .int
  | 1 => .array .int
  | 2 => .array .int
  | 3 => .array .int
  | _ => .int
theorem nmX0 : ∀ a, a < 5 → ∀ b, b < 5 → a ≠ b → (TX0 a).2.1 ≠ (TX0 b).2.1 := by decide +kernel
theorem tyX0_ok : ∀ k, k < 5 → parseFieldDescriptor (TX0 k).2.2.1 = some (tyX0 k) := by decide +kernel
abbrev cX0_init : ByteArray := prog_2_method_1_code
def yX0_init : MethodName := ⟨RX0, "<init>", "()V"⟩
def RX1 : String := "RingCounts$Breaking"
def TX1 : u_T := fun k => match k with
  | 0 => ("RingCounts$Breaking", "left", "[J", true)
  | 1 => ("RingCounts$Breaking", "gone", "I", false)
  | _ => ("RingCounts$Breaking", "firstPair", "I", false)
def tyX1 : Nat → FieldType := fun k => match k with
  | 0 => .array .long
  | 1 => .int
  | _ => .int
theorem nmX1 : ∀ a, a < 3 → ∀ b, b < 3 → a ≠ b → (TX1 a).2.1 ≠ (TX1 b).2.1 := by decide +kernel
theorem tyX1_ok : ∀ k, k < 3 → parseFieldDescriptor (TX1 k).2.2.1 = some (tyX1 k) := by decide +kernel
abbrev cX1_init : ByteArray := prog_3_method_1_code
def yX1_init : MethodName := ⟨RX1, "<init>", "()V"⟩
abbrev cX1_breakAll : ByteArray := prog_3_method_2_code
def yX1_breakAll : MethodName := ⟨RX1, "breakAll", "([J)V"⟩
abbrev cX1_mostSupported : ByteArray := prog_3_method_3_code
def yX1_mostSupported : MethodName := ⟨RX1, "mostSupported", "()I"⟩
abbrev cX1_fewestOf : ByteArray := prog_3_method_4_code
def yX1_fewestOf : MethodName := ⟨RX1, "fewestOf", "([J)I"⟩
abbrev cX1_breaksWith : ByteArray := prog_3_method_5_code
def yX1_breaksWith : MethodName := ⟨RX1, "breaksWith", "([JI)Z"⟩
abbrev cX1_breaksWithout : ByteArray := prog_3_method_6_code
def yX1_breaksWithout : MethodName := ⟨RX1, "breaksWithout", "([JIII)Z"⟩
abbrev cX1_anyTriangle : ByteArray := prog_3_method_7_code
def yX1_anyTriangle : MethodName := ⟨RX1, "anyTriangle", "([J)I"⟩
abbrev cX1_flip : ByteArray := prog_3_method_8_code
def yX1_flip : MethodName := ⟨RX1, "flip", "([JII)V"⟩
def RX2 : String := "RingCounts$Counts"
def TX2 : u_T := fun k => match k with
  | _ => ("", "", "", false)
def tyX2 : Nat → FieldType := fun k => match k with
  | _ => .int
theorem nmX2 : ∀ a, a < 0 → ∀ b, b < 0 → a ≠ b → (TX2 a).2.1 ≠ (TX2 b).2.1 := by decide +kernel
theorem tyX2_ok : ∀ k, k < 0 → parseFieldDescriptor (TX2 k).2.2.1 = some (tyX2 k) := by decide +kernel
abbrev cX2_degree : ByteArray := prog_4_method_2_code
def yX2_degree : MethodName := ⟨RX2, "degree", "([JI)I"⟩
abbrev cX2_shared : ByteArray := prog_4_method_3_code
def yX2_shared : MethodName := ⟨RX2, "shared", "([JII)I"⟩
abbrev cX2_trianglesAt : ByteArray := prog_4_method_4_code
def yX2_trianglesAt : MethodName := ⟨RX2, "trianglesAt", "([JI)I"⟩
abbrev cX2_triangles : ByteArray := prog_4_method_5_code
def yX2_triangles : MethodName := ⟨RX2, "triangles", "([J)I"⟩
abbrev cX2_twosAt : ByteArray := prog_4_method_6_code
def yX2_twosAt : MethodName := ⟨RX2, "twosAt", "([JI)I"⟩
abbrev cX2_twos : ByteArray := prog_4_method_7_code
def yX2_twos : MethodName := ⟨RX2, "twos", "([J)I"⟩
abbrev cX2_ringsAt : ByteArray := prog_4_method_8_code
def yX2_ringsAt : MethodName := ⟨RX2, "ringsAt", "([JI)I"⟩
abbrev cX2_rings : ByteArray := prog_4_method_9_code
def yX2_rings : MethodName := ⟨RX2, "rings", "([J)I"⟩
abbrev cX2_foursOn : ByteArray := prog_4_method_10_code
def yX2_foursOn : MethodName := ⟨RX2, "foursOn", "([JII)I"⟩
abbrev cX2_foursAt : ByteArray := prog_4_method_11_code
def yX2_foursAt : MethodName := ⟨RX2, "foursAt", "([JI)I"⟩
abbrev cX2_fours : ByteArray := prog_4_method_12_code
def yX2_fours : MethodName := ⟨RX2, "fours", "([J)I"⟩
abbrev cX2_waysByThree : ByteArray := prog_4_method_13_code
def yX2_waysByThree : MethodName := ⟨RX2, "waysByThree", "([JII)I"⟩
abbrev cX2_far : ByteArray := prog_4_method_14_code
def yX2_far : MethodName := ⟨RX2, "far", "([JII)I"⟩
abbrev cX2_nearAny : ByteArray := prog_4_method_15_code
def yX2_nearAny : MethodName := ⟨RX2, "nearAny", "([JJ)J"⟩
abbrev cX2_coreWithin : ByteArray := prog_4_method_17_code
def yX2_coreWithin : MethodName := ⟨RX2, "coreWithin", "([JJI)J"⟩
abbrev cX2_layCores : ByteArray := prog_4_method_18_code
def yX2_layCores : MethodName := ⟨RX2, "layCores", "([J[I)V"⟩
def RX3 : String := "RingCounts$Net"
def TX3 : u_T := fun k => match k with
  | 0 => ("RingCounts$Net", "near", "[J", true)
  | 1 => ("RingCounts$Net", "worths", "[I", true)
  | 2 => ("RingCounts$Net", "past", "LRingCounts$Past;", true)
  | 3 => ("RingCounts$Net", "edges", "I", false)
  | 4 => ("RingCounts$Net", "span", "I", false)
  | 5 => ("RingCounts$Net", "heavy", "J", false)
  | 6 => ("RingCounts$Net", "moves", "J", false)
  | 7 => ("RingCounts$Net", "carried", "J", false)
  | 8 => ("RingCounts$Net", "rebases", "J", false)
  | 9 => ("RingCounts$Net", "changes", "J", false)
  | _ => ("RingCounts$Net", "picked", "J", false)
def tyX3 : Nat → FieldType := fun k => match k with
  | 0 => .array .long
  | 1 => .array .int
  | 2 => .object "RingCounts$Past"
  | 3 => .int
  | 4 => .int
  | 5 => .long
  | 6 => .long
  | 7 => .long
  | 8 => .long
  | 9 => .long
  | _ => .long
theorem nmX3 : ∀ a, a < 11 → ∀ b, b < 11 → a ≠ b → (TX3 a).2.1 ≠ (TX3 b).2.1 := by decide +kernel
theorem tyX3_ok : ∀ k, k < 11 → parseFieldDescriptor (TX3 k).2.2.1 = some (tyX3 k) := by decide +kernel
abbrev cX3_init : ByteArray := prog_5_method_1_code
def yX3_init : MethodName := ⟨RX3, "<init>", "()V"⟩
abbrev cX3_joins : ByteArray := prog_5_method_2_code
def yX3_joins : MethodName := ⟨RX3, "joins", "(II)Z"⟩
abbrev cX3_isHeavy : ByteArray := prog_5_method_3_code
def yX3_isHeavy : MethodName := ⟨RX3, "isHeavy", "(I)Z"⟩
abbrev cX3_bound : ByteArray := prog_5_method_4_code
def yX3_bound : MethodName := ⟨RX3, "bound", "()I"⟩
abbrev cX3_bring : ByteArray := prog_5_method_5_code
def yX3_bring : MethodName := ⟨RX3, "bring", "(III)V"⟩
abbrev cX3_drop : ByteArray := prog_5_method_6_code
def yX3_drop : MethodName := ⟨RX3, "drop", "(II)V"⟩
abbrev cX3_takeBack : ByteArray := prog_5_method_7_code
def yX3_takeBack : MethodName := ⟨RX3, "takeBack", "(I)I"⟩
abbrev cX3_become : ByteArray := prog_5_method_8_code
def yX3_become : MethodName := ⟨RX3, "become", "(LRingCounts$Net;)V"⟩
abbrev cX3_come : ByteArray := prog_5_method_9_code
def yX3_come : MethodName := ⟨RX3, "come", "(III)V"⟩
abbrev cX3_go : ByteArray := prog_5_method_10_code
def yX3_go : MethodName := ⟨RX3, "go", "(II)V"⟩
abbrev cX3_rebase : ByteArray := prog_5_method_11_code
def yX3_rebase : MethodName := ⟨RX3, "rebase", "(I)V"⟩
abbrev cX3_lookAt : ByteArray := prog_5_method_12_code
def yX3_lookAt : MethodName := ⟨RX3, "lookAt", "(I)V"⟩
def RX4 : String := "RingCounts$Paper"
def TX4 : u_T := fun k => match k with
  | 0 => ("RingCounts$Paper", "bytes", "[B", false)
  | _ => ("RingCounts$Paper", "length", "I", false)
def tyX4 : Nat → FieldType := fun k => match k with
  | 0 => .array .byte
  | _ => .int
theorem nmX4 : ∀ a, a < 2 → ∀ b, b < 2 → a ≠ b → (TX4 a).2.1 ≠ (TX4 b).2.1 := by decide +kernel
theorem tyX4_ok : ∀ k, k < 2 → parseFieldDescriptor (TX4 k).2.2.1 = some (tyX4 k) := by decide +kernel
abbrev cX4_init : ByteArray := prog_6_method_1_code
def yX4_init : MethodName := ⟨RX4, "<init>", "()V"⟩
abbrev cX4_writeEdge : ByteArray := prog_6_method_2_code
def yX4_writeEdge : MethodName := ⟨RX4, "writeEdge", "(III)V"⟩
abbrev cX4_writeNumber : ByteArray := prog_6_method_3_code
def yX4_writeNumber : MethodName := ⟨RX4, "writeNumber", "(I)V"⟩
abbrev cX4_write : ByteArray := prog_6_method_4_code
def yX4_write : MethodName := ⟨RX4, "write", "(I)V"⟩
def RX5 : String := "RingCounts$Past"
def TX5 : u_T := fun k => match k with
  | 0 => ("RingCounts$Past", "cells", "[I", true)
  | _ => ("RingCounts$Past", "size", "I", false)
def tyX5 : Nat → FieldType := fun k => match k with
  | 0 => .array .int
  | _ => .int
theorem nmX5 : ∀ a, a < 2 → ∀ b, b < 2 → a ≠ b → (TX5 a).2.1 ≠ (TX5 b).2.1 := by decide +kernel
theorem tyX5_ok : ∀ k, k < 2 → parseFieldDescriptor (TX5 k).2.2.1 = some (tyX5 k) := by decide +kernel
abbrev cX5_init : ByteArray := prog_7_method_1_code
def yX5_init : MethodName := ⟨RX5, "<init>", "()V"⟩
abbrev cX5_keep : ByteArray := prog_7_method_2_code
def yX5_keep : MethodName := ⟨RX5, "keep", "(ZIII)V"⟩
abbrev cX5_hadCome : ByteArray := prog_7_method_3_code
def yX5_hadCome : MethodName := ⟨RX5, "hadCome", "(I)Z"⟩
abbrev cX5_firstOf : ByteArray := prog_7_method_4_code
def yX5_firstOf : MethodName := ⟨RX5, "firstOf", "(I)I"⟩
abbrev cX5_secondOf : ByteArray := prog_7_method_5_code
def yX5_secondOf : MethodName := ⟨RX5, "secondOf", "(I)I"⟩
abbrev cX5_worthOf : ByteArray := prog_7_method_6_code
def yX5_worthOf : MethodName := ⟨RX5, "worthOf", "(I)I"⟩
abbrev cX5_become : ByteArray := prog_7_method_7_code
def yX5_become : MethodName := ⟨RX5, "become", "(LRingCounts$Past;)V"⟩
def RX6 : String := "RingCounts$Peeling"
def TX6 : u_T := fun k => match k with
  | 0 => ("RingCounts$Peeling", "near", "[J", true)
  | 1 => ("RingCounts$Peeling", "left", "[J", true)
  | 2 => ("RingCounts$Peeling", "supports", "[I", true)
  | 3 => ("RingCounts$Peeling", "trusses", "[I", true)
  | 4 => ("RingCounts$Peeling", "turns", "[I", true)
  | 5 => ("RingCounts$Peeling", "order", "[I", true)
  | 6 => ("RingCounts$Peeling", "waiting", "[I", true)
  | 7 => ("RingCounts$Peeling", "seen", "[I", true)
  | _ => ("RingCounts$Peeling", "edges", "I", false)
def tyX6 : Nat → FieldType := fun k => match k with
  | 0 => .array .long
  | 1 => .array .long
  | 2 => .array .int
  | 3 => .array .int
  | 4 => .array .int
  | 5 => .array .int
  | 6 => .array .int
  | 7 => .array .int
  | _ => .int
theorem nmX6 : ∀ a, a < 9 → ∀ b, b < 9 → a ≠ b → (TX6 a).2.1 ≠ (TX6 b).2.1 := by decide +kernel
theorem tyX6_ok : ∀ k, k < 9 → parseFieldDescriptor (TX6 k).2.2.1 = some (tyX6 k) := by decide +kernel
abbrev cX6_init : ByteArray := prog_8_method_1_code
def yX6_init : MethodName := ⟨RX6, "<init>", "()V"⟩
abbrev cX6_follow : ByteArray := prog_8_method_2_code
def yX6_follow : MethodName := ⟨RX6, "follow", "([J)V"⟩
abbrev cX6_gather : ByteArray := prog_8_method_3_code
def yX6_gather : MethodName := ⟨RX6, "gather", "()V"⟩
abbrev cX6_peel : ByteArray := prog_8_method_4_code
def yX6_peel : MethodName := ⟨RX6, "peel", "()V"⟩
abbrev cX6_leastFrom : ByteArray := prog_8_method_5_code
def yX6_leastFrom : MethodName := ⟨RX6, "leastFrom", "(I)I"⟩
abbrev cX6_takeAway : ByteArray := prog_8_method_6_code
def yX6_takeAway : MethodName := ⟨RX6, "takeAway", "(II)V"⟩
abbrev cX6_edgesFrom : ByteArray := prog_8_method_7_code
def yX6_edgesFrom : MethodName := ⟨RX6, "edgesFrom", "(I)I"⟩
abbrev cX6_hoodOf : ByteArray := prog_8_method_10_code
def yX6_hoodOf : MethodName := ⟨RX6, "hoodOf", "(II)I"⟩
abbrev cX6_hoodsFrom : ByteArray := prog_8_method_11_code
def yX6_hoodsFrom : MethodName := ⟨RX6, "hoodsFrom", "(I)I"⟩
abbrev cX6_walkFrom : ByteArray := prog_8_method_12_code
def yX6_walkFrom : MethodName := ⟨RX6, "walkFrom", "(II)I"⟩
abbrev cX6_meet : ByteArray := prog_8_method_13_code
def yX6_meet : MethodName := ⟨RX6, "meet", "(II)I"⟩
def RX7 : String := "RingCounts$PickText"
def TX7 : u_T := fun k => match k with
  | 0 => ("RingCounts$PickText", "near", "[J", true)
  | 1 => ("RingCounts$PickText", "numbers", "[I", true)
  | 2 => ("RingCounts$PickText", "degrees", "[I", true)
  | 3 => ("RingCounts$PickText", "triangles", "[I", true)
  | 4 => ("RingCounts$PickText", "cores", "[I", true)
  | _ => ("RingCounts$PickText", "heavies", "[I", true)
def tyX7 : Nat → FieldType := fun k => match k with
  | 0 => .array .long
  | 1 => .array .int
  | 2 => .array .int
  | 3 => .array .int
  | 4 => .array .int
  | _ => .array .int
theorem nmX7 : ∀ a, a < 6 → ∀ b, b < 6 → a ≠ b → (TX7 a).2.1 ≠ (TX7 b).2.1 := by decide +kernel
theorem tyX7_ok : ∀ k, k < 6 → parseFieldDescriptor (TX7 k).2.2.1 = some (tyX7 k) := by decide +kernel
abbrev cX7_init : ByteArray := prog_9_method_1_code
def yX7_init : MethodName := ⟨RX7, "<init>", "()V"⟩
def RX8 : String := "RingCounts$Row"
def TX8 : u_T := fun k => match k with
  | 0 => ("RingCounts$Row", "ofInts", "Z", true)
  | 1 => ("RingCounts$Row", "cells", "[J", true)
  | 2 => ("RingCounts$Row", "there", "Z", false)
  | _ => ("RingCounts$Row", "size", "I", false)
def tyX8 : Nat → FieldType := fun k => match k with
  | 0 => .boolean
  | 1 => .array .long
  | 2 => .boolean
  | _ => .int
theorem nmX8 : ∀ a, a < 4 → ∀ b, b < 4 → a ≠ b → (TX8 a).2.1 ≠ (TX8 b).2.1 := by decide +kernel
theorem tyX8_ok : ∀ k, k < 4 → parseFieldDescriptor (TX8 k).2.2.1 = some (tyX8 k) := by decide +kernel
abbrev cX8_init : ByteArray := prog_10_method_1_code
def yX8_init : MethodName := ⟨RX8, "<init>", "(Z)V"⟩
def RX9 : String := "RingCounts$Tape"
def TX9 : u_T := fun k => match k with
  | 0 => ("RingCounts$Tape", "bytes", "[B", true)
  | 1 => ("RingCounts$Tape", "length", "I", false)
  | 2 => ("RingCounts$Tape", "place", "I", false)
  | _ => ("RingCounts$Tape", "fault", "I", false)
def tyX9 : Nat → FieldType := fun k => match k with
  | 0 => .array .byte
  | 1 => .int
  | 2 => .int
  | _ => .int
theorem nmX9 : ∀ a, a < 4 → ∀ b, b < 4 → a ≠ b → (TX9 a).2.1 ≠ (TX9 b).2.1 := by decide +kernel
theorem tyX9_ok : ∀ k, k < 4 → parseFieldDescriptor (TX9 k).2.2.1 = some (tyX9 k) := by decide +kernel
abbrev cX9_init : ByteArray := prog_11_method_1_code
def yX9_init : MethodName := ⟨RX9, "<init>", "()V"⟩
def RX10 : String := "RingCounts"
def TX10 : u_T := fun k => match k with
  | 0 => ("RingCounts", "net", "LRingCounts$Net;", true)
  | 1 => ("RingCounts", "kept", "LRingCounts$Net;", true)
  | 2 => ("RingCounts", "imageTaken", "Z", false)
  | 3 => ("RingCounts", "peeling", "LRingCounts$Peeling;", true)
  | 4 => ("RingCounts", "breaking", "LRingCounts$Breaking;", true)
  | 5 => ("RingCounts", "tape", "LRingCounts$Tape;", true)
  | 6 => ("RingCounts", "batchText", "LRingCounts$BatchText;", true)
  | 7 => ("RingCounts", "pickText", "LRingCounts$PickText;", true)
  | 8 => ("RingCounts", "sheet", "LRingCounts$Paper;", true)
  | 9 => ("RingCounts", "rows", "[LRingCounts$Row;", true)
  | _ => ("RingCounts", "figures", "[I", true)
def tyX10 : Nat → FieldType := fun k => match k with
  | 0 => .object "RingCounts$Net"
  | 1 => .object "RingCounts$Net"
  | 2 => .boolean
  | 3 => .object "RingCounts$Peeling"
  | 4 => .object "RingCounts$Breaking"
  | 5 => .object "RingCounts$Tape"
  | 6 => .object "RingCounts$BatchText"
  | 7 => .object "RingCounts$PickText"
  | 8 => .object "RingCounts$Paper"
  | 9 => .array (.object "RingCounts$Row")
  | _ => .array .int
theorem nmX10 : ∀ a, a < 11 → ∀ b, b < 11 → a ≠ b → (TX10 a).2.1 ≠ (TX10 b).2.1 := by decide +kernel
theorem tyX10_ok : ∀ k, k < 11 → parseFieldDescriptor (TX10 k).2.2.1 = some (tyX10 k) := by decide +kernel
abbrev cX10_init : ByteArray := prog_1_method_1_code
def yX10_init : MethodName := ⟨RX10, "<init>", "()V"⟩
abbrev cX10_add : ByteArray := prog_1_method_2_code
def yX10_add : MethodName := ⟨RX10, "add", "(III)I"⟩
abbrev cX10_cut : ByteArray := prog_1_method_3_code
def yX10_cut : MethodName := ⟨RX10, "cut", "(II)I"⟩
abbrev cX10_of : ByteArray := prog_1_method_5_code
def yX10_of : MethodName := ⟨RX10, "of", "(II)I"⟩
abbrev cX10_two : ByteArray := prog_1_method_6_code
def yX10_two : MethodName := ⟨RX10, "two", "(III)I"⟩
abbrev cX10_edge : ByteArray := prog_1_method_7_code
def yX10_edge : MethodName := ⟨RX10, "edge", "(III)I"⟩
abbrev cX10_near : ByteArray := prog_1_method_9_code
def yX10_near : MethodName := ⟨RX10, "near", "(I)J"⟩
abbrev cX10_told : ByteArray := prog_1_method_10_code
def yX10_told : MethodName := ⟨RX10, "told", "(I)J"⟩
abbrev cX10_truss : ByteArray := prog_1_method_11_code
def yX10_truss : MethodName := ⟨RX10, "truss", "(I)I"⟩
abbrev cX10_hood : ByteArray := prog_1_method_13_code
def yX10_hood : MethodName := ⟨RX10, "hood", "(III)I"⟩
abbrev cX10_hoods : ByteArray := prog_1_method_14_code
def yX10_hoods : MethodName := ⟨RX10, "hoods", "(I)I"⟩
abbrev cX10_broken : ByteArray := prog_1_method_19_code
def yX10_broken : MethodName := ⟨RX10, "broken", "(I)I"⟩
abbrev cX10_fewest : ByteArray := prog_1_method_20_code
def yX10_fewest : MethodName := ⟨RX10, "fewest", "()I"⟩
abbrev cX10_spell : ByteArray := prog_1_method_26_code
def yX10_spell : MethodName := ⟨RX10, "spell", "()I"⟩
abbrev cX10_back : ByteArray := prog_1_method_28_code
def yX10_back : MethodName := ⟨RX10, "back", "(I)I"⟩
abbrev cX10_image : ByteArray := prog_1_method_35_code
def yX10_image : MethodName := ⟨RX10, "image", "()I"⟩
abbrev cX10_undo : ByteArray := prog_1_method_36_code
def yX10_undo : MethodName := ⟨RX10, "undo", "()I"⟩
abbrev cX10_isVertex : ByteArray := prog_1_method_38_code
def yX10_isVertex : MethodName := ⟨RX10, "isVertex", "(I)Z"⟩
abbrev cX10_isTwo : ByteArray := prog_1_method_39_code
def yX10_isTwo : MethodName := ⟨RX10, "isTwo", "(II)Z"⟩
abbrev cX10_pairOf : ByteArray := prog_1_method_42_code
def yX10_pairOf : MethodName := ⟨RX10, "pairOf", "(II)I"⟩
abbrev cX10_hasBit : ByteArray := prog_1_method_43_code
def yX10_hasBit : MethodName := ⟨RX10, "hasBit", "(JI)Z"⟩
abbrev cX10_above : ByteArray := prog_1_method_44_code
def yX10_above : MethodName := ⟨RX10, "above", "(I)J"⟩
def RX11 : String := "RingCountsModel"
def TX11 : u_T := fun k => match k with
  | _ => ("", "", "", false)
def tyX11 : Nat → FieldType := fun k => match k with
  | _ => .int
theorem nmX11 : ∀ a, a < 0 → ∀ b, b < 0 → a ≠ b → (TX11 a).2.1 ≠ (TX11 b).2.1 := by decide +kernel
theorem tyX11_ok : ∀ k, k < 0 → parseFieldDescriptor (TX11 k).2.2.1 = some (tyX11 k) := by decide +kernel
def RJx145de : String := "java/io/Serializable"
def TJx145de : u_T := fun k => match k with
  | _ => ("", "", "", false)
def tyJx145de : Nat → FieldType := fun k => match k with
  | _ => .int
def RJx8e188 : String := "java/lang/Cloneable"
def TJx8e188 : u_T := fun k => match k with
  | _ => ("", "", "", false)
def tyJx8e188 : Nat → FieldType := fun k => match k with
  | _ => .int
def RJxb160c : String := "java/lang/Comparable"
def TJxb160c : u_T := fun k => match k with
  | _ => ("", "", "", false)
def tyJxb160c : Nat → FieldType := fun k => match k with
  | _ => .int
def RJ6 : String := "java/lang/Integer"
def TJ6 : u_T := fun k => match k with
  | _ => ("", "", "", false)
def tyJ6 : Nat → FieldType := fun k => match k with
  | _ => .int
abbrev cJ6_numberOfTrailingZeros_0f7a4 : ByteArray := prog_15_method_48_code
def yJ6_numberOfTrailingZeros_0f7a4 : MethodName := ⟨RJ6, "numberOfTrailingZeros", "(I)I"⟩
def RJ13 : String := "java/lang/Long"
def TJ13 : u_T := fun k => match k with
  | _ => ("", "", "", false)
def tyJ13 : Nat → FieldType := fun k => match k with
  | _ => .int
abbrev cJ13_numberOfTrailingZeros_95d88 : ByteArray := prog_16_method_49_code
def yJ13_numberOfTrailingZeros_95d88 : MethodName := ⟨RJ13, "numberOfTrailingZeros", "(J)I"⟩
abbrev cJ13_bitCount_95d88 : ByteArray := prog_16_method_50_code
def yJ13_bitCount_95d88 : MethodName := ⟨RJ13, "bitCount", "(J)I"⟩
def RJ9 : String := "java/lang/Math"
def TJ9 : u_T := fun k => match k with
  | _ => ("", "", "", false)
def tyJ9 : Nat → FieldType := fun k => match k with
  | _ => .int
abbrev cJ9_abs_0f7a4 : ByteArray := prog_17_method_59_code
def yJ9_abs_0f7a4 : MethodName := ⟨RJ9, "abs", "(I)I"⟩
abbrev cJ9_max_7cf53 : ByteArray := prog_17_method_65_code
def yJ9_max_7cf53 : MethodName := ⟨RJ9, "max", "(II)I"⟩
abbrev cJ9_min_7cf53 : ByteArray := prog_17_method_69_code
def yJ9_min_7cf53 : MethodName := ⟨RJ9, "min", "(II)I"⟩
def RJxd2413 : String := "java/lang/Number"
def TJxd2413 : u_T := fun k => match k with
  | _ => ("", "", "", false)
def tyJxd2413 : Nat → FieldType := fun k => match k with
  | _ => .int
def RJ10 : String := "java/lang/System"
def TJ10 : u_T := fun k => match k with
  | _ => ("", "", "", false)
def tyJ10 : Nat → FieldType := fun k => match k with
  | _ => .int
def RJxfd54e : String := "java/lang/constant/Constable"
def TJxfd54e : u_T := fun k => match k with
  | _ => ("", "", "", false)
def tyJxfd54e : Nat → FieldType := fun k => match k with
  | _ => .int
def RJx3cf43 : String := "java/lang/constant/ConstantDesc"
def TJx3cf43 : u_T := fun k => match k with
  | _ => ("", "", "", false)
def tyJx3cf43 : Nat → FieldType := fun k => match k with
  | _ => .int
def RJ7 : String := "java/util/Arrays"
def TJ7 : u_T := fun k => match k with
  | _ => ("", "", "", false)
def tyJ7 : Nat → FieldType := fun k => match k with
  | _ => .int
abbrev cJ7_fill_53178 : ByteArray := prog_20_method_103_code
def yJ7_fill_53178 : MethodName := ⟨RJ7, "fill", "([II)V"⟩
abbrev cJ7_copyOf_9075b : ByteArray := prog_20_method_121_code
def yJ7_copyOf_9075b : MethodName := ⟨RJ7, "copyOf", "([BI)[B"⟩
def RL : String := "RingCountsLaw"
abbrev cL_cell : ByteArray := method_2_code
def yL_cell : MethodName := ⟨RL, "cell", "([II)I"⟩
abbrev cL_bits : ByteArray := method_3_code
def yL_bits : MethodName := ⟨RL, "bits", "(J)I"⟩
abbrev cL_has : ByteArray := method_4_code
def yL_has : MethodName := ⟨RL, "has", "(JI)Z"⟩
abbrev cL_bound : ByteArray := method_5_code
def yL_bound : MethodName := ⟨RL, "bound", "([I)I"⟩
abbrev cL_looks : ByteArray := method_6_code
def yL_looks : MethodName := ⟨RL, "looks", "([J[I[JI)V"⟩
abbrev cL_change : ByteArray := method_7_code
def yL_change : MethodName := ⟨RL, "change", "([J[I[JII)V"⟩
abbrev cL_shared : ByteArray := method_8_code
def yL_shared : MethodName := ⟨RL, "shared", "([JII)I"⟩
abbrev cL_worth : ByteArray := method_15_code
def yL_worth : MethodName := ⟨RL, "worth", "(III)I"⟩
abbrev cL_net : ByteArray := method_16_code
def yL_net : MethodName := ⟨RL, "net", "(LRingCounts;[J[I[J[III)Z"⟩
abbrev cL_sees : ByteArray := method_17_code
def yL_sees : MethodName := ⟨RL, "sees", "(LRingCounts;[J[I[J)Z"⟩
abbrev cL_law : ByteArray := code
def yL_law : MethodName := ⟨RL, "law", "([I)Z"⟩
abbrev vwCl : List vw_C := [(RX0, TX0, 5), (RX1, TX1, 3), (RX3, TX3, 11), (RX4, TX4, 2), (RX5, TX5, 2), (RX6, TX6, 9), (RX7, TX7, 6), (RX8, TX8, 4), (RX9, TX9, 4), (RX10, TX10, 11)]

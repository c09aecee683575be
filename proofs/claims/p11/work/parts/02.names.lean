abbrev RX0 : String := "EditMoves$Digits"
def TX0 : u_T := fun k => match k with
  | 0 => ("EditMoves$Digits", "came", "[I", true)
  | 1 => ("EditMoves$Digits", "lost", "I", false)
  | 2 => ("EditMoves$Digits", "lostAhead", "Z", false)
  | 3 => ("EditMoves$Digits", "allZero", "Z", false)
  | _ => ("EditMoves$Digits", "negative", "Z", false)
def tyX0 : Nat → FieldType := fun k => match k with
  | 0 => .array .int
  | 1 => .int
  | 2 => .boolean
  | 3 => .boolean
  | _ => .boolean
theorem nmX0 : ∀ a, a < 5 → ∀ b, b < 5 → a ≠ b → (TX0 a).2.1 ≠ (TX0 b).2.1 := by decide +kernel
theorem tyX0_ok : ∀ k, k < 5 → parseFieldDescriptor (TX0 k).2.2.1 = some (tyX0 k) := by decide +kernel
abbrev RX1 : String := "EditMoves$Editor"
def TX1 : u_T := fun k => match k with
  | 0 => ("EditMoves$Editor", "digits", "LEditMoves$Digits;", true)
  | 1 => ("EditMoves$Editor", "result", "LEditMoves$Result;", true)
  | 2 => ("EditMoves$Editor", "fill", "I", false)
  | 3 => ("EditMoves$Editor", "nextDigit", "I", false)
  | 4 => ("EditMoves$Editor", "begun", "Z", false)
  | _ => ("EditMoves$Editor", "suppressing", "Z", false)
def tyX1 : Nat → FieldType := fun k => match k with
  | 0 => .object "EditMoves$Digits"
  | 1 => .object "EditMoves$Result"
  | 2 => .int
  | 3 => .int
  | 4 => .boolean
  | _ => .boolean
theorem nmX1 : ∀ a, a < 6 → ∀ b, b < 6 → a ≠ b → (TX1 a).2.1 ≠ (TX1 b).2.1 := by decide +kernel
theorem tyX1_ok : ∀ k, k < 6 → parseFieldDescriptor (TX1 k).2.2.1 = some (tyX1 k) := by decide +kernel
abbrev RX2 : String := "EditMoves$Line"
def TX2 : u_T := fun k => match k with
  | 0 => ("EditMoves$Line", "row", "[I", true)
  | _ => ("EditMoves$Line", "length", "I", false)
def tyX2 : Nat → FieldType := fun k => match k with
  | 0 => .array .int
  | _ => .int
theorem nmX2 : ∀ a, a < 2 → ∀ b, b < 2 → a ≠ b → (TX2 a).2.1 ≠ (TX2 b).2.1 := by decide +kernel
theorem tyX2_ok : ∀ k, k < 2 → parseFieldDescriptor (TX2 k).2.2.1 = some (tyX2 k) := by decide +kernel
abbrev RX3 : String := "EditMoves$Picture"
def TX3 : u_T := fun k => match k with
  | 0 => ("EditMoves$Picture", "signs", "[I", true)
  | 1 => ("EditMoves$Picture", "counts", "[I", true)
  | 2 => ("EditMoves$Picture", "cursor", "I", false)
  | 3 => ("EditMoves$Picture", "runs", "I", false)
  | 4 => ("EditMoves$Picture", "kind", "I", false)
  | 5 => ("EditMoves$Picture", "places", "I", false)
  | 6 => ("EditMoves$Picture", "digitsAhead", "I", false)
  | 7 => ("EditMoves$Picture", "digitsBehind", "I", false)
  | 8 => ("EditMoves$Picture", "allSuppressed", "Z", false)
  | 9 => ("EditMoves$Picture", "stringSign", "I", false)
  | _ => ("EditMoves$Picture", "floats", "Z", false)
def tyX3 : Nat → FieldType := fun k => match k with
  | 0 => .array .int
  | 1 => .array .int
  | 2 => .int
  | 3 => .int
  | 4 => .int
  | 5 => .int
  | 6 => .int
  | 7 => .int
  | 8 => .boolean
  | 9 => .int
  | _ => .boolean
theorem nmX3 : ∀ a, a < 11 → ∀ b, b < 11 → a ≠ b → (TX3 a).2.1 ≠ (TX3 b).2.1 := by decide +kernel
theorem tyX3_ok : ∀ k, k < 11 → parseFieldDescriptor (TX3 k).2.2.1 = some (tyX3 k) := by decide +kernel
abbrev RX4 : String := "EditMoves$Result"
def TX4 : u_T := fun k => match k with
  | 0 => ("EditMoves$Result", "row", "[I", true)
  | 1 => ("EditMoves$Result", "shownDigit", "[Z", true)
  | 2 => ("EditMoves$Result", "kind", "I", false)
  | 3 => ("EditMoves$Result", "length", "I", false)
  | _ => ("EditMoves$Result", "hiddenPlaces", "I", false)
def tyX4 : Nat → FieldType := fun k => match k with
  | 0 => .array .int
  | 1 => .array .boolean
  | 2 => .int
  | 3 => .int
  | _ => .int
theorem nmX4 : ∀ a, a < 5 → ∀ b, b < 5 → a ≠ b → (TX4 a).2.1 ≠ (TX4 b).2.1 := by decide +kernel
theorem tyX4_ok : ∀ k, k < 5 → parseFieldDescriptor (TX4 k).2.2.1 = some (tyX4 k) := by decide +kernel
abbrev RX5 : String := "EditMoves"
def TX5 : u_T := fun k => match k with
  | 0 => ("EditMoves", "pictureLine", "LEditMoves$Line;", true)
  | 1 => ("EditMoves", "textLine", "LEditMoves$Line;", true)
  | 2 => ("EditMoves", "shape", "LEditMoves$Picture;", true)
  | 3 => ("EditMoves", "editor", "LEditMoves$Editor;", true)
  | 4 => ("EditMoves", "amount", "J", false)
  | 5 => ("EditMoves", "decimals", "I", false)
  | 6 => ("EditMoves", "currencySign", "I", false)
  | 7 => ("EditMoves", "blankWhenZero", "Z", false)
  | 8 => ("EditMoves", "sizeAsked", "Z", false)
  | 9 => ("EditMoves", "lost", "I", false)
  | _ => ("EditMoves", "readBack", "J", false)
def tyX5 : Nat → FieldType := fun k => match k with
  | 0 => .object "EditMoves$Line"
  | 1 => .object "EditMoves$Line"
  | 2 => .object "EditMoves$Picture"
  | 3 => .object "EditMoves$Editor"
  | 4 => .long
  | 5 => .int
  | 6 => .int
  | 7 => .boolean
  | 8 => .boolean
  | 9 => .int
  | _ => .long
theorem nmX5 : ∀ a, a < 11 → ∀ b, b < 11 → a ≠ b → (TX5 a).2.1 ≠ (TX5 b).2.1 := by decide +kernel
theorem tyX5_ok : ∀ k, k < 11 → parseFieldDescriptor (TX5 k).2.2.1 = some (tyX5 k) := by decide +kernel
abbrev RX6 : String := "EditMovesModel"
def TX6 : u_T := fun k => match k with
  | 0 => ("EditMovesModel", "picture", "[I", true)
  | 1 => ("EditMovesModel", "text", "[I", true)
  | 2 => ("EditMovesModel", "pictures", "I", false)
  | 3 => ("EditMovesModel", "texts", "I", false)
  | 4 => ("EditMovesModel", "scale", "I", false)
  | 5 => ("EditMovesModel", "money", "I", false)
  | 6 => ("EditMovesModel", "value", "J", false)
  | 7 => ("EditMovesModel", "number", "J", false)
  | 8 => ("EditMovesModel", "blanks", "Z", false)
  | 9 => ("EditMovesModel", "asked", "Z", false)
  | 10 => ("EditMovesModel", "row", "[I", true)
  | 11 => ("EditMovesModel", "many", "I", false)
  | 12 => ("EditMovesModel", "sort", "I", false)
  | 13 => ("EditMovesModel", "ahead", "I", false)
  | 14 => ("EditMovesModel", "behind", "I", false)
  | 15 => ("EditMovesModel", "string", "I", false)
  | 16 => ("EditMovesModel", "begins", "I", false)
  | 17 => ("EditMovesModel", "strings", "I", false)
  | 18 => ("EditMovesModel", "nines", "I", false)
  | 19 => ("EditMovesModel", "result", "[I", true)
  | 20 => ("EditMovesModel", "places", "I", false)
  | 21 => ("EditMovesModel", "hidden", "I", false)
  | 22 => ("EditMovesModel", "cuts", "I", false)
  | 23 => ("EditMovesModel", "resultSort", "I", false)
  | 24 => ("EditMovesModel", "came", "[I", true)
  | 25 => ("EditMovesModel", "magnitude", "[I", true)
  | 26 => ("EditMovesModel", "negative", "Z", false)
  | 27 => ("EditMovesModel", "backRow", "[I", true)
  | _ => ("EditMovesModel", "backDigits", "I", false)
def tyX6 : Nat → FieldType := fun k => match k with
  | 0 => .array .int
  | 1 => .array .int
  | 2 => .int
  | 3 => .int
  | 4 => .int
  | 5 => .int
  | 6 => .long
  | 7 => .long
  | 8 => .boolean
  | 9 => .boolean
  | 10 => .array .int
  | 11 => .int
  | 12 => .int
  | 13 => .int
  | 14 => .int
  | 15 => .int
  | 16 => .int
  | 17 => .int
  | 18 => .int
  | 19 => .array .int
  | 20 => .int
  | 21 => .int
  | 22 => .int
  | 23 => .int
  | 24 => .array .int
  | 25 => .array .int
  | 26 => .boolean
  | 27 => .array .int
  | _ => .int
theorem nmX6 : ∀ a, a < 29 → ∀ b, b < 29 → a ≠ b → (TX6 a).2.1 ≠ (TX6 b).2.1 := by decide +kernel
theorem tyX6_ok : ∀ k, k < 29 → parseFieldDescriptor (TX6 k).2.2.1 = some (tyX6 k) := by decide +kernel
abbrev RXs : String := "java/lang/String"
abbrev RXl : String := "java/lang/StringLatin1"
abbrev vwCl : List vw_C := [(RX0, TX0, 5), (RX1, TX1, 6), (RX2, TX2, 2), (RX3, TX3, 11), (RX4, TX4, 5), (RX5, TX5, 11), (RX6, TX6, 29)]
/-- the tables' words that stay -/
def wAll : List Cond := lw_tbl.filter goodWord
theorem wA_in {w : Cond} (h : w ∈ wAll) : w ∈ lw_tbl := (List.mem_filter.mp h).1
theorem wA_g {w : Cond} (h : w ∈ wAll) : goodWord w = true := (List.mem_filter.mp h).2
theorem wA_t {w : Cond} (k : Nat) (h : tables_1[k]? = some w) (g : goodWord w = true) : w ∈ wAll := List.mem_filter.mpr ⟨List.mem_append_right _ (List.mem_of_getElem? h), g⟩
theorem wA_s {y : MethodName} {n : Nat} (k : Nat) (h : lw_privs[k]? = some (y, n)) : Cond.selects y.cls y y ∈ wAll := List.mem_filter.mpr ⟨List.mem_append_left _ (List.mem_map.mpr ⟨_, List.mem_of_getElem? h, rfl⟩), rfl⟩
theorem wA_good {Ts : List Cond} {c : Cond} (hT : ∀ w ∈ wAll, w ∈ Ts) (h : c ∈ wAll) : GoodIn Ts (c :: wAll) := fun w hw => by
  rcases List.mem_cons.mp hw with rfl | hw
  · exact ⟨hT _ h, good_of_word (wA_g h)⟩
  · exact ⟨hT _ hw, good_of_word (wA_g hw)⟩
theorem wA_V {Ts : List Cond} {own C : String} {idx : Nat} {y : MethodName} {c : Cond} (hT : ∀ w ∈ wAll, w ∈ Ts) (h1 : Cond.methodLink own idx y ∈ wAll) (h2 : Cond.instanceMethod y ∈ wAll) (h3 : Cond.selects C y y ∈ wAll) (h4 : Cond.initialized C ∈ wAll) (h : c ∈ wAll) : GoodIn Ts (wsV own idx C y (c :: wAll)) := fun w hw => by
  unfold wsV at hw
  rcases List.mem_append.mp hw with hw | hw
  · have : w ∈ wAll := by
      simp only [List.mem_cons, List.not_mem_nil, or_false] at hw
      rcases hw with rfl | rfl | rfl | rfl
      · exact h1
      · exact h2
      · exact h3
      · exact h4
    exact ⟨hT _ this, good_of_word (wA_g this)⟩
  · exact wA_good hT h w hw
theorem wA_SA {Ts : List Cond} {own : String} {idx : Nat} {y : MethodName} {c : Cond} (hT : ∀ w ∈ wAll, w ∈ Ts) (h1 : Cond.methodLink own idx y ∈ wAll) (h2 : Cond.static y ∈ wAll) (h3 : Cond.initialized y.cls ∈ wAll) (h : c ∈ wAll) : GoodIn Ts (va_wsS own idx y (c :: wAll)) := fun w hw => by
  unfold va_wsS at hw
  rcases List.mem_append.mp hw with hw | hw
  · have : w ∈ wAll := by
      simp only [List.mem_cons, List.not_mem_nil, or_false] at hw
      rcases hw with rfl | rfl | rfl
      · exact h1
      · exact h2
      · exact h3
    exact ⟨hT _ this, good_of_word (wA_g this)⟩
  · exact wA_good hT h w hw
theorem tp_0 : (.selects "EditMoves$Picture" ⟨"EditMoves$Picture", "forget", "()V"⟩ ⟨"EditMoves$Picture", "forget", "()V"⟩ : Cond) ∈ wAll := wA_s (y := ⟨"EditMoves$Picture", "forget", "()V"⟩) (n := 11) 0 (by decide +kernel)
theorem tw_1 : (.initialized "EditMoves" : Cond) ∈ wAll := wA_t 1 (by decide +kernel) rfl
theorem tp_1 : (.selects "EditMoves$Picture" ⟨"EditMoves$Picture", "split", "(LEditMoves$Line;I)Z"⟩ ⟨"EditMoves$Picture", "split", "(LEditMoves$Line;I)Z"⟩ : Cond) ∈ wAll := wA_s (y := ⟨"EditMoves$Picture", "split", "(LEditMoves$Line;I)Z"⟩) (n := 11) 1 (by decide +kernel)
theorem tw_2 : (.initialized "EditMoves$Line" : Cond) ∈ wAll := wA_t 2 (by decide +kernel) rfl
theorem tp_2 : (.selects "EditMoves$Picture" ⟨"EditMoves$Picture", "takeSign", "(LEditMoves$Line;I)I"⟩ ⟨"EditMoves$Picture", "takeSign", "(LEditMoves$Line;I)I"⟩ : Cond) ∈ wAll := wA_s (y := ⟨"EditMoves$Picture", "takeSign", "(LEditMoves$Line;I)I"⟩) (n := 11) 2 (by decide +kernel)
theorem tw_3 : (.initialized "EditMoves$Picture" : Cond) ∈ wAll := wA_t 3 (by decide +kernel) rfl
theorem tp_3 : (.selects "EditMoves$Picture" ⟨"EditMoves$Picture", "takeCount", "(LEditMoves$Line;)I"⟩ ⟨"EditMoves$Picture", "takeCount", "(LEditMoves$Line;)I"⟩ : Cond) ∈ wAll := wA_s (y := ⟨"EditMoves$Picture", "takeCount", "(LEditMoves$Line;)I"⟩) (n := 11) 3 (by decide +kernel)
theorem tp_4 : (.selects "EditMoves$Picture" ⟨"EditMoves$Picture", "isOfText", "()Z"⟩ ⟨"EditMoves$Picture", "isOfText", "()Z"⟩ : Cond) ∈ wAll := wA_s (y := ⟨"EditMoves$Picture", "isOfText", "()Z"⟩) (n := 11) 4 (by decide +kernel)
theorem tw_4 : (.initialized "EditMoves$Editor" : Cond) ∈ wAll := wA_t 4 (by decide +kernel) rfl
theorem tp_5 : (.selects "EditMoves$Picture" ⟨"EditMoves$Picture", "isOfNumber", "(I)Z"⟩ ⟨"EditMoves$Picture", "isOfNumber", "(I)Z"⟩ : Cond) ∈ wAll := wA_s (y := ⟨"EditMoves$Picture", "isOfNumber", "(I)Z"⟩) (n := 11) 5 (by decide +kernel)
theorem tw_5 : (.initialized "EditMoves$Digits" : Cond) ∈ wAll := wA_t 5 (by decide +kernel) rfl
theorem tp_6 : (.selects "EditMoves$Picture" ⟨"EditMoves$Picture", "takeFixedSign", "()I"⟩ ⟨"EditMoves$Picture", "takeFixedSign", "()I"⟩ : Cond) ∈ wAll := wA_s (y := ⟨"EditMoves$Picture", "takeFixedSign", "()I"⟩) (n := 11) 6 (by decide +kernel)
theorem tw_6 : (.initialized "EditMoves$Result" : Cond) ∈ wAll := wA_t 6 (by decide +kernel) rfl
theorem tp_7 : (.selects "EditMoves$Picture" ⟨"EditMoves$Picture", "takeOne", "(I)Z"⟩ ⟨"EditMoves$Picture", "takeOne", "(I)Z"⟩ : Cond) ∈ wAll := wA_s (y := ⟨"EditMoves$Picture", "takeOne", "(I)Z"⟩) (n := 11) 7 (by decide +kernel)
theorem tw_7 : (.initialized "EditMovesModel" : Cond) ∈ wAll := wA_t 7 (by decide +kernel) rfl
theorem tw_8 : (.initialized "java/lang/String" : Cond) ∈ wAll := wA_t 8 (by decide +kernel) rfl
theorem tp_8 : (.selects "EditMoves$Picture" ⟨"EditMoves$Picture", "takeAll", "(I)I"⟩ ⟨"EditMoves$Picture", "takeAll", "(I)I"⟩ : Cond) ∈ wAll := wA_s (y := ⟨"EditMoves$Picture", "takeAll", "(I)I"⟩) (n := 11) 8 (by decide +kernel)
theorem tw_9 : (.initialized "java/lang/StringLatin1" : Cond) ∈ wAll := wA_t 9 (by decide +kernel) rfl
theorem tp_9 : (.selects "EditMoves$Picture" ⟨"EditMoves$Picture", "takeString", "(II)I"⟩ ⟨"EditMoves$Picture", "takeString", "(II)I"⟩ : Cond) ∈ wAll := wA_s (y := ⟨"EditMoves$Picture", "takeString", "(II)I"⟩) (n := 11) 9 (by decide +kernel)
theorem tw_10 : (.initialized "java/lang/Math" : Cond) ∈ wAll := wA_t 10 (by decide +kernel) rfl
theorem tp_10 : (.selects "EditMoves$Picture" ⟨"EditMoves$Picture", "upcoming", "()I"⟩ ⟨"EditMoves$Picture", "upcoming", "()I"⟩ : Cond) ∈ wAll := wA_s (y := ⟨"EditMoves$Picture", "upcoming", "()I"⟩) (n := 11) 10 (by decide +kernel)
theorem tp_11 : (.selects "EditMoves$Picture" ⟨"EditMoves$Picture", "takeEnd", "()Z"⟩ ⟨"EditMoves$Picture", "takeEnd", "()Z"⟩ : Cond) ∈ wAll := wA_s (y := ⟨"EditMoves$Picture", "takeEnd", "()Z"⟩) (n := 11) 11 (by decide +kernel)
theorem tp_12 : (.selects "EditMoves$Picture" ⟨"EditMoves$Picture", "countPlaces", "()I"⟩ ⟨"EditMoves$Picture", "countPlaces", "()I"⟩ : Cond) ∈ wAll := wA_s (y := ⟨"EditMoves$Picture", "countPlaces", "()I"⟩) (n := 11) 12 (by decide +kernel)
theorem tp_13 : (.selects "EditMoves" ⟨"EditMoves", "editLine", "()I"⟩ ⟨"EditMoves", "editLine", "()I"⟩ : Cond) ∈ wAll := wA_s (y := ⟨"EditMoves", "editLine", "()I"⟩) (n := 11) 13 (by decide +kernel)
theorem tp_14 : (.selects "EditMoves" ⟨"EditMoves", "editAmount", "()I"⟩ ⟨"EditMoves", "editAmount", "()I"⟩ : Cond) ∈ wAll := wA_s (y := ⟨"EditMoves", "editAmount", "()I"⟩) (n := 11) 14 (by decide +kernel)
theorem tp_15 : (.selects "EditMoves$Digits" ⟨"EditMoves$Digits", "clear", "()V"⟩ ⟨"EditMoves$Digits", "clear", "()V"⟩ : Cond) ∈ wAll := wA_s (y := ⟨"EditMoves$Digits", "clear", "()V"⟩) (n := 5) 15 (by decide +kernel)
theorem tp_16 : (.selects "EditMoves$Digits" ⟨"EditMoves$Digits", "bringOne", "(III)V"⟩ ⟨"EditMoves$Digits", "bringOne", "(III)V"⟩ : Cond) ∈ wAll := wA_s (y := ⟨"EditMoves$Digits", "bringOne", "(III)V"⟩) (n := 5) 16 (by decide +kernel)
theorem tp_17 : (.selects "EditMoves$Editor" ⟨"EditMoves$Editor", "hideSign", "(I)V"⟩ ⟨"EditMoves$Editor", "hideSign", "(I)V"⟩ : Cond) ∈ wAll := wA_s (y := ⟨"EditMoves$Editor", "hideSign", "(I)V"⟩) (n := 6) 17 (by decide +kernel)
theorem tp_18 : (.selects "EditMoves$Editor" ⟨"EditMoves$Editor", "writeSign", "(LEditMoves$Picture;I)V"⟩ ⟨"EditMoves$Editor", "writeSign", "(LEditMoves$Picture;I)V"⟩ : Cond) ∈ wAll := wA_s (y := ⟨"EditMoves$Editor", "writeSign", "(LEditMoves$Picture;I)V"⟩) (n := 6) 18 (by decide +kernel)
theorem tp_19 : (.selects "EditMoves$Editor" ⟨"EditMoves$Editor", "writeStringSign", "(LEditMoves$Picture;)V"⟩ ⟨"EditMoves$Editor", "writeStringSign", "(LEditMoves$Picture;)V"⟩ : Cond) ∈ wAll := wA_s (y := ⟨"EditMoves$Editor", "writeStringSign", "(LEditMoves$Picture;)V"⟩) (n := 6) 19 (by decide +kernel)
theorem tp_20 : (.selects "EditMoves$Editor" ⟨"EditMoves$Editor", "takeDigit", "()I"⟩ ⟨"EditMoves$Editor", "takeDigit", "()I"⟩ : Cond) ∈ wAll := wA_s (y := ⟨"EditMoves$Editor", "takeDigit", "()I"⟩) (n := 6) 20 (by decide +kernel)
theorem tp_21 : (.selects "EditMoves$Editor" ⟨"EditMoves$Editor", "endSuppressing", "(LEditMoves$Picture;)V"⟩ ⟨"EditMoves$Editor", "endSuppressing", "(LEditMoves$Picture;)V"⟩ : Cond) ∈ wAll := wA_s (y := ⟨"EditMoves$Editor", "endSuppressing", "(LEditMoves$Picture;)V"⟩) (n := 6) 21 (by decide +kernel)
theorem tp_22 : (.selects "EditMoves$Editor" ⟨"EditMoves$Editor", "signShown", "(I)I"⟩ ⟨"EditMoves$Editor", "signShown", "(I)I"⟩ : Cond) ∈ wAll := wA_s (y := ⟨"EditMoves$Editor", "signShown", "(I)I"⟩) (n := 6) 22 (by decide +kernel)
theorem tp_23 : (.selects "EditMoves$Editor" ⟨"EditMoves$Editor", "writePlainSign", "(I)V"⟩ ⟨"EditMoves$Editor", "writePlainSign", "(I)V"⟩ : Cond) ∈ wAll := wA_s (y := ⟨"EditMoves$Editor", "writePlainSign", "(I)V"⟩) (n := 6) 23 (by decide +kernel)
theorem tp_24 : (.selects "EditMoves$Editor" ⟨"EditMoves$Editor", "writePair", "(II)V"⟩ ⟨"EditMoves$Editor", "writePair", "(II)V"⟩ : Cond) ∈ wAll := wA_s (y := ⟨"EditMoves$Editor", "writePair", "(II)V"⟩) (n := 6) 24 (by decide +kernel)
theorem tp_25 : (.selects "EditMovesModel" ⟨"EditMovesModel", "look", "()V"⟩ ⟨"EditMovesModel", "look", "()V"⟩ : Cond) ∈ wAll := wA_s (y := ⟨"EditMovesModel", "look", "()V"⟩) (n := 29) 25 (by decide +kernel)
theorem tp_26 : (.selects "EditMovesModel" ⟨"EditMovesModel", "scan", "()Z"⟩ ⟨"EditMovesModel", "scan", "()Z"⟩ : Cond) ∈ wAll := wA_s (y := ⟨"EditMovesModel", "scan", "()Z"⟩) (n := 29) 26 (by decide +kernel)
theorem tp_27 : (.selects "EditMovesModel" ⟨"EditMovesModel", "signAt", "(I)I"⟩ ⟨"EditMovesModel", "signAt", "(I)I"⟩ : Cond) ∈ wAll := wA_s (y := ⟨"EditMovesModel", "signAt", "(I)I"⟩) (n := 29) 27 (by decide +kernel)
theorem tw_28 : (.fieldLink "EditMoves$Line" 9 "EditMoves$Line" "row" "[I" : Cond) ∈ wAll := wA_t 28 (by decide +kernel) rfl
theorem tp_28 : (.selects "EditMovesModel" ⟨"EditMovesModel", "at0", "(I)I"⟩ ⟨"EditMovesModel", "at0", "(I)I"⟩ : Cond) ∈ wAll := wA_s (y := ⟨"EditMovesModel", "at0", "(I)I"⟩) (n := 29) 28 (by decide +kernel)
theorem tw_29 : (.fieldLink "EditMoves$Line" 13 "EditMoves$Line" "length" "I" : Cond) ∈ wAll := wA_t 29 (by decide +kernel) rfl
theorem tp_29 : (.selects "EditMovesModel" ⟨"EditMovesModel", "isText", "()Z"⟩ ⟨"EditMovesModel", "isText", "()Z"⟩ : Cond) ∈ wAll := wA_s (y := ⟨"EditMovesModel", "isText", "()Z"⟩) (n := 29) 29 (by decide +kernel)
theorem tw_30 : (.fieldLink "EditMoves$Editor" 39 "EditMoves$Line" "length" "I" : Cond) ∈ wAll := wA_t 30 (by decide +kernel) rfl
theorem tp_30 : (.selects "EditMovesModel" ⟨"EditMovesModel", "isNumber", "()Z"⟩ ⟨"EditMovesModel", "isNumber", "()Z"⟩ : Cond) ∈ wAll := wA_s (y := ⟨"EditMovesModel", "isNumber", "()Z"⟩) (n := 29) 30 (by decide +kernel)
theorem tw_31 : (.fieldLink "EditMoves$Picture" 66 "EditMoves$Line" "length" "I" : Cond) ∈ wAll := wA_t 31 (by decide +kernel) rfl
theorem tp_31 : (.selects "EditMovesModel" ⟨"EditMovesModel", "main", "(I)I"⟩ ⟨"EditMovesModel", "main", "(I)I"⟩ : Cond) ∈ wAll := wA_s (y := ⟨"EditMovesModel", "main", "(I)I"⟩) (n := 29) 31 (by decide +kernel)
theorem tp_32 : (.selects "EditMovesModel" ⟨"EditMovesModel", "signOf", "(I)I"⟩ ⟨"EditMovesModel", "signOf", "(I)I"⟩ : Cond) ∈ wAll := wA_s (y := ⟨"EditMovesModel", "signOf", "(I)I"⟩) (n := 29) 32 (by decide +kernel)
theorem tw_32 : (.laysFinal "EditMoves$Line" "EditMoves$Line" "row" "[I" : Cond) ∈ wAll := wA_t 32 (by decide +kernel) rfl
theorem tp_33 : (.selects "EditMovesModel" ⟨"EditMovesModel", "run", "(II)I"⟩ ⟨"EditMovesModel", "run", "(II)I"⟩ : Cond) ∈ wAll := wA_s (y := ⟨"EditMovesModel", "run", "(II)I"⟩) (n := 29) 33 (by decide +kernel)
theorem tp_34 : (.selects "EditMovesModel" ⟨"EditMovesModel", "pass", "(II)I"⟩ ⟨"EditMovesModel", "pass", "(II)I"⟩ : Cond) ∈ wAll := wA_s (y := ⟨"EditMovesModel", "pass", "(II)I"⟩) (n := 29) 34 (by decide +kernel)
theorem tw_34 : (.lays "EditMoves$Line" "EditMoves$Line" "length" "I" : Cond) ∈ wAll := wA_t 34 (by decide +kernel) rfl
theorem tp_35 : (.selects "EditMovesModel" ⟨"EditMovesModel", "width", "()I"⟩ ⟨"EditMovesModel", "width", "()I"⟩ : Cond) ∈ wAll := wA_s (y := ⟨"EditMovesModel", "width", "()I"⟩) (n := 29) 35 (by decide +kernel)
theorem tp_36 : (.selects "EditMovesModel" ⟨"EditMovesModel", "digits", "()I"⟩ ⟨"EditMovesModel", "digits", "()I"⟩ : Cond) ∈ wAll := wA_s (y := ⟨"EditMovesModel", "digits", "()I"⟩) (n := 29) 36 (by decide +kernel)
theorem tp_37 : (.selects "EditMovesModel" ⟨"EditMovesModel", "editText", "()I"⟩ ⟨"EditMovesModel", "editText", "()I"⟩ : Cond) ∈ wAll := wA_s (y := ⟨"EditMovesModel", "editText", "()I"⟩) (n := 29) 37 (by decide +kernel)
theorem tp_38 : (.selects "EditMovesModel" ⟨"EditMovesModel", "put", "(I)V"⟩ ⟨"EditMovesModel", "put", "(I)V"⟩ : Cond) ∈ wAll := wA_s (y := ⟨"EditMovesModel", "put", "(I)V"⟩) (n := 29) 38 (by decide +kernel)
theorem tp_39 : (.selects "EditMovesModel" ⟨"EditMovesModel", "isZero", "()Z"⟩ ⟨"EditMovesModel", "isZero", "()Z"⟩ : Cond) ∈ wAll := wA_s (y := ⟨"EditMovesModel", "isZero", "()Z"⟩) (n := 29) 39 (by decide +kernel)
theorem tp_40 : (.selects "EditMovesModel" ⟨"EditMovesModel", "fill", "(I)V"⟩ ⟨"EditMovesModel", "fill", "(I)V"⟩ : Cond) ∈ wAll := wA_s (y := ⟨"EditMovesModel", "fill", "(I)V"⟩) (n := 29) 40 (by decide +kernel)
theorem tp_41 : (.selects "EditMovesModel" ⟨"EditMovesModel", "places", "()V"⟩ ⟨"EditMovesModel", "places", "()V"⟩ : Cond) ∈ wAll := wA_s (y := ⟨"EditMovesModel", "places", "()V"⟩) (n := 29) 41 (by decide +kernel)
theorem tp_42 : (.selects "EditMovesModel" ⟨"EditMovesModel", "shown", "()I"⟩ ⟨"EditMovesModel", "shown", "()I"⟩ : Cond) ∈ wAll := wA_s (y := ⟨"EditMovesModel", "shown", "()I"⟩) (n := 29) 42 (by decide +kernel)
theorem tp_43 : (.selects "EditMovesModel" ⟨"EditMovesModel", "plain", "(I)V"⟩ ⟨"EditMovesModel", "plain", "(I)V"⟩ : Cond) ∈ wAll := wA_s (y := ⟨"EditMovesModel", "plain", "(I)V"⟩) (n := 29) 43 (by decide +kernel)
theorem tw_44 : (.fieldLink "EditMoves$Picture" 9 "EditMoves$Picture" "signs" "[I" : Cond) ∈ wAll := wA_t 44 (by decide +kernel) rfl
theorem tw_45 : (.fieldLink "EditMoves$Picture" 15 "EditMoves$Picture" "counts" "[I" : Cond) ∈ wAll := wA_t 45 (by decide +kernel) rfl
theorem tw_46 : (.fieldLink "EditMoves$Picture" 47 "EditMoves$Picture" "cursor" "I" : Cond) ∈ wAll := wA_t 46 (by decide +kernel) rfl
theorem tw_47 : (.fieldLink "EditMoves$Editor" 29 "EditMoves$Picture" "runs" "I" : Cond) ∈ wAll := wA_t 47 (by decide +kernel) rfl
theorem tw_48 : (.fieldLink "EditMoves$Picture" 44 "EditMoves$Picture" "runs" "I" : Cond) ∈ wAll := wA_t 48 (by decide +kernel) rfl
theorem tw_49 : (.fieldLink "EditMoves$Picture" 29 "EditMoves$Picture" "kind" "I" : Cond) ∈ wAll := wA_t 49 (by decide +kernel) rfl
theorem tw_50 : (.fieldLink "EditMoves" 67 "EditMoves$Picture" "kind" "I" : Cond) ∈ wAll := wA_t 50 (by decide +kernel) rfl
theorem tw_51 : (.fieldLink "EditMoves$Picture" 41 "EditMoves$Picture" "places" "I" : Cond) ∈ wAll := wA_t 51 (by decide +kernel) rfl
theorem tw_52 : (.fieldLink "EditMoves" 70 "EditMoves$Picture" "places" "I" : Cond) ∈ wAll := wA_t 52 (by decide +kernel) rfl
theorem tw_53 : (.fieldLink "EditMoves$Picture" 50 "EditMoves$Picture" "digitsAhead" "I" : Cond) ∈ wAll := wA_t 53 (by decide +kernel) rfl
theorem tw_54 : (.fieldLink "EditMoves" 106 "EditMoves$Picture" "digitsAhead" "I" : Cond) ∈ wAll := wA_t 54 (by decide +kernel) rfl
theorem tw_55 : (.fieldLink "EditMoves$Picture" 53 "EditMoves$Picture" "digitsBehind" "I" : Cond) ∈ wAll := wA_t 55 (by decide +kernel) rfl
theorem tw_56 : (.fieldLink "EditMoves" 109 "EditMoves$Picture" "digitsBehind" "I" : Cond) ∈ wAll := wA_t 56 (by decide +kernel) rfl
theorem tw_57 : (.fieldLink "EditMoves$Editor" 70 "EditMoves$Picture" "allSuppressed" "Z" : Cond) ∈ wAll := wA_t 57 (by decide +kernel) rfl
theorem tw_58 : (.fieldLink "EditMoves$Picture" 56 "EditMoves$Picture" "allSuppressed" "Z" : Cond) ∈ wAll := wA_t 58 (by decide +kernel) rfl
theorem tw_59 : (.fieldLink "EditMoves" 112 "EditMoves$Picture" "allSuppressed" "Z" : Cond) ∈ wAll := wA_t 59 (by decide +kernel) rfl
theorem tw_60 : (.fieldLink "EditMoves$Editor" 61 "EditMoves$Picture" "stringSign" "I" : Cond) ∈ wAll := wA_t 60 (by decide +kernel) rfl
theorem tw_61 : (.fieldLink "EditMoves$Picture" 60 "EditMoves$Picture" "stringSign" "I" : Cond) ∈ wAll := wA_t 61 (by decide +kernel) rfl
theorem tw_62 : (.fieldLink "EditMoves$Editor" 101 "EditMoves$Picture" "floats" "Z" : Cond) ∈ wAll := wA_t 62 (by decide +kernel) rfl
theorem tw_63 : (.fieldLink "EditMoves$Picture" 63 "EditMoves$Picture" "floats" "Z" : Cond) ∈ wAll := wA_t 63 (by decide +kernel) rfl
theorem tw_64 : (.laysFinal "EditMoves$Picture" "EditMoves$Picture" "signs" "[I" : Cond) ∈ wAll := wA_t 64 (by decide +kernel) rfl
theorem tw_66 : (.laysFinal "EditMoves$Picture" "EditMoves$Picture" "counts" "[I" : Cond) ∈ wAll := wA_t 66 (by decide +kernel) rfl
theorem tw_68 : (.lays "EditMoves$Picture" "EditMoves$Picture" "cursor" "I" : Cond) ∈ wAll := wA_t 68 (by decide +kernel) rfl
theorem tw_70 : (.lays "EditMoves$Picture" "EditMoves$Picture" "runs" "I" : Cond) ∈ wAll := wA_t 70 (by decide +kernel) rfl
theorem tw_72 : (.lays "EditMoves$Picture" "EditMoves$Picture" "kind" "I" : Cond) ∈ wAll := wA_t 72 (by decide +kernel) rfl
theorem tw_74 : (.lays "EditMoves$Picture" "EditMoves$Picture" "places" "I" : Cond) ∈ wAll := wA_t 74 (by decide +kernel) rfl
theorem tw_76 : (.lays "EditMoves$Picture" "EditMoves$Picture" "digitsAhead" "I" : Cond) ∈ wAll := wA_t 76 (by decide +kernel) rfl
theorem tw_78 : (.lays "EditMoves$Picture" "EditMoves$Picture" "digitsBehind" "I" : Cond) ∈ wAll := wA_t 78 (by decide +kernel) rfl
theorem tw_80 : (.lays "EditMoves$Picture" "EditMoves$Picture" "allSuppressed" "Z" : Cond) ∈ wAll := wA_t 80 (by decide +kernel) rfl
theorem tw_82 : (.lays "EditMoves$Picture" "EditMoves$Picture" "stringSign" "I" : Cond) ∈ wAll := wA_t 82 (by decide +kernel) rfl
theorem tw_84 : (.lays "EditMoves$Picture" "EditMoves$Picture" "floats" "Z" : Cond) ∈ wAll := wA_t 84 (by decide +kernel) rfl
theorem tw_99 : (.fieldLink "EditMoves$Digits" 9 "EditMoves$Digits" "came" "[I" : Cond) ∈ wAll := wA_t 99 (by decide +kernel) rfl
theorem tw_100 : (.fieldLink "EditMoves$Digits" 29 "EditMoves$Digits" "lost" "I" : Cond) ∈ wAll := wA_t 100 (by decide +kernel) rfl
theorem tw_101 : (.fieldLink "EditMoves" 132 "EditMoves$Digits" "lost" "I" : Cond) ∈ wAll := wA_t 101 (by decide +kernel) rfl
theorem tw_102 : (.fieldLink "EditMoves$Digits" 33 "EditMoves$Digits" "lostAhead" "Z" : Cond) ∈ wAll := wA_t 102 (by decide +kernel) rfl
theorem tw_103 : (.fieldLink "EditMoves" 133 "EditMoves$Digits" "lostAhead" "Z" : Cond) ∈ wAll := wA_t 103 (by decide +kernel) rfl
theorem tw_104 : (.fieldLink "EditMoves$Digits" 22 "EditMoves$Digits" "allZero" "Z" : Cond) ∈ wAll := wA_t 104 (by decide +kernel) rfl
theorem tw_105 : (.fieldLink "EditMoves$Editor" 67 "EditMoves$Digits" "allZero" "Z" : Cond) ∈ wAll := wA_t 105 (by decide +kernel) rfl
theorem tw_106 : (.fieldLink "EditMoves$Digits" 26 "EditMoves$Digits" "negative" "Z" : Cond) ∈ wAll := wA_t 106 (by decide +kernel) rfl
theorem tw_107 : (.fieldLink "EditMoves$Editor" 118 "EditMoves$Digits" "negative" "Z" : Cond) ∈ wAll := wA_t 107 (by decide +kernel) rfl
theorem tw_108 : (.laysFinal "EditMoves$Digits" "EditMoves$Digits" "came" "[I" : Cond) ∈ wAll := wA_t 108 (by decide +kernel) rfl
theorem tw_110 : (.lays "EditMoves$Digits" "EditMoves$Digits" "lost" "I" : Cond) ∈ wAll := wA_t 110 (by decide +kernel) rfl
theorem tw_112 : (.lays "EditMoves$Digits" "EditMoves$Digits" "lostAhead" "Z" : Cond) ∈ wAll := wA_t 112 (by decide +kernel) rfl
theorem tw_114 : (.lays "EditMoves$Digits" "EditMoves$Digits" "allZero" "Z" : Cond) ∈ wAll := wA_t 114 (by decide +kernel) rfl
theorem tw_116 : (.lays "EditMoves$Digits" "EditMoves$Digits" "negative" "Z" : Cond) ∈ wAll := wA_t 116 (by decide +kernel) rfl
theorem tw_125 : (.fieldLink "EditMoves$Result" 11 "EditMoves$Result" "row" "[I" : Cond) ∈ wAll := wA_t 125 (by decide +kernel) rfl
theorem tw_126 : (.fieldLink "EditMoves$Result" 15 "EditMoves$Result" "shownDigit" "[Z" : Cond) ∈ wAll := wA_t 126 (by decide +kernel) rfl
theorem tw_127 : (.fieldLink "EditMoves$Result" 21 "EditMoves$Result" "kind" "I" : Cond) ∈ wAll := wA_t 127 (by decide +kernel) rfl
theorem tw_128 : (.fieldLink "EditMoves$Editor" 25 "EditMoves$Result" "kind" "I" : Cond) ∈ wAll := wA_t 128 (by decide +kernel) rfl
theorem tw_129 : (.fieldLink "EditMoves" 84 "EditMoves$Result" "kind" "I" : Cond) ∈ wAll := wA_t 129 (by decide +kernel) rfl
theorem tw_130 : (.fieldLink "EditMoves$Result" 25 "EditMoves$Result" "length" "I" : Cond) ∈ wAll := wA_t 130 (by decide +kernel) rfl
theorem tw_131 : (.fieldLink "EditMoves" 119 "EditMoves$Result" "length" "I" : Cond) ∈ wAll := wA_t 131 (by decide +kernel) rfl
theorem tw_132 : (.fieldLink "EditMoves$Result" 28 "EditMoves$Result" "hiddenPlaces" "I" : Cond) ∈ wAll := wA_t 132 (by decide +kernel) rfl
theorem tw_133 : (.fieldLink "EditMoves" 103 "EditMoves$Result" "hiddenPlaces" "I" : Cond) ∈ wAll := wA_t 133 (by decide +kernel) rfl
theorem tw_134 : (.laysFinal "EditMoves$Result" "EditMoves$Result" "row" "[I" : Cond) ∈ wAll := wA_t 134 (by decide +kernel) rfl
theorem tw_136 : (.laysFinal "EditMoves$Result" "EditMoves$Result" "shownDigit" "[Z" : Cond) ∈ wAll := wA_t 136 (by decide +kernel) rfl
theorem tw_138 : (.lays "EditMoves$Result" "EditMoves$Result" "kind" "I" : Cond) ∈ wAll := wA_t 138 (by decide +kernel) rfl
theorem tw_140 : (.lays "EditMoves$Result" "EditMoves$Result" "length" "I" : Cond) ∈ wAll := wA_t 140 (by decide +kernel) rfl
theorem tw_142 : (.lays "EditMoves$Result" "EditMoves$Result" "hiddenPlaces" "I" : Cond) ∈ wAll := wA_t 142 (by decide +kernel) rfl
theorem tw_146 : (.fieldLink "EditMoves$Editor" 10 "EditMoves$Editor" "digits" "LEditMoves$Digits;" : Cond) ∈ wAll := wA_t 146 (by decide +kernel) rfl
theorem tw_147 : (.fieldLink "EditMoves" 122 "EditMoves$Editor" "digits" "LEditMoves$Digits;" : Cond) ∈ wAll := wA_t 147 (by decide +kernel) rfl
theorem tw_148 : (.fieldLink "EditMoves$Editor" 19 "EditMoves$Editor" "result" "LEditMoves$Result;" : Cond) ∈ wAll := wA_t 148 (by decide +kernel) rfl
theorem tw_149 : (.fieldLink "EditMoves" 51 "EditMoves$Editor" "result" "LEditMoves$Result;" : Cond) ∈ wAll := wA_t 149 (by decide +kernel) rfl
theorem tw_150 : (.fieldLink "EditMoves$Editor" 64 "EditMoves$Editor" "fill" "I" : Cond) ∈ wAll := wA_t 150 (by decide +kernel) rfl
theorem tw_151 : (.fieldLink "EditMoves$Editor" 51 "EditMoves$Editor" "nextDigit" "I" : Cond) ∈ wAll := wA_t 151 (by decide +kernel) rfl
theorem tw_152 : (.fieldLink "EditMoves$Editor" 54 "EditMoves$Editor" "begun" "Z" : Cond) ∈ wAll := wA_t 152 (by decide +kernel) rfl
theorem tw_153 : (.fieldLink "EditMoves$Editor" 58 "EditMoves$Editor" "suppressing" "Z" : Cond) ∈ wAll := wA_t 153 (by decide +kernel) rfl
theorem tw_154 : (.laysFinal "EditMoves$Editor" "EditMoves$Editor" "digits" "LEditMoves$Digits;" : Cond) ∈ wAll := wA_t 154 (by decide +kernel) rfl
theorem tw_156 : (.laysFinal "EditMoves$Editor" "EditMoves$Editor" "result" "LEditMoves$Result;" : Cond) ∈ wAll := wA_t 156 (by decide +kernel) rfl
theorem tw_158 : (.lays "EditMoves$Editor" "EditMoves$Editor" "fill" "I" : Cond) ∈ wAll := wA_t 158 (by decide +kernel) rfl
theorem tw_160 : (.lays "EditMoves$Editor" "EditMoves$Editor" "nextDigit" "I" : Cond) ∈ wAll := wA_t 160 (by decide +kernel) rfl
theorem tw_162 : (.lays "EditMoves$Editor" "EditMoves$Editor" "begun" "Z" : Cond) ∈ wAll := wA_t 162 (by decide +kernel) rfl
theorem tw_164 : (.lays "EditMoves$Editor" "EditMoves$Editor" "suppressing" "Z" : Cond) ∈ wAll := wA_t 164 (by decide +kernel) rfl
theorem tw_167 : (.fieldLink "EditMoves" 10 "EditMoves" "pictureLine" "LEditMoves$Line;" : Cond) ∈ wAll := wA_t 167 (by decide +kernel) rfl
theorem tw_168 : (.fieldLink "EditMoves" 16 "EditMoves" "textLine" "LEditMoves$Line;" : Cond) ∈ wAll := wA_t 168 (by decide +kernel) rfl
theorem tw_169 : (.fieldLink "EditMoves" 22 "EditMoves" "shape" "LEditMoves$Picture;" : Cond) ∈ wAll := wA_t 169 (by decide +kernel) rfl
theorem tw_170 : (.fieldLink "EditMoves" 29 "EditMoves" "editor" "LEditMoves$Editor;" : Cond) ∈ wAll := wA_t 170 (by decide +kernel) rfl
theorem tw_171 : (.fieldLink "EditMoves" 44 "EditMoves" "amount" "J" : Cond) ∈ wAll := wA_t 171 (by decide +kernel) rfl
theorem tw_172 : (.fieldLink "EditMoves" 48 "EditMoves" "decimals" "I" : Cond) ∈ wAll := wA_t 172 (by decide +kernel) rfl
theorem tw_173 : (.fieldLink "EditMoves" 33 "EditMoves" "currencySign" "I" : Cond) ∈ wAll := wA_t 173 (by decide +kernel) rfl
theorem tw_174 : (.fieldLink "EditMoves" 96 "EditMoves" "blankWhenZero" "Z" : Cond) ∈ wAll := wA_t 174 (by decide +kernel) rfl
theorem tw_175 : (.fieldLink "EditMoves" 100 "EditMoves" "sizeAsked" "Z" : Cond) ∈ wAll := wA_t 175 (by decide +kernel) rfl
theorem tw_176 : (.fieldLink "EditMoves" 60 "EditMoves" "lost" "I" : Cond) ∈ wAll := wA_t 176 (by decide +kernel) rfl
theorem tw_177 : (.fieldLink "EditMoves" 89 "EditMoves" "readBack" "J" : Cond) ∈ wAll := wA_t 177 (by decide +kernel) rfl
theorem tw_178 : (.laysFinal "EditMoves" "EditMoves" "pictureLine" "LEditMoves$Line;" : Cond) ∈ wAll := wA_t 178 (by decide +kernel) rfl
theorem tw_180 : (.laysFinal "EditMoves" "EditMoves" "textLine" "LEditMoves$Line;" : Cond) ∈ wAll := wA_t 180 (by decide +kernel) rfl
theorem tw_182 : (.laysFinal "EditMoves" "EditMoves" "shape" "LEditMoves$Picture;" : Cond) ∈ wAll := wA_t 182 (by decide +kernel) rfl
theorem tw_184 : (.laysFinal "EditMoves" "EditMoves" "editor" "LEditMoves$Editor;" : Cond) ∈ wAll := wA_t 184 (by decide +kernel) rfl
theorem tw_186 : (.lays "EditMoves" "EditMoves" "amount" "J" : Cond) ∈ wAll := wA_t 186 (by decide +kernel) rfl
theorem tw_188 : (.lays "EditMoves" "EditMoves" "decimals" "I" : Cond) ∈ wAll := wA_t 188 (by decide +kernel) rfl
theorem tw_190 : (.lays "EditMoves" "EditMoves" "currencySign" "I" : Cond) ∈ wAll := wA_t 190 (by decide +kernel) rfl
theorem tw_192 : (.lays "EditMoves" "EditMoves" "blankWhenZero" "Z" : Cond) ∈ wAll := wA_t 192 (by decide +kernel) rfl
theorem tw_194 : (.lays "EditMoves" "EditMoves" "sizeAsked" "Z" : Cond) ∈ wAll := wA_t 194 (by decide +kernel) rfl
theorem tw_196 : (.lays "EditMoves" "EditMoves" "lost" "I" : Cond) ∈ wAll := wA_t 196 (by decide +kernel) rfl
theorem tw_198 : (.lays "EditMoves" "EditMoves" "readBack" "J" : Cond) ∈ wAll := wA_t 198 (by decide +kernel) rfl
theorem tw_205 : (.methodLink "EditMoves" 37 ⟨"EditMoves$Line", "clear", "()V"⟩ : Cond) ∈ wAll := wA_t 205 (by decide +kernel) rfl
theorem tw_206 : (.instanceMethod ⟨"EditMoves$Line", "clear", "()V"⟩ : Cond) ∈ wAll := wA_t 206 (by decide +kernel) rfl
theorem tw_207 : (.selects "EditMoves$Line" ⟨"EditMoves$Line", "clear", "()V"⟩ ⟨"EditMoves$Line", "clear", "()V"⟩ : Cond) ∈ wAll := wA_t 207 (by decide +kernel) rfl
theorem tw_208 : (.code ⟨"EditMoves$Line", "clear", "()V"⟩ prog_4_method_2_code 1 none : Cond) ∈ wAll := wA_t 208 (by decide +kernel) rfl
theorem tw_209 : (.methodLink "EditMoves" 40 ⟨"EditMoves$Line", "add", "(I)V"⟩ : Cond) ∈ wAll := wA_t 209 (by decide +kernel) rfl
theorem tw_210 : (.instanceMethod ⟨"EditMoves$Line", "add", "(I)V"⟩ : Cond) ∈ wAll := wA_t 210 (by decide +kernel) rfl
theorem tw_211 : (.selects "EditMoves$Line" ⟨"EditMoves$Line", "add", "(I)V"⟩ ⟨"EditMoves$Line", "add", "(I)V"⟩ : Cond) ∈ wAll := wA_t 211 (by decide +kernel) rfl
theorem tw_212 : (.code ⟨"EditMoves$Line", "add", "(I)V"⟩ prog_4_method_3_code 2 none : Cond) ∈ wAll := wA_t 212 (by decide +kernel) rfl
theorem tw_225 : (.methodLink "EditMoves" 55 ⟨"EditMoves$Result", "drop", "()V"⟩ : Cond) ∈ wAll := wA_t 225 (by decide +kernel) rfl
theorem tw_226 : (.instanceMethod ⟨"EditMoves$Result", "drop", "()V"⟩ : Cond) ∈ wAll := wA_t 226 (by decide +kernel) rfl
theorem tw_227 : (.selects "EditMoves$Result" ⟨"EditMoves$Result", "drop", "()V"⟩ ⟨"EditMoves$Result", "drop", "()V"⟩ : Cond) ∈ wAll := wA_t 227 (by decide +kernel) rfl
theorem tw_228 : (.code ⟨"EditMoves$Result", "drop", "()V"⟩ prog_6_method_2_code 1 none : Cond) ∈ wAll := wA_t 228 (by decide +kernel) rfl
theorem tw_229 : (.methodLink "EditMoves" 63 ⟨"EditMoves$Picture", "read", "(LEditMoves$Line;I)V"⟩ : Cond) ∈ wAll := wA_t 229 (by decide +kernel) rfl
theorem tw_230 : (.instanceMethod ⟨"EditMoves$Picture", "read", "(LEditMoves$Line;I)V"⟩ : Cond) ∈ wAll := wA_t 230 (by decide +kernel) rfl
theorem tw_231 : (.selects "EditMoves$Picture" ⟨"EditMoves$Picture", "read", "(LEditMoves$Line;I)V"⟩ ⟨"EditMoves$Picture", "read", "(LEditMoves$Line;I)V"⟩ : Cond) ∈ wAll := wA_t 231 (by decide +kernel) rfl
theorem tw_232 : (.code ⟨"EditMoves$Picture", "read", "(LEditMoves$Line;I)V"⟩ prog_5_method_2_code 4 none : Cond) ∈ wAll := wA_t 232 (by decide +kernel) rfl
theorem tw_233 : (.methodLink "EditMoves$Picture" 18 ⟨"EditMoves$Picture", "forget", "()V"⟩ : Cond) ∈ wAll := wA_t 233 (by decide +kernel) rfl
theorem tw_235 : (.instanceMethod ⟨"EditMoves$Picture", "forget", "()V"⟩ : Cond) ∈ wAll := wA_t 235 (by decide +kernel) rfl
theorem tw_236 : (.code ⟨"EditMoves$Picture", "forget", "()V"⟩ prog_5_method_7_code 1 none : Cond) ∈ wAll := wA_t 236 (by decide +kernel) rfl
theorem tw_237 : (.methodLink "EditMoves$Picture" 21 ⟨"EditMoves$Picture", "split", "(LEditMoves$Line;I)Z"⟩ : Cond) ∈ wAll := wA_t 237 (by decide +kernel) rfl
theorem tw_239 : (.instanceMethod ⟨"EditMoves$Picture", "split", "(LEditMoves$Line;I)Z"⟩ : Cond) ∈ wAll := wA_t 239 (by decide +kernel) rfl
theorem tw_240 : (.code ⟨"EditMoves$Picture", "split", "(LEditMoves$Line;I)Z"⟩ prog_5_method_8_code 6 (some .boolean) : Cond) ∈ wAll := wA_t 240 (by decide +kernel) rfl
theorem tw_241 : (.methodLink "EditMoves$Picture" 69 ⟨"EditMoves$Picture", "takeSign", "(LEditMoves$Line;I)I"⟩ : Cond) ∈ wAll := wA_t 241 (by decide +kernel) rfl
theorem tw_243 : (.instanceMethod ⟨"EditMoves$Picture", "takeSign", "(LEditMoves$Line;I)I"⟩ : Cond) ∈ wAll := wA_t 243 (by decide +kernel) rfl
theorem tw_244 : (.code ⟨"EditMoves$Picture", "takeSign", "(LEditMoves$Line;I)I"⟩ prog_5_method_9_code 6 (some .int) : Cond) ∈ wAll := wA_t 244 (by decide +kernel) rfl
theorem tw_245 : (.methodLink "EditMoves$Picture" 77 ⟨"EditMoves$Line", "character", "(I)I"⟩ : Cond) ∈ wAll := wA_t 245 (by decide +kernel) rfl
theorem tw_246 : (.instanceMethod ⟨"EditMoves$Line", "character", "(I)I"⟩ : Cond) ∈ wAll := wA_t 246 (by decide +kernel) rfl
theorem tw_247 : (.selects "EditMoves$Line" ⟨"EditMoves$Line", "character", "(I)I"⟩ ⟨"EditMoves$Line", "character", "(I)I"⟩ : Cond) ∈ wAll := wA_t 247 (by decide +kernel) rfl
theorem tw_248 : (.code ⟨"EditMoves$Line", "character", "(I)I"⟩ prog_4_method_4_code 2 (some .int) : Cond) ∈ wAll := wA_t 248 (by decide +kernel) rfl
theorem tw_250 : (.static ⟨"EditMoves", "toGreat", "(I)I"⟩ : Cond) ∈ wAll := wA_t 250 (by decide +kernel) rfl
theorem tw_251 : (.code ⟨"EditMoves", "toGreat", "(I)I"⟩ prog_1_method_19_code 1 (some .int) : Cond) ∈ wAll := wA_t 251 (by decide +kernel) rfl
theorem tw_253 : (.methodLink "EditMoves$Picture" 88 ⟨"java/lang/String", "indexOf", "(I)I"⟩ : Cond) ∈ wAll := wA_t 253 (by decide +kernel) rfl
theorem tw_254 : (.instanceMethod ⟨"java/lang/String", "indexOf", "(I)I"⟩ : Cond) ∈ wAll := wA_t 254 (by decide +kernel) rfl
theorem tw_255 : (.selects "java/lang/String" ⟨"java/lang/String", "indexOf", "(I)I"⟩ ⟨"java/lang/String", "indexOf", "(I)I"⟩ : Cond) ∈ wAll := wA_t 255 (by decide +kernel) rfl
theorem tw_256 : (.code ⟨"java/lang/String", "indexOf", "(I)I"⟩ prog_11_method_79_code 2 (some .int) : Cond) ∈ wAll := wA_t 256 (by decide +kernel) rfl
theorem tw_257 : (.methodLink "java/lang/String" 633 ⟨"java/lang/String", "indexOf", "(II)I"⟩ : Cond) ∈ wAll := wA_t 257 (by decide +kernel) rfl
theorem tw_258 : (.instanceMethod ⟨"java/lang/String", "indexOf", "(II)I"⟩ : Cond) ∈ wAll := wA_t 258 (by decide +kernel) rfl
theorem tw_259 : (.selects "java/lang/String" ⟨"java/lang/String", "indexOf", "(II)I"⟩ ⟨"java/lang/String", "indexOf", "(II)I"⟩ : Cond) ∈ wAll := wA_t 259 (by decide +kernel) rfl
theorem tw_260 : (.code ⟨"java/lang/String", "indexOf", "(II)I"⟩ prog_11_method_80_code 3 (some .int) : Cond) ∈ wAll := wA_t 260 (by decide +kernel) rfl
theorem tw_261 : (.methodLink "java/lang/String" 492 ⟨"java/lang/String", "isLatin1", "()Z"⟩ : Cond) ∈ wAll := wA_t 261 (by decide +kernel) rfl
theorem tw_262 : (.instanceMethod ⟨"java/lang/String", "isLatin1", "()Z"⟩ : Cond) ∈ wAll := wA_t 262 (by decide +kernel) rfl
theorem tw_263 : (.selects "java/lang/String" ⟨"java/lang/String", "isLatin1", "()Z"⟩ ⟨"java/lang/String", "isLatin1", "()Z"⟩ : Cond) ∈ wAll := wA_t 263 (by decide +kernel) rfl
theorem tw_264 : (.code ⟨"java/lang/String", "isLatin1", "()Z"⟩ prog_11_method_154_code 1 (some .boolean) : Cond) ∈ wAll := wA_t 264 (by decide +kernel) rfl
theorem tw_265 : (.fieldLink "java/lang/String" 38 "java/lang/String" "COMPACT_STRINGS" "Z" : Cond) ∈ wAll := wA_t 265 (by decide +kernel) rfl
theorem tw_267 : (.methodLink "java/lang/String" 505 ⟨"java/lang/String", "length", "()I"⟩ : Cond) ∈ wAll := wA_t 267 (by decide +kernel) rfl
theorem tw_268 : (.instanceMethod ⟨"java/lang/String", "length", "()I"⟩ : Cond) ∈ wAll := wA_t 268 (by decide +kernel) rfl
theorem tw_269 : (.selects "java/lang/String" ⟨"java/lang/String", "length", "()I"⟩ ⟨"java/lang/String", "length", "()I"⟩ : Cond) ∈ wAll := wA_t 269 (by decide +kernel) rfl
theorem tw_270 : (.code ⟨"java/lang/String", "length", "()I"⟩ prog_11_method_54_code 1 (some .int) : Cond) ∈ wAll := wA_t 270 (by decide +kernel) rfl
theorem tw_271 : (.methodLink "java/lang/String" 335 ⟨"java/lang/String", "coder", "()B"⟩ : Cond) ∈ wAll := wA_t 271 (by decide +kernel) rfl
theorem tw_272 : (.instanceMethod ⟨"java/lang/String", "coder", "()B"⟩ : Cond) ∈ wAll := wA_t 272 (by decide +kernel) rfl
theorem tw_273 : (.selects "java/lang/String" ⟨"java/lang/String", "coder", "()B"⟩ ⟨"java/lang/String", "coder", "()B"⟩ : Cond) ∈ wAll := wA_t 273 (by decide +kernel) rfl
theorem tw_274 : (.code ⟨"java/lang/String", "coder", "()B"⟩ prog_11_method_152_code 1 (some .byte) : Cond) ∈ wAll := wA_t 274 (by decide +kernel) rfl
theorem tw_275 : (.methodLink "java/lang/String" 637 ⟨"java/lang/StringLatin1", "indexOf", "([BIII)I"⟩ : Cond) ∈ wAll := wA_t 275 (by decide +kernel) rfl
theorem tw_276 : (.static ⟨"java/lang/StringLatin1", "indexOf", "([BIII)I"⟩ : Cond) ∈ wAll := wA_t 276 (by decide +kernel) rfl
theorem tw_277 : (.code ⟨"java/lang/StringLatin1", "indexOf", "([BIII)I"⟩ prog_12_method_22_code 4 (some .int) : Cond) ∈ wAll := wA_t 277 (by decide +kernel) rfl
theorem tw_278 : (.methodLink "java/lang/StringLatin1" 88 ⟨"java/lang/StringLatin1", "canEncode", "(I)Z"⟩ : Cond) ∈ wAll := wA_t 278 (by decide +kernel) rfl
theorem tw_279 : (.static ⟨"java/lang/StringLatin1", "canEncode", "(I)Z"⟩ : Cond) ∈ wAll := wA_t 279 (by decide +kernel) rfl
theorem tw_280 : (.code ⟨"java/lang/StringLatin1", "canEncode", "(I)Z"⟩ prog_12_method_4_code 1 (some .boolean) : Cond) ∈ wAll := wA_t 280 (by decide +kernel) rfl
theorem tw_281 : (.methodLink "java/lang/StringLatin1" 92 ⟨"java/lang/Math", "max", "(II)I"⟩ : Cond) ∈ wAll := wA_t 281 (by decide +kernel) rfl
theorem tw_282 : (.static ⟨"java/lang/Math", "max", "(II)I"⟩ : Cond) ∈ wAll := wA_t 282 (by decide +kernel) rfl
theorem tw_283 : (.code ⟨"java/lang/Math", "max", "(II)I"⟩ prog_10_method_65_code 2 (some .int) : Cond) ∈ wAll := wA_t 283 (by decide +kernel) rfl
theorem tw_284 : (.methodLink "java/lang/StringLatin1" 38 ⟨"java/lang/Math", "min", "(II)I"⟩ : Cond) ∈ wAll := wA_t 284 (by decide +kernel) rfl
theorem tw_285 : (.static ⟨"java/lang/Math", "min", "(II)I"⟩ : Cond) ∈ wAll := wA_t 285 (by decide +kernel) rfl
theorem tw_286 : (.code ⟨"java/lang/Math", "min", "(II)I"⟩ prog_10_method_69_code 2 (some .int) : Cond) ∈ wAll := wA_t 286 (by decide +kernel) rfl
theorem tw_287 : (.methodLink "java/lang/StringLatin1" 95 ⟨"java/lang/StringLatin1", "indexOfChar", "([BIII)I"⟩ : Cond) ∈ wAll := wA_t 287 (by decide +kernel) rfl
theorem tw_288 : (.static ⟨"java/lang/StringLatin1", "indexOfChar", "([BIII)I"⟩ : Cond) ∈ wAll := wA_t 288 (by decide +kernel) rfl
theorem tw_289 : (.code ⟨"java/lang/StringLatin1", "indexOfChar", "([BIII)I"⟩ prog_12_method_23_code 6 (some .int) : Cond) ∈ wAll := wA_t 289 (by decide +kernel) rfl
theorem tw_339 : (.methodLink "EditMoves$Picture" 73 ⟨"EditMoves$Picture", "takeCount", "(LEditMoves$Line;)I"⟩ : Cond) ∈ wAll := wA_t 339 (by decide +kernel) rfl
theorem tw_341 : (.instanceMethod ⟨"EditMoves$Picture", "takeCount", "(LEditMoves$Line;)I"⟩ : Cond) ∈ wAll := wA_t 341 (by decide +kernel) rfl
theorem tw_342 : (.code ⟨"EditMoves$Picture", "takeCount", "(LEditMoves$Line;)I"⟩ prog_5_method_10_code 4 (some .int) : Cond) ∈ wAll := wA_t 342 (by decide +kernel) rfl
theorem tw_344 : (.static ⟨"EditMoves", "isDigit", "(I)Z"⟩ : Cond) ∈ wAll := wA_t 344 (by decide +kernel) rfl
theorem tw_345 : (.code ⟨"EditMoves", "isDigit", "(I)Z"⟩ prog_1_method_18_code 1 (some .boolean) : Cond) ∈ wAll := wA_t 345 (by decide +kernel) rfl
theorem tw_346 : (.methodLink "EditMoves$Picture" 25 ⟨"EditMoves$Picture", "isOfText", "()Z"⟩ : Cond) ∈ wAll := wA_t 346 (by decide +kernel) rfl
theorem tw_348 : (.instanceMethod ⟨"EditMoves$Picture", "isOfText", "()Z"⟩ : Cond) ∈ wAll := wA_t 348 (by decide +kernel) rfl
theorem tw_349 : (.code ⟨"EditMoves$Picture", "isOfText", "()Z"⟩ prog_5_method_12_code 4 (some .boolean) : Cond) ∈ wAll := wA_t 349 (by decide +kernel) rfl
theorem tw_350 : (.methodLink "EditMoves$Picture" 99 ⟨"EditMoves$Picture", "sign", "(I)I"⟩ : Cond) ∈ wAll := wA_t 350 (by decide +kernel) rfl
theorem tw_351 : (.instanceMethod ⟨"EditMoves$Picture", "sign", "(I)I"⟩ : Cond) ∈ wAll := wA_t 351 (by decide +kernel) rfl
theorem tw_352 : (.selects "EditMoves$Picture" ⟨"EditMoves$Picture", "sign", "(I)I"⟩ ⟨"EditMoves$Picture", "sign", "(I)I"⟩ : Cond) ∈ wAll := wA_t 352 (by decide +kernel) rfl
theorem tw_353 : (.code ⟨"EditMoves$Picture", "sign", "(I)I"⟩ prog_5_method_3_code 2 (some .int) : Cond) ∈ wAll := wA_t 353 (by decide +kernel) rfl
theorem tw_354 : (.methodLink "EditMoves$Picture" 105 ⟨"EditMoves$Picture", "isInsertion", "(I)Z"⟩ : Cond) ∈ wAll := wA_t 354 (by decide +kernel) rfl
theorem tw_355 : (.static ⟨"EditMoves$Picture", "isInsertion", "(I)Z"⟩ : Cond) ∈ wAll := wA_t 355 (by decide +kernel) rfl
theorem tw_356 : (.code ⟨"EditMoves$Picture", "isInsertion", "(I)Z"⟩ prog_5_method_5_code 1 (some .boolean) : Cond) ∈ wAll := wA_t 356 (by decide +kernel) rfl
theorem tw_357 : (.methodLink "EditMoves$Picture" 33 ⟨"EditMoves$Picture", "isOfNumber", "(I)Z"⟩ : Cond) ∈ wAll := wA_t 357 (by decide +kernel) rfl
theorem tw_359 : (.instanceMethod ⟨"EditMoves$Picture", "isOfNumber", "(I)Z"⟩ : Cond) ∈ wAll := wA_t 359 (by decide +kernel) rfl
theorem tw_360 : (.code ⟨"EditMoves$Picture", "isOfNumber", "(I)Z"⟩ prog_5_method_13_code 9 (some .boolean) : Cond) ∈ wAll := wA_t 360 (by decide +kernel) rfl
theorem tw_361 : (.methodLink "EditMoves$Picture" 108 ⟨"EditMoves$Picture", "takeFixedSign", "()I"⟩ : Cond) ∈ wAll := wA_t 361 (by decide +kernel) rfl
theorem tw_363 : (.instanceMethod ⟨"EditMoves$Picture", "takeFixedSign", "()I"⟩ : Cond) ∈ wAll := wA_t 363 (by decide +kernel) rfl
theorem tw_364 : (.code ⟨"EditMoves$Picture", "takeFixedSign", "()I"⟩ prog_5_method_14_code 1 (some .int) : Cond) ∈ wAll := wA_t 364 (by decide +kernel) rfl
theorem tw_365 : (.methodLink "EditMoves$Picture" 111 ⟨"EditMoves$Picture", "takeOne", "(I)Z"⟩ : Cond) ∈ wAll := wA_t 365 (by decide +kernel) rfl
theorem tw_367 : (.instanceMethod ⟨"EditMoves$Picture", "takeOne", "(I)Z"⟩ : Cond) ∈ wAll := wA_t 367 (by decide +kernel) rfl
theorem tw_368 : (.code ⟨"EditMoves$Picture", "takeOne", "(I)Z"⟩ prog_5_method_18_code 3 (some .boolean) : Cond) ∈ wAll := wA_t 368 (by decide +kernel) rfl
theorem tw_369 : (.methodLink "EditMoves$Picture" 118 ⟨"EditMoves$Picture", "takeAll", "(I)I"⟩ : Cond) ∈ wAll := wA_t 369 (by decide +kernel) rfl
theorem tw_371 : (.instanceMethod ⟨"EditMoves$Picture", "takeAll", "(I)I"⟩ : Cond) ∈ wAll := wA_t 371 (by decide +kernel) rfl
theorem tw_372 : (.code ⟨"EditMoves$Picture", "takeAll", "(I)I"⟩ prog_5_method_19_code 3 (some .int) : Cond) ∈ wAll := wA_t 372 (by decide +kernel) rfl
theorem tw_373 : (.methodLink "EditMoves$Picture" 114 ⟨"EditMoves$Picture", "takeString", "(II)I"⟩ : Cond) ∈ wAll := wA_t 373 (by decide +kernel) rfl
theorem tw_375 : (.instanceMethod ⟨"EditMoves$Picture", "takeString", "(II)I"⟩ : Cond) ∈ wAll := wA_t 375 (by decide +kernel) rfl
theorem tw_376 : (.code ⟨"EditMoves$Picture", "takeString", "(II)I"⟩ prog_5_method_15_code 7 (some .int) : Cond) ∈ wAll := wA_t 376 (by decide +kernel) rfl
theorem tw_377 : (.methodLink "EditMoves$Picture" 124 ⟨"EditMoves$Picture", "upcoming", "()I"⟩ : Cond) ∈ wAll := wA_t 377 (by decide +kernel) rfl
theorem tw_379 : (.instanceMethod ⟨"EditMoves$Picture", "upcoming", "()I"⟩ : Cond) ∈ wAll := wA_t 379 (by decide +kernel) rfl
theorem tw_380 : (.code ⟨"EditMoves$Picture", "upcoming", "()I"⟩ prog_5_method_17_code 1 (some .int) : Cond) ∈ wAll := wA_t 380 (by decide +kernel) rfl
theorem tw_381 : (.methodLink "EditMoves$Picture" 121 ⟨"EditMoves$Picture", "takeEnd", "()Z"⟩ : Cond) ∈ wAll := wA_t 381 (by decide +kernel) rfl
theorem tw_383 : (.instanceMethod ⟨"EditMoves$Picture", "takeEnd", "()Z"⟩ : Cond) ∈ wAll := wA_t 383 (by decide +kernel) rfl
theorem tw_384 : (.code ⟨"EditMoves$Picture", "takeEnd", "()Z"⟩ prog_5_method_16_code 2 (some .boolean) : Cond) ∈ wAll := wA_t 384 (by decide +kernel) rfl
theorem tw_385 : (.methodLink "EditMoves$Picture" 37 ⟨"EditMoves$Picture", "countPlaces", "()I"⟩ : Cond) ∈ wAll := wA_t 385 (by decide +kernel) rfl
theorem tw_387 : (.instanceMethod ⟨"EditMoves$Picture", "countPlaces", "()I"⟩ : Cond) ∈ wAll := wA_t 387 (by decide +kernel) rfl
theorem tw_388 : (.code ⟨"EditMoves$Picture", "countPlaces", "()I"⟩ prog_5_method_11_code 3 (some .int) : Cond) ∈ wAll := wA_t 388 (by decide +kernel) rfl
theorem tw_389 : (.methodLink "EditMoves$Picture" 96 ⟨"EditMoves$Picture", "count", "(I)I"⟩ : Cond) ∈ wAll := wA_t 389 (by decide +kernel) rfl
theorem tw_390 : (.instanceMethod ⟨"EditMoves$Picture", "count", "(I)I"⟩ : Cond) ∈ wAll := wA_t 390 (by decide +kernel) rfl
theorem tw_391 : (.selects "EditMoves$Picture" ⟨"EditMoves$Picture", "count", "(I)I"⟩ ⟨"EditMoves$Picture", "count", "(I)I"⟩ : Cond) ∈ wAll := wA_t 391 (by decide +kernel) rfl
theorem tw_392 : (.code ⟨"EditMoves$Picture", "count", "(I)I"⟩ prog_5_method_4_code 2 (some .int) : Cond) ∈ wAll := wA_t 392 (by decide +kernel) rfl
theorem tw_393 : (.methodLink "EditMoves$Picture" 102 ⟨"EditMoves$Picture", "width", "(I)I"⟩ : Cond) ∈ wAll := wA_t 393 (by decide +kernel) rfl
theorem tw_394 : (.static ⟨"EditMoves$Picture", "width", "(I)I"⟩ : Cond) ∈ wAll := wA_t 394 (by decide +kernel) rfl
theorem tw_395 : (.code ⟨"EditMoves$Picture", "width", "(I)I"⟩ prog_5_method_6_code 1 (some .int) : Cond) ∈ wAll := wA_t 395 (by decide +kernel) rfl
theorem tw_396 : (.methodLink "EditMoves" 73 ⟨"EditMoves", "editLine", "()I"⟩ : Cond) ∈ wAll := wA_t 396 (by decide +kernel) rfl
theorem tw_398 : (.instanceMethod ⟨"EditMoves", "editLine", "()I"⟩ : Cond) ∈ wAll := wA_t 398 (by decide +kernel) rfl
theorem tw_399 : (.code ⟨"EditMoves", "editLine", "()I"⟩ prog_1_method_15_code 1 (some .int) : Cond) ∈ wAll := wA_t 399 (by decide +kernel) rfl
theorem tw_400 : (.methodLink "EditMoves" 115 ⟨"EditMoves$Editor", "writeLine", "(LEditMoves$Picture;LEditMoves$Line;)I"⟩ : Cond) ∈ wAll := wA_t 400 (by decide +kernel) rfl
theorem tw_401 : (.instanceMethod ⟨"EditMoves$Editor", "writeLine", "(LEditMoves$Picture;LEditMoves$Line;)I"⟩ : Cond) ∈ wAll := wA_t 401 (by decide +kernel) rfl
theorem tw_402 : (.selects "EditMoves$Editor" ⟨"EditMoves$Editor", "writeLine", "(LEditMoves$Picture;LEditMoves$Line;)I"⟩ ⟨"EditMoves$Editor", "writeLine", "(LEditMoves$Picture;LEditMoves$Line;)I"⟩ : Cond) ∈ wAll := wA_t 402 (by decide +kernel) rfl
theorem tw_403 : (.code ⟨"EditMoves$Editor", "writeLine", "(LEditMoves$Picture;LEditMoves$Line;)I"⟩ prog_3_method_2_code 7 (some .int) : Cond) ∈ wAll := wA_t 403 (by decide +kernel) rfl
theorem tw_404 : (.methodLink "EditMoves$Editor" 32 ⟨"EditMoves$Picture", "sign", "(I)I"⟩ : Cond) ∈ wAll := wA_t 404 (by decide +kernel) rfl
theorem tw_405 : (.methodLink "EditMoves$Editor" 36 ⟨"EditMoves$Picture", "count", "(I)I"⟩ : Cond) ∈ wAll := wA_t 405 (by decide +kernel) rfl
theorem tw_406 : (.methodLink "EditMoves$Editor" 44 ⟨"EditMoves$Line", "character", "(I)I"⟩ : Cond) ∈ wAll := wA_t 406 (by decide +kernel) rfl
theorem tw_407 : (.methodLink "EditMoves$Editor" 47 ⟨"EditMoves$Result", "put", "(IZ)V"⟩ : Cond) ∈ wAll := wA_t 407 (by decide +kernel) rfl
theorem tw_408 : (.instanceMethod ⟨"EditMoves$Result", "put", "(IZ)V"⟩ : Cond) ∈ wAll := wA_t 408 (by decide +kernel) rfl
theorem tw_409 : (.selects "EditMoves$Result" ⟨"EditMoves$Result", "put", "(IZ)V"⟩ ⟨"EditMoves$Result", "put", "(IZ)V"⟩ : Cond) ∈ wAll := wA_t 409 (by decide +kernel) rfl
theorem tw_410 : (.code ⟨"EditMoves$Result", "put", "(IZ)V"⟩ prog_6_method_3_code 3 none : Cond) ∈ wAll := wA_t 410 (by decide +kernel) rfl
theorem tw_411 : (.methodLink "EditMoves" 77 ⟨"EditMoves", "editAmount", "()I"⟩ : Cond) ∈ wAll := wA_t 411 (by decide +kernel) rfl
theorem tw_413 : (.instanceMethod ⟨"EditMoves", "editAmount", "()I"⟩ : Cond) ∈ wAll := wA_t 413 (by decide +kernel) rfl
theorem tw_414 : (.code ⟨"EditMoves", "editAmount", "()I"⟩ prog_1_method_16_code 2 (some .int) : Cond) ∈ wAll := wA_t 414 (by decide +kernel) rfl
theorem tw_415 : (.methodLink "EditMoves" 126 ⟨"EditMoves$Digits", "bring", "(JIII)V"⟩ : Cond) ∈ wAll := wA_t 415 (by decide +kernel) rfl
theorem tw_416 : (.instanceMethod ⟨"EditMoves$Digits", "bring", "(JIII)V"⟩ : Cond) ∈ wAll := wA_t 416 (by decide +kernel) rfl
theorem tw_417 : (.selects "EditMoves$Digits" ⟨"EditMoves$Digits", "bring", "(JIII)V"⟩ ⟨"EditMoves$Digits", "bring", "(JIII)V"⟩ : Cond) ∈ wAll := wA_t 417 (by decide +kernel) rfl
theorem tw_418 : (.code ⟨"EditMoves$Digits", "bring", "(JIII)V"⟩ prog_2_method_2_code 10 none : Cond) ∈ wAll := wA_t 418 (by decide +kernel) rfl
theorem tw_419 : (.methodLink "EditMoves$Digits" 13 ⟨"EditMoves$Digits", "clear", "()V"⟩ : Cond) ∈ wAll := wA_t 419 (by decide +kernel) rfl
theorem tw_421 : (.instanceMethod ⟨"EditMoves$Digits", "clear", "()V"⟩ : Cond) ∈ wAll := wA_t 421 (by decide +kernel) rfl
theorem tw_422 : (.code ⟨"EditMoves$Digits", "clear", "()V"⟩ prog_2_method_4_code 2 none : Cond) ∈ wAll := wA_t 422 (by decide +kernel) rfl
theorem tw_423 : (.constantLong "EditMoves$Digits" 16 (10) : Cond) ∈ wAll := wA_t 423 (by decide +kernel) rfl
theorem tw_424 : (.methodLink "EditMoves$Digits" 18 ⟨"EditMoves$Digits", "bringOne", "(III)V"⟩ : Cond) ∈ wAll := wA_t 424 (by decide +kernel) rfl
theorem tw_426 : (.instanceMethod ⟨"EditMoves$Digits", "bringOne", "(III)V"⟩ : Cond) ∈ wAll := wA_t 426 (by decide +kernel) rfl
theorem tw_427 : (.code ⟨"EditMoves$Digits", "bringOne", "(III)V"⟩ prog_2_method_5_code 4 none : Cond) ∈ wAll := wA_t 427 (by decide +kernel) rfl
theorem tw_428 : (.methodLink "EditMoves" 136 ⟨"EditMoves$Editor", "writeAmount", "(LEditMoves$Picture;Z)V"⟩ : Cond) ∈ wAll := wA_t 428 (by decide +kernel) rfl
theorem tw_429 : (.instanceMethod ⟨"EditMoves$Editor", "writeAmount", "(LEditMoves$Picture;Z)V"⟩ : Cond) ∈ wAll := wA_t 429 (by decide +kernel) rfl
theorem tw_430 : (.selects "EditMoves$Editor" ⟨"EditMoves$Editor", "writeAmount", "(LEditMoves$Picture;Z)V"⟩ ⟨"EditMoves$Editor", "writeAmount", "(LEditMoves$Picture;Z)V"⟩ : Cond) ∈ wAll := wA_t 430 (by decide +kernel) rfl
theorem tw_431 : (.code ⟨"EditMoves$Editor", "writeAmount", "(LEditMoves$Picture;Z)V"⟩ prog_3_method_3_code 8 none : Cond) ∈ wAll := wA_t 431 (by decide +kernel) rfl
theorem tw_432 : (.methodLink "EditMoves$Editor" 73 ⟨"EditMoves$Editor", "hideSign", "(I)V"⟩ : Cond) ∈ wAll := wA_t 432 (by decide +kernel) rfl
theorem tw_434 : (.instanceMethod ⟨"EditMoves$Editor", "hideSign", "(I)V"⟩ : Cond) ∈ wAll := wA_t 434 (by decide +kernel) rfl
theorem tw_435 : (.code ⟨"EditMoves$Editor", "hideSign", "(I)V"⟩ prog_3_method_4_code 3 none : Cond) ∈ wAll := wA_t 435 (by decide +kernel) rfl
theorem tw_436 : (.methodLink "EditMoves$Editor" 81 ⟨"EditMoves$Picture", "width", "(I)I"⟩ : Cond) ∈ wAll := wA_t 436 (by decide +kernel) rfl
theorem tw_437 : (.methodLink "EditMoves$Editor" 84 ⟨"EditMoves$Result", "hide", "(I)V"⟩ : Cond) ∈ wAll := wA_t 437 (by decide +kernel) rfl
theorem tw_438 : (.instanceMethod ⟨"EditMoves$Result", "hide", "(I)V"⟩ : Cond) ∈ wAll := wA_t 438 (by decide +kernel) rfl
theorem tw_439 : (.selects "EditMoves$Result" ⟨"EditMoves$Result", "hide", "(I)V"⟩ ⟨"EditMoves$Result", "hide", "(I)V"⟩ : Cond) ∈ wAll := wA_t 439 (by decide +kernel) rfl
theorem tw_440 : (.code ⟨"EditMoves$Result", "hide", "(I)V"⟩ prog_6_method_4_code 2 none : Cond) ∈ wAll := wA_t 440 (by decide +kernel) rfl
theorem tw_441 : (.methodLink "EditMoves$Result" 31 ⟨"EditMoves$Result", "put", "(IZ)V"⟩ : Cond) ∈ wAll := wA_t 441 (by decide +kernel) rfl
theorem tw_442 : (.methodLink "EditMoves$Editor" 77 ⟨"EditMoves$Editor", "writeSign", "(LEditMoves$Picture;I)V"⟩ : Cond) ∈ wAll := wA_t 442 (by decide +kernel) rfl
theorem tw_444 : (.instanceMethod ⟨"EditMoves$Editor", "writeSign", "(LEditMoves$Picture;I)V"⟩ : Cond) ∈ wAll := wA_t 444 (by decide +kernel) rfl
theorem tw_445 : (.code ⟨"EditMoves$Editor", "writeSign", "(LEditMoves$Picture;I)V"⟩ prog_3_method_5_code 3 none : Cond) ∈ wAll := wA_t 445 (by decide +kernel) rfl
theorem tw_446 : (.methodLink "EditMoves$Editor" 87 ⟨"EditMoves$Editor", "writeStringSign", "(LEditMoves$Picture;)V"⟩ : Cond) ∈ wAll := wA_t 446 (by decide +kernel) rfl
theorem tw_448 : (.instanceMethod ⟨"EditMoves$Editor", "writeStringSign", "(LEditMoves$Picture;)V"⟩ : Cond) ∈ wAll := wA_t 448 (by decide +kernel) rfl
theorem tw_449 : (.code ⟨"EditMoves$Editor", "writeStringSign", "(LEditMoves$Picture;)V"⟩ prog_3_method_6_code 3 none : Cond) ∈ wAll := wA_t 449 (by decide +kernel) rfl
theorem tw_450 : (.methodLink "EditMoves$Editor" 104 ⟨"EditMoves$Editor", "takeDigit", "()I"⟩ : Cond) ∈ wAll := wA_t 450 (by decide +kernel) rfl
theorem tw_452 : (.instanceMethod ⟨"EditMoves$Editor", "takeDigit", "()I"⟩ : Cond) ∈ wAll := wA_t 452 (by decide +kernel) rfl
theorem tw_453 : (.code ⟨"EditMoves$Editor", "takeDigit", "()I"⟩ prog_3_method_11_code 2 (some .int) : Cond) ∈ wAll := wA_t 453 (by decide +kernel) rfl
theorem tw_454 : (.methodLink "EditMoves$Editor" 121 ⟨"EditMoves$Digits", "digit", "(I)I"⟩ : Cond) ∈ wAll := wA_t 454 (by decide +kernel) rfl
theorem tw_455 : (.instanceMethod ⟨"EditMoves$Digits", "digit", "(I)I"⟩ : Cond) ∈ wAll := wA_t 455 (by decide +kernel) rfl
theorem tw_456 : (.selects "EditMoves$Digits" ⟨"EditMoves$Digits", "digit", "(I)I"⟩ ⟨"EditMoves$Digits", "digit", "(I)I"⟩ : Cond) ∈ wAll := wA_t 456 (by decide +kernel) rfl
theorem tw_457 : (.code ⟨"EditMoves$Digits", "digit", "(I)I"⟩ prog_2_method_3_code 2 (some .int) : Cond) ∈ wAll := wA_t 457 (by decide +kernel) rfl
theorem tw_458 : (.methodLink "EditMoves$Editor" 95 ⟨"EditMoves$Editor", "endSuppressing", "(LEditMoves$Picture;)V"⟩ : Cond) ∈ wAll := wA_t 458 (by decide +kernel) rfl
theorem tw_460 : (.instanceMethod ⟨"EditMoves$Editor", "endSuppressing", "(LEditMoves$Picture;)V"⟩ : Cond) ∈ wAll := wA_t 460 (by decide +kernel) rfl
theorem tw_461 : (.code ⟨"EditMoves$Editor", "endSuppressing", "(LEditMoves$Picture;)V"⟩ prog_3_method_7_code 2 none : Cond) ∈ wAll := wA_t 461 (by decide +kernel) rfl
theorem tw_462 : (.methodLink "EditMoves$Editor" 108 ⟨"EditMoves$Editor", "signShown", "(I)I"⟩ : Cond) ∈ wAll := wA_t 462 (by decide +kernel) rfl
theorem tw_464 : (.instanceMethod ⟨"EditMoves$Editor", "signShown", "(I)I"⟩ : Cond) ∈ wAll := wA_t 464 (by decide +kernel) rfl
theorem tw_465 : (.code ⟨"EditMoves$Editor", "signShown", "(I)I"⟩ prog_3_method_10_code 2 (some .int) : Cond) ∈ wAll := wA_t 465 (by decide +kernel) rfl
theorem tw_466 : (.methodLink "EditMoves$Editor" 111 ⟨"EditMoves$Result", "replaceLast", "(I)V"⟩ : Cond) ∈ wAll := wA_t 466 (by decide +kernel) rfl
theorem tw_467 : (.instanceMethod ⟨"EditMoves$Result", "replaceLast", "(I)V"⟩ : Cond) ∈ wAll := wA_t 467 (by decide +kernel) rfl
theorem tw_468 : (.selects "EditMoves$Result" ⟨"EditMoves$Result", "replaceLast", "(I)V"⟩ ⟨"EditMoves$Result", "replaceLast", "(I)V"⟩ : Cond) ∈ wAll := wA_t 468 (by decide +kernel) rfl
theorem tw_469 : (.code ⟨"EditMoves$Result", "replaceLast", "(I)V"⟩ prog_6_method_5_code 2 none : Cond) ∈ wAll := wA_t 469 (by decide +kernel) rfl
theorem tw_470 : (.methodLink "EditMoves$Editor" 91 ⟨"EditMoves$Picture", "isInsertion", "(I)Z"⟩ : Cond) ∈ wAll := wA_t 470 (by decide +kernel) rfl
theorem tw_471 : (.methodLink "EditMoves$Editor" 98 ⟨"EditMoves$Editor", "writePlainSign", "(I)V"⟩ : Cond) ∈ wAll := wA_t 471 (by decide +kernel) rfl
theorem tw_473 : (.instanceMethod ⟨"EditMoves$Editor", "writePlainSign", "(I)V"⟩ : Cond) ∈ wAll := wA_t 473 (by decide +kernel) rfl
theorem tw_474 : (.code ⟨"EditMoves$Editor", "writePlainSign", "(I)V"⟩ prog_3_method_8_code 2 none : Cond) ∈ wAll := wA_t 474 (by decide +kernel) rfl
theorem tw_475 : (.methodLink "EditMoves$Editor" 114 ⟨"EditMoves$Editor", "writePair", "(II)V"⟩ : Cond) ∈ wAll := wA_t 475 (by decide +kernel) rfl
theorem tw_477 : (.instanceMethod ⟨"EditMoves$Editor", "writePair", "(II)V"⟩ : Cond) ∈ wAll := wA_t 477 (by decide +kernel) rfl
theorem tw_478 : (.code ⟨"EditMoves$Editor", "writePair", "(II)V"⟩ prog_3_method_9_code 3 none : Cond) ∈ wAll := wA_t 478 (by decide +kernel) rfl
theorem tw_484 : (.methodLink "EditMoves" 80 ⟨"EditMoves$Result", "character", "(I)I"⟩ : Cond) ∈ wAll := wA_t 484 (by decide +kernel) rfl
theorem tw_485 : (.instanceMethod ⟨"EditMoves$Result", "character", "(I)I"⟩ : Cond) ∈ wAll := wA_t 485 (by decide +kernel) rfl
theorem tw_486 : (.selects "EditMoves$Result" ⟨"EditMoves$Result", "character", "(I)I"⟩ ⟨"EditMoves$Result", "character", "(I)I"⟩ : Cond) ∈ wAll := wA_t 486 (by decide +kernel) rfl
theorem tw_487 : (.code ⟨"EditMoves$Result", "character", "(I)I"⟩ prog_6_method_6_code 2 (some .int) : Cond) ∈ wAll := wA_t 487 (by decide +kernel) rfl
theorem tw_492 : (.methodLink "EditMoves" 85 ⟨"EditMoves$Result", "wholeNumber", "()J"⟩ : Cond) ∈ wAll := wA_t 492 (by decide +kernel) rfl
theorem tw_493 : (.instanceMethod ⟨"EditMoves$Result", "wholeNumber", "()J"⟩ : Cond) ∈ wAll := wA_t 493 (by decide +kernel) rfl
theorem tw_494 : (.selects "EditMoves$Result" ⟨"EditMoves$Result", "wholeNumber", "()J"⟩ ⟨"EditMoves$Result", "wholeNumber", "()J"⟩ : Cond) ∈ wAll := wA_t 494 (by decide +kernel) rfl
theorem tw_495 : (.code ⟨"EditMoves$Result", "wholeNumber", "()J"⟩ prog_6_method_7_code 6 (some .long) : Cond) ∈ wAll := wA_t 495 (by decide +kernel) rfl
theorem tw_496 : (.constantLong "EditMoves$Result" 35 (10) : Cond) ∈ wAll := wA_t 496 (by decide +kernel) rfl
theorem tw_505 : (.methodLink "EditMoves" 92 ⟨"EditMoves", "mayBeCurrency", "(I)Z"⟩ : Cond) ∈ wAll := wA_t 505 (by decide +kernel) rfl
theorem tw_506 : (.static ⟨"EditMoves", "mayBeCurrency", "(I)Z"⟩ : Cond) ∈ wAll := wA_t 506 (by decide +kernel) rfl
theorem tw_507 : (.code ⟨"EditMoves", "mayBeCurrency", "(I)Z"⟩ prog_1_method_17_code 2 (some .boolean) : Cond) ∈ wAll := wA_t 507 (by decide +kernel) rfl
theorem tw_508 : (.methodLink "EditMoves" 140 ⟨"EditMoves", "isDigit", "(I)Z"⟩ : Cond) ∈ wAll := wA_t 508 (by decide +kernel) rfl
theorem tw_509 : (.methodLink "EditMoves" 143 ⟨"EditMoves", "toGreat", "(I)I"⟩ : Cond) ∈ wAll := wA_t 509 (by decide +kernel) rfl
theorem tw_511 : (.methodLink "EditMoves" 148 ⟨"java/lang/String", "indexOf", "(I)I"⟩ : Cond) ∈ wAll := wA_t 511 (by decide +kernel) rfl
theorem tw_538 : (.fieldLink "EditMovesModel" 7 "EditMovesModel" "picture" "[I" : Cond) ∈ wAll := wA_t 538 (by decide +kernel) rfl
theorem tw_539 : (.fieldLink "EditMovesModel" 13 "EditMovesModel" "text" "[I" : Cond) ∈ wAll := wA_t 539 (by decide +kernel) rfl
theorem tw_540 : (.fieldLink "EditMovesModel" 38 "EditMovesModel" "pictures" "I" : Cond) ∈ wAll := wA_t 540 (by decide +kernel) rfl
theorem tw_541 : (.fieldLink "EditMovesModel" 48 "EditMovesModel" "texts" "I" : Cond) ∈ wAll := wA_t 541 (by decide +kernel) rfl
theorem tw_542 : (.fieldLink "EditMovesModel" 45 "EditMovesModel" "scale" "I" : Cond) ∈ wAll := wA_t 542 (by decide +kernel) rfl
theorem tw_543 : (.fieldLink "EditMovesModel" 16 "EditMovesModel" "money" "I" : Cond) ∈ wAll := wA_t 543 (by decide +kernel) rfl
theorem tw_544 : (.fieldLink "EditMovesModel" 41 "EditMovesModel" "value" "J" : Cond) ∈ wAll := wA_t 544 (by decide +kernel) rfl
theorem tw_545 : (.fieldLink "EditMovesModel" 180 "EditMovesModel" "number" "J" : Cond) ∈ wAll := wA_t 545 (by decide +kernel) rfl
theorem tw_546 : (.fieldLink "EditMovesModel" 51 "EditMovesModel" "blanks" "Z" : Cond) ∈ wAll := wA_t 546 (by decide +kernel) rfl
theorem tw_547 : (.fieldLink "EditMovesModel" 55 "EditMovesModel" "asked" "Z" : Cond) ∈ wAll := wA_t 547 (by decide +kernel) rfl
theorem tw_548 : (.fieldLink "EditMovesModel" 20 "EditMovesModel" "row" "[I" : Cond) ∈ wAll := wA_t 548 (by decide +kernel) rfl
theorem tw_549 : (.fieldLink "EditMovesModel" 65 "EditMovesModel" "many" "I" : Cond) ∈ wAll := wA_t 549 (by decide +kernel) rfl
theorem tw_550 : (.fieldLink "EditMovesModel" 122 "EditMovesModel" "sort" "I" : Cond) ∈ wAll := wA_t 550 (by decide +kernel) rfl
theorem tw_551 : (.fieldLink "EditMovesModel" 103 "EditMovesModel" "ahead" "I" : Cond) ∈ wAll := wA_t 551 (by decide +kernel) rfl
theorem tw_552 : (.fieldLink "EditMovesModel" 106 "EditMovesModel" "behind" "I" : Cond) ∈ wAll := wA_t 552 (by decide +kernel) rfl
theorem tw_553 : (.fieldLink "EditMovesModel" 84 "EditMovesModel" "string" "I" : Cond) ∈ wAll := wA_t 553 (by decide +kernel) rfl
theorem tw_554 : (.fieldLink "EditMovesModel" 100 "EditMovesModel" "begins" "I" : Cond) ∈ wAll := wA_t 554 (by decide +kernel) rfl
theorem tw_555 : (.fieldLink "EditMovesModel" 87 "EditMovesModel" "strings" "I" : Cond) ∈ wAll := wA_t 555 (by decide +kernel) rfl
theorem tw_556 : (.fieldLink "EditMovesModel" 109 "EditMovesModel" "nines" "I" : Cond) ∈ wAll := wA_t 556 (by decide +kernel) rfl
theorem tw_557 : (.fieldLink "EditMovesModel" 23 "EditMovesModel" "result" "[I" : Cond) ∈ wAll := wA_t 557 (by decide +kernel) rfl
theorem tw_558 : (.fieldLink "EditMovesModel" 26 "EditMovesModel" "places" "I" : Cond) ∈ wAll := wA_t 558 (by decide +kernel) rfl
theorem tw_559 : (.fieldLink "EditMovesModel" 140 "EditMovesModel" "hidden" "I" : Cond) ∈ wAll := wA_t 559 (by decide +kernel) rfl
theorem tw_560 : (.fieldLink "EditMovesModel" 137 "EditMovesModel" "cuts" "I" : Cond) ∈ wAll := wA_t 560 (by decide +kernel) rfl
theorem tw_561 : (.fieldLink "EditMovesModel" 160 "EditMovesModel" "resultSort" "I" : Cond) ∈ wAll := wA_t 561 (by decide +kernel) rfl
theorem tw_562 : (.fieldLink "EditMovesModel" 29 "EditMovesModel" "came" "[I" : Cond) ∈ wAll := wA_t 562 (by decide +kernel) rfl
theorem tw_563 : (.fieldLink "EditMovesModel" 32 "EditMovesModel" "magnitude" "[I" : Cond) ∈ wAll := wA_t 563 (by decide +kernel) rfl
theorem tw_564 : (.fieldLink "EditMovesModel" 150 "EditMovesModel" "negative" "Z" : Cond) ∈ wAll := wA_t 564 (by decide +kernel) rfl
theorem tw_565 : (.fieldLink "EditMovesModel" 35 "EditMovesModel" "backRow" "[I" : Cond) ∈ wAll := wA_t 565 (by decide +kernel) rfl
theorem tw_566 : (.fieldLink "EditMovesModel" 172 "EditMovesModel" "backDigits" "I" : Cond) ∈ wAll := wA_t 566 (by decide +kernel) rfl
theorem tw_567 : (.laysFinal "EditMovesModel" "EditMovesModel" "picture" "[I" : Cond) ∈ wAll := wA_t 567 (by decide +kernel) rfl
theorem tw_569 : (.laysFinal "EditMovesModel" "EditMovesModel" "text" "[I" : Cond) ∈ wAll := wA_t 569 (by decide +kernel) rfl
theorem tw_571 : (.lays "EditMovesModel" "EditMovesModel" "pictures" "I" : Cond) ∈ wAll := wA_t 571 (by decide +kernel) rfl
theorem tw_573 : (.lays "EditMovesModel" "EditMovesModel" "texts" "I" : Cond) ∈ wAll := wA_t 573 (by decide +kernel) rfl
theorem tw_575 : (.lays "EditMovesModel" "EditMovesModel" "scale" "I" : Cond) ∈ wAll := wA_t 575 (by decide +kernel) rfl
theorem tw_577 : (.lays "EditMovesModel" "EditMovesModel" "money" "I" : Cond) ∈ wAll := wA_t 577 (by decide +kernel) rfl
theorem tw_579 : (.lays "EditMovesModel" "EditMovesModel" "value" "J" : Cond) ∈ wAll := wA_t 579 (by decide +kernel) rfl
theorem tw_581 : (.lays "EditMovesModel" "EditMovesModel" "number" "J" : Cond) ∈ wAll := wA_t 581 (by decide +kernel) rfl
theorem tw_583 : (.lays "EditMovesModel" "EditMovesModel" "blanks" "Z" : Cond) ∈ wAll := wA_t 583 (by decide +kernel) rfl
theorem tw_585 : (.lays "EditMovesModel" "EditMovesModel" "asked" "Z" : Cond) ∈ wAll := wA_t 585 (by decide +kernel) rfl
theorem tw_587 : (.laysFinal "EditMovesModel" "EditMovesModel" "row" "[I" : Cond) ∈ wAll := wA_t 587 (by decide +kernel) rfl
theorem tw_589 : (.lays "EditMovesModel" "EditMovesModel" "many" "I" : Cond) ∈ wAll := wA_t 589 (by decide +kernel) rfl
theorem tw_591 : (.lays "EditMovesModel" "EditMovesModel" "sort" "I" : Cond) ∈ wAll := wA_t 591 (by decide +kernel) rfl
theorem tw_593 : (.lays "EditMovesModel" "EditMovesModel" "ahead" "I" : Cond) ∈ wAll := wA_t 593 (by decide +kernel) rfl
theorem tw_595 : (.lays "EditMovesModel" "EditMovesModel" "behind" "I" : Cond) ∈ wAll := wA_t 595 (by decide +kernel) rfl
theorem tw_597 : (.lays "EditMovesModel" "EditMovesModel" "string" "I" : Cond) ∈ wAll := wA_t 597 (by decide +kernel) rfl
theorem tw_599 : (.lays "EditMovesModel" "EditMovesModel" "begins" "I" : Cond) ∈ wAll := wA_t 599 (by decide +kernel) rfl
theorem tw_601 : (.lays "EditMovesModel" "EditMovesModel" "strings" "I" : Cond) ∈ wAll := wA_t 601 (by decide +kernel) rfl
theorem tw_603 : (.lays "EditMovesModel" "EditMovesModel" "nines" "I" : Cond) ∈ wAll := wA_t 603 (by decide +kernel) rfl
theorem tw_605 : (.laysFinal "EditMovesModel" "EditMovesModel" "result" "[I" : Cond) ∈ wAll := wA_t 605 (by decide +kernel) rfl
theorem tw_607 : (.lays "EditMovesModel" "EditMovesModel" "places" "I" : Cond) ∈ wAll := wA_t 607 (by decide +kernel) rfl
theorem tw_609 : (.lays "EditMovesModel" "EditMovesModel" "hidden" "I" : Cond) ∈ wAll := wA_t 609 (by decide +kernel) rfl
theorem tw_611 : (.lays "EditMovesModel" "EditMovesModel" "cuts" "I" : Cond) ∈ wAll := wA_t 611 (by decide +kernel) rfl
theorem tw_613 : (.lays "EditMovesModel" "EditMovesModel" "resultSort" "I" : Cond) ∈ wAll := wA_t 613 (by decide +kernel) rfl
theorem tw_615 : (.laysFinal "EditMovesModel" "EditMovesModel" "came" "[I" : Cond) ∈ wAll := wA_t 615 (by decide +kernel) rfl
theorem tw_617 : (.laysFinal "EditMovesModel" "EditMovesModel" "magnitude" "[I" : Cond) ∈ wAll := wA_t 617 (by decide +kernel) rfl
theorem tw_619 : (.lays "EditMovesModel" "EditMovesModel" "negative" "Z" : Cond) ∈ wAll := wA_t 619 (by decide +kernel) rfl
theorem tw_621 : (.laysFinal "EditMovesModel" "EditMovesModel" "backRow" "[I" : Cond) ∈ wAll := wA_t 621 (by decide +kernel) rfl
theorem tw_623 : (.lays "EditMovesModel" "EditMovesModel" "backDigits" "I" : Cond) ∈ wAll := wA_t 623 (by decide +kernel) rfl
theorem tw_654 : (.methodLink "EditMovesModel" 128 ⟨"EditMovesModel", "look", "()V"⟩ : Cond) ∈ wAll := wA_t 654 (by decide +kernel) rfl
theorem tw_656 : (.instanceMethod ⟨"EditMovesModel", "look", "()V"⟩ : Cond) ∈ wAll := wA_t 656 (by decide +kernel) rfl
theorem tw_657 : (.code ⟨"EditMovesModel", "look", "()V"⟩ prog_8_method_21_code 2 none : Cond) ∈ wAll := wA_t 657 (by decide +kernel) rfl
theorem tw_658 : (.methodLink "EditMovesModel" 112 ⟨"EditMovesModel", "scan", "()Z"⟩ : Cond) ∈ wAll := wA_t 658 (by decide +kernel) rfl
theorem tw_660 : (.instanceMethod ⟨"EditMovesModel", "scan", "()Z"⟩ : Cond) ∈ wAll := wA_t 660 (by decide +kernel) rfl
theorem tw_661 : (.code ⟨"EditMovesModel", "scan", "()Z"⟩ prog_8_method_12_code 5 (some .boolean) : Cond) ∈ wAll := wA_t 661 (by decide +kernel) rfl
theorem tw_662 : (.methodLink "EditMovesModel" 68 ⟨"EditMovesModel", "signAt", "(I)I"⟩ : Cond) ∈ wAll := wA_t 662 (by decide +kernel) rfl
theorem tw_664 : (.instanceMethod ⟨"EditMovesModel", "signAt", "(I)I"⟩ : Cond) ∈ wAll := wA_t 664 (by decide +kernel) rfl
theorem tw_665 : (.code ⟨"EditMovesModel", "signAt", "(I)I"⟩ prog_8_method_10_code 5 (some .int) : Cond) ∈ wAll := wA_t 665 (by decide +kernel) rfl
theorem tw_666 : (.methodLink "EditMovesModel" 58 ⟨"EditMovesModel", "at0", "(I)I"⟩ : Cond) ∈ wAll := wA_t 666 (by decide +kernel) rfl
theorem tw_668 : (.instanceMethod ⟨"EditMovesModel", "at0", "(I)I"⟩ : Cond) ∈ wAll := wA_t 668 (by decide +kernel) rfl
theorem tw_669 : (.code ⟨"EditMovesModel", "at0", "(I)I"⟩ prog_8_method_8_code 2 (some .int) : Cond) ∈ wAll := wA_t 669 (by decide +kernel) rfl
theorem tw_670 : (.methodLink "EditMovesModel" 62 ⟨"EditMovesModel", "great", "(I)I"⟩ : Cond) ∈ wAll := wA_t 670 (by decide +kernel) rfl
theorem tw_671 : (.static ⟨"EditMovesModel", "great", "(I)I"⟩ : Cond) ∈ wAll := wA_t 671 (by decide +kernel) rfl
theorem tw_672 : (.code ⟨"EditMovesModel", "great", "(I)I"⟩ prog_8_method_9_code 1 (some .int) : Cond) ∈ wAll := wA_t 672 (by decide +kernel) rfl
theorem tw_673 : (.methodLink "EditMovesModel" 71 ⟨"EditMovesModel", "isDigit", "(I)Z"⟩ : Cond) ∈ wAll := wA_t 673 (by decide +kernel) rfl
theorem tw_674 : (.static ⟨"EditMovesModel", "isDigit", "(I)Z"⟩ : Cond) ∈ wAll := wA_t 674 (by decide +kernel) rfl
theorem tw_675 : (.code ⟨"EditMovesModel", "isDigit", "(I)Z"⟩ prog_8_method_11_code 1 (some .boolean) : Cond) ∈ wAll := wA_t 675 (by decide +kernel) rfl
theorem tw_676 : (.methodLink "EditMovesModel" 116 ⟨"EditMovesModel", "isText", "()Z"⟩ : Cond) ∈ wAll := wA_t 676 (by decide +kernel) rfl
theorem tw_678 : (.instanceMethod ⟨"EditMovesModel", "isText", "()Z"⟩ : Cond) ∈ wAll := wA_t 678 (by decide +kernel) rfl
theorem tw_679 : (.code ⟨"EditMovesModel", "isText", "()Z"⟩ prog_8_method_19_code 4 (some .boolean) : Cond) ∈ wAll := wA_t 679 (by decide +kernel) rfl
theorem tw_680 : (.methodLink "EditMovesModel" 119 ⟨"EditMovesModel", "isNumber", "()Z"⟩ : Cond) ∈ wAll := wA_t 680 (by decide +kernel) rfl
theorem tw_682 : (.instanceMethod ⟨"EditMovesModel", "isNumber", "()Z"⟩ : Cond) ∈ wAll := wA_t 682 (by decide +kernel) rfl
theorem tw_683 : (.code ⟨"EditMovesModel", "isNumber", "()Z"⟩ prog_8_method_20_code 11 (some .boolean) : Cond) ∈ wAll := wA_t 683 (by decide +kernel) rfl
theorem tw_684 : (.methodLink "EditMovesModel" 75 ⟨"EditMovesModel", "isInsertion", "(I)Z"⟩ : Cond) ∈ wAll := wA_t 684 (by decide +kernel) rfl
theorem tw_685 : (.static ⟨"EditMovesModel", "isInsertion", "(I)Z"⟩ : Cond) ∈ wAll := wA_t 685 (by decide +kernel) rfl
theorem tw_686 : (.code ⟨"EditMovesModel", "isInsertion", "(I)Z"⟩ prog_8_method_13_code 1 (some .boolean) : Cond) ∈ wAll := wA_t 686 (by decide +kernel) rfl
theorem tw_687 : (.methodLink "EditMovesModel" 81 ⟨"EditMovesModel", "main", "(I)I"⟩ : Cond) ∈ wAll := wA_t 687 (by decide +kernel) rfl
theorem tw_689 : (.instanceMethod ⟨"EditMovesModel", "main", "(I)I"⟩ : Cond) ∈ wAll := wA_t 689 (by decide +kernel) rfl
theorem tw_690 : (.code ⟨"EditMovesModel", "main", "(I)I"⟩ prog_8_method_15_code 3 (some .int) : Cond) ∈ wAll := wA_t 690 (by decide +kernel) rfl
theorem tw_691 : (.methodLink "EditMovesModel" 78 ⟨"EditMovesModel", "signOf", "(I)I"⟩ : Cond) ∈ wAll := wA_t 691 (by decide +kernel) rfl
theorem tw_693 : (.instanceMethod ⟨"EditMovesModel", "signOf", "(I)I"⟩ : Cond) ∈ wAll := wA_t 693 (by decide +kernel) rfl
theorem tw_694 : (.code ⟨"EditMovesModel", "signOf", "(I)I"⟩ prog_8_method_16_code 2 (some .int) : Cond) ∈ wAll := wA_t 694 (by decide +kernel) rfl
theorem tw_695 : (.methodLink "EditMovesModel" 90 ⟨"EditMovesModel", "isSign", "(I)Z"⟩ : Cond) ∈ wAll := wA_t 695 (by decide +kernel) rfl
theorem tw_696 : (.static ⟨"EditMovesModel", "isSign", "(I)Z"⟩ : Cond) ∈ wAll := wA_t 696 (by decide +kernel) rfl
theorem tw_697 : (.code ⟨"EditMovesModel", "isSign", "(I)Z"⟩ prog_8_method_14_code 1 (some .boolean) : Cond) ∈ wAll := wA_t 697 (by decide +kernel) rfl
theorem tw_698 : (.methodLink "EditMovesModel" 93 ⟨"EditMovesModel", "run", "(II)I"⟩ : Cond) ∈ wAll := wA_t 698 (by decide +kernel) rfl
theorem tw_700 : (.instanceMethod ⟨"EditMovesModel", "run", "(II)I"⟩ : Cond) ∈ wAll := wA_t 700 (by decide +kernel) rfl
theorem tw_701 : (.code ⟨"EditMovesModel", "run", "(II)I"⟩ prog_8_method_17_code 5 (some .int) : Cond) ∈ wAll := wA_t 701 (by decide +kernel) rfl
theorem tw_702 : (.methodLink "EditMovesModel" 97 ⟨"EditMovesModel", "pass", "(II)I"⟩ : Cond) ∈ wAll := wA_t 702 (by decide +kernel) rfl
theorem tw_704 : (.instanceMethod ⟨"EditMovesModel", "pass", "(II)I"⟩ : Cond) ∈ wAll := wA_t 704 (by decide +kernel) rfl
theorem tw_705 : (.code ⟨"EditMovesModel", "pass", "(II)I"⟩ prog_8_method_18_code 5 (some .int) : Cond) ∈ wAll := wA_t 705 (by decide +kernel) rfl
theorem tw_706 : (.methodLink "EditMovesModel" 131 ⟨"EditMovesModel", "width", "()I"⟩ : Cond) ∈ wAll := wA_t 706 (by decide +kernel) rfl
theorem tw_708 : (.instanceMethod ⟨"EditMovesModel", "width", "()I"⟩ : Cond) ∈ wAll := wA_t 708 (by decide +kernel) rfl
theorem tw_709 : (.code ⟨"EditMovesModel", "width", "()I"⟩ prog_8_method_23_code 3 (some .int) : Cond) ∈ wAll := wA_t 709 (by decide +kernel) rfl
theorem tw_710 : (.methodLink "EditMovesModel" 125 ⟨"EditMovesModel", "wide", "(I)I"⟩ : Cond) ∈ wAll := wA_t 710 (by decide +kernel) rfl
theorem tw_711 : (.static ⟨"EditMovesModel", "wide", "(I)I"⟩ : Cond) ∈ wAll := wA_t 711 (by decide +kernel) rfl
theorem tw_712 : (.code ⟨"EditMovesModel", "wide", "(I)I"⟩ prog_8_method_22_code 1 (some .int) : Cond) ∈ wAll := wA_t 712 (by decide +kernel) rfl
theorem tw_717 : (.methodLink "EditMovesModel" 163 ⟨"EditMovesModel", "digits", "()I"⟩ : Cond) ∈ wAll := wA_t 717 (by decide +kernel) rfl
theorem tw_719 : (.instanceMethod ⟨"EditMovesModel", "digits", "()I"⟩ : Cond) ∈ wAll := wA_t 719 (by decide +kernel) rfl
theorem tw_720 : (.code ⟨"EditMovesModel", "digits", "()I"⟩ prog_8_method_25_code 5 (some .int) : Cond) ∈ wAll := wA_t 720 (by decide +kernel) rfl
theorem tw_721 : (.constantLong "EditMovesModel" 135 (10) : Cond) ∈ wAll := wA_t 721 (by decide +kernel) rfl
theorem tw_722 : (.methodLink "EditMovesModel" 166 ⟨"EditMovesModel", "editText", "()I"⟩ : Cond) ∈ wAll := wA_t 722 (by decide +kernel) rfl
theorem tw_724 : (.instanceMethod ⟨"EditMovesModel", "editText", "()I"⟩ : Cond) ∈ wAll := wA_t 724 (by decide +kernel) rfl
theorem tw_725 : (.code ⟨"EditMovesModel", "editText", "()I"⟩ prog_8_method_33_code 3 (some .int) : Cond) ∈ wAll := wA_t 725 (by decide +kernel) rfl
theorem tw_726 : (.methodLink "EditMovesModel" 143 ⟨"EditMovesModel", "put", "(I)V"⟩ : Cond) ∈ wAll := wA_t 726 (by decide +kernel) rfl
theorem tw_728 : (.instanceMethod ⟨"EditMovesModel", "put", "(I)V"⟩ : Cond) ∈ wAll := wA_t 728 (by decide +kernel) rfl
theorem tw_729 : (.code ⟨"EditMovesModel", "put", "(I)V"⟩ prog_8_method_27_code 2 none : Cond) ∈ wAll := wA_t 729 (by decide +kernel) rfl
theorem tw_730 : (.methodLink "EditMovesModel" 169 ⟨"EditMovesModel", "isZero", "()Z"⟩ : Cond) ∈ wAll := wA_t 730 (by decide +kernel) rfl
theorem tw_732 : (.instanceMethod ⟨"EditMovesModel", "isZero", "()Z"⟩ : Cond) ∈ wAll := wA_t 732 (by decide +kernel) rfl
theorem tw_733 : (.code ⟨"EditMovesModel", "isZero", "()Z"⟩ prog_8_method_26_code 3 (some .boolean) : Cond) ∈ wAll := wA_t 733 (by decide +kernel) rfl
theorem tw_734 : (.methodLink "EditMovesModel" 175 ⟨"EditMovesModel", "fill", "(I)V"⟩ : Cond) ∈ wAll := wA_t 734 (by decide +kernel) rfl
theorem tw_736 : (.instanceMethod ⟨"EditMovesModel", "fill", "(I)V"⟩ : Cond) ∈ wAll := wA_t 736 (by decide +kernel) rfl
theorem tw_737 : (.code ⟨"EditMovesModel", "fill", "(I)V"⟩ prog_8_method_28_code 5 none : Cond) ∈ wAll := wA_t 737 (by decide +kernel) rfl
theorem tw_738 : (.methodLink "EditMovesModel" 178 ⟨"EditMovesModel", "places", "()V"⟩ : Cond) ∈ wAll := wA_t 738 (by decide +kernel) rfl
theorem tw_740 : (.instanceMethod ⟨"EditMovesModel", "places", "()V"⟩ : Cond) ∈ wAll := wA_t 740 (by decide +kernel) rfl
theorem tw_741 : (.code ⟨"EditMovesModel", "places", "()V"⟩ prog_8_method_31_code 11 none : Cond) ∈ wAll := wA_t 741 (by decide +kernel) rfl
theorem tw_742 : (.methodLink "EditMovesModel" 147 ⟨"EditMovesModel", "shown", "()I"⟩ : Cond) ∈ wAll := wA_t 742 (by decide +kernel) rfl
theorem tw_744 : (.instanceMethod ⟨"EditMovesModel", "shown", "()I"⟩ : Cond) ∈ wAll := wA_t 744 (by decide +kernel) rfl
theorem tw_745 : (.code ⟨"EditMovesModel", "shown", "()I"⟩ prog_8_method_29_code 4 (some .int) : Cond) ∈ wAll := wA_t 745 (by decide +kernel) rfl
theorem tw_746 : (.methodLink "EditMovesModel" 153 ⟨"EditMovesModel", "shownSign", "(IZ)I"⟩ : Cond) ∈ wAll := wA_t 746 (by decide +kernel) rfl
theorem tw_747 : (.static ⟨"EditMovesModel", "shownSign", "(IZ)I"⟩ : Cond) ∈ wAll := wA_t 747 (by decide +kernel) rfl
theorem tw_748 : (.code ⟨"EditMovesModel", "shownSign", "(IZ)I"⟩ prog_8_method_30_code 2 (some .int) : Cond) ∈ wAll := wA_t 748 (by decide +kernel) rfl
theorem tw_749 : (.methodLink "EditMovesModel" 157 ⟨"EditMovesModel", "plain", "(I)V"⟩ : Cond) ∈ wAll := wA_t 749 (by decide +kernel) rfl
theorem tw_751 : (.instanceMethod ⟨"EditMovesModel", "plain", "(I)V"⟩ : Cond) ∈ wAll := wA_t 751 (by decide +kernel) rfl
theorem tw_752 : (.code ⟨"EditMovesModel", "plain", "(I)V"⟩ prog_8_method_32_code 2 none : Cond) ∈ wAll := wA_t 752 (by decide +kernel) rfl
theorem tw_774 : (.fieldLink "java/lang/String" 15 "java/lang/String" "coder" "B" : Cond) ∈ wAll := wA_t 774 (by decide +kernel) rfl
theorem tw_775 : (.fieldLink "java/lang/String" 9 "java/lang/String" "value" "[B" : Cond) ∈ wAll := wA_t 775 (by decide +kernel) rfl
theorem tu_0 : ∀ w ∈ u_ws RX0 TX0 5, w ∈ wAll := by
  intro w hw
  obtain ⟨j, hj, rfl⟩ := List.mem_map.mp hw
  rw [List.mem_range] at hj
  rcases (show j = 0 ∨ j = 1 ∨ j = 2 ∨ j = 3 ∨ j = 4 by omega) with rfl | rfl | rfl | rfl | rfl
  · exact tw_108
  · exact tw_110
  · exact tw_112
  · exact tw_114
  · exact tw_116
theorem tu_1 : ∀ w ∈ u_ws RX1 TX1 6, w ∈ wAll := by
  intro w hw
  obtain ⟨j, hj, rfl⟩ := List.mem_map.mp hw
  rw [List.mem_range] at hj
  rcases (show j = 0 ∨ j = 1 ∨ j = 2 ∨ j = 3 ∨ j = 4 ∨ j = 5 by omega) with rfl | rfl | rfl | rfl | rfl | rfl
  · exact tw_154
  · exact tw_156
  · exact tw_158
  · exact tw_160
  · exact tw_162
  · exact tw_164
theorem tu_2 : ∀ w ∈ u_ws RX2 TX2 2, w ∈ wAll := by
  intro w hw
  obtain ⟨j, hj, rfl⟩ := List.mem_map.mp hw
  rw [List.mem_range] at hj
  rcases (show j = 0 ∨ j = 1 by omega) with rfl | rfl
  · exact tw_32
  · exact tw_34
theorem tu_3 : ∀ w ∈ u_ws RX3 TX3 11, w ∈ wAll := by
  intro w hw
  obtain ⟨j, hj, rfl⟩ := List.mem_map.mp hw
  rw [List.mem_range] at hj
  rcases (show j = 0 ∨ j = 1 ∨ j = 2 ∨ j = 3 ∨ j = 4 ∨ j = 5 ∨ j = 6 ∨ j = 7 ∨ j = 8 ∨ j = 9 ∨ j = 10 by omega) with rfl | rfl | rfl | rfl | rfl | rfl | rfl | rfl | rfl | rfl | rfl
  · exact tw_64
  · exact tw_66
  · exact tw_68
  · exact tw_70
  · exact tw_72
  · exact tw_74
  · exact tw_76
  · exact tw_78
  · exact tw_80
  · exact tw_82
  · exact tw_84
theorem tu_4 : ∀ w ∈ u_ws RX4 TX4 5, w ∈ wAll := by
  intro w hw
  obtain ⟨j, hj, rfl⟩ := List.mem_map.mp hw
  rw [List.mem_range] at hj
  rcases (show j = 0 ∨ j = 1 ∨ j = 2 ∨ j = 3 ∨ j = 4 by omega) with rfl | rfl | rfl | rfl | rfl
  · exact tw_134
  · exact tw_136
  · exact tw_138
  · exact tw_140
  · exact tw_142
theorem tu_5 : ∀ w ∈ u_ws RX5 TX5 11, w ∈ wAll := by
  intro w hw
  obtain ⟨j, hj, rfl⟩ := List.mem_map.mp hw
  rw [List.mem_range] at hj
  rcases (show j = 0 ∨ j = 1 ∨ j = 2 ∨ j = 3 ∨ j = 4 ∨ j = 5 ∨ j = 6 ∨ j = 7 ∨ j = 8 ∨ j = 9 ∨ j = 10 by omega) with rfl | rfl | rfl | rfl | rfl | rfl | rfl | rfl | rfl | rfl | rfl
  · exact tw_178
  · exact tw_180
  · exact tw_182
  · exact tw_184
  · exact tw_186
  · exact tw_188
  · exact tw_190
  · exact tw_192
  · exact tw_194
  · exact tw_196
  · exact tw_198
theorem tu_6 : ∀ w ∈ u_ws RX6 TX6 29, w ∈ wAll := by
  intro w hw
  obtain ⟨j, hj, rfl⟩ := List.mem_map.mp hw
  rw [List.mem_range] at hj
  rcases (show j = 0 ∨ j = 1 ∨ j = 2 ∨ j = 3 ∨ j = 4 ∨ j = 5 ∨ j = 6 ∨ j = 7 ∨ j = 8 ∨ j = 9 ∨ j = 10 ∨ j = 11 ∨ j = 12 ∨ j = 13 ∨ j = 14 ∨ j = 15 ∨ j = 16 ∨ j = 17 ∨ j = 18 ∨ j = 19 ∨ j = 20 ∨ j = 21 ∨ j = 22 ∨ j = 23 ∨ j = 24 ∨ j = 25 ∨ j = 26 ∨ j = 27 ∨ j = 28 by omega) with rfl | rfl | rfl | rfl | rfl | rfl | rfl | rfl | rfl | rfl | rfl | rfl | rfl | rfl | rfl | rfl | rfl | rfl | rfl | rfl | rfl | rfl | rfl | rfl | rfl | rfl | rfl | rfl | rfl
  · exact tw_567
  · exact tw_569
  · exact tw_571
  · exact tw_573
  · exact tw_575
  · exact tw_577
  · exact tw_579
  · exact tw_581
  · exact tw_583
  · exact tw_585
  · exact tw_587
  · exact tw_589
  · exact tw_591
  · exact tw_593
  · exact tw_595
  · exact tw_597
  · exact tw_599
  · exact tw_601
  · exact tw_603
  · exact tw_605
  · exact tw_607
  · exact tw_609
  · exact tw_611
  · exact tw_613
  · exact tw_615
  · exact tw_617
  · exact tw_619
  · exact tw_621
  · exact tw_623

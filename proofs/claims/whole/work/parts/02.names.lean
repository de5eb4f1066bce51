/-! ===== BEGIN words of one list among another's, by their places ===== -/
theorem goodIn_r {big : List Cond} (ws : List Cond) (ps : List Nat) (hp : ws = ps.filterMap (fun i => big[i]?)) (h : ws.all goodWord = true) : GoodIn big ws := by
  intro w hw
  have h1 := List.all_eq_true.mp h w hw
  rw [hp] at hw
  obtain ⟨i, -, hi⟩ := List.mem_filterMap.mp hw
  have hm : w ∈ big := by first | exact List.mem_of_getElem? hi | exact List.getElem?_mem hi
  exact ⟨hm, good_of_word h1⟩
theorem goodIn_app {big a b : List Cond} (ha : GoodIn big a) (hb : GoodIn big b) : GoodIn big (a ++ b) := fun w h => (List.mem_append.mp h).elim (ha w) (hb w)
theorem goodIn_ca {big a b : List Cond} {c : Cond} (ha : GoodIn big (c :: a)) (hb : GoodIn big b) : GoodIn big (c :: (a ++ b)) := fun w h => (List.mem_cons.mp h).elim (fun e => ha w (List.mem_cons.mpr (Or.inl e))) (fun h => (List.mem_append.mp h).elim (fun h => ha w (List.mem_cons.mpr (Or.inr h))) (hb w))
theorem goodIn_sub {big ws : List Cond} (hm : ∀ w ∈ ws, w ∈ big) (h : ws.all goodWord = true) : GoodIn big ws := fun w hw => ⟨hm w hw, good_of_word (List.all_eq_true.mp h w hw)⟩
/-! ===== END ===== -/

/-! ===== BEGIN printed: names, fields, word lists, decode rows ===== -/
def RX0 : String := "FoldedPages$Book"
def TX0 : u_T := fun k => match k with
  | 0 => ("FoldedPages$Book", "sheetCount", "I", false)
  | 1 => ("FoldedPages$Book", "pageCount", "I", false)
  | 2 => ("FoldedPages$Book", "schemeOf", "[I", true)
  | 3 => ("FoldedPages$Book", "pagesAhead", "[I", true)
  | 4 => ("FoldedPages$Book", "sheetAt", "[I", true)
  | _ => ("FoldedPages$Book", "pageAt", "[I", true)
def tyX0 : Nat → FieldType := fun k => match k with
  | 0 => .int
  | 1 => .int
  | 2 => .array .int
  | 3 => .array .int
  | 4 => .array .int
  | _ => .array .int
abbrev wsX00 : List Cond := u_ws RX0 TX0 6
theorem nmX0 : ∀ a, a < 6 → ∀ b, b < 6 → a ≠ b → (TX0 a).2.1 ≠ (TX0 b).2.1 := by decide +kernel
theorem tyX0_ok : ∀ k, k < 6 → parseFieldDescriptor (TX0 k).2.2.1 = some (tyX0 k) := by decide +kernel
abbrev cX0_init : ByteArray := prog_2_method_1_code
def yX0_init : MethodName := ⟨RX0, "<init>", "()V"⟩
abbrev cX0_arrange : ByteArray := prog_2_method_2_code
def yX0_arrange : MethodName := ⟨RX0, "arrange", "(LFoldedPages$Told;LFoldedPages$Plan;)V"⟩
abbrev cX0_addSheet : ByteArray := prog_2_method_3_code
def yX0_addSheet : MethodName := ⟨RX0, "addSheet", "(II)V"⟩
abbrev cX0_placePages : ByteArray := prog_2_method_4_code
def yX0_placePages : MethodName := ⟨RX0, "placePages", "(LFoldedPages$Told;I)V"⟩
abbrev cX0_numberOf : ByteArray := prog_2_method_5_code
def yX0_numberOf : MethodName := ⟨RX0, "numberOf", "(LFoldedPages$Told;II)I"⟩
abbrev cX0_out : ByteArray := prog_2_method_6_code
def yX0_out : MethodName := ⟨RX0, "out", "(LFoldedPages$Told;II)I"⟩
abbrev cX0_mostOut : ByteArray := prog_2_method_7_code
def yX0_mostOut : MethodName := ⟨RX0, "mostOut", "(LFoldedPages$Told;I)I"⟩
abbrev cX0_moved : ByteArray := prog_2_method_8_code
def yX0_moved : MethodName := ⟨RX0, "moved", "(LFoldedPages$Told;II)I"⟩
abbrev cX0_blanksOn : ByteArray := prog_2_method_9_code
def yX0_blanksOn : MethodName := ⟨RX0, "blanksOn", "(LFoldedPages$Told;I)I"⟩
def RX1 : String := "FoldedPages$History"
def TX1 : u_T := fun k => match k with
  | 0 => ("FoldedPages$History", "kept", "[LFoldedPages$Told;", true)
  | _ => ("FoldedPages$History", "depth", "I", false)
def tyX1 : Nat → FieldType := fun k => match k with
  | 0 => .array (.object "FoldedPages$Told")
  | _ => .int
abbrev wsX10 : List Cond := u_ws RX1 TX1 2
theorem nmX1 : ∀ a, a < 2 → ∀ b, b < 2 → a ≠ b → (TX1 a).2.1 ≠ (TX1 b).2.1 := by decide +kernel
theorem tyX1_ok : ∀ k, k < 2 → parseFieldDescriptor (TX1 k).2.2.1 = some (tyX1 k) := by decide +kernel
abbrev cX1_init : ByteArray := prog_3_method_1_code
def yX1_init : MethodName := ⟨RX1, "<init>", "()V"⟩
abbrev cX1_keep : ByteArray := prog_3_method_2_code
def yX1_keep : MethodName := ⟨RX1, "keep", "(LFoldedPages$Told;)V"⟩
abbrev cX1_forgetOldest : ByteArray := prog_3_method_3_code
def yX1_forgetOldest : MethodName := ⟨RX1, "forgetOldest", "()V"⟩
abbrev cX1_bringBack : ByteArray := prog_3_method_4_code
def yX1_bringBack : MethodName := ⟨RX1, "bringBack", "(LFoldedPages$Told;)V"⟩
def RX2 : String := "FoldedPages$Kinds"
def TX2 : u_T := fun k => match k with
  | 0 => ("FoldedPages$Kinds", "tried", "LFoldedPages$Sheet;", true)
  | _ => ("FoldedPages$Kinds", "marks", "[I", true)
def tyX2 : Nat → FieldType := fun k => match k with
  | 0 => .object "FoldedPages$Sheet"
  | _ => .array .int
abbrev wsX20 : List Cond := u_ws RX2 TX2 2
theorem nmX2 : ∀ a, a < 2 → ∀ b, b < 2 → a ≠ b → (TX2 a).2.1 ≠ (TX2 b).2.1 := by decide +kernel
theorem tyX2_ok : ∀ k, k < 2 → parseFieldDescriptor (TX2 k).2.2.1 = some (tyX2 k) := by decide +kernel
abbrev cX2_init : ByteArray := prog_4_method_1_code
def yX2_init : MethodName := ⟨RX2, "<init>", "()V"⟩
abbrev cX2_isTried : ByteArray := prog_4_method_2_code
def yX2_isTried : MethodName := ⟨RX2, "isTried", "(II)Z"⟩
abbrev cX2_codesOf : ByteArray := prog_4_method_3_code
def yX2_codesOf : MethodName := ⟨RX2, "codesOf", "(I)I"⟩
abbrev cX2_firstWith : ByteArray := prog_4_method_4_code
def yX2_firstWith : MethodName := ⟨RX2, "firstWith", "(IIIII)I"⟩
abbrev cX2_alikeTo : ByteArray := prog_4_method_5_code
def yX2_alikeTo : MethodName := ⟨RX2, "alikeTo", "(LFoldedPages$Sheet;I)I"⟩
abbrev cX2_isTriedAlike : ByteArray := prog_4_method_6_code
def yX2_isTriedAlike : MethodName := ⟨RX2, "isTriedAlike", "(LFoldedPages$Sheet;)Z"⟩
abbrev cX2_unlikeOnes : ByteArray := prog_4_method_7_code
def yX2_unlikeOnes : MethodName := ⟨RX2, "unlikeOnes", "(I)I"⟩
abbrev cX2_keepMarks : ByteArray := prog_4_method_8_code
def yX2_keepMarks : MethodName := ⟨RX2, "keepMarks", "(I)V"⟩
abbrev cX2_isKeptBefore : ByteArray := prog_4_method_9_code
def yX2_isKeptBefore : MethodName := ⟨RX2, "isKeptBefore", "(I)Z"⟩
abbrev cX2_haveSameMarks : ByteArray := prog_4_method_10_code
def yX2_haveSameMarks : MethodName := ⟨RX2, "haveSameMarks", "(II)Z"⟩
def RX3 : String := "FoldedPages$Leaf"
def TX3 : u_T := fun k => match k with
  | 0 => ("FoldedPages$Leaf", "column", "I", false)
  | 1 => ("FoldedPages$Leaf", "row", "I", false)
  | 2 => ("FoldedPages$Leaf", "columns", "I", false)
  | 3 => ("FoldedPages$Leaf", "rows", "I", false)
  | 4 => ("FoldedPages$Leaf", "size", "I", false)
  | 5 => ("FoldedPages$Leaf", "height", "I", false)
  | 6 => ("FoldedPages$Leaf", "up", "I", false)
  | _ => ("FoldedPages$Leaf", "over", "I", false)
def tyX3 : Nat → FieldType := fun k => match k with
  | 0 => .int
  | 1 => .int
  | 2 => .int
  | 3 => .int
  | 4 => .int
  | 5 => .int
  | 6 => .int
  | _ => .int
abbrev wsX30 : List Cond := u_ws RX3 TX3 8
theorem nmX3 : ∀ a, a < 8 → ∀ b, b < 8 → a ≠ b → (TX3 a).2.1 ≠ (TX3 b).2.1 := by decide +kernel
theorem tyX3_ok : ∀ k, k < 8 → parseFieldDescriptor (TX3 k).2.2.1 = some (tyX3 k) := by decide +kernel
abbrev cX3_init : ByteArray := prog_5_method_1_code
def yX3_init : MethodName := ⟨RX3, "<init>", "()V"⟩
abbrev cX3_lieAt : ByteArray := prog_5_method_2_code
def yX3_lieAt : MethodName := ⟨RX3, "lieAt", "(IIII)V"⟩
abbrev cX3_takeFold : ByteArray := prog_5_method_3_code
def yX3_takeFold : MethodName := ⟨RX3, "takeFold", "(I)V"⟩
abbrev cX3_stayAt : ByteArray := prog_5_method_4_code
def yX3_stayAt : MethodName := ⟨RX3, "stayAt", "(IIZ)V"⟩
abbrev cX3_turnPile : ByteArray := prog_5_method_5_code
def yX3_turnPile : MethodName := ⟨RX3, "turnPile", "()V"⟩
abbrev cX3_frontPage : ByteArray := prog_5_method_6_code
def yX3_frontPage : MethodName := ⟨RX3, "frontPage", "()I"⟩
def RX4 : String := "FoldedPages$Plan"
def TX4 : u_T := fun k => match k with
  | 0 => ("FoldedPages$Plan", "least", "[[I", true)
  | 1 => ("FoldedPages$Plan", "sheetsOf", "[I", true)
  | _ => ("FoldedPages$Plan", "cost", "I", false)
def tyX4 : Nat → FieldType := fun k => match k with
  | 0 => .array (.array .int)
  | 1 => .array .int
  | _ => .int
abbrev wsX40 : List Cond := u_ws RX4 TX4 3
theorem nmX4 : ∀ a, a < 3 → ∀ b, b < 3 → a ≠ b → (TX4 a).2.1 ≠ (TX4 b).2.1 := by decide +kernel
theorem tyX4_ok : ∀ k, k < 3 → parseFieldDescriptor (TX4 k).2.2.1 = some (tyX4 k) := by decide +kernel
abbrev cX4_init : ByteArray := prog_6_method_1_code
def yX4_init : MethodName := ⟨RX4, "<init>", "()V"⟩
abbrev cX4_make : ByteArray := prog_6_method_2_code
def yX4_make : MethodName := ⟨RX4, "make", "(LFoldedPages$Told;)V"⟩
abbrev cX4_weigh : ByteArray := prog_6_method_3_code
def yX4_weigh : MethodName := ⟨RX4, "weigh", "(LFoldedPages$Told;)V"⟩
abbrev cX4_withOneOf : ByteArray := prog_6_method_4_code
def yX4_withOneOf : MethodName := ⟨RX4, "withOneOf", "(LFoldedPages$Told;II)I"⟩
abbrev cX4_cheaper : ByteArray := prog_6_method_5_code
def yX4_cheaper : MethodName := ⟨RX4, "cheaper", "(II)I"⟩
abbrev cX4_unitsFor : ByteArray := prog_6_method_6_code
def yX4_unitsFor : MethodName := ⟨RX4, "unitsFor", "(I)I"⟩
abbrev cX4_choose : ByteArray := prog_6_method_7_code
def yX4_choose : MethodName := ⟨RX4, "choose", "(LFoldedPages$Told;I)V"⟩
abbrev cX4_mostOf : ByteArray := prog_6_method_8_code
def yX4_mostOf : MethodName := ⟨RX4, "mostOf", "(LFoldedPages$Told;II)I"⟩
def RX5 : String := "FoldedPages$Sheet"
def TX5 : u_T := fun k => match k with
  | 0 => ("FoldedPages$Sheet", "columns", "I", false)
  | 1 => ("FoldedPages$Sheet", "rows", "I", false)
  | 2 => ("FoldedPages$Sheet", "foldsAcross", "I", false)
  | 3 => ("FoldedPages$Sheet", "front", "[I", true)
  | 4 => ("FoldedPages$Sheet", "overturned", "[I", true)
  | _ => ("FoldedPages$Sheet", "leaf", "LFoldedPages$Leaf;", true)
def tyX5 : Nat → FieldType := fun k => match k with
  | 0 => .int
  | 1 => .int
  | 2 => .int
  | 3 => .array .int
  | 4 => .array .int
  | _ => .object "FoldedPages$Leaf"
abbrev wsX50 : List Cond := u_ws RX5 TX5 6
theorem nmX5 : ∀ a, a < 6 → ∀ b, b < 6 → a ≠ b → (TX5 a).2.1 ≠ (TX5 b).2.1 := by decide +kernel
theorem tyX5_ok : ∀ k, k < 6 → parseFieldDescriptor (TX5 k).2.2.1 = some (tyX5 k) := by decide +kernel
abbrev cX5_init : ByteArray := prog_7_method_1_code
def yX5_init : MethodName := ⟨RX5, "<init>", "()V"⟩
abbrev cX5_figureAt : ByteArray := prog_7_method_2_code
def yX5_figureAt : MethodName := ⟨RX5, "figureAt", "(III)I"⟩
abbrev cX5_lastFigure : ByteArray := prog_7_method_3_code
def yX5_lastFigure : MethodName := ⟨RX5, "lastFigure", "(I)I"⟩
abbrev cX5_isAcross : ByteArray := prog_7_method_4_code
def yX5_isAcross : MethodName := ⟨RX5, "isAcross", "(I)Z"⟩
abbrev cX5_behind : ByteArray := prog_7_method_5_code
def yX5_behind : MethodName := ⟨RX5, "behind", "(I)I"⟩
abbrev cX5_foldBy : ByteArray := prog_7_method_6_code
def yX5_foldBy : MethodName := ⟨RX5, "foldBy", "(II)V"⟩
abbrev cX5_foldLeaf : ByteArray := prog_7_method_7_code
def yX5_foldLeaf : MethodName := ⟨RX5, "foldLeaf", "(II)V"⟩
abbrev cX5_leaves : ByteArray := prog_7_method_8_code
def yX5_leaves : MethodName := ⟨RX5, "leaves", "()I"⟩
abbrev cX5_cellAt : ByteArray := prog_7_method_9_code
def yX5_cellAt : MethodName := ⟨RX5, "cellAt", "(II)I"⟩
abbrev cX5_columnAt : ByteArray := prog_7_method_10_code
def yX5_columnAt : MethodName := ⟨RX5, "columnAt", "(I)I"⟩
abbrev cX5_rowAt : ByteArray := prog_7_method_11_code
def yX5_rowAt : MethodName := ⟨RX5, "rowAt", "(I)I"⟩
abbrev cX5_hasCell : ByteArray := prog_7_method_12_code
def yX5_hasCell : MethodName := ⟨RX5, "hasCell", "(II)Z"⟩
abbrev cX5_pageOn : ByteArray := prog_7_method_13_code
def yX5_pageOn : MethodName := ⟨RX5, "pageOn", "(III)I"⟩
abbrev cX5_cellOf : ByteArray := prog_7_method_14_code
def yX5_cellOf : MethodName := ⟨RX5, "cellOf", "(I)I"⟩
abbrev cX5_sideOf : ByteArray := prog_7_method_15_code
def yX5_sideOf : MethodName := ⟨RX5, "sideOf", "(I)I"⟩
abbrev cX5_columnOf : ByteArray := prog_7_method_16_code
def yX5_columnOf : MethodName := ⟨RX5, "columnOf", "(I)I"⟩
abbrev cX5_rowOf : ByteArray := prog_7_method_17_code
def yX5_rowOf : MethodName := ⟨RX5, "rowOf", "(I)I"⟩
abbrev cX5_isOverturned : ByteArray := prog_7_method_18_code
def yX5_isOverturned : MethodName := ⟨RX5, "isOverturned", "(I)I"⟩
abbrev cX5_rightOf : ByteArray := prog_7_method_19_code
def yX5_rightOf : MethodName := ⟨RX5, "rightOf", "(I)I"⟩
abbrev cX5_overturnedLeaves : ByteArray := prog_7_method_20_code
def yX5_overturnedLeaves : MethodName := ⟨RX5, "overturnedLeaves", "()I"⟩
abbrev cX5_markOf : ByteArray := prog_7_method_21_code
def yX5_markOf : MethodName := ⟨RX5, "markOf", "(I)I"⟩
def RX6 : String := "FoldedPages$Text"
def TX6 : u_T := fun k => match k with
  | 0 => ("FoldedPages$Text", "letters", "[C", true)
  | _ => ("FoldedPages$Text", "length", "I", false)
def tyX6 : Nat → FieldType := fun k => match k with
  | 0 => .array .char
  | _ => .int
abbrev wsX60 : List Cond := u_ws RX6 TX6 2
theorem nmX6 : ∀ a, a < 2 → ∀ b, b < 2 → a ≠ b → (TX6 a).2.1 ≠ (TX6 b).2.1 := by decide +kernel
theorem tyX6_ok : ∀ k, k < 2 → parseFieldDescriptor (TX6 k).2.2.1 = some (tyX6 k) := by decide +kernel
abbrev cX6_init : ByteArray := prog_8_method_1_code
def yX6_init : MethodName := ⟨RX6, "<init>", "()V"⟩
abbrev cX6_append : ByteArray := prog_8_method_2_code
def yX6_append : MethodName := ⟨RX6, "append", "(C)V"⟩
abbrev cX6_readInto : ByteArray := prog_8_method_3_code
def yX6_readInto : MethodName := ⟨RX6, "readInto", "(LFoldedPages$Told;)I"⟩
abbrev cX6_readItem : ByteArray := prog_8_method_4_code
def yX6_readItem : MethodName := ⟨RX6, "readItem", "(LFoldedPages$Told;II)Z"⟩
abbrev cX6_readScheme : ByteArray := prog_8_method_5_code
def yX6_readScheme : MethodName := ⟨RX6, "readScheme", "(LFoldedPages$Told;II)Z"⟩
abbrev cX6_readPrice : ByteArray := prog_8_method_6_code
def yX6_readPrice : MethodName := ⟨RX6, "readPrice", "(LFoldedPages$Told;II)Z"⟩
abbrev cX6_readNumber : ByteArray := prog_8_method_7_code
def yX6_readNumber : MethodName := ⟨RX6, "readNumber", "(LFoldedPages$Told;III)Z"⟩
abbrev cX6_commaIn : ByteArray := prog_8_method_8_code
def yX6_commaIn : MethodName := ⟨RX6, "commaIn", "(II)I"⟩
abbrev cX6_figuresIn : ByteArray := prog_8_method_9_code
def yX6_figuresIn : MethodName := ⟨RX6, "figuresIn", "(II)I"⟩
abbrev cX6_foldsIn : ByteArray := prog_8_method_10_code
def yX6_foldsIn : MethodName := ⟨RX6, "foldsIn", "(II)I"⟩
def RX7 : String := "FoldedPages$Told"
def TX7 : u_T := fun k => match k with
  | 0 => ("FoldedPages$Told", "schemes", "I", false)
  | 1 => ("FoldedPages$Told", "numbers", "[I", true)
  | 2 => ("FoldedPages$Told", "foldCounts", "[I", true)
  | 3 => ("FoldedPages$Told", "foldCodes", "[I", true)
  | 4 => ("FoldedPages$Told", "prices", "[I", true)
  | _ => ("FoldedPages$Told", "spoiled", "[I", true)
def tyX7 : Nat → FieldType := fun k => match k with
  | 0 => .int
  | 1 => .array .int
  | 2 => .array .int
  | 3 => .array .int
  | 4 => .array .int
  | _ => .array .int
abbrev wsX70 : List Cond := u_ws RX7 TX7 6
theorem nmX7 : ∀ a, a < 6 → ∀ b, b < 6 → a ≠ b → (TX7 a).2.1 ≠ (TX7 b).2.1 := by decide +kernel
theorem tyX7_ok : ∀ k, k < 6 → parseFieldDescriptor (TX7 k).2.2.1 = some (tyX7 k) := by decide +kernel
abbrev cX7_init : ByteArray := prog_9_method_1_code
def yX7_init : MethodName := ⟨RX7, "<init>", "()V"⟩
abbrev cX7_tellNothing : ByteArray := prog_9_method_2_code
def yX7_tellNothing : MethodName := ⟨RX7, "tellNothing", "()V"⟩
abbrev cX7_unspoil : ByteArray := prog_9_method_3_code
def yX7_unspoil : MethodName := ⟨RX7, "unspoil", "()V"⟩
abbrev cX7_copyFrom : ByteArray := prog_9_method_4_code
def yX7_copyFrom : MethodName := ⟨RX7, "copyFrom", "(LFoldedPages$Told;)V"⟩
abbrev cX7_copyRow : ByteArray := prog_9_method_5_code
def yX7_copyRow : MethodName := ⟨RX7, "copyRow", "([I[I)V"⟩
abbrev cX7_addScheme : ByteArray := prog_9_method_6_code
def yX7_addScheme : MethodName := ⟨RX7, "addScheme", "(II)V"⟩
abbrev cX7_unitsOf : ByteArray := prog_9_method_7_code
def yX7_unitsOf : MethodName := ⟨RX7, "unitsOf", "(I)I"⟩
abbrev cX7_pagesOf : ByteArray := prog_9_method_8_code
def yX7_pagesOf : MethodName := ⟨RX7, "pagesOf", "(I)I"⟩
abbrev cX7_spoiledSheets : ByteArray := prog_9_method_9_code
def yX7_spoiledSheets : MethodName := ⟨RX7, "spoiledSheets", "()I"⟩
def RX8 : String := "FoldedPages"
def TX8 : u_T := fun k => match k with
  | 0 => ("FoldedPages", "text", "LFoldedPages$Text;", true)
  | 1 => ("FoldedPages", "now", "LFoldedPages$Told;", true)
  | 2 => ("FoldedPages", "read", "LFoldedPages$Told;", true)
  | 3 => ("FoldedPages", "history", "LFoldedPages$History;", true)
  | 4 => ("FoldedPages", "sheets", "[LFoldedPages$Sheet;", true)
  | 5 => ("FoldedPages", "kinds", "LFoldedPages$Kinds;", true)
  | 6 => ("FoldedPages", "best", "LFoldedPages$Plan;", true)
  | _ => ("FoldedPages", "pages", "LFoldedPages$Book;", true)
def tyX8 : Nat → FieldType := fun k => match k with
  | 0 => .object "FoldedPages$Text"
  | 1 => .object "FoldedPages$Told"
  | 2 => .object "FoldedPages$Told"
  | 3 => .object "FoldedPages$History"
  | 4 => .array (.object "FoldedPages$Sheet")
  | 5 => .object "FoldedPages$Kinds"
  | 6 => .object "FoldedPages$Plan"
  | _ => .object "FoldedPages$Book"
abbrev wsX80 : List Cond := u_ws RX8 TX8 8
theorem nmX8 : ∀ a, a < 8 → ∀ b, b < 8 → a ≠ b → (TX8 a).2.1 ≠ (TX8 b).2.1 := by decide +kernel
theorem tyX8_ok : ∀ k, k < 8 → parseFieldDescriptor (TX8 k).2.2.1 = some (tyX8 k) := by decide +kernel
abbrev cX8_init : ByteArray := prog_1_method_1_code
def yX8_init : MethodName := ⟨RX8, "<init>", "()V"⟩
abbrev cX8_write : ByteArray := prog_1_method_2_code
def yX8_write : MethodName := ⟨RX8, "write", "(I)I"⟩
abbrev cX8_wipe : ByteArray := prog_1_method_3_code
def yX8_wipe : MethodName := ⟨RX8, "wipe", "()I"⟩
abbrev cX8_fault : ByteArray := prog_1_method_4_code
def yX8_fault : MethodName := ⟨RX8, "fault", "()I"⟩
abbrev cX8_lay : ByteArray := prog_1_method_5_code
def yX8_lay : MethodName := ⟨RX8, "lay", "()I"⟩
abbrev cX8_tell : ByteArray := prog_1_method_6_code
def yX8_tell : MethodName := ⟨RX8, "tell", "(II)I"⟩
abbrev cX8_price : ByteArray := prog_1_method_7_code
def yX8_price : MethodName := ⟨RX8, "price", "(II)I"⟩
abbrev cX8_folds : ByteArray := prog_1_method_8_code
def yX8_folds : MethodName := ⟨RX8, "folds", "(I)I"⟩
abbrev cX8_spoil : ByteArray := prog_1_method_9_code
def yX8_spoil : MethodName := ⟨RX8, "spoil", "(II)I"⟩
abbrev cX8_undo : ByteArray := prog_1_method_10_code
def yX8_undo : MethodName := ⟨RX8, "undo", "()I"⟩
abbrev cX8_scheme : ByteArray := prog_1_method_11_code
def yX8_scheme : MethodName := ⟨RX8, "scheme", "(II)I"⟩
abbrev cX8_fold : ByteArray := prog_1_method_12_code
def yX8_fold : MethodName := ⟨RX8, "fold", "(II)I"⟩
abbrev cX8_page : ByteArray := prog_1_method_13_code
def yX8_page : MethodName := ⟨RX8, "page", "(IIII)I"⟩
abbrev cX8_where : ByteArray := prog_1_method_14_code
def yX8_where : MethodName := ⟨RX8, "where", "(III)I"⟩
abbrev cX8_turned : ByteArray := prog_1_method_15_code
def yX8_turned : MethodName := ⟨RX8, "turned", "(II)I"⟩
abbrev cX8_find : ByteArray := prog_1_method_16_code
def yX8_find : MethodName := ⟨RX8, "find", "(IIIII)I"⟩
abbrev cX8_alike : ByteArray := prog_1_method_17_code
def yX8_alike : MethodName := ⟨RX8, "alike", "(I)I"⟩
abbrev cX8_unlike : ByteArray := prog_1_method_18_code
def yX8_unlike : MethodName := ⟨RX8, "unlike", "(I)I"⟩
abbrev cX8_plan : ByteArray := prog_1_method_19_code
def yX8_plan : MethodName := ⟨RX8, "plan", "(I)I"⟩
abbrev cX8_blanks : ByteArray := prog_1_method_20_code
def yX8_blanks : MethodName := ⟨RX8, "blanks", "(I)I"⟩
abbrev cX8_book : ByteArray := prog_1_method_21_code
def yX8_book : MethodName := ⟨RX8, "book", "(II)I"⟩
abbrev cX8_number : ByteArray := prog_1_method_22_code
def yX8_number : MethodName := ⟨RX8, "number", "(II)I"⟩
abbrev cX8_sheet : ByteArray := prog_1_method_23_code
def yX8_sheet : MethodName := ⟨RX8, "sheet", "(II)I"⟩
abbrev cX8_missing : ByteArray := prog_1_method_24_code
def yX8_missing : MethodName := ⟨RX8, "missing", "(I)I"⟩
abbrev cX8_count : ByteArray := prog_1_method_25_code
def yX8_count : MethodName := ⟨RX8, "count", "(I)I"⟩
abbrev cX8_layText : ByteArray := prog_1_method_26_code
def yX8_layText : MethodName := ⟨RX8, "layText", "()I"⟩
abbrev cX8_settleAnew : ByteArray := prog_1_method_27_code
def yX8_settleAnew : MethodName := ⟨RX8, "settleAnew", "()V"⟩
abbrev cX8_settle : ByteArray := prog_1_method_28_code
def yX8_settle : MethodName := ⟨RX8, "settle", "()V"⟩
abbrev cX8_isScheme : ByteArray := prog_1_method_29_code
def yX8_isScheme : MethodName := ⟨RX8, "isScheme", "(I)Z"⟩
abbrev cX8_isSheet : ByteArray := prog_1_method_30_code
def yX8_isSheet : MethodName := ⟨RX8, "isSheet", "(I)Z"⟩
abbrev cX8_isSide : ByteArray := prog_1_method_31_code
def yX8_isSide : MethodName := ⟨RX8, "isSide", "(I)Z"⟩
abbrev cX8_isFoldCount : ByteArray := prog_1_method_32_code
def yX8_isFoldCount : MethodName := ⟨RX8, "isFoldCount", "(I)Z"⟩
abbrev cX8_isMissing : ByteArray := prog_1_method_33_code
def yX8_isMissing : MethodName := ⟨RX8, "isMissing", "(I)Z"⟩
abbrev cX8_missingRuns : ByteArray := prog_1_method_34_code
def yX8_missingRuns : MethodName := ⟨RX8, "missingRuns", "()I"⟩
def RX9 : String := "FoldedPagesModel"
def TX9 : u_T := fun k => match k with
  | 0 => ("FoldedPagesModel", "length", "I", false)
  | 1 => ("FoldedPagesModel", "text", "[I", true)
  | 2 => ("FoldedPagesModel", "now", "[I", true)
  | 3 => ("FoldedPagesModel", "before", "[I", true)
  | 4 => ("FoldedPagesModel", "undoMany", "I", false)
  | 5 => ("FoldedPagesModel", "read", "[I", true)
  | 6 => ("FoldedPagesModel", "spot", "I", false)
  | 7 => ("FoldedPagesModel", "folds", "[I", true)
  | 8 => ("FoldedPagesModel", "foldMany", "I", false)
  | 9 => ("FoldedPagesModel", "piles", "[I", true)
  | 10 => ("FoldedPagesModel", "after", "[I", true)
  | 11 => ("FoldedPagesModel", "columns", "I", false)
  | 12 => ("FoldedPagesModel", "rows", "I", false)
  | 13 => ("FoldedPagesModel", "cellOf", "[I", true)
  | 14 => ("FoldedPagesModel", "sideOf", "[I", true)
  | 15 => ("FoldedPagesModel", "turnedOf", "[I", true)
  | 16 => ("FoldedPagesModel", "allColumns", "I", false)
  | 17 => ("FoldedPagesModel", "known", "[I", true)
  | 18 => ("FoldedPagesModel", "least", "[I", true)
  | 19 => ("FoldedPagesModel", "plan", "[I", true)
  | 20 => ("FoldedPagesModel", "planPages", "I", false)
  | 21 => ("FoldedPagesModel", "ownSheet", "I", false)
  | 22 => ("FoldedPagesModel", "ownPage", "I", false)
  | _ => ("FoldedPagesModel", "isMissing", "[Z", true)
def tyX9 : Nat → FieldType := fun k => match k with
  | 0 => .int
  | 1 => .array .int
  | 2 => .array .int
  | 3 => .array .int
  | 4 => .int
  | 5 => .array .int
  | 6 => .int
  | 7 => .array .int
  | 8 => .int
  | 9 => .array .int
  | 10 => .array .int
  | 11 => .int
  | 12 => .int
  | 13 => .array .int
  | 14 => .array .int
  | 15 => .array .int
  | 16 => .int
  | 17 => .array .int
  | 18 => .array .int
  | 19 => .array .int
  | 20 => .int
  | 21 => .int
  | 22 => .int
  | _ => .array .boolean
abbrev wsX90 : List Cond := u_ws RX9 TX9 24
theorem nmX9 : ∀ a, a < 24 → ∀ b, b < 24 → a ≠ b → (TX9 a).2.1 ≠ (TX9 b).2.1 := by decide +kernel
theorem tyX9_ok : ∀ k, k < 24 → parseFieldDescriptor (TX9 k).2.2.1 = some (tyX9 k) := by decide +kernel
abbrev cX9_init : ByteArray := prog_11_method_1_code
def yX9_init : MethodName := ⟨RX9, "<init>", "()V"⟩
abbrev cX9_in : ByteArray := prog_11_method_2_code
def yX9_in : MethodName := ⟨RX9, "in", "(JJJ)Z"⟩
abbrev cX9_isFold : ByteArray := prog_11_method_3_code
def yX9_isFold : MethodName := ⟨RX9, "isFold", "(I)Z"⟩
abbrev cX9_isSide : ByteArray := prog_11_method_4_code
def yX9_isSide : MethodName := ⟨RX9, "isSide", "(I)Z"⟩
abbrev cX9_write : ByteArray := prog_11_method_5_code
def yX9_write : MethodName := ⟨RX9, "write", "(I)I"⟩
abbrev cX9_wipe : ByteArray := prog_11_method_6_code
def yX9_wipe : MethodName := ⟨RX9, "wipe", "()I"⟩
abbrev cX9_byteAt : ByteArray := prog_11_method_7_code
def yX9_byteAt : MethodName := ⟨RX9, "byteAt", "(I)I"⟩
abbrev cX9_figures : ByteArray := prog_11_method_8_code
def yX9_figures : MethodName := ⟨RX9, "figures", "(II)I"⟩
abbrev cX9_schemeItem : ByteArray := prog_11_method_9_code
def yX9_schemeItem : MethodName := ⟨RX9, "schemeItem", "()Z"⟩
abbrev cX9_tells : ByteArray := prog_11_method_10_code
def yX9_tells : MethodName := ⟨RX9, "tells", "(III)Z"⟩
abbrev cX9_item : ByteArray := prog_11_method_11_code
def yX9_item : MethodName := ⟨RX9, "item", "(I)Z"⟩
abbrev cX9_fault : ByteArray := prog_11_method_12_code
def yX9_fault : MethodName := ⟨RX9, "fault", "()I"⟩
abbrev cX9_lay : ByteArray := prog_11_method_13_code
def yX9_lay : MethodName := ⟨RX9, "lay", "()I"⟩
abbrev cX9_note : ByteArray := prog_11_method_14_code
def yX9_note : MethodName := ⟨RX9, "note", "()V"⟩
abbrev cX9_wholes : ByteArray := prog_11_method_15_code
def yX9_wholes : MethodName := ⟨RX9, "wholes", "()V"⟩
abbrev cX9_undo : ByteArray := prog_11_method_16_code
def yX9_undo : MethodName := ⟨RX9, "undo", "()I"⟩
abbrev cX9_becomes : ByteArray := prog_11_method_17_code
def yX9_becomes : MethodName := ⟨RX9, "becomes", "(II)I"⟩
abbrev cX9_tell : ByteArray := prog_11_method_18_code
def yX9_tell : MethodName := ⟨RX9, "tell", "(II)I"⟩
abbrev cX9_isScheme : ByteArray := prog_11_method_19_code
def yX9_isScheme : MethodName := ⟨RX9, "isScheme", "(I)Z"⟩
abbrev cX9_price : ByteArray := prog_11_method_20_code
def yX9_price : MethodName := ⟨RX9, "price", "(II)I"⟩
abbrev cX9_folds : ByteArray := prog_11_method_21_code
def yX9_folds : MethodName := ⟨RX9, "folds", "(I)I"⟩
abbrev cX9_lays : ByteArray := prog_11_method_22_code
def yX9_lays : MethodName := ⟨RX9, "lays", "(I)V"⟩
abbrev cX9_turns : ByteArray := prog_11_method_23_code
def yX9_turns : MethodName := ⟨RX9, "turns", "(II)V"⟩
abbrev cX9_foldAll : ByteArray := prog_11_method_24_code
def yX9_foldAll : MethodName := ⟨RX9, "foldAll", "()V"⟩
abbrev cX9_pageAt : ByteArray := prog_11_method_25_code
def yX9_pageAt : MethodName := ⟨RX9, "pageAt", "(II)I"⟩
abbrev cX9_pagesOf : ByteArray := prog_11_method_26_code
def yX9_pagesOf : MethodName := ⟨RX9, "pagesOf", "(I)I"⟩
abbrev cX9_acrossOf : ByteArray := prog_11_method_27_code
def yX9_acrossOf : MethodName := ⟨RX9, "acrossOf", "(I)I"⟩
abbrev cX9_scheme : ByteArray := prog_11_method_28_code
def yX9_scheme : MethodName := ⟨RX9, "scheme", "(II)I"⟩
abbrev cX9_fold : ByteArray := prog_11_method_29_code
def yX9_fold : MethodName := ⟨RX9, "fold", "(II)I"⟩
abbrev cX9_page : ByteArray := prog_11_method_30_code
def yX9_page : MethodName := ⟨RX9, "page", "(IIII)I"⟩
abbrev cX9_where : ByteArray := prog_11_method_31_code
def yX9_where : MethodName := ⟨RX9, "where", "(III)I"⟩
abbrev cX9_turned : ByteArray := prog_11_method_32_code
def yX9_turned : MethodName := ⟨RX9, "turned", "(II)I"⟩
abbrev cX9_letterOf : ByteArray := prog_11_method_33_code
def yX9_letterOf : MethodName := ⟨RX9, "letterOf", "(I)I"⟩
abbrev cX9_isText : ByteArray := prog_11_method_34_code
def yX9_isText : MethodName := ⟨RX9, "isText", "(II)Z"⟩
abbrev cX9_find : ByteArray := prog_11_method_35_code
def yX9_find : MethodName := ⟨RX9, "find", "(IIIII)I"⟩
abbrev cX9_knows : ByteArray := prog_11_method_36_code
def yX9_knows : MethodName := ⟨RX9, "knows", "(I)V"⟩
abbrev cX9_isKnown : ByteArray := prog_11_method_37_code
def yX9_isKnown : MethodName := ⟨RX9, "isKnown", "(I)Z"⟩
abbrev cX9_alike : ByteArray := prog_11_method_38_code
def yX9_alike : MethodName := ⟨RX9, "alike", "(I)I"⟩
abbrev cX9_unlike : ByteArray := prog_11_method_39_code
def yX9_unlike : MethodName := ⟨RX9, "unlike", "(I)I"⟩
abbrev cX9_at : ByteArray := prog_11_method_40_code
def yX9_at : MethodName := ⟨RX9, "at", "(II)I"⟩
abbrev cX9_findPlan : ByteArray := prog_11_method_41_code
def yX9_findPlan : MethodName := ⟨RX9, "findPlan", "(I)V"⟩
abbrev cX9_sheetMany : ByteArray := prog_11_method_42_code
def yX9_sheetMany : MethodName := ⟨RX9, "sheetMany", "()I"⟩
abbrev cX9_schemeOf : ByteArray := prog_11_method_43_code
def yX9_schemeOf : MethodName := ⟨RX9, "schemeOf", "(I)I"⟩
abbrev cX9_plan : ByteArray := prog_11_method_44_code
def yX9_plan : MethodName := ⟨RX9, "plan", "(I)I"⟩
abbrev cX9_blanks : ByteArray := prog_11_method_45_code
def yX9_blanks : MethodName := ⟨RX9, "blanks", "(I)I"⟩
abbrev cX9_halfAhead : ByteArray := prog_11_method_46_code
def yX9_halfAhead : MethodName := ⟨RX9, "halfAhead", "(I)I"⟩
abbrev cX9_numberOf : ByteArray := prog_11_method_47_code
def yX9_numberOf : MethodName := ⟨RX9, "numberOf", "(II)I"⟩
abbrev cX9_seek : ByteArray := prog_11_method_48_code
def yX9_seek : MethodName := ⟨RX9, "seek", "(I)V"⟩
abbrev cX9_outOf : ByteArray := prog_11_method_49_code
def yX9_outOf : MethodName := ⟨RX9, "outOf", "(II)I"⟩
abbrev cX9_movedOf : ByteArray := prog_11_method_50_code
def yX9_movedOf : MethodName := ⟨RX9, "movedOf", "(II)I"⟩
abbrev cX9_book : ByteArray := prog_11_method_51_code
def yX9_book : MethodName := ⟨RX9, "book", "(II)I"⟩
abbrev cX9_isSheet : ByteArray := prog_11_method_52_code
def yX9_isSheet : MethodName := ⟨RX9, "isSheet", "(I)Z"⟩
abbrev cX9_number : ByteArray := prog_11_method_53_code
def yX9_number : MethodName := ⟨RX9, "number", "(II)I"⟩
abbrev cX9_spoiledMany : ByteArray := prog_11_method_54_code
def yX9_spoiledMany : MethodName := ⟨RX9, "spoiledMany", "()I"⟩
abbrev cX9_spoil : ByteArray := prog_11_method_55_code
def yX9_spoil : MethodName := ⟨RX9, "spoil", "(II)I"⟩
abbrev cX9_sheet : ByteArray := prog_11_method_56_code
def yX9_sheet : MethodName := ⟨RX9, "sheet", "(II)I"⟩
abbrev cX9_missing : ByteArray := prog_11_method_57_code
def yX9_missing : MethodName := ⟨RX9, "missing", "(I)I"⟩
abbrev cX9_count : ByteArray := prog_11_method_58_code
def yX9_count : MethodName := ⟨RX9, "count", "(I)I"⟩
def RJ11 : String := "java/lang/Character"
def TJ11 : u_T := fun k => match k with
  | _ => ("", "", "", false)
def tyJ11 : Nat → FieldType := fun k => match k with
  | _ => .int
abbrev wsJ110 : List Cond := u_ws RJ11 TJ11 0
theorem nmJ11 : ∀ a, a < 0 → ∀ b, b < 0 → a ≠ b → (TJ11 a).2.1 ≠ (TJ11 b).2.1 := by decide +kernel
theorem tyJ11_ok : ∀ k, k < 0 → parseFieldDescriptor (TJ11 k).2.2.1 = some (tyJ11 k) := by decide +kernel
abbrev cJ11_isValidCodePoint_9a6ad : ByteArray := prog_12_method_11_code
def yJ11_isValidCodePoint_9a6ad : MethodName := ⟨RJ11, "isValidCodePoint", "(I)Z"⟩
abbrev cJ11_highSurrogate_5068e : ByteArray := prog_12_method_28_code
def yJ11_highSurrogate_5068e : MethodName := ⟨RJ11, "highSurrogate", "(I)C"⟩
abbrev cJ11_lowSurrogate_5068e : ByteArray := prog_12_method_29_code
def yJ11_lowSurrogate_5068e : MethodName := ⟨RJ11, "lowSurrogate", "(I)C"⟩
def RJ9 : String := "java/lang/Math"
def TJ9 : u_T := fun k => match k with
  | _ => ("", "", "", false)
def tyJ9 : Nat → FieldType := fun k => match k with
  | _ => .int
abbrev wsJ90 : List Cond := u_ws RJ9 TJ9 0
theorem nmJ9 : ∀ a, a < 0 → ∀ b, b < 0 → a ≠ b → (TJ9 a).2.1 ≠ (TJ9 b).2.1 := by decide +kernel
theorem tyJ9_ok : ∀ k, k < 0 → parseFieldDescriptor (TJ9 k).2.2.1 = some (tyJ9 k) := by decide +kernel
abbrev cJ9_max_7cf53 : ByteArray := prog_13_method_65_code
def yJ9_max_7cf53 : MethodName := ⟨RJ9, "max", "(II)I"⟩
abbrev cJ9_min_7cf53 : ByteArray := prog_13_method_69_code
def yJ9_min_7cf53 : MethodName := ⟨RJ9, "min", "(II)I"⟩
def RJ0 : String := "java/lang/String"
def TJ0 : u_T := fun k => match k with
  | _ => ("", "", "", false)
def tyJ0 : Nat → FieldType := fun k => match k with
  | _ => .int
abbrev wsJ00 : List Cond := u_ws RJ0 TJ0 0
theorem nmJ0 : ∀ a, a < 0 → ∀ b, b < 0 → a ≠ b → (TJ0 a).2.1 ≠ (TJ0 b).2.1 := by decide +kernel
theorem tyJ0_ok : ∀ k, k < 0 → parseFieldDescriptor (TJ0 k).2.2.1 = some (tyJ0 k) := by decide +kernel
abbrev cJ0_length_8abf5 : ByteArray := prog_14_method_54_code
def yJ0_length_8abf5 : MethodName := ⟨RJ0, "length", "()I"⟩
abbrev cJ0_charAt_5068e : ByteArray := prog_14_method_56_code
def yJ0_charAt_5068e : MethodName := ⟨RJ0, "charAt", "(I)C"⟩
abbrev cJ0_indexOf_0f7a4 : ByteArray := prog_14_method_79_code
def yJ0_indexOf_0f7a4 : MethodName := ⟨RJ0, "indexOf", "(I)I"⟩
abbrev cJ0_indexOf_7cf53 : ByteArray := prog_14_method_80_code
def yJ0_indexOf_7cf53 : MethodName := ⟨RJ0, "indexOf", "(II)I"⟩
abbrev cJ0_coder_7d493 : ByteArray := prog_14_method_152_code
def yJ0_coder_7d493 : MethodName := ⟨RJ0, "coder", "()B"⟩
abbrev cJ0_isLatin1_aae02 : ByteArray := prog_14_method_154_code
def yJ0_isLatin1_aae02 : MethodName := ⟨RJ0, "isLatin1", "()Z"⟩
abbrev cJ0_checkIndex_df160 : ByteArray := prog_14_method_155_code
def yJ0_checkIndex_df160 : MethodName := ⟨RJ0, "checkIndex", "(II)V"⟩
abbrev cJ0_checkBoundsBeginEnd_23922 : ByteArray := prog_14_method_158_code
def yJ0_checkBoundsBeginEnd_23922 : MethodName := ⟨RJ0, "checkBoundsBeginEnd", "(III)V"⟩
def RJ1 : String := "java/lang/StringLatin1"
def TJ1 : u_T := fun k => match k with
  | _ => ("", "", "", false)
def tyJ1 : Nat → FieldType := fun k => match k with
  | _ => .int
abbrev wsJ10 : List Cond := u_ws RJ1 TJ1 0
theorem nmJ1 : ∀ a, a < 0 → ∀ b, b < 0 → a ≠ b → (TJ1 a).2.1 ≠ (TJ1 b).2.1 := by decide +kernel
theorem tyJ1_ok : ∀ k, k < 0 → parseFieldDescriptor (TJ1 k).2.2.1 = some (tyJ1 k) := by decide +kernel
abbrev cJ1_charAt_3b067 : ByteArray := prog_15_method_2_code
def yJ1_charAt_3b067 : MethodName := ⟨RJ1, "charAt", "([BI)C"⟩
abbrev cJ1_canEncode_9a6ad : ByteArray := prog_15_method_4_code
def yJ1_canEncode_9a6ad : MethodName := ⟨RJ1, "canEncode", "(I)Z"⟩
abbrev cJ1_indexOf_4cfef : ByteArray := prog_15_method_22_code
def yJ1_indexOf_4cfef : MethodName := ⟨RJ1, "indexOf", "([BIII)I"⟩
abbrev cJ1_indexOfChar_4cfef : ByteArray := prog_15_method_23_code
def yJ1_indexOfChar_4cfef : MethodName := ⟨RJ1, "indexOfChar", "([BIII)I"⟩
def RJ2 : String := "java/lang/StringUTF16"
def TJ2 : u_T := fun k => match k with
  | _ => ("", "", "", false)
def tyJ2 : Nat → FieldType := fun k => match k with
  | _ => .int
abbrev wsJ20 : List Cond := u_ws RJ2 TJ2 0
theorem nmJ2 : ∀ a, a < 0 → ∀ b, b < 0 → a ≠ b → (TJ2 a).2.1 ≠ (TJ2 b).2.1 := by decide +kernel
theorem tyJ2_ok : ∀ k, k < 0 → parseFieldDescriptor (TJ2 k).2.2.1 = some (tyJ2 k) := by decide +kernel
abbrev cJ2_getChar_3b067 : ByteArray := prog_16_method_5_code
def yJ2_getChar_3b067 : MethodName := ⟨RJ2, "getChar", "([BI)C"⟩
abbrev cJ2_length_9d52b : ByteArray := prog_16_method_6_code
def yJ2_length_9d52b : MethodName := ⟨RJ2, "length", "([B)I"⟩
abbrev cJ2_indexOf_4cfef : ByteArray := prog_16_method_40_code
def yJ2_indexOf_4cfef : MethodName := ⟨RJ2, "indexOf", "([BIII)I"⟩
abbrev cJ2_indexOfChar_4cfef : ByteArray := prog_16_method_47_code
def yJ2_indexOfChar_4cfef : MethodName := ⟨RJ2, "indexOfChar", "([BIII)I"⟩
abbrev cJ2_indexOfCharUnsafe_4cfef : ByteArray := prog_16_method_48_code
def yJ2_indexOfCharUnsafe_4cfef : MethodName := ⟨RJ2, "indexOfCharUnsafe", "([BIII)I"⟩
abbrev cJ2_indexOfSupplementary_4cfef : ByteArray := prog_16_method_49_code
def yJ2_indexOfSupplementary_4cfef : MethodName := ⟨RJ2, "indexOfSupplementary", "([BIII)I"⟩
abbrev cJ2_charAt_3b067 : ByteArray := prog_16_method_83_code
def yJ2_charAt_3b067 : MethodName := ⟨RJ2, "charAt", "([BI)C"⟩
abbrev cJ2_checkIndex_2214a : ByteArray := prog_16_method_91_code
def yJ2_checkIndex_2214a : MethodName := ⟨RJ2, "checkIndex", "(I[B)V"⟩
abbrev cJ2_checkBoundsBeginEnd_d044e : ByteArray := prog_16_method_93_code
def yJ2_checkBoundsBeginEnd_d044e : MethodName := ⟨RJ2, "checkBoundsBeginEnd", "(II[B)V"⟩
def RJ3 : String := "jdk/internal/util/Preconditions"
def TJ3 : u_T := fun k => match k with
  | _ => ("", "", "", false)
def tyJ3 : Nat → FieldType := fun k => match k with
  | _ => .int
abbrev wsJ30 : List Cond := u_ws RJ3 TJ3 0
theorem nmJ3 : ∀ a, a < 0 → ∀ b, b < 0 → a ≠ b → (TJ3 a).2.1 ≠ (TJ3 b).2.1 := by decide +kernel
theorem tyJ3_ok : ∀ k, k < 0 → parseFieldDescriptor (TJ3 k).2.2.1 = some (tyJ3 k) := by decide +kernel
abbrev cJ3_checkIndex_8e157 : ByteArray := prog_17_method_11_code
def yJ3_checkIndex_8e157 : MethodName := ⟨RJ3, "checkIndex", "(IILjava/util/function/BiFunction;)I"⟩
abbrev cJ3_checkFromToIndex_8c36e : ByteArray := prog_17_method_12_code
def yJ3_checkFromToIndex_8c36e : MethodName := ⟨RJ3, "checkFromToIndex", "(IIILjava/util/function/BiFunction;)I"⟩
def RL : String := "FoldedPagesLaw"
abbrev cL_law : ByteArray := code
def yL_law : MethodName := ⟨RL, "law", "([I)Z"⟩
theorem inX0 : ∀ w ∈ wsX00, w ∈ lw_tbl := by decide +kernel
theorem inX1 : ∀ w ∈ wsX10, w ∈ lw_tbl := by decide +kernel
theorem inX2 : ∀ w ∈ wsX20, w ∈ lw_tbl := by decide +kernel
theorem inX3 : ∀ w ∈ wsX30, w ∈ lw_tbl := by decide +kernel
theorem inX4 : ∀ w ∈ wsX40, w ∈ lw_tbl := by decide +kernel
theorem inX5 : ∀ w ∈ wsX50, w ∈ lw_tbl := by decide +kernel
theorem inX6 : ∀ w ∈ wsX60, w ∈ lw_tbl := by decide +kernel
theorem inX7 : ∀ w ∈ wsX70, w ∈ lw_tbl := by decide +kernel
theorem inX8 : ∀ w ∈ wsX80, w ∈ lw_tbl := by decide +kernel
theorem inX9 : ∀ w ∈ wsX90, w ∈ lw_tbl := by decide +kernel
/-- the words that a call keeps -/
def wsG : List Cond := lw_tbl.filter goodWord
theorem wsG_of {w : Cond} (h : w ∈ tables_1) (g : goodWord w = true) : w ∈ wsG := List.mem_filter.mpr ⟨List.mem_append_right _ h, g⟩
theorem wsG_sel {w : Cond} (h : w ∈ k2_sels lw_privs) (g : goodWord w = true) : w ∈ wsG := List.mem_filter.mpr ⟨List.mem_append_left _ h, g⟩
theorem wsG_in : ∀ w ∈ wsG, w ∈ lw_tbl := fun _ h => (List.mem_filter.mp h).1
theorem wsG_good : GoodIn wsG wsG := fun w h => ⟨h, good_of_word (List.mem_filter.mp h).2⟩
theorem ingX0 : ∀ w ∈ wsX00, w ∈ wsG := fun w h => List.mem_filter.mpr ⟨inX0 w h, (List.all_eq_true.mp (show wsX00.all goodWord = true by decide +kernel)) w h⟩
theorem ingX1 : ∀ w ∈ wsX10, w ∈ wsG := fun w h => List.mem_filter.mpr ⟨inX1 w h, (List.all_eq_true.mp (show wsX10.all goodWord = true by decide +kernel)) w h⟩
theorem ingX2 : ∀ w ∈ wsX20, w ∈ wsG := fun w h => List.mem_filter.mpr ⟨inX2 w h, (List.all_eq_true.mp (show wsX20.all goodWord = true by decide +kernel)) w h⟩
theorem ingX3 : ∀ w ∈ wsX30, w ∈ wsG := fun w h => List.mem_filter.mpr ⟨inX3 w h, (List.all_eq_true.mp (show wsX30.all goodWord = true by decide +kernel)) w h⟩
theorem ingX4 : ∀ w ∈ wsX40, w ∈ wsG := fun w h => List.mem_filter.mpr ⟨inX4 w h, (List.all_eq_true.mp (show wsX40.all goodWord = true by decide +kernel)) w h⟩
theorem ingX5 : ∀ w ∈ wsX50, w ∈ wsG := fun w h => List.mem_filter.mpr ⟨inX5 w h, (List.all_eq_true.mp (show wsX50.all goodWord = true by decide +kernel)) w h⟩
theorem ingX6 : ∀ w ∈ wsX60, w ∈ wsG := fun w h => List.mem_filter.mpr ⟨inX6 w h, (List.all_eq_true.mp (show wsX60.all goodWord = true by decide +kernel)) w h⟩
theorem ingX7 : ∀ w ∈ wsX70, w ∈ wsG := fun w h => List.mem_filter.mpr ⟨inX7 w h, (List.all_eq_true.mp (show wsX70.all goodWord = true by decide +kernel)) w h⟩
theorem ingX8 : ∀ w ∈ wsX80, w ∈ wsG := fun w h => List.mem_filter.mpr ⟨inX8 w h, (List.all_eq_true.mp (show wsX80.all goodWord = true by decide +kernel)) w h⟩
theorem ingX9 : ∀ w ∈ wsX90, w ∈ wsG := fun w h => List.mem_filter.mpr ⟨inX9 w h, (List.all_eq_true.mp (show wsX90.all goodWord = true by decide +kernel)) w h⟩
abbrev vwCl : List vw_C := [(RX0, TX0, 6), (RX1, TX1, 2), (RX2, TX2, 2), (RX3, TX3, 8), (RX4, TX4, 3), (RX5, TX5, 6), (RX6, TX6, 2), (RX7, TX7, 6), (RX8, TX8, 8), (RX9, TX9, 24)]

/-! CONSTRUCTORS -/
abbrev textW (y : Nat → ClassId) (a : Nat → Nat) : va_W := [((a 0), .inr (6, [.ref (a 1), .int 0])), ((a 1), .inl (y 0, 200, .inl (fun _ => 0)))]
abbrev toldW (y : Nat → ClassId) (a : Nat → Nat) : va_W := [((a 0), .inr (7, [.int 0, .ref (a 1), .ref (a 2), .ref (a 3), .ref (a 4), .ref (a 5)])), ((a 1), .inl (y 1, 3, .inl (fun _ => 0))), ((a 2), .inl (y 1, 4, .inl (fun _ => 0))), ((a 3), .inl (y 1, 4, .inl (fun _ => 0))), ((a 4), .inl (y 1, 4, .inl (fun _ => 0))), ((a 5), .inl (y 1, 100, .inl (fun _ => 0)))]
abbrev leafW (a : Nat → Nat) : va_W := [((a 0), .inr (3, [.int 0, .int 0, .int 0, .int 0, .int 0, .int 0, .int 0, .int 0]))]
abbrev sheetW (y : Nat → ClassId) (a : Nat → Nat) : va_W := [((a 0), .inr (5, [.int 1, .int 1, .int 0, .ref (a 1), .ref (a 2), .ref (a 3)])), ((a 1), .inl (y 1, 16, .inl (fun _ => 0))), ((a 2), .inl (y 1, 16, .inl (fun _ => 0))), ((a 3), .inr (3, [.int 0, .int 0, .int 0, .int 0, .int 0, .int 0, .int 0, .int 0]))]
abbrev planW (y : Nat → ClassId) (a : Nat → Nat) : va_W := [((a 0), .inr (4, [.ref (a 1), .ref (a 7), .int 0])), ((a 1), .inl (y 5, 5, .inr (.inr (.inr (.inr (fun k => some (a (2 + k)))))))), ((a 2), .inl (y 1, 108, .inl (fun _ => 0))), ((a 3), .inl (y 1, 108, .inl (fun _ => 0))), ((a 4), .inl (y 1, 108, .inl (fun _ => 0))), ((a 5), .inl (y 1, 108, .inl (fun _ => 0))), ((a 6), .inl (y 1, 108, .inl (fun _ => 0))), ((a 7), .inl (y 1, 4, .inl (fun _ => 0)))]
abbrev bookW (y : Nat → ClassId) (a : Nat → Nat) : va_W := [((a 0), .inr (0, [.int 0, .int 0, .ref (a 1), .ref (a 2), .ref (a 3), .ref (a 4)])), ((a 1), .inl (y 1, 100, .inl (fun _ => 0))), ((a 2), .inl (y 1, 100, .inl (fun _ => 0))), ((a 3), .inl (y 1, 433, .inl (fun _ => 0))), ((a 4), .inl (y 1, 433, .inl (fun _ => 0)))]
abbrev kindsW (y : Nat → ClassId) (a : Nat → Nat) : va_W := [((a 0), .inr (2, [.ref (a 1), .ref (a 5)])), ((a 1), .inr (5, [.int 1, .int 1, .int 0, .ref (a 2), .ref (a 3), .ref (a 4)])), ((a 2), .inl (y 1, 16, .inl (fun _ => 0))), ((a 3), .inl (y 1, 16, .inl (fun _ => 0))), ((a 4), .inr (3, [.int 0, .int 0, .int 0, .int 0, .int 0, .int 0, .int 0, .int 0])), ((a 5), .inl (y 1, 2048, .inl (fun _ => 0)))]
abbrev histW (y : Nat → ClassId) (a : Nat → Nat) : va_W := [((a 0), .inr (1, [.ref (a 1), .int 0])), ((a 1), .inl (y 3, 6, .inr (.inr (.inr (.inr (fun k => some (a (2 + 6 * k)))))))), ((a 2), .inr (7, [.int 0, .ref (a 3), .ref (a 4), .ref (a 5), .ref (a 6), .ref (a 7)])), ((a 3), .inl (y 1, 3, .inl (fun _ => 0))), ((a 4), .inl (y 1, 4, .inl (fun _ => 0))), ((a 5), .inl (y 1, 4, .inl (fun _ => 0))), ((a 6), .inl (y 1, 4, .inl (fun _ => 0))), ((a 7), .inl (y 1, 100, .inl (fun _ => 0))), ((a 8), .inr (7, [.int 0, .ref (a 9), .ref (a 10), .ref (a 11), .ref (a 12), .ref (a 13)])), ((a 9), .inl (y 1, 3, .inl (fun _ => 0))), ((a 10), .inl (y 1, 4, .inl (fun _ => 0))), ((a 11), .inl (y 1, 4, .inl (fun _ => 0))), ((a 12), .inl (y 1, 4, .inl (fun _ => 0))), ((a 13), .inl (y 1, 100, .inl (fun _ => 0))), ((a 14), .inr (7, [.int 0, .ref (a 15), .ref (a 16), .ref (a 17), .ref (a 18), .ref (a 19)])), ((a 15), .inl (y 1, 3, .inl (fun _ => 0))), ((a 16), .inl (y 1, 4, .inl (fun _ => 0))), ((a 17), .inl (y 1, 4, .inl (fun _ => 0))), ((a 18), .inl (y 1, 4, .inl (fun _ => 0))), ((a 19), .inl (y 1, 100, .inl (fun _ => 0))), ((a 20), .inr (7, [.int 0, .ref (a 21), .ref (a 22), .ref (a 23), .ref (a 24), .ref (a 25)])), ((a 21), .inl (y 1, 3, .inl (fun _ => 0))), ((a 22), .inl (y 1, 4, .inl (fun _ => 0))), ((a 23), .inl (y 1, 4, .inl (fun _ => 0))), ((a 24), .inl (y 1, 4, .inl (fun _ => 0))), ((a 25), .inl (y 1, 100, .inl (fun _ => 0))), ((a 26), .inr (7, [.int 0, .ref (a 27), .ref (a 28), .ref (a 29), .ref (a 30), .ref (a 31)])), ((a 27), .inl (y 1, 3, .inl (fun _ => 0))), ((a 28), .inl (y 1, 4, .inl (fun _ => 0))), ((a 29), .inl (y 1, 4, .inl (fun _ => 0))), ((a 30), .inl (y 1, 4, .inl (fun _ => 0))), ((a 31), .inl (y 1, 100, .inl (fun _ => 0))), ((a 32), .inr (7, [.int 0, .ref (a 33), .ref (a 34), .ref (a 35), .ref (a 36), .ref (a 37)])), ((a 33), .inl (y 1, 3, .inl (fun _ => 0))), ((a 34), .inl (y 1, 4, .inl (fun _ => 0))), ((a 35), .inl (y 1, 4, .inl (fun _ => 0))), ((a 36), .inl (y 1, 4, .inl (fun _ => 0))), ((a 37), .inl (y 1, 100, .inl (fun _ => 0)))]
theorem dfX0 : ∀ j, j < 6 → defaultValue (tyX0 j) = vp_V [.int 0, .int 0, .null, .null, .null, .null] j := by decide +kernel
theorem dfX1 : ∀ j, j < 2 → defaultValue (tyX1 j) = vp_V [.null, .int 0] j := by decide +kernel
theorem dfX2 : ∀ j, j < 2 → defaultValue (tyX2 j) = vp_V [.null, .null] j := by decide +kernel
theorem dfX3 : ∀ j, j < 8 → defaultValue (tyX3 j) = vp_V [.int 0, .int 0, .int 0, .int 0, .int 0, .int 0, .int 0, .int 0] j := by decide +kernel
theorem dfX4 : ∀ j, j < 3 → defaultValue (tyX4 j) = vp_V [.null, .null, .int 0] j := by decide +kernel
theorem dfX5 : ∀ j, j < 6 → defaultValue (tyX5 j) = vp_V [.int 0, .int 0, .int 0, .null, .null, .null] j := by decide +kernel
theorem dfX6 : ∀ j, j < 2 → defaultValue (tyX6 j) = vp_V [.null, .int 0] j := by decide +kernel
theorem dfX7 : ∀ j, j < 6 → defaultValue (tyX7 j) = vp_V [.int 0, .null, .null, .null, .null, .null] j := by decide +kernel
theorem dfX8 : ∀ j, j < 8 → defaultValue (tyX8 j) = vp_V [.null, .null, .null, .null, .null, .null, .null, .null] j := by decide +kernel
theorem dfX9 : ∀ j, j < 24 → defaultValue (tyX9 j) = vp_V [.int 0, .null, .null, .null, .int 0, .null, .int 0, .null, .int 0, .null, .null, .int 0, .int 0, .null, .null, .null, .int 0, .null, .null, .null, .int 0, .int 0, .int 0, .null] j := by decide +kernel
/-- what the reference tells at first -/
abbrev nowF : Nat → Int32 := (upd (upd (upd (upd (upd (upd (upd (upd (upd (upd (upd (upd (upd (upd (upd (upd (fun _ => 0) (Int32.toNatClampNeg (0 : Int32)) (30 : Int32)) (Int32.toNatClampNeg (1 : Int32)) (2 : Int32)) (Int32.toNatClampNeg (3 : Int32)) (3 : Int32)) (Int32.toNatClampNeg (4 : Int32)) (10 : Int32)) (Int32.toNatClampNeg (5 : Int32)) (14 : Int32)) (Int32.toNatClampNeg (6 : Int32)) (10 : Int32)) (Int32.toNatClampNeg (7 : Int32)) (10 : Int32)) (Int32.toNatClampNeg (8 : Int32)) (1 : Int32)) (Int32.toNatClampNeg (9 : Int32)) (108 : Int32)) (Int32.toNatClampNeg (13 : Int32)) (3 : Int32)) (Int32.toNatClampNeg (14 : Int32)) (114 : Int32)) (Int32.toNatClampNeg (15 : Int32)) (98 : Int32)) (Int32.toNatClampNeg (16 : Int32)) (108 : Int32)) (Int32.toNatClampNeg (18 : Int32)) (2 : Int32)) (Int32.toNatClampNeg (19 : Int32)) (116 : Int32)) (Int32.toNatClampNeg (20 : Int32)) (114 : Int32))
abbrev modelW (y : Nat → ClassId) (a : Nat → Nat) : va_W := [((a 0), .inr (9, [.int 0, .ref (a 1), .ref (a 2), .ref (a 3), .int 0, .ref (a 4), .int 0, .ref (a 5), .int 0, .ref (a 6), .ref (a 7), .int 0, .int 0, .ref (a 8), .ref (a 9), .ref (a 10), .int 0, .ref (a 11), .ref (a 12), .ref (a 13), .int 0, .int 0, .int 0, .ref (a 14)])), ((a 1), .inl (y 1, 200, .inl (fun _ => 0))), ((a 2), .inl (y 1, 132, .inl (upd (upd (upd (upd (upd (upd (upd (upd (upd (upd (upd (upd (upd (upd (upd (upd (fun _ => 0) (Int32.toNatClampNeg (0 : Int32)) (30 : Int32)) (Int32.toNatClampNeg (1 : Int32)) (2 : Int32)) (Int32.toNatClampNeg (3 : Int32)) (3 : Int32)) (Int32.toNatClampNeg (4 : Int32)) (10 : Int32)) (Int32.toNatClampNeg (5 : Int32)) (14 : Int32)) (Int32.toNatClampNeg (6 : Int32)) (10 : Int32)) (Int32.toNatClampNeg (7 : Int32)) (10 : Int32)) (Int32.toNatClampNeg (8 : Int32)) (1 : Int32)) (Int32.toNatClampNeg (9 : Int32)) (108 : Int32)) (Int32.toNatClampNeg (13 : Int32)) (3 : Int32)) (Int32.toNatClampNeg (14 : Int32)) (114 : Int32)) (Int32.toNatClampNeg (15 : Int32)) (98 : Int32)) (Int32.toNatClampNeg (16 : Int32)) (108 : Int32)) (Int32.toNatClampNeg (18 : Int32)) (2 : Int32)) (Int32.toNatClampNeg (19 : Int32)) (116 : Int32)) (Int32.toNatClampNeg (20 : Int32)) (114 : Int32)))), ((a 3), .inl (y 1, 792, .inl (fun _ => 0))), ((a 4), .inl (y 1, 132, .inl (fun _ => 0))), ((a 5), .inl (y 1, 4, .inl (fun _ => 0))), ((a 6), .inl (y 1, 16, .inl (fun _ => 0))), ((a 7), .inl (y 1, 16, .inl (fun _ => 0))), ((a 8), .inl (y 1, 32, .inl (fun _ => 0))), ((a 9), .inl (y 1, 32, .inl (fun _ => 0))), ((a 10), .inl (y 1, 32, .inl (fun _ => 0))), ((a 11), .inl (y 1, 33, .inl (fun _ => 0))), ((a 12), .inl (y 1, 2200, .inl (fun _ => 0))), ((a 13), .inl (y 1, 4, .inl (fun _ => 0))), ((a 14), .inl (y 2, 440, .inl (fun _ => 0)))]
def i0 : Mem := fun i => if i = 54 ∨ i = 58 ∨ i = 62 ∨ i = 66 ∨ i = 71 then (fun j => if j < 2 then 1 else 0) else if i = 16 then (fun j => nI (17 + 6 * j)) else (fun _ => 0)
def fpW (y : Nat → ClassId) (ad : Nat → Nat) : va_W := (List.range 89).map (fun i => (ad i, cellOf ad y i (i0 i)))
theorem wk_0 : Cond.methodLink RX6 3 Lib.objectInit ∈ wsG := tb1 30 (by decide +kernel) (by decide +kernel)
theorem wk_1 : Cond.arrayClass .char ∈ wsG := tb1 39 (by decide +kernel) (by decide +kernel)
theorem wk_2 : Cond.fieldLink RX6 9 "FoldedPages$Text" "letters" "[C" ∈ wsG := tb1 31 (by decide +kernel) (by decide +kernel)
theorem wk_3 : Cond.methodLink RX7 3 Lib.objectInit ∈ wsG := tb1 45 (by decide +kernel) (by decide +kernel)
theorem wk_4 : Cond.arrayClass .int ∈ wsG := tb1 79 (by decide +kernel) (by decide +kernel)
theorem wk_5 : Cond.fieldLink RX7 9 "FoldedPages$Told" "numbers" "[I" ∈ wsG := tb1 51 (by decide +kernel) (by decide +kernel)
theorem wk_6 : Cond.fieldLink RX7 15 "FoldedPages$Told" "foldCounts" "[I" ∈ wsG := tb1 56 (by decide +kernel) (by decide +kernel)
theorem wk_7 : Cond.fieldLink RX7 18 "FoldedPages$Told" "foldCodes" "[I" ∈ wsG := tb1 58 (by decide +kernel) (by decide +kernel)
theorem wk_8 : Cond.fieldLink RX7 21 "FoldedPages$Told" "prices" "[I" ∈ wsG := tb1 60 (by decide +kernel) (by decide +kernel)
theorem wk_9 : Cond.fieldLink RX7 24 "FoldedPages$Told" "spoiled" "[I" ∈ wsG := tb1 64 (by decide +kernel) (by decide +kernel)
theorem wk_10 : Cond.methodLink RX3 3 Lib.objectInit ∈ wsG := tb1 109 (by decide +kernel) (by decide +kernel)
theorem wk_11 : Cond.methodLink RX5 3 Lib.objectInit ∈ wsG := tb1 103 (by decide +kernel) (by decide +kernel)
theorem wk_12 : Cond.fieldLink RX5 9 "FoldedPages$Sheet" "columns" "I" ∈ wsG := tb1 136 (by decide +kernel) (by decide +kernel)
theorem wk_13 : Cond.fieldLink RX5 15 "FoldedPages$Sheet" "rows" "I" ∈ wsG := tb1 138 (by decide +kernel) (by decide +kernel)
theorem wk_14 : Cond.fieldLink RX5 18 "FoldedPages$Sheet" "front" "[I" ∈ wsG := tb1 141 (by decide +kernel) (by decide +kernel)
theorem wk_15 : Cond.fieldLink RX5 22 "FoldedPages$Sheet" "overturned" "[I" ∈ wsG := tb1 142 (by decide +kernel) (by decide +kernel)
theorem wk_16 : Cond.classLink RX5 25 RX3 ∈ wsG := tb1 104 (by decide +kernel) (by decide +kernel)
theorem wk_17 : Cond.instantiable RX3 8 ∈ wsG := tb1 105 (by decide +kernel) (by decide +kernel)
theorem wk_18 : Cond.initialized RX3 ∈ wsG := tb1 6 (by decide +kernel) (by decide +kernel)
theorem wk_19 : Cond.code yX3_init cX3_init 1 none ∈ wsG := tb1 108 (by decide +kernel) (by decide +kernel)
theorem wk_20 : Cond.instanceMethod yX3_init ∈ wsG := tb1 107 (by decide +kernel) (by decide +kernel)
theorem wk_21 : Cond.fieldLink RX5 28 "FoldedPages$Sheet" "leaf" "LFoldedPages$Leaf;" ∈ wsG := tb1 143 (by decide +kernel) (by decide +kernel)
theorem wk_22 : Cond.methodLink RX2 3 Lib.objectInit ∈ wsG := tb1 162 (by decide +kernel) (by decide +kernel)
theorem wk_23 : Cond.classLink RX2 9 RX5 ∈ wsG := tb1 163 (by decide +kernel) (by decide +kernel)
theorem wk_24 : Cond.instantiable RX5 6 ∈ wsG := tb1 99 (by decide +kernel) (by decide +kernel)
theorem wk_25 : Cond.initialized RX5 ∈ wsG := tb1 5 (by decide +kernel) (by decide +kernel)
theorem wk_26 : Cond.code yX5_init cX5_init 1 none ∈ wsG := tb1 102 (by decide +kernel) (by decide +kernel)
theorem wk_27 : Cond.instanceMethod yX5_init ∈ wsG := tb1 101 (by decide +kernel) (by decide +kernel)
theorem wk_28 : Cond.fieldLink RX2 12 "FoldedPages$Kinds" "tried" "LFoldedPages$Sheet;" ∈ wsG := tb1 165 (by decide +kernel) (by decide +kernel)
theorem wk_29 : Cond.fieldLink RX2 18 "FoldedPages$Kinds" "marks" "[I" ∈ wsG := tb1 166 (by decide +kernel) (by decide +kernel)
theorem wk_30 : Cond.methodLink RX4 3 Lib.objectInit ∈ wsG := tb1 177 (by decide +kernel) (by decide +kernel)
theorem wk_31 : Cond.classLink RX4 9 "[[I" ∈ wsG := tb1 178 (by decide +kernel) (by decide +kernel)
theorem wk_32 : Cond.fieldLink RX4 11 "FoldedPages$Plan" "least" "[[I" ∈ wsG := tb1 180 (by decide +kernel) (by decide +kernel)
theorem wk_33 : Cond.fieldLink RX4 16 "FoldedPages$Plan" "sheetsOf" "[I" ∈ wsG := tb1 181 (by decide +kernel) (by decide +kernel)
theorem wk_34 : Cond.methodLink RX0 3 Lib.objectInit ∈ wsG := tb1 198 (by decide +kernel) (by decide +kernel)
theorem wk_35 : Cond.fieldLink RX0 9 "FoldedPages$Book" "schemeOf" "[I" ∈ wsG := tb1 203 (by decide +kernel) (by decide +kernel)
theorem wk_36 : Cond.fieldLink RX0 15 "FoldedPages$Book" "pagesAhead" "[I" ∈ wsG := tb1 205 (by decide +kernel) (by decide +kernel)
theorem wk_37 : Cond.fieldLink RX0 18 "FoldedPages$Book" "sheetAt" "[I" ∈ wsG := tb1 206 (by decide +kernel) (by decide +kernel)
theorem wk_38 : Cond.fieldLink RX0 21 "FoldedPages$Book" "pageAt" "[I" ∈ wsG := tb1 208 (by decide +kernel) (by decide +kernel)
theorem wk_39 : Cond.methodLink RX1 3 Lib.objectInit ∈ wsG := tb1 85 (by decide +kernel) (by decide +kernel)
theorem wk_40 : Cond.classLink RX1 9 RX7 ∈ wsG := tb1 86 (by decide +kernel) (by decide +kernel)
theorem wk_41 : Cond.fieldLink RX1 11 "FoldedPages$History" "kept" "[LFoldedPages$Told;" ∈ wsG := tb1 89 (by decide +kernel) (by decide +kernel)
theorem wk_42 : Cond.instantiable RX7 6 ∈ wsG := tb1 41 (by decide +kernel) (by decide +kernel)
theorem wk_43 : Cond.initialized RX7 ∈ wsG := tb1 3 (by decide +kernel) (by decide +kernel)
theorem wk_44 : Cond.code yX7_init cX7_init 1 none ∈ wsG := tb1 44 (by decide +kernel) (by decide +kernel)
theorem wk_45 : Cond.instanceMethod yX7_init ∈ wsG := tb1 43 (by decide +kernel) (by decide +kernel)
theorem wk_46 : Cond.methodLink RX9 1 Lib.objectInit ∈ wsG := tb4 79 (by decide +kernel) (by decide +kernel)
theorem wk_47 : Cond.fieldLink RX9 7 "FoldedPagesModel" "text" "[I" ∈ wsG := tb4 81 (by decide +kernel) (by decide +kernel)
theorem wk_48 : Cond.fieldLink RX9 13 "FoldedPagesModel" "now" "[I" ∈ wsG := tb4 82 (by decide +kernel) (by decide +kernel)
theorem wk_49 : Cond.fieldLink RX9 16 "FoldedPagesModel" "before" "[I" ∈ wsG := tb4 83 (by decide +kernel) (by decide +kernel)
theorem wk_50 : Cond.fieldLink RX9 19 "FoldedPagesModel" "read" "[I" ∈ wsG := tb4 85 (by decide +kernel) (by decide +kernel)
theorem wk_51 : Cond.fieldLink RX9 22 "FoldedPagesModel" "folds" "[I" ∈ wsG := tb4 87 (by decide +kernel) (by decide +kernel)
theorem wk_52 : Cond.fieldLink RX9 25 "FoldedPagesModel" "piles" "[I" ∈ wsG := tb4 89 (by decide +kernel) (by decide +kernel)
theorem wk_53 : Cond.fieldLink RX9 28 "FoldedPagesModel" "after" "[I" ∈ wsG := tb4 90 (by decide +kernel) (by decide +kernel)
theorem wk_54 : Cond.fieldLink RX9 31 "FoldedPagesModel" "cellOf" "[I" ∈ wsG := tb4 93 (by decide +kernel) (by decide +kernel)
theorem wk_55 : Cond.fieldLink RX9 34 "FoldedPagesModel" "sideOf" "[I" ∈ wsG := tb4 94 (by decide +kernel) (by decide +kernel)
theorem wk_56 : Cond.fieldLink RX9 37 "FoldedPagesModel" "turnedOf" "[I" ∈ wsG := tb4 95 (by decide +kernel) (by decide +kernel)
theorem wk_57 : Cond.fieldLink RX9 40 "FoldedPagesModel" "known" "[I" ∈ wsG := tb4 97 (by decide +kernel) (by decide +kernel)
theorem wk_58 : Cond.fieldLink RX9 43 "FoldedPagesModel" "least" "[I" ∈ wsG := tb4 98 (by decide +kernel) (by decide +kernel)
theorem wk_59 : Cond.fieldLink RX9 46 "FoldedPagesModel" "plan" "[I" ∈ wsG := tb4 99 (by decide +kernel) (by decide +kernel)
theorem wk_60 : Cond.arrayClass .boolean ∈ wsG := tb4 153 (by decide +kernel) (by decide +kernel)
theorem wk_61 : Cond.fieldLink RX9 49 "FoldedPagesModel" "isMissing" "[Z" ∈ wsG := tb4 103 (by decide +kernel) (by decide +kernel)
theorem wk_62 : Cond.methodLink RX8 3 Lib.objectInit ∈ wsG := tb1 22 (by decide +kernel) (by decide +kernel)
theorem wk_63 : Cond.classLink RX8 9 RX6 ∈ wsG := tb1 25 (by decide +kernel) (by decide +kernel)
theorem wk_64 : Cond.instantiable RX6 2 ∈ wsG := tb1 26 (by decide +kernel) (by decide +kernel)
theorem wk_65 : Cond.initialized RX6 ∈ wsG := tb1 2 (by decide +kernel) (by decide +kernel)
theorem wk_66 : Cond.code yX6_init cX6_init 1 none ∈ wsG := tb1 29 (by decide +kernel) (by decide +kernel)
theorem wk_67 : Cond.instanceMethod yX6_init ∈ wsG := tb1 28 (by decide +kernel) (by decide +kernel)
theorem wk_68 : Cond.fieldLink RX8 12 "FoldedPages" "text" "LFoldedPages$Text;" ∈ wsG := tb3 27 (by decide +kernel) (by decide +kernel)
theorem wk_69 : Cond.classLink RX8 16 RX7 ∈ wsG := tb1 40 (by decide +kernel) (by decide +kernel)
theorem wk_70 : Cond.fieldLink RX8 19 "FoldedPages" "now" "LFoldedPages$Told;" ∈ wsG := tb3 28 (by decide +kernel) (by decide +kernel)
theorem wk_71 : Cond.fieldLink RX8 23 "FoldedPages" "read" "LFoldedPages$Told;" ∈ wsG := tb3 29 (by decide +kernel) (by decide +kernel)
theorem wk_72 : Cond.classLink RX8 26 RX1 ∈ wsG := tb1 80 (by decide +kernel) (by decide +kernel)
theorem wk_73 : Cond.instantiable RX1 2 ∈ wsG := tb1 81 (by decide +kernel) (by decide +kernel)
theorem wk_74 : Cond.initialized RX1 ∈ wsG := tb1 4 (by decide +kernel) (by decide +kernel)
theorem wk_75 : Cond.code yX1_init cX1_init 2 none ∈ wsG := tb1 84 (by decide +kernel) (by decide +kernel)
theorem wk_76 : Cond.instanceMethod yX1_init ∈ wsG := tb1 83 (by decide +kernel) (by decide +kernel)
theorem wk_77 : Cond.methodLink RX8 28 yX1_init ∈ wsG := tb1 82 (by decide +kernel) (by decide +kernel)
theorem wk_78 : Cond.fieldLink RX8 29 "FoldedPages" "history" "LFoldedPages$History;" ∈ wsG := tb3 30 (by decide +kernel) (by decide +kernel)
theorem wk_79 : Cond.classLink RX8 33 RX5 ∈ wsG := tb1 97 (by decide +kernel) (by decide +kernel)
theorem wk_80 : Cond.fieldLink RX8 35 "FoldedPages" "sheets" "[LFoldedPages$Sheet;" ∈ wsG := tb3 31 (by decide +kernel) (by decide +kernel)
theorem wk_81 : Cond.classLink RX8 40 RX2 ∈ wsG := tb1 157 (by decide +kernel) (by decide +kernel)
theorem wk_82 : Cond.instantiable RX2 2 ∈ wsG := tb1 158 (by decide +kernel) (by decide +kernel)
theorem wk_83 : Cond.initialized RX2 ∈ wsG := tb1 7 (by decide +kernel) (by decide +kernel)
theorem wk_84 : Cond.code yX2_init cX2_init 1 none ∈ wsG := tb1 161 (by decide +kernel) (by decide +kernel)
theorem wk_85 : Cond.instanceMethod yX2_init ∈ wsG := tb1 160 (by decide +kernel) (by decide +kernel)
theorem wk_86 : Cond.fieldLink RX8 43 "FoldedPages" "kinds" "LFoldedPages$Kinds;" ∈ wsG := tb3 32 (by decide +kernel) (by decide +kernel)
theorem wk_87 : Cond.classLink RX8 47 RX4 ∈ wsG := tb1 172 (by decide +kernel) (by decide +kernel)
theorem wk_88 : Cond.instantiable RX4 3 ∈ wsG := tb1 173 (by decide +kernel) (by decide +kernel)
theorem wk_89 : Cond.initialized RX4 ∈ wsG := tb1 8 (by decide +kernel) (by decide +kernel)
theorem wk_90 : Cond.code yX4_init cX4_init 1 none ∈ wsG := tb1 176 (by decide +kernel) (by decide +kernel)
theorem wk_91 : Cond.instanceMethod yX4_init ∈ wsG := tb1 175 (by decide +kernel) (by decide +kernel)
theorem wk_92 : Cond.fieldLink RX8 50 "FoldedPages" "best" "LFoldedPages$Plan;" ∈ wsG := tb3 33 (by decide +kernel) (by decide +kernel)
theorem wk_93 : Cond.classLink RX8 54 RX0 ∈ wsG := tb1 193 (by decide +kernel) (by decide +kernel)
theorem wk_94 : Cond.instantiable RX0 6 ∈ wsG := tb1 194 (by decide +kernel) (by decide +kernel)
theorem wk_95 : Cond.initialized RX0 ∈ wsG := tb1 9 (by decide +kernel) (by decide +kernel)
theorem wk_96 : Cond.code yX0_init cX0_init 1 none ∈ wsG := tb1 197 (by decide +kernel) (by decide +kernel)
theorem wk_97 : Cond.instanceMethod yX0_init ∈ wsG := tb1 196 (by decide +kernel) (by decide +kernel)
theorem wk_98 : Cond.fieldLink RX8 57 "FoldedPages" "pages" "LFoldedPages$Book;" ∈ wsG := tb3 34 (by decide +kernel) (by decide +kernel)
set_option maxRecDepth 100000 in
set_option maxHeartbeats 4000000 in
theorem k_textW (l : Launch) (D : va_G) (y : Nat → ClassId) : KC l D y yX6_init cX6_init 1 1 12 1 200 6 [.null, .int 0] (fun a => textW y a) := by
  refine KC.of (by decide) rfl (by decide) ?_
  intro h0 A p e s m args below meth c B
  refine K_aload (pc := 0) (x := h0) B 0 rfl dX6_init_0 ?_
  refine K_obj (pc := 1) B wk_0 ⟨Nat.le_of_ble_eq_true rfl, Nat.le_of_ble_eq_true rfl⟩ dX6_init_1 ?_
  refine K_aload (pc := 4) (x := h0) B 0 rfl dX6_init_4 ?_
  refine K_sipush (pc := 5) (v := (200 : Int32)) B (by decide) dX6_init_5 ?_
  refine K_newa (pc := 8) (atype := .char) (ty := .char) (N := 200) B 0 rfl (fun _ _ h => h) rfl rfl wk_1 (by decide) (by decide) (Nat.le_of_ble_eq_true rfl) ⟨Nat.le_of_ble_eq_true rfl, Nat.le_of_ble_eq_true rfl⟩ dX6_init_8 (fun q0 => ?_)
  refine K_put (pc := 10) (k := 0) (ws' := [(h0, .inr (6, [.ref q0, .int 0])), (q0, .inl (y 0, 200, .inl (fun _ => 0)))]) B 0 rfl rfl ingX6 tyX6 tyX6_ok nmX6 (by decide) wk_2 rfl (ty := tyX6 0) (by decide +kernel) rfl rfl (Nat.le_of_ble_eq_true rfl) rfl dX6_init_10 ?_
  exact K_ret (pc := 13) B (fun i => [h0, q0].getD i 0) rfl rfl dX6_init_13
set_option maxRecDepth 100000 in
set_option maxHeartbeats 4000000 in
theorem k_toldW (l : Launch) (D : va_G) (y : Nat → ClassId) : KC l D y yX7_init cX7_init 1 1 12 5 115 7 [.int 0, .null, .null, .null, .null, .null] (fun a => toldW y a) := by
  refine KC.of (by decide) rfl (by decide) ?_
  intro h0 A p e s m args below meth c B
  refine K_aload (pc := 0) (x := h0) B 0 rfl dX7_init_0 ?_
  refine K_obj (pc := 1) B wk_3 ⟨Nat.le_of_ble_eq_true rfl, Nat.le_of_ble_eq_true rfl⟩ dX7_init_1 ?_
  refine K_aload (pc := 4) (x := h0) B 0 rfl dX7_init_4 ?_
  refine K_iconst (pc := 5) (v := (3 : Int32)) B (by decide) dX7_init_5 ?_
  refine K_newa (pc := 6) (atype := .int) (ty := .int) (N := 3) B 1 rfl (fun _ _ h => h) rfl rfl wk_4 (by decide) (by decide) (Nat.le_of_ble_eq_true rfl) ⟨Nat.le_of_ble_eq_true rfl, Nat.le_of_ble_eq_true rfl⟩ dX7_init_6 (fun q0 => ?_)
  refine K_put (pc := 8) (k := 1) (ws' := [(h0, .inr (7, [.int 0, .ref q0, .null, .null, .null, .null])), (q0, .inl (y 1, 3, .inl (fun _ => 0)))]) B 0 rfl rfl ingX7 tyX7 tyX7_ok nmX7 (by decide) wk_5 rfl (ty := tyX7 1) (by decide +kernel) rfl rfl (Nat.le_of_ble_eq_true rfl) rfl dX7_init_8 ?_
  refine K_aload (pc := 11) (x := h0) B 0 rfl dX7_init_11 ?_
  refine K_iconst (pc := 12) (v := (4 : Int32)) B (by decide) dX7_init_12 ?_
  refine K_newa (pc := 13) (atype := .int) (ty := .int) (N := 4) B 1 rfl (fun _ _ h => h) rfl rfl wk_4 (by decide) (by decide) (Nat.le_of_ble_eq_true rfl) ⟨Nat.le_of_ble_eq_true rfl, Nat.le_of_ble_eq_true rfl⟩ dX7_init_13 (fun q1 => ?_)
  refine K_put (pc := 15) (k := 2) (ws' := [(h0, .inr (7, [.int 0, .ref q0, .ref q1, .null, .null, .null])), (q0, .inl (y 1, 3, .inl (fun _ => 0))), (q1, .inl (y 1, 4, .inl (fun _ => 0)))]) B 0 rfl rfl ingX7 tyX7 tyX7_ok nmX7 (by decide) wk_6 rfl (ty := tyX7 2) (by decide +kernel) rfl rfl (Nat.le_of_ble_eq_true rfl) rfl dX7_init_15 ?_
  refine K_aload (pc := 18) (x := h0) B 0 rfl dX7_init_18 ?_
  refine K_iconst (pc := 19) (v := (4 : Int32)) B (by decide) dX7_init_19 ?_
  refine K_newa (pc := 20) (atype := .int) (ty := .int) (N := 4) B 1 rfl (fun _ _ h => h) rfl rfl wk_4 (by decide) (by decide) (Nat.le_of_ble_eq_true rfl) ⟨Nat.le_of_ble_eq_true rfl, Nat.le_of_ble_eq_true rfl⟩ dX7_init_20 (fun q2 => ?_)
  refine K_put (pc := 22) (k := 3) (ws' := [(h0, .inr (7, [.int 0, .ref q0, .ref q1, .ref q2, .null, .null])), (q0, .inl (y 1, 3, .inl (fun _ => 0))), (q1, .inl (y 1, 4, .inl (fun _ => 0))), (q2, .inl (y 1, 4, .inl (fun _ => 0)))]) B 0 rfl rfl ingX7 tyX7 tyX7_ok nmX7 (by decide) wk_7 rfl (ty := tyX7 3) (by decide +kernel) rfl rfl (Nat.le_of_ble_eq_true rfl) rfl dX7_init_22 ?_
  refine K_aload (pc := 25) (x := h0) B 0 rfl dX7_init_25 ?_
  refine K_iconst (pc := 26) (v := (4 : Int32)) B (by decide) dX7_init_26 ?_
  refine K_newa (pc := 27) (atype := .int) (ty := .int) (N := 4) B 1 rfl (fun _ _ h => h) rfl rfl wk_4 (by decide) (by decide) (Nat.le_of_ble_eq_true rfl) ⟨Nat.le_of_ble_eq_true rfl, Nat.le_of_ble_eq_true rfl⟩ dX7_init_27 (fun q3 => ?_)
  refine K_put (pc := 29) (k := 4) (ws' := [(h0, .inr (7, [.int 0, .ref q0, .ref q1, .ref q2, .ref q3, .null])), (q0, .inl (y 1, 3, .inl (fun _ => 0))), (q1, .inl (y 1, 4, .inl (fun _ => 0))), (q2, .inl (y 1, 4, .inl (fun _ => 0))), (q3, .inl (y 1, 4, .inl (fun _ => 0)))]) B 0 rfl rfl ingX7 tyX7 tyX7_ok nmX7 (by decide) wk_8 rfl (ty := tyX7 4) (by decide +kernel) rfl rfl (Nat.le_of_ble_eq_true rfl) rfl dX7_init_29 ?_
  refine K_aload (pc := 32) (x := h0) B 0 rfl dX7_init_32 ?_
  refine K_bipush (pc := 33) (v := (100 : Int32)) B (by decide) dX7_init_33 ?_
  refine K_newa (pc := 35) (atype := .int) (ty := .int) (N := 100) B 1 rfl (fun _ _ h => h) rfl rfl wk_4 (by decide) (by decide) (Nat.le_of_ble_eq_true rfl) ⟨Nat.le_of_ble_eq_true rfl, Nat.le_of_ble_eq_true rfl⟩ dX7_init_35 (fun q4 => ?_)
  refine K_put (pc := 37) (k := 5) (ws' := [(h0, .inr (7, [.int 0, .ref q0, .ref q1, .ref q2, .ref q3, .ref q4])), (q0, .inl (y 1, 3, .inl (fun _ => 0))), (q1, .inl (y 1, 4, .inl (fun _ => 0))), (q2, .inl (y 1, 4, .inl (fun _ => 0))), (q3, .inl (y 1, 4, .inl (fun _ => 0))), (q4, .inl (y 1, 100, .inl (fun _ => 0)))]) B 0 rfl rfl ingX7 tyX7 tyX7_ok nmX7 (by decide) wk_9 rfl (ty := tyX7 5) (by decide +kernel) rfl rfl (Nat.le_of_ble_eq_true rfl) rfl dX7_init_37 ?_
  exact K_ret (pc := 40) B (fun i => [h0, q0, q1, q2, q3, q4].getD i 0) rfl rfl dX7_init_40
set_option maxRecDepth 100000 in
set_option maxHeartbeats 4000000 in
theorem k_leafW (l : Launch) (D : va_G) (y : Nat → ClassId) : KC l D y yX3_init cX3_init 1 1 12 0 0 3 [.int 0, .int 0, .int 0, .int 0, .int 0, .int 0, .int 0, .int 0] (fun a => leafW a) := by
  refine KC.of (by decide) rfl (by decide) ?_
  intro h0 A p e s m args below meth c B
  refine K_aload (pc := 0) (x := h0) B 0 rfl dX3_init_0 ?_
  refine K_obj (pc := 1) B wk_10 ⟨Nat.le_of_ble_eq_true rfl, Nat.le_of_ble_eq_true rfl⟩ dX3_init_1 ?_
  exact K_ret (pc := 4) B (fun i => [h0].getD i 0) rfl rfl dX3_init_4
set_option maxRecDepth 100000 in
set_option maxHeartbeats 4000000 in
theorem k_sheetW (l : Launch) (D : va_G) (y : Nat → ClassId) : KC l D y yX5_init cX5_init 1 2 32 3 40 5 [.int 0, .int 0, .int 0, .null, .null, .null] (fun a => sheetW y a) := by
  refine KC.of (by decide) rfl (by decide) ?_
  intro h0 A p e s m args below meth c B
  refine K_aload (pc := 0) (x := h0) B 0 rfl dX5_init_0 ?_
  refine K_obj (pc := 1) B wk_11 ⟨Nat.le_of_ble_eq_true rfl, Nat.le_of_ble_eq_true rfl⟩ dX5_init_1 ?_
  refine K_aload (pc := 4) (x := h0) B 0 rfl dX5_init_4 ?_
  refine K_iconst (pc := 5) (v := (1 : Int32)) B (by decide) dX5_init_5 ?_
  refine K_put (pc := 6) (k := 0) (ws' := [(h0, .inr (5, [.int 1, .int 0, .int 0, .null, .null, .null]))]) B 0 rfl rfl ingX5 tyX5 tyX5_ok nmX5 (by decide) wk_12 rfl (ty := tyX5 0) (by decide +kernel) rfl rfl (Nat.le_of_ble_eq_true rfl) rfl dX5_init_6 ?_
  refine K_aload (pc := 9) (x := h0) B 0 rfl dX5_init_9 ?_
  refine K_iconst (pc := 10) (v := (1 : Int32)) B (by decide) dX5_init_10 ?_
  refine K_put (pc := 11) (k := 1) (ws' := [(h0, .inr (5, [.int 1, .int 1, .int 0, .null, .null, .null]))]) B 0 rfl rfl ingX5 tyX5 tyX5_ok nmX5 (by decide) wk_13 rfl (ty := tyX5 1) (by decide +kernel) rfl rfl (Nat.le_of_ble_eq_true rfl) rfl dX5_init_11 ?_
  refine K_aload (pc := 14) (x := h0) B 0 rfl dX5_init_14 ?_
  refine K_bipush (pc := 15) (v := (16 : Int32)) B (by decide) dX5_init_15 ?_
  refine K_newa (pc := 17) (atype := .int) (ty := .int) (N := 16) B 1 rfl (fun _ _ h => h) rfl rfl wk_4 (by decide) (by decide) (Nat.le_of_ble_eq_true rfl) ⟨Nat.le_of_ble_eq_true rfl, Nat.le_of_ble_eq_true rfl⟩ dX5_init_17 (fun q0 => ?_)
  refine K_put (pc := 19) (k := 3) (ws' := [(h0, .inr (5, [.int 1, .int 1, .int 0, .ref q0, .null, .null])), (q0, .inl (y 1, 16, .inl (fun _ => 0)))]) B 0 rfl rfl ingX5 tyX5 tyX5_ok nmX5 (by decide) wk_14 rfl (ty := tyX5 3) (by decide +kernel) rfl rfl (Nat.le_of_ble_eq_true rfl) rfl dX5_init_19 ?_
  refine K_aload (pc := 22) (x := h0) B 0 rfl dX5_init_22 ?_
  refine K_bipush (pc := 23) (v := (16 : Int32)) B (by decide) dX5_init_23 ?_
  refine K_newa (pc := 25) (atype := .int) (ty := .int) (N := 16) B 1 rfl (fun _ _ h => h) rfl rfl wk_4 (by decide) (by decide) (Nat.le_of_ble_eq_true rfl) ⟨Nat.le_of_ble_eq_true rfl, Nat.le_of_ble_eq_true rfl⟩ dX5_init_25 (fun q1 => ?_)
  refine K_put (pc := 27) (k := 4) (ws' := [(h0, .inr (5, [.int 1, .int 1, .int 0, .ref q0, .ref q1, .null])), (q0, .inl (y 1, 16, .inl (fun _ => 0))), (q1, .inl (y 1, 16, .inl (fun _ => 0)))]) B 0 rfl rfl ingX5 tyX5 tyX5_ok nmX5 (by decide) wk_15 rfl (ty := tyX5 4) (by decide +kernel) rfl rfl (Nat.le_of_ble_eq_true rfl) rfl dX5_init_27 ?_
  refine K_aload (pc := 30) (x := h0) B 0 rfl dX5_init_30 ?_
  refine K_new (pc := 31) (ci := 3) (fs := [.int 0, .int 0, .int 0, .int 0, .int 0, .int 0, .int 0, .int 0]) B ingX3 tyX3 tyX3_ok wk_16 wk_17 wk_18 rfl dfX3 ⟨Nat.le_of_ble_eq_true rfl, Nat.le_of_ble_eq_true rfl⟩ dX5_init_31 (fun q2 => ?_)
  refine K_dup (pc := 34) B dX5_init_34 ?_
  refine K_callN (pc := 35) (wr := [(h0, .inr (5, [.int 1, .int 1, .int 0, .ref q0, .ref q1, .null])), (q0, .inl (y 1, 16, .inl (fun _ => 0))), (q1, .inl (y 1, 16, .inl (fun _ => 0)))]) B (k_leafW l D y) rfl B.2.2.2.2.2.2.1.2.2.2.2.1 wk_18 wk_19 wk_20 rfl ⟨by decide, by decide, by decide +kernel⟩ ⟨Nat.le_of_ble_eq_true rfl, Nat.le_of_ble_eq_true rfl⟩ ⟨Nat.le_of_ble_eq_true rfl, Nat.le_of_ble_eq_true rfl⟩ (Nat.le_of_ble_eq_true rfl) dX5_init_35 (fun u3 hu3 => ?_)
  subst hu3
  refine K_put (pc := 38) (k := 5) (ws' := ([(h0, .inr (5, [.int 1, .int 1, .int 0, .ref q0, .ref q1, .ref (u3 0)])), (q0, .inl (y 1, 16, .inl (fun _ => 0))), (q1, .inl (y 1, 16, .inl (fun _ => 0)))] ++ leafW u3)) B 0 rfl rfl ingX5 tyX5 tyX5_ok nmX5 (by decide) wk_21 rfl (ty := tyX5 5) (by decide +kernel) rfl rfl (Nat.le_of_ble_eq_true rfl) rfl dX5_init_38 ?_
  exact K_ret (pc := 41) B (fun i => [h0, q0, q1, (u3 0)].getD i 0) rfl rfl dX5_init_41
set_option maxRecDepth 100000 in
set_option maxHeartbeats 4000000 in
theorem k_kindsW (l : Launch) (D : va_G) (y : Nat → ClassId) : KC l D y yX2_init cX2_init 1 3 52 5 2094 2 [.null, .null] (fun a => kindsW y a) := by
  refine KC.of (by decide) rfl (by decide) ?_
  intro h0 A p e s m args below meth c B
  refine K_aload (pc := 0) (x := h0) B 0 rfl dX2_init_0 ?_
  refine K_obj (pc := 1) B wk_22 ⟨Nat.le_of_ble_eq_true rfl, Nat.le_of_ble_eq_true rfl⟩ dX2_init_1 ?_
  refine K_aload (pc := 4) (x := h0) B 0 rfl dX2_init_4 ?_
  refine K_new (pc := 5) (ci := 5) (fs := [.int 0, .int 0, .int 0, .null, .null, .null]) B ingX5 tyX5 tyX5_ok wk_23 wk_24 wk_25 rfl dfX5 ⟨Nat.le_of_ble_eq_true rfl, Nat.le_of_ble_eq_true rfl⟩ dX2_init_5 (fun q0 => ?_)
  refine K_dup (pc := 8) B dX2_init_8 ?_
  refine K_callN (pc := 9) (wr := [(h0, .inr (2, [.null, .null]))]) B (k_sheetW l D y) rfl B.2.2.2.2.2.2.1.2.2.2.2.2 wk_25 wk_26 wk_27 rfl ⟨by decide, by decide, by decide +kernel⟩ ⟨Nat.le_of_ble_eq_true rfl, Nat.le_of_ble_eq_true rfl⟩ ⟨Nat.le_of_ble_eq_true rfl, Nat.le_of_ble_eq_true rfl⟩ (Nat.le_of_ble_eq_true rfl) dX2_init_9 (fun u1 hu1 => ?_)
  subst hu1
  refine K_put (pc := 12) (k := 0) (ws' := ([(h0, .inr (2, [.ref (u1 0), .null]))] ++ sheetW y u1)) B 0 rfl rfl ingX2 tyX2 tyX2_ok nmX2 (by decide) wk_28 rfl (ty := tyX2 0) (by decide +kernel) rfl rfl (Nat.le_of_ble_eq_true rfl) rfl dX2_init_12 ?_
  refine K_aload (pc := 15) (x := h0) B 0 rfl dX2_init_15 ?_
  refine K_sipush (pc := 16) (v := (2048 : Int32)) B (by decide) dX2_init_16 ?_
  refine K_newa (pc := 19) (atype := .int) (ty := .int) (N := 2048) B 1 rfl (fun _ _ h => h) rfl rfl wk_4 (by decide) (by decide) (Nat.le_of_ble_eq_true rfl) ⟨Nat.le_of_ble_eq_true rfl, Nat.le_of_ble_eq_true rfl⟩ dX2_init_19 (fun q2 => ?_)
  refine K_put (pc := 21) (k := 1) (ws' := (([(h0, .inr (2, [.ref (u1 0), .ref q2]))] ++ sheetW y u1) ++ [(q2, .inl (y 1, 2048, .inl (fun _ => 0)))])) B 0 rfl rfl ingX2 tyX2 tyX2_ok nmX2 (by decide) wk_29 rfl (ty := tyX2 1) (by decide +kernel) rfl rfl (Nat.le_of_ble_eq_true rfl) rfl dX2_init_21 ?_
  exact K_ret (pc := 24) B (fun i => [h0, (u1 0), (u1 1), (u1 2), (u1 3), q2].getD i 0) rfl rfl dX2_init_24
set_option maxRecDepth 100000 in
set_option maxHeartbeats 4000000 in
theorem k_planW (l : Launch) (D : va_G) (y : Nat → ClassId) : KC l D y yX4_init cX4_init 1 1 12 7 549 4 [.null, .null, .int 0] (fun a => planW y a) := by
  refine KC.of (by decide) rfl (by decide) ?_
  intro h0 A p e s m args below meth c B
  refine K_aload (pc := 0) (x := h0) B 0 rfl dX4_init_0 ?_
  refine K_obj (pc := 1) B wk_30 ⟨Nat.le_of_ble_eq_true rfl, Nat.le_of_ble_eq_true rfl⟩ dX4_init_1 ?_
  refine K_aload (pc := 4) (x := h0) B 0 rfl dX4_init_4 ?_
  refine K_iconst (pc := 5) (v := (5 : Int32)) B (by decide) dX4_init_5 ?_
  refine K_bipush (pc := 6) (v := (108 : Int32)) B (by decide) dX4_init_6 ?_
  refine K_multi (pc := 8) B wk_31 ⟨Nat.le_of_ble_eq_true rfl, Nat.le_of_ble_eq_true rfl⟩ dX4_init_8 (fun g0 => ?_)
  refine K_put (pc := 12) (k := 0) (ws' := [(h0, .inr (4, [.ref (g0 0), .null, .int 0])), ((g0 0), .inl (y 5, 5, .inr (.inr (.inr (.inr (fun k => some (g0 (1 + k)))))))), ((g0 1), .inl (y 1, 108, .inl (fun _ => 0))), ((g0 2), .inl (y 1, 108, .inl (fun _ => 0))), ((g0 3), .inl (y 1, 108, .inl (fun _ => 0))), ((g0 4), .inl (y 1, 108, .inl (fun _ => 0))), ((g0 5), .inl (y 1, 108, .inl (fun _ => 0)))]) B 0 rfl rfl ingX4 tyX4 tyX4_ok nmX4 (by decide) wk_32 rfl (ty := tyX4 0) (by decide +kernel) rfl rfl (Nat.le_of_ble_eq_true rfl) rfl dX4_init_12 ?_
  refine K_aload (pc := 15) (x := h0) B 0 rfl dX4_init_15 ?_
  refine K_iconst (pc := 16) (v := (4 : Int32)) B (by decide) dX4_init_16 ?_
  refine K_newa (pc := 17) (atype := .int) (ty := .int) (N := 4) B 1 rfl (fun _ _ h => h) rfl rfl wk_4 (by decide) (by decide) (Nat.le_of_ble_eq_true rfl) ⟨Nat.le_of_ble_eq_true rfl, Nat.le_of_ble_eq_true rfl⟩ dX4_init_17 (fun q1 => ?_)
  refine K_put (pc := 19) (k := 1) (ws' := [(h0, .inr (4, [.ref (g0 0), .ref q1, .int 0])), ((g0 0), .inl (y 5, 5, .inr (.inr (.inr (.inr (fun k => some (g0 (1 + k)))))))), ((g0 1), .inl (y 1, 108, .inl (fun _ => 0))), ((g0 2), .inl (y 1, 108, .inl (fun _ => 0))), ((g0 3), .inl (y 1, 108, .inl (fun _ => 0))), ((g0 4), .inl (y 1, 108, .inl (fun _ => 0))), ((g0 5), .inl (y 1, 108, .inl (fun _ => 0))), (q1, .inl (y 1, 4, .inl (fun _ => 0)))]) B 0 rfl rfl ingX4 tyX4 tyX4_ok nmX4 (by decide) wk_33 rfl (ty := tyX4 1) (by decide +kernel) rfl rfl (Nat.le_of_ble_eq_true rfl) rfl dX4_init_19 ?_
  refine K_refs (g := fun k => some ((fun i => [h0, (g0 0), (g0 1), (g0 2), (g0 3), (g0 4), (g0 5), q1].getD i 0) (2 + k))) (ws' := [(h0, .inr (4, [.ref (g0 0), .ref q1, .int 0])), ((g0 0), .inl (y 5, 5, .inr (.inr (.inr (.inr (fun k => some ((fun i => [h0, (g0 0), (g0 1), (g0 2), (g0 3), (g0 4), (g0 5), q1].getD i 0) (2 + k)))))))), ((g0 1), .inl (y 1, 108, .inl (fun _ => 0))), ((g0 2), .inl (y 1, 108, .inl (fun _ => 0))), ((g0 3), .inl (y 1, 108, .inl (fun _ => 0))), ((g0 4), .inl (y 1, 108, .inl (fun _ => 0))), ((g0 5), .inl (y 1, 108, .inl (fun _ => 0))), (q1, .inl (y 1, 4, .inl (fun _ => 0)))]) 1 rfl (fun j hj => by
    match j, hj with
    | 0, _ => rfl
    | 1, _ => rfl
    | 2, _ => rfl
    | 3, _ => rfl
    | 4, _ => rfl) rfl ?_
  exact K_ret (pc := 22) B (fun i => [h0, (g0 0), (g0 1), (g0 2), (g0 3), (g0 4), (g0 5), q1].getD i 0) rfl rfl dX4_init_22
set_option maxRecDepth 100000 in
set_option maxHeartbeats 4000000 in
theorem k_bookW (l : Launch) (D : va_G) (y : Nat → ClassId) : KC l D y yX0_init cX0_init 1 1 12 4 1066 0 [.int 0, .int 0, .null, .null, .null, .null] (fun a => bookW y a) := by
  refine KC.of (by decide) rfl (by decide) ?_
  intro h0 A p e s m args below meth c B
  refine K_aload (pc := 0) (x := h0) B 0 rfl dX0_init_0 ?_
  refine K_obj (pc := 1) B wk_34 ⟨Nat.le_of_ble_eq_true rfl, Nat.le_of_ble_eq_true rfl⟩ dX0_init_1 ?_
  refine K_aload (pc := 4) (x := h0) B 0 rfl dX0_init_4 ?_
  refine K_bipush (pc := 5) (v := (100 : Int32)) B (by decide) dX0_init_5 ?_
  refine K_newa (pc := 7) (atype := .int) (ty := .int) (N := 100) B 1 rfl (fun _ _ h => h) rfl rfl wk_4 (by decide) (by decide) (Nat.le_of_ble_eq_true rfl) ⟨Nat.le_of_ble_eq_true rfl, Nat.le_of_ble_eq_true rfl⟩ dX0_init_7 (fun q0 => ?_)
  refine K_put (pc := 9) (k := 2) (ws' := [(h0, .inr (0, [.int 0, .int 0, .ref q0, .null, .null, .null])), (q0, .inl (y 1, 100, .inl (fun _ => 0)))]) B 0 rfl rfl ingX0 tyX0 tyX0_ok nmX0 (by decide) wk_35 rfl (ty := tyX0 2) (by decide +kernel) rfl rfl (Nat.le_of_ble_eq_true rfl) rfl dX0_init_9 ?_
  refine K_aload (pc := 12) (x := h0) B 0 rfl dX0_init_12 ?_
  refine K_bipush (pc := 13) (v := (100 : Int32)) B (by decide) dX0_init_13 ?_
  refine K_newa (pc := 15) (atype := .int) (ty := .int) (N := 100) B 1 rfl (fun _ _ h => h) rfl rfl wk_4 (by decide) (by decide) (Nat.le_of_ble_eq_true rfl) ⟨Nat.le_of_ble_eq_true rfl, Nat.le_of_ble_eq_true rfl⟩ dX0_init_15 (fun q1 => ?_)
  refine K_put (pc := 17) (k := 3) (ws' := [(h0, .inr (0, [.int 0, .int 0, .ref q0, .ref q1, .null, .null])), (q0, .inl (y 1, 100, .inl (fun _ => 0))), (q1, .inl (y 1, 100, .inl (fun _ => 0)))]) B 0 rfl rfl ingX0 tyX0 tyX0_ok nmX0 (by decide) wk_36 rfl (ty := tyX0 3) (by decide +kernel) rfl rfl (Nat.le_of_ble_eq_true rfl) rfl dX0_init_17 ?_
  refine K_aload (pc := 20) (x := h0) B 0 rfl dX0_init_20 ?_
  refine K_sipush (pc := 21) (v := (433 : Int32)) B (by decide) dX0_init_21 ?_
  refine K_newa (pc := 24) (atype := .int) (ty := .int) (N := 433) B 1 rfl (fun _ _ h => h) rfl rfl wk_4 (by decide) (by decide) (Nat.le_of_ble_eq_true rfl) ⟨Nat.le_of_ble_eq_true rfl, Nat.le_of_ble_eq_true rfl⟩ dX0_init_24 (fun q2 => ?_)
  refine K_put (pc := 26) (k := 4) (ws' := [(h0, .inr (0, [.int 0, .int 0, .ref q0, .ref q1, .ref q2, .null])), (q0, .inl (y 1, 100, .inl (fun _ => 0))), (q1, .inl (y 1, 100, .inl (fun _ => 0))), (q2, .inl (y 1, 433, .inl (fun _ => 0)))]) B 0 rfl rfl ingX0 tyX0 tyX0_ok nmX0 (by decide) wk_37 rfl (ty := tyX0 4) (by decide +kernel) rfl rfl (Nat.le_of_ble_eq_true rfl) rfl dX0_init_26 ?_
  refine K_aload (pc := 29) (x := h0) B 0 rfl dX0_init_29 ?_
  refine K_sipush (pc := 30) (v := (433 : Int32)) B (by decide) dX0_init_30 ?_
  refine K_newa (pc := 33) (atype := .int) (ty := .int) (N := 433) B 1 rfl (fun _ _ h => h) rfl rfl wk_4 (by decide) (by decide) (Nat.le_of_ble_eq_true rfl) ⟨Nat.le_of_ble_eq_true rfl, Nat.le_of_ble_eq_true rfl⟩ dX0_init_33 (fun q3 => ?_)
  refine K_put (pc := 35) (k := 5) (ws' := [(h0, .inr (0, [.int 0, .int 0, .ref q0, .ref q1, .ref q2, .ref q3])), (q0, .inl (y 1, 100, .inl (fun _ => 0))), (q1, .inl (y 1, 100, .inl (fun _ => 0))), (q2, .inl (y 1, 433, .inl (fun _ => 0))), (q3, .inl (y 1, 433, .inl (fun _ => 0)))]) B 0 rfl rfl ingX0 tyX0 tyX0_ok nmX0 (by decide) wk_38 rfl (ty := tyX0 5) (by decide +kernel) rfl rfl (Nat.le_of_ble_eq_true rfl) rfl dX0_init_35 ?_
  exact K_ret (pc := 38) B (fun i => [h0, q0, q1, q2, q3].getD i 0) rfl rfl dX0_init_38
set_option maxRecDepth 100000 in
set_option maxHeartbeats 4000000 in
theorem k_histW (l : Launch) (D : va_G) (y : Nat → ClassId) : KC l D y yX1_init cX1_init 2 2 32 37 732 1 [.null, .int 0] (fun a => histW y a) := by
  refine KC.of (by decide) rfl (by decide) ?_
  intro h0 A p e s m args below meth c B
  refine K_aload (pc := 0) (x := h0) B 0 rfl dX1_init_0 ?_
  refine K_obj (pc := 1) B wk_39 ⟨Nat.le_of_ble_eq_true rfl, Nat.le_of_ble_eq_true rfl⟩ dX1_init_1 ?_
  refine K_aload (pc := 4) (x := h0) B 0 rfl dX1_init_4 ?_
  refine K_bipush (pc := 5) (v := (6 : Int32)) B (by decide) dX1_init_5 ?_
  refine K_newq (pc := 7) (C := RX7) (N := 6) B 3 rfl wk_40 B.2.2.2.2.2.2.1.2.1.1 (by decide) (by decide) (Nat.le_of_ble_eq_true rfl) ⟨Nat.le_of_ble_eq_true rfl, Nat.le_of_ble_eq_true rfl⟩ dX1_init_7 (fun q0 => ?_)
  refine K_put (pc := 10) (k := 0) (ws' := [(h0, .inr (1, [.ref q0, .int 0])), (q0, .inl (y 3, 6, .inr (.inr (.inr (.inr (fun _ => none))))))]) B 0 rfl rfl ingX1 tyX1 tyX1_ok nmX1 (by decide) wk_41 rfl (ty := tyX1 0) (by decide +kernel) rfl rfl (Nat.le_of_ble_eq_true rfl) rfl dX1_init_10 ?_
  refine K_iconst (pc := 13) (v := (0 : Int32)) B (by decide) dX1_init_13 ?_
  refine K_istore (a := 0) (pc := 14) (h0 := h0) B (Or.inl rfl) (by decide) dX1_init_14 ?_
  refine K_iload (pc := 15) (x := (0 : Int32)) B 1 rfl dX1_init_15 ?_
  refine K_bipush (pc := 16) (v := (6 : Int32)) B (by decide) dX1_init_16 ?_
  refine K_geN (pc := 18) (tgt := 40) B (by decide) (by decide) dX1_init_18 ?_
  refine K_aload (pc := 21) (x := h0) B 0 rfl dX1_init_21 ?_
  refine K_get (pc := 22) (k := 0) (v := .ref q0) B 0 rfl rfl ingX1 (by decide) wk_41 rfl dX1_init_22 ?_
  refine K_iload (pc := 25) (x := (0 : Int32)) B 1 rfl dX1_init_25 ?_
  refine K_new (pc := 26) (ci := 7) (fs := [.int 0, .null, .null, .null, .null, .null]) B ingX7 tyX7 tyX7_ok wk_40 wk_42 wk_43 rfl dfX7 ⟨Nat.le_of_ble_eq_true rfl, Nat.le_of_ble_eq_true rfl⟩ dX1_init_26 (fun q1 => ?_)
  refine K_dup (pc := 29) B dX1_init_29 ?_
  refine K_callN (pc := 30) (wr := [(h0, .inr (1, [.ref q0, .int 0])), (q0, .inl (y 3, 6, .inr (.inr (.inr (.inr (fun _ => none))))))]) B (k_toldW l D y) rfl B.2.2.2.2.2.2.1.2.2.2.1 wk_43 wk_44 wk_45 rfl ⟨by decide, by decide, by decide +kernel⟩ ⟨Nat.le_of_ble_eq_true rfl, Nat.le_of_ble_eq_true rfl⟩ ⟨Nat.le_of_ble_eq_true rfl, Nat.le_of_ble_eq_true rfl⟩ (Nat.le_of_ble_eq_true rfl) dX1_init_30 (fun u2 hu2 => ?_)
  subst hu2
  refine K_aast (pc := 33) (r := (RX7, TX7, 6)) (ws' := ([(h0, .inr (1, [.ref q0, .int 0])), (q0, .inl (y 3, 6, .inr (.inr (.inr (.inr (va_up (fun _ => none) (Int32.toNatClampNeg (0 : Int32)) (some (u2 0))))))))] ++ toldW y u2)) B 1 3 2 rfl rfl rfl rfl (inb_in (by decide)) rfl dX1_init_33 ?_
  refine K_iinc (pc := 34) (v := (0 : Int32)) (w := (1 : Int32)) B (by decide) (by decide) dX1_init_34 ?_
  refine K_goto (pc := 37) (tgt := 15) B (by decide) dX1_init_37 ?_
  refine K_iload (pc := 15) (x := (1 : Int32)) B 1 rfl dX1_init_15 ?_
  refine K_bipush (pc := 16) (v := (6 : Int32)) B (by decide) dX1_init_16 ?_
  refine K_geN (pc := 18) (tgt := 40) B (by decide) (by decide) dX1_init_18 ?_
  refine K_aload (pc := 21) (x := h0) B 0 rfl dX1_init_21 ?_
  refine K_get (pc := 22) (k := 0) (v := .ref q0) B 0 rfl rfl ingX1 (by decide) wk_41 rfl dX1_init_22 ?_
  refine K_iload (pc := 25) (x := (1 : Int32)) B 1 rfl dX1_init_25 ?_
  refine K_new (pc := 26) (ci := 7) (fs := [.int 0, .null, .null, .null, .null, .null]) B ingX7 tyX7 tyX7_ok wk_40 wk_42 wk_43 rfl dfX7 ⟨Nat.le_of_ble_eq_true rfl, Nat.le_of_ble_eq_true rfl⟩ dX1_init_26 (fun q3 => ?_)
  refine K_dup (pc := 29) B dX1_init_29 ?_
  refine K_callN (pc := 30) (wr := ([(h0, .inr (1, [.ref q0, .int 0])), (q0, .inl (y 3, 6, .inr (.inr (.inr (.inr (va_up (fun _ => none) (Int32.toNatClampNeg (0 : Int32)) (some (u2 0))))))))] ++ toldW y u2)) B (k_toldW l D y) rfl B.2.2.2.2.2.2.1.2.2.2.1 wk_43 wk_44 wk_45 rfl ⟨by decide, by decide, by decide +kernel⟩ ⟨Nat.le_of_ble_eq_true rfl, Nat.le_of_ble_eq_true rfl⟩ ⟨Nat.le_of_ble_eq_true rfl, Nat.le_of_ble_eq_true rfl⟩ (Nat.le_of_ble_eq_true rfl) dX1_init_30 (fun u4 hu4 => ?_)
  subst hu4
  refine K_aast (pc := 33) (r := (RX7, TX7, 6)) (ws' := (([(h0, .inr (1, [.ref q0, .int 0])), (q0, .inl (y 3, 6, .inr (.inr (.inr (.inr (va_up (va_up (fun _ => none) (Int32.toNatClampNeg (0 : Int32)) (some (u2 0))) (Int32.toNatClampNeg (1 : Int32)) (some (u4 0))))))))] ++ toldW y u2) ++ toldW y u4)) B 1 3 8 rfl rfl rfl rfl (inb_in (by decide)) rfl dX1_init_33 ?_
  refine K_iinc (pc := 34) (v := (1 : Int32)) (w := (2 : Int32)) B (by decide) (by decide) dX1_init_34 ?_
  refine K_goto (pc := 37) (tgt := 15) B (by decide) dX1_init_37 ?_
  refine K_iload (pc := 15) (x := (2 : Int32)) B 1 rfl dX1_init_15 ?_
  refine K_bipush (pc := 16) (v := (6 : Int32)) B (by decide) dX1_init_16 ?_
  refine K_geN (pc := 18) (tgt := 40) B (by decide) (by decide) dX1_init_18 ?_
  refine K_aload (pc := 21) (x := h0) B 0 rfl dX1_init_21 ?_
  refine K_get (pc := 22) (k := 0) (v := .ref q0) B 0 rfl rfl ingX1 (by decide) wk_41 rfl dX1_init_22 ?_
  refine K_iload (pc := 25) (x := (2 : Int32)) B 1 rfl dX1_init_25 ?_
  refine K_new (pc := 26) (ci := 7) (fs := [.int 0, .null, .null, .null, .null, .null]) B ingX7 tyX7 tyX7_ok wk_40 wk_42 wk_43 rfl dfX7 ⟨Nat.le_of_ble_eq_true rfl, Nat.le_of_ble_eq_true rfl⟩ dX1_init_26 (fun q5 => ?_)
  refine K_dup (pc := 29) B dX1_init_29 ?_
  refine K_callN (pc := 30) (wr := (([(h0, .inr (1, [.ref q0, .int 0])), (q0, .inl (y 3, 6, .inr (.inr (.inr (.inr (va_up (va_up (fun _ => none) (Int32.toNatClampNeg (0 : Int32)) (some (u2 0))) (Int32.toNatClampNeg (1 : Int32)) (some (u4 0))))))))] ++ toldW y u2) ++ toldW y u4)) B (k_toldW l D y) rfl B.2.2.2.2.2.2.1.2.2.2.1 wk_43 wk_44 wk_45 rfl ⟨by decide, by decide, by decide +kernel⟩ ⟨Nat.le_of_ble_eq_true rfl, Nat.le_of_ble_eq_true rfl⟩ ⟨Nat.le_of_ble_eq_true rfl, Nat.le_of_ble_eq_true rfl⟩ (Nat.le_of_ble_eq_true rfl) dX1_init_30 (fun u6 hu6 => ?_)
  subst hu6
  refine K_aast (pc := 33) (r := (RX7, TX7, 6)) (ws' := ((([(h0, .inr (1, [.ref q0, .int 0])), (q0, .inl (y 3, 6, .inr (.inr (.inr (.inr (va_up (va_up (va_up (fun _ => none) (Int32.toNatClampNeg (0 : Int32)) (some (u2 0))) (Int32.toNatClampNeg (1 : Int32)) (some (u4 0))) (Int32.toNatClampNeg (2 : Int32)) (some (u6 0))))))))] ++ toldW y u2) ++ toldW y u4) ++ toldW y u6)) B 1 3 14 rfl rfl rfl rfl (inb_in (by decide)) rfl dX1_init_33 ?_
  refine K_iinc (pc := 34) (v := (2 : Int32)) (w := (3 : Int32)) B (by decide) (by decide) dX1_init_34 ?_
  refine K_goto (pc := 37) (tgt := 15) B (by decide) dX1_init_37 ?_
  refine K_iload (pc := 15) (x := (3 : Int32)) B 1 rfl dX1_init_15 ?_
  refine K_bipush (pc := 16) (v := (6 : Int32)) B (by decide) dX1_init_16 ?_
  refine K_geN (pc := 18) (tgt := 40) B (by decide) (by decide) dX1_init_18 ?_
  refine K_aload (pc := 21) (x := h0) B 0 rfl dX1_init_21 ?_
  refine K_get (pc := 22) (k := 0) (v := .ref q0) B 0 rfl rfl ingX1 (by decide) wk_41 rfl dX1_init_22 ?_
  refine K_iload (pc := 25) (x := (3 : Int32)) B 1 rfl dX1_init_25 ?_
  refine K_new (pc := 26) (ci := 7) (fs := [.int 0, .null, .null, .null, .null, .null]) B ingX7 tyX7 tyX7_ok wk_40 wk_42 wk_43 rfl dfX7 ⟨Nat.le_of_ble_eq_true rfl, Nat.le_of_ble_eq_true rfl⟩ dX1_init_26 (fun q7 => ?_)
  refine K_dup (pc := 29) B dX1_init_29 ?_
  refine K_callN (pc := 30) (wr := ((([(h0, .inr (1, [.ref q0, .int 0])), (q0, .inl (y 3, 6, .inr (.inr (.inr (.inr (va_up (va_up (va_up (fun _ => none) (Int32.toNatClampNeg (0 : Int32)) (some (u2 0))) (Int32.toNatClampNeg (1 : Int32)) (some (u4 0))) (Int32.toNatClampNeg (2 : Int32)) (some (u6 0))))))))] ++ toldW y u2) ++ toldW y u4) ++ toldW y u6)) B (k_toldW l D y) rfl B.2.2.2.2.2.2.1.2.2.2.1 wk_43 wk_44 wk_45 rfl ⟨by decide, by decide, by decide +kernel⟩ ⟨Nat.le_of_ble_eq_true rfl, Nat.le_of_ble_eq_true rfl⟩ ⟨Nat.le_of_ble_eq_true rfl, Nat.le_of_ble_eq_true rfl⟩ (Nat.le_of_ble_eq_true rfl) dX1_init_30 (fun u8 hu8 => ?_)
  subst hu8
  refine K_aast (pc := 33) (r := (RX7, TX7, 6)) (ws' := (((([(h0, .inr (1, [.ref q0, .int 0])), (q0, .inl (y 3, 6, .inr (.inr (.inr (.inr (va_up (va_up (va_up (va_up (fun _ => none) (Int32.toNatClampNeg (0 : Int32)) (some (u2 0))) (Int32.toNatClampNeg (1 : Int32)) (some (u4 0))) (Int32.toNatClampNeg (2 : Int32)) (some (u6 0))) (Int32.toNatClampNeg (3 : Int32)) (some (u8 0))))))))] ++ toldW y u2) ++ toldW y u4) ++ toldW y u6) ++ toldW y u8)) B 1 3 20 rfl rfl rfl rfl (inb_in (by decide)) rfl dX1_init_33 ?_
  refine K_iinc (pc := 34) (v := (3 : Int32)) (w := (4 : Int32)) B (by decide) (by decide) dX1_init_34 ?_
  refine K_goto (pc := 37) (tgt := 15) B (by decide) dX1_init_37 ?_
  refine K_iload (pc := 15) (x := (4 : Int32)) B 1 rfl dX1_init_15 ?_
  refine K_bipush (pc := 16) (v := (6 : Int32)) B (by decide) dX1_init_16 ?_
  refine K_geN (pc := 18) (tgt := 40) B (by decide) (by decide) dX1_init_18 ?_
  refine K_aload (pc := 21) (x := h0) B 0 rfl dX1_init_21 ?_
  refine K_get (pc := 22) (k := 0) (v := .ref q0) B 0 rfl rfl ingX1 (by decide) wk_41 rfl dX1_init_22 ?_
  refine K_iload (pc := 25) (x := (4 : Int32)) B 1 rfl dX1_init_25 ?_
  refine K_new (pc := 26) (ci := 7) (fs := [.int 0, .null, .null, .null, .null, .null]) B ingX7 tyX7 tyX7_ok wk_40 wk_42 wk_43 rfl dfX7 ⟨Nat.le_of_ble_eq_true rfl, Nat.le_of_ble_eq_true rfl⟩ dX1_init_26 (fun q9 => ?_)
  refine K_dup (pc := 29) B dX1_init_29 ?_
  refine K_callN (pc := 30) (wr := (((([(h0, .inr (1, [.ref q0, .int 0])), (q0, .inl (y 3, 6, .inr (.inr (.inr (.inr (va_up (va_up (va_up (va_up (fun _ => none) (Int32.toNatClampNeg (0 : Int32)) (some (u2 0))) (Int32.toNatClampNeg (1 : Int32)) (some (u4 0))) (Int32.toNatClampNeg (2 : Int32)) (some (u6 0))) (Int32.toNatClampNeg (3 : Int32)) (some (u8 0))))))))] ++ toldW y u2) ++ toldW y u4) ++ toldW y u6) ++ toldW y u8)) B (k_toldW l D y) rfl B.2.2.2.2.2.2.1.2.2.2.1 wk_43 wk_44 wk_45 rfl ⟨by decide, by decide, by decide +kernel⟩ ⟨Nat.le_of_ble_eq_true rfl, Nat.le_of_ble_eq_true rfl⟩ ⟨Nat.le_of_ble_eq_true rfl, Nat.le_of_ble_eq_true rfl⟩ (Nat.le_of_ble_eq_true rfl) dX1_init_30 (fun u10 hu10 => ?_)
  subst hu10
  refine K_aast (pc := 33) (r := (RX7, TX7, 6)) (ws' := ((((([(h0, .inr (1, [.ref q0, .int 0])), (q0, .inl (y 3, 6, .inr (.inr (.inr (.inr (va_up (va_up (va_up (va_up (va_up (fun _ => none) (Int32.toNatClampNeg (0 : Int32)) (some (u2 0))) (Int32.toNatClampNeg (1 : Int32)) (some (u4 0))) (Int32.toNatClampNeg (2 : Int32)) (some (u6 0))) (Int32.toNatClampNeg (3 : Int32)) (some (u8 0))) (Int32.toNatClampNeg (4 : Int32)) (some (u10 0))))))))] ++ toldW y u2) ++ toldW y u4) ++ toldW y u6) ++ toldW y u8) ++ toldW y u10)) B 1 3 26 rfl rfl rfl rfl (inb_in (by decide)) rfl dX1_init_33 ?_
  refine K_iinc (pc := 34) (v := (4 : Int32)) (w := (5 : Int32)) B (by decide) (by decide) dX1_init_34 ?_
  refine K_goto (pc := 37) (tgt := 15) B (by decide) dX1_init_37 ?_
  refine K_iload (pc := 15) (x := (5 : Int32)) B 1 rfl dX1_init_15 ?_
  refine K_bipush (pc := 16) (v := (6 : Int32)) B (by decide) dX1_init_16 ?_
  refine K_geN (pc := 18) (tgt := 40) B (by decide) (by decide) dX1_init_18 ?_
  refine K_aload (pc := 21) (x := h0) B 0 rfl dX1_init_21 ?_
  refine K_get (pc := 22) (k := 0) (v := .ref q0) B 0 rfl rfl ingX1 (by decide) wk_41 rfl dX1_init_22 ?_
  refine K_iload (pc := 25) (x := (5 : Int32)) B 1 rfl dX1_init_25 ?_
  refine K_new (pc := 26) (ci := 7) (fs := [.int 0, .null, .null, .null, .null, .null]) B ingX7 tyX7 tyX7_ok wk_40 wk_42 wk_43 rfl dfX7 ⟨Nat.le_of_ble_eq_true rfl, Nat.le_of_ble_eq_true rfl⟩ dX1_init_26 (fun q11 => ?_)
  refine K_dup (pc := 29) B dX1_init_29 ?_
  refine K_callN (pc := 30) (wr := ((((([(h0, .inr (1, [.ref q0, .int 0])), (q0, .inl (y 3, 6, .inr (.inr (.inr (.inr (va_up (va_up (va_up (va_up (va_up (fun _ => none) (Int32.toNatClampNeg (0 : Int32)) (some (u2 0))) (Int32.toNatClampNeg (1 : Int32)) (some (u4 0))) (Int32.toNatClampNeg (2 : Int32)) (some (u6 0))) (Int32.toNatClampNeg (3 : Int32)) (some (u8 0))) (Int32.toNatClampNeg (4 : Int32)) (some (u10 0))))))))] ++ toldW y u2) ++ toldW y u4) ++ toldW y u6) ++ toldW y u8) ++ toldW y u10)) B (k_toldW l D y) rfl B.2.2.2.2.2.2.1.2.2.2.1 wk_43 wk_44 wk_45 rfl ⟨by decide, by decide, by decide +kernel⟩ ⟨Nat.le_of_ble_eq_true rfl, Nat.le_of_ble_eq_true rfl⟩ ⟨Nat.le_of_ble_eq_true rfl, Nat.le_of_ble_eq_true rfl⟩ (Nat.le_of_ble_eq_true rfl) dX1_init_30 (fun u12 hu12 => ?_)
  subst hu12
  refine K_aast (pc := 33) (r := (RX7, TX7, 6)) (ws' := (((((([(h0, .inr (1, [.ref q0, .int 0])), (q0, .inl (y 3, 6, .inr (.inr (.inr (.inr (va_up (va_up (va_up (va_up (va_up (va_up (fun _ => none) (Int32.toNatClampNeg (0 : Int32)) (some (u2 0))) (Int32.toNatClampNeg (1 : Int32)) (some (u4 0))) (Int32.toNatClampNeg (2 : Int32)) (some (u6 0))) (Int32.toNatClampNeg (3 : Int32)) (some (u8 0))) (Int32.toNatClampNeg (4 : Int32)) (some (u10 0))) (Int32.toNatClampNeg (5 : Int32)) (some (u12 0))))))))] ++ toldW y u2) ++ toldW y u4) ++ toldW y u6) ++ toldW y u8) ++ toldW y u10) ++ toldW y u12)) B 1 3 32 rfl rfl rfl rfl (inb_in (by decide)) rfl dX1_init_33 ?_
  refine K_iinc (pc := 34) (v := (5 : Int32)) (w := (6 : Int32)) B (by decide) (by decide) dX1_init_34 ?_
  refine K_goto (pc := 37) (tgt := 15) B (by decide) dX1_init_37 ?_
  refine K_iload (pc := 15) (x := (6 : Int32)) B 1 rfl dX1_init_15 ?_
  refine K_bipush (pc := 16) (v := (6 : Int32)) B (by decide) dX1_init_16 ?_
  refine K_geY (pc := 18) (tgt := 40) B (by decide) (by decide) dX1_init_18 ?_
  refine K_refs (g := fun k => some ((fun i => [h0, q0, (u2 0), (u2 1), (u2 2), (u2 3), (u2 4), (u2 5), (u4 0), (u4 1), (u4 2), (u4 3), (u4 4), (u4 5), (u6 0), (u6 1), (u6 2), (u6 3), (u6 4), (u6 5), (u8 0), (u8 1), (u8 2), (u8 3), (u8 4), (u8 5), (u10 0), (u10 1), (u10 2), (u10 3), (u10 4), (u10 5), (u12 0), (u12 1), (u12 2), (u12 3), (u12 4), (u12 5)].getD i 0) (2 + 6 * k))) (ws' := (((((([(h0, .inr (1, [.ref q0, .int 0])), (q0, .inl (y 3, 6, .inr (.inr (.inr (.inr (fun k => some ((fun i => [h0, q0, (u2 0), (u2 1), (u2 2), (u2 3), (u2 4), (u2 5), (u4 0), (u4 1), (u4 2), (u4 3), (u4 4), (u4 5), (u6 0), (u6 1), (u6 2), (u6 3), (u6 4), (u6 5), (u8 0), (u8 1), (u8 2), (u8 3), (u8 4), (u8 5), (u10 0), (u10 1), (u10 2), (u10 3), (u10 4), (u10 5), (u12 0), (u12 1), (u12 2), (u12 3), (u12 4), (u12 5)].getD i 0) (2 + 6 * k))))))))] ++ toldW y u2) ++ toldW y u4) ++ toldW y u6) ++ toldW y u8) ++ toldW y u10) ++ toldW y u12)) 1 rfl (fun j hj => by
    match j, hj with
    | 0, _ => rfl
    | 1, _ => rfl
    | 2, _ => rfl
    | 3, _ => rfl
    | 4, _ => rfl
    | 5, _ => rfl) rfl ?_
  exact K_ret (pc := 40) B (fun i => [h0, q0, (u2 0), (u2 1), (u2 2), (u2 3), (u2 4), (u2 5), (u4 0), (u4 1), (u4 2), (u4 3), (u4 4), (u4 5), (u6 0), (u6 1), (u6 2), (u6 3), (u6 4), (u6 5), (u8 0), (u8 1), (u8 2), (u8 3), (u8 4), (u8 5), (u10 0), (u10 1), (u10 2), (u10 3), (u10 4), (u10 5), (u12 0), (u12 1), (u12 2), (u12 3), (u12 4), (u12 5)].getD i 0) rfl rfl dX1_init_40
set_option maxRecDepth 100000 in
set_option maxHeartbeats 4000000 in
theorem k_modelW (l : Launch) (D : va_G) (y : Nat → ClassId) : KC l D y yX9_init cX9_init 1 1 12 14 4065 9 [.int 0, .null, .null, .null, .int 0, .null, .int 0, .null, .int 0, .null, .null, .int 0, .int 0, .null, .null, .null, .int 0, .null, .null, .null, .int 0, .int 0, .int 0, .null] (fun a => modelW y a) := by
  refine KC.of (by decide) rfl (by decide) ?_
  intro h0 A p e s m args below meth c B
  refine K_aload (pc := 0) (x := h0) B 0 rfl dX9_init_0 ?_
  refine K_obj (pc := 1) B wk_46 ⟨Nat.le_of_ble_eq_true rfl, Nat.le_of_ble_eq_true rfl⟩ dX9_init_1 ?_
  refine K_aload (pc := 4) (x := h0) B 0 rfl dX9_init_4 ?_
  refine K_sipush (pc := 5) (v := (200 : Int32)) B (by decide) dX9_init_5 ?_
  refine K_newa (pc := 8) (atype := .int) (ty := .int) (N := 200) B 1 rfl (fun _ _ h => h) rfl rfl wk_4 (by decide) (by decide) (Nat.le_of_ble_eq_true rfl) ⟨Nat.le_of_ble_eq_true rfl, Nat.le_of_ble_eq_true rfl⟩ dX9_init_8 (fun q0 => ?_)
  refine K_put (pc := 10) (k := 1) (ws' := [(h0, .inr (9, [.int 0, .ref q0, .null, .null, .int 0, .null, .int 0, .null, .int 0, .null, .null, .int 0, .int 0, .null, .null, .null, .int 0, .null, .null, .null, .int 0, .int 0, .int 0, .null])), (q0, .inl (y 1, 200, .inl (fun _ => 0)))]) B 0 rfl rfl ingX9 tyX9 tyX9_ok nmX9 (by decide) wk_47 rfl (ty := tyX9 1) (by decide +kernel) rfl rfl (Nat.le_of_ble_eq_true rfl) rfl dX9_init_10 ?_
  refine K_aload (pc := 13) (x := h0) B 0 rfl dX9_init_13 ?_
  refine K_sipush (pc := 14) (v := (132 : Int32)) B (by decide) dX9_init_14 ?_
  refine K_newa (pc := 17) (atype := .int) (ty := .int) (N := 132) B 1 rfl (fun _ _ h => h) rfl rfl wk_4 (by decide) (by decide) (Nat.le_of_ble_eq_true rfl) ⟨Nat.le_of_ble_eq_true rfl, Nat.le_of_ble_eq_true rfl⟩ dX9_init_17 (fun q1 => ?_)
  refine K_put (pc := 19) (k := 2) (ws' := [(h0, .inr (9, [.int 0, .ref q0, .ref q1, .null, .int 0, .null, .int 0, .null, .int 0, .null, .null, .int 0, .int 0, .null, .null, .null, .int 0, .null, .null, .null, .int 0, .int 0, .int 0, .null])), (q0, .inl (y 1, 200, .inl (fun _ => 0))), (q1, .inl (y 1, 132, .inl (fun _ => 0)))]) B 0 rfl rfl ingX9 tyX9 tyX9_ok nmX9 (by decide) wk_48 rfl (ty := tyX9 2) (by decide +kernel) rfl rfl (Nat.le_of_ble_eq_true rfl) rfl dX9_init_19 ?_
  refine K_aload (pc := 22) (x := h0) B 0 rfl dX9_init_22 ?_
  refine K_sipush (pc := 23) (v := (792 : Int32)) B (by decide) dX9_init_23 ?_
  refine K_newa (pc := 26) (atype := .int) (ty := .int) (N := 792) B 1 rfl (fun _ _ h => h) rfl rfl wk_4 (by decide) (by decide) (Nat.le_of_ble_eq_true rfl) ⟨Nat.le_of_ble_eq_true rfl, Nat.le_of_ble_eq_true rfl⟩ dX9_init_26 (fun q2 => ?_)
  refine K_put (pc := 28) (k := 3) (ws' := [(h0, .inr (9, [.int 0, .ref q0, .ref q1, .ref q2, .int 0, .null, .int 0, .null, .int 0, .null, .null, .int 0, .int 0, .null, .null, .null, .int 0, .null, .null, .null, .int 0, .int 0, .int 0, .null])), (q0, .inl (y 1, 200, .inl (fun _ => 0))), (q1, .inl (y 1, 132, .inl (fun _ => 0))), (q2, .inl (y 1, 792, .inl (fun _ => 0)))]) B 0 rfl rfl ingX9 tyX9 tyX9_ok nmX9 (by decide) wk_49 rfl (ty := tyX9 3) (by decide +kernel) rfl rfl (Nat.le_of_ble_eq_true rfl) rfl dX9_init_28 ?_
  refine K_aload (pc := 31) (x := h0) B 0 rfl dX9_init_31 ?_
  refine K_sipush (pc := 32) (v := (132 : Int32)) B (by decide) dX9_init_32 ?_
  refine K_newa (pc := 35) (atype := .int) (ty := .int) (N := 132) B 1 rfl (fun _ _ h => h) rfl rfl wk_4 (by decide) (by decide) (Nat.le_of_ble_eq_true rfl) ⟨Nat.le_of_ble_eq_true rfl, Nat.le_of_ble_eq_true rfl⟩ dX9_init_35 (fun q3 => ?_)
  refine K_put (pc := 37) (k := 5) (ws' := [(h0, .inr (9, [.int 0, .ref q0, .ref q1, .ref q2, .int 0, .ref q3, .int 0, .null, .int 0, .null, .null, .int 0, .int 0, .null, .null, .null, .int 0, .null, .null, .null, .int 0, .int 0, .int 0, .null])), (q0, .inl (y 1, 200, .inl (fun _ => 0))), (q1, .inl (y 1, 132, .inl (fun _ => 0))), (q2, .inl (y 1, 792, .inl (fun _ => 0))), (q3, .inl (y 1, 132, .inl (fun _ => 0)))]) B 0 rfl rfl ingX9 tyX9 tyX9_ok nmX9 (by decide) wk_50 rfl (ty := tyX9 5) (by decide +kernel) rfl rfl (Nat.le_of_ble_eq_true rfl) rfl dX9_init_37 ?_
  refine K_aload (pc := 40) (x := h0) B 0 rfl dX9_init_40 ?_
  refine K_iconst (pc := 41) (v := (4 : Int32)) B (by decide) dX9_init_41 ?_
  refine K_newa (pc := 42) (atype := .int) (ty := .int) (N := 4) B 1 rfl (fun _ _ h => h) rfl rfl wk_4 (by decide) (by decide) (Nat.le_of_ble_eq_true rfl) ⟨Nat.le_of_ble_eq_true rfl, Nat.le_of_ble_eq_true rfl⟩ dX9_init_42 (fun q4 => ?_)
  refine K_put (pc := 44) (k := 7) (ws' := [(h0, .inr (9, [.int 0, .ref q0, .ref q1, .ref q2, .int 0, .ref q3, .int 0, .ref q4, .int 0, .null, .null, .int 0, .int 0, .null, .null, .null, .int 0, .null, .null, .null, .int 0, .int 0, .int 0, .null])), (q0, .inl (y 1, 200, .inl (fun _ => 0))), (q1, .inl (y 1, 132, .inl (fun _ => 0))), (q2, .inl (y 1, 792, .inl (fun _ => 0))), (q3, .inl (y 1, 132, .inl (fun _ => 0))), (q4, .inl (y 1, 4, .inl (fun _ => 0)))]) B 0 rfl rfl ingX9 tyX9 tyX9_ok nmX9 (by decide) wk_51 rfl (ty := tyX9 7) (by decide +kernel) rfl rfl (Nat.le_of_ble_eq_true rfl) rfl dX9_init_44 ?_
  refine K_aload (pc := 47) (x := h0) B 0 rfl dX9_init_47 ?_
  refine K_bipush (pc := 48) (v := (16 : Int32)) B (by decide) dX9_init_48 ?_
  refine K_newa (pc := 50) (atype := .int) (ty := .int) (N := 16) B 1 rfl (fun _ _ h => h) rfl rfl wk_4 (by decide) (by decide) (Nat.le_of_ble_eq_true rfl) ⟨Nat.le_of_ble_eq_true rfl, Nat.le_of_ble_eq_true rfl⟩ dX9_init_50 (fun q5 => ?_)
  refine K_put (pc := 52) (k := 9) (ws' := [(h0, .inr (9, [.int 0, .ref q0, .ref q1, .ref q2, .int 0, .ref q3, .int 0, .ref q4, .int 0, .ref q5, .null, .int 0, .int 0, .null, .null, .null, .int 0, .null, .null, .null, .int 0, .int 0, .int 0, .null])), (q0, .inl (y 1, 200, .inl (fun _ => 0))), (q1, .inl (y 1, 132, .inl (fun _ => 0))), (q2, .inl (y 1, 792, .inl (fun _ => 0))), (q3, .inl (y 1, 132, .inl (fun _ => 0))), (q4, .inl (y 1, 4, .inl (fun _ => 0))), (q5, .inl (y 1, 16, .inl (fun _ => 0)))]) B 0 rfl rfl ingX9 tyX9 tyX9_ok nmX9 (by decide) wk_52 rfl (ty := tyX9 9) (by decide +kernel) rfl rfl (Nat.le_of_ble_eq_true rfl) rfl dX9_init_52 ?_
  refine K_aload (pc := 55) (x := h0) B 0 rfl dX9_init_55 ?_
  refine K_bipush (pc := 56) (v := (16 : Int32)) B (by decide) dX9_init_56 ?_
  refine K_newa (pc := 58) (atype := .int) (ty := .int) (N := 16) B 1 rfl (fun _ _ h => h) rfl rfl wk_4 (by decide) (by decide) (Nat.le_of_ble_eq_true rfl) ⟨Nat.le_of_ble_eq_true rfl, Nat.le_of_ble_eq_true rfl⟩ dX9_init_58 (fun q6 => ?_)
  refine K_put (pc := 60) (k := 10) (ws' := [(h0, .inr (9, [.int 0, .ref q0, .ref q1, .ref q2, .int 0, .ref q3, .int 0, .ref q4, .int 0, .ref q5, .ref q6, .int 0, .int 0, .null, .null, .null, .int 0, .null, .null, .null, .int 0, .int 0, .int 0, .null])), (q0, .inl (y 1, 200, .inl (fun _ => 0))), (q1, .inl (y 1, 132, .inl (fun _ => 0))), (q2, .inl (y 1, 792, .inl (fun _ => 0))), (q3, .inl (y 1, 132, .inl (fun _ => 0))), (q4, .inl (y 1, 4, .inl (fun _ => 0))), (q5, .inl (y 1, 16, .inl (fun _ => 0))), (q6, .inl (y 1, 16, .inl (fun _ => 0)))]) B 0 rfl rfl ingX9 tyX9 tyX9_ok nmX9 (by decide) wk_53 rfl (ty := tyX9 10) (by decide +kernel) rfl rfl (Nat.le_of_ble_eq_true rfl) rfl dX9_init_60 ?_
  refine K_aload (pc := 63) (x := h0) B 0 rfl dX9_init_63 ?_
  refine K_bipush (pc := 64) (v := (32 : Int32)) B (by decide) dX9_init_64 ?_
  refine K_newa (pc := 66) (atype := .int) (ty := .int) (N := 32) B 1 rfl (fun _ _ h => h) rfl rfl wk_4 (by decide) (by decide) (Nat.le_of_ble_eq_true rfl) ⟨Nat.le_of_ble_eq_true rfl, Nat.le_of_ble_eq_true rfl⟩ dX9_init_66 (fun q7 => ?_)
  refine K_put (pc := 68) (k := 13) (ws' := [(h0, .inr (9, [.int 0, .ref q0, .ref q1, .ref q2, .int 0, .ref q3, .int 0, .ref q4, .int 0, .ref q5, .ref q6, .int 0, .int 0, .ref q7, .null, .null, .int 0, .null, .null, .null, .int 0, .int 0, .int 0, .null])), (q0, .inl (y 1, 200, .inl (fun _ => 0))), (q1, .inl (y 1, 132, .inl (fun _ => 0))), (q2, .inl (y 1, 792, .inl (fun _ => 0))), (q3, .inl (y 1, 132, .inl (fun _ => 0))), (q4, .inl (y 1, 4, .inl (fun _ => 0))), (q5, .inl (y 1, 16, .inl (fun _ => 0))), (q6, .inl (y 1, 16, .inl (fun _ => 0))), (q7, .inl (y 1, 32, .inl (fun _ => 0)))]) B 0 rfl rfl ingX9 tyX9 tyX9_ok nmX9 (by decide) wk_54 rfl (ty := tyX9 13) (by decide +kernel) rfl rfl (Nat.le_of_ble_eq_true rfl) rfl dX9_init_68 ?_
  refine K_aload (pc := 71) (x := h0) B 0 rfl dX9_init_71 ?_
  refine K_bipush (pc := 72) (v := (32 : Int32)) B (by decide) dX9_init_72 ?_
  refine K_newa (pc := 74) (atype := .int) (ty := .int) (N := 32) B 1 rfl (fun _ _ h => h) rfl rfl wk_4 (by decide) (by decide) (Nat.le_of_ble_eq_true rfl) ⟨Nat.le_of_ble_eq_true rfl, Nat.le_of_ble_eq_true rfl⟩ dX9_init_74 (fun q8 => ?_)
  refine K_put (pc := 76) (k := 14) (ws' := [(h0, .inr (9, [.int 0, .ref q0, .ref q1, .ref q2, .int 0, .ref q3, .int 0, .ref q4, .int 0, .ref q5, .ref q6, .int 0, .int 0, .ref q7, .ref q8, .null, .int 0, .null, .null, .null, .int 0, .int 0, .int 0, .null])), (q0, .inl (y 1, 200, .inl (fun _ => 0))), (q1, .inl (y 1, 132, .inl (fun _ => 0))), (q2, .inl (y 1, 792, .inl (fun _ => 0))), (q3, .inl (y 1, 132, .inl (fun _ => 0))), (q4, .inl (y 1, 4, .inl (fun _ => 0))), (q5, .inl (y 1, 16, .inl (fun _ => 0))), (q6, .inl (y 1, 16, .inl (fun _ => 0))), (q7, .inl (y 1, 32, .inl (fun _ => 0))), (q8, .inl (y 1, 32, .inl (fun _ => 0)))]) B 0 rfl rfl ingX9 tyX9 tyX9_ok nmX9 (by decide) wk_55 rfl (ty := tyX9 14) (by decide +kernel) rfl rfl (Nat.le_of_ble_eq_true rfl) rfl dX9_init_76 ?_
  refine K_aload (pc := 79) (x := h0) B 0 rfl dX9_init_79 ?_
  refine K_bipush (pc := 80) (v := (32 : Int32)) B (by decide) dX9_init_80 ?_
  refine K_newa (pc := 82) (atype := .int) (ty := .int) (N := 32) B 1 rfl (fun _ _ h => h) rfl rfl wk_4 (by decide) (by decide) (Nat.le_of_ble_eq_true rfl) ⟨Nat.le_of_ble_eq_true rfl, Nat.le_of_ble_eq_true rfl⟩ dX9_init_82 (fun q9 => ?_)
  refine K_put (pc := 84) (k := 15) (ws' := [(h0, .inr (9, [.int 0, .ref q0, .ref q1, .ref q2, .int 0, .ref q3, .int 0, .ref q4, .int 0, .ref q5, .ref q6, .int 0, .int 0, .ref q7, .ref q8, .ref q9, .int 0, .null, .null, .null, .int 0, .int 0, .int 0, .null])), (q0, .inl (y 1, 200, .inl (fun _ => 0))), (q1, .inl (y 1, 132, .inl (fun _ => 0))), (q2, .inl (y 1, 792, .inl (fun _ => 0))), (q3, .inl (y 1, 132, .inl (fun _ => 0))), (q4, .inl (y 1, 4, .inl (fun _ => 0))), (q5, .inl (y 1, 16, .inl (fun _ => 0))), (q6, .inl (y 1, 16, .inl (fun _ => 0))), (q7, .inl (y 1, 32, .inl (fun _ => 0))), (q8, .inl (y 1, 32, .inl (fun _ => 0))), (q9, .inl (y 1, 32, .inl (fun _ => 0)))]) B 0 rfl rfl ingX9 tyX9 tyX9_ok nmX9 (by decide) wk_56 rfl (ty := tyX9 15) (by decide +kernel) rfl rfl (Nat.le_of_ble_eq_true rfl) rfl dX9_init_84 ?_
  refine K_aload (pc := 87) (x := h0) B 0 rfl dX9_init_87 ?_
  refine K_bipush (pc := 88) (v := (33 : Int32)) B (by decide) dX9_init_88 ?_
  refine K_newa (pc := 90) (atype := .int) (ty := .int) (N := 33) B 1 rfl (fun _ _ h => h) rfl rfl wk_4 (by decide) (by decide) (Nat.le_of_ble_eq_true rfl) ⟨Nat.le_of_ble_eq_true rfl, Nat.le_of_ble_eq_true rfl⟩ dX9_init_90 (fun q10 => ?_)
  refine K_put (pc := 92) (k := 17) (ws' := [(h0, .inr (9, [.int 0, .ref q0, .ref q1, .ref q2, .int 0, .ref q3, .int 0, .ref q4, .int 0, .ref q5, .ref q6, .int 0, .int 0, .ref q7, .ref q8, .ref q9, .int 0, .ref q10, .null, .null, .int 0, .int 0, .int 0, .null])), (q0, .inl (y 1, 200, .inl (fun _ => 0))), (q1, .inl (y 1, 132, .inl (fun _ => 0))), (q2, .inl (y 1, 792, .inl (fun _ => 0))), (q3, .inl (y 1, 132, .inl (fun _ => 0))), (q4, .inl (y 1, 4, .inl (fun _ => 0))), (q5, .inl (y 1, 16, .inl (fun _ => 0))), (q6, .inl (y 1, 16, .inl (fun _ => 0))), (q7, .inl (y 1, 32, .inl (fun _ => 0))), (q8, .inl (y 1, 32, .inl (fun _ => 0))), (q9, .inl (y 1, 32, .inl (fun _ => 0))), (q10, .inl (y 1, 33, .inl (fun _ => 0)))]) B 0 rfl rfl ingX9 tyX9 tyX9_ok nmX9 (by decide) wk_57 rfl (ty := tyX9 17) (by decide +kernel) rfl rfl (Nat.le_of_ble_eq_true rfl) rfl dX9_init_92 ?_
  refine K_aload (pc := 95) (x := h0) B 0 rfl dX9_init_95 ?_
  refine K_sipush (pc := 96) (v := (2200 : Int32)) B (by decide) dX9_init_96 ?_
  refine K_newa (pc := 99) (atype := .int) (ty := .int) (N := 2200) B 1 rfl (fun _ _ h => h) rfl rfl wk_4 (by decide) (by decide) (Nat.le_of_ble_eq_true rfl) ⟨Nat.le_of_ble_eq_true rfl, Nat.le_of_ble_eq_true rfl⟩ dX9_init_99 (fun q11 => ?_)
  refine K_put (pc := 101) (k := 18) (ws' := [(h0, .inr (9, [.int 0, .ref q0, .ref q1, .ref q2, .int 0, .ref q3, .int 0, .ref q4, .int 0, .ref q5, .ref q6, .int 0, .int 0, .ref q7, .ref q8, .ref q9, .int 0, .ref q10, .ref q11, .null, .int 0, .int 0, .int 0, .null])), (q0, .inl (y 1, 200, .inl (fun _ => 0))), (q1, .inl (y 1, 132, .inl (fun _ => 0))), (q2, .inl (y 1, 792, .inl (fun _ => 0))), (q3, .inl (y 1, 132, .inl (fun _ => 0))), (q4, .inl (y 1, 4, .inl (fun _ => 0))), (q5, .inl (y 1, 16, .inl (fun _ => 0))), (q6, .inl (y 1, 16, .inl (fun _ => 0))), (q7, .inl (y 1, 32, .inl (fun _ => 0))), (q8, .inl (y 1, 32, .inl (fun _ => 0))), (q9, .inl (y 1, 32, .inl (fun _ => 0))), (q10, .inl (y 1, 33, .inl (fun _ => 0))), (q11, .inl (y 1, 2200, .inl (fun _ => 0)))]) B 0 rfl rfl ingX9 tyX9 tyX9_ok nmX9 (by decide) wk_58 rfl (ty := tyX9 18) (by decide +kernel) rfl rfl (Nat.le_of_ble_eq_true rfl) rfl dX9_init_101 ?_
  refine K_aload (pc := 104) (x := h0) B 0 rfl dX9_init_104 ?_
  refine K_iconst (pc := 105) (v := (4 : Int32)) B (by decide) dX9_init_105 ?_
  refine K_newa (pc := 106) (atype := .int) (ty := .int) (N := 4) B 1 rfl (fun _ _ h => h) rfl rfl wk_4 (by decide) (by decide) (Nat.le_of_ble_eq_true rfl) ⟨Nat.le_of_ble_eq_true rfl, Nat.le_of_ble_eq_true rfl⟩ dX9_init_106 (fun q12 => ?_)
  refine K_put (pc := 108) (k := 19) (ws' := [(h0, .inr (9, [.int 0, .ref q0, .ref q1, .ref q2, .int 0, .ref q3, .int 0, .ref q4, .int 0, .ref q5, .ref q6, .int 0, .int 0, .ref q7, .ref q8, .ref q9, .int 0, .ref q10, .ref q11, .ref q12, .int 0, .int 0, .int 0, .null])), (q0, .inl (y 1, 200, .inl (fun _ => 0))), (q1, .inl (y 1, 132, .inl (fun _ => 0))), (q2, .inl (y 1, 792, .inl (fun _ => 0))), (q3, .inl (y 1, 132, .inl (fun _ => 0))), (q4, .inl (y 1, 4, .inl (fun _ => 0))), (q5, .inl (y 1, 16, .inl (fun _ => 0))), (q6, .inl (y 1, 16, .inl (fun _ => 0))), (q7, .inl (y 1, 32, .inl (fun _ => 0))), (q8, .inl (y 1, 32, .inl (fun _ => 0))), (q9, .inl (y 1, 32, .inl (fun _ => 0))), (q10, .inl (y 1, 33, .inl (fun _ => 0))), (q11, .inl (y 1, 2200, .inl (fun _ => 0))), (q12, .inl (y 1, 4, .inl (fun _ => 0)))]) B 0 rfl rfl ingX9 tyX9 tyX9_ok nmX9 (by decide) wk_59 rfl (ty := tyX9 19) (by decide +kernel) rfl rfl (Nat.le_of_ble_eq_true rfl) rfl dX9_init_108 ?_
  refine K_aload (pc := 111) (x := h0) B 0 rfl dX9_init_111 ?_
  refine K_sipush (pc := 112) (v := (440 : Int32)) B (by decide) dX9_init_112 ?_
  refine K_newa (pc := 115) (atype := .boolean) (ty := .boolean) (N := 440) B 2 rfl (fun _ _ h => h) rfl rfl wk_60 (by decide) (by decide) (Nat.le_of_ble_eq_true rfl) ⟨Nat.le_of_ble_eq_true rfl, Nat.le_of_ble_eq_true rfl⟩ dX9_init_115 (fun q13 => ?_)
  refine K_put (pc := 117) (k := 23) (ws' := [(h0, .inr (9, [.int 0, .ref q0, .ref q1, .ref q2, .int 0, .ref q3, .int 0, .ref q4, .int 0, .ref q5, .ref q6, .int 0, .int 0, .ref q7, .ref q8, .ref q9, .int 0, .ref q10, .ref q11, .ref q12, .int 0, .int 0, .int 0, .ref q13])), (q0, .inl (y 1, 200, .inl (fun _ => 0))), (q1, .inl (y 1, 132, .inl (fun _ => 0))), (q2, .inl (y 1, 792, .inl (fun _ => 0))), (q3, .inl (y 1, 132, .inl (fun _ => 0))), (q4, .inl (y 1, 4, .inl (fun _ => 0))), (q5, .inl (y 1, 16, .inl (fun _ => 0))), (q6, .inl (y 1, 16, .inl (fun _ => 0))), (q7, .inl (y 1, 32, .inl (fun _ => 0))), (q8, .inl (y 1, 32, .inl (fun _ => 0))), (q9, .inl (y 1, 32, .inl (fun _ => 0))), (q10, .inl (y 1, 33, .inl (fun _ => 0))), (q11, .inl (y 1, 2200, .inl (fun _ => 0))), (q12, .inl (y 1, 4, .inl (fun _ => 0))), (q13, .inl (y 2, 440, .inl (fun _ => 0)))]) B 0 rfl rfl ingX9 tyX9 tyX9_ok nmX9 (by decide) wk_61 rfl (ty := tyX9 23) (by decide +kernel) rfl rfl (Nat.le_of_ble_eq_true rfl) rfl dX9_init_117 ?_
  refine K_aload (pc := 120) (x := h0) B 0 rfl dX9_init_120 ?_
  refine K_get (pc := 121) (k := 2) (v := .ref q1) B 0 rfl rfl ingX9 (by decide) wk_48 rfl dX9_init_121 ?_
  refine K_iconst (pc := 124) (v := (0 : Int32)) B (by decide) dX9_init_124 ?_
  refine K_bipush (pc := 125) (v := (30 : Int32)) B (by decide) dX9_init_125 ?_
  refine K_iast (pc := 127) (ws' := [(h0, .inr (9, [.int 0, .ref q0, .ref q1, .ref q2, .int 0, .ref q3, .int 0, .ref q4, .int 0, .ref q5, .ref q6, .int 0, .int 0, .ref q7, .ref q8, .ref q9, .int 0, .ref q10, .ref q11, .ref q12, .int 0, .int 0, .int 0, .ref q13])), (q0, .inl (y 1, 200, .inl (fun _ => 0))), (q1, .inl (y 1, 132, .inl (upd (fun _ => 0) (Int32.toNatClampNeg (0 : Int32)) (30 : Int32)))), (q2, .inl (y 1, 792, .inl (fun _ => 0))), (q3, .inl (y 1, 132, .inl (fun _ => 0))), (q4, .inl (y 1, 4, .inl (fun _ => 0))), (q5, .inl (y 1, 16, .inl (fun _ => 0))), (q6, .inl (y 1, 16, .inl (fun _ => 0))), (q7, .inl (y 1, 32, .inl (fun _ => 0))), (q8, .inl (y 1, 32, .inl (fun _ => 0))), (q9, .inl (y 1, 32, .inl (fun _ => 0))), (q10, .inl (y 1, 33, .inl (fun _ => 0))), (q11, .inl (y 1, 2200, .inl (fun _ => 0))), (q12, .inl (y 1, 4, .inl (fun _ => 0))), (q13, .inl (y 2, 440, .inl (fun _ => 0)))]) B 2 1 rfl rfl (inb_in (by decide)) rfl dX9_init_127 ?_
  refine K_aload (pc := 128) (x := h0) B 0 rfl dX9_init_128 ?_
  refine K_get (pc := 129) (k := 2) (v := .ref q1) B 0 rfl rfl ingX9 (by decide) wk_48 rfl dX9_init_129 ?_
  refine K_iconst (pc := 132) (v := (1 : Int32)) B (by decide) dX9_init_132 ?_
  refine K_iconst (pc := 133) (v := (2 : Int32)) B (by decide) dX9_init_133 ?_
  refine K_iast (pc := 134) (ws' := [(h0, .inr (9, [.int 0, .ref q0, .ref q1, .ref q2, .int 0, .ref q3, .int 0, .ref q4, .int 0, .ref q5, .ref q6, .int 0, .int 0, .ref q7, .ref q8, .ref q9, .int 0, .ref q10, .ref q11, .ref q12, .int 0, .int 0, .int 0, .ref q13])), (q0, .inl (y 1, 200, .inl (fun _ => 0))), (q1, .inl (y 1, 132, .inl (upd (upd (fun _ => 0) (Int32.toNatClampNeg (0 : Int32)) (30 : Int32)) (Int32.toNatClampNeg (1 : Int32)) (2 : Int32)))), (q2, .inl (y 1, 792, .inl (fun _ => 0))), (q3, .inl (y 1, 132, .inl (fun _ => 0))), (q4, .inl (y 1, 4, .inl (fun _ => 0))), (q5, .inl (y 1, 16, .inl (fun _ => 0))), (q6, .inl (y 1, 16, .inl (fun _ => 0))), (q7, .inl (y 1, 32, .inl (fun _ => 0))), (q8, .inl (y 1, 32, .inl (fun _ => 0))), (q9, .inl (y 1, 32, .inl (fun _ => 0))), (q10, .inl (y 1, 33, .inl (fun _ => 0))), (q11, .inl (y 1, 2200, .inl (fun _ => 0))), (q12, .inl (y 1, 4, .inl (fun _ => 0))), (q13, .inl (y 2, 440, .inl (fun _ => 0)))]) B 2 1 rfl rfl (inb_in (by decide)) rfl dX9_init_134 ?_
  refine K_aload (pc := 135) (x := h0) B 0 rfl dX9_init_135 ?_
  refine K_get (pc := 136) (k := 2) (v := .ref q1) B 0 rfl rfl ingX9 (by decide) wk_48 rfl dX9_init_136 ?_
  refine K_iconst (pc := 139) (v := (3 : Int32)) B (by decide) dX9_init_139 ?_
  refine K_iconst (pc := 140) (v := (3 : Int32)) B (by decide) dX9_init_140 ?_
  refine K_iast (pc := 141) (ws' := [(h0, .inr (9, [.int 0, .ref q0, .ref q1, .ref q2, .int 0, .ref q3, .int 0, .ref q4, .int 0, .ref q5, .ref q6, .int 0, .int 0, .ref q7, .ref q8, .ref q9, .int 0, .ref q10, .ref q11, .ref q12, .int 0, .int 0, .int 0, .ref q13])), (q0, .inl (y 1, 200, .inl (fun _ => 0))), (q1, .inl (y 1, 132, .inl (upd (upd (upd (fun _ => 0) (Int32.toNatClampNeg (0 : Int32)) (30 : Int32)) (Int32.toNatClampNeg (1 : Int32)) (2 : Int32)) (Int32.toNatClampNeg (3 : Int32)) (3 : Int32)))), (q2, .inl (y 1, 792, .inl (fun _ => 0))), (q3, .inl (y 1, 132, .inl (fun _ => 0))), (q4, .inl (y 1, 4, .inl (fun _ => 0))), (q5, .inl (y 1, 16, .inl (fun _ => 0))), (q6, .inl (y 1, 16, .inl (fun _ => 0))), (q7, .inl (y 1, 32, .inl (fun _ => 0))), (q8, .inl (y 1, 32, .inl (fun _ => 0))), (q9, .inl (y 1, 32, .inl (fun _ => 0))), (q10, .inl (y 1, 33, .inl (fun _ => 0))), (q11, .inl (y 1, 2200, .inl (fun _ => 0))), (q12, .inl (y 1, 4, .inl (fun _ => 0))), (q13, .inl (y 2, 440, .inl (fun _ => 0)))]) B 2 1 rfl rfl (inb_in (by decide)) rfl dX9_init_141 ?_
  refine K_aload (pc := 142) (x := h0) B 0 rfl dX9_init_142 ?_
  refine K_get (pc := 143) (k := 2) (v := .ref q1) B 0 rfl rfl ingX9 (by decide) wk_48 rfl dX9_init_143 ?_
  refine K_iconst (pc := 146) (v := (4 : Int32)) B (by decide) dX9_init_146 ?_
  refine K_bipush (pc := 147) (v := (10 : Int32)) B (by decide) dX9_init_147 ?_
  refine K_iast (pc := 149) (ws' := [(h0, .inr (9, [.int 0, .ref q0, .ref q1, .ref q2, .int 0, .ref q3, .int 0, .ref q4, .int 0, .ref q5, .ref q6, .int 0, .int 0, .ref q7, .ref q8, .ref q9, .int 0, .ref q10, .ref q11, .ref q12, .int 0, .int 0, .int 0, .ref q13])), (q0, .inl (y 1, 200, .inl (fun _ => 0))), (q1, .inl (y 1, 132, .inl (upd (upd (upd (upd (fun _ => 0) (Int32.toNatClampNeg (0 : Int32)) (30 : Int32)) (Int32.toNatClampNeg (1 : Int32)) (2 : Int32)) (Int32.toNatClampNeg (3 : Int32)) (3 : Int32)) (Int32.toNatClampNeg (4 : Int32)) (10 : Int32)))), (q2, .inl (y 1, 792, .inl (fun _ => 0))), (q3, .inl (y 1, 132, .inl (fun _ => 0))), (q4, .inl (y 1, 4, .inl (fun _ => 0))), (q5, .inl (y 1, 16, .inl (fun _ => 0))), (q6, .inl (y 1, 16, .inl (fun _ => 0))), (q7, .inl (y 1, 32, .inl (fun _ => 0))), (q8, .inl (y 1, 32, .inl (fun _ => 0))), (q9, .inl (y 1, 32, .inl (fun _ => 0))), (q10, .inl (y 1, 33, .inl (fun _ => 0))), (q11, .inl (y 1, 2200, .inl (fun _ => 0))), (q12, .inl (y 1, 4, .inl (fun _ => 0))), (q13, .inl (y 2, 440, .inl (fun _ => 0)))]) B 2 1 rfl rfl (inb_in (by decide)) rfl dX9_init_149 ?_
  refine K_aload (pc := 150) (x := h0) B 0 rfl dX9_init_150 ?_
  refine K_get (pc := 151) (k := 2) (v := .ref q1) B 0 rfl rfl ingX9 (by decide) wk_48 rfl dX9_init_151 ?_
  refine K_iconst (pc := 154) (v := (5 : Int32)) B (by decide) dX9_init_154 ?_
  refine K_bipush (pc := 155) (v := (14 : Int32)) B (by decide) dX9_init_155 ?_
  refine K_iast (pc := 157) (ws' := [(h0, .inr (9, [.int 0, .ref q0, .ref q1, .ref q2, .int 0, .ref q3, .int 0, .ref q4, .int 0, .ref q5, .ref q6, .int 0, .int 0, .ref q7, .ref q8, .ref q9, .int 0, .ref q10, .ref q11, .ref q12, .int 0, .int 0, .int 0, .ref q13])), (q0, .inl (y 1, 200, .inl (fun _ => 0))), (q1, .inl (y 1, 132, .inl (upd (upd (upd (upd (upd (fun _ => 0) (Int32.toNatClampNeg (0 : Int32)) (30 : Int32)) (Int32.toNatClampNeg (1 : Int32)) (2 : Int32)) (Int32.toNatClampNeg (3 : Int32)) (3 : Int32)) (Int32.toNatClampNeg (4 : Int32)) (10 : Int32)) (Int32.toNatClampNeg (5 : Int32)) (14 : Int32)))), (q2, .inl (y 1, 792, .inl (fun _ => 0))), (q3, .inl (y 1, 132, .inl (fun _ => 0))), (q4, .inl (y 1, 4, .inl (fun _ => 0))), (q5, .inl (y 1, 16, .inl (fun _ => 0))), (q6, .inl (y 1, 16, .inl (fun _ => 0))), (q7, .inl (y 1, 32, .inl (fun _ => 0))), (q8, .inl (y 1, 32, .inl (fun _ => 0))), (q9, .inl (y 1, 32, .inl (fun _ => 0))), (q10, .inl (y 1, 33, .inl (fun _ => 0))), (q11, .inl (y 1, 2200, .inl (fun _ => 0))), (q12, .inl (y 1, 4, .inl (fun _ => 0))), (q13, .inl (y 2, 440, .inl (fun _ => 0)))]) B 2 1 rfl rfl (inb_in (by decide)) rfl dX9_init_157 ?_
  refine K_aload (pc := 158) (x := h0) B 0 rfl dX9_init_158 ?_
  refine K_get (pc := 159) (k := 2) (v := .ref q1) B 0 rfl rfl ingX9 (by decide) wk_48 rfl dX9_init_159 ?_
  refine K_bipush (pc := 162) (v := (6 : Int32)) B (by decide) dX9_init_162 ?_
  refine K_bipush (pc := 164) (v := (10 : Int32)) B (by decide) dX9_init_164 ?_
  refine K_iast (pc := 166) (ws' := [(h0, .inr (9, [.int 0, .ref q0, .ref q1, .ref q2, .int 0, .ref q3, .int 0, .ref q4, .int 0, .ref q5, .ref q6, .int 0, .int 0, .ref q7, .ref q8, .ref q9, .int 0, .ref q10, .ref q11, .ref q12, .int 0, .int 0, .int 0, .ref q13])), (q0, .inl (y 1, 200, .inl (fun _ => 0))), (q1, .inl (y 1, 132, .inl (upd (upd (upd (upd (upd (upd (fun _ => 0) (Int32.toNatClampNeg (0 : Int32)) (30 : Int32)) (Int32.toNatClampNeg (1 : Int32)) (2 : Int32)) (Int32.toNatClampNeg (3 : Int32)) (3 : Int32)) (Int32.toNatClampNeg (4 : Int32)) (10 : Int32)) (Int32.toNatClampNeg (5 : Int32)) (14 : Int32)) (Int32.toNatClampNeg (6 : Int32)) (10 : Int32)))), (q2, .inl (y 1, 792, .inl (fun _ => 0))), (q3, .inl (y 1, 132, .inl (fun _ => 0))), (q4, .inl (y 1, 4, .inl (fun _ => 0))), (q5, .inl (y 1, 16, .inl (fun _ => 0))), (q6, .inl (y 1, 16, .inl (fun _ => 0))), (q7, .inl (y 1, 32, .inl (fun _ => 0))), (q8, .inl (y 1, 32, .inl (fun _ => 0))), (q9, .inl (y 1, 32, .inl (fun _ => 0))), (q10, .inl (y 1, 33, .inl (fun _ => 0))), (q11, .inl (y 1, 2200, .inl (fun _ => 0))), (q12, .inl (y 1, 4, .inl (fun _ => 0))), (q13, .inl (y 2, 440, .inl (fun _ => 0)))]) B 2 1 rfl rfl (inb_in (by decide)) rfl dX9_init_166 ?_
  refine K_aload (pc := 167) (x := h0) B 0 rfl dX9_init_167 ?_
  refine K_get (pc := 168) (k := 2) (v := .ref q1) B 0 rfl rfl ingX9 (by decide) wk_48 rfl dX9_init_168 ?_
  refine K_bipush (pc := 171) (v := (7 : Int32)) B (by decide) dX9_init_171 ?_
  refine K_bipush (pc := 173) (v := (10 : Int32)) B (by decide) dX9_init_173 ?_
  refine K_iast (pc := 175) (ws' := [(h0, .inr (9, [.int 0, .ref q0, .ref q1, .ref q2, .int 0, .ref q3, .int 0, .ref q4, .int 0, .ref q5, .ref q6, .int 0, .int 0, .ref q7, .ref q8, .ref q9, .int 0, .ref q10, .ref q11, .ref q12, .int 0, .int 0, .int 0, .ref q13])), (q0, .inl (y 1, 200, .inl (fun _ => 0))), (q1, .inl (y 1, 132, .inl (upd (upd (upd (upd (upd (upd (upd (fun _ => 0) (Int32.toNatClampNeg (0 : Int32)) (30 : Int32)) (Int32.toNatClampNeg (1 : Int32)) (2 : Int32)) (Int32.toNatClampNeg (3 : Int32)) (3 : Int32)) (Int32.toNatClampNeg (4 : Int32)) (10 : Int32)) (Int32.toNatClampNeg (5 : Int32)) (14 : Int32)) (Int32.toNatClampNeg (6 : Int32)) (10 : Int32)) (Int32.toNatClampNeg (7 : Int32)) (10 : Int32)))), (q2, .inl (y 1, 792, .inl (fun _ => 0))), (q3, .inl (y 1, 132, .inl (fun _ => 0))), (q4, .inl (y 1, 4, .inl (fun _ => 0))), (q5, .inl (y 1, 16, .inl (fun _ => 0))), (q6, .inl (y 1, 16, .inl (fun _ => 0))), (q7, .inl (y 1, 32, .inl (fun _ => 0))), (q8, .inl (y 1, 32, .inl (fun _ => 0))), (q9, .inl (y 1, 32, .inl (fun _ => 0))), (q10, .inl (y 1, 33, .inl (fun _ => 0))), (q11, .inl (y 1, 2200, .inl (fun _ => 0))), (q12, .inl (y 1, 4, .inl (fun _ => 0))), (q13, .inl (y 2, 440, .inl (fun _ => 0)))]) B 2 1 rfl rfl (inb_in (by decide)) rfl dX9_init_175 ?_
  refine K_aload (pc := 176) (x := h0) B 0 rfl dX9_init_176 ?_
  refine K_get (pc := 177) (k := 2) (v := .ref q1) B 0 rfl rfl ingX9 (by decide) wk_48 rfl dX9_init_177 ?_
  refine K_bipush (pc := 180) (v := (8 : Int32)) B (by decide) dX9_init_180 ?_
  refine K_iconst (pc := 182) (v := (1 : Int32)) B (by decide) dX9_init_182 ?_
  refine K_iast (pc := 183) (ws' := [(h0, .inr (9, [.int 0, .ref q0, .ref q1, .ref q2, .int 0, .ref q3, .int 0, .ref q4, .int 0, .ref q5, .ref q6, .int 0, .int 0, .ref q7, .ref q8, .ref q9, .int 0, .ref q10, .ref q11, .ref q12, .int 0, .int 0, .int 0, .ref q13])), (q0, .inl (y 1, 200, .inl (fun _ => 0))), (q1, .inl (y 1, 132, .inl (upd (upd (upd (upd (upd (upd (upd (upd (fun _ => 0) (Int32.toNatClampNeg (0 : Int32)) (30 : Int32)) (Int32.toNatClampNeg (1 : Int32)) (2 : Int32)) (Int32.toNatClampNeg (3 : Int32)) (3 : Int32)) (Int32.toNatClampNeg (4 : Int32)) (10 : Int32)) (Int32.toNatClampNeg (5 : Int32)) (14 : Int32)) (Int32.toNatClampNeg (6 : Int32)) (10 : Int32)) (Int32.toNatClampNeg (7 : Int32)) (10 : Int32)) (Int32.toNatClampNeg (8 : Int32)) (1 : Int32)))), (q2, .inl (y 1, 792, .inl (fun _ => 0))), (q3, .inl (y 1, 132, .inl (fun _ => 0))), (q4, .inl (y 1, 4, .inl (fun _ => 0))), (q5, .inl (y 1, 16, .inl (fun _ => 0))), (q6, .inl (y 1, 16, .inl (fun _ => 0))), (q7, .inl (y 1, 32, .inl (fun _ => 0))), (q8, .inl (y 1, 32, .inl (fun _ => 0))), (q9, .inl (y 1, 32, .inl (fun _ => 0))), (q10, .inl (y 1, 33, .inl (fun _ => 0))), (q11, .inl (y 1, 2200, .inl (fun _ => 0))), (q12, .inl (y 1, 4, .inl (fun _ => 0))), (q13, .inl (y 2, 440, .inl (fun _ => 0)))]) B 2 1 rfl rfl (inb_in (by decide)) rfl dX9_init_183 ?_
  refine K_aload (pc := 184) (x := h0) B 0 rfl dX9_init_184 ?_
  refine K_get (pc := 185) (k := 2) (v := .ref q1) B 0 rfl rfl ingX9 (by decide) wk_48 rfl dX9_init_185 ?_
  refine K_bipush (pc := 188) (v := (9 : Int32)) B (by decide) dX9_init_188 ?_
  refine K_bipush (pc := 190) (v := (108 : Int32)) B (by decide) dX9_init_190 ?_
  refine K_iast (pc := 192) (ws' := [(h0, .inr (9, [.int 0, .ref q0, .ref q1, .ref q2, .int 0, .ref q3, .int 0, .ref q4, .int 0, .ref q5, .ref q6, .int 0, .int 0, .ref q7, .ref q8, .ref q9, .int 0, .ref q10, .ref q11, .ref q12, .int 0, .int 0, .int 0, .ref q13])), (q0, .inl (y 1, 200, .inl (fun _ => 0))), (q1, .inl (y 1, 132, .inl (upd (upd (upd (upd (upd (upd (upd (upd (upd (fun _ => 0) (Int32.toNatClampNeg (0 : Int32)) (30 : Int32)) (Int32.toNatClampNeg (1 : Int32)) (2 : Int32)) (Int32.toNatClampNeg (3 : Int32)) (3 : Int32)) (Int32.toNatClampNeg (4 : Int32)) (10 : Int32)) (Int32.toNatClampNeg (5 : Int32)) (14 : Int32)) (Int32.toNatClampNeg (6 : Int32)) (10 : Int32)) (Int32.toNatClampNeg (7 : Int32)) (10 : Int32)) (Int32.toNatClampNeg (8 : Int32)) (1 : Int32)) (Int32.toNatClampNeg (9 : Int32)) (108 : Int32)))), (q2, .inl (y 1, 792, .inl (fun _ => 0))), (q3, .inl (y 1, 132, .inl (fun _ => 0))), (q4, .inl (y 1, 4, .inl (fun _ => 0))), (q5, .inl (y 1, 16, .inl (fun _ => 0))), (q6, .inl (y 1, 16, .inl (fun _ => 0))), (q7, .inl (y 1, 32, .inl (fun _ => 0))), (q8, .inl (y 1, 32, .inl (fun _ => 0))), (q9, .inl (y 1, 32, .inl (fun _ => 0))), (q10, .inl (y 1, 33, .inl (fun _ => 0))), (q11, .inl (y 1, 2200, .inl (fun _ => 0))), (q12, .inl (y 1, 4, .inl (fun _ => 0))), (q13, .inl (y 2, 440, .inl (fun _ => 0)))]) B 2 1 rfl rfl (inb_in (by decide)) rfl dX9_init_192 ?_
  refine K_aload (pc := 193) (x := h0) B 0 rfl dX9_init_193 ?_
  refine K_get (pc := 194) (k := 2) (v := .ref q1) B 0 rfl rfl ingX9 (by decide) wk_48 rfl dX9_init_194 ?_
  refine K_bipush (pc := 197) (v := (13 : Int32)) B (by decide) dX9_init_197 ?_
  refine K_iconst (pc := 199) (v := (3 : Int32)) B (by decide) dX9_init_199 ?_
  refine K_iast (pc := 200) (ws' := [(h0, .inr (9, [.int 0, .ref q0, .ref q1, .ref q2, .int 0, .ref q3, .int 0, .ref q4, .int 0, .ref q5, .ref q6, .int 0, .int 0, .ref q7, .ref q8, .ref q9, .int 0, .ref q10, .ref q11, .ref q12, .int 0, .int 0, .int 0, .ref q13])), (q0, .inl (y 1, 200, .inl (fun _ => 0))), (q1, .inl (y 1, 132, .inl (upd (upd (upd (upd (upd (upd (upd (upd (upd (upd (fun _ => 0) (Int32.toNatClampNeg (0 : Int32)) (30 : Int32)) (Int32.toNatClampNeg (1 : Int32)) (2 : Int32)) (Int32.toNatClampNeg (3 : Int32)) (3 : Int32)) (Int32.toNatClampNeg (4 : Int32)) (10 : Int32)) (Int32.toNatClampNeg (5 : Int32)) (14 : Int32)) (Int32.toNatClampNeg (6 : Int32)) (10 : Int32)) (Int32.toNatClampNeg (7 : Int32)) (10 : Int32)) (Int32.toNatClampNeg (8 : Int32)) (1 : Int32)) (Int32.toNatClampNeg (9 : Int32)) (108 : Int32)) (Int32.toNatClampNeg (13 : Int32)) (3 : Int32)))), (q2, .inl (y 1, 792, .inl (fun _ => 0))), (q3, .inl (y 1, 132, .inl (fun _ => 0))), (q4, .inl (y 1, 4, .inl (fun _ => 0))), (q5, .inl (y 1, 16, .inl (fun _ => 0))), (q6, .inl (y 1, 16, .inl (fun _ => 0))), (q7, .inl (y 1, 32, .inl (fun _ => 0))), (q8, .inl (y 1, 32, .inl (fun _ => 0))), (q9, .inl (y 1, 32, .inl (fun _ => 0))), (q10, .inl (y 1, 33, .inl (fun _ => 0))), (q11, .inl (y 1, 2200, .inl (fun _ => 0))), (q12, .inl (y 1, 4, .inl (fun _ => 0))), (q13, .inl (y 2, 440, .inl (fun _ => 0)))]) B 2 1 rfl rfl (inb_in (by decide)) rfl dX9_init_200 ?_
  refine K_aload (pc := 201) (x := h0) B 0 rfl dX9_init_201 ?_
  refine K_get (pc := 202) (k := 2) (v := .ref q1) B 0 rfl rfl ingX9 (by decide) wk_48 rfl dX9_init_202 ?_
  refine K_bipush (pc := 205) (v := (14 : Int32)) B (by decide) dX9_init_205 ?_
  refine K_bipush (pc := 207) (v := (114 : Int32)) B (by decide) dX9_init_207 ?_
  refine K_iast (pc := 209) (ws' := [(h0, .inr (9, [.int 0, .ref q0, .ref q1, .ref q2, .int 0, .ref q3, .int 0, .ref q4, .int 0, .ref q5, .ref q6, .int 0, .int 0, .ref q7, .ref q8, .ref q9, .int 0, .ref q10, .ref q11, .ref q12, .int 0, .int 0, .int 0, .ref q13])), (q0, .inl (y 1, 200, .inl (fun _ => 0))), (q1, .inl (y 1, 132, .inl (upd (upd (upd (upd (upd (upd (upd (upd (upd (upd (upd (fun _ => 0) (Int32.toNatClampNeg (0 : Int32)) (30 : Int32)) (Int32.toNatClampNeg (1 : Int32)) (2 : Int32)) (Int32.toNatClampNeg (3 : Int32)) (3 : Int32)) (Int32.toNatClampNeg (4 : Int32)) (10 : Int32)) (Int32.toNatClampNeg (5 : Int32)) (14 : Int32)) (Int32.toNatClampNeg (6 : Int32)) (10 : Int32)) (Int32.toNatClampNeg (7 : Int32)) (10 : Int32)) (Int32.toNatClampNeg (8 : Int32)) (1 : Int32)) (Int32.toNatClampNeg (9 : Int32)) (108 : Int32)) (Int32.toNatClampNeg (13 : Int32)) (3 : Int32)) (Int32.toNatClampNeg (14 : Int32)) (114 : Int32)))), (q2, .inl (y 1, 792, .inl (fun _ => 0))), (q3, .inl (y 1, 132, .inl (fun _ => 0))), (q4, .inl (y 1, 4, .inl (fun _ => 0))), (q5, .inl (y 1, 16, .inl (fun _ => 0))), (q6, .inl (y 1, 16, .inl (fun _ => 0))), (q7, .inl (y 1, 32, .inl (fun _ => 0))), (q8, .inl (y 1, 32, .inl (fun _ => 0))), (q9, .inl (y 1, 32, .inl (fun _ => 0))), (q10, .inl (y 1, 33, .inl (fun _ => 0))), (q11, .inl (y 1, 2200, .inl (fun _ => 0))), (q12, .inl (y 1, 4, .inl (fun _ => 0))), (q13, .inl (y 2, 440, .inl (fun _ => 0)))]) B 2 1 rfl rfl (inb_in (by decide)) rfl dX9_init_209 ?_
  refine K_aload (pc := 210) (x := h0) B 0 rfl dX9_init_210 ?_
  refine K_get (pc := 211) (k := 2) (v := .ref q1) B 0 rfl rfl ingX9 (by decide) wk_48 rfl dX9_init_211 ?_
  refine K_bipush (pc := 214) (v := (15 : Int32)) B (by decide) dX9_init_214 ?_
  refine K_bipush (pc := 216) (v := (98 : Int32)) B (by decide) dX9_init_216 ?_
  refine K_iast (pc := 218) (ws' := [(h0, .inr (9, [.int 0, .ref q0, .ref q1, .ref q2, .int 0, .ref q3, .int 0, .ref q4, .int 0, .ref q5, .ref q6, .int 0, .int 0, .ref q7, .ref q8, .ref q9, .int 0, .ref q10, .ref q11, .ref q12, .int 0, .int 0, .int 0, .ref q13])), (q0, .inl (y 1, 200, .inl (fun _ => 0))), (q1, .inl (y 1, 132, .inl (upd (upd (upd (upd (upd (upd (upd (upd (upd (upd (upd (upd (fun _ => 0) (Int32.toNatClampNeg (0 : Int32)) (30 : Int32)) (Int32.toNatClampNeg (1 : Int32)) (2 : Int32)) (Int32.toNatClampNeg (3 : Int32)) (3 : Int32)) (Int32.toNatClampNeg (4 : Int32)) (10 : Int32)) (Int32.toNatClampNeg (5 : Int32)) (14 : Int32)) (Int32.toNatClampNeg (6 : Int32)) (10 : Int32)) (Int32.toNatClampNeg (7 : Int32)) (10 : Int32)) (Int32.toNatClampNeg (8 : Int32)) (1 : Int32)) (Int32.toNatClampNeg (9 : Int32)) (108 : Int32)) (Int32.toNatClampNeg (13 : Int32)) (3 : Int32)) (Int32.toNatClampNeg (14 : Int32)) (114 : Int32)) (Int32.toNatClampNeg (15 : Int32)) (98 : Int32)))), (q2, .inl (y 1, 792, .inl (fun _ => 0))), (q3, .inl (y 1, 132, .inl (fun _ => 0))), (q4, .inl (y 1, 4, .inl (fun _ => 0))), (q5, .inl (y 1, 16, .inl (fun _ => 0))), (q6, .inl (y 1, 16, .inl (fun _ => 0))), (q7, .inl (y 1, 32, .inl (fun _ => 0))), (q8, .inl (y 1, 32, .inl (fun _ => 0))), (q9, .inl (y 1, 32, .inl (fun _ => 0))), (q10, .inl (y 1, 33, .inl (fun _ => 0))), (q11, .inl (y 1, 2200, .inl (fun _ => 0))), (q12, .inl (y 1, 4, .inl (fun _ => 0))), (q13, .inl (y 2, 440, .inl (fun _ => 0)))]) B 2 1 rfl rfl (inb_in (by decide)) rfl dX9_init_218 ?_
  refine K_aload (pc := 219) (x := h0) B 0 rfl dX9_init_219 ?_
  refine K_get (pc := 220) (k := 2) (v := .ref q1) B 0 rfl rfl ingX9 (by decide) wk_48 rfl dX9_init_220 ?_
  refine K_bipush (pc := 223) (v := (16 : Int32)) B (by decide) dX9_init_223 ?_
  refine K_bipush (pc := 225) (v := (108 : Int32)) B (by decide) dX9_init_225 ?_
  refine K_iast (pc := 227) (ws' := [(h0, .inr (9, [.int 0, .ref q0, .ref q1, .ref q2, .int 0, .ref q3, .int 0, .ref q4, .int 0, .ref q5, .ref q6, .int 0, .int 0, .ref q7, .ref q8, .ref q9, .int 0, .ref q10, .ref q11, .ref q12, .int 0, .int 0, .int 0, .ref q13])), (q0, .inl (y 1, 200, .inl (fun _ => 0))), (q1, .inl (y 1, 132, .inl (upd (upd (upd (upd (upd (upd (upd (upd (upd (upd (upd (upd (upd (fun _ => 0) (Int32.toNatClampNeg (0 : Int32)) (30 : Int32)) (Int32.toNatClampNeg (1 : Int32)) (2 : Int32)) (Int32.toNatClampNeg (3 : Int32)) (3 : Int32)) (Int32.toNatClampNeg (4 : Int32)) (10 : Int32)) (Int32.toNatClampNeg (5 : Int32)) (14 : Int32)) (Int32.toNatClampNeg (6 : Int32)) (10 : Int32)) (Int32.toNatClampNeg (7 : Int32)) (10 : Int32)) (Int32.toNatClampNeg (8 : Int32)) (1 : Int32)) (Int32.toNatClampNeg (9 : Int32)) (108 : Int32)) (Int32.toNatClampNeg (13 : Int32)) (3 : Int32)) (Int32.toNatClampNeg (14 : Int32)) (114 : Int32)) (Int32.toNatClampNeg (15 : Int32)) (98 : Int32)) (Int32.toNatClampNeg (16 : Int32)) (108 : Int32)))), (q2, .inl (y 1, 792, .inl (fun _ => 0))), (q3, .inl (y 1, 132, .inl (fun _ => 0))), (q4, .inl (y 1, 4, .inl (fun _ => 0))), (q5, .inl (y 1, 16, .inl (fun _ => 0))), (q6, .inl (y 1, 16, .inl (fun _ => 0))), (q7, .inl (y 1, 32, .inl (fun _ => 0))), (q8, .inl (y 1, 32, .inl (fun _ => 0))), (q9, .inl (y 1, 32, .inl (fun _ => 0))), (q10, .inl (y 1, 33, .inl (fun _ => 0))), (q11, .inl (y 1, 2200, .inl (fun _ => 0))), (q12, .inl (y 1, 4, .inl (fun _ => 0))), (q13, .inl (y 2, 440, .inl (fun _ => 0)))]) B 2 1 rfl rfl (inb_in (by decide)) rfl dX9_init_227 ?_
  refine K_aload (pc := 228) (x := h0) B 0 rfl dX9_init_228 ?_
  refine K_get (pc := 229) (k := 2) (v := .ref q1) B 0 rfl rfl ingX9 (by decide) wk_48 rfl dX9_init_229 ?_
  refine K_bipush (pc := 232) (v := (18 : Int32)) B (by decide) dX9_init_232 ?_
  refine K_iconst (pc := 234) (v := (2 : Int32)) B (by decide) dX9_init_234 ?_
  refine K_iast (pc := 235) (ws' := [(h0, .inr (9, [.int 0, .ref q0, .ref q1, .ref q2, .int 0, .ref q3, .int 0, .ref q4, .int 0, .ref q5, .ref q6, .int 0, .int 0, .ref q7, .ref q8, .ref q9, .int 0, .ref q10, .ref q11, .ref q12, .int 0, .int 0, .int 0, .ref q13])), (q0, .inl (y 1, 200, .inl (fun _ => 0))), (q1, .inl (y 1, 132, .inl (upd (upd (upd (upd (upd (upd (upd (upd (upd (upd (upd (upd (upd (upd (fun _ => 0) (Int32.toNatClampNeg (0 : Int32)) (30 : Int32)) (Int32.toNatClampNeg (1 : Int32)) (2 : Int32)) (Int32.toNatClampNeg (3 : Int32)) (3 : Int32)) (Int32.toNatClampNeg (4 : Int32)) (10 : Int32)) (Int32.toNatClampNeg (5 : Int32)) (14 : Int32)) (Int32.toNatClampNeg (6 : Int32)) (10 : Int32)) (Int32.toNatClampNeg (7 : Int32)) (10 : Int32)) (Int32.toNatClampNeg (8 : Int32)) (1 : Int32)) (Int32.toNatClampNeg (9 : Int32)) (108 : Int32)) (Int32.toNatClampNeg (13 : Int32)) (3 : Int32)) (Int32.toNatClampNeg (14 : Int32)) (114 : Int32)) (Int32.toNatClampNeg (15 : Int32)) (98 : Int32)) (Int32.toNatClampNeg (16 : Int32)) (108 : Int32)) (Int32.toNatClampNeg (18 : Int32)) (2 : Int32)))), (q2, .inl (y 1, 792, .inl (fun _ => 0))), (q3, .inl (y 1, 132, .inl (fun _ => 0))), (q4, .inl (y 1, 4, .inl (fun _ => 0))), (q5, .inl (y 1, 16, .inl (fun _ => 0))), (q6, .inl (y 1, 16, .inl (fun _ => 0))), (q7, .inl (y 1, 32, .inl (fun _ => 0))), (q8, .inl (y 1, 32, .inl (fun _ => 0))), (q9, .inl (y 1, 32, .inl (fun _ => 0))), (q10, .inl (y 1, 33, .inl (fun _ => 0))), (q11, .inl (y 1, 2200, .inl (fun _ => 0))), (q12, .inl (y 1, 4, .inl (fun _ => 0))), (q13, .inl (y 2, 440, .inl (fun _ => 0)))]) B 2 1 rfl rfl (inb_in (by decide)) rfl dX9_init_235 ?_
  refine K_aload (pc := 236) (x := h0) B 0 rfl dX9_init_236 ?_
  refine K_get (pc := 237) (k := 2) (v := .ref q1) B 0 rfl rfl ingX9 (by decide) wk_48 rfl dX9_init_237 ?_
  refine K_bipush (pc := 240) (v := (19 : Int32)) B (by decide) dX9_init_240 ?_
  refine K_bipush (pc := 242) (v := (116 : Int32)) B (by decide) dX9_init_242 ?_
  refine K_iast (pc := 244) (ws' := [(h0, .inr (9, [.int 0, .ref q0, .ref q1, .ref q2, .int 0, .ref q3, .int 0, .ref q4, .int 0, .ref q5, .ref q6, .int 0, .int 0, .ref q7, .ref q8, .ref q9, .int 0, .ref q10, .ref q11, .ref q12, .int 0, .int 0, .int 0, .ref q13])), (q0, .inl (y 1, 200, .inl (fun _ => 0))), (q1, .inl (y 1, 132, .inl (upd (upd (upd (upd (upd (upd (upd (upd (upd (upd (upd (upd (upd (upd (upd (fun _ => 0) (Int32.toNatClampNeg (0 : Int32)) (30 : Int32)) (Int32.toNatClampNeg (1 : Int32)) (2 : Int32)) (Int32.toNatClampNeg (3 : Int32)) (3 : Int32)) (Int32.toNatClampNeg (4 : Int32)) (10 : Int32)) (Int32.toNatClampNeg (5 : Int32)) (14 : Int32)) (Int32.toNatClampNeg (6 : Int32)) (10 : Int32)) (Int32.toNatClampNeg (7 : Int32)) (10 : Int32)) (Int32.toNatClampNeg (8 : Int32)) (1 : Int32)) (Int32.toNatClampNeg (9 : Int32)) (108 : Int32)) (Int32.toNatClampNeg (13 : Int32)) (3 : Int32)) (Int32.toNatClampNeg (14 : Int32)) (114 : Int32)) (Int32.toNatClampNeg (15 : Int32)) (98 : Int32)) (Int32.toNatClampNeg (16 : Int32)) (108 : Int32)) (Int32.toNatClampNeg (18 : Int32)) (2 : Int32)) (Int32.toNatClampNeg (19 : Int32)) (116 : Int32)))), (q2, .inl (y 1, 792, .inl (fun _ => 0))), (q3, .inl (y 1, 132, .inl (fun _ => 0))), (q4, .inl (y 1, 4, .inl (fun _ => 0))), (q5, .inl (y 1, 16, .inl (fun _ => 0))), (q6, .inl (y 1, 16, .inl (fun _ => 0))), (q7, .inl (y 1, 32, .inl (fun _ => 0))), (q8, .inl (y 1, 32, .inl (fun _ => 0))), (q9, .inl (y 1, 32, .inl (fun _ => 0))), (q10, .inl (y 1, 33, .inl (fun _ => 0))), (q11, .inl (y 1, 2200, .inl (fun _ => 0))), (q12, .inl (y 1, 4, .inl (fun _ => 0))), (q13, .inl (y 2, 440, .inl (fun _ => 0)))]) B 2 1 rfl rfl (inb_in (by decide)) rfl dX9_init_244 ?_
  refine K_aload (pc := 245) (x := h0) B 0 rfl dX9_init_245 ?_
  refine K_get (pc := 246) (k := 2) (v := .ref q1) B 0 rfl rfl ingX9 (by decide) wk_48 rfl dX9_init_246 ?_
  refine K_bipush (pc := 249) (v := (20 : Int32)) B (by decide) dX9_init_249 ?_
  refine K_bipush (pc := 251) (v := (114 : Int32)) B (by decide) dX9_init_251 ?_
  refine K_iast (pc := 253) (ws' := [(h0, .inr (9, [.int 0, .ref q0, .ref q1, .ref q2, .int 0, .ref q3, .int 0, .ref q4, .int 0, .ref q5, .ref q6, .int 0, .int 0, .ref q7, .ref q8, .ref q9, .int 0, .ref q10, .ref q11, .ref q12, .int 0, .int 0, .int 0, .ref q13])), (q0, .inl (y 1, 200, .inl (fun _ => 0))), (q1, .inl (y 1, 132, .inl (upd (upd (upd (upd (upd (upd (upd (upd (upd (upd (upd (upd (upd (upd (upd (upd (fun _ => 0) (Int32.toNatClampNeg (0 : Int32)) (30 : Int32)) (Int32.toNatClampNeg (1 : Int32)) (2 : Int32)) (Int32.toNatClampNeg (3 : Int32)) (3 : Int32)) (Int32.toNatClampNeg (4 : Int32)) (10 : Int32)) (Int32.toNatClampNeg (5 : Int32)) (14 : Int32)) (Int32.toNatClampNeg (6 : Int32)) (10 : Int32)) (Int32.toNatClampNeg (7 : Int32)) (10 : Int32)) (Int32.toNatClampNeg (8 : Int32)) (1 : Int32)) (Int32.toNatClampNeg (9 : Int32)) (108 : Int32)) (Int32.toNatClampNeg (13 : Int32)) (3 : Int32)) (Int32.toNatClampNeg (14 : Int32)) (114 : Int32)) (Int32.toNatClampNeg (15 : Int32)) (98 : Int32)) (Int32.toNatClampNeg (16 : Int32)) (108 : Int32)) (Int32.toNatClampNeg (18 : Int32)) (2 : Int32)) (Int32.toNatClampNeg (19 : Int32)) (116 : Int32)) (Int32.toNatClampNeg (20 : Int32)) (114 : Int32)))), (q2, .inl (y 1, 792, .inl (fun _ => 0))), (q3, .inl (y 1, 132, .inl (fun _ => 0))), (q4, .inl (y 1, 4, .inl (fun _ => 0))), (q5, .inl (y 1, 16, .inl (fun _ => 0))), (q6, .inl (y 1, 16, .inl (fun _ => 0))), (q7, .inl (y 1, 32, .inl (fun _ => 0))), (q8, .inl (y 1, 32, .inl (fun _ => 0))), (q9, .inl (y 1, 32, .inl (fun _ => 0))), (q10, .inl (y 1, 33, .inl (fun _ => 0))), (q11, .inl (y 1, 2200, .inl (fun _ => 0))), (q12, .inl (y 1, 4, .inl (fun _ => 0))), (q13, .inl (y 2, 440, .inl (fun _ => 0)))]) B 2 1 rfl rfl (inb_in (by decide)) rfl dX9_init_253 ?_
  exact K_ret (pc := 254) B (fun i => [h0, q0, q1, q2, q3, q4, q5, q6, q7, q8, q9, q10, q11, q12, q13].getD i 0) rfl rfl dX9_init_254

theorem tb1 {w : Cond} (i : Nat) (h : tables_1_1[i]? = some w) (g : goodWord w = true) : w ∈ wsG := wsG_of (List.mem_append_left _ (List.mem_of_getElem? h)) g
theorem tb2 {w : Cond} (i : Nat) (h : tables_1_2[i]? = some w) (g : goodWord w = true) : w ∈ wsG := wsG_of (List.mem_append_right _ (List.mem_append_left _ (List.mem_of_getElem? h))) g
theorem tb3 {w : Cond} (i : Nat) (h : tables_1_3[i]? = some w) (g : goodWord w = true) : w ∈ wsG := wsG_of (List.mem_append_right _ (List.mem_append_right _ (List.mem_append_left _ (List.mem_of_getElem? h)))) g
theorem tb4 {w : Cond} (i : Nat) (h : tables_1_4[i]? = some w) (g : goodWord w = true) : w ∈ wsG := wsG_of (List.mem_append_right _ (List.mem_append_right _ (List.mem_append_right _ (List.mem_append_left _ (List.mem_of_getElem? h))))) g
theorem tb5 {w : Cond} (i : Nat) (h : tables_1_5[i]? = some w) (g : goodWord w = true) : w ∈ wsG := wsG_of (List.mem_append_right _ (List.mem_append_right _ (List.mem_append_right _ (List.mem_append_right _ (List.mem_of_getElem? h))))) g
theorem wd_0 : Cond.fieldLink RX8 12 "FoldedPages" "text" "LFoldedPages$Text;" ∈ wsG := tb3 27 (by decide +kernel) (by decide +kernel)
theorem wd_1 : Cond.fieldLink RX8 23 "FoldedPages" "read" "LFoldedPages$Told;" ∈ wsG := tb3 29 (by decide +kernel) (by decide +kernel)
theorem wd_2 : Cond.fieldLink RX7 27 "FoldedPages$Told" "schemes" "I" ∈ wsG := tb1 46 (by decide +kernel) (by decide +kernel)
theorem wd_3 : Cond.fieldLink RX7 9 "FoldedPages$Told" "numbers" "[I" ∈ wsG := tb1 51 (by decide +kernel) (by decide +kernel)
theorem wd_4 : Cond.fieldLink RX7 24 "FoldedPages$Told" "spoiled" "[I" ∈ wsG := tb1 64 (by decide +kernel) (by decide +kernel)
theorem wd_5 : Cond.selects RX7 yX7_unspoil yX7_unspoil ∈ wsG := tb2 52 (by decide +kernel) (by decide +kernel)
theorem wd_6 : Cond.instanceMethod yX7_unspoil ∈ wsG := tb2 51 (by decide +kernel) (by decide +kernel)
theorem wd_7 : Cond.methodLink RX7 34 yX7_unspoil ∈ wsG := tb2 50 (by decide +kernel) (by decide +kernel)
theorem wd_8 : Cond.initialized RX7 ∈ wsG := tb1 3 (by decide +kernel) (by decide +kernel)
theorem wd_9 : Cond.code yX7_unspoil cX7_unspoil 2 none ∈ wsG := tb2 53 (by decide +kernel) (by decide +kernel)
theorem wd_10 : Cond.selects RX7 yX7_tellNothing yX7_tellNothing ∈ wsG := tb2 46 (by decide +kernel) (by decide +kernel)
theorem wd_11 : Cond.instanceMethod yX7_tellNothing ∈ wsG := tb2 45 (by decide +kernel) (by decide +kernel)
theorem wd_12 : Cond.methodLink RX6 19 yX7_tellNothing ∈ wsG := tb2 44 (by decide +kernel) (by decide +kernel)
theorem wd_13 : Cond.code yX7_tellNothing cX7_tellNothing 2 none ∈ wsG := tb2 47 (by decide +kernel) (by decide +kernel)
theorem wd_14 : Cond.fieldLink RX6 15 "FoldedPages$Text" "length" "I" ∈ wsG := tb1 33 (by decide +kernel) (by decide +kernel)
theorem wd_15 : Cond.fieldLink RX6 9 "FoldedPages$Text" "letters" "[C" ∈ wsG := tb1 31 (by decide +kernel) (by decide +kernel)
theorem wd_16 : Cond.methodLink RX6 36 yJ0_indexOf_0f7a4 ∈ wsG := tb2 67 (by decide +kernel) (by decide +kernel)
theorem wd_17 : Cond.initialized RJ0 ∈ wsG := tb1 10 (by decide +kernel) (by decide +kernel)
theorem wd_18 : Cond.code yJ0_indexOf_0f7a4 cJ0_indexOf_0f7a4 2 (some .int) ∈ wsG := tb2 70 (by decide +kernel) (by decide +kernel)
theorem wd_19 : Cond.instanceMethod yJ0_indexOf_0f7a4 ∈ wsG := tb2 68 (by decide +kernel) (by decide +kernel)
theorem wd_20 : Cond.selects RJ0 yJ0_indexOf_0f7a4 yJ0_indexOf_0f7a4 ∈ wsG := tb2 69 (by decide +kernel) (by decide +kernel)
theorem wd_21 : Cond.static yX5_lastFigure ∈ wsG := tb2 127 (by decide +kernel) (by decide +kernel)
theorem wd_22 : Cond.methodLink RX6 78 yX5_lastFigure ∈ wsG := tb2 126 (by decide +kernel) (by decide +kernel)
theorem wd_23 : Cond.initialized RX5 ∈ wsG := tb1 5 (by decide +kernel) (by decide +kernel)
theorem wd_24 : Cond.code yX5_lastFigure cX5_lastFigure 1 (some .int) ∈ wsG := tb2 128 (by decide +kernel) (by decide +kernel)
theorem wd_25 : Cond.static yX5_isAcross ∈ wsG := tb2 130 (by decide +kernel) (by decide +kernel)
theorem wd_26 : Cond.methodLink RX6 83 yX5_isAcross ∈ wsG := tb2 129 (by decide +kernel) (by decide +kernel)
theorem wd_27 : Cond.code yX5_isAcross cX5_isAcross 1 (some .boolean) ∈ wsG := tb2 131 (by decide +kernel) (by decide +kernel)
theorem wd_28 : Cond.selects RX6 yX6_foldsIn yX6_foldsIn ∈ wsG := tb2 64 (by decide +kernel) (by decide +kernel)
theorem wd_29 : Cond.instanceMethod yX6_foldsIn ∈ wsG := tb2 63 (by decide +kernel) (by decide +kernel)
theorem wd_30 : Cond.methodLink RX6 46 yX6_foldsIn ∈ wsG := tb2 62 (by decide +kernel) (by decide +kernel)
theorem wd_31 : Cond.initialized RX6 ∈ wsG := tb1 2 (by decide +kernel) (by decide +kernel)
theorem wd_32 : Cond.code yX6_foldsIn cX6_foldsIn 6 (some .int) ∈ wsG := tb2 65 (by decide +kernel) (by decide +kernel)
theorem wd_33 : Cond.fieldLink RX6 50 "FoldedPages$Told" "schemes" "I" ∈ wsG := tb1 49 (by decide +kernel) (by decide +kernel)
theorem wd_34 : Cond.fieldLink RX7 15 "FoldedPages$Told" "foldCounts" "[I" ∈ wsG := tb1 56 (by decide +kernel) (by decide +kernel)
theorem wd_35 : Cond.fieldLink RX7 18 "FoldedPages$Told" "foldCodes" "[I" ∈ wsG := tb1 58 (by decide +kernel) (by decide +kernel)
theorem wd_36 : Cond.fieldLink RX7 21 "FoldedPages$Told" "prices" "[I" ∈ wsG := tb1 60 (by decide +kernel) (by decide +kernel)
theorem wd_37 : Cond.selects RX7 yX7_addScheme yX7_addScheme ∈ wsG := tb2 134 (by decide +kernel) (by decide +kernel)
theorem wd_38 : Cond.instanceMethod yX7_addScheme ∈ wsG := tb2 133 (by decide +kernel) (by decide +kernel)
theorem wd_39 : Cond.methodLink RX6 53 yX7_addScheme ∈ wsG := tb2 132 (by decide +kernel) (by decide +kernel)
theorem wd_40 : Cond.code yX7_addScheme cX7_addScheme 3 none ∈ wsG := tb2 135 (by decide +kernel) (by decide +kernel)
theorem wd_41 : Cond.selects RX6 yX6_readScheme yX6_readScheme ∈ wsG := wsG_sel (by decide +kernel) (by decide +kernel)
theorem wd_42 : Cond.instanceMethod yX6_readScheme ∈ wsG := tb2 60 (by decide +kernel) (by decide +kernel)
theorem wd_43 : Cond.methodLink RX6 28 yX6_readScheme ∈ wsG := tb2 58 (by decide +kernel) (by decide +kernel)
theorem wd_44 : Cond.code yX6_readScheme cX6_readScheme 5 (some .boolean) ∈ wsG := tb2 61 (by decide +kernel) (by decide +kernel)
theorem wd_45 : Cond.selects RX6 yX6_commaIn yX6_commaIn ∈ wsG := wsG_sel (by decide +kernel) (by decide +kernel)
theorem wd_46 : Cond.instanceMethod yX6_commaIn ∈ wsG := tb2 142 (by decide +kernel) (by decide +kernel)
theorem wd_47 : Cond.methodLink RX6 57 yX6_commaIn ∈ wsG := tb2 140 (by decide +kernel) (by decide +kernel)
theorem wd_48 : Cond.code yX6_commaIn cX6_commaIn 4 (some .int) ∈ wsG := tb2 143 (by decide +kernel) (by decide +kernel)
theorem wd_49 : Cond.selects RX6 yX6_figuresIn yX6_figuresIn ∈ wsG := wsG_sel (by decide +kernel) (by decide +kernel)
theorem wd_50 : Cond.instanceMethod yX6_figuresIn ∈ wsG := tb2 146 (by decide +kernel) (by decide +kernel)
theorem wd_51 : Cond.methodLink RX6 60 yX6_figuresIn ∈ wsG := tb2 144 (by decide +kernel) (by decide +kernel)
theorem wd_52 : Cond.code yX6_figuresIn cX6_figuresIn 5 (some .int) ∈ wsG := tb2 147 (by decide +kernel) (by decide +kernel)
theorem wd_53 : Cond.fieldLink RX6 63 "FoldedPages$Told" "prices" "[I" ∈ wsG := tb1 62 (by decide +kernel) (by decide +kernel)
theorem wd_54 : Cond.selects RX6 yX6_readPrice yX6_readPrice ∈ wsG := wsG_sel (by decide +kernel) (by decide +kernel)
theorem wd_55 : Cond.instanceMethod yX6_readPrice ∈ wsG := tb2 138 (by decide +kernel) (by decide +kernel)
theorem wd_56 : Cond.methodLink RX6 31 yX6_readPrice ∈ wsG := tb2 136 (by decide +kernel) (by decide +kernel)
theorem wd_57 : Cond.code yX6_readPrice cX6_readPrice 7 (some .boolean) ∈ wsG := tb2 139 (by decide +kernel) (by decide +kernel)
theorem wd_58 : Cond.fieldLink RX6 73 "FoldedPages$Told" "numbers" "[I" ∈ wsG := tb1 55 (by decide +kernel) (by decide +kernel)
theorem wd_59 : Cond.selects RX6 yX6_readNumber yX6_readNumber ∈ wsG := wsG_sel (by decide +kernel) (by decide +kernel)
theorem wd_60 : Cond.instanceMethod yX6_readNumber ∈ wsG := tb2 151 (by decide +kernel) (by decide +kernel)
theorem wd_61 : Cond.methodLink RX6 42 yX6_readNumber ∈ wsG := tb2 149 (by decide +kernel) (by decide +kernel)
theorem wd_62 : Cond.code yX6_readNumber cX6_readNumber 6 (some .boolean) ∈ wsG := tb2 152 (by decide +kernel) (by decide +kernel)
theorem wd_63 : Cond.selects RX6 yX6_readItem yX6_readItem ∈ wsG := wsG_sel (by decide +kernel) (by decide +kernel)
theorem wd_64 : Cond.instanceMethod yX6_readItem ∈ wsG := tb2 56 (by decide +kernel) (by decide +kernel)
theorem wd_65 : Cond.methodLink RX6 24 yX6_readItem ∈ wsG := tb2 54 (by decide +kernel) (by decide +kernel)
theorem wd_66 : Cond.code yX6_readItem cX6_readItem 5 (some .boolean) ∈ wsG := tb2 57 (by decide +kernel) (by decide +kernel)
theorem wd_67 : Cond.selects RX6 yX6_readInto yX6_readInto ∈ wsG := tb2 42 (by decide +kernel) (by decide +kernel)
theorem wd_68 : Cond.instanceMethod yX6_readInto ∈ wsG := tb2 41 (by decide +kernel) (by decide +kernel)
theorem wd_69 : Cond.methodLink RX8 83 yX6_readInto ∈ wsG := tb2 40 (by decide +kernel) (by decide +kernel)
theorem wd_70 : Cond.code yX6_readInto cX6_readInto 4 (some .int) ∈ wsG := tb2 43 (by decide +kernel) (by decide +kernel)
theorem wd_71 : Cond.fieldLink RX8 245 "FoldedPages$Told" "schemes" "I" ∈ wsG := tb1 50 (by decide +kernel) (by decide +kernel)
theorem wd_72 : Cond.fieldLink RX8 19 "FoldedPages" "now" "LFoldedPages$Told;" ∈ wsG := tb3 28 (by decide +kernel) (by decide +kernel)
theorem wd_73 : Cond.static yX7_copyRow ∈ wsG := tb2 162 (by decide +kernel) (by decide +kernel)
theorem wd_74 : Cond.methodLink RX7 37 yX7_copyRow ∈ wsG := tb2 161 (by decide +kernel) (by decide +kernel)
theorem wd_75 : Cond.code yX7_copyRow cX7_copyRow 3 none ∈ wsG := tb2 163 (by decide +kernel) (by decide +kernel)
theorem wd_76 : Cond.selects RX7 yX7_copyFrom yX7_copyFrom ∈ wsG := tb2 159 (by decide +kernel) (by decide +kernel)
theorem wd_77 : Cond.instanceMethod yX7_copyFrom ∈ wsG := tb2 158 (by decide +kernel) (by decide +kernel)
theorem wd_78 : Cond.methodLink RX8 248 yX7_copyFrom ∈ wsG := tb2 157 (by decide +kernel) (by decide +kernel)
theorem wd_79 : Cond.code yX7_copyFrom cX7_copyFrom 2 none ∈ wsG := tb2 160 (by decide +kernel) (by decide +kernel)
theorem wd_80 : Cond.fieldLink RX8 29 "FoldedPages" "history" "LFoldedPages$History;" ∈ wsG := tb3 30 (by decide +kernel) (by decide +kernel)
theorem wd_81 : Cond.fieldLink RX8 130 "FoldedPages$History" "depth" "I" ∈ wsG := tb1 91 (by decide +kernel) (by decide +kernel)
theorem wd_82 : Cond.fieldLink RX8 35 "FoldedPages" "sheets" "[LFoldedPages$Sheet;" ∈ wsG := tb3 31 (by decide +kernel) (by decide +kernel)
theorem wd_83 : Cond.fieldLink RX8 115 "FoldedPages$Told" "foldCounts" "[I" ∈ wsG := tb1 57 (by decide +kernel) (by decide +kernel)
theorem wd_84 : Cond.fieldLink RX8 118 "FoldedPages$Told" "foldCodes" "[I" ∈ wsG := tb1 59 (by decide +kernel) (by decide +kernel)
theorem wd_85 : Cond.fieldLink RX5 32 "FoldedPages$Sheet" "foldsAcross" "I" ∈ wsG := tb1 140 (by decide +kernel) (by decide +kernel)
theorem wd_86 : Cond.static yX5_figureAt ∈ wsG := tb2 173 (by decide +kernel) (by decide +kernel)
theorem wd_87 : Cond.methodLink RX5 35 yX5_figureAt ∈ wsG := tb2 172 (by decide +kernel) (by decide +kernel)
theorem wd_88 : Cond.code yX5_figureAt cX5_figureAt 3 (some .int) ∈ wsG := tb2 174 (by decide +kernel) (by decide +kernel)
theorem wd_89 : Cond.methodLink RX5 39 yX5_isAcross ∈ wsG := tb2 175 (by decide +kernel) (by decide +kernel)
theorem wd_90 : Cond.fieldLink RX5 9 "FoldedPages$Sheet" "columns" "I" ∈ wsG := tb1 136 (by decide +kernel) (by decide +kernel)
theorem wd_91 : Cond.fieldLink RX5 15 "FoldedPages$Sheet" "rows" "I" ∈ wsG := tb1 138 (by decide +kernel) (by decide +kernel)
theorem wd_92 : Cond.methodLink RX5 78 Lib.Math.min.name ∈ wsG := tb2 180 (by decide +kernel) (by decide +kernel)
theorem wd_93 : Cond.static Lib.Math.min.name ∈ wsG := tb2 86 (by decide +kernel) (by decide +kernel)
theorem wd_94 : Cond.initialized "java/lang/Math" ∈ wsG := tb1 14 (by decide +kernel) (by decide +kernel)
theorem wd_95 : Cond.code Lib.Math.min.name Lib.Math.min.code 2 (some .int) ∈ wsG := tb2 87 (by decide +kernel) (by decide +kernel)
theorem wd_96 : Cond.selects RX5 yX5_leaves yX5_leaves ∈ wsG := tb2 178 (by decide +kernel) (by decide +kernel)
theorem wd_97 : Cond.instanceMethod yX5_leaves ∈ wsG := tb2 177 (by decide +kernel) (by decide +kernel)
theorem wd_98 : Cond.methodLink RX5 43 yX5_leaves ∈ wsG := tb2 176 (by decide +kernel) (by decide +kernel)
theorem wd_99 : Cond.code yX5_leaves cX5_leaves 1 (some .int) ∈ wsG := tb2 179 (by decide +kernel) (by decide +kernel)
theorem wd_100 : Cond.fieldLink RX5 28 "FoldedPages$Sheet" "leaf" "LFoldedPages$Leaf;" ∈ wsG := tb1 143 (by decide +kernel) (by decide +kernel)
theorem wd_101 : Cond.selects RX5 yX5_columnAt yX5_columnAt ∈ wsG := wsG_sel (by decide +kernel) (by decide +kernel)
theorem wd_102 : Cond.instanceMethod yX5_columnAt ∈ wsG := tb2 183 (by decide +kernel) (by decide +kernel)
theorem wd_103 : Cond.methodLink RX5 47 yX5_columnAt ∈ wsG := tb2 181 (by decide +kernel) (by decide +kernel)
theorem wd_104 : Cond.code yX5_columnAt cX5_columnAt 2 (some .int) ∈ wsG := tb2 184 (by decide +kernel) (by decide +kernel)
theorem wd_105 : Cond.selects RX5 yX5_rowAt yX5_rowAt ∈ wsG := wsG_sel (by decide +kernel) (by decide +kernel)
theorem wd_106 : Cond.instanceMethod yX5_rowAt ∈ wsG := tb2 187 (by decide +kernel) (by decide +kernel)
theorem wd_107 : Cond.methodLink RX5 51 yX5_rowAt ∈ wsG := tb2 185 (by decide +kernel) (by decide +kernel)
theorem wd_108 : Cond.code yX5_rowAt cX5_rowAt 2 (some .int) ∈ wsG := tb2 188 (by decide +kernel) (by decide +kernel)
theorem wd_109 : Cond.fieldLink RX3 9 "FoldedPages$Leaf" "column" "I" ∈ wsG := tb1 110 (by decide +kernel) (by decide +kernel)
theorem wd_110 : Cond.fieldLink RX3 15 "FoldedPages$Leaf" "row" "I" ∈ wsG := tb1 111 (by decide +kernel) (by decide +kernel)
theorem wd_111 : Cond.fieldLink RX3 18 "FoldedPages$Leaf" "columns" "I" ∈ wsG := tb1 112 (by decide +kernel) (by decide +kernel)
theorem wd_112 : Cond.fieldLink RX3 21 "FoldedPages$Leaf" "rows" "I" ∈ wsG := tb1 113 (by decide +kernel) (by decide +kernel)
theorem wd_113 : Cond.fieldLink RX3 24 "FoldedPages$Leaf" "size" "I" ∈ wsG := tb1 114 (by decide +kernel) (by decide +kernel)
theorem wd_114 : Cond.fieldLink RX3 27 "FoldedPages$Leaf" "height" "I" ∈ wsG := tb1 115 (by decide +kernel) (by decide +kernel)
theorem wd_115 : Cond.fieldLink RX3 30 "FoldedPages$Leaf" "up" "I" ∈ wsG := tb1 116 (by decide +kernel) (by decide +kernel)
theorem wd_116 : Cond.fieldLink RX3 33 "FoldedPages$Leaf" "over" "I" ∈ wsG := tb1 117 (by decide +kernel) (by decide +kernel)
theorem wd_117 : Cond.selects RX3 yX3_lieAt yX3_lieAt ∈ wsG := tb2 191 (by decide +kernel) (by decide +kernel)
theorem wd_118 : Cond.instanceMethod yX3_lieAt ∈ wsG := tb2 190 (by decide +kernel) (by decide +kernel)
theorem wd_119 : Cond.methodLink RX5 54 yX3_lieAt ∈ wsG := tb2 189 (by decide +kernel) (by decide +kernel)
theorem wd_120 : Cond.initialized RX3 ∈ wsG := tb1 6 (by decide +kernel) (by decide +kernel)
theorem wd_121 : Cond.code yX3_lieAt cX3_lieAt 5 none ∈ wsG := tb2 192 (by decide +kernel) (by decide +kernel)
theorem wd_122 : Cond.methodLink RX3 36 yX5_isAcross ∈ wsG := tb2 201 (by decide +kernel) (by decide +kernel)
theorem wd_123 : Cond.selects RX3 yX3_stayAt yX3_stayAt ∈ wsG := wsG_sel (by decide +kernel) (by decide +kernel)
theorem wd_124 : Cond.instanceMethod yX3_stayAt ∈ wsG := tb2 204 (by decide +kernel) (by decide +kernel)
theorem wd_125 : Cond.methodLink RX3 42 yX3_stayAt ∈ wsG := tb2 202 (by decide +kernel) (by decide +kernel)
theorem wd_126 : Cond.code yX3_stayAt cX3_stayAt 4 none ∈ wsG := tb2 205 (by decide +kernel) (by decide +kernel)
theorem wd_127 : Cond.selects RX3 yX3_takeFold yX3_takeFold ∈ wsG := tb2 199 (by decide +kernel) (by decide +kernel)
theorem wd_128 : Cond.instanceMethod yX3_takeFold ∈ wsG := tb2 198 (by decide +kernel) (by decide +kernel)
theorem wd_129 : Cond.methodLink RX5 68 yX3_takeFold ∈ wsG := tb2 197 (by decide +kernel) (by decide +kernel)
theorem wd_130 : Cond.code yX3_takeFold cX3_takeFold 6 none ∈ wsG := tb2 200 (by decide +kernel) (by decide +kernel)
theorem wd_131 : Cond.methodLink RX5 72 yX5_lastFigure ∈ wsG := tb2 206 (by decide +kernel) (by decide +kernel)
theorem wd_132 : Cond.selects RX3 yX3_turnPile yX3_turnPile ∈ wsG := tb2 209 (by decide +kernel) (by decide +kernel)
theorem wd_133 : Cond.instanceMethod yX3_turnPile ∈ wsG := tb2 208 (by decide +kernel) (by decide +kernel)
theorem wd_134 : Cond.methodLink RX5 75 yX3_turnPile ∈ wsG := tb2 207 (by decide +kernel) (by decide +kernel)
theorem wd_135 : Cond.code yX3_turnPile cX3_turnPile 1 none ∈ wsG := tb2 210 (by decide +kernel) (by decide +kernel)
theorem wd_136 : Cond.selects RX5 yX5_foldLeaf yX5_foldLeaf ∈ wsG := wsG_sel (by decide +kernel) (by decide +kernel)
theorem wd_137 : Cond.instanceMethod yX5_foldLeaf ∈ wsG := tb2 195 (by decide +kernel) (by decide +kernel)
theorem wd_138 : Cond.methodLink RX5 58 yX5_foldLeaf ∈ wsG := tb2 193 (by decide +kernel) (by decide +kernel)
theorem wd_139 : Cond.code yX5_foldLeaf cX5_foldLeaf 4 none ∈ wsG := tb2 196 (by decide +kernel) (by decide +kernel)
theorem wd_140 : Cond.fieldLink RX5 18 "FoldedPages$Sheet" "front" "[I" ∈ wsG := tb1 141 (by decide +kernel) (by decide +kernel)
theorem wd_141 : Cond.selects RX3 yX3_frontPage yX3_frontPage ∈ wsG := tb2 213 (by decide +kernel) (by decide +kernel)
theorem wd_142 : Cond.instanceMethod yX3_frontPage ∈ wsG := tb2 212 (by decide +kernel) (by decide +kernel)
theorem wd_143 : Cond.methodLink RX5 62 yX3_frontPage ∈ wsG := tb2 211 (by decide +kernel) (by decide +kernel)
theorem wd_144 : Cond.code yX3_frontPage cX3_frontPage 2 (some .int) ∈ wsG := tb2 214 (by decide +kernel) (by decide +kernel)
theorem wd_145 : Cond.fieldLink RX5 22 "FoldedPages$Sheet" "overturned" "[I" ∈ wsG := tb1 142 (by decide +kernel) (by decide +kernel)
theorem wd_146 : Cond.fieldLink RX5 65 "FoldedPages$Leaf" "over" "I" ∈ wsG := tb1 118 (by decide +kernel) (by decide +kernel)
theorem wd_147 : Cond.selects RX5 yX5_foldBy yX5_foldBy ∈ wsG := tb2 170 (by decide +kernel) (by decide +kernel)
theorem wd_148 : Cond.instanceMethod yX5_foldBy ∈ wsG := tb2 169 (by decide +kernel) (by decide +kernel)
theorem wd_149 : Cond.methodLink RX8 254 yX5_foldBy ∈ wsG := tb2 168 (by decide +kernel) (by decide +kernel)
theorem wd_150 : Cond.code yX5_foldBy cX5_foldBy 4 none ∈ wsG := tb2 171 (by decide +kernel) (by decide +kernel)
theorem wd_151 : Cond.fieldLink RX8 50 "FoldedPages" "best" "LFoldedPages$Plan;" ∈ wsG := tb3 33 (by decide +kernel) (by decide +kernel)
theorem wd_152 : Cond.fieldLink RX4 11 "FoldedPages$Plan" "least" "[[I" ∈ wsG := tb1 180 (by decide +kernel) (by decide +kernel)
theorem wd_153 : Cond.fieldLink RX4 41 "FoldedPages$Told" "schemes" "I" ∈ wsG := tb1 48 (by decide +kernel) (by decide +kernel)
theorem wd_154 : Cond.selects RX7 yX7_unitsOf yX7_unitsOf ∈ wsG := tb2 229 (by decide +kernel) (by decide +kernel)
theorem wd_155 : Cond.instanceMethod yX7_unitsOf ∈ wsG := tb2 228 (by decide +kernel) (by decide +kernel)
theorem wd_156 : Cond.methodLink RX4 52 yX7_unitsOf ∈ wsG := tb2 227 (by decide +kernel) (by decide +kernel)
theorem wd_157 : Cond.code yX7_unitsOf cX7_unitsOf 2 (some .int) ∈ wsG := tb2 230 (by decide +kernel) (by decide +kernel)
theorem wd_158 : Cond.fieldLink RX4 55 "FoldedPages$Told" "prices" "[I" ∈ wsG := tb1 61 (by decide +kernel) (by decide +kernel)
theorem wd_159 : Cond.selects RX4 yX4_withOneOf yX4_withOneOf ∈ wsG := wsG_sel (by decide +kernel) (by decide +kernel)
theorem wd_160 : Cond.instanceMethod yX4_withOneOf ∈ wsG := tb2 225 (by decide +kernel) (by decide +kernel)
theorem wd_161 : Cond.methodLink RX4 44 yX4_withOneOf ∈ wsG := tb2 223 (by decide +kernel) (by decide +kernel)
theorem wd_162 : Cond.initialized RX4 ∈ wsG := tb1 8 (by decide +kernel) (by decide +kernel)
theorem wd_163 : Cond.code yX4_withOneOf cX4_withOneOf 5 (some .int) ∈ wsG := tb2 226 (by decide +kernel) (by decide +kernel)
theorem wd_164 : Cond.methodLink RX4 58 Lib.Math.min.name ∈ wsG := tb2 234 (by decide +kernel) (by decide +kernel)
theorem wd_165 : Cond.static yX4_cheaper ∈ wsG := tb2 232 (by decide +kernel) (by decide +kernel)
theorem wd_166 : Cond.methodLink RX4 48 yX4_cheaper ∈ wsG := tb2 231 (by decide +kernel) (by decide +kernel)
theorem wd_167 : Cond.code yX4_cheaper cX4_cheaper 2 (some .int) ∈ wsG := tb2 233 (by decide +kernel) (by decide +kernel)
theorem wd_168 : Cond.selects RX4 yX4_weigh yX4_weigh ∈ wsG := wsG_sel (by decide +kernel) (by decide +kernel)
theorem wd_169 : Cond.instanceMethod yX4_weigh ∈ wsG := tb2 221 (by decide +kernel) (by decide +kernel)
theorem wd_170 : Cond.methodLink RX4 20 yX4_weigh ∈ wsG := tb2 219 (by decide +kernel) (by decide +kernel)
theorem wd_171 : Cond.code yX4_weigh cX4_weigh 4 none ∈ wsG := tb2 222 (by decide +kernel) (by decide +kernel)
theorem wd_172 : Cond.fieldLink RX4 24 "FoldedPages$Told" "numbers" "[I" ∈ wsG := tb1 52 (by decide +kernel) (by decide +kernel)
theorem wd_173 : Cond.selects RX4 yX4_unitsFor yX4_unitsFor ∈ wsG := tb2 237 (by decide +kernel) (by decide +kernel)
theorem wd_174 : Cond.instanceMethod yX4_unitsFor ∈ wsG := tb2 236 (by decide +kernel) (by decide +kernel)
theorem wd_175 : Cond.methodLink RX4 29 yX4_unitsFor ∈ wsG := tb2 235 (by decide +kernel) (by decide +kernel)
theorem wd_176 : Cond.code yX4_unitsFor cX4_unitsFor 3 (some .int) ∈ wsG := tb2 238 (by decide +kernel) (by decide +kernel)
theorem wd_177 : Cond.fieldLink RX4 33 "FoldedPages$Plan" "cost" "I" ∈ wsG := tb1 184 (by decide +kernel) (by decide +kernel)
theorem wd_178 : Cond.fieldLink RX4 16 "FoldedPages$Plan" "sheetsOf" "[I" ∈ wsG := tb1 181 (by decide +kernel) (by decide +kernel)
theorem wd_179 : Cond.selects RX4 yX4_mostOf yX4_mostOf ∈ wsG := wsG_sel (by decide +kernel) (by decide +kernel)
theorem wd_180 : Cond.instanceMethod yX4_mostOf ∈ wsG := tb3 5 (by decide +kernel) (by decide +kernel)
theorem wd_181 : Cond.methodLink RX4 63 yX4_mostOf ∈ wsG := tb3 3 (by decide +kernel) (by decide +kernel)
theorem wd_182 : Cond.code yX4_mostOf cX4_mostOf 8 (some .int) ∈ wsG := tb3 6 (by decide +kernel) (by decide +kernel)
theorem wd_183 : Cond.selects RX4 yX4_choose yX4_choose ∈ wsG := wsG_sel (by decide +kernel) (by decide +kernel)
theorem wd_184 : Cond.instanceMethod yX4_choose ∈ wsG := tb3 1 (by decide +kernel) (by decide +kernel)
theorem wd_185 : Cond.methodLink RX4 37 yX4_choose ∈ wsG := tb2 239 (by decide +kernel) (by decide +kernel)
theorem wd_186 : Cond.code yX4_choose cX4_choose 5 none ∈ wsG := tb3 2 (by decide +kernel) (by decide +kernel)
theorem wd_187 : Cond.selects RX4 yX4_make yX4_make ∈ wsG := tb2 217 (by decide +kernel) (by decide +kernel)
theorem wd_188 : Cond.instanceMethod yX4_make ∈ wsG := tb2 216 (by decide +kernel) (by decide +kernel)
theorem wd_189 : Cond.methodLink RX8 258 yX4_make ∈ wsG := tb2 215 (by decide +kernel) (by decide +kernel)
theorem wd_190 : Cond.code yX4_make cX4_make 3 none ∈ wsG := tb2 218 (by decide +kernel) (by decide +kernel)
theorem wd_191 : Cond.fieldLink RX8 57 "FoldedPages" "pages" "LFoldedPages$Book;" ∈ wsG := tb3 34 (by decide +kernel) (by decide +kernel)
theorem wd_192 : Cond.fieldLink RX0 24 "FoldedPages$Book" "sheetCount" "I" ∈ wsG := tb1 199 (by decide +kernel) (by decide +kernel)
theorem wd_193 : Cond.fieldLink RX0 28 "FoldedPages$Book" "pageCount" "I" ∈ wsG := tb1 201 (by decide +kernel) (by decide +kernel)
theorem wd_194 : Cond.fieldLink RX0 31 "FoldedPages$Told" "schemes" "I" ∈ wsG := tb1 47 (by decide +kernel) (by decide +kernel)
theorem wd_195 : Cond.fieldLink RX0 36 "FoldedPages$Plan" "sheetsOf" "[I" ∈ wsG := tb1 182 (by decide +kernel) (by decide +kernel)
theorem wd_196 : Cond.selects RX7 yX7_pagesOf yX7_pagesOf ∈ wsG := tb3 13 (by decide +kernel) (by decide +kernel)
theorem wd_197 : Cond.instanceMethod yX7_pagesOf ∈ wsG := tb3 12 (by decide +kernel) (by decide +kernel)
theorem wd_198 : Cond.methodLink RX0 41 yX7_pagesOf ∈ wsG := tb3 11 (by decide +kernel) (by decide +kernel)
theorem wd_199 : Cond.code yX7_pagesOf cX7_pagesOf 2 (some .int) ∈ wsG := tb3 14 (by decide +kernel) (by decide +kernel)
theorem wd_200 : Cond.fieldLink RX0 9 "FoldedPages$Book" "schemeOf" "[I" ∈ wsG := tb1 203 (by decide +kernel) (by decide +kernel)
theorem wd_201 : Cond.fieldLink RX0 15 "FoldedPages$Book" "pagesAhead" "[I" ∈ wsG := tb1 205 (by decide +kernel) (by decide +kernel)
theorem wd_202 : Cond.selects RX0 yX0_addSheet yX0_addSheet ∈ wsG := wsG_sel (by decide +kernel) (by decide +kernel)
theorem wd_203 : Cond.instanceMethod yX0_addSheet ∈ wsG := tb3 17 (by decide +kernel) (by decide +kernel)
theorem wd_204 : Cond.methodLink RX0 45 yX0_addSheet ∈ wsG := tb3 15 (by decide +kernel) (by decide +kernel)
theorem wd_205 : Cond.initialized RX0 ∈ wsG := tb1 9 (by decide +kernel) (by decide +kernel)
theorem wd_206 : Cond.code yX0_addSheet cX0_addSheet 3 none ∈ wsG := tb3 18 (by decide +kernel) (by decide +kernel)
theorem wd_207 : Cond.fieldLink RX0 57 "FoldedPages$Told" "numbers" "[I" ∈ wsG := tb1 53 (by decide +kernel) (by decide +kernel)
theorem wd_208 : Cond.selects RX0 yX0_numberOf yX0_numberOf ∈ wsG := tb3 25 (by decide +kernel) (by decide +kernel)
theorem wd_209 : Cond.instanceMethod yX0_numberOf ∈ wsG := tb3 24 (by decide +kernel) (by decide +kernel)
theorem wd_210 : Cond.methodLink RX0 53 yX0_numberOf ∈ wsG := tb3 23 (by decide +kernel) (by decide +kernel)
theorem wd_211 : Cond.code yX0_numberOf cX0_numberOf 6 (some .int) ∈ wsG := tb3 26 (by decide +kernel) (by decide +kernel)
theorem wd_212 : Cond.fieldLink RX0 18 "FoldedPages$Book" "sheetAt" "[I" ∈ wsG := tb1 206 (by decide +kernel) (by decide +kernel)
theorem wd_213 : Cond.fieldLink RX0 21 "FoldedPages$Book" "pageAt" "[I" ∈ wsG := tb1 208 (by decide +kernel) (by decide +kernel)
theorem wd_214 : Cond.selects RX0 yX0_placePages yX0_placePages ∈ wsG := wsG_sel (by decide +kernel) (by decide +kernel)
theorem wd_215 : Cond.instanceMethod yX0_placePages ∈ wsG := tb3 21 (by decide +kernel) (by decide +kernel)
theorem wd_216 : Cond.methodLink RX0 49 yX0_placePages ∈ wsG := tb3 19 (by decide +kernel) (by decide +kernel)
theorem wd_217 : Cond.code yX0_placePages cX0_placePages 5 none ∈ wsG := tb3 22 (by decide +kernel) (by decide +kernel)
theorem wd_218 : Cond.selects RX0 yX0_arrange yX0_arrange ∈ wsG := tb3 9 (by decide +kernel) (by decide +kernel)
theorem wd_219 : Cond.instanceMethod yX0_arrange ∈ wsG := tb3 8 (by decide +kernel) (by decide +kernel)
theorem wd_220 : Cond.methodLink RX8 261 yX0_arrange ∈ wsG := tb3 7 (by decide +kernel) (by decide +kernel)
theorem wd_221 : Cond.code yX0_arrange cX0_arrange 5 none ∈ wsG := tb3 10 (by decide +kernel) (by decide +kernel)
theorem wd_222 : Cond.selects RX8 yX8_settle yX8_settle ∈ wsG := wsG_sel (by decide +kernel) (by decide +kernel)
theorem wd_223 : Cond.instanceMethod yX8_settle ∈ wsG := tb2 166 (by decide +kernel) (by decide +kernel)
theorem wd_224 : Cond.methodLink RX8 136 yX8_settle ∈ wsG := tb2 164 (by decide +kernel) (by decide +kernel)
theorem wd_225 : Cond.initialized RX8 ∈ wsG := tb1 1 (by decide +kernel) (by decide +kernel)
theorem wd_226 : Cond.code yX8_settle cX8_settle 2 none ∈ wsG := tb2 167 (by decide +kernel) (by decide +kernel)
theorem wd_227 : Cond.fieldLink RX8 80 "FoldedPages$Text" "length" "I" ∈ wsG := tb1 32 (by decide +kernel) (by decide +kernel)
theorem wd_228 : Cond.selects RX6 yX6_append yX6_append ∈ wsG := tb2 34 (by decide +kernel) (by decide +kernel)
theorem wd_229 : Cond.instanceMethod yX6_append ∈ wsG := tb2 33 (by decide +kernel) (by decide +kernel)
theorem wd_230 : Cond.methodLink RX8 73 yX6_append ∈ wsG := tb2 32 (by decide +kernel) (by decide +kernel)
theorem wd_231 : Cond.code yX6_append cX6_append 2 none ∈ wsG := tb2 35 (by decide +kernel) (by decide +kernel)
theorem wd_232 : Cond.selects RX8 yX8_layText yX8_layText ∈ wsG := wsG_sel (by decide +kernel) (by decide +kernel)
theorem wd_233 : Cond.instanceMethod yX8_layText ∈ wsG := tb2 38 (by decide +kernel) (by decide +kernel)
theorem wd_234 : Cond.methodLink RX8 77 yX8_layText ∈ wsG := tb2 36 (by decide +kernel) (by decide +kernel)
theorem wd_235 : Cond.code yX8_layText cX8_layText 1 (some .int) ∈ wsG := tb2 39 (by decide +kernel) (by decide +kernel)
theorem wd_236 : Cond.fieldLink RX8 87 "FoldedPages" "NUMBER_LEAST" "[I" ∈ wsG := tb3 73 (by decide +kernel) (by decide +kernel)
theorem wd_237 : Cond.fieldLink RX8 91 "FoldedPages" "NUMBER_MOST" "[I" ∈ wsG := tb3 74 (by decide +kernel) (by decide +kernel)
theorem wd_238 : Cond.fieldLink RX8 94 "FoldedPages$Told" "numbers" "[I" ∈ wsG := tb1 54 (by decide +kernel) (by decide +kernel)
theorem wd_239 : Cond.fieldLink RX1 18 "FoldedPages$History" "depth" "I" ∈ wsG := tb1 90 (by decide +kernel) (by decide +kernel)
theorem wd_240 : Cond.fieldLink RX1 11 "FoldedPages$History" "kept" "[LFoldedPages$Told;" ∈ wsG := tb1 89 (by decide +kernel) (by decide +kernel)
theorem wd_241 : Cond.methodLink RX1 25 yX7_copyFrom ∈ wsG := tb3 83 (by decide +kernel) (by decide +kernel)
theorem wd_242 : Cond.selects RX1 yX1_forgetOldest yX1_forgetOldest ∈ wsG := wsG_sel (by decide +kernel) (by decide +kernel)
theorem wd_243 : Cond.instanceMethod yX1_forgetOldest ∈ wsG := tb3 81 (by decide +kernel) (by decide +kernel)
theorem wd_244 : Cond.methodLink RX1 22 yX1_forgetOldest ∈ wsG := tb3 79 (by decide +kernel) (by decide +kernel)
theorem wd_245 : Cond.initialized RX1 ∈ wsG := tb1 4 (by decide +kernel) (by decide +kernel)
theorem wd_246 : Cond.code yX1_forgetOldest cX1_forgetOldest 3 none ∈ wsG := tb3 82 (by decide +kernel) (by decide +kernel)
theorem wd_247 : Cond.selects RX1 yX1_keep yX1_keep ∈ wsG := tb3 77 (by decide +kernel) (by decide +kernel)
theorem wd_248 : Cond.instanceMethod yX1_keep ∈ wsG := tb3 76 (by decide +kernel) (by decide +kernel)
theorem wd_249 : Cond.methodLink RX8 97 yX1_keep ∈ wsG := tb3 75 (by decide +kernel) (by decide +kernel)
theorem wd_250 : Cond.code yX1_keep cX1_keep 2 none ∈ wsG := tb3 78 (by decide +kernel) (by decide +kernel)
theorem wd_251 : Cond.methodLink RX8 251 yX7_unspoil ∈ wsG := tb3 88 (by decide +kernel) (by decide +kernel)
theorem wd_252 : Cond.selects RX8 yX8_settleAnew yX8_settleAnew ∈ wsG := wsG_sel (by decide +kernel) (by decide +kernel)
theorem wd_253 : Cond.instanceMethod yX8_settleAnew ∈ wsG := tb3 86 (by decide +kernel) (by decide +kernel)
theorem wd_254 : Cond.methodLink RX8 101 yX8_settleAnew ∈ wsG := tb3 84 (by decide +kernel) (by decide +kernel)
theorem wd_255 : Cond.code yX8_settleAnew cX8_settleAnew 1 none ∈ wsG := tb3 87 (by decide +kernel) (by decide +kernel)
theorem wd_256 : Cond.selects RX8 yX8_isScheme yX8_isScheme ∈ wsG := wsG_sel (by decide +kernel) (by decide +kernel)
theorem wd_257 : Cond.instanceMethod yX8_isScheme ∈ wsG := tb3 95 (by decide +kernel) (by decide +kernel)
theorem wd_258 : Cond.methodLink RX8 104 yX8_isScheme ∈ wsG := tb3 93 (by decide +kernel) (by decide +kernel)
theorem wd_259 : Cond.code yX8_isScheme cX8_isScheme 2 (some .boolean) ∈ wsG := tb3 96 (by decide +kernel) (by decide +kernel)
theorem wd_260 : Cond.fieldLink RX8 108 "FoldedPages$Told" "prices" "[I" ∈ wsG := tb1 63 (by decide +kernel) (by decide +kernel)
theorem wd_261 : Cond.methodLink RX8 111 yX6_foldsIn ∈ wsG := tb3 101 (by decide +kernel) (by decide +kernel)
theorem wd_262 : Cond.fieldLink RX8 203 "FoldedPages$Book" "sheetCount" "I" ∈ wsG := tb1 200 (by decide +kernel) (by decide +kernel)
theorem wd_263 : Cond.selects RX8 yX8_isSheet yX8_isSheet ∈ wsG := wsG_sel (by decide +kernel) (by decide +kernel)
theorem wd_264 : Cond.instanceMethod yX8_isSheet ∈ wsG := tb3 108 (by decide +kernel) (by decide +kernel)
theorem wd_265 : Cond.methodLink RX8 121 yX8_isSheet ∈ wsG := tb3 106 (by decide +kernel) (by decide +kernel)
theorem wd_266 : Cond.code yX8_isSheet cX8_isSheet 2 (some .boolean) ∈ wsG := tb3 109 (by decide +kernel) (by decide +kernel)
theorem wd_267 : Cond.fieldLink RX8 124 "FoldedPages$Told" "spoiled" "[I" ∈ wsG := tb1 65 (by decide +kernel) (by decide +kernel)
theorem wd_268 : Cond.selects RX7 yX7_spoiledSheets yX7_spoiledSheets ∈ wsG := tb3 112 (by decide +kernel) (by decide +kernel)
theorem wd_269 : Cond.instanceMethod yX7_spoiledSheets ∈ wsG := tb3 111 (by decide +kernel) (by decide +kernel)
theorem wd_270 : Cond.methodLink RX8 127 yX7_spoiledSheets ∈ wsG := tb3 110 (by decide +kernel) (by decide +kernel)
theorem wd_271 : Cond.code yX7_spoiledSheets cX7_spoiledSheets 3 (some .int) ∈ wsG := tb3 113 (by decide +kernel) (by decide +kernel)
theorem wd_272 : Cond.selects RX1 yX1_bringBack yX1_bringBack ∈ wsG := tb3 120 (by decide +kernel) (by decide +kernel)
theorem wd_273 : Cond.instanceMethod yX1_bringBack ∈ wsG := tb3 119 (by decide +kernel) (by decide +kernel)
theorem wd_274 : Cond.methodLink RX8 133 yX1_bringBack ∈ wsG := tb3 118 (by decide +kernel) (by decide +kernel)
theorem wd_275 : Cond.code yX1_bringBack cX1_bringBack 2 none ∈ wsG := tb3 121 (by decide +kernel) (by decide +kernel)
theorem wd_276 : Cond.fieldLink RX8 139 "FoldedPages$Sheet" "columns" "I" ∈ wsG := tb1 137 (by decide +kernel) (by decide +kernel)
theorem wd_277 : Cond.fieldLink RX8 142 "FoldedPages$Sheet" "rows" "I" ∈ wsG := tb1 139 (by decide +kernel) (by decide +kernel)
theorem wd_278 : Cond.methodLink RX8 145 yX7_pagesOf ∈ wsG := tb3 126 (by decide +kernel) (by decide +kernel)
theorem wd_279 : Cond.fieldLink RX8 149 "FoldedPages$Plan" "sheetsOf" "[I" ∈ wsG := tb1 183 (by decide +kernel) (by decide +kernel)
theorem wd_280 : Cond.methodLink RX8 154 yX5_figureAt ∈ wsG := tb3 132 (by decide +kernel) (by decide +kernel)
theorem wd_281 : Cond.methodLink RX8 69 yJ0_charAt_5068e ∈ wsG := tb1 234 (by decide +kernel) (by decide +kernel)
theorem wd_282 : Cond.code yJ0_charAt_5068e cJ0_charAt_5068e 2 (some .char) ∈ wsG := tb1 237 (by decide +kernel) (by decide +kernel)
theorem wd_283 : Cond.instanceMethod yJ0_charAt_5068e ∈ wsG := tb1 235 (by decide +kernel) (by decide +kernel)
theorem wd_284 : Cond.selects RJ0 yJ0_charAt_5068e yJ0_charAt_5068e ∈ wsG := tb1 236 (by decide +kernel) (by decide +kernel)
theorem wd_285 : Cond.static yX8_isSide ∈ wsG := tb3 138 (by decide +kernel) (by decide +kernel)
theorem wd_286 : Cond.methodLink RX8 158 yX8_isSide ∈ wsG := tb3 137 (by decide +kernel) (by decide +kernel)
theorem wd_287 : Cond.code yX8_isSide cX8_isSide 1 (some .boolean) ∈ wsG := tb3 139 (by decide +kernel) (by decide +kernel)
theorem wd_288 : Cond.selects RX5 yX5_hasCell yX5_hasCell ∈ wsG := tb3 142 (by decide +kernel) (by decide +kernel)
theorem wd_289 : Cond.instanceMethod yX5_hasCell ∈ wsG := tb3 141 (by decide +kernel) (by decide +kernel)
theorem wd_290 : Cond.methodLink RX8 161 yX5_hasCell ∈ wsG := tb3 140 (by decide +kernel) (by decide +kernel)
theorem wd_291 : Cond.code yX5_hasCell cX5_hasCell 3 (some .boolean) ∈ wsG := tb3 143 (by decide +kernel) (by decide +kernel)
theorem wd_292 : Cond.selects RX5 yX5_cellAt yX5_cellAt ∈ wsG := wsG_sel (by decide +kernel) (by decide +kernel)
theorem wd_293 : Cond.instanceMethod yX5_cellAt ∈ wsG := tb3 150 (by decide +kernel) (by decide +kernel)
theorem wd_294 : Cond.methodLink RX5 84 yX5_cellAt ∈ wsG := tb3 148 (by decide +kernel) (by decide +kernel)
theorem wd_295 : Cond.code yX5_cellAt cX5_cellAt 3 (some .int) ∈ wsG := tb3 151 (by decide +kernel) (by decide +kernel)
theorem wd_296 : Cond.static yX5_behind ∈ wsG := tb3 153 (by decide +kernel) (by decide +kernel)
theorem wd_297 : Cond.methodLink RX5 87 yX5_behind ∈ wsG := tb3 152 (by decide +kernel) (by decide +kernel)
theorem wd_298 : Cond.code yX5_behind cX5_behind 1 (some .int) ∈ wsG := tb3 154 (by decide +kernel) (by decide +kernel)
theorem wd_299 : Cond.selects RX5 yX5_pageOn yX5_pageOn ∈ wsG := tb3 146 (by decide +kernel) (by decide +kernel)
theorem wd_300 : Cond.instanceMethod yX5_pageOn ∈ wsG := tb3 145 (by decide +kernel) (by decide +kernel)
theorem wd_301 : Cond.methodLink RX8 165 yX5_pageOn ∈ wsG := tb3 144 (by decide +kernel) (by decide +kernel)
theorem wd_302 : Cond.code yX5_pageOn cX5_pageOn 5 (some .int) ∈ wsG := tb3 147 (by decide +kernel) (by decide +kernel)
theorem wd_303 : Cond.selects RX5 yX5_cellOf yX5_cellOf ∈ wsG := wsG_sel (by decide +kernel) (by decide +kernel)
theorem wd_304 : Cond.instanceMethod yX5_cellOf ∈ wsG := tb3 165 (by decide +kernel) (by decide +kernel)
theorem wd_305 : Cond.methodLink RX5 90 yX5_cellOf ∈ wsG := tb3 163 (by decide +kernel) (by decide +kernel)
theorem wd_306 : Cond.code yX5_cellOf cX5_cellOf 3 (some .int) ∈ wsG := tb3 166 (by decide +kernel) (by decide +kernel)
theorem wd_307 : Cond.selects RX5 yX5_sideOf yX5_sideOf ∈ wsG := tb3 161 (by decide +kernel) (by decide +kernel)
theorem wd_308 : Cond.instanceMethod yX5_sideOf ∈ wsG := tb3 160 (by decide +kernel) (by decide +kernel)
theorem wd_309 : Cond.methodLink RX8 168 yX5_sideOf ∈ wsG := tb3 159 (by decide +kernel) (by decide +kernel)
theorem wd_310 : Cond.code yX5_sideOf cX5_sideOf 2 (some .int) ∈ wsG := tb3 162 (by decide +kernel) (by decide +kernel)
theorem wd_311 : Cond.selects RX5 yX5_columnOf yX5_columnOf ∈ wsG := tb3 169 (by decide +kernel) (by decide +kernel)
theorem wd_312 : Cond.instanceMethod yX5_columnOf ∈ wsG := tb3 168 (by decide +kernel) (by decide +kernel)
theorem wd_313 : Cond.methodLink RX8 171 yX5_columnOf ∈ wsG := tb3 167 (by decide +kernel) (by decide +kernel)
theorem wd_314 : Cond.code yX5_columnOf cX5_columnOf 2 (some .int) ∈ wsG := tb3 170 (by decide +kernel) (by decide +kernel)
theorem wd_315 : Cond.selects RX5 yX5_rowOf yX5_rowOf ∈ wsG := tb3 173 (by decide +kernel) (by decide +kernel)
theorem wd_316 : Cond.instanceMethod yX5_rowOf ∈ wsG := tb3 172 (by decide +kernel) (by decide +kernel)
theorem wd_317 : Cond.methodLink RX8 174 yX5_rowOf ∈ wsG := tb3 171 (by decide +kernel) (by decide +kernel)
theorem wd_318 : Cond.code yX5_rowOf cX5_rowOf 2 (some .int) ∈ wsG := tb3 174 (by decide +kernel) (by decide +kernel)
theorem wd_319 : Cond.selects RX5 yX5_isOverturned yX5_isOverturned ∈ wsG := tb3 177 (by decide +kernel) (by decide +kernel)
theorem wd_320 : Cond.instanceMethod yX5_isOverturned ∈ wsG := tb3 176 (by decide +kernel) (by decide +kernel)
theorem wd_321 : Cond.methodLink RX8 177 yX5_isOverturned ∈ wsG := tb3 175 (by decide +kernel) (by decide +kernel)
theorem wd_322 : Cond.code yX5_isOverturned cX5_isOverturned 2 (some .int) ∈ wsG := tb3 178 (by decide +kernel) (by decide +kernel)
theorem wd_323 : Cond.methodLink RX8 180 yX5_behind ∈ wsG := tb3 179 (by decide +kernel) (by decide +kernel)
theorem wd_324 : Cond.methodLink RX5 93 yX5_sideOf ∈ wsG := tb3 184 (by decide +kernel) (by decide +kernel)
theorem wd_325 : Cond.methodLink RX5 96 yX5_columnOf ∈ wsG := tb3 185 (by decide +kernel) (by decide +kernel)
theorem wd_326 : Cond.methodLink RX5 99 yX5_rowOf ∈ wsG := tb3 186 (by decide +kernel) (by decide +kernel)
theorem wd_327 : Cond.methodLink RX5 102 yX5_hasCell ∈ wsG := tb3 187 (by decide +kernel) (by decide +kernel)
theorem wd_328 : Cond.methodLink RX5 106 yX5_pageOn ∈ wsG := tb3 188 (by decide +kernel) (by decide +kernel)
theorem wd_329 : Cond.selects RX5 yX5_rightOf yX5_rightOf ∈ wsG := tb3 182 (by decide +kernel) (by decide +kernel)
theorem wd_330 : Cond.instanceMethod yX5_rightOf ∈ wsG := tb3 181 (by decide +kernel) (by decide +kernel)
theorem wd_331 : Cond.methodLink RX8 183 yX5_rightOf ∈ wsG := tb3 180 (by decide +kernel) (by decide +kernel)
theorem wd_332 : Cond.code yX5_rightOf cX5_rightOf 5 (some .int) ∈ wsG := tb3 183 (by decide +kernel) (by decide +kernel)
theorem wd_333 : Cond.selects RX5 yX5_overturnedLeaves yX5_overturnedLeaves ∈ wsG := tb3 195 (by decide +kernel) (by decide +kernel)
theorem wd_334 : Cond.instanceMethod yX5_overturnedLeaves ∈ wsG := tb3 194 (by decide +kernel) (by decide +kernel)
theorem wd_335 : Cond.methodLink RX8 186 yX5_overturnedLeaves ∈ wsG := tb3 193 (by decide +kernel) (by decide +kernel)
theorem wd_336 : Cond.code yX5_overturnedLeaves cX5_overturnedLeaves 3 (some .int) ∈ wsG := tb3 196 (by decide +kernel) (by decide +kernel)
theorem wd_337 : Cond.static yX8_isFoldCount ∈ wsG := tb3 202 (by decide +kernel) (by decide +kernel)
theorem wd_338 : Cond.methodLink RX8 189 yX8_isFoldCount ∈ wsG := tb3 201 (by decide +kernel) (by decide +kernel)
theorem wd_339 : Cond.code yX8_isFoldCount cX8_isFoldCount 1 (some .boolean) ∈ wsG := tb3 203 (by decide +kernel) (by decide +kernel)
theorem wd_340 : Cond.fieldLink RX8 43 "FoldedPages" "kinds" "LFoldedPages$Kinds;" ∈ wsG := tb3 32 (by decide +kernel) (by decide +kernel)
theorem wd_341 : Cond.static yX2_codesOf ∈ wsG := tb3 209 (by decide +kernel) (by decide +kernel)
theorem wd_342 : Cond.methodLink RX2 34 yX2_codesOf ∈ wsG := tb3 208 (by decide +kernel) (by decide +kernel)
theorem wd_343 : Cond.initialized RX2 ∈ wsG := tb1 7 (by decide +kernel) (by decide +kernel)
theorem wd_344 : Cond.code yX2_codesOf cX2_codesOf 1 (some .int) ∈ wsG := tb3 210 (by decide +kernel) (by decide +kernel)
theorem wd_345 : Cond.methodLink RX2 22 yX5_lastFigure ∈ wsG := tb3 215 (by decide +kernel) (by decide +kernel)
theorem wd_346 : Cond.methodLink RX2 26 yX5_isAcross ∈ wsG := tb3 216 (by decide +kernel) (by decide +kernel)
theorem wd_347 : Cond.fieldLink RX2 12 "FoldedPages$Kinds" "tried" "LFoldedPages$Sheet;" ∈ wsG := tb1 165 (by decide +kernel) (by decide +kernel)
theorem wd_348 : Cond.methodLink RX2 30 yX5_foldBy ∈ wsG := tb3 217 (by decide +kernel) (by decide +kernel)
theorem wd_349 : Cond.selects RX2 yX2_isTried yX2_isTried ∈ wsG := wsG_sel (by decide +kernel) (by decide +kernel)
theorem wd_350 : Cond.instanceMethod yX2_isTried ∈ wsG := tb3 213 (by decide +kernel) (by decide +kernel)
theorem wd_351 : Cond.methodLink RX2 37 yX2_isTried ∈ wsG := tb3 211 (by decide +kernel) (by decide +kernel)
theorem wd_352 : Cond.code yX2_isTried cX2_isTried 3 (some .boolean) ∈ wsG := tb3 214 (by decide +kernel) (by decide +kernel)
theorem wd_353 : Cond.methodLink RX2 41 yX5_hasCell ∈ wsG := tb3 218 (by decide +kernel) (by decide +kernel)
theorem wd_354 : Cond.methodLink RX2 44 yX5_pageOn ∈ wsG := tb3 219 (by decide +kernel) (by decide +kernel)
theorem wd_355 : Cond.selects RX2 yX2_firstWith yX2_firstWith ∈ wsG := tb3 206 (by decide +kernel) (by decide +kernel)
theorem wd_356 : Cond.instanceMethod yX2_firstWith ∈ wsG := tb3 205 (by decide +kernel) (by decide +kernel)
theorem wd_357 : Cond.methodLink RX8 192 yX2_firstWith ∈ wsG := tb3 204 (by decide +kernel) (by decide +kernel)
theorem wd_358 : Cond.code yX2_firstWith cX2_firstWith 7 (some .int) ∈ wsG := tb3 207 (by decide +kernel) (by decide +kernel)
theorem wd_359 : Cond.methodLink RX2 52 yX5_leaves ∈ wsG := tb3 232 (by decide +kernel) (by decide +kernel)
theorem wd_360 : Cond.selects RX5 yX5_markOf yX5_markOf ∈ wsG := tb3 235 (by decide +kernel) (by decide +kernel)
theorem wd_361 : Cond.instanceMethod yX5_markOf ∈ wsG := tb3 234 (by decide +kernel) (by decide +kernel)
theorem wd_362 : Cond.methodLink RX2 56 yX5_markOf ∈ wsG := tb3 233 (by decide +kernel) (by decide +kernel)
theorem wd_363 : Cond.code yX5_markOf cX5_markOf 2 (some .int) ∈ wsG := tb3 236 (by decide +kernel) (by decide +kernel)
theorem wd_364 : Cond.selects RX2 yX2_isTriedAlike yX2_isTriedAlike ∈ wsG := wsG_sel (by decide +kernel) (by decide +kernel)
theorem wd_365 : Cond.instanceMethod yX2_isTriedAlike ∈ wsG := tb3 230 (by decide +kernel) (by decide +kernel)
theorem wd_366 : Cond.methodLink RX2 48 yX2_isTriedAlike ∈ wsG := tb3 228 (by decide +kernel) (by decide +kernel)
theorem wd_367 : Cond.code yX2_isTriedAlike cX2_isTriedAlike 3 (some .boolean) ∈ wsG := tb3 231 (by decide +kernel) (by decide +kernel)
theorem wd_368 : Cond.selects RX2 yX2_alikeTo yX2_alikeTo ∈ wsG := tb3 226 (by decide +kernel) (by decide +kernel)
theorem wd_369 : Cond.instanceMethod yX2_alikeTo ∈ wsG := tb3 225 (by decide +kernel) (by decide +kernel)
theorem wd_370 : Cond.methodLink RX8 196 yX2_alikeTo ∈ wsG := tb3 224 (by decide +kernel) (by decide +kernel)
theorem wd_371 : Cond.code yX2_alikeTo cX2_alikeTo 5 (some .int) ∈ wsG := tb3 227 (by decide +kernel) (by decide +kernel)
theorem wd_372 : Cond.fieldLink RX2 18 "FoldedPages$Kinds" "marks" "[I" ∈ wsG := tb1 166 (by decide +kernel) (by decide +kernel)
theorem wd_373 : Cond.selects RX2 yX2_keepMarks yX2_keepMarks ∈ wsG := wsG_sel (by decide +kernel) (by decide +kernel)
theorem wd_374 : Cond.instanceMethod yX2_keepMarks ∈ wsG := tb4 7 (by decide +kernel) (by decide +kernel)
theorem wd_375 : Cond.methodLink RX2 59 yX2_keepMarks ∈ wsG := tb4 5 (by decide +kernel) (by decide +kernel)
theorem wd_376 : Cond.code yX2_keepMarks cX2_keepMarks 3 none ∈ wsG := tb4 8 (by decide +kernel) (by decide +kernel)
theorem wd_377 : Cond.selects RX2 yX2_haveSameMarks yX2_haveSameMarks ∈ wsG := wsG_sel (by decide +kernel) (by decide +kernel)
theorem wd_378 : Cond.instanceMethod yX2_haveSameMarks ∈ wsG := tb4 15 (by decide +kernel) (by decide +kernel)
theorem wd_379 : Cond.methodLink RX2 66 yX2_haveSameMarks ∈ wsG := tb4 13 (by decide +kernel) (by decide +kernel)
theorem wd_380 : Cond.code yX2_haveSameMarks cX2_haveSameMarks 4 (some .boolean) ∈ wsG := tb4 16 (by decide +kernel) (by decide +kernel)
theorem wd_381 : Cond.selects RX2 yX2_isKeptBefore yX2_isKeptBefore ∈ wsG := wsG_sel (by decide +kernel) (by decide +kernel)
theorem wd_382 : Cond.instanceMethod yX2_isKeptBefore ∈ wsG := tb4 11 (by decide +kernel) (by decide +kernel)
theorem wd_383 : Cond.methodLink RX2 63 yX2_isKeptBefore ∈ wsG := tb4 9 (by decide +kernel) (by decide +kernel)
theorem wd_384 : Cond.code yX2_isKeptBefore cX2_isKeptBefore 3 (some .boolean) ∈ wsG := tb4 12 (by decide +kernel) (by decide +kernel)
theorem wd_385 : Cond.selects RX2 yX2_unlikeOnes yX2_unlikeOnes ∈ wsG := tb4 3 (by decide +kernel) (by decide +kernel)
theorem wd_386 : Cond.instanceMethod yX2_unlikeOnes ∈ wsG := tb4 2 (by decide +kernel) (by decide +kernel)
theorem wd_387 : Cond.methodLink RX8 200 yX2_unlikeOnes ∈ wsG := tb4 1 (by decide +kernel) (by decide +kernel)
theorem wd_388 : Cond.code yX2_unlikeOnes cX2_unlikeOnes 4 (some .int) ∈ wsG := tb4 4 (by decide +kernel) (by decide +kernel)
theorem wd_389 : Cond.fieldLink RX8 206 "FoldedPages$Book" "pageCount" "I" ∈ wsG := tb1 202 (by decide +kernel) (by decide +kernel)
theorem wd_390 : Cond.fieldLink RX8 209 "FoldedPages$Plan" "cost" "I" ∈ wsG := tb1 185 (by decide +kernel) (by decide +kernel)
theorem wd_391 : Cond.methodLink RX8 212 yX4_unitsFor ∈ wsG := tb4 25 (by decide +kernel) (by decide +kernel)
theorem wd_392 : Cond.fieldLink RX8 215 "FoldedPages$Book" "sheetAt" "[I" ∈ wsG := tb1 207 (by decide +kernel) (by decide +kernel)
theorem wd_393 : Cond.fieldLink RX8 218 "FoldedPages$Book" "pageAt" "[I" ∈ wsG := tb1 209 (by decide +kernel) (by decide +kernel)
theorem wd_394 : Cond.fieldLink RX8 221 "FoldedPages$Book" "schemeOf" "[I" ∈ wsG := tb1 204 (by decide +kernel) (by decide +kernel)
theorem wd_395 : Cond.methodLink RX0 60 Lib.Math.min.name ∈ wsG := tb4 34 (by decide +kernel) (by decide +kernel)
theorem wd_396 : Cond.selects RX0 yX0_out yX0_out ∈ wsG := tb4 32 (by decide +kernel) (by decide +kernel)
theorem wd_397 : Cond.instanceMethod yX0_out ∈ wsG := tb4 31 (by decide +kernel) (by decide +kernel)
theorem wd_398 : Cond.methodLink RX8 224 yX0_out ∈ wsG := tb4 30 (by decide +kernel) (by decide +kernel)
theorem wd_399 : Cond.code yX0_out cX0_out 7 (some .int) ∈ wsG := tb4 33 (by decide +kernel) (by decide +kernel)
theorem wd_400 : Cond.constant RX8 228 (100000) ∈ wsG := tb4 35 (by decide +kernel) (by decide +kernel)
theorem wd_401 : Cond.methodLink RX0 66 yX0_out ∈ wsG := tb4 40 (by decide +kernel) (by decide +kernel)
theorem wd_402 : Cond.selects RX0 yX0_mostOut yX0_mostOut ∈ wsG := wsG_sel (by decide +kernel) (by decide +kernel)
theorem wd_403 : Cond.instanceMethod yX0_mostOut ∈ wsG := tb4 43 (by decide +kernel) (by decide +kernel)
theorem wd_404 : Cond.methodLink RX0 69 yX0_mostOut ∈ wsG := tb4 41 (by decide +kernel) (by decide +kernel)
theorem wd_405 : Cond.code yX0_mostOut cX0_mostOut 4 (some .int) ∈ wsG := tb4 44 (by decide +kernel) (by decide +kernel)
theorem wd_406 : Cond.selects RX0 yX0_moved yX0_moved ∈ wsG := tb4 38 (by decide +kernel) (by decide +kernel)
theorem wd_407 : Cond.instanceMethod yX0_moved ∈ wsG := tb4 37 (by decide +kernel) (by decide +kernel)
theorem wd_408 : Cond.methodLink RX8 229 yX0_moved ∈ wsG := tb4 36 (by decide +kernel) (by decide +kernel)
theorem wd_409 : Cond.code yX0_moved cX0_moved 5 (some .int) ∈ wsG := tb4 39 (by decide +kernel) (by decide +kernel)
theorem wd_410 : Cond.selects RX8 yX8_isMissing yX8_isMissing ∈ wsG := wsG_sel (by decide +kernel) (by decide +kernel)
theorem wd_411 : Cond.instanceMethod yX8_isMissing ∈ wsG := tb4 47 (by decide +kernel) (by decide +kernel)
theorem wd_412 : Cond.methodLink RX8 232 yX8_isMissing ∈ wsG := tb4 45 (by decide +kernel) (by decide +kernel)
theorem wd_413 : Cond.code yX8_isMissing cX8_isMissing 2 (some .boolean) ∈ wsG := tb4 48 (by decide +kernel) (by decide +kernel)
theorem wd_414 : Cond.methodLink RX8 235 yX0_numberOf ∈ wsG := tb4 53 (by decide +kernel) (by decide +kernel)
theorem wd_415 : Cond.selects RX0 yX0_blanksOn yX0_blanksOn ∈ wsG := tb4 60 (by decide +kernel) (by decide +kernel)
theorem wd_416 : Cond.instanceMethod yX0_blanksOn ∈ wsG := tb4 59 (by decide +kernel) (by decide +kernel)
theorem wd_417 : Cond.methodLink RX8 238 yX0_blanksOn ∈ wsG := tb4 58 (by decide +kernel) (by decide +kernel)
theorem wd_418 : Cond.code yX0_blanksOn cX0_blanksOn 5 (some .int) ∈ wsG := tb4 61 (by decide +kernel) (by decide +kernel)
theorem wd_419 : Cond.selects RX8 yX8_missingRuns yX8_missingRuns ∈ wsG := wsG_sel (by decide +kernel) (by decide +kernel)
theorem wd_420 : Cond.instanceMethod yX8_missingRuns ∈ wsG := tb4 68 (by decide +kernel) (by decide +kernel)
theorem wd_421 : Cond.methodLink RX8 242 yX8_missingRuns ∈ wsG := tb4 66 (by decide +kernel) (by decide +kernel)
theorem wd_422 : Cond.code yX8_missingRuns cX8_missingRuns 3 (some .int) ∈ wsG := tb4 69 (by decide +kernel) (by decide +kernel)
theorem wd_423 : Cond.constantLong RX9 53 (32) ∈ wsG := tb4 158 (by decide +kernel) (by decide +kernel)
theorem wd_424 : Cond.constantLong RX9 55 (126) ∈ wsG := tb4 159 (by decide +kernel) (by decide +kernel)
theorem wd_425 : Cond.static yX9_in ∈ wsG := tb4 161 (by decide +kernel) (by decide +kernel)
theorem wd_426 : Cond.methodLink RX9 57 yX9_in ∈ wsG := tb4 160 (by decide +kernel) (by decide +kernel)
theorem wd_427 : Cond.initialized RX9 ∈ wsG := tb1 16 (by decide +kernel) (by decide +kernel)
theorem wd_428 : Cond.code yX9_in cX9_in 6 (some .boolean) ∈ wsG := tb4 162 (by decide +kernel) (by decide +kernel)
theorem wd_429 : Cond.fieldLink RX9 61 "FoldedPagesModel" "length" "I" ∈ wsG := tb4 80 (by decide +kernel) (by decide +kernel)
theorem wd_430 : Cond.fieldLink RX9 7 "FoldedPagesModel" "text" "[I" ∈ wsG := tb4 81 (by decide +kernel) (by decide +kernel)
theorem wd_431 : Cond.fieldLink RX9 19 "FoldedPagesModel" "read" "[I" ∈ wsG := tb4 85 (by decide +kernel) (by decide +kernel)
theorem wd_432 : Cond.constantLong RX9 95 (4) ∈ wsG := tb4 171 (by decide +kernel) (by decide +kernel)
theorem wd_433 : Cond.constantLong RX9 97 (7) ∈ wsG := tb4 172 (by decide +kernel) (by decide +kernel)
theorem wd_434 : Cond.fieldLink RX9 65 "FoldedPagesModel" "spot" "I" ∈ wsG := tb4 86 (by decide +kernel) (by decide +kernel)
theorem wd_435 : Cond.selects RX9 yX9_byteAt yX9_byteAt ∈ wsG := wsG_sel (by decide +kernel) (by decide +kernel)
theorem wd_436 : Cond.instanceMethod yX9_byteAt ∈ wsG := tb4 183 (by decide +kernel) (by decide +kernel)
theorem wd_437 : Cond.methodLink RX9 68 yX9_byteAt ∈ wsG := tb4 181 (by decide +kernel) (by decide +kernel)
theorem wd_438 : Cond.code yX9_byteAt cX9_byteAt 2 (some .int) ∈ wsG := tb4 184 (by decide +kernel) (by decide +kernel)
theorem wd_439 : Cond.constantLong RX9 72 (48) ∈ wsG := tb4 195 (by decide +kernel) (by decide +kernel)
theorem wd_440 : Cond.constantLong RX9 74 (57) ∈ wsG := tb4 196 (by decide +kernel) (by decide +kernel)
theorem wd_441 : Cond.selects RX9 yX9_figures yX9_figures ∈ wsG := wsG_sel (by decide +kernel) (by decide +kernel)
theorem wd_442 : Cond.instanceMethod yX9_figures ∈ wsG := tb4 193 (by decide +kernel) (by decide +kernel)
theorem wd_443 : Cond.methodLink RX9 83 yX9_figures ∈ wsG := tb4 191 (by decide +kernel) (by decide +kernel)
theorem wd_444 : Cond.code yX9_figures cX9_figures 5 (some .int) ∈ wsG := tb4 194 (by decide +kernel) (by decide +kernel)
theorem wd_445 : Cond.selects RX9 yX9_tells yX9_tells ∈ wsG := wsG_sel (by decide +kernel) (by decide +kernel)
theorem wd_446 : Cond.instanceMethod yX9_tells ∈ wsG := tb4 199 (by decide +kernel) (by decide +kernel)
theorem wd_447 : Cond.methodLink RX9 91 yX9_tells ∈ wsG := tb4 197 (by decide +kernel) (by decide +kernel)
theorem wd_448 : Cond.code yX9_tells cX9_tells 5 (some .boolean) ∈ wsG := tb4 200 (by decide +kernel) (by decide +kernel)
theorem wd_449 : Cond.static yX9_isFold ∈ wsG := tb4 186 (by decide +kernel) (by decide +kernel)
theorem wd_450 : Cond.methodLink RX9 76 yX9_isFold ∈ wsG := tb4 185 (by decide +kernel) (by decide +kernel)
theorem wd_451 : Cond.code yX9_isFold cX9_isFold 1 (some .boolean) ∈ wsG := tb4 187 (by decide +kernel) (by decide +kernel)
theorem wd_452 : Cond.static yX9_isSide ∈ wsG := tb4 189 (by decide +kernel) (by decide +kernel)
theorem wd_453 : Cond.methodLink RX9 80 yX9_isSide ∈ wsG := tb4 188 (by decide +kernel) (by decide +kernel)
theorem wd_454 : Cond.code yX9_isSide cX9_isSide 1 (some .boolean) ∈ wsG := tb4 190 (by decide +kernel) (by decide +kernel)
theorem wd_455 : Cond.selects RX9 yX9_schemeItem yX9_schemeItem ∈ wsG := wsG_sel (by decide +kernel) (by decide +kernel)
theorem wd_456 : Cond.instanceMethod yX9_schemeItem ∈ wsG := tb4 179 (by decide +kernel) (by decide +kernel)
theorem wd_457 : Cond.methodLink RX9 87 yX9_schemeItem ∈ wsG := tb4 177 (by decide +kernel) (by decide +kernel)
theorem wd_458 : Cond.code yX9_schemeItem cX9_schemeItem 3 (some .boolean) ∈ wsG := tb4 180 (by decide +kernel) (by decide +kernel)
theorem wd_459 : Cond.selects RX9 yX9_item yX9_item ∈ wsG := wsG_sel (by decide +kernel) (by decide +kernel)
theorem wd_460 : Cond.instanceMethod yX9_item ∈ wsG := tb4 175 (by decide +kernel) (by decide +kernel)
theorem wd_461 : Cond.methodLink RX9 99 yX9_item ∈ wsG := tb4 173 (by decide +kernel) (by decide +kernel)
theorem wd_462 : Cond.code yX9_item cX9_item 3 (some .boolean) ∈ wsG := tb4 176 (by decide +kernel) (by decide +kernel)
theorem wd_463 : Cond.selects RX9 yX9_fault yX9_fault ∈ wsG := tb4 169 (by decide +kernel) (by decide +kernel)
theorem wd_464 : Cond.instanceMethod yX9_fault ∈ wsG := tb4 168 (by decide +kernel) (by decide +kernel)
theorem wd_465 : Cond.methodLink RX9 102 yX9_fault ∈ wsG := tb4 205 (by decide +kernel) (by decide +kernel)
theorem wd_466 : Cond.code yX9_fault cX9_fault 2 (some .int) ∈ wsG := tb4 170 (by decide +kernel) (by decide +kernel)
theorem wd_467 : Cond.fieldLink RX9 13 "FoldedPagesModel" "now" "[I" ∈ wsG := tb4 82 (by decide +kernel) (by decide +kernel)
theorem wd_468 : Cond.fieldLink RX9 106 "FoldedPagesModel" "undoMany" "I" ∈ wsG := tb4 84 (by decide +kernel) (by decide +kernel)
theorem wd_469 : Cond.constantLong RX9 115 (400) ∈ wsG := tb4 214 (by decide +kernel) (by decide +kernel)
theorem wd_470 : Cond.fieldLink RX9 16 "FoldedPagesModel" "before" "[I" ∈ wsG := tb4 83 (by decide +kernel) (by decide +kernel)
theorem wd_471 : Cond.selects RX9 yX9_note yX9_note ∈ wsG := wsG_sel (by decide +kernel) (by decide +kernel)
theorem wd_472 : Cond.instanceMethod yX9_note ∈ wsG := tb4 222 (by decide +kernel) (by decide +kernel)
theorem wd_473 : Cond.methodLink RX9 109 yX9_note ∈ wsG := tb4 220 (by decide +kernel) (by decide +kernel)
theorem wd_474 : Cond.code yX9_note cX9_note 2 none ∈ wsG := tb4 223 (by decide +kernel) (by decide +kernel)
theorem wd_475 : Cond.selects RX9 yX9_wholes yX9_wholes ∈ wsG := wsG_sel (by decide +kernel) (by decide +kernel)
theorem wd_476 : Cond.instanceMethod yX9_wholes ∈ wsG := tb4 226 (by decide +kernel) (by decide +kernel)
theorem wd_477 : Cond.methodLink RX9 112 yX9_wholes ∈ wsG := tb4 224 (by decide +kernel) (by decide +kernel)
theorem wd_478 : Cond.code yX9_wholes cX9_wholes 2 none ∈ wsG := tb4 227 (by decide +kernel) (by decide +kernel)
theorem wd_479 : Cond.selects RX9 yX9_becomes yX9_becomes ∈ wsG := wsG_sel (by decide +kernel) (by decide +kernel)
theorem wd_480 : Cond.instanceMethod yX9_becomes ∈ wsG := tb4 218 (by decide +kernel) (by decide +kernel)
theorem wd_481 : Cond.methodLink RX9 119 yX9_becomes ∈ wsG := tb4 216 (by decide +kernel) (by decide +kernel)
theorem wd_482 : Cond.code yX9_becomes cX9_becomes 4 (some .int) ∈ wsG := tb4 219 (by decide +kernel) (by decide +kernel)
theorem wd_483 : Cond.constantLong RX9 117 (20) ∈ wsG := tb4 215 (by decide +kernel) (by decide +kernel)
theorem wd_484 : Cond.selects RX9 yX9_isScheme yX9_isScheme ∈ wsG := wsG_sel (by decide +kernel) (by decide +kernel)
theorem wd_485 : Cond.instanceMethod yX9_isScheme ∈ wsG := tb4 234 (by decide +kernel) (by decide +kernel)
theorem wd_486 : Cond.methodLink RX9 122 yX9_isScheme ∈ wsG := tb4 232 (by decide +kernel) (by decide +kernel)
theorem wd_487 : Cond.code yX9_isScheme cX9_isScheme 2 (some .boolean) ∈ wsG := tb4 235 (by decide +kernel) (by decide +kernel)
theorem wd_488 : Cond.constantLong RX9 125 (99) ∈ wsG := tb4 236 (by decide +kernel) (by decide +kernel)
theorem wd_489 : Cond.fieldLink RX9 43 "FoldedPagesModel" "least" "[I" ∈ wsG := tb4 98 (by decide +kernel) (by decide +kernel)
theorem wd_490 : Cond.static yX9_at ∈ wsG := tb5 19 (by decide +kernel) (by decide +kernel)
theorem wd_491 : Cond.methodLink RX9 181 yX9_at ∈ wsG := tb5 18 (by decide +kernel) (by decide +kernel)
theorem wd_492 : Cond.code yX9_at cX9_at 2 (some .int) ∈ wsG := tb5 20 (by decide +kernel) (by decide +kernel)
theorem wd_493 : Cond.constant RX9 184 (1000000) ∈ wsG := tb5 21 (by decide +kernel) (by decide +kernel)
theorem wd_494 : Cond.selects RX9 yX9_pagesOf yX9_pagesOf ∈ wsG := wsG_sel (by decide +kernel) (by decide +kernel)
theorem wd_495 : Cond.instanceMethod yX9_pagesOf ∈ wsG := tb5 12 (by decide +kernel) (by decide +kernel)
theorem wd_496 : Cond.methodLink RX9 151 yX9_pagesOf ∈ wsG := tb5 10 (by decide +kernel) (by decide +kernel)
theorem wd_497 : Cond.code yX9_pagesOf cX9_pagesOf 2 (some .int) ∈ wsG := tb5 13 (by decide +kernel) (by decide +kernel)
theorem wd_498 : Cond.fieldLink RX9 185 "FoldedPagesModel" "planPages" "I" ∈ wsG := tb4 100 (by decide +kernel) (by decide +kernel)
theorem wd_499 : Cond.fieldLink RX9 46 "FoldedPagesModel" "plan" "[I" ∈ wsG := tb4 99 (by decide +kernel) (by decide +kernel)
theorem wd_500 : Cond.selects RX9 yX9_findPlan yX9_findPlan ∈ wsG := wsG_sel (by decide +kernel) (by decide +kernel)
theorem wd_501 : Cond.instanceMethod yX9_findPlan ∈ wsG := tb5 16 (by decide +kernel) (by decide +kernel)
theorem wd_502 : Cond.methodLink RX9 154 yX9_findPlan ∈ wsG := tb5 14 (by decide +kernel) (by decide +kernel)
theorem wd_503 : Cond.code yX9_findPlan cX9_findPlan 7 none ∈ wsG := tb5 17 (by decide +kernel) (by decide +kernel)
theorem wd_504 : Cond.selects RX9 yX9_sheetMany yX9_sheetMany ∈ wsG := wsG_sel (by decide +kernel) (by decide +kernel)
theorem wd_505 : Cond.instanceMethod yX9_sheetMany ∈ wsG := tb5 89 (by decide +kernel) (by decide +kernel)
theorem wd_506 : Cond.methodLink RX9 188 yX9_sheetMany ∈ wsG := tb5 87 (by decide +kernel) (by decide +kernel)
theorem wd_507 : Cond.code yX9_sheetMany cX9_sheetMany 1 (some .int) ∈ wsG := tb5 90 (by decide +kernel) (by decide +kernel)
theorem wd_508 : Cond.selects RX9 yX9_isSheet yX9_isSheet ∈ wsG := wsG_sel (by decide +kernel) (by decide +kernel)
theorem wd_509 : Cond.instanceMethod yX9_isSheet ∈ wsG := tb5 131 (by decide +kernel) (by decide +kernel)
theorem wd_510 : Cond.methodLink RX9 218 yX9_isSheet ∈ wsG := tb5 129 (by decide +kernel) (by decide +kernel)
theorem wd_511 : Cond.code yX9_isSheet cX9_isSheet 2 (some .boolean) ∈ wsG := tb5 132 (by decide +kernel) (by decide +kernel)
theorem wd_512 : Cond.selects RX9 yX9_spoiledMany yX9_spoiledMany ∈ wsG := wsG_sel (by decide +kernel) (by decide +kernel)
theorem wd_513 : Cond.instanceMethod yX9_spoiledMany ∈ wsG := tb5 139 (by decide +kernel) (by decide +kernel)
theorem wd_514 : Cond.methodLink RX9 221 yX9_spoiledMany ∈ wsG := tb5 137 (by decide +kernel) (by decide +kernel)
theorem wd_515 : Cond.code yX9_spoiledMany cX9_spoiledMany 3 (some .int) ∈ wsG := tb5 140 (by decide +kernel) (by decide +kernel)
theorem wd_516 : Cond.constantLong RX9 146 (5) ∈ wsG := tb5 5 (by decide +kernel) (by decide +kernel)
theorem wd_517 : Cond.selects RX9 yX9_acrossOf yX9_acrossOf ∈ wsG := wsG_sel (by decide +kernel) (by decide +kernel)
theorem wd_518 : Cond.instanceMethod yX9_acrossOf ∈ wsG := tb5 8 (by decide +kernel) (by decide +kernel)
theorem wd_519 : Cond.methodLink RX9 148 yX9_acrossOf ∈ wsG := tb5 6 (by decide +kernel) (by decide +kernel)
theorem wd_520 : Cond.code yX9_acrossOf cX9_acrossOf 4 (some .int) ∈ wsG := tb5 9 (by decide +kernel) (by decide +kernel)
theorem wd_521 : Cond.constantLong RX9 158 (3) ∈ wsG := tb5 26 (by decide +kernel) (by decide +kernel)
theorem wd_522 : Cond.fieldLink RX9 127 "FoldedPagesModel" "foldMany" "I" ∈ wsG := tb4 88 (by decide +kernel) (by decide +kernel)
theorem wd_523 : Cond.fieldLink RX9 22 "FoldedPagesModel" "folds" "[I" ∈ wsG := tb4 87 (by decide +kernel) (by decide +kernel)
theorem wd_524 : Cond.fieldLink RX9 133 "FoldedPagesModel" "columns" "I" ∈ wsG := tb4 91 (by decide +kernel) (by decide +kernel)
theorem wd_525 : Cond.fieldLink RX9 136 "FoldedPagesModel" "rows" "I" ∈ wsG := tb4 92 (by decide +kernel) (by decide +kernel)
theorem wd_526 : Cond.fieldLink RX9 139 "FoldedPagesModel" "allColumns" "I" ∈ wsG := tb4 96 (by decide +kernel) (by decide +kernel)
theorem wd_527 : Cond.fieldLink RX9 25 "FoldedPagesModel" "piles" "[I" ∈ wsG := tb4 89 (by decide +kernel) (by decide +kernel)
theorem wd_528 : Cond.fieldLink RX9 28 "FoldedPagesModel" "after" "[I" ∈ wsG := tb4 90 (by decide +kernel) (by decide +kernel)
theorem wd_529 : Cond.selects RX9 yX9_turns yX9_turns ∈ wsG := wsG_sel (by decide +kernel) (by decide +kernel)
theorem wd_530 : Cond.instanceMethod yX9_turns ∈ wsG := tb5 41 (by decide +kernel) (by decide +kernel)
theorem wd_531 : Cond.methodLink RX9 142 yX9_turns ∈ wsG := tb5 39 (by decide +kernel) (by decide +kernel)
theorem wd_532 : Cond.code yX9_turns cX9_turns 16 none ∈ wsG := tb5 42 (by decide +kernel) (by decide +kernel)
theorem wd_533 : Cond.fieldLink RX9 31 "FoldedPagesModel" "cellOf" "[I" ∈ wsG := tb4 93 (by decide +kernel) (by decide +kernel)
theorem wd_534 : Cond.fieldLink RX9 34 "FoldedPagesModel" "sideOf" "[I" ∈ wsG := tb4 94 (by decide +kernel) (by decide +kernel)
theorem wd_535 : Cond.fieldLink RX9 37 "FoldedPagesModel" "turnedOf" "[I" ∈ wsG := tb4 95 (by decide +kernel) (by decide +kernel)
theorem wd_536 : Cond.selects RX9 yX9_foldAll yX9_foldAll ∈ wsG := wsG_sel (by decide +kernel) (by decide +kernel)
theorem wd_537 : Cond.instanceMethod yX9_foldAll ∈ wsG := tb5 37 (by decide +kernel) (by decide +kernel)
theorem wd_538 : Cond.methodLink RX9 130 yX9_foldAll ∈ wsG := tb5 35 (by decide +kernel) (by decide +kernel)
theorem wd_539 : Cond.code yX9_foldAll cX9_foldAll 6 none ∈ wsG := tb5 38 (by decide +kernel) (by decide +kernel)
theorem wd_540 : Cond.selects RX9 yX9_lays yX9_lays ∈ wsG := wsG_sel (by decide +kernel) (by decide +kernel)
theorem wd_541 : Cond.instanceMethod yX9_lays ∈ wsG := tb5 33 (by decide +kernel) (by decide +kernel)
theorem wd_542 : Cond.methodLink RX9 160 yX9_lays ∈ wsG := tb5 31 (by decide +kernel) (by decide +kernel)
theorem wd_543 : Cond.code yX9_lays cX9_lays 3 none ∈ wsG := tb5 34 (by decide +kernel) (by decide +kernel)
theorem wd_544 : Cond.selects RX9 yX9_pageAt yX9_pageAt ∈ wsG := wsG_sel (by decide +kernel) (by decide +kernel)
theorem wd_545 : Cond.instanceMethod yX9_pageAt ∈ wsG := tb5 45 (by decide +kernel) (by decide +kernel)
theorem wd_546 : Cond.methodLink RX9 163 yX9_pageAt ∈ wsG := tb5 43 (by decide +kernel) (by decide +kernel)
theorem wd_547 : Cond.code yX9_pageAt cX9_pageAt 4 (some .int) ∈ wsG := tb5 46 (by decide +kernel) (by decide +kernel)
theorem wd_548 : Cond.constantLong RX9 169 (15) ∈ wsG := tb5 59 (by decide +kernel) (by decide +kernel)
theorem wd_549 : Cond.static yX9_letterOf ∈ wsG := tb5 65 (by decide +kernel) (by decide +kernel)
theorem wd_550 : Cond.methodLink RX9 166 yX9_letterOf ∈ wsG := tb5 64 (by decide +kernel) (by decide +kernel)
theorem wd_551 : Cond.code yX9_letterOf cX9_letterOf 1 (some .int) ∈ wsG := tb5 66 (by decide +kernel) (by decide +kernel)
theorem wd_552 : Cond.selects RX9 yX9_isText yX9_isText ∈ wsG := wsG_sel (by decide +kernel) (by decide +kernel)
theorem wd_553 : Cond.instanceMethod yX9_isText ∈ wsG := tb5 62 (by decide +kernel) (by decide +kernel)
theorem wd_554 : Cond.methodLink RX9 171 yX9_isText ∈ wsG := tb5 60 (by decide +kernel) (by decide +kernel)
theorem wd_555 : Cond.code yX9_isText cX9_isText 4 (some .boolean) ∈ wsG := tb5 63 (by decide +kernel) (by decide +kernel)
theorem wd_556 : Cond.fieldLink RX9 40 "FoldedPagesModel" "known" "[I" ∈ wsG := tb4 97 (by decide +kernel) (by decide +kernel)
theorem wd_557 : Cond.selects RX9 yX9_knows yX9_knows ∈ wsG := wsG_sel (by decide +kernel) (by decide +kernel)
theorem wd_558 : Cond.instanceMethod yX9_knows ∈ wsG := tb5 73 (by decide +kernel) (by decide +kernel)
theorem wd_559 : Cond.methodLink RX9 175 yX9_knows ∈ wsG := tb5 71 (by decide +kernel) (by decide +kernel)
theorem wd_560 : Cond.code yX9_knows cX9_knows 3 none ∈ wsG := tb5 74 (by decide +kernel) (by decide +kernel)
theorem wd_561 : Cond.selects RX9 yX9_isKnown yX9_isKnown ∈ wsG := wsG_sel (by decide +kernel) (by decide +kernel)
theorem wd_562 : Cond.instanceMethod yX9_isKnown ∈ wsG := tb5 77 (by decide +kernel) (by decide +kernel)
theorem wd_563 : Cond.methodLink RX9 178 yX9_isKnown ∈ wsG := tb5 75 (by decide +kernel) (by decide +kernel)
theorem wd_564 : Cond.code yX9_isKnown cX9_isKnown 4 (some .boolean) ∈ wsG := tb5 78 (by decide +kernel) (by decide +kernel)
theorem wd_565 : Cond.constantLong RX9 209 (8) ∈ wsG := tb5 99 (by decide +kernel) (by decide +kernel)
theorem wd_566 : Cond.fieldLink RX9 197 "FoldedPagesModel" "ownSheet" "I" ∈ wsG := tb4 101 (by decide +kernel) (by decide +kernel)
theorem wd_567 : Cond.fieldLink RX9 200 "FoldedPagesModel" "ownPage" "I" ∈ wsG := tb4 102 (by decide +kernel) (by decide +kernel)
theorem wd_568 : Cond.selects RX9 yX9_schemeOf yX9_schemeOf ∈ wsG := wsG_sel (by decide +kernel) (by decide +kernel)
theorem wd_569 : Cond.instanceMethod yX9_schemeOf ∈ wsG := tb5 110 (by decide +kernel) (by decide +kernel)
theorem wd_570 : Cond.methodLink RX9 191 yX9_schemeOf ∈ wsG := tb5 108 (by decide +kernel) (by decide +kernel)
theorem wd_571 : Cond.code yX9_schemeOf cX9_schemeOf 4 (some .int) ∈ wsG := tb5 111 (by decide +kernel) (by decide +kernel)
theorem wd_572 : Cond.selects RX9 yX9_halfAhead yX9_halfAhead ∈ wsG := wsG_sel (by decide +kernel) (by decide +kernel)
theorem wd_573 : Cond.instanceMethod yX9_halfAhead ∈ wsG := tb5 114 (by decide +kernel) (by decide +kernel)
theorem wd_574 : Cond.methodLink RX9 194 yX9_halfAhead ∈ wsG := tb5 112 (by decide +kernel) (by decide +kernel)
theorem wd_575 : Cond.code yX9_halfAhead cX9_halfAhead 4 (some .int) ∈ wsG := tb5 115 (by decide +kernel) (by decide +kernel)
theorem wd_576 : Cond.selects RX9 yX9_numberOf yX9_numberOf ∈ wsG := wsG_sel (by decide +kernel) (by decide +kernel)
theorem wd_577 : Cond.instanceMethod yX9_numberOf ∈ wsG := tb5 106 (by decide +kernel) (by decide +kernel)
theorem wd_578 : Cond.methodLink RX9 203 yX9_numberOf ∈ wsG := tb5 104 (by decide +kernel) (by decide +kernel)
theorem wd_579 : Cond.code yX9_numberOf cX9_numberOf 5 (some .int) ∈ wsG := tb5 107 (by decide +kernel) (by decide +kernel)
theorem wd_580 : Cond.selects RX9 yX9_seek yX9_seek ∈ wsG := wsG_sel (by decide +kernel) (by decide +kernel)
theorem wd_581 : Cond.instanceMethod yX9_seek ∈ wsG := tb5 102 (by decide +kernel) (by decide +kernel)
theorem wd_582 : Cond.methodLink RX9 211 yX9_seek ∈ wsG := tb5 100 (by decide +kernel) (by decide +kernel)
theorem wd_583 : Cond.code yX9_seek cX9_seek 2 none ∈ wsG := tb5 103 (by decide +kernel) (by decide +kernel)
theorem wd_584 : Cond.selects RX9 yX9_outOf yX9_outOf ∈ wsG := wsG_sel (by decide +kernel) (by decide +kernel)
theorem wd_585 : Cond.instanceMethod yX9_outOf ∈ wsG := tb5 118 (by decide +kernel) (by decide +kernel)
theorem wd_586 : Cond.methodLink RX9 206 yX9_outOf ∈ wsG := tb5 116 (by decide +kernel) (by decide +kernel)
theorem wd_587 : Cond.code yX9_outOf cX9_outOf 6 (some .int) ∈ wsG := tb5 119 (by decide +kernel) (by decide +kernel)
theorem wd_588 : Cond.selects RX9 yX9_movedOf yX9_movedOf ∈ wsG := wsG_sel (by decide +kernel) (by decide +kernel)
theorem wd_589 : Cond.instanceMethod yX9_movedOf ∈ wsG := tb5 122 (by decide +kernel) (by decide +kernel)
theorem wd_590 : Cond.methodLink RX9 214 yX9_movedOf ∈ wsG := tb5 120 (by decide +kernel) (by decide +kernel)
theorem wd_591 : Cond.code yX9_movedOf cX9_movedOf 5 (some .int) ∈ wsG := tb5 123 (by decide +kernel) (by decide +kernel)
theorem wd_592 : Cond.constant RX9 217 (100000) ∈ wsG := tb5 124 (by decide +kernel) (by decide +kernel)
theorem wd_593 : Cond.fieldLink RX9 49 "FoldedPagesModel" "isMissing" "[Z" ∈ wsG := tb4 103 (by decide +kernel) (by decide +kernel)
theorem wd_594 : Cond.fieldLink RJ0 38 "java/lang/String" "COMPACT_STRINGS" "Z" ∈ wsG := tb1 232 (by decide +kernel) (by decide +kernel)
theorem wd_595 : Cond.fieldLink RJ0 15 "java/lang/String" "coder" "B" ∈ wsG := tb5 154 (by decide +kernel) (by decide +kernel)
theorem wd_596 : Cond.selects RJ0 yJ0_isLatin1_aae02 yJ0_isLatin1_aae02 ∈ wsG := tb2 0 (by decide +kernel) (by decide +kernel)
theorem wd_597 : Cond.instanceMethod yJ0_isLatin1_aae02 ∈ wsG := tb1 239 (by decide +kernel) (by decide +kernel)
theorem wd_598 : Cond.methodLink RJ0 492 yJ0_isLatin1_aae02 ∈ wsG := tb1 238 (by decide +kernel) (by decide +kernel)
theorem wd_599 : Cond.code yJ0_isLatin1_aae02 cJ0_isLatin1_aae02 1 (some .boolean) ∈ wsG := tb2 1 (by decide +kernel) (by decide +kernel)
theorem wd_600 : Cond.fieldLink RJ0 9 "java/lang/String" "value" "[B" ∈ wsG := tb5 153 (by decide +kernel) (by decide +kernel)
theorem wd_601 : Cond.selects RJ0 yJ0_coder_7d493 yJ0_coder_7d493 ∈ wsG := tb1 230 (by decide +kernel) (by decide +kernel)
theorem wd_602 : Cond.instanceMethod yJ0_coder_7d493 ∈ wsG := tb1 229 (by decide +kernel) (by decide +kernel)
theorem wd_603 : Cond.methodLink RJ0 335 yJ0_coder_7d493 ∈ wsG := tb1 228 (by decide +kernel) (by decide +kernel)
theorem wd_604 : Cond.code yJ0_coder_7d493 cJ0_coder_7d493 1 (some .byte) ∈ wsG := tb1 231 (by decide +kernel) (by decide +kernel)
theorem wd_605 : Cond.selects RJ0 yJ0_length_8abf5 yJ0_length_8abf5 ∈ wsG := tb1 226 (by decide +kernel) (by decide +kernel)
theorem wd_606 : Cond.instanceMethod yJ0_length_8abf5 ∈ wsG := tb1 225 (by decide +kernel) (by decide +kernel)
theorem wd_607 : Cond.methodLink RJ0 505 yJ0_length_8abf5 ∈ wsG := tb2 75 (by decide +kernel) (by decide +kernel)
theorem wd_608 : Cond.code yJ0_length_8abf5 cJ0_length_8abf5 1 (some .int) ∈ wsG := tb1 227 (by decide +kernel) (by decide +kernel)
theorem wd_609 : Cond.static yJ1_canEncode_9a6ad ∈ wsG := tb2 80 (by decide +kernel) (by decide +kernel)
theorem wd_610 : Cond.methodLink RJ1 88 yJ1_canEncode_9a6ad ∈ wsG := tb2 79 (by decide +kernel) (by decide +kernel)
theorem wd_611 : Cond.initialized RJ1 ∈ wsG := tb1 11 (by decide +kernel) (by decide +kernel)
theorem wd_612 : Cond.code yJ1_canEncode_9a6ad cJ1_canEncode_9a6ad 1 (some .boolean) ∈ wsG := tb2 81 (by decide +kernel) (by decide +kernel)
theorem wd_613 : Cond.methodLink RJ1 92 Lib.Math.max.name ∈ wsG := tb2 82 (by decide +kernel) (by decide +kernel)
theorem wd_614 : Cond.static Lib.Math.max.name ∈ wsG := tb2 83 (by decide +kernel) (by decide +kernel)
theorem wd_615 : Cond.code Lib.Math.max.name Lib.Math.max.code 2 (some .int) ∈ wsG := tb2 84 (by decide +kernel) (by decide +kernel)
theorem wd_616 : Cond.methodLink RJ1 38 Lib.Math.min.name ∈ wsG := tb2 85 (by decide +kernel) (by decide +kernel)
theorem wd_617 : Cond.static yJ1_indexOfChar_4cfef ∈ wsG := tb2 89 (by decide +kernel) (by decide +kernel)
theorem wd_618 : Cond.methodLink RJ1 95 yJ1_indexOfChar_4cfef ∈ wsG := tb2 88 (by decide +kernel) (by decide +kernel)
theorem wd_619 : Cond.code yJ1_indexOfChar_4cfef cJ1_indexOfChar_4cfef 6 (some .int) ∈ wsG := tb2 90 (by decide +kernel) (by decide +kernel)
theorem wd_620 : Cond.static yJ1_indexOf_4cfef ∈ wsG := tb2 77 (by decide +kernel) (by decide +kernel)
theorem wd_621 : Cond.methodLink RJ0 637 yJ1_indexOf_4cfef ∈ wsG := tb2 76 (by decide +kernel) (by decide +kernel)
theorem wd_622 : Cond.code yJ1_indexOf_4cfef cJ1_indexOf_4cfef 4 (some .int) ∈ wsG := tb2 78 (by decide +kernel) (by decide +kernel)
theorem wd_623 : Cond.selects RJ0 yJ0_indexOf_7cf53 yJ0_indexOf_7cf53 ∈ wsG := tb2 73 (by decide +kernel) (by decide +kernel)
theorem wd_624 : Cond.instanceMethod yJ0_indexOf_7cf53 ∈ wsG := tb2 72 (by decide +kernel) (by decide +kernel)
theorem wd_625 : Cond.methodLink RJ0 633 yJ0_indexOf_7cf53 ∈ wsG := tb2 71 (by decide +kernel) (by decide +kernel)
theorem wd_626 : Cond.code yJ0_indexOf_7cf53 cJ0_indexOf_7cf53 3 (some .int) ∈ wsG := tb2 74 (by decide +kernel) (by decide +kernel)
theorem wd_627 : Cond.methodLink RJ1 9 yJ0_checkIndex_df160 ∈ wsG := tb2 5 (by decide +kernel) (by decide +kernel)
theorem wd_628 : Cond.code yJ0_checkIndex_df160 cJ0_checkIndex_df160 2 none ∈ wsG := tb2 7 (by decide +kernel) (by decide +kernel)
theorem wd_629 : Cond.static yJ0_checkIndex_df160 ∈ wsG := tb2 6 (by decide +kernel) (by decide +kernel)
theorem wd_630 : Cond.static yJ1_charAt_3b067 ∈ wsG := tb2 3 (by decide +kernel) (by decide +kernel)
theorem wd_631 : Cond.methodLink RJ0 495 yJ1_charAt_3b067 ∈ wsG := tb2 2 (by decide +kernel) (by decide +kernel)
theorem wd_632 : Cond.code yJ1_charAt_3b067 cJ1_charAt_3b067 2 (some .char) ∈ wsG := tb2 4 (by decide +kernel) (by decide +kernel)
theorem wd_633 : Cond.fieldLink RJ0 1053 "jdk/internal/util/Preconditions" "SIOOBE_FORMATTER" "Ljava/util/function/BiFunction;" ∈ wsG := tb2 8 (by decide +kernel) (by decide +kernel)
theorem wd_634 : Cond.methodLink RJ0 1059 yJ3_checkIndex_8e157 ∈ wsG := tb2 10 (by decide +kernel) (by decide +kernel)
theorem wd_635 : Cond.initialized RJ3 ∈ wsG := tb1 12 (by decide +kernel) (by decide +kernel)
theorem wd_636 : Cond.code yJ3_checkIndex_8e157 cJ3_checkIndex_8e157 3 (some .int) ∈ wsG := tb2 12 (by decide +kernel) (by decide +kernel)
theorem wd_637 : Cond.static yJ3_checkIndex_8e157 ∈ wsG := tb2 11 (by decide +kernel) (by decide +kernel)
theorem cw_RX7_34 {α : Type} {μ : Mt α} (h : mow μ = RX7) : CW μ 34 yX7_unspoil cX7_unspoil 2 none 0 := ⟨by rw [h]; exact wd_7, wd_8, wd_9, ⟨by decide, by decide⟩, by decide +kernel⟩
theorem cw_RX6_19 {α : Type} {μ : Mt α} (h : mow μ = RX6) : CW μ 19 yX7_tellNothing cX7_tellNothing 2 none 0 := ⟨by rw [h]; exact wd_12, wd_8, wd_13, ⟨by decide, by decide⟩, by decide +kernel⟩
theorem cw_RX6_36 {α : Type} {μ : Mt α} (h : mow μ = RX6) : CW μ 36 yJ0_indexOf_0f7a4 cJ0_indexOf_0f7a4 2 (some .int) 1 := ⟨by rw [h]; exact wd_16, wd_17, wd_18, ⟨by decide, by decide⟩, by decide +kernel⟩
theorem cw_RX6_78 {α : Type} {μ : Mt α} (h : mow μ = RX6) : CW μ 78 yX5_lastFigure cX5_lastFigure 1 (some .int) 1 := ⟨by rw [h]; exact wd_22, wd_23, wd_24, ⟨by decide, by decide⟩, by decide +kernel⟩
theorem cw_RX6_83 {α : Type} {μ : Mt α} (h : mow μ = RX6) : CW μ 83 yX5_isAcross cX5_isAcross 1 (some .boolean) 1 := ⟨by rw [h]; exact wd_26, wd_23, wd_27, ⟨by decide, by decide⟩, by decide +kernel⟩
theorem cw_RX6_46 {α : Type} {μ : Mt α} (h : mow μ = RX6) : CW μ 46 yX6_foldsIn cX6_foldsIn 6 (some .int) 2 := ⟨by rw [h]; exact wd_30, wd_31, wd_32, ⟨by decide, by decide⟩, by decide +kernel⟩
theorem cw_RX6_53 {α : Type} {μ : Mt α} (h : mow μ = RX6) : CW μ 53 yX7_addScheme cX7_addScheme 3 none 2 := ⟨by rw [h]; exact wd_39, wd_8, wd_40, ⟨by decide, by decide⟩, by decide +kernel⟩
theorem cw_RX6_28 {α : Type} {μ : Mt α} (h : mow μ = RX6) : CW μ 28 yX6_readScheme cX6_readScheme 5 (some .boolean) 3 := ⟨by rw [h]; exact wd_43, wd_31, wd_44, ⟨by decide, by decide⟩, by decide +kernel⟩
theorem cw_RX6_57 {α : Type} {μ : Mt α} (h : mow μ = RX6) : CW μ 57 yX6_commaIn cX6_commaIn 4 (some .int) 2 := ⟨by rw [h]; exact wd_47, wd_31, wd_48, ⟨by decide, by decide⟩, by decide +kernel⟩
theorem cw_RX6_60 {α : Type} {μ : Mt α} (h : mow μ = RX6) : CW μ 60 yX6_figuresIn cX6_figuresIn 5 (some .int) 2 := ⟨by rw [h]; exact wd_51, wd_31, wd_52, ⟨by decide, by decide⟩, by decide +kernel⟩
theorem cw_RX6_31 {α : Type} {μ : Mt α} (h : mow μ = RX6) : CW μ 31 yX6_readPrice cX6_readPrice 7 (some .boolean) 3 := ⟨by rw [h]; exact wd_56, wd_31, wd_57, ⟨by decide, by decide⟩, by decide +kernel⟩
theorem cw_RX6_42 {α : Type} {μ : Mt α} (h : mow μ = RX6) : CW μ 42 yX6_readNumber cX6_readNumber 6 (some .boolean) 4 := ⟨by rw [h]; exact wd_61, wd_31, wd_62, ⟨by decide, by decide⟩, by decide +kernel⟩
theorem cw_RX6_24 {α : Type} {μ : Mt α} (h : mow μ = RX6) : CW μ 24 yX6_readItem cX6_readItem 5 (some .boolean) 3 := ⟨by rw [h]; exact wd_65, wd_31, wd_66, ⟨by decide, by decide⟩, by decide +kernel⟩
theorem cw_RX8_83 {α : Type} {μ : Mt α} (h : mow μ = RX8) : CW μ 83 yX6_readInto cX6_readInto 4 (some .int) 1 := ⟨by rw [h]; exact wd_69, wd_31, wd_70, ⟨by decide, by decide⟩, by decide +kernel⟩
theorem cw_RX7_37 {α : Type} {μ : Mt α} (h : mow μ = RX7) : CW μ 37 yX7_copyRow cX7_copyRow 3 none 2 := ⟨by rw [h]; exact wd_74, wd_8, wd_75, ⟨by decide, by decide⟩, by decide +kernel⟩
theorem cw_RX8_248 {α : Type} {μ : Mt α} (h : mow μ = RX8) : CW μ 248 yX7_copyFrom cX7_copyFrom 2 none 1 := ⟨by rw [h]; exact wd_78, wd_8, wd_79, ⟨by decide, by decide⟩, by decide +kernel⟩
theorem cw_RX5_35 {α : Type} {μ : Mt α} (h : mow μ = RX5) : CW μ 35 yX5_figureAt cX5_figureAt 3 (some .int) 3 := ⟨by rw [h]; exact wd_87, wd_23, wd_88, ⟨by decide, by decide⟩, by decide +kernel⟩
theorem cw_RX5_39 {α : Type} {μ : Mt α} (h : mow μ = RX5) : CW μ 39 yX5_isAcross cX5_isAcross 1 (some .boolean) 1 := ⟨by rw [h]; exact wd_89, wd_23, wd_27, ⟨by decide, by decide⟩, by decide +kernel⟩
theorem cw_RX5_43 {α : Type} {μ : Mt α} (h : mow μ = RX5) : CW μ 43 yX5_leaves cX5_leaves 1 (some .int) 0 := ⟨by rw [h]; exact wd_98, wd_23, wd_99, ⟨by decide, by decide⟩, by decide +kernel⟩
theorem cw_RX5_47 {α : Type} {μ : Mt α} (h : mow μ = RX5) : CW μ 47 yX5_columnAt cX5_columnAt 2 (some .int) 1 := ⟨by rw [h]; exact wd_103, wd_23, wd_104, ⟨by decide, by decide⟩, by decide +kernel⟩
theorem cw_RX5_51 {α : Type} {μ : Mt α} (h : mow μ = RX5) : CW μ 51 yX5_rowAt cX5_rowAt 2 (some .int) 1 := ⟨by rw [h]; exact wd_107, wd_23, wd_108, ⟨by decide, by decide⟩, by decide +kernel⟩
theorem cw_RX5_54 {α : Type} {μ : Mt α} (h : mow μ = RX5) : CW μ 54 yX3_lieAt cX3_lieAt 5 none 4 := ⟨by rw [h]; exact wd_119, wd_120, wd_121, ⟨by decide, by decide⟩, by decide +kernel⟩
theorem cw_RX3_36 {α : Type} {μ : Mt α} (h : mow μ = RX3) : CW μ 36 yX5_isAcross cX5_isAcross 1 (some .boolean) 1 := ⟨by rw [h]; exact wd_122, wd_23, wd_27, ⟨by decide, by decide⟩, by decide +kernel⟩
theorem cw_RX3_42 {α : Type} {μ : Mt α} (h : mow μ = RX3) : CW μ 42 yX3_stayAt cX3_stayAt 4 none 3 := ⟨by rw [h]; exact wd_125, wd_120, wd_126, ⟨by decide, by decide⟩, by decide +kernel⟩
theorem cw_RX5_68 {α : Type} {μ : Mt α} (h : mow μ = RX5) : CW μ 68 yX3_takeFold cX3_takeFold 6 none 1 := ⟨by rw [h]; exact wd_129, wd_120, wd_130, ⟨by decide, by decide⟩, by decide +kernel⟩
theorem cw_RX5_72 {α : Type} {μ : Mt α} (h : mow μ = RX5) : CW μ 72 yX5_lastFigure cX5_lastFigure 1 (some .int) 1 := ⟨by rw [h]; exact wd_131, wd_23, wd_24, ⟨by decide, by decide⟩, by decide +kernel⟩
theorem cw_RX5_75 {α : Type} {μ : Mt α} (h : mow μ = RX5) : CW μ 75 yX3_turnPile cX3_turnPile 1 none 0 := ⟨by rw [h]; exact wd_134, wd_120, wd_135, ⟨by decide, by decide⟩, by decide +kernel⟩
theorem cw_RX5_58 {α : Type} {μ : Mt α} (h : mow μ = RX5) : CW μ 58 yX5_foldLeaf cX5_foldLeaf 4 none 2 := ⟨by rw [h]; exact wd_138, wd_23, wd_139, ⟨by decide, by decide⟩, by decide +kernel⟩
theorem cw_RX5_62 {α : Type} {μ : Mt α} (h : mow μ = RX5) : CW μ 62 yX3_frontPage cX3_frontPage 2 (some .int) 0 := ⟨by rw [h]; exact wd_143, wd_120, wd_144, ⟨by decide, by decide⟩, by decide +kernel⟩
theorem cw_RX8_254 {α : Type} {μ : Mt α} (h : mow μ = RX8) : CW μ 254 yX5_foldBy cX5_foldBy 4 none 2 := ⟨by rw [h]; exact wd_149, wd_23, wd_150, ⟨by decide, by decide⟩, by decide +kernel⟩
theorem cw_RX4_52 {α : Type} {μ : Mt α} (h : mow μ = RX4) : CW μ 52 yX7_unitsOf cX7_unitsOf 2 (some .int) 1 := ⟨by rw [h]; exact wd_156, wd_8, wd_157, ⟨by decide, by decide⟩, by decide +kernel⟩
theorem cw_RX4_44 {α : Type} {μ : Mt α} (h : mow μ = RX4) : CW μ 44 yX4_withOneOf cX4_withOneOf 5 (some .int) 3 := ⟨by rw [h]; exact wd_161, wd_162, wd_163, ⟨by decide, by decide⟩, by decide +kernel⟩
theorem cw_RX4_48 {α : Type} {μ : Mt α} (h : mow μ = RX4) : CW μ 48 yX4_cheaper cX4_cheaper 2 (some .int) 2 := ⟨by rw [h]; exact wd_166, wd_162, wd_167, ⟨by decide, by decide⟩, by decide +kernel⟩
theorem cw_RX4_20 {α : Type} {μ : Mt α} (h : mow μ = RX4) : CW μ 20 yX4_weigh cX4_weigh 4 none 1 := ⟨by rw [h]; exact wd_170, wd_162, wd_171, ⟨by decide, by decide⟩, by decide +kernel⟩
theorem cw_RX4_29 {α : Type} {μ : Mt α} (h : mow μ = RX4) : CW μ 29 yX4_unitsFor cX4_unitsFor 3 (some .int) 1 := ⟨by rw [h]; exact wd_175, wd_162, wd_176, ⟨by decide, by decide⟩, by decide +kernel⟩
theorem cw_RX4_63 {α : Type} {μ : Mt α} (h : mow μ = RX4) : CW μ 63 yX4_mostOf cX4_mostOf 8 (some .int) 3 := ⟨by rw [h]; exact wd_181, wd_162, wd_182, ⟨by decide, by decide⟩, by decide +kernel⟩
theorem cw_RX4_37 {α : Type} {μ : Mt α} (h : mow μ = RX4) : CW μ 37 yX4_choose cX4_choose 5 none 2 := ⟨by rw [h]; exact wd_185, wd_162, wd_186, ⟨by decide, by decide⟩, by decide +kernel⟩
theorem cw_RX8_258 {α : Type} {μ : Mt α} (h : mow μ = RX8) : CW μ 258 yX4_make cX4_make 3 none 1 := ⟨by rw [h]; exact wd_189, wd_162, wd_190, ⟨by decide, by decide⟩, by decide +kernel⟩
theorem cw_RX0_41 {α : Type} {μ : Mt α} (h : mow μ = RX0) : CW μ 41 yX7_pagesOf cX7_pagesOf 2 (some .int) 1 := ⟨by rw [h]; exact wd_198, wd_8, wd_199, ⟨by decide, by decide⟩, by decide +kernel⟩
theorem cw_RX0_45 {α : Type} {μ : Mt α} (h : mow μ = RX0) : CW μ 45 yX0_addSheet cX0_addSheet 3 none 2 := ⟨by rw [h]; exact wd_204, wd_205, wd_206, ⟨by decide, by decide⟩, by decide +kernel⟩
theorem cw_RX0_53 {α : Type} {μ : Mt α} (h : mow μ = RX0) : CW μ 53 yX0_numberOf cX0_numberOf 6 (some .int) 3 := ⟨by rw [h]; exact wd_210, wd_205, wd_211, ⟨by decide, by decide⟩, by decide +kernel⟩
theorem cw_RX0_49 {α : Type} {μ : Mt α} (h : mow μ = RX0) : CW μ 49 yX0_placePages cX0_placePages 5 none 2 := ⟨by rw [h]; exact wd_216, wd_205, wd_217, ⟨by decide, by decide⟩, by decide +kernel⟩
theorem cw_RX8_261 {α : Type} {μ : Mt α} (h : mow μ = RX8) : CW μ 261 yX0_arrange cX0_arrange 5 none 2 := ⟨by rw [h]; exact wd_220, wd_205, wd_221, ⟨by decide, by decide⟩, by decide +kernel⟩
theorem cw_RX8_136 {α : Type} {μ : Mt α} (h : mow μ = RX8) : CW μ 136 yX8_settle cX8_settle 2 none 0 := ⟨by rw [h]; exact wd_224, wd_225, wd_226, ⟨by decide, by decide⟩, by decide +kernel⟩
theorem cw_RX8_73 {α : Type} {μ : Mt α} (h : mow μ = RX8) : CW μ 73 yX6_append cX6_append 2 none 1 := ⟨by rw [h]; exact wd_230, wd_31, wd_231, ⟨by decide, by decide⟩, by decide +kernel⟩
theorem cw_RX8_77 {α : Type} {μ : Mt α} (h : mow μ = RX8) : CW μ 77 yX8_layText cX8_layText 1 (some .int) 0 := ⟨by rw [h]; exact wd_234, wd_225, wd_235, ⟨by decide, by decide⟩, by decide +kernel⟩
theorem cw_RX1_25 {α : Type} {μ : Mt α} (h : mow μ = RX1) : CW μ 25 yX7_copyFrom cX7_copyFrom 2 none 1 := ⟨by rw [h]; exact wd_241, wd_8, wd_79, ⟨by decide, by decide⟩, by decide +kernel⟩
theorem cw_RX1_22 {α : Type} {μ : Mt α} (h : mow μ = RX1) : CW μ 22 yX1_forgetOldest cX1_forgetOldest 3 none 0 := ⟨by rw [h]; exact wd_244, wd_245, wd_246, ⟨by decide, by decide⟩, by decide +kernel⟩
theorem cw_RX8_97 {α : Type} {μ : Mt α} (h : mow μ = RX8) : CW μ 97 yX1_keep cX1_keep 2 none 1 := ⟨by rw [h]; exact wd_249, wd_245, wd_250, ⟨by decide, by decide⟩, by decide +kernel⟩
theorem cw_RX8_251 {α : Type} {μ : Mt α} (h : mow μ = RX8) : CW μ 251 yX7_unspoil cX7_unspoil 2 none 0 := ⟨by rw [h]; exact wd_251, wd_8, wd_9, ⟨by decide, by decide⟩, by decide +kernel⟩
theorem cw_RX8_101 {α : Type} {μ : Mt α} (h : mow μ = RX8) : CW μ 101 yX8_settleAnew cX8_settleAnew 1 none 0 := ⟨by rw [h]; exact wd_254, wd_225, wd_255, ⟨by decide, by decide⟩, by decide +kernel⟩
theorem cw_RX8_104 {α : Type} {μ : Mt α} (h : mow μ = RX8) : CW μ 104 yX8_isScheme cX8_isScheme 2 (some .boolean) 1 := ⟨by rw [h]; exact wd_258, wd_225, wd_259, ⟨by decide, by decide⟩, by decide +kernel⟩
theorem cw_RX8_111 {α : Type} {μ : Mt α} (h : mow μ = RX8) : CW μ 111 yX6_foldsIn cX6_foldsIn 6 (some .int) 2 := ⟨by rw [h]; exact wd_261, wd_31, wd_32, ⟨by decide, by decide⟩, by decide +kernel⟩
theorem cw_RX8_121 {α : Type} {μ : Mt α} (h : mow μ = RX8) : CW μ 121 yX8_isSheet cX8_isSheet 2 (some .boolean) 1 := ⟨by rw [h]; exact wd_265, wd_225, wd_266, ⟨by decide, by decide⟩, by decide +kernel⟩
theorem cw_RX8_127 {α : Type} {μ : Mt α} (h : mow μ = RX8) : CW μ 127 yX7_spoiledSheets cX7_spoiledSheets 3 (some .int) 0 := ⟨by rw [h]; exact wd_270, wd_8, wd_271, ⟨by decide, by decide⟩, by decide +kernel⟩
theorem cw_RX8_133 {α : Type} {μ : Mt α} (h : mow μ = RX8) : CW μ 133 yX1_bringBack cX1_bringBack 2 none 1 := ⟨by rw [h]; exact wd_274, wd_245, wd_275, ⟨by decide, by decide⟩, by decide +kernel⟩
theorem cw_RX8_145 {α : Type} {μ : Mt α} (h : mow μ = RX8) : CW μ 145 yX7_pagesOf cX7_pagesOf 2 (some .int) 1 := ⟨by rw [h]; exact wd_278, wd_8, wd_199, ⟨by decide, by decide⟩, by decide +kernel⟩
theorem cw_RX8_154 {α : Type} {μ : Mt α} (h : mow μ = RX8) : CW μ 154 yX5_figureAt cX5_figureAt 3 (some .int) 3 := ⟨by rw [h]; exact wd_280, wd_23, wd_88, ⟨by decide, by decide⟩, by decide +kernel⟩
theorem cw_RX8_69 {α : Type} {μ : Mt α} (h : mow μ = RX8) : CW μ 69 yJ0_charAt_5068e cJ0_charAt_5068e 2 (some .char) 1 := ⟨by rw [h]; exact wd_281, wd_17, wd_282, ⟨by decide, by decide⟩, by decide +kernel⟩
theorem cw_RX8_158 {α : Type} {μ : Mt α} (h : mow μ = RX8) : CW μ 158 yX8_isSide cX8_isSide 1 (some .boolean) 1 := ⟨by rw [h]; exact wd_286, wd_225, wd_287, ⟨by decide, by decide⟩, by decide +kernel⟩
theorem cw_RX8_161 {α : Type} {μ : Mt α} (h : mow μ = RX8) : CW μ 161 yX5_hasCell cX5_hasCell 3 (some .boolean) 2 := ⟨by rw [h]; exact wd_290, wd_23, wd_291, ⟨by decide, by decide⟩, by decide +kernel⟩
theorem cw_RX5_84 {α : Type} {μ : Mt α} (h : mow μ = RX5) : CW μ 84 yX5_cellAt cX5_cellAt 3 (some .int) 2 := ⟨by rw [h]; exact wd_294, wd_23, wd_295, ⟨by decide, by decide⟩, by decide +kernel⟩
theorem cw_RX5_87 {α : Type} {μ : Mt α} (h : mow μ = RX5) : CW μ 87 yX5_behind cX5_behind 1 (some .int) 1 := ⟨by rw [h]; exact wd_297, wd_23, wd_298, ⟨by decide, by decide⟩, by decide +kernel⟩
theorem cw_RX8_165 {α : Type} {μ : Mt α} (h : mow μ = RX8) : CW μ 165 yX5_pageOn cX5_pageOn 5 (some .int) 3 := ⟨by rw [h]; exact wd_301, wd_23, wd_302, ⟨by decide, by decide⟩, by decide +kernel⟩
theorem cw_RX5_90 {α : Type} {μ : Mt α} (h : mow μ = RX5) : CW μ 90 yX5_cellOf cX5_cellOf 3 (some .int) 1 := ⟨by rw [h]; exact wd_305, wd_23, wd_306, ⟨by decide, by decide⟩, by decide +kernel⟩
theorem cw_RX8_168 {α : Type} {μ : Mt α} (h : mow μ = RX8) : CW μ 168 yX5_sideOf cX5_sideOf 2 (some .int) 1 := ⟨by rw [h]; exact wd_309, wd_23, wd_310, ⟨by decide, by decide⟩, by decide +kernel⟩
theorem cw_RX8_171 {α : Type} {μ : Mt α} (h : mow μ = RX8) : CW μ 171 yX5_columnOf cX5_columnOf 2 (some .int) 1 := ⟨by rw [h]; exact wd_313, wd_23, wd_314, ⟨by decide, by decide⟩, by decide +kernel⟩
theorem cw_RX8_174 {α : Type} {μ : Mt α} (h : mow μ = RX8) : CW μ 174 yX5_rowOf cX5_rowOf 2 (some .int) 1 := ⟨by rw [h]; exact wd_317, wd_23, wd_318, ⟨by decide, by decide⟩, by decide +kernel⟩
theorem cw_RX8_177 {α : Type} {μ : Mt α} (h : mow μ = RX8) : CW μ 177 yX5_isOverturned cX5_isOverturned 2 (some .int) 1 := ⟨by rw [h]; exact wd_321, wd_23, wd_322, ⟨by decide, by decide⟩, by decide +kernel⟩
theorem cw_RX8_180 {α : Type} {μ : Mt α} (h : mow μ = RX8) : CW μ 180 yX5_behind cX5_behind 1 (some .int) 1 := ⟨by rw [h]; exact wd_323, wd_23, wd_298, ⟨by decide, by decide⟩, by decide +kernel⟩
theorem cw_RX5_93 {α : Type} {μ : Mt α} (h : mow μ = RX5) : CW μ 93 yX5_sideOf cX5_sideOf 2 (some .int) 1 := ⟨by rw [h]; exact wd_324, wd_23, wd_310, ⟨by decide, by decide⟩, by decide +kernel⟩
theorem cw_RX5_96 {α : Type} {μ : Mt α} (h : mow μ = RX5) : CW μ 96 yX5_columnOf cX5_columnOf 2 (some .int) 1 := ⟨by rw [h]; exact wd_325, wd_23, wd_314, ⟨by decide, by decide⟩, by decide +kernel⟩
theorem cw_RX5_99 {α : Type} {μ : Mt α} (h : mow μ = RX5) : CW μ 99 yX5_rowOf cX5_rowOf 2 (some .int) 1 := ⟨by rw [h]; exact wd_326, wd_23, wd_318, ⟨by decide, by decide⟩, by decide +kernel⟩
theorem cw_RX5_102 {α : Type} {μ : Mt α} (h : mow μ = RX5) : CW μ 102 yX5_hasCell cX5_hasCell 3 (some .boolean) 2 := ⟨by rw [h]; exact wd_327, wd_23, wd_291, ⟨by decide, by decide⟩, by decide +kernel⟩
theorem cw_RX5_106 {α : Type} {μ : Mt α} (h : mow μ = RX5) : CW μ 106 yX5_pageOn cX5_pageOn 5 (some .int) 3 := ⟨by rw [h]; exact wd_328, wd_23, wd_302, ⟨by decide, by decide⟩, by decide +kernel⟩
theorem cw_RX8_183 {α : Type} {μ : Mt α} (h : mow μ = RX8) : CW μ 183 yX5_rightOf cX5_rightOf 5 (some .int) 1 := ⟨by rw [h]; exact wd_331, wd_23, wd_332, ⟨by decide, by decide⟩, by decide +kernel⟩
theorem cw_RX8_186 {α : Type} {μ : Mt α} (h : mow μ = RX8) : CW μ 186 yX5_overturnedLeaves cX5_overturnedLeaves 3 (some .int) 0 := ⟨by rw [h]; exact wd_335, wd_23, wd_336, ⟨by decide, by decide⟩, by decide +kernel⟩
theorem cw_RX8_189 {α : Type} {μ : Mt α} (h : mow μ = RX8) : CW μ 189 yX8_isFoldCount cX8_isFoldCount 1 (some .boolean) 1 := ⟨by rw [h]; exact wd_338, wd_225, wd_339, ⟨by decide, by decide⟩, by decide +kernel⟩
theorem cw_RX2_34 {α : Type} {μ : Mt α} (h : mow μ = RX2) : CW μ 34 yX2_codesOf cX2_codesOf 1 (some .int) 1 := ⟨by rw [h]; exact wd_342, wd_343, wd_344, ⟨by decide, by decide⟩, by decide +kernel⟩
theorem cw_RX2_22 {α : Type} {μ : Mt α} (h : mow μ = RX2) : CW μ 22 yX5_lastFigure cX5_lastFigure 1 (some .int) 1 := ⟨by rw [h]; exact wd_345, wd_23, wd_24, ⟨by decide, by decide⟩, by decide +kernel⟩
theorem cw_RX2_26 {α : Type} {μ : Mt α} (h : mow μ = RX2) : CW μ 26 yX5_isAcross cX5_isAcross 1 (some .boolean) 1 := ⟨by rw [h]; exact wd_346, wd_23, wd_27, ⟨by decide, by decide⟩, by decide +kernel⟩
theorem cw_RX2_30 {α : Type} {μ : Mt α} (h : mow μ = RX2) : CW μ 30 yX5_foldBy cX5_foldBy 4 none 2 := ⟨by rw [h]; exact wd_348, wd_23, wd_150, ⟨by decide, by decide⟩, by decide +kernel⟩
theorem cw_RX2_37 {α : Type} {μ : Mt α} (h : mow μ = RX2) : CW μ 37 yX2_isTried cX2_isTried 3 (some .boolean) 2 := ⟨by rw [h]; exact wd_351, wd_343, wd_352, ⟨by decide, by decide⟩, by decide +kernel⟩
theorem cw_RX2_41 {α : Type} {μ : Mt α} (h : mow μ = RX2) : CW μ 41 yX5_hasCell cX5_hasCell 3 (some .boolean) 2 := ⟨by rw [h]; exact wd_353, wd_23, wd_291, ⟨by decide, by decide⟩, by decide +kernel⟩
theorem cw_RX2_44 {α : Type} {μ : Mt α} (h : mow μ = RX2) : CW μ 44 yX5_pageOn cX5_pageOn 5 (some .int) 3 := ⟨by rw [h]; exact wd_354, wd_23, wd_302, ⟨by decide, by decide⟩, by decide +kernel⟩
theorem cw_RX8_192 {α : Type} {μ : Mt α} (h : mow μ = RX8) : CW μ 192 yX2_firstWith cX2_firstWith 7 (some .int) 5 := ⟨by rw [h]; exact wd_357, wd_343, wd_358, ⟨by decide, by decide⟩, by decide +kernel⟩
theorem cw_RX2_52 {α : Type} {μ : Mt α} (h : mow μ = RX2) : CW μ 52 yX5_leaves cX5_leaves 1 (some .int) 0 := ⟨by rw [h]; exact wd_359, wd_23, wd_99, ⟨by decide, by decide⟩, by decide +kernel⟩
theorem cw_RX2_56 {α : Type} {μ : Mt α} (h : mow μ = RX2) : CW μ 56 yX5_markOf cX5_markOf 2 (some .int) 1 := ⟨by rw [h]; exact wd_362, wd_23, wd_363, ⟨by decide, by decide⟩, by decide +kernel⟩
theorem cw_RX2_48 {α : Type} {μ : Mt α} (h : mow μ = RX2) : CW μ 48 yX2_isTriedAlike cX2_isTriedAlike 3 (some .boolean) 1 := ⟨by rw [h]; exact wd_366, wd_343, wd_367, ⟨by decide, by decide⟩, by decide +kernel⟩
theorem cw_RX8_196 {α : Type} {μ : Mt α} (h : mow μ = RX8) : CW μ 196 yX2_alikeTo cX2_alikeTo 5 (some .int) 2 := ⟨by rw [h]; exact wd_370, wd_343, wd_371, ⟨by decide, by decide⟩, by decide +kernel⟩
theorem cw_RX2_59 {α : Type} {μ : Mt α} (h : mow μ = RX2) : CW μ 59 yX2_keepMarks cX2_keepMarks 3 none 1 := ⟨by rw [h]; exact wd_375, wd_343, wd_376, ⟨by decide, by decide⟩, by decide +kernel⟩
theorem cw_RX2_66 {α : Type} {μ : Mt α} (h : mow μ = RX2) : CW μ 66 yX2_haveSameMarks cX2_haveSameMarks 4 (some .boolean) 2 := ⟨by rw [h]; exact wd_379, wd_343, wd_380, ⟨by decide, by decide⟩, by decide +kernel⟩
theorem cw_RX2_63 {α : Type} {μ : Mt α} (h : mow μ = RX2) : CW μ 63 yX2_isKeptBefore cX2_isKeptBefore 3 (some .boolean) 1 := ⟨by rw [h]; exact wd_383, wd_343, wd_384, ⟨by decide, by decide⟩, by decide +kernel⟩
theorem cw_RX8_200 {α : Type} {μ : Mt α} (h : mow μ = RX8) : CW μ 200 yX2_unlikeOnes cX2_unlikeOnes 4 (some .int) 1 := ⟨by rw [h]; exact wd_387, wd_343, wd_388, ⟨by decide, by decide⟩, by decide +kernel⟩
theorem cw_RX8_212 {α : Type} {μ : Mt α} (h : mow μ = RX8) : CW μ 212 yX4_unitsFor cX4_unitsFor 3 (some .int) 1 := ⟨by rw [h]; exact wd_391, wd_162, wd_176, ⟨by decide, by decide⟩, by decide +kernel⟩
theorem cw_RX8_224 {α : Type} {μ : Mt α} (h : mow μ = RX8) : CW μ 224 yX0_out cX0_out 7 (some .int) 3 := ⟨by rw [h]; exact wd_398, wd_205, wd_399, ⟨by decide, by decide⟩, by decide +kernel⟩
theorem cw_RX0_66 {α : Type} {μ : Mt α} (h : mow μ = RX0) : CW μ 66 yX0_out cX0_out 7 (some .int) 3 := ⟨by rw [h]; exact wd_401, wd_205, wd_399, ⟨by decide, by decide⟩, by decide +kernel⟩
theorem cw_RX0_69 {α : Type} {μ : Mt α} (h : mow μ = RX0) : CW μ 69 yX0_mostOut cX0_mostOut 4 (some .int) 2 := ⟨by rw [h]; exact wd_404, wd_205, wd_405, ⟨by decide, by decide⟩, by decide +kernel⟩
theorem cw_RX8_229 {α : Type} {μ : Mt α} (h : mow μ = RX8) : CW μ 229 yX0_moved cX0_moved 5 (some .int) 3 := ⟨by rw [h]; exact wd_408, wd_205, wd_409, ⟨by decide, by decide⟩, by decide +kernel⟩
theorem cw_RX8_232 {α : Type} {μ : Mt α} (h : mow μ = RX8) : CW μ 232 yX8_isMissing cX8_isMissing 2 (some .boolean) 1 := ⟨by rw [h]; exact wd_412, wd_225, wd_413, ⟨by decide, by decide⟩, by decide +kernel⟩
theorem cw_RX8_235 {α : Type} {μ : Mt α} (h : mow μ = RX8) : CW μ 235 yX0_numberOf cX0_numberOf 6 (some .int) 3 := ⟨by rw [h]; exact wd_414, wd_205, wd_211, ⟨by decide, by decide⟩, by decide +kernel⟩
theorem cw_RX8_238 {α : Type} {μ : Mt α} (h : mow μ = RX8) : CW μ 238 yX0_blanksOn cX0_blanksOn 5 (some .int) 2 := ⟨by rw [h]; exact wd_417, wd_205, wd_418, ⟨by decide, by decide⟩, by decide +kernel⟩
theorem cw_RX8_242 {α : Type} {μ : Mt α} (h : mow μ = RX8) : CW μ 242 yX8_missingRuns cX8_missingRuns 3 (some .int) 0 := ⟨by rw [h]; exact wd_421, wd_225, wd_422, ⟨by decide, by decide⟩, by decide +kernel⟩
theorem cw_RX9_57 {α : Type} {μ : Mt α} (h : mow μ = RX9) : CW μ 57 yX9_in cX9_in 6 (some .boolean) 3 := ⟨by rw [h]; exact wd_426, wd_427, wd_428, ⟨by decide, by decide⟩, by decide +kernel⟩
theorem cw_RX9_68 {α : Type} {μ : Mt α} (h : mow μ = RX9) : CW μ 68 yX9_byteAt cX9_byteAt 2 (some .int) 1 := ⟨by rw [h]; exact wd_437, wd_427, wd_438, ⟨by decide, by decide⟩, by decide +kernel⟩
theorem cw_RX9_83 {α : Type} {μ : Mt α} (h : mow μ = RX9) : CW μ 83 yX9_figures cX9_figures 5 (some .int) 2 := ⟨by rw [h]; exact wd_443, wd_427, wd_444, ⟨by decide, by decide⟩, by decide +kernel⟩
theorem cw_RX9_91 {α : Type} {μ : Mt α} (h : mow μ = RX9) : CW μ 91 yX9_tells cX9_tells 5 (some .boolean) 3 := ⟨by rw [h]; exact wd_447, wd_427, wd_448, ⟨by decide, by decide⟩, by decide +kernel⟩
theorem cw_RX9_76 {α : Type} {μ : Mt α} (h : mow μ = RX9) : CW μ 76 yX9_isFold cX9_isFold 1 (some .boolean) 1 := ⟨by rw [h]; exact wd_450, wd_427, wd_451, ⟨by decide, by decide⟩, by decide +kernel⟩
theorem cw_RX9_80 {α : Type} {μ : Mt α} (h : mow μ = RX9) : CW μ 80 yX9_isSide cX9_isSide 1 (some .boolean) 1 := ⟨by rw [h]; exact wd_453, wd_427, wd_454, ⟨by decide, by decide⟩, by decide +kernel⟩
theorem cw_RX9_87 {α : Type} {μ : Mt α} (h : mow μ = RX9) : CW μ 87 yX9_schemeItem cX9_schemeItem 3 (some .boolean) 0 := ⟨by rw [h]; exact wd_457, wd_427, wd_458, ⟨by decide, by decide⟩, by decide +kernel⟩
theorem cw_RX9_99 {α : Type} {μ : Mt α} (h : mow μ = RX9) : CW μ 99 yX9_item cX9_item 3 (some .boolean) 1 := ⟨by rw [h]; exact wd_461, wd_427, wd_462, ⟨by decide, by decide⟩, by decide +kernel⟩
theorem cw_RX9_102 {α : Type} {μ : Mt α} (h : mow μ = RX9) : CW μ 102 yX9_fault cX9_fault 2 (some .int) 0 := ⟨by rw [h]; exact wd_465, wd_427, wd_466, ⟨by decide, by decide⟩, by decide +kernel⟩
theorem cw_RX9_109 {α : Type} {μ : Mt α} (h : mow μ = RX9) : CW μ 109 yX9_note cX9_note 2 none 0 := ⟨by rw [h]; exact wd_473, wd_427, wd_474, ⟨by decide, by decide⟩, by decide +kernel⟩
theorem cw_RX9_112 {α : Type} {μ : Mt α} (h : mow μ = RX9) : CW μ 112 yX9_wholes cX9_wholes 2 none 0 := ⟨by rw [h]; exact wd_477, wd_427, wd_478, ⟨by decide, by decide⟩, by decide +kernel⟩
theorem cw_RX9_119 {α : Type} {μ : Mt α} (h : mow μ = RX9) : CW μ 119 yX9_becomes cX9_becomes 4 (some .int) 2 := ⟨by rw [h]; exact wd_481, wd_427, wd_482, ⟨by decide, by decide⟩, by decide +kernel⟩
theorem cw_RX9_122 {α : Type} {μ : Mt α} (h : mow μ = RX9) : CW μ 122 yX9_isScheme cX9_isScheme 2 (some .boolean) 1 := ⟨by rw [h]; exact wd_486, wd_427, wd_487, ⟨by decide, by decide⟩, by decide +kernel⟩
theorem cw_RX9_181 {α : Type} {μ : Mt α} (h : mow μ = RX9) : CW μ 181 yX9_at cX9_at 2 (some .int) 2 := ⟨by rw [h]; exact wd_491, wd_427, wd_492, ⟨by decide, by decide⟩, by decide +kernel⟩
theorem cw_RX9_151 {α : Type} {μ : Mt α} (h : mow μ = RX9) : CW μ 151 yX9_pagesOf cX9_pagesOf 2 (some .int) 1 := ⟨by rw [h]; exact wd_496, wd_427, wd_497, ⟨by decide, by decide⟩, by decide +kernel⟩
theorem cw_RX9_154 {α : Type} {μ : Mt α} (h : mow μ = RX9) : CW μ 154 yX9_findPlan cX9_findPlan 7 none 1 := ⟨by rw [h]; exact wd_502, wd_427, wd_503, ⟨by decide, by decide⟩, by decide +kernel⟩
theorem cw_RX9_188 {α : Type} {μ : Mt α} (h : mow μ = RX9) : CW μ 188 yX9_sheetMany cX9_sheetMany 1 (some .int) 0 := ⟨by rw [h]; exact wd_506, wd_427, wd_507, ⟨by decide, by decide⟩, by decide +kernel⟩
theorem cw_RX9_218 {α : Type} {μ : Mt α} (h : mow μ = RX9) : CW μ 218 yX9_isSheet cX9_isSheet 2 (some .boolean) 1 := ⟨by rw [h]; exact wd_510, wd_427, wd_511, ⟨by decide, by decide⟩, by decide +kernel⟩
theorem cw_RX9_221 {α : Type} {μ : Mt α} (h : mow μ = RX9) : CW μ 221 yX9_spoiledMany cX9_spoiledMany 3 (some .int) 0 := ⟨by rw [h]; exact wd_514, wd_427, wd_515, ⟨by decide, by decide⟩, by decide +kernel⟩
theorem cw_RX9_148 {α : Type} {μ : Mt α} (h : mow μ = RX9) : CW μ 148 yX9_acrossOf cX9_acrossOf 4 (some .int) 1 := ⟨by rw [h]; exact wd_519, wd_427, wd_520, ⟨by decide, by decide⟩, by decide +kernel⟩
theorem cw_RX9_142 {α : Type} {μ : Mt α} (h : mow μ = RX9) : CW μ 142 yX9_turns cX9_turns 16 none 2 := ⟨by rw [h]; exact wd_531, wd_427, wd_532, ⟨by decide, by decide⟩, by decide +kernel⟩
theorem cw_RX9_130 {α : Type} {μ : Mt α} (h : mow μ = RX9) : CW μ 130 yX9_foldAll cX9_foldAll 6 none 0 := ⟨by rw [h]; exact wd_538, wd_427, wd_539, ⟨by decide, by decide⟩, by decide +kernel⟩
theorem cw_RX9_160 {α : Type} {μ : Mt α} (h : mow μ = RX9) : CW μ 160 yX9_lays cX9_lays 3 none 1 := ⟨by rw [h]; exact wd_542, wd_427, wd_543, ⟨by decide, by decide⟩, by decide +kernel⟩
theorem cw_RX9_163 {α : Type} {μ : Mt α} (h : mow μ = RX9) : CW μ 163 yX9_pageAt cX9_pageAt 4 (some .int) 2 := ⟨by rw [h]; exact wd_546, wd_427, wd_547, ⟨by decide, by decide⟩, by decide +kernel⟩
theorem cw_RX9_166 {α : Type} {μ : Mt α} (h : mow μ = RX9) : CW μ 166 yX9_letterOf cX9_letterOf 1 (some .int) 1 := ⟨by rw [h]; exact wd_550, wd_427, wd_551, ⟨by decide, by decide⟩, by decide +kernel⟩
theorem cw_RX9_171 {α : Type} {μ : Mt α} (h : mow μ = RX9) : CW μ 171 yX9_isText cX9_isText 4 (some .boolean) 2 := ⟨by rw [h]; exact wd_554, wd_427, wd_555, ⟨by decide, by decide⟩, by decide +kernel⟩
theorem cw_RX9_175 {α : Type} {μ : Mt α} (h : mow μ = RX9) : CW μ 175 yX9_knows cX9_knows 3 none 1 := ⟨by rw [h]; exact wd_559, wd_427, wd_560, ⟨by decide, by decide⟩, by decide +kernel⟩
theorem cw_RX9_178 {α : Type} {μ : Mt α} (h : mow μ = RX9) : CW μ 178 yX9_isKnown cX9_isKnown 4 (some .boolean) 1 := ⟨by rw [h]; exact wd_563, wd_427, wd_564, ⟨by decide, by decide⟩, by decide +kernel⟩
theorem cw_RX9_191 {α : Type} {μ : Mt α} (h : mow μ = RX9) : CW μ 191 yX9_schemeOf cX9_schemeOf 4 (some .int) 1 := ⟨by rw [h]; exact wd_570, wd_427, wd_571, ⟨by decide, by decide⟩, by decide +kernel⟩
theorem cw_RX9_194 {α : Type} {μ : Mt α} (h : mow μ = RX9) : CW μ 194 yX9_halfAhead cX9_halfAhead 4 (some .int) 1 := ⟨by rw [h]; exact wd_574, wd_427, wd_575, ⟨by decide, by decide⟩, by decide +kernel⟩
theorem cw_RX9_203 {α : Type} {μ : Mt α} (h : mow μ = RX9) : CW μ 203 yX9_numberOf cX9_numberOf 5 (some .int) 2 := ⟨by rw [h]; exact wd_578, wd_427, wd_579, ⟨by decide, by decide⟩, by decide +kernel⟩
theorem cw_RX9_211 {α : Type} {μ : Mt α} (h : mow μ = RX9) : CW μ 211 yX9_seek cX9_seek 2 none 1 := ⟨by rw [h]; exact wd_582, wd_427, wd_583, ⟨by decide, by decide⟩, by decide +kernel⟩
theorem cw_RX9_206 {α : Type} {μ : Mt α} (h : mow μ = RX9) : CW μ 206 yX9_outOf cX9_outOf 6 (some .int) 2 := ⟨by rw [h]; exact wd_586, wd_427, wd_587, ⟨by decide, by decide⟩, by decide +kernel⟩
theorem cw_RX9_214 {α : Type} {μ : Mt α} (h : mow μ = RX9) : CW μ 214 yX9_movedOf cX9_movedOf 5 (some .int) 2 := ⟨by rw [h]; exact wd_590, wd_427, wd_591, ⟨by decide, by decide⟩, by decide +kernel⟩
theorem cw_RJ0_492 {α : Type} {μ : Mt α} (h : mow μ = RJ0) : CW μ 492 yJ0_isLatin1_aae02 cJ0_isLatin1_aae02 1 (some .boolean) 0 := ⟨by rw [h]; exact wd_598, wd_17, wd_599, ⟨by decide, by decide⟩, by decide +kernel⟩
theorem cw_RJ0_335 {α : Type} {μ : Mt α} (h : mow μ = RJ0) : CW μ 335 yJ0_coder_7d493 cJ0_coder_7d493 1 (some .byte) 0 := ⟨by rw [h]; exact wd_603, wd_17, wd_604, ⟨by decide, by decide⟩, by decide +kernel⟩
theorem cw_RJ0_505 {α : Type} {μ : Mt α} (h : mow μ = RJ0) : CW μ 505 yJ0_length_8abf5 cJ0_length_8abf5 1 (some .int) 0 := ⟨by rw [h]; exact wd_607, wd_17, wd_608, ⟨by decide, by decide⟩, by decide +kernel⟩
theorem cw_RJ1_88 {α : Type} {μ : Mt α} (h : mow μ = RJ1) : CW μ 88 yJ1_canEncode_9a6ad cJ1_canEncode_9a6ad 1 (some .boolean) 1 := ⟨by rw [h]; exact wd_610, wd_611, wd_612, ⟨by decide, by decide⟩, by decide +kernel⟩
theorem cw_RJ1_95 {α : Type} {μ : Mt α} (h : mow μ = RJ1) : CW μ 95 yJ1_indexOfChar_4cfef cJ1_indexOfChar_4cfef 6 (some .int) 4 := ⟨by rw [h]; exact wd_618, wd_611, wd_619, ⟨by decide, by decide⟩, by decide +kernel⟩
theorem cw_RJ0_637 {α : Type} {μ : Mt α} (h : mow μ = RJ0) : CW μ 637 yJ1_indexOf_4cfef cJ1_indexOf_4cfef 4 (some .int) 4 := ⟨by rw [h]; exact wd_621, wd_611, wd_622, ⟨by decide, by decide⟩, by decide +kernel⟩
theorem cw_RJ0_633 {α : Type} {μ : Mt α} (h : mow μ = RJ0) : CW μ 633 yJ0_indexOf_7cf53 cJ0_indexOf_7cf53 3 (some .int) 2 := ⟨by rw [h]; exact wd_625, wd_17, wd_626, ⟨by decide, by decide⟩, by decide +kernel⟩
theorem cw_RJ1_9 {α : Type} {μ : Mt α} (h : mow μ = RJ1) : CW μ 9 yJ0_checkIndex_df160 cJ0_checkIndex_df160 2 none 2 := ⟨by rw [h]; exact wd_627, wd_17, wd_628, ⟨by decide, by decide⟩, by decide +kernel⟩
theorem cw_RJ0_495 {α : Type} {μ : Mt α} (h : mow μ = RJ0) : CW μ 495 yJ1_charAt_3b067 cJ1_charAt_3b067 2 (some .char) 2 := ⟨by rw [h]; exact wd_631, wd_611, wd_632, ⟨by decide, by decide⟩, by decide +kernel⟩
theorem cw_RJ0_1059 {α : Type} {μ : Mt α} (h : mow μ = RJ0) : CW μ 1059 yJ3_checkIndex_8e157 cJ3_checkIndex_8e157 3 (some .int) 3 := ⟨by rw [h]; exact wd_634, wd_635, wd_636, ⟨by decide, by decide⟩, by decide +kernel⟩
theorem iT_11 : iT 11 := by unfold iT; decide
theorem iT_12 : iT 12 := by unfold iT; decide
theorem iT_13 : iT 13 := by unfold iT; decide
theorem iT_14 : iT 14 := by unfold iT; decide
theorem iT_15 : iT 15 := by unfold iT; decide
theorem iT_18 : iT 18 := by unfold iT; decide
theorem iT_19 : iT 19 := by unfold iT; decide
theorem iT_20 : iT 20 := by unfold iT; decide
theorem iT_22 : iT 22 := by unfold iT; decide
theorem iT_23 : iT 23 := by unfold iT; decide
theorem iT_24 : iT 24 := by unfold iT; decide
theorem iT_25 : iT 25 := by unfold iT; decide
theorem iT_26 : iT 26 := by unfold iT; decide
theorem iT_27 : iT 27 := by unfold iT; decide
theorem iT_30 : iT 30 := by unfold iT; decide
theorem iT_31 : iT 31 := by unfold iT; decide
theorem iT_32 : iT 32 := by unfold iT; decide
theorem iT_33 : iT 33 := by unfold iT; decide
theorem iT_34 : iT 34 := by unfold iT; decide
theorem iT_35 : iT 35 := by unfold iT; decide
theorem iT_36 : iT 36 := by unfold iT; decide
theorem iT_37 : iT 37 := by unfold iT; decide
theorem iT_38 : iT 38 := by unfold iT; decide
theorem iT_39 : iT 39 := by unfold iT; decide
theorem iT_40 : iT 40 := by unfold iT; decide
theorem iT_41 : iT 41 := by unfold iT; decide
theorem iT_42 : iT 42 := by unfold iT; decide
theorem okf_5_1 {G : Gt} (hn : Gn G) {a : Nat} (h : ok G a 5) : ok G (a + 1) 18 := ok_off hn 1 h (by decide +kernel)
theorem okf_5_2 {G : Gt} (hn : Gn G) {a : Nat} (h : ok G a 5) : ok G (a + 2) 19 := ok_off hn 2 h (by decide +kernel)
theorem okf_5_3 {G : Gt} (hn : Gn G) {a : Nat} (h : ok G a 5) : ok G (a + 3) 3 := ok_off hn 3 h (by decide +kernel)
theorem okf_7_1 {G : Gt} (hn : Gn G) {a : Nat} (h : ok G a 7) : ok G (a + 1) 11 := ok_off hn 1 h (by decide +kernel)
theorem okf_7_2 {G : Gt} (hn : Gn G) {a : Nat} (h : ok G a 7) : ok G (a + 2) 12 := ok_off hn 2 h (by decide +kernel)
theorem okf_7_3 {G : Gt} (hn : Gn G) {a : Nat} (h : ok G a 7) : ok G (a + 3) 13 := ok_off hn 3 h (by decide +kernel)
theorem okf_7_4 {G : Gt} (hn : Gn G) {a : Nat} (h : ok G a 7) : ok G (a + 4) 14 := ok_off hn 4 h (by decide +kernel)
theorem okf_7_5 {G : Gt} (hn : Gn G) {a : Nat} (h : ok G a 7) : ok G (a + 5) 15 := ok_off hn 5 h (by decide +kernel)

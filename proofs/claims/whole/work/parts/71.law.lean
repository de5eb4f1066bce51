/-! THE LAW'S LOOP -/
theorem wl_0 : Cond.methodLink R_law 13 yX8_write ∈ wsG := tb3 53 (by decide +kernel) (by decide +kernel)
theorem wl_1 : Cond.initialized RX8 ∈ wsG := tb1 1 (by decide +kernel) (by decide +kernel)
theorem wl_2 : Cond.code yX8_write cX8_write 2 (some .int) ∈ wsG := tb3 56 (by decide +kernel) (by decide +kernel)
theorem wl_3 : Cond.instanceMethod yX8_write ∈ wsG := tb3 54 (by decide +kernel) (by decide +kernel)
theorem wl_4 : Cond.selects RX8 yX8_write yX8_write ∈ wsG := tb3 55 (by decide +kernel) (by decide +kernel)
theorem wl_5 : Cond.methodLink R_law 17 yX9_write ∈ wsG := tb4 154 (by decide +kernel) (by decide +kernel)
theorem wl_6 : Cond.initialized RX9 ∈ wsG := tb1 16 (by decide +kernel) (by decide +kernel)
theorem wl_7 : Cond.code yX9_write cX9_write 2 (some .int) ∈ wsG := tb4 157 (by decide +kernel) (by decide +kernel)
theorem wl_8 : Cond.instanceMethod yX9_write ∈ wsG := tb4 155 (by decide +kernel) (by decide +kernel)
theorem wl_9 : Cond.selects RX9 yX9_write yX9_write ∈ wsG := tb4 156 (by decide +kernel) (by decide +kernel)
theorem wl_10 : Cond.methodLink R_law 18 yX8_wipe ∈ wsG := tb3 57 (by decide +kernel) (by decide +kernel)
theorem wl_11 : Cond.code yX8_wipe cX8_wipe 2 (some .int) ∈ wsG := tb3 60 (by decide +kernel) (by decide +kernel)
theorem wl_12 : Cond.instanceMethod yX8_wipe ∈ wsG := tb3 58 (by decide +kernel) (by decide +kernel)
theorem wl_13 : Cond.selects RX8 yX8_wipe yX8_wipe ∈ wsG := tb3 59 (by decide +kernel) (by decide +kernel)
theorem wl_14 : Cond.methodLink R_law 22 yX9_wipe ∈ wsG := tb4 163 (by decide +kernel) (by decide +kernel)
theorem wl_15 : Cond.code yX9_wipe cX9_wipe 2 (some .int) ∈ wsG := tb4 166 (by decide +kernel) (by decide +kernel)
theorem wl_16 : Cond.instanceMethod yX9_wipe ∈ wsG := tb4 164 (by decide +kernel) (by decide +kernel)
theorem wl_17 : Cond.selects RX9 yX9_wipe yX9_wipe ∈ wsG := tb4 165 (by decide +kernel) (by decide +kernel)
theorem wl_18 : Cond.methodLink R_law 23 yX8_fault ∈ wsG := tb3 61 (by decide +kernel) (by decide +kernel)
theorem wl_19 : Cond.code yX8_fault cX8_fault 1 (some .int) ∈ wsG := tb3 64 (by decide +kernel) (by decide +kernel)
theorem wl_20 : Cond.instanceMethod yX8_fault ∈ wsG := tb3 62 (by decide +kernel) (by decide +kernel)
theorem wl_21 : Cond.selects RX8 yX8_fault yX8_fault ∈ wsG := tb3 63 (by decide +kernel) (by decide +kernel)
theorem wl_22 : Cond.methodLink R_law 26 yX9_fault ∈ wsG := tb4 167 (by decide +kernel) (by decide +kernel)
theorem wl_23 : Cond.code yX9_fault cX9_fault 2 (some .int) ∈ wsG := tb4 170 (by decide +kernel) (by decide +kernel)
theorem wl_24 : Cond.instanceMethod yX9_fault ∈ wsG := tb4 168 (by decide +kernel) (by decide +kernel)
theorem wl_25 : Cond.selects RX9 yX9_fault yX9_fault ∈ wsG := tb4 169 (by decide +kernel) (by decide +kernel)
theorem wl_26 : Cond.methodLink R_law 27 yX8_lay ∈ wsG := tb3 65 (by decide +kernel) (by decide +kernel)
theorem wl_27 : Cond.code yX8_lay cX8_lay 1 (some .int) ∈ wsG := tb3 68 (by decide +kernel) (by decide +kernel)
theorem wl_28 : Cond.instanceMethod yX8_lay ∈ wsG := tb3 66 (by decide +kernel) (by decide +kernel)
theorem wl_29 : Cond.selects RX8 yX8_lay yX8_lay ∈ wsG := tb3 67 (by decide +kernel) (by decide +kernel)
theorem wl_30 : Cond.methodLink R_law 30 yX9_lay ∈ wsG := tb4 201 (by decide +kernel) (by decide +kernel)
theorem wl_31 : Cond.code yX9_lay cX9_lay 2 (some .int) ∈ wsG := tb4 204 (by decide +kernel) (by decide +kernel)
theorem wl_32 : Cond.instanceMethod yX9_lay ∈ wsG := tb4 202 (by decide +kernel) (by decide +kernel)
theorem wl_33 : Cond.selects RX9 yX9_lay yX9_lay ∈ wsG := tb4 203 (by decide +kernel) (by decide +kernel)
theorem wl_34 : Cond.methodLink R_law 31 yX8_tell ∈ wsG := tb3 69 (by decide +kernel) (by decide +kernel)
theorem wl_35 : Cond.code yX8_tell cX8_tell 4 (some .int) ∈ wsG := tb3 72 (by decide +kernel) (by decide +kernel)
theorem wl_36 : Cond.instanceMethod yX8_tell ∈ wsG := tb3 70 (by decide +kernel) (by decide +kernel)
theorem wl_37 : Cond.selects RX8 yX8_tell yX8_tell ∈ wsG := tb3 71 (by decide +kernel) (by decide +kernel)
theorem wl_38 : Cond.methodLink R_law 35 yX9_tell ∈ wsG := tb4 210 (by decide +kernel) (by decide +kernel)
theorem wl_39 : Cond.code yX9_tell cX9_tell 4 (some .int) ∈ wsG := tb4 213 (by decide +kernel) (by decide +kernel)
theorem wl_40 : Cond.instanceMethod yX9_tell ∈ wsG := tb4 211 (by decide +kernel) (by decide +kernel)
theorem wl_41 : Cond.selects RX9 yX9_tell yX9_tell ∈ wsG := tb4 212 (by decide +kernel) (by decide +kernel)
theorem wl_42 : Cond.methodLink R_law 36 yX8_price ∈ wsG := tb3 89 (by decide +kernel) (by decide +kernel)
theorem wl_43 : Cond.code yX8_price cX8_price 4 (some .int) ∈ wsG := tb3 92 (by decide +kernel) (by decide +kernel)
theorem wl_44 : Cond.instanceMethod yX8_price ∈ wsG := tb3 90 (by decide +kernel) (by decide +kernel)
theorem wl_45 : Cond.selects RX8 yX8_price yX8_price ∈ wsG := tb3 91 (by decide +kernel) (by decide +kernel)
theorem wl_46 : Cond.methodLink R_law 39 yX9_price ∈ wsG := tb4 228 (by decide +kernel) (by decide +kernel)
theorem wl_47 : Cond.code yX9_price cX9_price 3 (some .int) ∈ wsG := tb4 231 (by decide +kernel) (by decide +kernel)
theorem wl_48 : Cond.instanceMethod yX9_price ∈ wsG := tb4 229 (by decide +kernel) (by decide +kernel)
theorem wl_49 : Cond.selects RX9 yX9_price yX9_price ∈ wsG := tb4 230 (by decide +kernel) (by decide +kernel)
theorem wl_50 : Cond.methodLink R_law 40 yX8_folds ∈ wsG := tb3 97 (by decide +kernel) (by decide +kernel)
theorem wl_51 : Cond.code yX8_folds cX8_folds 3 (some .int) ∈ wsG := tb3 100 (by decide +kernel) (by decide +kernel)
theorem wl_52 : Cond.instanceMethod yX8_folds ∈ wsG := tb3 98 (by decide +kernel) (by decide +kernel)
theorem wl_53 : Cond.selects RX8 yX8_folds yX8_folds ∈ wsG := tb3 99 (by decide +kernel) (by decide +kernel)
theorem wl_54 : Cond.methodLink R_law 43 yX9_folds ∈ wsG := tb4 237 (by decide +kernel) (by decide +kernel)
theorem wl_55 : Cond.code yX9_folds cX9_folds 5 (some .int) ∈ wsG := tb5 0 (by decide +kernel) (by decide +kernel)
theorem wl_56 : Cond.instanceMethod yX9_folds ∈ wsG := tb4 238 (by decide +kernel) (by decide +kernel)
theorem wl_57 : Cond.selects RX9 yX9_folds yX9_folds ∈ wsG := tb4 239 (by decide +kernel) (by decide +kernel)
theorem wl_58 : Cond.methodLink R_law 44 yX8_spoil ∈ wsG := tb3 102 (by decide +kernel) (by decide +kernel)
theorem wl_59 : Cond.code yX8_spoil cX8_spoil 3 (some .int) ∈ wsG := tb3 105 (by decide +kernel) (by decide +kernel)
theorem wl_60 : Cond.instanceMethod yX8_spoil ∈ wsG := tb3 103 (by decide +kernel) (by decide +kernel)
theorem wl_61 : Cond.selects RX8 yX8_spoil yX8_spoil ∈ wsG := tb3 104 (by decide +kernel) (by decide +kernel)
theorem wl_62 : Cond.methodLink R_law 47 yX9_spoil ∈ wsG := tb5 133 (by decide +kernel) (by decide +kernel)
theorem wl_63 : Cond.code yX9_spoil cX9_spoil 3 (some .int) ∈ wsG := tb5 136 (by decide +kernel) (by decide +kernel)
theorem wl_64 : Cond.instanceMethod yX9_spoil ∈ wsG := tb5 134 (by decide +kernel) (by decide +kernel)
theorem wl_65 : Cond.selects RX9 yX9_spoil yX9_spoil ∈ wsG := tb5 135 (by decide +kernel) (by decide +kernel)
theorem wl_66 : Cond.methodLink R_law 48 yX8_undo ∈ wsG := tb3 114 (by decide +kernel) (by decide +kernel)
theorem wl_67 : Cond.code yX8_undo cX8_undo 1 (some .int) ∈ wsG := tb3 117 (by decide +kernel) (by decide +kernel)
theorem wl_68 : Cond.instanceMethod yX8_undo ∈ wsG := tb3 115 (by decide +kernel) (by decide +kernel)
theorem wl_69 : Cond.selects RX8 yX8_undo yX8_undo ∈ wsG := tb3 116 (by decide +kernel) (by decide +kernel)
theorem wl_70 : Cond.methodLink R_law 51 yX9_undo ∈ wsG := tb4 206 (by decide +kernel) (by decide +kernel)
theorem wl_71 : Cond.code yX9_undo cX9_undo 2 (some .int) ∈ wsG := tb4 209 (by decide +kernel) (by decide +kernel)
theorem wl_72 : Cond.instanceMethod yX9_undo ∈ wsG := tb4 207 (by decide +kernel) (by decide +kernel)
theorem wl_73 : Cond.selects RX9 yX9_undo yX9_undo ∈ wsG := tb4 208 (by decide +kernel) (by decide +kernel)
theorem wl_74 : Cond.methodLink R_law 52 yX8_scheme ∈ wsG := tb3 122 (by decide +kernel) (by decide +kernel)
theorem wl_75 : Cond.code yX8_scheme cX8_scheme 3 (some .int) ∈ wsG := tb3 125 (by decide +kernel) (by decide +kernel)
theorem wl_76 : Cond.instanceMethod yX8_scheme ∈ wsG := tb3 123 (by decide +kernel) (by decide +kernel)
theorem wl_77 : Cond.selects RX8 yX8_scheme yX8_scheme ∈ wsG := tb3 124 (by decide +kernel) (by decide +kernel)
theorem wl_78 : Cond.methodLink R_law 55 yX9_scheme ∈ wsG := tb5 1 (by decide +kernel) (by decide +kernel)
theorem wl_79 : Cond.code yX9_scheme cX9_scheme 3 (some .int) ∈ wsG := tb5 4 (by decide +kernel) (by decide +kernel)
theorem wl_80 : Cond.instanceMethod yX9_scheme ∈ wsG := tb5 2 (by decide +kernel) (by decide +kernel)
theorem wl_81 : Cond.selects RX9 yX9_scheme yX9_scheme ∈ wsG := tb5 3 (by decide +kernel) (by decide +kernel)
theorem wl_82 : Cond.methodLink R_law 56 yX8_fold ∈ wsG := tb3 127 (by decide +kernel) (by decide +kernel)
theorem wl_83 : Cond.code yX8_fold cX8_fold 3 (some .int) ∈ wsG := tb3 130 (by decide +kernel) (by decide +kernel)
theorem wl_84 : Cond.instanceMethod yX8_fold ∈ wsG := tb3 128 (by decide +kernel) (by decide +kernel)
theorem wl_85 : Cond.selects RX8 yX8_fold yX8_fold ∈ wsG := tb3 129 (by decide +kernel) (by decide +kernel)
theorem wl_86 : Cond.methodLink R_law 59 yX9_fold ∈ wsG := tb5 22 (by decide +kernel) (by decide +kernel)
theorem wl_87 : Cond.code yX9_fold cX9_fold 3 (some .int) ∈ wsG := tb5 25 (by decide +kernel) (by decide +kernel)
theorem wl_88 : Cond.instanceMethod yX9_fold ∈ wsG := tb5 23 (by decide +kernel) (by decide +kernel)
theorem wl_89 : Cond.selects RX9 yX9_fold yX9_fold ∈ wsG := tb5 24 (by decide +kernel) (by decide +kernel)
theorem wl_90 : Cond.methodLink R_law 60 yX8_page ∈ wsG := tb3 133 (by decide +kernel) (by decide +kernel)
theorem wl_91 : Cond.code yX8_page cX8_page 5 (some .int) ∈ wsG := tb3 136 (by decide +kernel) (by decide +kernel)
theorem wl_92 : Cond.instanceMethod yX8_page ∈ wsG := tb3 134 (by decide +kernel) (by decide +kernel)
theorem wl_93 : Cond.selects RX8 yX8_page yX8_page ∈ wsG := tb3 135 (by decide +kernel) (by decide +kernel)
theorem wl_94 : Cond.methodLink R_law 64 yX9_page ∈ wsG := tb5 27 (by decide +kernel) (by decide +kernel)
theorem wl_95 : Cond.code yX9_page cX9_page 5 (some .int) ∈ wsG := tb5 30 (by decide +kernel) (by decide +kernel)
theorem wl_96 : Cond.instanceMethod yX9_page ∈ wsG := tb5 28 (by decide +kernel) (by decide +kernel)
theorem wl_97 : Cond.selects RX9 yX9_page yX9_page ∈ wsG := tb5 29 (by decide +kernel) (by decide +kernel)
theorem wl_98 : Cond.methodLink R_law 65 yX8_where ∈ wsG := tb3 155 (by decide +kernel) (by decide +kernel)
theorem wl_99 : Cond.code yX8_where cX8_where 5 (some .int) ∈ wsG := tb3 158 (by decide +kernel) (by decide +kernel)
theorem wl_100 : Cond.instanceMethod yX8_where ∈ wsG := tb3 156 (by decide +kernel) (by decide +kernel)
theorem wl_101 : Cond.selects RX8 yX8_where yX8_where ∈ wsG := tb3 157 (by decide +kernel) (by decide +kernel)
theorem wl_102 : Cond.methodLink R_law 69 yX9_where ∈ wsG := tb5 47 (by decide +kernel) (by decide +kernel)
theorem wl_103 : Cond.code yX9_where cX9_where 8 (some .int) ∈ wsG := tb5 50 (by decide +kernel) (by decide +kernel)
theorem wl_104 : Cond.instanceMethod yX9_where ∈ wsG := tb5 48 (by decide +kernel) (by decide +kernel)
theorem wl_105 : Cond.selects RX9 yX9_where yX9_where ∈ wsG := tb5 49 (by decide +kernel) (by decide +kernel)
theorem wl_106 : Cond.methodLink R_law 70 yX8_turned ∈ wsG := tb3 189 (by decide +kernel) (by decide +kernel)
theorem wl_107 : Cond.code yX8_turned cX8_turned 3 (some .int) ∈ wsG := tb3 192 (by decide +kernel) (by decide +kernel)
theorem wl_108 : Cond.instanceMethod yX8_turned ∈ wsG := tb3 190 (by decide +kernel) (by decide +kernel)
theorem wl_109 : Cond.selects RX8 yX8_turned yX8_turned ∈ wsG := tb3 191 (by decide +kernel) (by decide +kernel)
theorem wl_110 : Cond.methodLink R_law 73 yX9_turned ∈ wsG := tb5 51 (by decide +kernel) (by decide +kernel)
theorem wl_111 : Cond.code yX9_turned cX9_turned 5 (some .int) ∈ wsG := tb5 54 (by decide +kernel) (by decide +kernel)
theorem wl_112 : Cond.instanceMethod yX9_turned ∈ wsG := tb5 52 (by decide +kernel) (by decide +kernel)
theorem wl_113 : Cond.selects RX9 yX9_turned yX9_turned ∈ wsG := tb5 53 (by decide +kernel) (by decide +kernel)
theorem wl_114 : Cond.methodLink R_law 74 yX8_find ∈ wsG := tb3 197 (by decide +kernel) (by decide +kernel)
theorem wl_115 : Cond.code yX8_find cX8_find 6 (some .int) ∈ wsG := tb3 200 (by decide +kernel) (by decide +kernel)
theorem wl_116 : Cond.instanceMethod yX8_find ∈ wsG := tb3 198 (by decide +kernel) (by decide +kernel)
theorem wl_117 : Cond.selects RX8 yX8_find yX8_find ∈ wsG := tb3 199 (by decide +kernel) (by decide +kernel)
theorem wl_118 : Cond.methodLink R_law 78 yX9_find ∈ wsG := tb5 55 (by decide +kernel) (by decide +kernel)
theorem wl_119 : Cond.code yX9_find cX9_find 9 (some .int) ∈ wsG := tb5 58 (by decide +kernel) (by decide +kernel)
theorem wl_120 : Cond.instanceMethod yX9_find ∈ wsG := tb5 56 (by decide +kernel) (by decide +kernel)
theorem wl_121 : Cond.selects RX9 yX9_find yX9_find ∈ wsG := tb5 57 (by decide +kernel) (by decide +kernel)
theorem wl_122 : Cond.methodLink R_law 79 yX8_alike ∈ wsG := tb3 220 (by decide +kernel) (by decide +kernel)
theorem wl_123 : Cond.code yX8_alike cX8_alike 2 (some .int) ∈ wsG := tb3 223 (by decide +kernel) (by decide +kernel)
theorem wl_124 : Cond.instanceMethod yX8_alike ∈ wsG := tb3 221 (by decide +kernel) (by decide +kernel)
theorem wl_125 : Cond.selects RX8 yX8_alike yX8_alike ∈ wsG := tb3 222 (by decide +kernel) (by decide +kernel)
theorem wl_126 : Cond.methodLink R_law 82 yX9_alike ∈ wsG := tb5 67 (by decide +kernel) (by decide +kernel)
theorem wl_127 : Cond.code yX9_alike cX9_alike 5 (some .int) ∈ wsG := tb5 70 (by decide +kernel) (by decide +kernel)
theorem wl_128 : Cond.instanceMethod yX9_alike ∈ wsG := tb5 68 (by decide +kernel) (by decide +kernel)
theorem wl_129 : Cond.selects RX9 yX9_alike yX9_alike ∈ wsG := tb5 69 (by decide +kernel) (by decide +kernel)
theorem wl_130 : Cond.methodLink R_law 83 yX8_unlike ∈ wsG := tb3 237 (by decide +kernel) (by decide +kernel)
theorem wl_131 : Cond.code yX8_unlike cX8_unlike 2 (some .int) ∈ wsG := tb4 0 (by decide +kernel) (by decide +kernel)
theorem wl_132 : Cond.instanceMethod yX8_unlike ∈ wsG := tb3 238 (by decide +kernel) (by decide +kernel)
theorem wl_133 : Cond.selects RX8 yX8_unlike yX8_unlike ∈ wsG := tb3 239 (by decide +kernel) (by decide +kernel)
theorem wl_134 : Cond.methodLink R_law 86 yX9_unlike ∈ wsG := tb5 79 (by decide +kernel) (by decide +kernel)
theorem wl_135 : Cond.code yX9_unlike cX9_unlike 6 (some .int) ∈ wsG := tb5 82 (by decide +kernel) (by decide +kernel)
theorem wl_136 : Cond.instanceMethod yX9_unlike ∈ wsG := tb5 80 (by decide +kernel) (by decide +kernel)
theorem wl_137 : Cond.selects RX9 yX9_unlike yX9_unlike ∈ wsG := tb5 81 (by decide +kernel) (by decide +kernel)
theorem wl_138 : Cond.methodLink R_law 87 yX8_plan ∈ wsG := tb4 17 (by decide +kernel) (by decide +kernel)
theorem wl_139 : Cond.code yX8_plan cX8_plan 2 (some .int) ∈ wsG := tb4 20 (by decide +kernel) (by decide +kernel)
theorem wl_140 : Cond.instanceMethod yX8_plan ∈ wsG := tb4 18 (by decide +kernel) (by decide +kernel)
theorem wl_141 : Cond.selects RX8 yX8_plan yX8_plan ∈ wsG := tb4 19 (by decide +kernel) (by decide +kernel)
theorem wl_142 : Cond.methodLink R_law 90 yX9_plan ∈ wsG := tb5 83 (by decide +kernel) (by decide +kernel)
theorem wl_143 : Cond.code yX9_plan cX9_plan 5 (some .int) ∈ wsG := tb5 86 (by decide +kernel) (by decide +kernel)
theorem wl_144 : Cond.instanceMethod yX9_plan ∈ wsG := tb5 84 (by decide +kernel) (by decide +kernel)
theorem wl_145 : Cond.selects RX9 yX9_plan yX9_plan ∈ wsG := tb5 85 (by decide +kernel) (by decide +kernel)
theorem wl_146 : Cond.methodLink R_law 91 yX8_blanks ∈ wsG := tb4 21 (by decide +kernel) (by decide +kernel)
theorem wl_147 : Cond.code yX8_blanks cX8_blanks 2 (some .int) ∈ wsG := tb4 24 (by decide +kernel) (by decide +kernel)
theorem wl_148 : Cond.instanceMethod yX8_blanks ∈ wsG := tb4 22 (by decide +kernel) (by decide +kernel)
theorem wl_149 : Cond.selects RX8 yX8_blanks yX8_blanks ∈ wsG := tb4 23 (by decide +kernel) (by decide +kernel)
theorem wl_150 : Cond.methodLink R_law 94 yX9_blanks ∈ wsG := tb5 91 (by decide +kernel) (by decide +kernel)
theorem wl_151 : Cond.code yX9_blanks cX9_blanks 2 (some .int) ∈ wsG := tb5 94 (by decide +kernel) (by decide +kernel)
theorem wl_152 : Cond.instanceMethod yX9_blanks ∈ wsG := tb5 92 (by decide +kernel) (by decide +kernel)
theorem wl_153 : Cond.selects RX9 yX9_blanks yX9_blanks ∈ wsG := tb5 93 (by decide +kernel) (by decide +kernel)
theorem wl_154 : Cond.methodLink R_law 95 yX8_book ∈ wsG := tb4 26 (by decide +kernel) (by decide +kernel)
theorem wl_155 : Cond.code yX8_book cX8_book 6 (some .int) ∈ wsG := tb4 29 (by decide +kernel) (by decide +kernel)
theorem wl_156 : Cond.instanceMethod yX8_book ∈ wsG := tb4 27 (by decide +kernel) (by decide +kernel)
theorem wl_157 : Cond.selects RX8 yX8_book yX8_book ∈ wsG := tb4 28 (by decide +kernel) (by decide +kernel)
theorem wl_158 : Cond.methodLink R_law 98 yX9_book ∈ wsG := tb5 95 (by decide +kernel) (by decide +kernel)
theorem wl_159 : Cond.code yX9_book cX9_book 5 (some .int) ∈ wsG := tb5 98 (by decide +kernel) (by decide +kernel)
theorem wl_160 : Cond.instanceMethod yX9_book ∈ wsG := tb5 96 (by decide +kernel) (by decide +kernel)
theorem wl_161 : Cond.selects RX9 yX9_book yX9_book ∈ wsG := tb5 97 (by decide +kernel) (by decide +kernel)
theorem wl_162 : Cond.methodLink R_law 99 yX8_number ∈ wsG := tb4 49 (by decide +kernel) (by decide +kernel)
theorem wl_163 : Cond.code yX8_number cX8_number 3 (some .int) ∈ wsG := tb4 52 (by decide +kernel) (by decide +kernel)
theorem wl_164 : Cond.instanceMethod yX8_number ∈ wsG := tb4 50 (by decide +kernel) (by decide +kernel)
theorem wl_165 : Cond.selects RX8 yX8_number yX8_number ∈ wsG := tb4 51 (by decide +kernel) (by decide +kernel)
theorem wl_166 : Cond.methodLink R_law 102 yX9_number ∈ wsG := tb5 125 (by decide +kernel) (by decide +kernel)
theorem wl_167 : Cond.code yX9_number cX9_number 3 (some .int) ∈ wsG := tb5 128 (by decide +kernel) (by decide +kernel)
theorem wl_168 : Cond.instanceMethod yX9_number ∈ wsG := tb5 126 (by decide +kernel) (by decide +kernel)
theorem wl_169 : Cond.selects RX9 yX9_number yX9_number ∈ wsG := tb5 127 (by decide +kernel) (by decide +kernel)
theorem wl_170 : Cond.methodLink R_law 103 yX8_sheet ∈ wsG := tb4 54 (by decide +kernel) (by decide +kernel)
theorem wl_171 : Cond.code yX8_sheet cX8_sheet 4 (some .int) ∈ wsG := tb4 57 (by decide +kernel) (by decide +kernel)
theorem wl_172 : Cond.instanceMethod yX8_sheet ∈ wsG := tb4 55 (by decide +kernel) (by decide +kernel)
theorem wl_173 : Cond.selects RX8 yX8_sheet yX8_sheet ∈ wsG := tb4 56 (by decide +kernel) (by decide +kernel)
theorem wl_174 : Cond.methodLink R_law 106 yX9_sheet ∈ wsG := tb5 141 (by decide +kernel) (by decide +kernel)
theorem wl_175 : Cond.code yX9_sheet cX9_sheet 9 (some .int) ∈ wsG := tb5 144 (by decide +kernel) (by decide +kernel)
theorem wl_176 : Cond.instanceMethod yX9_sheet ∈ wsG := tb5 142 (by decide +kernel) (by decide +kernel)
theorem wl_177 : Cond.selects RX9 yX9_sheet yX9_sheet ∈ wsG := tb5 143 (by decide +kernel) (by decide +kernel)
theorem wl_178 : Cond.methodLink R_law 107 yX8_missing ∈ wsG := tb4 62 (by decide +kernel) (by decide +kernel)
theorem wl_179 : Cond.code yX8_missing cX8_missing 4 (some .int) ∈ wsG := tb4 65 (by decide +kernel) (by decide +kernel)
theorem wl_180 : Cond.instanceMethod yX8_missing ∈ wsG := tb4 63 (by decide +kernel) (by decide +kernel)
theorem wl_181 : Cond.selects RX8 yX8_missing yX8_missing ∈ wsG := tb4 64 (by decide +kernel) (by decide +kernel)
theorem wl_182 : Cond.methodLink R_law 110 yX9_missing ∈ wsG := tb5 145 (by decide +kernel) (by decide +kernel)
theorem wl_183 : Cond.code yX9_missing cX9_missing 6 (some .int) ∈ wsG := tb5 148 (by decide +kernel) (by decide +kernel)
theorem wl_184 : Cond.instanceMethod yX9_missing ∈ wsG := tb5 146 (by decide +kernel) (by decide +kernel)
theorem wl_185 : Cond.selects RX9 yX9_missing yX9_missing ∈ wsG := tb5 147 (by decide +kernel) (by decide +kernel)
theorem wl_186 : Cond.methodLink R_law 111 yX8_count ∈ wsG := tb4 70 (by decide +kernel) (by decide +kernel)
theorem wl_187 : Cond.code yX8_count cX8_count 2 (some .int) ∈ wsG := tb4 73 (by decide +kernel) (by decide +kernel)
theorem wl_188 : Cond.instanceMethod yX8_count ∈ wsG := tb4 71 (by decide +kernel) (by decide +kernel)
theorem wl_189 : Cond.selects RX8 yX8_count yX8_count ∈ wsG := tb4 72 (by decide +kernel) (by decide +kernel)
theorem wl_190 : Cond.methodLink R_law 114 yX9_count ∈ wsG := tb5 149 (by decide +kernel) (by decide +kernel)
theorem wl_191 : Cond.code yX9_count cX9_count 2 (some .int) ∈ wsG := tb5 152 (by decide +kernel) (by decide +kernel)
theorem wl_192 : Cond.instanceMethod yX9_count ∈ wsG := tb5 150 (by decide +kernel) (by decide +kernel)
theorem wl_193 : Cond.selects RX9 yX9_count yX9_count ∈ wsG := tb5 151 (by decide +kernel) (by decide +kernel)
def LC (G : Gt) (p : Program) (s : State) (m : MethodId) (meth : Method) (c : Code) (b L : Nat) (xs : Nat → Int32) : Prop := lw_At p s m meth c b L xs ∧ va_K (gD G) vwCl (gtys G) s ∧ Ex G s ∧ Gok G ∧ gsz G = s.heap.size ∧ gn G = 104 ∧ L ≤ 3072
/-- the law's method -/
def lawM : Mt Unit := (code, 4, R_law, ret, room_1, 600000, 7302250, fun below args s _ => lw_Z below args s)
def LW (G : Gt) (p : Program) (e : Env) (s : State) (m : MethodId) (below : List Frame) (meth : Method) (c : Code) (b : Nat) (pc : Nat) (x3 : Int32) (st : List Value) (I : Mem) : Prop :=
  ∀ (H : Heap) (locs : List Loc) (ls : Array Slot), va_P (gD G) vwCl (wl G I) H → va_S (gA G) s.heap H locs → lv_has ls 4 [(0, .ref b), (1, .ref (gad G 0)), (2, .ref (gad G 89)), (3, .int x3)] → W p (gl G) e room_1 s m #[Value.ref b] below meth c H locs 600000 7302250 (lw_Z below #[Value.ref b] s) (F0 m pc ls st)
section LAW
variable {p : Program} {e : Env} {s : State} {m : MethodId} {below : List Frame} {meth : Method} {c : Code} {G : Gt} {b L : Nat} {xs : Nat → Int32} {pc : Nat} {x3 : Int32} {st st0 : List Value} {I : Mem}
theorem LC.bx (C : LC G p s m meth c b L xs) : Bx G lawM p s m #[Value.ref b] meth c :=
  ⟨C.1.1, C.1.2.1, C.1.2.2.2.1, C.1.2.2.2.2.1, fun w hw => C.1.2.2.2.2.2.1 w (wsG_in w hw), C.2.1, C.2.2.1, C.2.2.2.1, C.1.2.2.1, C.1.2.2.2.2.2.2.2.2.1⟩
theorem LW_a1 (hd : decode code pc = .ok (.aload_n 1, 1)) (C : LC G p s m meth c b L xs) (kk : LW G p e s m below meth c b (pc + 1) x3 (.ref (gad G 0) :: st) I) : LW G p e s m below meth c b pc x3 st I :=
  fun H locs ls hP hS hl => lv_aload_n C.1.1 C.1.2.1 hd rfl (lv_at hl 1 rfl) (kk H locs ls hP hS hl)
theorem LW_a2 (hd : decode code pc = .ok (.aload_n 2, 1)) (C : LC G p s m meth c b L xs) (kk : LW G p e s m below meth c b (pc + 1) x3 (.ref (gad G 89) :: st) I) : LW G p e s m below meth c b pc x3 st I :=
  fun H locs ls hP hS hl => lv_aload_n C.1.1 C.1.2.1 hd rfl (lv_at hl 2 rfl) (kk H locs ls hP hS hl)
theorem LC.nb (C : LC G p s m meth c b L xs) : ¬ gA G b := by
  have h1 := C.1.2.2.2.2.2.2.2.1
  have h2 := C.2.2.2.2.1
  unfold gA
  omega
theorem LW_arg {i k : Nat} {kz : Int} (C : LC G p s m meth c b L xs) (hk : i + k < L) (hx : x3 = nI i) (hkz : Int32.ofInt kz = nI k) (d0 : decode code pc = .ok (.aload_n 0, 1)) (d1 : decode code (pc + 1) = .ok (.iload_n 3, 1)) (d2 : decode code (pc + 2) = .ok (.iconst kz, 1)) (_ : True) (d3 : decode code (pc + 3) = .ok (.iadd, 1)) (d4 : decode code (pc + 4) = .ok (.iaload, 1)) (kk : LW G p e s m below meth c b (pc + 5) x3 (.int (xs (i + k)) :: st) I) : LW G p e s m below meth c b pc x3 st I := by
  intro H locs ls hP hS hl
  have hL := C.2.2.2.2.2.2
  refine lv_aload_n C.1.1 C.1.2.1 d0 rfl (lv_at hl 0 rfl) ?_
  refine lv_iload_n C.1.1 C.1.2.1 d1 rfl (lv_at hl 3 rfl) ?_
  refine lv_iconst C.1.1 C.1.2.1 d2 hkz ?_
  refine lv_iadd C.1.1 C.1.2.1 d3 ?_
  rw [hx, nI_add]
  refine va_sld C.1.1 C.1.2.1 C.1.2.2.2.2.2.2.1 C.1.2.2.2.2.2.2.2.1 C.nb hS (vp_in_nI hk (by omega)) d4 ?_
  rw [nI_clamp (by omega)]
  subst hx
  exact kk H locs ls hP hS hl
theorem LW_call {a t idx nl fr lo n : Nat} {q : vw_C} {as : List Value} {y : MethodName} {cc : ByteArray} {f : Option (Int32 × Mem)} {v : Int32} {I1 : Mem} (C : LC G p s m meth c b L xs) (hC : Cti G y cc nl (some .int) fr lo (.ref a :: as) I f) (hf : f = some (v, I1)) (ho : ok G a t) (ht : t < 10) (hc : vwCl[t]? = some q) (hw : CW lawM idx y cc nl (some .int) n) (w1 : Cond.instanceMethod y ∈ wsG) (w2 : Cond.selects q.1 y y ∈ wsG) (hn : as.length = n) (hR : fr + 1 ≤ 15 ∧ 8 + (nl + 11) + lo ≤ 594) (hcat : (st.map fun v => v.category).sum ≤ 8) (hst : st0 = (as.map (tv G)).reverse ++ .ref (gad G a) :: st) (hd : decode code pc = .ok (.invokevirtual idx, 3))
    (kk : LW G p e s m below meth c b (pc + 3) x3 (.int v :: st) I1) : LW G p e s m below meth c b pc x3 st0 I := by
  intro H locs ls hP hS hl1
  have B := C.bx
  rw [hst]
  refine va_calli (va_runV (As := as.map (tv G)) (rest := st) ⟨B.1, B.2.1, B.2.2.1, B.2.2.2.1, B.2.2.2.2.1⟩ (hC _ hf) ⟨hw.B ⟨hR.1, hR.2, Nat.le_refl _, Nat.le_refl _⟩ B, B.2.2.2.2.1 _ w1, B.2.2.2.2.1 _ w2⟩ ⟨WE_blind, va_recv B.2.2.2.2.2.1 hP hc (ok_obj ho ht), fun U hU hW => ⟨rfl, WE_call hU hW hP B.2.2.2.2.2.1 B.2.2.2.2.2.2.1 hS⟩⟩ rfl (by rw [List.length_map]; exact hn) hl1.1 rfl (lv_room hcat) hd ⟨Nat.le_refl _, Nat.le_refl _⟩) hS (fun _ _ h => h) (fun _ h => h) (fun v' u t H1 locs1 ht hvm hpost hB hz hk hS1 => ?_)
  cases hpost
  exact kk H1 locs1 ls (by rw [← ht]; exact hB.1) hS1 hl1
theorem LW_eq {v : Int32} {off : Int} {tgt : Nat} (C : LC G p s m meth c b L xs) (hd : decode code pc = .ok (.if_icmp .eq off, 3)) (ht : (pc : Int) + off = (tgt : Int)) (kk : LW G p e s m below meth c b tgt x3 st I) : LW G p e s m below meth c b pc x3 (.int v :: .int v :: st) I :=
  fun H locs ls hP hS hl => lv_icmp_eq C.1.1 C.1.2.1 hd ht (fun _ => kk H locs ls hP hS hl) (fun q => absurd rfl q)
theorem law_0 (C : LC G p s m meth c b L xs) {i : Nat} (hi : i + 5 < L) (hx : x3 = nI i) (hS : Sm (f_X8_write (xs (i + 1))) (f_X9_write (xs (i + 1))) I) (kk : ∀ I2, Ok I2 → LW G p e s m below meth c b 836 x3 [] I2) : LW G p e s m below meth c b 144 x3 [] I := by
  obtain ⟨v, I1, I2, h8, h9, hO⟩ := hS
  refine LW_a1 (pc := 144) dl_144 C ?_
  refine LW_arg (pc := 145) (k := 1) C (by omega) hx (by decide) dl_145 dl_146 dl_147 (by decide) dl_148 dl_149 ?_
  refine LW_call (n := 1) (pc := 150) (a := 0) (t := 8) (as := [.int (xs (i + 1))]) (st := []) C (c_X8_write C.2.2.2.1 (Or.inr C.2.2.2.2.2.1) (xs (i + 1)) I) h8 ⟨by rw [C.2.2.2.2.2.1]; decide, rfl⟩ (by decide) rfl ⟨wl_0, wl_1, wl_2, ⟨by decide, by decide⟩, by decide +kernel⟩ wl_3 wl_4 rfl ⟨Nat.le_of_ble_eq_true rfl, Nat.le_of_ble_eq_true rfl⟩ (Nat.le_of_ble_eq_true rfl) rfl dl_150 ?_
  refine LW_a2 (pc := 153) dl_153 C ?_
  refine LW_arg (pc := 154) (k := 1) C (by omega) hx (by decide) dl_154 dl_155 dl_156 (by decide) dl_157 dl_158 ?_
  refine LW_call (n := 1) (pc := 159) (a := 89) (t := 9) (as := [.int (xs (i + 1))]) (st := [.int v]) C (c_X9_write C.2.2.2.1 C.2.2.2.2.2.1 (xs (i + 1)) I1) h9 ⟨by rw [C.2.2.2.2.2.1]; decide, rfl⟩ (by decide) rfl ⟨wl_5, wl_6, wl_7, ⟨by decide, by decide⟩, by decide +kernel⟩ wl_8 wl_9 rfl ⟨Nat.le_of_ble_eq_true rfl, Nat.le_of_ble_eq_true rfl⟩ (Nat.le_of_ble_eq_true rfl) rfl dl_159 ?_
  exact LW_eq (pc := 162) C dl_162 (by decide) (kk I2 hO)
theorem law_1 (C : LC G p s m meth c b L xs) {i : Nat} (hi : i + 5 < L) (hx : x3 = nI i) (hS : Sm (f_X8_wipe) (f_X9_wipe) I) (kk : ∀ I2, Ok I2 → LW G p e s m below meth c b 836 x3 [] I2) : LW G p e s m below meth c b 167 x3 [] I := by
  obtain ⟨v, I1, I2, h8, h9, hO⟩ := hS
  refine LW_a1 (pc := 167) dl_167 C ?_
  refine LW_call (n := 0) (pc := 168) (a := 0) (t := 8) (as := []) (st := []) C (c_X8_wipe C.2.2.2.1 (Or.inr C.2.2.2.2.2.1) I) h8 ⟨by rw [C.2.2.2.2.2.1]; decide, rfl⟩ (by decide) rfl ⟨wl_10, wl_1, wl_11, ⟨by decide, by decide⟩, by decide +kernel⟩ wl_12 wl_13 rfl ⟨Nat.le_of_ble_eq_true rfl, Nat.le_of_ble_eq_true rfl⟩ (Nat.le_of_ble_eq_true rfl) rfl dl_168 ?_
  refine LW_a2 (pc := 171) dl_171 C ?_
  refine LW_call (n := 0) (pc := 172) (a := 89) (t := 9) (as := []) (st := [.int v]) C (c_X9_wipe C.2.2.2.1 C.2.2.2.2.2.1 I1) h9 ⟨by rw [C.2.2.2.2.2.1]; decide, rfl⟩ (by decide) rfl ⟨wl_14, wl_6, wl_15, ⟨by decide, by decide⟩, by decide +kernel⟩ wl_16 wl_17 rfl ⟨Nat.le_of_ble_eq_true rfl, Nat.le_of_ble_eq_true rfl⟩ (Nat.le_of_ble_eq_true rfl) rfl dl_172 ?_
  exact LW_eq (pc := 175) C dl_175 (by decide) (kk I2 hO)
theorem law_2 (C : LC G p s m meth c b L xs) {i : Nat} (hi : i + 5 < L) (hx : x3 = nI i) (hS : Sm (f_X8_fault) (f_X9_fault) I) (kk : ∀ I2, Ok I2 → LW G p e s m below meth c b 836 x3 [] I2) : LW G p e s m below meth c b 180 x3 [] I := by
  obtain ⟨v, I1, I2, h8, h9, hO⟩ := hS
  refine LW_a1 (pc := 180) dl_180 C ?_
  refine LW_call (n := 0) (pc := 181) (a := 0) (t := 8) (as := []) (st := []) C (c_X8_fault C.2.2.2.1 (Or.inr C.2.2.2.2.2.1) I) h8 ⟨by rw [C.2.2.2.2.2.1]; decide, rfl⟩ (by decide) rfl ⟨wl_18, wl_1, wl_19, ⟨by decide, by decide⟩, by decide +kernel⟩ wl_20 wl_21 rfl ⟨Nat.le_of_ble_eq_true rfl, Nat.le_of_ble_eq_true rfl⟩ (Nat.le_of_ble_eq_true rfl) rfl dl_181 ?_
  refine LW_a2 (pc := 184) dl_184 C ?_
  refine LW_call (n := 0) (pc := 185) (a := 89) (t := 9) (as := []) (st := [.int v]) C (c_X9_fault C.2.2.2.1 C.2.2.2.2.2.1 I1) h9 ⟨by rw [C.2.2.2.2.2.1]; decide, rfl⟩ (by decide) rfl ⟨wl_22, wl_6, wl_23, ⟨by decide, by decide⟩, by decide +kernel⟩ wl_24 wl_25 rfl ⟨Nat.le_of_ble_eq_true rfl, Nat.le_of_ble_eq_true rfl⟩ (Nat.le_of_ble_eq_true rfl) rfl dl_185 ?_
  exact LW_eq (pc := 188) C dl_188 (by decide) (kk I2 hO)
theorem law_3 (C : LC G p s m meth c b L xs) {i : Nat} (hi : i + 5 < L) (hx : x3 = nI i) (hS : Sm (f_X8_lay) (f_X9_lay) I) (kk : ∀ I2, Ok I2 → LW G p e s m below meth c b 836 x3 [] I2) : LW G p e s m below meth c b 193 x3 [] I := by
  obtain ⟨v, I1, I2, h8, h9, hO⟩ := hS
  refine LW_a1 (pc := 193) dl_193 C ?_
  refine LW_call (n := 0) (pc := 194) (a := 0) (t := 8) (as := []) (st := []) C (c_X8_lay C.2.2.2.1 (Or.inr C.2.2.2.2.2.1) I) h8 ⟨by rw [C.2.2.2.2.2.1]; decide, rfl⟩ (by decide) rfl ⟨wl_26, wl_1, wl_27, ⟨by decide, by decide⟩, by decide +kernel⟩ wl_28 wl_29 rfl ⟨Nat.le_of_ble_eq_true rfl, Nat.le_of_ble_eq_true rfl⟩ (Nat.le_of_ble_eq_true rfl) rfl dl_194 ?_
  refine LW_a2 (pc := 197) dl_197 C ?_
  refine LW_call (n := 0) (pc := 198) (a := 89) (t := 9) (as := []) (st := [.int v]) C (c_X9_lay C.2.2.2.1 C.2.2.2.2.2.1 I1) h9 ⟨by rw [C.2.2.2.2.2.1]; decide, rfl⟩ (by decide) rfl ⟨wl_30, wl_6, wl_31, ⟨by decide, by decide⟩, by decide +kernel⟩ wl_32 wl_33 rfl ⟨Nat.le_of_ble_eq_true rfl, Nat.le_of_ble_eq_true rfl⟩ (Nat.le_of_ble_eq_true rfl) rfl dl_198 ?_
  exact LW_eq (pc := 201) C dl_201 (by decide) (kk I2 hO)
theorem law_4 (C : LC G p s m meth c b L xs) {i : Nat} (hi : i + 5 < L) (hx : x3 = nI i) (hS : Sm (f_X8_tell (xs (i + 1)) (xs (i + 2))) (f_X9_tell (xs (i + 1)) (xs (i + 2))) I) (kk : ∀ I2, Ok I2 → LW G p e s m below meth c b 836 x3 [] I2) : LW G p e s m below meth c b 206 x3 [] I := by
  obtain ⟨v, I1, I2, h8, h9, hO⟩ := hS
  refine LW_a1 (pc := 206) dl_206 C ?_
  refine LW_arg (pc := 207) (k := 1) C (by omega) hx (by decide) dl_207 dl_208 dl_209 (by decide) dl_210 dl_211 ?_
  refine LW_arg (pc := 212) (k := 2) C (by omega) hx (by decide) dl_212 dl_213 dl_214 (by decide) dl_215 dl_216 ?_
  refine LW_call (n := 2) (pc := 217) (a := 0) (t := 8) (as := [.int (xs (i + 1)), .int (xs (i + 2))]) (st := []) C (c_X8_tell C.2.2.2.1 (Or.inr C.2.2.2.2.2.1) (xs (i + 1)) (xs (i + 2)) I) h8 ⟨by rw [C.2.2.2.2.2.1]; decide, rfl⟩ (by decide) rfl ⟨wl_34, wl_1, wl_35, ⟨by decide, by decide⟩, by decide +kernel⟩ wl_36 wl_37 rfl ⟨Nat.le_of_ble_eq_true rfl, Nat.le_of_ble_eq_true rfl⟩ (Nat.le_of_ble_eq_true rfl) rfl dl_217 ?_
  refine LW_a2 (pc := 220) dl_220 C ?_
  refine LW_arg (pc := 221) (k := 1) C (by omega) hx (by decide) dl_221 dl_222 dl_223 (by decide) dl_224 dl_225 ?_
  refine LW_arg (pc := 226) (k := 2) C (by omega) hx (by decide) dl_226 dl_227 dl_228 (by decide) dl_229 dl_230 ?_
  refine LW_call (n := 2) (pc := 231) (a := 89) (t := 9) (as := [.int (xs (i + 1)), .int (xs (i + 2))]) (st := [.int v]) C (c_X9_tell C.2.2.2.1 C.2.2.2.2.2.1 (xs (i + 1)) (xs (i + 2)) I1) h9 ⟨by rw [C.2.2.2.2.2.1]; decide, rfl⟩ (by decide) rfl ⟨wl_38, wl_6, wl_39, ⟨by decide, by decide⟩, by decide +kernel⟩ wl_40 wl_41 rfl ⟨Nat.le_of_ble_eq_true rfl, Nat.le_of_ble_eq_true rfl⟩ (Nat.le_of_ble_eq_true rfl) rfl dl_231 ?_
  exact LW_eq (pc := 234) C dl_234 (by decide) (kk I2 hO)
theorem law_5 (C : LC G p s m meth c b L xs) {i : Nat} (hi : i + 5 < L) (hx : x3 = nI i) (hS : Sm (f_X8_price (xs (i + 1)) (xs (i + 2))) (f_X9_price (xs (i + 1)) (xs (i + 2))) I) (kk : ∀ I2, Ok I2 → LW G p e s m below meth c b 836 x3 [] I2) : LW G p e s m below meth c b 239 x3 [] I := by
  obtain ⟨v, I1, I2, h8, h9, hO⟩ := hS
  refine LW_a1 (pc := 239) dl_239 C ?_
  refine LW_arg (pc := 240) (k := 1) C (by omega) hx (by decide) dl_240 dl_241 dl_242 (by decide) dl_243 dl_244 ?_
  refine LW_arg (pc := 245) (k := 2) C (by omega) hx (by decide) dl_245 dl_246 dl_247 (by decide) dl_248 dl_249 ?_
  refine LW_call (n := 2) (pc := 250) (a := 0) (t := 8) (as := [.int (xs (i + 1)), .int (xs (i + 2))]) (st := []) C (c_X8_price C.2.2.2.1 (Or.inr C.2.2.2.2.2.1) (xs (i + 1)) (xs (i + 2)) I) h8 ⟨by rw [C.2.2.2.2.2.1]; decide, rfl⟩ (by decide) rfl ⟨wl_42, wl_1, wl_43, ⟨by decide, by decide⟩, by decide +kernel⟩ wl_44 wl_45 rfl ⟨Nat.le_of_ble_eq_true rfl, Nat.le_of_ble_eq_true rfl⟩ (Nat.le_of_ble_eq_true rfl) rfl dl_250 ?_
  refine LW_a2 (pc := 253) dl_253 C ?_
  refine LW_arg (pc := 254) (k := 1) C (by omega) hx (by decide) dl_254 dl_255 dl_256 (by decide) dl_257 dl_258 ?_
  refine LW_arg (pc := 259) (k := 2) C (by omega) hx (by decide) dl_259 dl_260 dl_261 (by decide) dl_262 dl_263 ?_
  refine LW_call (n := 2) (pc := 264) (a := 89) (t := 9) (as := [.int (xs (i + 1)), .int (xs (i + 2))]) (st := [.int v]) C (c_X9_price C.2.2.2.1 C.2.2.2.2.2.1 (xs (i + 1)) (xs (i + 2)) I1) h9 ⟨by rw [C.2.2.2.2.2.1]; decide, rfl⟩ (by decide) rfl ⟨wl_46, wl_6, wl_47, ⟨by decide, by decide⟩, by decide +kernel⟩ wl_48 wl_49 rfl ⟨Nat.le_of_ble_eq_true rfl, Nat.le_of_ble_eq_true rfl⟩ (Nat.le_of_ble_eq_true rfl) rfl dl_264 ?_
  exact LW_eq (pc := 267) C dl_267 (by decide) (kk I2 hO)
theorem law_6 (C : LC G p s m meth c b L xs) {i : Nat} (hi : i + 5 < L) (hx : x3 = nI i) (hS : Sm (f_X8_folds (xs (i + 1))) (f_X9_folds (xs (i + 1))) I) (kk : ∀ I2, Ok I2 → LW G p e s m below meth c b 836 x3 [] I2) : LW G p e s m below meth c b 272 x3 [] I := by
  obtain ⟨v, I1, I2, h8, h9, hO⟩ := hS
  refine LW_a1 (pc := 272) dl_272 C ?_
  refine LW_arg (pc := 273) (k := 1) C (by omega) hx (by decide) dl_273 dl_274 dl_275 (by decide) dl_276 dl_277 ?_
  refine LW_call (n := 1) (pc := 278) (a := 0) (t := 8) (as := [.int (xs (i + 1))]) (st := []) C (c_X8_folds C.2.2.2.1 (Or.inr C.2.2.2.2.2.1) (xs (i + 1)) I) h8 ⟨by rw [C.2.2.2.2.2.1]; decide, rfl⟩ (by decide) rfl ⟨wl_50, wl_1, wl_51, ⟨by decide, by decide⟩, by decide +kernel⟩ wl_52 wl_53 rfl ⟨Nat.le_of_ble_eq_true rfl, Nat.le_of_ble_eq_true rfl⟩ (Nat.le_of_ble_eq_true rfl) rfl dl_278 ?_
  refine LW_a2 (pc := 281) dl_281 C ?_
  refine LW_arg (pc := 282) (k := 1) C (by omega) hx (by decide) dl_282 dl_283 dl_284 (by decide) dl_285 dl_286 ?_
  refine LW_call (n := 1) (pc := 287) (a := 89) (t := 9) (as := [.int (xs (i + 1))]) (st := [.int v]) C (c_X9_folds C.2.2.2.1 C.2.2.2.2.2.1 (xs (i + 1)) I1) h9 ⟨by rw [C.2.2.2.2.2.1]; decide, rfl⟩ (by decide) rfl ⟨wl_54, wl_6, wl_55, ⟨by decide, by decide⟩, by decide +kernel⟩ wl_56 wl_57 rfl ⟨Nat.le_of_ble_eq_true rfl, Nat.le_of_ble_eq_true rfl⟩ (Nat.le_of_ble_eq_true rfl) rfl dl_287 ?_
  exact LW_eq (pc := 290) C dl_290 (by decide) (kk I2 hO)
theorem law_7 (C : LC G p s m meth c b L xs) {i : Nat} (hi : i + 5 < L) (hx : x3 = nI i) (hS : Sm (f_X8_spoil (xs (i + 1)) (xs (i + 2))) (f_X9_spoil (xs (i + 1)) (xs (i + 2))) I) (kk : ∀ I2, Ok I2 → LW G p e s m below meth c b 836 x3 [] I2) : LW G p e s m below meth c b 295 x3 [] I := by
  obtain ⟨v, I1, I2, h8, h9, hO⟩ := hS
  refine LW_a1 (pc := 295) dl_295 C ?_
  refine LW_arg (pc := 296) (k := 1) C (by omega) hx (by decide) dl_296 dl_297 dl_298 (by decide) dl_299 dl_300 ?_
  refine LW_arg (pc := 301) (k := 2) C (by omega) hx (by decide) dl_301 dl_302 dl_303 (by decide) dl_304 dl_305 ?_
  refine LW_call (n := 2) (pc := 306) (a := 0) (t := 8) (as := [.int (xs (i + 1)), .int (xs (i + 2))]) (st := []) C (c_X8_spoil C.2.2.2.1 (Or.inr C.2.2.2.2.2.1) (xs (i + 1)) (xs (i + 2)) I) h8 ⟨by rw [C.2.2.2.2.2.1]; decide, rfl⟩ (by decide) rfl ⟨wl_58, wl_1, wl_59, ⟨by decide, by decide⟩, by decide +kernel⟩ wl_60 wl_61 rfl ⟨Nat.le_of_ble_eq_true rfl, Nat.le_of_ble_eq_true rfl⟩ (Nat.le_of_ble_eq_true rfl) rfl dl_306 ?_
  refine LW_a2 (pc := 309) dl_309 C ?_
  refine LW_arg (pc := 310) (k := 1) C (by omega) hx (by decide) dl_310 dl_311 dl_312 (by decide) dl_313 dl_314 ?_
  refine LW_arg (pc := 315) (k := 2) C (by omega) hx (by decide) dl_315 dl_316 dl_317 (by decide) dl_318 dl_319 ?_
  refine LW_call (n := 2) (pc := 320) (a := 89) (t := 9) (as := [.int (xs (i + 1)), .int (xs (i + 2))]) (st := [.int v]) C (c_X9_spoil C.2.2.2.1 C.2.2.2.2.2.1 (xs (i + 1)) (xs (i + 2)) I1) h9 ⟨by rw [C.2.2.2.2.2.1]; decide, rfl⟩ (by decide) rfl ⟨wl_62, wl_6, wl_63, ⟨by decide, by decide⟩, by decide +kernel⟩ wl_64 wl_65 rfl ⟨Nat.le_of_ble_eq_true rfl, Nat.le_of_ble_eq_true rfl⟩ (Nat.le_of_ble_eq_true rfl) rfl dl_320 ?_
  exact LW_eq (pc := 323) C dl_323 (by decide) (kk I2 hO)
theorem law_8 (C : LC G p s m meth c b L xs) {i : Nat} (hi : i + 5 < L) (hx : x3 = nI i) (hS : Sm (f_X8_undo) (f_X9_undo) I) (kk : ∀ I2, Ok I2 → LW G p e s m below meth c b 836 x3 [] I2) : LW G p e s m below meth c b 328 x3 [] I := by
  obtain ⟨v, I1, I2, h8, h9, hO⟩ := hS
  refine LW_a1 (pc := 328) dl_328 C ?_
  refine LW_call (n := 0) (pc := 329) (a := 0) (t := 8) (as := []) (st := []) C (c_X8_undo C.2.2.2.1 (Or.inr C.2.2.2.2.2.1) I) h8 ⟨by rw [C.2.2.2.2.2.1]; decide, rfl⟩ (by decide) rfl ⟨wl_66, wl_1, wl_67, ⟨by decide, by decide⟩, by decide +kernel⟩ wl_68 wl_69 rfl ⟨Nat.le_of_ble_eq_true rfl, Nat.le_of_ble_eq_true rfl⟩ (Nat.le_of_ble_eq_true rfl) rfl dl_329 ?_
  refine LW_a2 (pc := 332) dl_332 C ?_
  refine LW_call (n := 0) (pc := 333) (a := 89) (t := 9) (as := []) (st := [.int v]) C (c_X9_undo C.2.2.2.1 C.2.2.2.2.2.1 I1) h9 ⟨by rw [C.2.2.2.2.2.1]; decide, rfl⟩ (by decide) rfl ⟨wl_70, wl_6, wl_71, ⟨by decide, by decide⟩, by decide +kernel⟩ wl_72 wl_73 rfl ⟨Nat.le_of_ble_eq_true rfl, Nat.le_of_ble_eq_true rfl⟩ (Nat.le_of_ble_eq_true rfl) rfl dl_333 ?_
  exact LW_eq (pc := 336) C dl_336 (by decide) (kk I2 hO)
theorem law_9 (C : LC G p s m meth c b L xs) {i : Nat} (hi : i + 5 < L) (hx : x3 = nI i) (hS : Sm (f_X8_scheme (xs (i + 1)) (xs (i + 2))) (f_X9_scheme (xs (i + 1)) (xs (i + 2))) I) (kk : ∀ I2, Ok I2 → LW G p e s m below meth c b 836 x3 [] I2) : LW G p e s m below meth c b 341 x3 [] I := by
  obtain ⟨v, I1, I2, h8, h9, hO⟩ := hS
  refine LW_a1 (pc := 341) dl_341 C ?_
  refine LW_arg (pc := 342) (k := 1) C (by omega) hx (by decide) dl_342 dl_343 dl_344 (by decide) dl_345 dl_346 ?_
  refine LW_arg (pc := 347) (k := 2) C (by omega) hx (by decide) dl_347 dl_348 dl_349 (by decide) dl_350 dl_351 ?_
  refine LW_call (n := 2) (pc := 352) (a := 0) (t := 8) (as := [.int (xs (i + 1)), .int (xs (i + 2))]) (st := []) C (c_X8_scheme C.2.2.2.1 (Or.inr C.2.2.2.2.2.1) (xs (i + 1)) (xs (i + 2)) I) h8 ⟨by rw [C.2.2.2.2.2.1]; decide, rfl⟩ (by decide) rfl ⟨wl_74, wl_1, wl_75, ⟨by decide, by decide⟩, by decide +kernel⟩ wl_76 wl_77 rfl ⟨Nat.le_of_ble_eq_true rfl, Nat.le_of_ble_eq_true rfl⟩ (Nat.le_of_ble_eq_true rfl) rfl dl_352 ?_
  refine LW_a2 (pc := 355) dl_355 C ?_
  refine LW_arg (pc := 356) (k := 1) C (by omega) hx (by decide) dl_356 dl_357 dl_358 (by decide) dl_359 dl_360 ?_
  refine LW_arg (pc := 361) (k := 2) C (by omega) hx (by decide) dl_361 dl_362 dl_363 (by decide) dl_364 dl_365 ?_
  refine LW_call (n := 2) (pc := 366) (a := 89) (t := 9) (as := [.int (xs (i + 1)), .int (xs (i + 2))]) (st := [.int v]) C (c_X9_scheme C.2.2.2.1 C.2.2.2.2.2.1 (xs (i + 1)) (xs (i + 2)) I1) h9 ⟨by rw [C.2.2.2.2.2.1]; decide, rfl⟩ (by decide) rfl ⟨wl_78, wl_6, wl_79, ⟨by decide, by decide⟩, by decide +kernel⟩ wl_80 wl_81 rfl ⟨Nat.le_of_ble_eq_true rfl, Nat.le_of_ble_eq_true rfl⟩ (Nat.le_of_ble_eq_true rfl) rfl dl_366 ?_
  exact LW_eq (pc := 369) C dl_369 (by decide) (kk I2 hO)
theorem law_10 (C : LC G p s m meth c b L xs) {i : Nat} (hi : i + 5 < L) (hx : x3 = nI i) (hS : Sm (f_X8_fold (xs (i + 1)) (xs (i + 2))) (f_X9_fold (xs (i + 1)) (xs (i + 2))) I) (kk : ∀ I2, Ok I2 → LW G p e s m below meth c b 836 x3 [] I2) : LW G p e s m below meth c b 374 x3 [] I := by
  obtain ⟨v, I1, I2, h8, h9, hO⟩ := hS
  refine LW_a1 (pc := 374) dl_374 C ?_
  refine LW_arg (pc := 375) (k := 1) C (by omega) hx (by decide) dl_375 dl_376 dl_377 (by decide) dl_378 dl_379 ?_
  refine LW_arg (pc := 380) (k := 2) C (by omega) hx (by decide) dl_380 dl_381 dl_382 (by decide) dl_383 dl_384 ?_
  refine LW_call (n := 2) (pc := 385) (a := 0) (t := 8) (as := [.int (xs (i + 1)), .int (xs (i + 2))]) (st := []) C (c_X8_fold C.2.2.2.1 (Or.inr C.2.2.2.2.2.1) (xs (i + 1)) (xs (i + 2)) I) h8 ⟨by rw [C.2.2.2.2.2.1]; decide, rfl⟩ (by decide) rfl ⟨wl_82, wl_1, wl_83, ⟨by decide, by decide⟩, by decide +kernel⟩ wl_84 wl_85 rfl ⟨Nat.le_of_ble_eq_true rfl, Nat.le_of_ble_eq_true rfl⟩ (Nat.le_of_ble_eq_true rfl) rfl dl_385 ?_
  refine LW_a2 (pc := 388) dl_388 C ?_
  refine LW_arg (pc := 389) (k := 1) C (by omega) hx (by decide) dl_389 dl_390 dl_391 (by decide) dl_392 dl_393 ?_
  refine LW_arg (pc := 394) (k := 2) C (by omega) hx (by decide) dl_394 dl_395 dl_396 (by decide) dl_397 dl_398 ?_
  refine LW_call (n := 2) (pc := 399) (a := 89) (t := 9) (as := [.int (xs (i + 1)), .int (xs (i + 2))]) (st := [.int v]) C (c_X9_fold C.2.2.2.1 C.2.2.2.2.2.1 (xs (i + 1)) (xs (i + 2)) I1) h9 ⟨by rw [C.2.2.2.2.2.1]; decide, rfl⟩ (by decide) rfl ⟨wl_86, wl_6, wl_87, ⟨by decide, by decide⟩, by decide +kernel⟩ wl_88 wl_89 rfl ⟨Nat.le_of_ble_eq_true rfl, Nat.le_of_ble_eq_true rfl⟩ (Nat.le_of_ble_eq_true rfl) rfl dl_399 ?_
  exact LW_eq (pc := 402) C dl_402 (by decide) (kk I2 hO)
theorem law_11 (C : LC G p s m meth c b L xs) {i : Nat} (hi : i + 5 < L) (hx : x3 = nI i) (hS : Sm (f_X8_page (xs (i + 1)) (xs (i + 2)) (xs (i + 3)) (xs (i + 4))) (f_X9_page (xs (i + 1)) (xs (i + 2)) (xs (i + 3)) (xs (i + 4))) I) (kk : ∀ I2, Ok I2 → LW G p e s m below meth c b 836 x3 [] I2) : LW G p e s m below meth c b 407 x3 [] I := by
  obtain ⟨v, I1, I2, h8, h9, hO⟩ := hS
  refine LW_a1 (pc := 407) dl_407 C ?_
  refine LW_arg (pc := 408) (k := 1) C (by omega) hx (by decide) dl_408 dl_409 dl_410 (by decide) dl_411 dl_412 ?_
  refine LW_arg (pc := 413) (k := 2) C (by omega) hx (by decide) dl_413 dl_414 dl_415 (by decide) dl_416 dl_417 ?_
  refine LW_arg (pc := 418) (k := 3) C (by omega) hx (by decide) dl_418 dl_419 dl_420 (by decide) dl_421 dl_422 ?_
  refine LW_arg (pc := 423) (k := 4) C (by omega) hx (by decide) dl_423 dl_424 dl_425 (by decide) dl_426 dl_427 ?_
  refine LW_call (n := 4) (pc := 428) (a := 0) (t := 8) (as := [.int (xs (i + 1)), .int (xs (i + 2)), .int (xs (i + 3)), .int (xs (i + 4))]) (st := []) C (c_X8_page C.2.2.2.1 (Or.inr C.2.2.2.2.2.1) (xs (i + 1)) (xs (i + 2)) (xs (i + 3)) (xs (i + 4)) I) h8 ⟨by rw [C.2.2.2.2.2.1]; decide, rfl⟩ (by decide) rfl ⟨wl_90, wl_1, wl_91, ⟨by decide, by decide⟩, by decide +kernel⟩ wl_92 wl_93 rfl ⟨Nat.le_of_ble_eq_true rfl, Nat.le_of_ble_eq_true rfl⟩ (Nat.le_of_ble_eq_true rfl) rfl dl_428 ?_
  refine LW_a2 (pc := 431) dl_431 C ?_
  refine LW_arg (pc := 432) (k := 1) C (by omega) hx (by decide) dl_432 dl_433 dl_434 (by decide) dl_435 dl_436 ?_
  refine LW_arg (pc := 437) (k := 2) C (by omega) hx (by decide) dl_437 dl_438 dl_439 (by decide) dl_440 dl_441 ?_
  refine LW_arg (pc := 442) (k := 3) C (by omega) hx (by decide) dl_442 dl_443 dl_444 (by decide) dl_445 dl_446 ?_
  refine LW_arg (pc := 447) (k := 4) C (by omega) hx (by decide) dl_447 dl_448 dl_449 (by decide) dl_450 dl_451 ?_
  refine LW_call (n := 4) (pc := 452) (a := 89) (t := 9) (as := [.int (xs (i + 1)), .int (xs (i + 2)), .int (xs (i + 3)), .int (xs (i + 4))]) (st := [.int v]) C (c_X9_page C.2.2.2.1 C.2.2.2.2.2.1 (xs (i + 1)) (xs (i + 2)) (xs (i + 3)) (xs (i + 4)) I1) h9 ⟨by rw [C.2.2.2.2.2.1]; decide, rfl⟩ (by decide) rfl ⟨wl_94, wl_6, wl_95, ⟨by decide, by decide⟩, by decide +kernel⟩ wl_96 wl_97 rfl ⟨Nat.le_of_ble_eq_true rfl, Nat.le_of_ble_eq_true rfl⟩ (Nat.le_of_ble_eq_true rfl) rfl dl_452 ?_
  exact LW_eq (pc := 455) C dl_455 (by decide) (kk I2 hO)
theorem law_12 (C : LC G p s m meth c b L xs) {i : Nat} (hi : i + 5 < L) (hx : x3 = nI i) (hS : Sm (f_X8_where (xs (i + 1)) (xs (i + 2)) (xs (i + 3))) (f_X9_where (xs (i + 1)) (xs (i + 2)) (xs (i + 3))) I) (kk : ∀ I2, Ok I2 → LW G p e s m below meth c b 836 x3 [] I2) : LW G p e s m below meth c b 460 x3 [] I := by
  obtain ⟨v, I1, I2, h8, h9, hO⟩ := hS
  refine LW_a1 (pc := 460) dl_460 C ?_
  refine LW_arg (pc := 461) (k := 1) C (by omega) hx (by decide) dl_461 dl_462 dl_463 (by decide) dl_464 dl_465 ?_
  refine LW_arg (pc := 466) (k := 2) C (by omega) hx (by decide) dl_466 dl_467 dl_468 (by decide) dl_469 dl_470 ?_
  refine LW_arg (pc := 471) (k := 3) C (by omega) hx (by decide) dl_471 dl_472 dl_473 (by decide) dl_474 dl_475 ?_
  refine LW_call (n := 3) (pc := 476) (a := 0) (t := 8) (as := [.int (xs (i + 1)), .int (xs (i + 2)), .int (xs (i + 3))]) (st := []) C (c_X8_where C.2.2.2.1 (Or.inr C.2.2.2.2.2.1) (xs (i + 1)) (xs (i + 2)) (xs (i + 3)) I) h8 ⟨by rw [C.2.2.2.2.2.1]; decide, rfl⟩ (by decide) rfl ⟨wl_98, wl_1, wl_99, ⟨by decide, by decide⟩, by decide +kernel⟩ wl_100 wl_101 rfl ⟨Nat.le_of_ble_eq_true rfl, Nat.le_of_ble_eq_true rfl⟩ (Nat.le_of_ble_eq_true rfl) rfl dl_476 ?_
  refine LW_a2 (pc := 479) dl_479 C ?_
  refine LW_arg (pc := 480) (k := 1) C (by omega) hx (by decide) dl_480 dl_481 dl_482 (by decide) dl_483 dl_484 ?_
  refine LW_arg (pc := 485) (k := 2) C (by omega) hx (by decide) dl_485 dl_486 dl_487 (by decide) dl_488 dl_489 ?_
  refine LW_arg (pc := 490) (k := 3) C (by omega) hx (by decide) dl_490 dl_491 dl_492 (by decide) dl_493 dl_494 ?_
  refine LW_call (n := 3) (pc := 495) (a := 89) (t := 9) (as := [.int (xs (i + 1)), .int (xs (i + 2)), .int (xs (i + 3))]) (st := [.int v]) C (c_X9_where C.2.2.2.1 C.2.2.2.2.2.1 (xs (i + 1)) (xs (i + 2)) (xs (i + 3)) I1) h9 ⟨by rw [C.2.2.2.2.2.1]; decide, rfl⟩ (by decide) rfl ⟨wl_102, wl_6, wl_103, ⟨by decide, by decide⟩, by decide +kernel⟩ wl_104 wl_105 rfl ⟨Nat.le_of_ble_eq_true rfl, Nat.le_of_ble_eq_true rfl⟩ (Nat.le_of_ble_eq_true rfl) rfl dl_495 ?_
  exact LW_eq (pc := 498) C dl_498 (by decide) (kk I2 hO)
theorem law_13 (C : LC G p s m meth c b L xs) {i : Nat} (hi : i + 5 < L) (hx : x3 = nI i) (hS : Sm (f_X8_turned (xs (i + 1)) (xs (i + 2))) (f_X9_turned (xs (i + 1)) (xs (i + 2))) I) (kk : ∀ I2, Ok I2 → LW G p e s m below meth c b 836 x3 [] I2) : LW G p e s m below meth c b 503 x3 [] I := by
  obtain ⟨v, I1, I2, h8, h9, hO⟩ := hS
  refine LW_a1 (pc := 503) dl_503 C ?_
  refine LW_arg (pc := 504) (k := 1) C (by omega) hx (by decide) dl_504 dl_505 dl_506 (by decide) dl_507 dl_508 ?_
  refine LW_arg (pc := 509) (k := 2) C (by omega) hx (by decide) dl_509 dl_510 dl_511 (by decide) dl_512 dl_513 ?_
  refine LW_call (n := 2) (pc := 514) (a := 0) (t := 8) (as := [.int (xs (i + 1)), .int (xs (i + 2))]) (st := []) C (c_X8_turned C.2.2.2.1 (Or.inr C.2.2.2.2.2.1) (xs (i + 1)) (xs (i + 2)) I) h8 ⟨by rw [C.2.2.2.2.2.1]; decide, rfl⟩ (by decide) rfl ⟨wl_106, wl_1, wl_107, ⟨by decide, by decide⟩, by decide +kernel⟩ wl_108 wl_109 rfl ⟨Nat.le_of_ble_eq_true rfl, Nat.le_of_ble_eq_true rfl⟩ (Nat.le_of_ble_eq_true rfl) rfl dl_514 ?_
  refine LW_a2 (pc := 517) dl_517 C ?_
  refine LW_arg (pc := 518) (k := 1) C (by omega) hx (by decide) dl_518 dl_519 dl_520 (by decide) dl_521 dl_522 ?_
  refine LW_arg (pc := 523) (k := 2) C (by omega) hx (by decide) dl_523 dl_524 dl_525 (by decide) dl_526 dl_527 ?_
  refine LW_call (n := 2) (pc := 528) (a := 89) (t := 9) (as := [.int (xs (i + 1)), .int (xs (i + 2))]) (st := [.int v]) C (c_X9_turned C.2.2.2.1 C.2.2.2.2.2.1 (xs (i + 1)) (xs (i + 2)) I1) h9 ⟨by rw [C.2.2.2.2.2.1]; decide, rfl⟩ (by decide) rfl ⟨wl_110, wl_6, wl_111, ⟨by decide, by decide⟩, by decide +kernel⟩ wl_112 wl_113 rfl ⟨Nat.le_of_ble_eq_true rfl, Nat.le_of_ble_eq_true rfl⟩ (Nat.le_of_ble_eq_true rfl) rfl dl_528 ?_
  exact LW_eq (pc := 531) C dl_531 (by decide) (kk I2 hO)
theorem law_14 (C : LC G p s m meth c b L xs) {i : Nat} (hi : i + 5 < L) (hx : x3 = nI i) (hS : Sm (f_X8_find (xs (i + 1)) (xs (i + 2)) (xs (i + 3)) (xs (i + 4)) (xs (i + 5))) (f_X9_find (xs (i + 1)) (xs (i + 2)) (xs (i + 3)) (xs (i + 4)) (xs (i + 5))) I) (kk : ∀ I2, Ok I2 → LW G p e s m below meth c b 836 x3 [] I2) : LW G p e s m below meth c b 536 x3 [] I := by
  obtain ⟨v, I1, I2, h8, h9, hO⟩ := hS
  refine LW_a1 (pc := 536) dl_536 C ?_
  refine LW_arg (pc := 537) (k := 1) C (by omega) hx (by decide) dl_537 dl_538 dl_539 (by decide) dl_540 dl_541 ?_
  refine LW_arg (pc := 542) (k := 2) C (by omega) hx (by decide) dl_542 dl_543 dl_544 (by decide) dl_545 dl_546 ?_
  refine LW_arg (pc := 547) (k := 3) C (by omega) hx (by decide) dl_547 dl_548 dl_549 (by decide) dl_550 dl_551 ?_
  refine LW_arg (pc := 552) (k := 4) C (by omega) hx (by decide) dl_552 dl_553 dl_554 (by decide) dl_555 dl_556 ?_
  refine LW_arg (pc := 557) (k := 5) C (by omega) hx (by decide) dl_557 dl_558 dl_559 (by decide) dl_560 dl_561 ?_
  refine LW_call (n := 5) (pc := 562) (a := 0) (t := 8) (as := [.int (xs (i + 1)), .int (xs (i + 2)), .int (xs (i + 3)), .int (xs (i + 4)), .int (xs (i + 5))]) (st := []) C (c_X8_find C.2.2.2.1 (Or.inr C.2.2.2.2.2.1) (xs (i + 1)) (xs (i + 2)) (xs (i + 3)) (xs (i + 4)) (xs (i + 5)) I) h8 ⟨by rw [C.2.2.2.2.2.1]; decide, rfl⟩ (by decide) rfl ⟨wl_114, wl_1, wl_115, ⟨by decide, by decide⟩, by decide +kernel⟩ wl_116 wl_117 rfl ⟨Nat.le_of_ble_eq_true rfl, Nat.le_of_ble_eq_true rfl⟩ (Nat.le_of_ble_eq_true rfl) rfl dl_562 ?_
  refine LW_a2 (pc := 565) dl_565 C ?_
  refine LW_arg (pc := 566) (k := 1) C (by omega) hx (by decide) dl_566 dl_567 dl_568 (by decide) dl_569 dl_570 ?_
  refine LW_arg (pc := 571) (k := 2) C (by omega) hx (by decide) dl_571 dl_572 dl_573 (by decide) dl_574 dl_575 ?_
  refine LW_arg (pc := 576) (k := 3) C (by omega) hx (by decide) dl_576 dl_577 dl_578 (by decide) dl_579 dl_580 ?_
  refine LW_arg (pc := 581) (k := 4) C (by omega) hx (by decide) dl_581 dl_582 dl_583 (by decide) dl_584 dl_585 ?_
  refine LW_arg (pc := 586) (k := 5) C (by omega) hx (by decide) dl_586 dl_587 dl_588 (by decide) dl_589 dl_590 ?_
  refine LW_call (n := 5) (pc := 591) (a := 89) (t := 9) (as := [.int (xs (i + 1)), .int (xs (i + 2)), .int (xs (i + 3)), .int (xs (i + 4)), .int (xs (i + 5))]) (st := [.int v]) C (c_X9_find C.2.2.2.1 C.2.2.2.2.2.1 (xs (i + 1)) (xs (i + 2)) (xs (i + 3)) (xs (i + 4)) (xs (i + 5)) I1) h9 ⟨by rw [C.2.2.2.2.2.1]; decide, rfl⟩ (by decide) rfl ⟨wl_118, wl_6, wl_119, ⟨by decide, by decide⟩, by decide +kernel⟩ wl_120 wl_121 rfl ⟨Nat.le_of_ble_eq_true rfl, Nat.le_of_ble_eq_true rfl⟩ (Nat.le_of_ble_eq_true rfl) rfl dl_591 ?_
  exact LW_eq (pc := 594) C dl_594 (by decide) (kk I2 hO)
theorem law_15 (C : LC G p s m meth c b L xs) {i : Nat} (hi : i + 5 < L) (hx : x3 = nI i) (hS : Sm (f_X8_alike (xs (i + 1))) (f_X9_alike (xs (i + 1))) I) (kk : ∀ I2, Ok I2 → LW G p e s m below meth c b 836 x3 [] I2) : LW G p e s m below meth c b 599 x3 [] I := by
  obtain ⟨v, I1, I2, h8, h9, hO⟩ := hS
  refine LW_a1 (pc := 599) dl_599 C ?_
  refine LW_arg (pc := 600) (k := 1) C (by omega) hx (by decide) dl_600 dl_601 dl_602 (by decide) dl_603 dl_604 ?_
  refine LW_call (n := 1) (pc := 605) (a := 0) (t := 8) (as := [.int (xs (i + 1))]) (st := []) C (c_X8_alike C.2.2.2.1 (Or.inr C.2.2.2.2.2.1) (xs (i + 1)) I) h8 ⟨by rw [C.2.2.2.2.2.1]; decide, rfl⟩ (by decide) rfl ⟨wl_122, wl_1, wl_123, ⟨by decide, by decide⟩, by decide +kernel⟩ wl_124 wl_125 rfl ⟨Nat.le_of_ble_eq_true rfl, Nat.le_of_ble_eq_true rfl⟩ (Nat.le_of_ble_eq_true rfl) rfl dl_605 ?_
  refine LW_a2 (pc := 608) dl_608 C ?_
  refine LW_arg (pc := 609) (k := 1) C (by omega) hx (by decide) dl_609 dl_610 dl_611 (by decide) dl_612 dl_613 ?_
  refine LW_call (n := 1) (pc := 614) (a := 89) (t := 9) (as := [.int (xs (i + 1))]) (st := [.int v]) C (c_X9_alike C.2.2.2.1 C.2.2.2.2.2.1 (xs (i + 1)) I1) h9 ⟨by rw [C.2.2.2.2.2.1]; decide, rfl⟩ (by decide) rfl ⟨wl_126, wl_6, wl_127, ⟨by decide, by decide⟩, by decide +kernel⟩ wl_128 wl_129 rfl ⟨Nat.le_of_ble_eq_true rfl, Nat.le_of_ble_eq_true rfl⟩ (Nat.le_of_ble_eq_true rfl) rfl dl_614 ?_
  exact LW_eq (pc := 617) C dl_617 (by decide) (kk I2 hO)
theorem law_16 (C : LC G p s m meth c b L xs) {i : Nat} (hi : i + 5 < L) (hx : x3 = nI i) (hS : Sm (f_X8_unlike (xs (i + 1))) (f_X9_unlike (xs (i + 1))) I) (kk : ∀ I2, Ok I2 → LW G p e s m below meth c b 836 x3 [] I2) : LW G p e s m below meth c b 622 x3 [] I := by
  obtain ⟨v, I1, I2, h8, h9, hO⟩ := hS
  refine LW_a1 (pc := 622) dl_622 C ?_
  refine LW_arg (pc := 623) (k := 1) C (by omega) hx (by decide) dl_623 dl_624 dl_625 (by decide) dl_626 dl_627 ?_
  refine LW_call (n := 1) (pc := 628) (a := 0) (t := 8) (as := [.int (xs (i + 1))]) (st := []) C (c_X8_unlike C.2.2.2.1 (Or.inr C.2.2.2.2.2.1) (xs (i + 1)) I) h8 ⟨by rw [C.2.2.2.2.2.1]; decide, rfl⟩ (by decide) rfl ⟨wl_130, wl_1, wl_131, ⟨by decide, by decide⟩, by decide +kernel⟩ wl_132 wl_133 rfl ⟨Nat.le_of_ble_eq_true rfl, Nat.le_of_ble_eq_true rfl⟩ (Nat.le_of_ble_eq_true rfl) rfl dl_628 ?_
  refine LW_a2 (pc := 631) dl_631 C ?_
  refine LW_arg (pc := 632) (k := 1) C (by omega) hx (by decide) dl_632 dl_633 dl_634 (by decide) dl_635 dl_636 ?_
  refine LW_call (n := 1) (pc := 637) (a := 89) (t := 9) (as := [.int (xs (i + 1))]) (st := [.int v]) C (c_X9_unlike C.2.2.2.1 C.2.2.2.2.2.1 (xs (i + 1)) I1) h9 ⟨by rw [C.2.2.2.2.2.1]; decide, rfl⟩ (by decide) rfl ⟨wl_134, wl_6, wl_135, ⟨by decide, by decide⟩, by decide +kernel⟩ wl_136 wl_137 rfl ⟨Nat.le_of_ble_eq_true rfl, Nat.le_of_ble_eq_true rfl⟩ (Nat.le_of_ble_eq_true rfl) rfl dl_637 ?_
  exact LW_eq (pc := 640) C dl_640 (by decide) (kk I2 hO)
theorem law_17 (C : LC G p s m meth c b L xs) {i : Nat} (hi : i + 5 < L) (hx : x3 = nI i) (hS : Sm (f_X8_plan (xs (i + 1))) (f_X9_plan (xs (i + 1))) I) (kk : ∀ I2, Ok I2 → LW G p e s m below meth c b 836 x3 [] I2) : LW G p e s m below meth c b 645 x3 [] I := by
  obtain ⟨v, I1, I2, h8, h9, hO⟩ := hS
  refine LW_a1 (pc := 645) dl_645 C ?_
  refine LW_arg (pc := 646) (k := 1) C (by omega) hx (by decide) dl_646 dl_647 dl_648 (by decide) dl_649 dl_650 ?_
  refine LW_call (n := 1) (pc := 651) (a := 0) (t := 8) (as := [.int (xs (i + 1))]) (st := []) C (c_X8_plan C.2.2.2.1 (Or.inr C.2.2.2.2.2.1) (xs (i + 1)) I) h8 ⟨by rw [C.2.2.2.2.2.1]; decide, rfl⟩ (by decide) rfl ⟨wl_138, wl_1, wl_139, ⟨by decide, by decide⟩, by decide +kernel⟩ wl_140 wl_141 rfl ⟨Nat.le_of_ble_eq_true rfl, Nat.le_of_ble_eq_true rfl⟩ (Nat.le_of_ble_eq_true rfl) rfl dl_651 ?_
  refine LW_a2 (pc := 654) dl_654 C ?_
  refine LW_arg (pc := 655) (k := 1) C (by omega) hx (by decide) dl_655 dl_656 dl_657 (by decide) dl_658 dl_659 ?_
  refine LW_call (n := 1) (pc := 660) (a := 89) (t := 9) (as := [.int (xs (i + 1))]) (st := [.int v]) C (c_X9_plan C.2.2.2.1 C.2.2.2.2.2.1 (xs (i + 1)) I1) h9 ⟨by rw [C.2.2.2.2.2.1]; decide, rfl⟩ (by decide) rfl ⟨wl_142, wl_6, wl_143, ⟨by decide, by decide⟩, by decide +kernel⟩ wl_144 wl_145 rfl ⟨Nat.le_of_ble_eq_true rfl, Nat.le_of_ble_eq_true rfl⟩ (Nat.le_of_ble_eq_true rfl) rfl dl_660 ?_
  exact LW_eq (pc := 663) C dl_663 (by decide) (kk I2 hO)
theorem law_18 (C : LC G p s m meth c b L xs) {i : Nat} (hi : i + 5 < L) (hx : x3 = nI i) (hS : Sm (f_X8_blanks (xs (i + 1))) (f_X9_blanks (xs (i + 1))) I) (kk : ∀ I2, Ok I2 → LW G p e s m below meth c b 836 x3 [] I2) : LW G p e s m below meth c b 668 x3 [] I := by
  obtain ⟨v, I1, I2, h8, h9, hO⟩ := hS
  refine LW_a1 (pc := 668) dl_668 C ?_
  refine LW_arg (pc := 669) (k := 1) C (by omega) hx (by decide) dl_669 dl_670 dl_671 (by decide) dl_672 dl_673 ?_
  refine LW_call (n := 1) (pc := 674) (a := 0) (t := 8) (as := [.int (xs (i + 1))]) (st := []) C (c_X8_blanks C.2.2.2.1 (Or.inr C.2.2.2.2.2.1) (xs (i + 1)) I) h8 ⟨by rw [C.2.2.2.2.2.1]; decide, rfl⟩ (by decide) rfl ⟨wl_146, wl_1, wl_147, ⟨by decide, by decide⟩, by decide +kernel⟩ wl_148 wl_149 rfl ⟨Nat.le_of_ble_eq_true rfl, Nat.le_of_ble_eq_true rfl⟩ (Nat.le_of_ble_eq_true rfl) rfl dl_674 ?_
  refine LW_a2 (pc := 677) dl_677 C ?_
  refine LW_arg (pc := 678) (k := 1) C (by omega) hx (by decide) dl_678 dl_679 dl_680 (by decide) dl_681 dl_682 ?_
  refine LW_call (n := 1) (pc := 683) (a := 89) (t := 9) (as := [.int (xs (i + 1))]) (st := [.int v]) C (c_X9_blanks C.2.2.2.1 C.2.2.2.2.2.1 (xs (i + 1)) I1) h9 ⟨by rw [C.2.2.2.2.2.1]; decide, rfl⟩ (by decide) rfl ⟨wl_150, wl_6, wl_151, ⟨by decide, by decide⟩, by decide +kernel⟩ wl_152 wl_153 rfl ⟨Nat.le_of_ble_eq_true rfl, Nat.le_of_ble_eq_true rfl⟩ (Nat.le_of_ble_eq_true rfl) rfl dl_683 ?_
  exact LW_eq (pc := 686) C dl_686 (by decide) (kk I2 hO)
theorem law_19 (C : LC G p s m meth c b L xs) {i : Nat} (hi : i + 5 < L) (hx : x3 = nI i) (hS : Sm (f_X8_book (xs (i + 1)) (xs (i + 2))) (f_X9_book (xs (i + 1)) (xs (i + 2))) I) (kk : ∀ I2, Ok I2 → LW G p e s m below meth c b 836 x3 [] I2) : LW G p e s m below meth c b 691 x3 [] I := by
  obtain ⟨v, I1, I2, h8, h9, hO⟩ := hS
  refine LW_a1 (pc := 691) dl_691 C ?_
  refine LW_arg (pc := 692) (k := 1) C (by omega) hx (by decide) dl_692 dl_693 dl_694 (by decide) dl_695 dl_696 ?_
  refine LW_arg (pc := 697) (k := 2) C (by omega) hx (by decide) dl_697 dl_698 dl_699 (by decide) dl_700 dl_701 ?_
  refine LW_call (n := 2) (pc := 702) (a := 0) (t := 8) (as := [.int (xs (i + 1)), .int (xs (i + 2))]) (st := []) C (c_X8_book C.2.2.2.1 (Or.inr C.2.2.2.2.2.1) (xs (i + 1)) (xs (i + 2)) I) h8 ⟨by rw [C.2.2.2.2.2.1]; decide, rfl⟩ (by decide) rfl ⟨wl_154, wl_1, wl_155, ⟨by decide, by decide⟩, by decide +kernel⟩ wl_156 wl_157 rfl ⟨Nat.le_of_ble_eq_true rfl, Nat.le_of_ble_eq_true rfl⟩ (Nat.le_of_ble_eq_true rfl) rfl dl_702 ?_
  refine LW_a2 (pc := 705) dl_705 C ?_
  refine LW_arg (pc := 706) (k := 1) C (by omega) hx (by decide) dl_706 dl_707 dl_708 (by decide) dl_709 dl_710 ?_
  refine LW_arg (pc := 711) (k := 2) C (by omega) hx (by decide) dl_711 dl_712 dl_713 (by decide) dl_714 dl_715 ?_
  refine LW_call (n := 2) (pc := 716) (a := 89) (t := 9) (as := [.int (xs (i + 1)), .int (xs (i + 2))]) (st := [.int v]) C (c_X9_book C.2.2.2.1 C.2.2.2.2.2.1 (xs (i + 1)) (xs (i + 2)) I1) h9 ⟨by rw [C.2.2.2.2.2.1]; decide, rfl⟩ (by decide) rfl ⟨wl_158, wl_6, wl_159, ⟨by decide, by decide⟩, by decide +kernel⟩ wl_160 wl_161 rfl ⟨Nat.le_of_ble_eq_true rfl, Nat.le_of_ble_eq_true rfl⟩ (Nat.le_of_ble_eq_true rfl) rfl dl_716 ?_
  exact LW_eq (pc := 719) C dl_719 (by decide) (kk I2 hO)
theorem law_20 (C : LC G p s m meth c b L xs) {i : Nat} (hi : i + 5 < L) (hx : x3 = nI i) (hS : Sm (f_X8_number (xs (i + 1)) (xs (i + 2))) (f_X9_number (xs (i + 1)) (xs (i + 2))) I) (kk : ∀ I2, Ok I2 → LW G p e s m below meth c b 836 x3 [] I2) : LW G p e s m below meth c b 724 x3 [] I := by
  obtain ⟨v, I1, I2, h8, h9, hO⟩ := hS
  refine LW_a1 (pc := 724) dl_724 C ?_
  refine LW_arg (pc := 725) (k := 1) C (by omega) hx (by decide) dl_725 dl_726 dl_727 (by decide) dl_728 dl_729 ?_
  refine LW_arg (pc := 730) (k := 2) C (by omega) hx (by decide) dl_730 dl_731 dl_732 (by decide) dl_733 dl_734 ?_
  refine LW_call (n := 2) (pc := 735) (a := 0) (t := 8) (as := [.int (xs (i + 1)), .int (xs (i + 2))]) (st := []) C (c_X8_number C.2.2.2.1 (Or.inr C.2.2.2.2.2.1) (xs (i + 1)) (xs (i + 2)) I) h8 ⟨by rw [C.2.2.2.2.2.1]; decide, rfl⟩ (by decide) rfl ⟨wl_162, wl_1, wl_163, ⟨by decide, by decide⟩, by decide +kernel⟩ wl_164 wl_165 rfl ⟨Nat.le_of_ble_eq_true rfl, Nat.le_of_ble_eq_true rfl⟩ (Nat.le_of_ble_eq_true rfl) rfl dl_735 ?_
  refine LW_a2 (pc := 738) dl_738 C ?_
  refine LW_arg (pc := 739) (k := 1) C (by omega) hx (by decide) dl_739 dl_740 dl_741 (by decide) dl_742 dl_743 ?_
  refine LW_arg (pc := 744) (k := 2) C (by omega) hx (by decide) dl_744 dl_745 dl_746 (by decide) dl_747 dl_748 ?_
  refine LW_call (n := 2) (pc := 749) (a := 89) (t := 9) (as := [.int (xs (i + 1)), .int (xs (i + 2))]) (st := [.int v]) C (c_X9_number C.2.2.2.1 C.2.2.2.2.2.1 (xs (i + 1)) (xs (i + 2)) I1) h9 ⟨by rw [C.2.2.2.2.2.1]; decide, rfl⟩ (by decide) rfl ⟨wl_166, wl_6, wl_167, ⟨by decide, by decide⟩, by decide +kernel⟩ wl_168 wl_169 rfl ⟨Nat.le_of_ble_eq_true rfl, Nat.le_of_ble_eq_true rfl⟩ (Nat.le_of_ble_eq_true rfl) rfl dl_749 ?_
  exact LW_eq (pc := 752) C dl_752 (by decide) (kk I2 hO)
theorem law_21 (C : LC G p s m meth c b L xs) {i : Nat} (hi : i + 5 < L) (hx : x3 = nI i) (hS : Sm (f_X8_sheet (xs (i + 1)) (xs (i + 2))) (f_X9_sheet (xs (i + 1)) (xs (i + 2))) I) (kk : ∀ I2, Ok I2 → LW G p e s m below meth c b 836 x3 [] I2) : LW G p e s m below meth c b 757 x3 [] I := by
  obtain ⟨v, I1, I2, h8, h9, hO⟩ := hS
  refine LW_a1 (pc := 757) dl_757 C ?_
  refine LW_arg (pc := 758) (k := 1) C (by omega) hx (by decide) dl_758 dl_759 dl_760 (by decide) dl_761 dl_762 ?_
  refine LW_arg (pc := 763) (k := 2) C (by omega) hx (by decide) dl_763 dl_764 dl_765 (by decide) dl_766 dl_767 ?_
  refine LW_call (n := 2) (pc := 768) (a := 0) (t := 8) (as := [.int (xs (i + 1)), .int (xs (i + 2))]) (st := []) C (c_X8_sheet C.2.2.2.1 (Or.inr C.2.2.2.2.2.1) (xs (i + 1)) (xs (i + 2)) I) h8 ⟨by rw [C.2.2.2.2.2.1]; decide, rfl⟩ (by decide) rfl ⟨wl_170, wl_1, wl_171, ⟨by decide, by decide⟩, by decide +kernel⟩ wl_172 wl_173 rfl ⟨Nat.le_of_ble_eq_true rfl, Nat.le_of_ble_eq_true rfl⟩ (Nat.le_of_ble_eq_true rfl) rfl dl_768 ?_
  refine LW_a2 (pc := 771) dl_771 C ?_
  refine LW_arg (pc := 772) (k := 1) C (by omega) hx (by decide) dl_772 dl_773 dl_774 (by decide) dl_775 dl_776 ?_
  refine LW_arg (pc := 777) (k := 2) C (by omega) hx (by decide) dl_777 dl_778 dl_779 (by decide) dl_780 dl_781 ?_
  refine LW_call (n := 2) (pc := 782) (a := 89) (t := 9) (as := [.int (xs (i + 1)), .int (xs (i + 2))]) (st := [.int v]) C (c_X9_sheet C.2.2.2.1 C.2.2.2.2.2.1 (xs (i + 1)) (xs (i + 2)) I1) h9 ⟨by rw [C.2.2.2.2.2.1]; decide, rfl⟩ (by decide) rfl ⟨wl_174, wl_6, wl_175, ⟨by decide, by decide⟩, by decide +kernel⟩ wl_176 wl_177 rfl ⟨Nat.le_of_ble_eq_true rfl, Nat.le_of_ble_eq_true rfl⟩ (Nat.le_of_ble_eq_true rfl) rfl dl_782 ?_
  exact LW_eq (pc := 785) C dl_785 (by decide) (kk I2 hO)
theorem law_22 (C : LC G p s m meth c b L xs) {i : Nat} (hi : i + 5 < L) (hx : x3 = nI i) (hS : Sm (f_X8_missing (xs (i + 1))) (f_X9_missing (xs (i + 1))) I) (kk : ∀ I2, Ok I2 → LW G p e s m below meth c b 836 x3 [] I2) : LW G p e s m below meth c b 790 x3 [] I := by
  obtain ⟨v, I1, I2, h8, h9, hO⟩ := hS
  refine LW_a1 (pc := 790) dl_790 C ?_
  refine LW_arg (pc := 791) (k := 1) C (by omega) hx (by decide) dl_791 dl_792 dl_793 (by decide) dl_794 dl_795 ?_
  refine LW_call (n := 1) (pc := 796) (a := 0) (t := 8) (as := [.int (xs (i + 1))]) (st := []) C (c_X8_missing C.2.2.2.1 (Or.inr C.2.2.2.2.2.1) (xs (i + 1)) I) h8 ⟨by rw [C.2.2.2.2.2.1]; decide, rfl⟩ (by decide) rfl ⟨wl_178, wl_1, wl_179, ⟨by decide, by decide⟩, by decide +kernel⟩ wl_180 wl_181 rfl ⟨Nat.le_of_ble_eq_true rfl, Nat.le_of_ble_eq_true rfl⟩ (Nat.le_of_ble_eq_true rfl) rfl dl_796 ?_
  refine LW_a2 (pc := 799) dl_799 C ?_
  refine LW_arg (pc := 800) (k := 1) C (by omega) hx (by decide) dl_800 dl_801 dl_802 (by decide) dl_803 dl_804 ?_
  refine LW_call (n := 1) (pc := 805) (a := 89) (t := 9) (as := [.int (xs (i + 1))]) (st := [.int v]) C (c_X9_missing C.2.2.2.1 C.2.2.2.2.2.1 (xs (i + 1)) I1) h9 ⟨by rw [C.2.2.2.2.2.1]; decide, rfl⟩ (by decide) rfl ⟨wl_182, wl_6, wl_183, ⟨by decide, by decide⟩, by decide +kernel⟩ wl_184 wl_185 rfl ⟨Nat.le_of_ble_eq_true rfl, Nat.le_of_ble_eq_true rfl⟩ (Nat.le_of_ble_eq_true rfl) rfl dl_805 ?_
  exact LW_eq (pc := 808) C dl_808 (by decide) (kk I2 hO)
theorem law_23 (C : LC G p s m meth c b L xs) {i : Nat} (hi : i + 5 < L) (hx : x3 = nI i) (hS : Sm (f_X8_count (xs (i + 1))) (f_X9_count (xs (i + 1))) I) (kk : ∀ I2, Ok I2 → LW G p e s m below meth c b 836 x3 [] I2) : LW G p e s m below meth c b 813 x3 [] I := by
  obtain ⟨v, I1, I2, h8, h9, hO⟩ := hS
  refine LW_a1 (pc := 813) dl_813 C ?_
  refine LW_arg (pc := 814) (k := 1) C (by omega) hx (by decide) dl_814 dl_815 dl_816 (by decide) dl_817 dl_818 ?_
  refine LW_call (n := 1) (pc := 819) (a := 0) (t := 8) (as := [.int (xs (i + 1))]) (st := []) C (c_X8_count C.2.2.2.1 (Or.inr C.2.2.2.2.2.1) (xs (i + 1)) I) h8 ⟨by rw [C.2.2.2.2.2.1]; decide, rfl⟩ (by decide) rfl ⟨wl_186, wl_1, wl_187, ⟨by decide, by decide⟩, by decide +kernel⟩ wl_188 wl_189 rfl ⟨Nat.le_of_ble_eq_true rfl, Nat.le_of_ble_eq_true rfl⟩ (Nat.le_of_ble_eq_true rfl) rfl dl_819 ?_
  refine LW_a2 (pc := 822) dl_822 C ?_
  refine LW_arg (pc := 823) (k := 1) C (by omega) hx (by decide) dl_823 dl_824 dl_825 (by decide) dl_826 dl_827 ?_
  refine LW_call (n := 1) (pc := 828) (a := 89) (t := 9) (as := [.int (xs (i + 1))]) (st := [.int v]) C (c_X9_count C.2.2.2.1 C.2.2.2.2.2.1 (xs (i + 1)) I1) h9 ⟨by rw [C.2.2.2.2.2.1]; decide, rfl⟩ (by decide) rfl ⟨wl_190, wl_6, wl_191, ⟨by decide, by decide⟩, by decide +kernel⟩ wl_192 wl_193 rfl ⟨Nat.le_of_ble_eq_true rfl, Nat.le_of_ble_eq_true rfl⟩ (Nat.le_of_ble_eq_true rfl) rfl dl_828 ?_
  exact LW_eq (pc := 831) C dl_831 (by decide) (kk I2 hO)
theorem law_loop (C : LC G p s m meth c b L xs) : ∀ (n i : Nat) (x3 : Int32) (I : Mem), L < i + 6 * n → i ≤ L + 6 → x3 = nI i → Ok I → LW G p e s m below meth c b 18 x3 [] I := by
  have hx := C.1.1
  have hb := C.1.2.1
  have hL := C.2.2.2.2.2.2
  have hC0 := C
  obtain ⟨⟨-, -, hr, hml, hown, hts, hX, hbl, hlocks, hgv⟩, -⟩ := C
  have hfin : ∀ {x3 : Int32} {I : Mem}, LW G p e s m below meth c b 842 x3 [] I := by
    intro x3 I H locs ls hP hS hl
    refine lv_iconst (v := 1) hx hb dl_842 (by decide) ?_
    refine va_forget (fun q hq => ?_) ?_
    · have := hS.2.2 q hq
      unfold gA at this
      rw [hC0.2.2.2.2.1] at this
      exact this
    · exact lw_ret hx hb hr hlocks dl_843
  have C := hC0
  intro n
  induction n with
  | zero =>
    intro i x3 I h1 h2 hx3 hO H locs ls hP hS hl
    refine lv_iload_n hx hb dl_18 rfl (lv_at hl 3 rfl) ?_
    refine lv_aload_n hx hb dl_19 rfl (lv_at hl 0 rfl) ?_
    refine va_slen hx hb hX hbl C.nb hS dl_20 ?_
    refine lv_bipush (v := 6) hx hb dl_21 (by decide) ?_
    refine lv_isub hx hb dl_23 ?_
    refine lv_icmp_gt (tgt := 842) hx hb dl_24 (by decide) (fun _ => hfin H locs ls hP hS hl) (fun q => absurd ?_ q)
    rw [lt_T, hx3, show Int32.ofNat L - 6 = nI L - 6 from rfl, sub_T (by rw [nI_toInt (by omega), show (6 : Int32).toInt = 6 from rfl]; omega) (by rw [nI_toInt (by omega), show (6 : Int32).toInt = 6 from rfl]; omega), nI_toInt (by omega), nI_toInt (by omega), show (6 : Int32).toInt = 6 from rfl]
    omega
  | succ n ih =>
    intro i x3 I h1 h2 hx3 hO H locs ls hP hS hl
    refine lv_iload_n hx hb dl_18 rfl (lv_at hl 3 rfl) ?_
    refine lv_aload_n hx hb dl_19 rfl (lv_at hl 0 rfl) ?_
    refine va_slen hx hb hX hbl C.nb hS dl_20 ?_
    refine lv_bipush (v := 6) hx hb dl_21 (by decide) ?_
    refine lv_isub hx hb dl_23 ?_
    refine lv_icmp_gt (tgt := 842) hx hb dl_24 (by decide) (fun _ => hfin H locs ls hP hS hl) (fun q => ?_)
    have hlt : i + 5 < L := by
      apply Nat.lt_of_not_le
      intro hle
      apply q
      rw [lt_T, hx3, show Int32.ofNat L - 6 = nI L - 6 from rfl, sub_T (by rw [nI_toInt (by omega), show (6 : Int32).toInt = 6 from rfl]; omega) (by rw [nI_toInt (by omega), show (6 : Int32).toInt = 6 from rfl]; omega), nI_toInt (by omega), nI_toInt (by omega), show (6 : Int32).toInt = 6 from rfl]
      omega
    have kk : ∀ I2, Ok I2 → LW G p e s m below meth c b 836 x3 [] I2 := by
      intro I2 hO2 H locs ls hP hS hl
      refine lv_iinc (v := nI (i + 6)) (lv' := [(3, .int (nI (i + 6))), (0, .ref b), (1, .ref (gad G 0)), (2, .ref (gad G 89))]) hx hb dl_836 hl (k := 3) rfl (by rw [hx3]; exact nI_add i 6) (by decide) rfl (fun ls hl => ?_)
      refine lv_goto (tgt := 18) hx hb dl_839 (by decide) ?_
      exact ih (i + 6) (nI (i + 6)) I2 (by omega) (by omega) rfl hO2 H locs ls hP hS (lv_sub hl [1, 2, 3, 0] rfl)
    have hS6 := hS
    refine lv_aload_n hx hb dl_27 rfl (lv_at hl 0 rfl) ?_
    refine lv_iload_n hx hb dl_28 rfl (lv_at hl 3 rfl) ?_
    rw [show ([Value.int x3, Value.ref b] : List Value) = [.int (nI i), .ref b] by rw [hx3]]
    refine va_sld hx hb hX hbl C.nb hS (vp_in_nI (show i < L by omega) (by omega)) dl_29 ?_
    rw [nI_clamp (by omega)]
    refine lv_bipush (v := 31) hx hb dl_30 (by decide) ?_
    refine lv_iand hx hb dl_32 ?_
    obtain ⟨L', x', τ, d, us, hC, hM⟩ := id hO
    rcases arg_cases (xs i &&& 31) 24 with ⟨k, hk, -, hke⟩ | ho
    · rw [hke]
      match k, hk with
        | 0, _ => exact lv_tableIn (off := 111) (tgt := 144) hx hb dl_33 (by decide) (by decide) (by decide) (by decide) (law_0 C hlt hx3 (q_write hC hM _) kk H locs ls hP hS hl)
        | 1, _ => exact lv_tableIn (off := 134) (tgt := 167) hx hb dl_33 (by decide) (by decide) (by decide) (by decide) (law_1 C hlt hx3 (q_wipe hC hM) kk H locs ls hP hS hl)
        | 2, _ => exact lv_tableIn (off := 147) (tgt := 180) hx hb dl_33 (by decide) (by decide) (by decide) (by decide) (law_2 C hlt hx3 (q_fault hC hM) kk H locs ls hP hS hl)
        | 3, _ => exact lv_tableIn (off := 160) (tgt := 193) hx hb dl_33 (by decide) (by decide) (by decide) (by decide) (law_3 C hlt hx3 (q_lay hC hM) kk H locs ls hP hS hl)
        | 4, _ => exact lv_tableIn (off := 173) (tgt := 206) hx hb dl_33 (by decide) (by decide) (by decide) (by decide) (law_4 C hlt hx3 (q_tell hC hM _ _) kk H locs ls hP hS hl)
        | 5, _ => exact lv_tableIn (off := 206) (tgt := 239) hx hb dl_33 (by decide) (by decide) (by decide) (by decide) (law_5 C hlt hx3 (q_price hC hM _ _) kk H locs ls hP hS hl)
        | 6, _ => exact lv_tableIn (off := 239) (tgt := 272) hx hb dl_33 (by decide) (by decide) (by decide) (by decide) (law_6 C hlt hx3 (q_folds hC hM _) kk H locs ls hP hS hl)
        | 7, _ => exact lv_tableIn (off := 262) (tgt := 295) hx hb dl_33 (by decide) (by decide) (by decide) (by decide) (law_7 C hlt hx3 (q_spoil hC hM _ _) kk H locs ls hP hS hl)
        | 8, _ => exact lv_tableIn (off := 295) (tgt := 328) hx hb dl_33 (by decide) (by decide) (by decide) (by decide) (law_8 C hlt hx3 (q_undo hC hM) kk H locs ls hP hS hl)
        | 9, _ => exact lv_tableIn (off := 308) (tgt := 341) hx hb dl_33 (by decide) (by decide) (by decide) (by decide) (law_9 C hlt hx3 (q_scheme hC hM _ _) kk H locs ls hP hS hl)
        | 10, _ => exact lv_tableIn (off := 341) (tgt := 374) hx hb dl_33 (by decide) (by decide) (by decide) (by decide) (law_10 C hlt hx3 (q_fold hC hM _ _) kk H locs ls hP hS hl)
        | 11, _ => exact lv_tableIn (off := 374) (tgt := 407) hx hb dl_33 (by decide) (by decide) (by decide) (by decide) (law_11 C hlt hx3 (q_page hC hM _ _ _ _) kk H locs ls hP hS hl)
        | 12, _ => exact lv_tableIn (off := 427) (tgt := 460) hx hb dl_33 (by decide) (by decide) (by decide) (by decide) (law_12 C hlt hx3 (q_where hC hM _ _ _) kk H locs ls hP hS hl)
        | 13, _ => exact lv_tableIn (off := 470) (tgt := 503) hx hb dl_33 (by decide) (by decide) (by decide) (by decide) (law_13 C hlt hx3 (q_turned hC hM _ _) kk H locs ls hP hS hl)
        | 14, _ => exact lv_tableIn (off := 503) (tgt := 536) hx hb dl_33 (by decide) (by decide) (by decide) (by decide) (law_14 C hlt hx3 (q_find hC hM _ _ _ _ _) kk H locs ls hP hS hl)
        | 15, _ => exact lv_tableIn (off := 566) (tgt := 599) hx hb dl_33 (by decide) (by decide) (by decide) (by decide) (law_15 C hlt hx3 (q_alike hC hM _) kk H locs ls hP hS hl)
        | 16, _ => exact lv_tableIn (off := 589) (tgt := 622) hx hb dl_33 (by decide) (by decide) (by decide) (by decide) (law_16 C hlt hx3 (q_unlike hC hM _) kk H locs ls hP hS hl)
        | 17, _ => exact lv_tableIn (off := 612) (tgt := 645) hx hb dl_33 (by decide) (by decide) (by decide) (by decide) (law_17 C hlt hx3 (q_plan hC hM _) kk H locs ls hP hS hl)
        | 18, _ => exact lv_tableIn (off := 635) (tgt := 668) hx hb dl_33 (by decide) (by decide) (by decide) (by decide) (law_18 C hlt hx3 (q_blanks hC hM _) kk H locs ls hP hS hl)
        | 19, _ => exact lv_tableIn (off := 658) (tgt := 691) hx hb dl_33 (by decide) (by decide) (by decide) (by decide) (law_19 C hlt hx3 (q_book hC hM _ _) kk H locs ls hP hS hl)
        | 20, _ => exact lv_tableIn (off := 691) (tgt := 724) hx hb dl_33 (by decide) (by decide) (by decide) (by decide) (law_20 C hlt hx3 (q_number hC hM _ _) kk H locs ls hP hS hl)
        | 21, _ => exact lv_tableIn (off := 724) (tgt := 757) hx hb dl_33 (by decide) (by decide) (by decide) (by decide) (law_21 C hlt hx3 (q_sheet hC hM _ _) kk H locs ls hP hS hl)
        | 22, _ => exact lv_tableIn (off := 757) (tgt := 790) hx hb dl_33 (by decide) (by decide) (by decide) (by decide) (law_22 C hlt hx3 (q_missing hC hM _) kk H locs ls hP hS hl)
        | 23, _ => exact lv_tableIn (off := 780) (tgt := 813) hx hb dl_33 (by decide) (by decide) (by decide) (by decide) (law_23 C hlt hx3 (q_count hC hM _) kk H locs ls hP hS hl)
        | k + 24, h => exact absurd h (by omega)
    · exact lv_tableOut (tgt := 836) hx hb dl_33 (by omega) (by decide) (kk I hO H locs ls hP hS hl)
end LAW

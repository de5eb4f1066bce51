theorem dX9_page_51 : decode cX9_page 51 = .ok (.idiv, 1) := by decide +kernel
theorem dX9_page_52 : decode cX9_page 52 = .ok (.aload_n 0, 1) := by decide +kernel
theorem dX9_page_53 : decode cX9_page 53 = .ok (.getfield 139, 3) := by decide +kernel
theorem dX9_page_56 : decode cX9_page 56 = .ok (.idiv, 1) := by decide +kernel
theorem dX9_page_57 : decode cX9_page 57 = .ok (.iconst 1, 1) := by decide +kernel
theorem dX9_page_58 : decode cX9_page 58 = .ok (.isub, 1) := by decide +kernel
theorem dX9_page_59 : decode cX9_page 59 = .ok (.i2l, 1) := by decide +kernel
theorem dX9_page_60 : decode cX9_page 60 = .ok (.invokestatic 57, 3) := by decide +kernel
theorem dX9_page_63 : decode cX9_page 63 = .ok (.ifCond .ne 5, 3) := by decide +kernel
theorem dX9_page_66 : decode cX9_page 66 = .ok (.iconst (-1), 1) := by decide +kernel
theorem dX9_page_67 : decode cX9_page 67 = .ok (.ireturn, 1) := by decide +kernel
theorem dX9_page_68 : decode cX9_page 68 = .ok (.aload_n 0, 1) := by decide +kernel
theorem dX9_page_69 : decode cX9_page 69 = .ok (.iload_n 2, 1) := by decide +kernel
theorem dX9_page_70 : decode cX9_page 70 = .ok (.iload 4, 2) := by decide +kernel
theorem dX9_page_72 : decode cX9_page 72 = .ok (.aload_n 0, 1) := by decide +kernel
theorem dX9_page_73 : decode cX9_page 73 = .ok (.getfield 139, 3) := by decide +kernel
theorem dX9_page_76 : decode cX9_page 76 = .ok (.imul, 1) := by decide +kernel
theorem dX9_page_77 : decode cX9_page 77 = .ok (.iload_n 3, 1) := by decide +kernel
theorem dX9_page_78 : decode cX9_page 78 = .ok (.iadd, 1) := by decide +kernel
theorem dX9_page_79 : decode cX9_page 79 = .ok (.invokevirtual 163, 3) := by decide +kernel
theorem dX9_page_82 : decode cX9_page 82 = .ok (.ireturn, 1) := by decide +kernel
theorem dX9_where_0 : decode cX9_where 0 = .ok (.aload_n 0, 1) := by decide +kernel
theorem dX9_where_1 : decode cX9_where 1 = .ok (.iload_n 1, 1) := by decide +kernel
theorem dX9_where_2 : decode cX9_where 2 = .ok (.invokevirtual 122, 3) := by decide +kernel
theorem dX9_where_5 : decode cX9_where 5 = .ok (.ifCond .eq 30, 3) := by decide +kernel
theorem dX9_where_8 : decode cX9_where 8 = .ok (.iload_n 2, 1) := by decide +kernel
theorem dX9_where_9 : decode cX9_where 9 = .ok (.i2l, 1) := by decide +kernel
theorem dX9_where_10 : decode cX9_where 10 = .ok (.lconst 1, 1) := by decide +kernel
theorem dX9_where_11 : decode cX9_where 11 = .ok (.aload_n 0, 1) := by decide +kernel
theorem dX9_where_12 : decode cX9_where 12 = .ok (.iload_n 1, 1) := by decide +kernel
theorem dX9_where_13 : decode cX9_where 13 = .ok (.invokevirtual 151, 3) := by decide +kernel
theorem dX9_where_16 : decode cX9_where 16 = .ok (.i2l, 1) := by decide +kernel
theorem dX9_where_17 : decode cX9_where 17 = .ok (.invokestatic 57, 3) := by decide +kernel
theorem dX9_where_20 : decode cX9_where 20 = .ok (.ifCond .eq 15, 3) := by decide +kernel
theorem dX9_where_23 : decode cX9_where 23 = .ok (.iload_n 3, 1) := by decide +kernel
theorem dX9_where_24 : decode cX9_where 24 = .ok (.i2l, 1) := by decide +kernel
theorem dX9_where_25 : decode cX9_where 25 = .ok (.lconst 0, 1) := by decide +kernel
theorem dX9_where_26 : decode cX9_where 26 = .ok (.ldc2_w 146, 3) := by decide +kernel
theorem dX9_where_29 : decode cX9_where 29 = .ok (.invokestatic 57, 3) := by decide +kernel
theorem dX9_where_32 : decode cX9_where 32 = .ok (.ifCond .ne 5, 3) := by decide +kernel
theorem dX9_where_35 : decode cX9_where 35 = .ok (.iconst (-1), 1) := by decide +kernel
theorem dX9_where_36 : decode cX9_where 36 = .ok (.ireturn, 1) := by decide +kernel
theorem dX9_where_37 : decode cX9_where 37 = .ok (.aload_n 0, 1) := by decide +kernel
theorem dX9_where_38 : decode cX9_where 38 = .ok (.iload_n 1, 1) := by decide +kernel
theorem dX9_where_39 : decode cX9_where 39 = .ok (.invokevirtual 160, 3) := by decide +kernel
theorem dX9_where_42 : decode cX9_where 42 = .ok (.iload_n 2, 1) := by decide +kernel
theorem dX9_where_43 : decode cX9_where 43 = .ok (.iconst 1, 1) := by decide +kernel
theorem dX9_where_44 : decode cX9_where 44 = .ok (.isub, 1) := by decide +kernel
theorem dX9_where_45 : decode cX9_where 45 = .ok (.istore 4, 2) := by decide +kernel
theorem dX9_where_47 : decode cX9_where 47 = .ok (.aload_n 0, 1) := by decide +kernel
theorem dX9_where_48 : decode cX9_where 48 = .ok (.getfield 31, 3) := by decide +kernel
theorem dX9_where_51 : decode cX9_where 51 = .ok (.iload 4, 2) := by decide +kernel
theorem dX9_where_53 : decode cX9_where 53 = .ok (.iaload, 1) := by decide +kernel
theorem dX9_where_54 : decode cX9_where 54 = .ok (.aload_n 0, 1) := by decide +kernel
theorem dX9_where_55 : decode cX9_where 55 = .ok (.getfield 139, 3) := by decide +kernel
theorem dX9_where_58 : decode cX9_where 58 = .ok (.irem, 1) := by decide +kernel
theorem dX9_where_59 : decode cX9_where 59 = .ok (.istore 5, 2) := by decide +kernel
theorem dX9_where_61 : decode cX9_where 61 = .ok (.aload_n 0, 1) := by decide +kernel
theorem dX9_where_62 : decode cX9_where 62 = .ok (.getfield 31, 3) := by decide +kernel
theorem dX9_where_65 : decode cX9_where 65 = .ok (.iload 4, 2) := by decide +kernel
theorem dX9_where_67 : decode cX9_where 67 = .ok (.iaload, 1) := by decide +kernel
theorem dX9_where_68 : decode cX9_where 68 = .ok (.aload_n 0, 1) := by decide +kernel
theorem dX9_where_69 : decode cX9_where 69 = .ok (.getfield 139, 3) := by decide +kernel
theorem dX9_where_72 : decode cX9_where 72 = .ok (.idiv, 1) := by decide +kernel
theorem dX9_where_73 : decode cX9_where 73 = .ok (.istore 6, 2) := by decide +kernel
theorem dX9_where_75 : decode cX9_where 75 = .ok (.aload_n 0, 1) := by decide +kernel
theorem dX9_where_76 : decode cX9_where 76 = .ok (.getfield 34, 3) := by decide +kernel
theorem dX9_where_79 : decode cX9_where 79 = .ok (.iload 4, 2) := by decide +kernel
theorem dX9_where_81 : decode cX9_where 81 = .ok (.iaload, 1) := by decide +kernel
theorem dX9_where_82 : decode cX9_where 82 = .ok (.ifCond .ne 10, 3) := by decide +kernel
theorem dX9_where_85 : decode cX9_where 85 = .ok (.iload 5, 2) := by decide +kernel
theorem dX9_where_87 : decode cX9_where 87 = .ok (.iconst 1, 1) := by decide +kernel
theorem dX9_where_88 : decode cX9_where 88 = .ok (.iadd, 1) := by decide +kernel
theorem dX9_where_89 : decode cX9_where 89 = .ok (.goto 7, 3) := by decide +kernel
theorem dX9_where_92 : decode cX9_where 92 = .ok (.iload 5, 2) := by decide +kernel
theorem dX9_where_94 : decode cX9_where 94 = .ok (.iconst 1, 1) := by decide +kernel
theorem dX9_where_95 : decode cX9_where 95 = .ok (.isub, 1) := by decide +kernel
theorem dX9_where_96 : decode cX9_where 96 = .ok (.istore 7, 2) := by decide +kernel
theorem dX9_where_98 : decode cX9_where 98 = .ok (.iload_n 3, 1) := by decide +kernel
theorem dX9_where_99 : decode cX9_where 99 = .ok (.tableswitch 62 0 4 #[33, 41, 44, 47, 55], 33) := by decide +kernel
theorem dX9_where_132 : decode cX9_where 132 = .ok (.aload_n 0, 1) := by decide +kernel
theorem dX9_where_133 : decode cX9_where 133 = .ok (.getfield 34, 3) := by decide +kernel
theorem dX9_where_136 : decode cX9_where 136 = .ok (.iload 4, 2) := by decide +kernel
theorem dX9_where_138 : decode cX9_where 138 = .ok (.iaload, 1) := by decide +kernel
theorem dX9_where_139 : decode cX9_where 139 = .ok (.ireturn, 1) := by decide +kernel
theorem dX9_where_140 : decode cX9_where 140 = .ok (.iload 5, 2) := by decide +kernel
theorem dX9_where_142 : decode cX9_where 142 = .ok (.ireturn, 1) := by decide +kernel
theorem dX9_where_143 : decode cX9_where 143 = .ok (.iload 6, 2) := by decide +kernel
theorem dX9_where_145 : decode cX9_where 145 = .ok (.ireturn, 1) := by decide +kernel
theorem dX9_where_146 : decode cX9_where 146 = .ok (.aload_n 0, 1) := by decide +kernel
theorem dX9_where_147 : decode cX9_where 147 = .ok (.getfield 37, 3) := by decide +kernel
theorem dX9_where_150 : decode cX9_where 150 = .ok (.iload 4, 2) := by decide +kernel
theorem dX9_where_152 : decode cX9_where 152 = .ok (.iaload, 1) := by decide +kernel
theorem dX9_where_153 : decode cX9_where 153 = .ok (.ireturn, 1) := by decide +kernel
theorem dX9_where_154 : decode cX9_where 154 = .ok (.iload 4, 2) := by decide +kernel
theorem dX9_where_156 : decode cX9_where 156 = .ok (.iconst 1, 1) := by decide +kernel
theorem dX9_where_157 : decode cX9_where 157 = .ok (.ixor, 1) := by decide +kernel
theorem dX9_where_158 : decode cX9_where 158 = .ok (.iconst 1, 1) := by decide +kernel
theorem dX9_where_159 : decode cX9_where 159 = .ok (.iadd, 1) := by decide +kernel
theorem dX9_where_160 : decode cX9_where 160 = .ok (.ireturn, 1) := by decide +kernel
theorem dX9_where_161 : decode cX9_where 161 = .ok (.iload 7, 2) := by decide +kernel
theorem dX9_where_163 : decode cX9_where 163 = .ok (.i2l, 1) := by decide +kernel
theorem dX9_where_164 : decode cX9_where 164 = .ok (.lconst 0, 1) := by decide +kernel
theorem dX9_where_165 : decode cX9_where 165 = .ok (.aload_n 0, 1) := by decide +kernel
theorem dX9_where_166 : decode cX9_where 166 = .ok (.getfield 139, 3) := by decide +kernel
theorem dX9_where_169 : decode cX9_where 169 = .ok (.iconst 1, 1) := by decide +kernel
theorem dX9_where_170 : decode cX9_where 170 = .ok (.isub, 1) := by decide +kernel
theorem dX9_where_171 : decode cX9_where 171 = .ok (.i2l, 1) := by decide +kernel
theorem dX9_where_172 : decode cX9_where 172 = .ok (.invokestatic 57, 3) := by decide +kernel
theorem dX9_where_175 : decode cX9_where 175 = .ok (.ifCond .eq 27, 3) := by decide +kernel
theorem dX9_where_178 : decode cX9_where 178 = .ok (.aload_n 0, 1) := by decide +kernel
theorem dX9_where_179 : decode cX9_where 179 = .ok (.aload_n 0, 1) := by decide +kernel
theorem dX9_where_180 : decode cX9_where 180 = .ok (.getfield 34, 3) := by decide +kernel
theorem dX9_where_183 : decode cX9_where 183 = .ok (.iload 4, 2) := by decide +kernel
theorem dX9_where_185 : decode cX9_where 185 = .ok (.iaload, 1) := by decide +kernel
theorem dX9_where_186 : decode cX9_where 186 = .ok (.iload 6, 2) := by decide +kernel
theorem dX9_where_188 : decode cX9_where 188 = .ok (.aload_n 0, 1) := by decide +kernel
theorem dX9_where_189 : decode cX9_where 189 = .ok (.getfield 139, 3) := by decide +kernel
theorem dX9_where_192 : decode cX9_where 192 = .ok (.imul, 1) := by decide +kernel
theorem dX9_where_193 : decode cX9_where 193 = .ok (.iload 7, 2) := by decide +kernel
theorem dX9_where_195 : decode cX9_where 195 = .ok (.iadd, 1) := by decide +kernel
theorem dX9_where_196 : decode cX9_where 196 = .ok (.invokevirtual 163, 3) := by decide +kernel
theorem dX9_where_199 : decode cX9_where 199 = .ok (.goto 5, 3) := by decide +kernel
theorem dX9_where_202 : decode cX9_where 202 = .ok (.bipush (-4), 2) := by decide +kernel
theorem dX9_where_204 : decode cX9_where 204 = .ok (.ireturn, 1) := by decide +kernel
theorem dX9_turned_0 : decode cX9_turned 0 = .ok (.aload_n 0, 1) := by decide +kernel
theorem dX9_turned_1 : decode cX9_turned 1 = .ok (.iload_n 1, 1) := by decide +kernel
theorem dX9_turned_2 : decode cX9_turned 2 = .ok (.invokevirtual 122, 3) := by decide +kernel
theorem dX9_turned_5 : decode cX9_turned 5 = .ok (.ifCond .eq 13, 3) := by decide +kernel
theorem dX9_turned_8 : decode cX9_turned 8 = .ok (.iload_n 2, 1) := by decide +kernel
theorem dX9_turned_9 : decode cX9_turned 9 = .ok (.i2l, 1) := by decide +kernel
theorem dX9_turned_10 : decode cX9_turned 10 = .ok (.lconst 0, 1) := by decide +kernel
theorem dX9_turned_11 : decode cX9_turned 11 = .ok (.lconst 1, 1) := by decide +kernel
theorem dX9_turned_12 : decode cX9_turned 12 = .ok (.invokestatic 57, 3) := by decide +kernel
theorem dX9_turned_15 : decode cX9_turned 15 = .ok (.ifCond .ne 5, 3) := by decide +kernel
theorem dX9_turned_18 : decode cX9_turned 18 = .ok (.iconst (-1), 1) := by decide +kernel
theorem dX9_turned_19 : decode cX9_turned 19 = .ok (.ireturn, 1) := by decide +kernel
theorem dX9_turned_20 : decode cX9_turned 20 = .ok (.aload_n 0, 1) := by decide +kernel
theorem dX9_turned_21 : decode cX9_turned 21 = .ok (.iload_n 1, 1) := by decide +kernel
theorem dX9_turned_22 : decode cX9_turned 22 = .ok (.invokevirtual 160, 3) := by decide +kernel
theorem dX9_turned_25 : decode cX9_turned 25 = .ok (.iconst 0, 1) := by decide +kernel
theorem dX9_turned_26 : decode cX9_turned 26 = .ok (.istore_n 3, 1) := by decide +kernel
theorem dX9_turned_27 : decode cX9_turned 27 = .ok (.iconst 0, 1) := by decide +kernel
theorem dX9_turned_28 : decode cX9_turned 28 = .ok (.istore 4, 2) := by decide +kernel
theorem dX9_turned_30 : decode cX9_turned 30 = .ok (.iload 4, 2) := by decide +kernel
theorem dX9_turned_32 : decode cX9_turned 32 = .ok (.aload_n 0, 1) := by decide +kernel
theorem dX9_turned_33 : decode cX9_turned 33 = .ok (.iload_n 1, 1) := by decide +kernel
theorem dX9_turned_34 : decode cX9_turned 34 = .ok (.invokevirtual 151, 3) := by decide +kernel
theorem dX9_turned_37 : decode cX9_turned 37 = .ok (.if_icmp .ge 34, 3) := by decide +kernel
theorem dX9_turned_40 : decode cX9_turned 40 = .ok (.iload_n 3, 1) := by decide +kernel
theorem dX9_turned_41 : decode cX9_turned 41 = .ok (.aload_n 0, 1) := by decide +kernel
theorem dX9_turned_42 : decode cX9_turned 42 = .ok (.getfield 34, 3) := by decide +kernel
theorem dX9_turned_45 : decode cX9_turned 45 = .ok (.iload 4, 2) := by decide +kernel
theorem dX9_turned_47 : decode cX9_turned 47 = .ok (.iaload, 1) := by decide +kernel
theorem dX9_turned_48 : decode cX9_turned 48 = .ok (.iload_n 2, 1) := by decide +kernel
theorem dX9_turned_49 : decode cX9_turned 49 = .ok (.if_icmp .ne 13, 3) := by decide +kernel
theorem dX9_turned_52 : decode cX9_turned 52 = .ok (.aload_n 0, 1) := by decide +kernel
theorem dX9_turned_53 : decode cX9_turned 53 = .ok (.getfield 37, 3) := by decide +kernel
theorem dX9_turned_56 : decode cX9_turned 56 = .ok (.iload 4, 2) := by decide +kernel
theorem dX9_turned_58 : decode cX9_turned 58 = .ok (.iaload, 1) := by decide +kernel
theorem dX9_turned_59 : decode cX9_turned 59 = .ok (.goto 4, 3) := by decide +kernel
theorem dX9_turned_62 : decode cX9_turned 62 = .ok (.iconst 0, 1) := by decide +kernel
theorem dX9_turned_63 : decode cX9_turned 63 = .ok (.iadd, 1) := by decide +kernel
theorem dX9_turned_64 : decode cX9_turned 64 = .ok (.istore_n 3, 1) := by decide +kernel
theorem dX9_turned_65 : decode cX9_turned 65 = .ok (.iinc 4 1, 3) := by decide +kernel
theorem dX9_turned_68 : decode cX9_turned 68 = .ok (.goto (-38), 3) := by decide +kernel
theorem dX9_turned_71 : decode cX9_turned 71 = .ok (.iload_n 3, 1) := by decide +kernel
theorem dX9_turned_72 : decode cX9_turned 72 = .ok (.ireturn, 1) := by decide +kernel
theorem dX9_letterOf_0 : decode cX9_letterOf 0 = .ok (.iload_n 0, 1) := by decide +kernel
theorem dX9_letterOf_1 : decode cX9_letterOf 1 = .ok (.ifCond .ne 8, 3) := by decide +kernel
theorem dX9_letterOf_4 : decode cX9_letterOf 4 = .ok (.bipush 98, 2) := by decide +kernel
theorem dX9_letterOf_6 : decode cX9_letterOf 6 = .ok (.goto 25, 3) := by decide +kernel
theorem dX9_letterOf_9 : decode cX9_letterOf 9 = .ok (.iload_n 0, 1) := by decide +kernel
theorem dX9_letterOf_10 : decode cX9_letterOf 10 = .ok (.iconst 1, 1) := by decide +kernel
theorem dX9_letterOf_11 : decode cX9_letterOf 11 = .ok (.if_icmp .ne 8, 3) := by decide +kernel
theorem dX9_letterOf_14 : decode cX9_letterOf 14 = .ok (.bipush 108, 2) := by decide +kernel
theorem dX9_letterOf_16 : decode cX9_letterOf 16 = .ok (.goto 15, 3) := by decide +kernel
theorem dX9_letterOf_19 : decode cX9_letterOf 19 = .ok (.iload_n 0, 1) := by decide +kernel
theorem dX9_letterOf_20 : decode cX9_letterOf 20 = .ok (.iconst 2, 1) := by decide +kernel
theorem dX9_letterOf_21 : decode cX9_letterOf 21 = .ok (.if_icmp .ne 8, 3) := by decide +kernel
theorem dX9_letterOf_24 : decode cX9_letterOf 24 = .ok (.bipush 114, 2) := by decide +kernel
theorem dX9_letterOf_26 : decode cX9_letterOf 26 = .ok (.goto 5, 3) := by decide +kernel
theorem dX9_letterOf_29 : decode cX9_letterOf 29 = .ok (.bipush 116, 2) := by decide +kernel
theorem dX9_letterOf_31 : decode cX9_letterOf 31 = .ok (.ireturn, 1) := by decide +kernel
theorem dX9_isText_0 : decode cX9_isText 0 = .ok (.aload_n 0, 1) := by decide +kernel
theorem dX9_isText_1 : decode cX9_isText 1 = .ok (.iload_n 1, 1) := by decide +kernel
theorem dX9_isText_2 : decode cX9_isText 2 = .ok (.putfield 127, 3) := by decide +kernel
theorem dX9_isText_5 : decode cX9_isText 5 = .ok (.iconst 0, 1) := by decide +kernel
theorem dX9_isText_6 : decode cX9_isText 6 = .ok (.istore_n 3, 1) := by decide +kernel
theorem dX9_isText_7 : decode cX9_isText 7 = .ok (.iload_n 3, 1) := by decide +kernel
theorem dX9_isText_8 : decode cX9_isText 8 = .ok (.iload_n 1, 1) := by decide +kernel
theorem dX9_isText_9 : decode cX9_isText 9 = .ok (.if_icmp .ge 29, 3) := by decide +kernel
theorem dX9_isText_12 : decode cX9_isText 12 = .ok (.aload_n 0, 1) := by decide +kernel
theorem dX9_isText_13 : decode cX9_isText 13 = .ok (.getfield 22, 3) := by decide +kernel
theorem dX9_isText_16 : decode cX9_isText 16 = .ok (.iload_n 3, 1) := by decide +kernel
theorem dX9_isText_17 : decode cX9_isText 17 = .ok (.iload_n 2, 1) := by decide +kernel
theorem dX9_isText_18 : decode cX9_isText 18 = .ok (.iconst 2, 1) := by decide +kernel
theorem dX9_isText_19 : decode cX9_isText 19 = .ok (.iload_n 1, 1) := by decide +kernel
theorem dX9_isText_20 : decode cX9_isText 20 = .ok (.iconst 1, 1) := by decide +kernel
theorem dX9_isText_21 : decode cX9_isText 21 = .ok (.isub, 1) := by decide +kernel
theorem dX9_isText_22 : decode cX9_isText 22 = .ok (.iload_n 3, 1) := by decide +kernel
theorem dX9_isText_23 : decode cX9_isText 23 = .ok (.isub, 1) := by decide +kernel
theorem dX9_isText_24 : decode cX9_isText 24 = .ok (.imul, 1) := by decide +kernel
theorem dX9_isText_25 : decode cX9_isText 25 = .ok (.ishr, 1) := by decide +kernel
theorem dX9_isText_26 : decode cX9_isText 26 = .ok (.iconst 3, 1) := by decide +kernel
theorem dX9_isText_27 : decode cX9_isText 27 = .ok (.iand, 1) := by decide +kernel
theorem dX9_isText_28 : decode cX9_isText 28 = .ok (.invokestatic 166, 3) := by decide +kernel
theorem dX9_isText_31 : decode cX9_isText 31 = .ok (.iastore, 1) := by decide +kernel
theorem dX9_isText_32 : decode cX9_isText 32 = .ok (.iinc 3 1, 3) := by decide +kernel
theorem dX9_isText_35 : decode cX9_isText 35 = .ok (.goto (-28), 3) := by decide +kernel
theorem dX9_isText_38 : decode cX9_isText 38 = .ok (.aload_n 0, 1) := by decide +kernel
theorem dX9_isText_39 : decode cX9_isText 39 = .ok (.getfield 22, 3) := by decide +kernel
theorem dX9_isText_42 : decode cX9_isText 42 = .ok (.iload_n 1, 1) := by decide +kernel
theorem dX9_isText_43 : decode cX9_isText 43 = .ok (.iconst 1, 1) := by decide +kernel
theorem dX9_isText_44 : decode cX9_isText 44 = .ok (.isub, 1) := by decide +kernel
theorem dX9_isText_45 : decode cX9_isText 45 = .ok (.iaload, 1) := by decide +kernel
theorem dX9_isText_46 : decode cX9_isText 46 = .ok (.invokestatic 80, 3) := by decide +kernel
theorem dX9_isText_49 : decode cX9_isText 49 = .ok (.ireturn, 1) := by decide +kernel
theorem dX9_find_0 : decode cX9_find 0 = .ok (.iload_n 1, 1) := by decide +kernel
theorem dX9_find_1 : decode cX9_find 1 = .ok (.i2l, 1) := by decide +kernel
theorem dX9_find_2 : decode cX9_find 2 = .ok (.lconst 1, 1) := by decide +kernel
theorem dX9_find_3 : decode cX9_find 3 = .ok (.ldc2_w 95, 3) := by decide +kernel
theorem dX9_find_6 : decode cX9_find 6 = .ok (.invokestatic 57, 3) := by decide +kernel
theorem dX9_find_9 : decode cX9_find 9 = .ok (.ifCond .eq 52, 3) := by decide +kernel
theorem dX9_find_12 : decode cX9_find 12 = .ok (.iload_n 2, 1) := by decide +kernel
theorem dX9_find_13 : decode cX9_find 13 = .ok (.i2l, 1) := by decide +kernel
theorem dX9_find_14 : decode cX9_find 14 = .ok (.lconst 1, 1) := by decide +kernel
theorem dX9_find_15 : decode cX9_find 15 = .ok (.iconst 2, 1) := by decide +kernel
theorem dX9_find_16 : decode cX9_find 16 = .ok (.iload_n 1, 1) := by decide +kernel
theorem dX9_find_17 : decode cX9_find 17 = .ok (.ishl, 1) := by decide +kernel
theorem dX9_find_18 : decode cX9_find 18 = .ok (.i2l, 1) := by decide +kernel
theorem dX9_find_19 : decode cX9_find 19 = .ok (.invokestatic 57, 3) := by decide +kernel
theorem dX9_find_22 : decode cX9_find 22 = .ok (.ifCond .eq 39, 3) := by decide +kernel
theorem dX9_find_25 : decode cX9_find 25 = .ok (.iload_n 3, 1) := by decide +kernel
theorem dX9_find_26 : decode cX9_find 26 = .ok (.i2l, 1) := by decide +kernel
theorem dX9_find_27 : decode cX9_find 27 = .ok (.lconst 0, 1) := by decide +kernel
theorem dX9_find_28 : decode cX9_find 28 = .ok (.lconst 1, 1) := by decide +kernel
theorem dX9_find_29 : decode cX9_find 29 = .ok (.invokestatic 57, 3) := by decide +kernel
theorem dX9_find_32 : decode cX9_find 32 = .ok (.ifCond .eq 29, 3) := by decide +kernel
theorem dX9_find_35 : decode cX9_find 35 = .ok (.iload 4, 2) := by decide +kernel
theorem dX9_find_37 : decode cX9_find 37 = .ok (.i2l, 1) := by decide +kernel
theorem dX9_find_38 : decode cX9_find 38 = .ok (.lconst 0, 1) := by decide +kernel
theorem dX9_find_39 : decode cX9_find 39 = .ok (.ldc2_w 169, 3) := by decide +kernel
theorem dX9_find_42 : decode cX9_find 42 = .ok (.invokestatic 57, 3) := by decide +kernel
theorem dX9_find_45 : decode cX9_find 45 = .ok (.ifCond .eq 16, 3) := by decide +kernel
theorem dX9_find_48 : decode cX9_find 48 = .ok (.iload 5, 2) := by decide +kernel
theorem dX9_find_50 : decode cX9_find 50 = .ok (.i2l, 1) := by decide +kernel
theorem dX9_find_51 : decode cX9_find 51 = .ok (.lconst 0, 1) := by decide +kernel
theorem dX9_find_52 : decode cX9_find 52 = .ok (.ldc2_w 169, 3) := by decide +kernel
theorem dX9_find_55 : decode cX9_find 55 = .ok (.invokestatic 57, 3) := by decide +kernel
theorem dX9_find_58 : decode cX9_find 58 = .ok (.ifCond .ne 5, 3) := by decide +kernel
theorem dX9_find_61 : decode cX9_find 61 = .ok (.iconst (-1), 1) := by decide +kernel
theorem dX9_find_62 : decode cX9_find 62 = .ok (.ireturn, 1) := by decide +kernel
theorem dX9_find_63 : decode cX9_find 63 = .ok (.iconst 0, 1) := by decide +kernel
theorem dX9_find_64 : decode cX9_find 64 = .ok (.istore 6, 2) := by decide +kernel
theorem dX9_find_66 : decode cX9_find 66 = .ok (.iload 6, 2) := by decide +kernel
theorem dX9_find_68 : decode cX9_find 68 = .ok (.iconst 1, 1) := by decide +kernel
theorem dX9_find_69 : decode cX9_find 69 = .ok (.iconst 2, 1) := by decide +kernel
theorem dX9_find_70 : decode cX9_find 70 = .ok (.iload_n 1, 1) := by decide +kernel
theorem dX9_find_71 : decode cX9_find 71 = .ok (.imul, 1) := by decide +kernel
theorem dX9_find_72 : decode cX9_find 72 = .ok (.ishl, 1) := by decide +kernel
theorem dX9_find_73 : decode cX9_find 73 = .ok (.if_icmp .ge 83, 3) := by decide +kernel
theorem dX9_find_76 : decode cX9_find 76 = .ok (.aload_n 0, 1) := by decide +kernel
theorem dX9_find_77 : decode cX9_find 77 = .ok (.iload_n 1, 1) := by decide +kernel
theorem dX9_find_78 : decode cX9_find 78 = .ok (.iload 6, 2) := by decide +kernel
theorem dX9_find_80 : decode cX9_find 80 = .ok (.invokevirtual 171, 3) := by decide +kernel
theorem dX9_find_83 : decode cX9_find 83 = .ok (.ifCond .eq 67, 3) := by decide +kernel
theorem dX9_find_86 : decode cX9_find 86 = .ok (.aload_n 0, 1) := by decide +kernel
theorem dX9_find_87 : decode cX9_find 87 = .ok (.invokevirtual 130, 3) := by decide +kernel
theorem dX9_find_90 : decode cX9_find 90 = .ok (.iload_n 2, 1) := by decide +kernel
theorem dX9_find_91 : decode cX9_find 91 = .ok (.iconst 1, 1) := by decide +kernel
theorem dX9_find_92 : decode cX9_find 92 = .ok (.isub, 1) := by decide +kernel
theorem dX9_find_93 : decode cX9_find 93 = .ok (.istore 7, 2) := by decide +kernel
theorem dX9_find_95 : decode cX9_find 95 = .ok (.iload 4, 2) := by decide +kernel
theorem dX9_find_97 : decode cX9_find 97 = .ok (.aload_n 0, 1) := by decide +kernel
theorem dX9_find_98 : decode cX9_find 98 = .ok (.getfield 139, 3) := by decide +kernel
theorem dX9_find_101 : decode cX9_find 101 = .ok (.if_icmp .ge 38, 3) := by decide +kernel
theorem dX9_find_104 : decode cX9_find 104 = .ok (.aload_n 0, 1) := by decide +kernel
theorem dX9_find_105 : decode cX9_find 105 = .ok (.getfield 31, 3) := by decide +kernel
theorem dX9_find_108 : decode cX9_find 108 = .ok (.iload 7, 2) := by decide +kernel
theorem dX9_find_110 : decode cX9_find 110 = .ok (.iaload, 1) := by decide +kernel
theorem dX9_find_111 : decode cX9_find 111 = .ok (.iload 5, 2) := by decide +kernel
theorem dX9_find_113 : decode cX9_find 113 = .ok (.aload_n 0, 1) := by decide +kernel
theorem dX9_find_114 : decode cX9_find 114 = .ok (.getfield 139, 3) := by decide +kernel
theorem dX9_find_117 : decode cX9_find 117 = .ok (.imul, 1) := by decide +kernel
theorem dX9_find_118 : decode cX9_find 118 = .ok (.iload 4, 2) := by decide +kernel
theorem dX9_find_120 : decode cX9_find 120 = .ok (.iadd, 1) := by decide +kernel
theorem dX9_find_121 : decode cX9_find 121 = .ok (.if_icmp .ne 18, 3) := by decide +kernel
theorem dX9_find_124 : decode cX9_find 124 = .ok (.aload_n 0, 1) := by decide +kernel
theorem dX9_find_125 : decode cX9_find 125 = .ok (.getfield 34, 3) := by decide +kernel
theorem dX9_find_128 : decode cX9_find 128 = .ok (.iload 7, 2) := by decide +kernel
theorem dX9_find_130 : decode cX9_find 130 = .ok (.iaload, 1) := by decide +kernel
theorem dX9_find_131 : decode cX9_find 131 = .ok (.iload_n 3, 1) := by decide +kernel
theorem dX9_find_132 : decode cX9_find 132 = .ok (.if_icmp .ne 7, 3) := by decide +kernel
theorem dX9_find_135 : decode cX9_find 135 = .ok (.iconst 1, 1) := by decide +kernel
theorem dX9_find_136 : decode cX9_find 136 = .ok (.goto 4, 3) := by decide +kernel
theorem dX9_find_139 : decode cX9_find 139 = .ok (.iconst 0, 1) := by decide +kernel
theorem dX9_find_140 : decode cX9_find 140 = .ok (.istore 8, 2) := by decide +kernel
theorem dX9_find_142 : decode cX9_find 142 = .ok (.iload 8, 2) := by decide +kernel
theorem dX9_find_144 : decode cX9_find 144 = .ok (.ifCond .eq 6, 3) := by decide +kernel
theorem dX9_find_147 : decode cX9_find 147 = .ok (.iload 6, 2) := by decide +kernel
theorem dX9_find_149 : decode cX9_find 149 = .ok (.ireturn, 1) := by decide +kernel
theorem dX9_find_150 : decode cX9_find 150 = .ok (.iinc 6 1, 3) := by decide +kernel
theorem dX9_find_153 : decode cX9_find 153 = .ok (.goto (-87), 3) := by decide +kernel
theorem dX9_find_156 : decode cX9_find 156 = .ok (.bipush (-4), 2) := by decide +kernel
theorem dX9_find_158 : decode cX9_find 158 = .ok (.ireturn, 1) := by decide +kernel
theorem dX9_knows_0 : decode cX9_knows 0 = .ok (.aload_n 0, 1) := by decide +kernel
theorem dX9_knows_1 : decode cX9_knows 1 = .ok (.getfield 40, 3) := by decide +kernel
theorem dX9_knows_4 : decode cX9_knows 4 = .ok (.bipush 32, 2) := by decide +kernel
theorem dX9_knows_6 : decode cX9_knows 6 = .ok (.aload_n 0, 1) := by decide +kernel
theorem dX9_knows_7 : decode cX9_knows 7 = .ok (.getfield 139, 3) := by decide +kernel
theorem dX9_knows_10 : decode cX9_knows 10 = .ok (.iastore, 1) := by decide +kernel
theorem dX9_knows_11 : decode cX9_knows 11 = .ok (.iconst 0, 1) := by decide +kernel
theorem dX9_knows_12 : decode cX9_knows 12 = .ok (.istore_n 2, 1) := by decide +kernel
theorem dX9_knows_13 : decode cX9_knows 13 = .ok (.iload_n 2, 1) := by decide +kernel
theorem dX9_knows_14 : decode cX9_knows 14 = .ok (.iconst 2, 1) := by decide +kernel
theorem dX9_knows_15 : decode cX9_knows 15 = .ok (.iload_n 1, 1) := by decide +kernel
theorem dX9_knows_16 : decode cX9_knows 16 = .ok (.ishl, 1) := by decide +kernel
theorem dX9_knows_17 : decode cX9_knows 17 = .ok (.if_icmp .ge 41, 3) := by decide +kernel
theorem dX9_knows_20 : decode cX9_knows 20 = .ok (.aload_n 0, 1) := by decide +kernel
theorem dX9_knows_21 : decode cX9_knows 21 = .ok (.getfield 40, 3) := by decide +kernel
theorem dX9_knows_24 : decode cX9_knows 24 = .ok (.iload_n 2, 1) := by decide +kernel
theorem dX9_knows_25 : decode cX9_knows 25 = .ok (.bipush 64, 2) := by decide +kernel
theorem dX9_knows_27 : decode cX9_knows 27 = .ok (.aload_n 0, 1) := by decide +kernel
theorem dX9_knows_28 : decode cX9_knows 28 = .ok (.getfield 37, 3) := by decide +kernel
theorem dX9_knows_31 : decode cX9_knows 31 = .ok (.iload_n 2, 1) := by decide +kernel
theorem dX9_knows_32 : decode cX9_knows 32 = .ok (.iaload, 1) := by decide +kernel
theorem dX9_knows_33 : decode cX9_knows 33 = .ok (.imul, 1) := by decide +kernel
theorem dX9_knows_34 : decode cX9_knows 34 = .ok (.bipush 32, 2) := by decide +kernel
theorem dX9_knows_36 : decode cX9_knows 36 = .ok (.aload_n 0, 1) := by decide +kernel
theorem dX9_knows_37 : decode cX9_knows 37 = .ok (.getfield 34, 3) := by decide +kernel
theorem dX9_knows_40 : decode cX9_knows 40 = .ok (.iload_n 2, 1) := by decide +kernel
theorem dX9_knows_41 : decode cX9_knows 41 = .ok (.iaload, 1) := by decide +kernel
theorem dX9_knows_42 : decode cX9_knows 42 = .ok (.imul, 1) := by decide +kernel
theorem dX9_knows_43 : decode cX9_knows 43 = .ok (.iadd, 1) := by decide +kernel
theorem dX9_knows_44 : decode cX9_knows 44 = .ok (.aload_n 0, 1) := by decide +kernel
theorem dX9_knows_45 : decode cX9_knows 45 = .ok (.getfield 31, 3) := by decide +kernel
theorem dX9_knows_48 : decode cX9_knows 48 = .ok (.iload_n 2, 1) := by decide +kernel
theorem dX9_knows_49 : decode cX9_knows 49 = .ok (.iaload, 1) := by decide +kernel
theorem dX9_knows_50 : decode cX9_knows 50 = .ok (.iadd, 1) := by decide +kernel
theorem dX9_knows_51 : decode cX9_knows 51 = .ok (.iastore, 1) := by decide +kernel
theorem dX9_knows_52 : decode cX9_knows 52 = .ok (.iinc 2 1, 3) := by decide +kernel
theorem dX9_knows_55 : decode cX9_knows 55 = .ok (.goto (-42), 3) := by decide +kernel
theorem dX9_knows_58 : decode cX9_knows 58 = .ok (.return_, 1) := by decide +kernel
theorem dX9_isKnown_0 : decode cX9_isKnown 0 = .ok (.aload_n 0, 1) := by decide +kernel
theorem dX9_isKnown_1 : decode cX9_isKnown 1 = .ok (.getfield 40, 3) := by decide +kernel
theorem dX9_isKnown_4 : decode cX9_isKnown 4 = .ok (.bipush 32, 2) := by decide +kernel
theorem dX9_isKnown_6 : decode cX9_isKnown 6 = .ok (.iaload, 1) := by decide +kernel
theorem dX9_isKnown_7 : decode cX9_isKnown 7 = .ok (.aload_n 0, 1) := by decide +kernel
theorem dX9_isKnown_8 : decode cX9_isKnown 8 = .ok (.getfield 139, 3) := by decide +kernel
theorem dX9_isKnown_11 : decode cX9_isKnown 11 = .ok (.if_icmp .ne 7, 3) := by decide +kernel
theorem dX9_isKnown_14 : decode cX9_isKnown 14 = .ok (.iconst 1, 1) := by decide +kernel
theorem dX9_isKnown_15 : decode cX9_isKnown 15 = .ok (.goto 4, 3) := by decide +kernel
theorem dX9_isKnown_18 : decode cX9_isKnown 18 = .ok (.iconst 0, 1) := by decide +kernel
theorem dX9_isKnown_19 : decode cX9_isKnown 19 = .ok (.istore_n 2, 1) := by decide +kernel
theorem dX9_isKnown_20 : decode cX9_isKnown 20 = .ok (.iconst 0, 1) := by decide +kernel
theorem dX9_isKnown_21 : decode cX9_isKnown 21 = .ok (.istore_n 3, 1) := by decide +kernel
theorem dX9_isKnown_22 : decode cX9_isKnown 22 = .ok (.iload_n 3, 1) := by decide +kernel
theorem dX9_isKnown_23 : decode cX9_isKnown 23 = .ok (.iconst 2, 1) := by decide +kernel
theorem dX9_isKnown_24 : decode cX9_isKnown 24 = .ok (.iload_n 1, 1) := by decide +kernel
theorem dX9_isKnown_25 : decode cX9_isKnown 25 = .ok (.ishl, 1) := by decide +kernel
theorem dX9_isKnown_26 : decode cX9_isKnown 26 = .ok (.if_icmp .ge 54, 3) := by decide +kernel
theorem dX9_isKnown_29 : decode cX9_isKnown 29 = .ok (.iload_n 2, 1) := by decide +kernel
theorem dX9_isKnown_30 : decode cX9_isKnown 30 = .ok (.ifCond .eq 42, 3) := by decide +kernel
theorem dX9_isKnown_33 : decode cX9_isKnown 33 = .ok (.aload_n 0, 1) := by decide +kernel
theorem dX9_isKnown_34 : decode cX9_isKnown 34 = .ok (.getfield 40, 3) := by decide +kernel
theorem dX9_isKnown_37 : decode cX9_isKnown 37 = .ok (.iload_n 3, 1) := by decide +kernel
theorem dX9_isKnown_38 : decode cX9_isKnown 38 = .ok (.iaload, 1) := by decide +kernel
theorem dX9_isKnown_39 : decode cX9_isKnown 39 = .ok (.bipush 64, 2) := by decide +kernel
theorem dX9_isKnown_41 : decode cX9_isKnown 41 = .ok (.aload_n 0, 1) := by decide +kernel
theorem dX9_isKnown_42 : decode cX9_isKnown 42 = .ok (.getfield 37, 3) := by decide +kernel
theorem dX9_isKnown_45 : decode cX9_isKnown 45 = .ok (.iload_n 3, 1) := by decide +kernel
theorem dX9_isKnown_46 : decode cX9_isKnown 46 = .ok (.iaload, 1) := by decide +kernel
theorem dX9_isKnown_47 : decode cX9_isKnown 47 = .ok (.imul, 1) := by decide +kernel
theorem dX9_isKnown_48 : decode cX9_isKnown 48 = .ok (.bipush 32, 2) := by decide +kernel
theorem dX9_isKnown_50 : decode cX9_isKnown 50 = .ok (.aload_n 0, 1) := by decide +kernel
theorem dX9_isKnown_51 : decode cX9_isKnown 51 = .ok (.getfield 34, 3) := by decide +kernel
theorem dX9_isKnown_54 : decode cX9_isKnown 54 = .ok (.iload_n 3, 1) := by decide +kernel
theorem dX9_isKnown_55 : decode cX9_isKnown 55 = .ok (.iaload, 1) := by decide +kernel
theorem dX9_isKnown_56 : decode cX9_isKnown 56 = .ok (.imul, 1) := by decide +kernel
theorem dX9_isKnown_57 : decode cX9_isKnown 57 = .ok (.iadd, 1) := by decide +kernel
theorem dX9_isKnown_58 : decode cX9_isKnown 58 = .ok (.aload_n 0, 1) := by decide +kernel
theorem dX9_isKnown_59 : decode cX9_isKnown 59 = .ok (.getfield 31, 3) := by decide +kernel
theorem dX9_isKnown_62 : decode cX9_isKnown 62 = .ok (.iload_n 3, 1) := by decide +kernel
theorem dX9_isKnown_63 : decode cX9_isKnown 63 = .ok (.iaload, 1) := by decide +kernel
theorem dX9_isKnown_64 : decode cX9_isKnown 64 = .ok (.iadd, 1) := by decide +kernel
theorem dX9_isKnown_65 : decode cX9_isKnown 65 = .ok (.if_icmp .ne 7, 3) := by decide +kernel
theorem dX9_isKnown_68 : decode cX9_isKnown 68 = .ok (.iconst 1, 1) := by decide +kernel
theorem dX9_isKnown_69 : decode cX9_isKnown 69 = .ok (.goto 4, 3) := by decide +kernel
theorem dX9_isKnown_72 : decode cX9_isKnown 72 = .ok (.iconst 0, 1) := by decide +kernel
theorem dX9_isKnown_73 : decode cX9_isKnown 73 = .ok (.istore_n 2, 1) := by decide +kernel
theorem dX9_isKnown_74 : decode cX9_isKnown 74 = .ok (.iinc 3 1, 3) := by decide +kernel
theorem dX9_isKnown_77 : decode cX9_isKnown 77 = .ok (.goto (-55), 3) := by decide +kernel
theorem dX9_isKnown_80 : decode cX9_isKnown 80 = .ok (.iload_n 2, 1) := by decide +kernel
theorem dX9_isKnown_81 : decode cX9_isKnown 81 = .ok (.ireturn, 1) := by decide +kernel
theorem dX9_alike_0 : decode cX9_alike 0 = .ok (.aload_n 0, 1) := by decide +kernel
theorem dX9_alike_1 : decode cX9_alike 1 = .ok (.iload_n 1, 1) := by decide +kernel
theorem dX9_alike_2 : decode cX9_alike 2 = .ok (.invokevirtual 122, 3) := by decide +kernel
theorem dX9_alike_5 : decode cX9_alike 5 = .ok (.ifCond .ne 5, 3) := by decide +kernel
theorem dX9_alike_8 : decode cX9_alike 8 = .ok (.iconst (-1), 1) := by decide +kernel
theorem dX9_alike_9 : decode cX9_alike 9 = .ok (.ireturn, 1) := by decide +kernel
theorem dX9_alike_10 : decode cX9_alike 10 = .ok (.aload_n 0, 1) := by decide +kernel
theorem dX9_alike_11 : decode cX9_alike 11 = .ok (.iload_n 1, 1) := by decide +kernel
theorem dX9_alike_12 : decode cX9_alike 12 = .ok (.invokevirtual 160, 3) := by decide +kernel
theorem dX9_alike_15 : decode cX9_alike 15 = .ok (.aload_n 0, 1) := by decide +kernel
theorem dX9_alike_16 : decode cX9_alike 16 = .ok (.getfield 127, 3) := by decide +kernel
theorem dX9_alike_19 : decode cX9_alike 19 = .ok (.istore_n 2, 1) := by decide +kernel
theorem dX9_alike_20 : decode cX9_alike 20 = .ok (.aload_n 0, 1) := by decide +kernel
theorem dX9_alike_21 : decode cX9_alike 21 = .ok (.iload_n 2, 1) := by decide +kernel
theorem dX9_alike_22 : decode cX9_alike 22 = .ok (.invokevirtual 175, 3) := by decide +kernel
theorem dX9_alike_25 : decode cX9_alike 25 = .ok (.iconst 0, 1) := by decide +kernel
theorem dX9_alike_26 : decode cX9_alike 26 = .ok (.istore_n 3, 1) := by decide +kernel
theorem dX9_alike_27 : decode cX9_alike 27 = .ok (.iconst 0, 1) := by decide +kernel
theorem dX9_alike_28 : decode cX9_alike 28 = .ok (.istore 4, 2) := by decide +kernel
theorem dX9_alike_30 : decode cX9_alike 30 = .ok (.iload 4, 2) := by decide +kernel
theorem dX9_alike_32 : decode cX9_alike 32 = .ok (.iconst 1, 1) := by decide +kernel
theorem dX9_alike_33 : decode cX9_alike 33 = .ok (.iconst 2, 1) := by decide +kernel
theorem dX9_alike_34 : decode cX9_alike 34 = .ok (.iload_n 2, 1) := by decide +kernel
theorem dX9_alike_35 : decode cX9_alike 35 = .ok (.imul, 1) := by decide +kernel
theorem dX9_alike_36 : decode cX9_alike 36 = .ok (.ishl, 1) := by decide +kernel
theorem dX9_alike_37 : decode cX9_alike 37 = .ok (.if_icmp .ge 39, 3) := by decide +kernel
theorem dX9_alike_40 : decode cX9_alike 40 = .ok (.aload_n 0, 1) := by decide +kernel
theorem dX9_alike_41 : decode cX9_alike 41 = .ok (.iload_n 2, 1) := by decide +kernel
theorem dX9_alike_42 : decode cX9_alike 42 = .ok (.iload 4, 2) := by decide +kernel
theorem dX9_alike_44 : decode cX9_alike 44 = .ok (.invokevirtual 171, 3) := by decide +kernel
theorem dX9_alike_47 : decode cX9_alike 47 = .ok (.ifCond .eq 23, 3) := by decide +kernel
theorem dX9_alike_50 : decode cX9_alike 50 = .ok (.aload_n 0, 1) := by decide +kernel
theorem dX9_alike_51 : decode cX9_alike 51 = .ok (.invokevirtual 130, 3) := by decide +kernel
theorem dX9_alike_54 : decode cX9_alike 54 = .ok (.iload_n 3, 1) := by decide +kernel
theorem dX9_alike_55 : decode cX9_alike 55 = .ok (.aload_n 0, 1) := by decide +kernel
theorem dX9_alike_56 : decode cX9_alike 56 = .ok (.iload_n 2, 1) := by decide +kernel
theorem dX9_alike_57 : decode cX9_alike 57 = .ok (.invokevirtual 178, 3) := by decide +kernel
theorem dX9_alike_60 : decode cX9_alike 60 = .ok (.ifCond .eq 7, 3) := by decide +kernel
theorem dX9_alike_63 : decode cX9_alike 63 = .ok (.iconst 1, 1) := by decide +kernel
theorem dX9_alike_64 : decode cX9_alike 64 = .ok (.goto 4, 3) := by decide +kernel
theorem dX9_alike_67 : decode cX9_alike 67 = .ok (.iconst 0, 1) := by decide +kernel
theorem dX9_alike_68 : decode cX9_alike 68 = .ok (.iadd, 1) := by decide +kernel
theorem dX9_alike_69 : decode cX9_alike 69 = .ok (.istore_n 3, 1) := by decide +kernel
theorem dX9_alike_70 : decode cX9_alike 70 = .ok (.iinc 4 1, 3) := by decide +kernel
theorem dX9_alike_73 : decode cX9_alike 73 = .ok (.goto (-43), 3) := by decide +kernel
theorem dX9_alike_76 : decode cX9_alike 76 = .ok (.iload_n 3, 1) := by decide +kernel
theorem dX9_alike_77 : decode cX9_alike 77 = .ok (.ireturn, 1) := by decide +kernel
theorem dX9_unlike_0 : decode cX9_unlike 0 = .ok (.iload_n 1, 1) := by decide +kernel
theorem dX9_unlike_1 : decode cX9_unlike 1 = .ok (.i2l, 1) := by decide +kernel
theorem dX9_unlike_2 : decode cX9_unlike 2 = .ok (.lconst 1, 1) := by decide +kernel
theorem dX9_unlike_3 : decode cX9_unlike 3 = .ok (.ldc2_w 95, 3) := by decide +kernel
theorem dX9_unlike_6 : decode cX9_unlike 6 = .ok (.invokestatic 57, 3) := by decide +kernel
theorem dX9_unlike_9 : decode cX9_unlike 9 = .ok (.ifCond .ne 5, 3) := by decide +kernel
theorem dX9_unlike_12 : decode cX9_unlike 12 = .ok (.iconst (-1), 1) := by decide +kernel
theorem dX9_unlike_13 : decode cX9_unlike 13 = .ok (.ireturn, 1) := by decide +kernel
theorem dX9_unlike_14 : decode cX9_unlike 14 = .ok (.iconst 0, 1) := by decide +kernel
theorem dX9_unlike_15 : decode cX9_unlike 15 = .ok (.istore_n 2, 1) := by decide +kernel
theorem dX9_unlike_16 : decode cX9_unlike 16 = .ok (.iconst 0, 1) := by decide +kernel
theorem dX9_unlike_17 : decode cX9_unlike 17 = .ok (.istore_n 3, 1) := by decide +kernel
theorem dX9_unlike_18 : decode cX9_unlike 18 = .ok (.iload_n 3, 1) := by decide +kernel
theorem dX9_unlike_19 : decode cX9_unlike 19 = .ok (.iconst 1, 1) := by decide +kernel
theorem dX9_unlike_20 : decode cX9_unlike 20 = .ok (.iconst 2, 1) := by decide +kernel
theorem dX9_unlike_21 : decode cX9_unlike 21 = .ok (.iload_n 1, 1) := by decide +kernel
theorem dX9_unlike_22 : decode cX9_unlike 22 = .ok (.imul, 1) := by decide +kernel
theorem dX9_unlike_23 : decode cX9_unlike 23 = .ok (.ishl, 1) := by decide +kernel
theorem dX9_unlike_24 : decode cX9_unlike 24 = .ok (.if_icmp .ge 92, 3) := by decide +kernel
theorem dX9_unlike_27 : decode cX9_unlike 27 = .ok (.aload_n 0, 1) := by decide +kernel
theorem dX9_unlike_28 : decode cX9_unlike 28 = .ok (.iload_n 1, 1) := by decide +kernel
theorem dX9_unlike_29 : decode cX9_unlike 29 = .ok (.iload_n 3, 1) := by decide +kernel
theorem dX9_unlike_30 : decode cX9_unlike 30 = .ok (.invokevirtual 171, 3) := by decide +kernel
theorem dX9_unlike_33 : decode cX9_unlike 33 = .ok (.ifCond .eq 77, 3) := by decide +kernel
theorem dX9_unlike_36 : decode cX9_unlike 36 = .ok (.aload_n 0, 1) := by decide +kernel
theorem dX9_unlike_37 : decode cX9_unlike 37 = .ok (.invokevirtual 130, 3) := by decide +kernel
theorem dX9_unlike_40 : decode cX9_unlike 40 = .ok (.aload_n 0, 1) := by decide +kernel
theorem dX9_unlike_41 : decode cX9_unlike 41 = .ok (.iload_n 1, 1) := by decide +kernel
theorem dX9_unlike_42 : decode cX9_unlike 42 = .ok (.invokevirtual 175, 3) := by decide +kernel
theorem dX9_unlike_45 : decode cX9_unlike 45 = .ok (.iconst 1, 1) := by decide +kernel
theorem dX9_unlike_46 : decode cX9_unlike 46 = .ok (.istore 4, 2) := by decide +kernel
theorem dX9_unlike_48 : decode cX9_unlike 48 = .ok (.iconst 0, 1) := by decide +kernel
theorem dX9_unlike_49 : decode cX9_unlike 49 = .ok (.istore 5, 2) := by decide +kernel
theorem dX9_unlike_51 : decode cX9_unlike 51 = .ok (.iload 5, 2) := by decide +kernel
theorem dX9_unlike_53 : decode cX9_unlike 53 = .ok (.iload_n 3, 1) := by decide +kernel
theorem dX9_unlike_54 : decode cX9_unlike 54 = .ok (.if_icmp .ge 43, 3) := by decide +kernel
theorem dX9_unlike_57 : decode cX9_unlike 57 = .ok (.iload 4, 2) := by decide +kernel
theorem dX9_unlike_59 : decode cX9_unlike 59 = .ok (.ifCond .eq 38, 3) := by decide +kernel
theorem dX9_unlike_62 : decode cX9_unlike 62 = .ok (.aload_n 0, 1) := by decide +kernel
theorem dX9_unlike_63 : decode cX9_unlike 63 = .ok (.iload_n 1, 1) := by decide +kernel
theorem dX9_unlike_64 : decode cX9_unlike 64 = .ok (.iload 5, 2) := by decide +kernel
theorem dX9_unlike_66 : decode cX9_unlike 66 = .ok (.invokevirtual 171, 3) := by decide +kernel
theorem dX9_unlike_69 : decode cX9_unlike 69 = .ok (.ifCond .eq 22, 3) := by decide +kernel
theorem dX9_unlike_72 : decode cX9_unlike 72 = .ok (.aload_n 0, 1) := by decide +kernel
theorem dX9_unlike_73 : decode cX9_unlike 73 = .ok (.invokevirtual 130, 3) := by decide +kernel
theorem dX9_unlike_76 : decode cX9_unlike 76 = .ok (.aload_n 0, 1) := by decide +kernel
theorem dX9_unlike_77 : decode cX9_unlike 77 = .ok (.iload_n 1, 1) := by decide +kernel
theorem dX9_unlike_78 : decode cX9_unlike 78 = .ok (.invokevirtual 178, 3) := by decide +kernel
theorem dX9_unlike_81 : decode cX9_unlike 81 = .ok (.ifCond .ne 7, 3) := by decide +kernel
theorem dX9_unlike_84 : decode cX9_unlike 84 = .ok (.iconst 1, 1) := by decide +kernel
theorem dX9_unlike_85 : decode cX9_unlike 85 = .ok (.goto 4, 3) := by decide +kernel
theorem dX9_unlike_88 : decode cX9_unlike 88 = .ok (.iconst 0, 1) := by decide +kernel
theorem dX9_unlike_89 : decode cX9_unlike 89 = .ok (.istore 4, 2) := by decide +kernel
theorem dX9_unlike_91 : decode cX9_unlike 91 = .ok (.iinc 5 1, 3) := by decide +kernel
theorem dX9_unlike_94 : decode cX9_unlike 94 = .ok (.goto (-43), 3) := by decide +kernel
theorem dX9_unlike_97 : decode cX9_unlike 97 = .ok (.iload_n 2, 1) := by decide +kernel
theorem dX9_unlike_98 : decode cX9_unlike 98 = .ok (.iload 4, 2) := by decide +kernel
theorem dX9_unlike_100 : decode cX9_unlike 100 = .ok (.ifCond .eq 7, 3) := by decide +kernel
theorem dX9_unlike_103 : decode cX9_unlike 103 = .ok (.iconst 1, 1) := by decide +kernel
theorem dX9_unlike_104 : decode cX9_unlike 104 = .ok (.goto 4, 3) := by decide +kernel
theorem dX9_unlike_107 : decode cX9_unlike 107 = .ok (.iconst 0, 1) := by decide +kernel
theorem dX9_unlike_108 : decode cX9_unlike 108 = .ok (.iadd, 1) := by decide +kernel
theorem dX9_unlike_109 : decode cX9_unlike 109 = .ok (.istore_n 2, 1) := by decide +kernel
theorem dX9_unlike_110 : decode cX9_unlike 110 = .ok (.iinc 3 1, 3) := by decide +kernel
theorem dX9_unlike_113 : decode cX9_unlike 113 = .ok (.goto (-95), 3) := by decide +kernel
theorem dX9_unlike_116 : decode cX9_unlike 116 = .ok (.iload_n 2, 1) := by decide +kernel
theorem dX9_unlike_117 : decode cX9_unlike 117 = .ok (.ireturn, 1) := by decide +kernel
theorem dX9_at_0 : decode cX9_at 0 = .ok (.sipush 440, 3) := by decide +kernel
theorem dX9_at_3 : decode cX9_at 3 = .ok (.iload_n 0, 1) := by decide +kernel
theorem dX9_at_4 : decode cX9_at 4 = .ok (.imul, 1) := by decide +kernel
theorem dX9_at_5 : decode cX9_at 5 = .ok (.iload_n 1, 1) := by decide +kernel
theorem dX9_at_6 : decode cX9_at 6 = .ok (.iadd, 1) := by decide +kernel
theorem dX9_at_7 : decode cX9_at 7 = .ok (.ireturn, 1) := by decide +kernel
theorem dX9_findPlan_0 : decode cX9_findPlan 0 = .ok (.aload_n 0, 1) := by decide +kernel
theorem dX9_findPlan_1 : decode cX9_findPlan 1 = .ok (.getfield 13, 3) := by decide +kernel
theorem dX9_findPlan_4 : decode cX9_findPlan 4 = .ok (.iconst 3, 1) := by decide +kernel
theorem dX9_findPlan_5 : decode cX9_findPlan 5 = .ok (.iaload, 1) := by decide +kernel
theorem dX9_findPlan_6 : decode cX9_findPlan 6 = .ok (.istore_n 2, 1) := by decide +kernel
theorem dX9_findPlan_7 : decode cX9_findPlan 7 = .ok (.iconst 0, 1) := by decide +kernel
theorem dX9_findPlan_8 : decode cX9_findPlan 8 = .ok (.istore_n 3, 1) := by decide +kernel
theorem dX9_findPlan_9 : decode cX9_findPlan 9 = .ok (.iload_n 3, 1) := by decide +kernel
theorem dX9_findPlan_10 : decode cX9_findPlan 10 = .ok (.sipush 440, 3) := by decide +kernel
theorem dX9_findPlan_13 : decode cX9_findPlan 13 = .ok (.if_icmp .ge 29, 3) := by decide +kernel
theorem dX9_findPlan_16 : decode cX9_findPlan 16 = .ok (.aload_n 0, 1) := by decide +kernel
theorem dX9_findPlan_17 : decode cX9_findPlan 17 = .ok (.getfield 43, 3) := by decide +kernel
theorem dX9_findPlan_20 : decode cX9_findPlan 20 = .ok (.iload_n 2, 1) := by decide +kernel
theorem dX9_findPlan_21 : decode cX9_findPlan 21 = .ok (.iload_n 3, 1) := by decide +kernel
theorem dX9_findPlan_22 : decode cX9_findPlan 22 = .ok (.invokestatic 181, 3) := by decide +kernel
theorem dX9_findPlan_25 : decode cX9_findPlan 25 = .ok (.iload_n 3, 1) := by decide +kernel
theorem dX9_findPlan_26 : decode cX9_findPlan 26 = .ok (.ifCond .ne 7, 3) := by decide +kernel
theorem dX9_findPlan_29 : decode cX9_findPlan 29 = .ok (.iconst 0, 1) := by decide +kernel
theorem dX9_findPlan_30 : decode cX9_findPlan 30 = .ok (.goto 5, 3) := by decide +kernel
theorem dX9_findPlan_33 : decode cX9_findPlan 33 = .ok (.ldc 184, 2) := by decide +kernel
theorem dX9_findPlan_35 : decode cX9_findPlan 35 = .ok (.iastore, 1) := by decide +kernel
theorem dX9_findPlan_36 : decode cX9_findPlan 36 = .ok (.iinc 3 1, 3) := by decide +kernel
theorem dX9_findPlan_39 : decode cX9_findPlan 39 = .ok (.goto (-30), 3) := by decide +kernel
theorem dX9_findPlan_42 : decode cX9_findPlan 42 = .ok (.iload_n 2, 1) := by decide +kernel
theorem dX9_findPlan_43 : decode cX9_findPlan 43 = .ok (.iconst 1, 1) := by decide +kernel
theorem dX9_findPlan_44 : decode cX9_findPlan 44 = .ok (.isub, 1) := by decide +kernel
theorem dX9_findPlan_45 : decode cX9_findPlan 45 = .ok (.istore_n 3, 1) := by decide +kernel
theorem dX9_findPlan_46 : decode cX9_findPlan 46 = .ok (.iload_n 3, 1) := by decide +kernel
theorem dX9_findPlan_47 : decode cX9_findPlan 47 = .ok (.ifCond .lt 109, 3) := by decide +kernel
theorem dX9_findPlan_50 : decode cX9_findPlan 50 = .ok (.iconst 0, 1) := by decide +kernel
theorem dX9_findPlan_51 : decode cX9_findPlan 51 = .ok (.istore 4, 2) := by decide +kernel
theorem dX9_findPlan_53 : decode cX9_findPlan 53 = .ok (.iload 4, 2) := by decide +kernel
theorem dX9_findPlan_55 : decode cX9_findPlan 55 = .ok (.sipush 440, 3) := by decide +kernel
theorem dX9_findPlan_58 : decode cX9_findPlan 58 = .ok (.if_icmp .ge 92, 3) := by decide +kernel
theorem dX9_findPlan_61 : decode cX9_findPlan 61 = .ok (.iload 4, 2) := by decide +kernel
theorem dX9_findPlan_63 : decode cX9_findPlan 63 = .ok (.aload_n 0, 1) := by decide +kernel
theorem dX9_findPlan_64 : decode cX9_findPlan 64 = .ok (.iload_n 3, 1) := by decide +kernel
theorem dX9_findPlan_65 : decode cX9_findPlan 65 = .ok (.invokevirtual 151, 3) := by decide +kernel
theorem dX9_findPlan_68 : decode cX9_findPlan 68 = .ok (.if_icmp .lt 32, 3) := by decide +kernel
theorem dX9_findPlan_71 : decode cX9_findPlan 71 = .ok (.aload_n 0, 1) := by decide +kernel
theorem dX9_findPlan_72 : decode cX9_findPlan 72 = .ok (.getfield 43, 3) := by decide +kernel
theorem dX9_findPlan_75 : decode cX9_findPlan 75 = .ok (.iload_n 3, 1) := by decide +kernel
theorem dX9_findPlan_76 : decode cX9_findPlan 76 = .ok (.iload 4, 2) := by decide +kernel
theorem dX9_findPlan_78 : decode cX9_findPlan 78 = .ok (.aload_n 0, 1) := by decide +kernel
theorem dX9_findPlan_79 : decode cX9_findPlan 79 = .ok (.iload_n 3, 1) := by decide +kernel
theorem dX9_findPlan_80 : decode cX9_findPlan 80 = .ok (.invokevirtual 151, 3) := by decide +kernel
theorem dX9_findPlan_83 : decode cX9_findPlan 83 = .ok (.isub, 1) := by decide +kernel
theorem dX9_findPlan_84 : decode cX9_findPlan 84 = .ok (.invokestatic 181, 3) := by decide +kernel
theorem dX9_findPlan_87 : decode cX9_findPlan 87 = .ok (.iaload, 1) := by decide +kernel
theorem dX9_findPlan_88 : decode cX9_findPlan 88 = .ok (.aload_n 0, 1) := by decide +kernel
theorem dX9_findPlan_89 : decode cX9_findPlan 89 = .ok (.getfield 13, 3) := by decide +kernel
theorem dX9_findPlan_92 : decode cX9_findPlan 92 = .ok (.iconst 4, 1) := by decide +kernel
theorem dX9_findPlan_93 : decode cX9_findPlan 93 = .ok (.iload_n 3, 1) := by decide +kernel
theorem dX9_findPlan_94 : decode cX9_findPlan 94 = .ok (.iadd, 1) := by decide +kernel
theorem dX9_findPlan_95 : decode cX9_findPlan 95 = .ok (.iaload, 1) := by decide +kernel
theorem dX9_findPlan_96 : decode cX9_findPlan 96 = .ok (.iadd, 1) := by decide +kernel
theorem dX9_findPlan_97 : decode cX9_findPlan 97 = .ok (.goto 5, 3) := by decide +kernel
theorem dX9_findPlan_100 : decode cX9_findPlan 100 = .ok (.ldc 184, 2) := by decide +kernel
theorem dX9_findPlan_102 : decode cX9_findPlan 102 = .ok (.istore 5, 2) := by decide +kernel
theorem dX9_findPlan_104 : decode cX9_findPlan 104 = .ok (.aload_n 0, 1) := by decide +kernel
theorem dX9_findPlan_105 : decode cX9_findPlan 105 = .ok (.getfield 43, 3) := by decide +kernel
theorem dX9_findPlan_108 : decode cX9_findPlan 108 = .ok (.iload_n 3, 1) := by decide +kernel
theorem dX9_findPlan_109 : decode cX9_findPlan 109 = .ok (.iconst 1, 1) := by decide +kernel
theorem dX9_findPlan_110 : decode cX9_findPlan 110 = .ok (.iadd, 1) := by decide +kernel
theorem dX9_findPlan_111 : decode cX9_findPlan 111 = .ok (.iload 4, 2) := by decide +kernel
theorem dX9_findPlan_113 : decode cX9_findPlan 113 = .ok (.invokestatic 181, 3) := by decide +kernel
theorem dX9_findPlan_116 : decode cX9_findPlan 116 = .ok (.iaload, 1) := by decide +kernel
theorem dX9_findPlan_117 : decode cX9_findPlan 117 = .ok (.istore 6, 2) := by decide +kernel
theorem dX9_findPlan_119 : decode cX9_findPlan 119 = .ok (.aload_n 0, 1) := by decide +kernel
theorem dX9_findPlan_120 : decode cX9_findPlan 120 = .ok (.getfield 43, 3) := by decide +kernel
theorem dX9_findPlan_123 : decode cX9_findPlan 123 = .ok (.iload_n 3, 1) := by decide +kernel
theorem dX9_findPlan_124 : decode cX9_findPlan 124 = .ok (.iload 4, 2) := by decide +kernel
theorem dX9_findPlan_126 : decode cX9_findPlan 126 = .ok (.invokestatic 181, 3) := by decide +kernel
theorem dX9_findPlan_129 : decode cX9_findPlan 129 = .ok (.iload 5, 2) := by decide +kernel
theorem dX9_findPlan_131 : decode cX9_findPlan 131 = .ok (.iload 6, 2) := by decide +kernel
theorem dX9_findPlan_133 : decode cX9_findPlan 133 = .ok (.if_icmp .ge 8, 3) := by decide +kernel
theorem dX9_findPlan_136 : decode cX9_findPlan 136 = .ok (.iload 5, 2) := by decide +kernel
theorem dX9_findPlan_138 : decode cX9_findPlan 138 = .ok (.goto 5, 3) := by decide +kernel
theorem dX9_findPlan_141 : decode cX9_findPlan 141 = .ok (.iload 6, 2) := by decide +kernel
theorem dX9_findPlan_143 : decode cX9_findPlan 143 = .ok (.iastore, 1) := by decide +kernel
theorem dX9_findPlan_144 : decode cX9_findPlan 144 = .ok (.iinc 4 1, 3) := by decide +kernel
theorem dX9_findPlan_147 : decode cX9_findPlan 147 = .ok (.goto (-94), 3) := by decide +kernel
theorem dX9_findPlan_150 : decode cX9_findPlan 150 = .ok (.iinc 3 (-1), 3) := by decide +kernel
theorem dX9_findPlan_153 : decode cX9_findPlan 153 = .ok (.goto (-107), 3) := by decide +kernel
theorem dX9_findPlan_156 : decode cX9_findPlan 156 = .ok (.aload_n 0, 1) := by decide +kernel
theorem dX9_findPlan_157 : decode cX9_findPlan 157 = .ok (.iload_n 1, 1) := by decide +kernel
theorem dX9_findPlan_158 : decode cX9_findPlan 158 = .ok (.putfield 185, 3) := by decide +kernel
theorem dX9_findPlan_161 : decode cX9_findPlan 161 = .ok (.aload_n 0, 1) := by decide +kernel
theorem dX9_findPlan_162 : decode cX9_findPlan 162 = .ok (.getfield 43, 3) := by decide +kernel
theorem dX9_findPlan_165 : decode cX9_findPlan 165 = .ok (.iconst 0, 1) := by decide +kernel
theorem dX9_findPlan_166 : decode cX9_findPlan 166 = .ok (.aload_n 0, 1) := by decide +kernel
theorem dX9_findPlan_167 : decode cX9_findPlan 167 = .ok (.getfield 185, 3) := by decide +kernel
theorem dX9_findPlan_170 : decode cX9_findPlan 170 = .ok (.invokestatic 181, 3) := by decide +kernel
theorem dX9_findPlan_173 : decode cX9_findPlan 173 = .ok (.iaload, 1) := by decide +kernel
theorem dX9_findPlan_174 : decode cX9_findPlan 174 = .ok (.ldc 184, 2) := by decide +kernel
theorem dX9_findPlan_176 : decode cX9_findPlan 176 = .ok (.if_icmp .lt 16, 3) := by decide +kernel
theorem dX9_findPlan_179 : decode cX9_findPlan 179 = .ok (.aload_n 0, 1) := by decide +kernel
theorem dX9_findPlan_180 : decode cX9_findPlan 180 = .ok (.dup, 1) := by decide +kernel
theorem dX9_findPlan_181 : decode cX9_findPlan 181 = .ok (.getfield 185, 3) := by decide +kernel
theorem dX9_findPlan_184 : decode cX9_findPlan 184 = .ok (.iconst 1, 1) := by decide +kernel
theorem dX9_findPlan_185 : decode cX9_findPlan 185 = .ok (.iadd, 1) := by decide +kernel
theorem dX9_findPlan_186 : decode cX9_findPlan 186 = .ok (.putfield 185, 3) := by decide +kernel
theorem dX9_findPlan_189 : decode cX9_findPlan 189 = .ok (.goto (-28), 3) := by decide +kernel
theorem dX9_findPlan_192 : decode cX9_findPlan 192 = .ok (.aload_n 0, 1) := by decide +kernel
theorem dX9_findPlan_193 : decode cX9_findPlan 193 = .ok (.getfield 185, 3) := by decide +kernel
theorem dX9_findPlan_196 : decode cX9_findPlan 196 = .ok (.istore_n 3, 1) := by decide +kernel
theorem dX9_findPlan_197 : decode cX9_findPlan 197 = .ok (.iconst 0, 1) := by decide +kernel
theorem dX9_findPlan_198 : decode cX9_findPlan 198 = .ok (.istore 4, 2) := by decide +kernel
theorem dX9_findPlan_200 : decode cX9_findPlan 200 = .ok (.iload 4, 2) := by decide +kernel
theorem dX9_findPlan_202 : decode cX9_findPlan 202 = .ok (.iconst 4, 1) := by decide +kernel
theorem dX9_findPlan_203 : decode cX9_findPlan 203 = .ok (.if_icmp .ge 17, 3) := by decide +kernel
theorem dX9_findPlan_206 : decode cX9_findPlan 206 = .ok (.aload_n 0, 1) := by decide +kernel
theorem dX9_findPlan_207 : decode cX9_findPlan 207 = .ok (.getfield 46, 3) := by decide +kernel
theorem dX9_findPlan_210 : decode cX9_findPlan 210 = .ok (.iload 4, 2) := by decide +kernel
theorem dX9_findPlan_212 : decode cX9_findPlan 212 = .ok (.iconst 0, 1) := by decide +kernel
theorem dX9_findPlan_213 : decode cX9_findPlan 213 = .ok (.iastore, 1) := by decide +kernel
theorem dX9_findPlan_214 : decode cX9_findPlan 214 = .ok (.iinc 4 1, 3) := by decide +kernel
theorem dX9_findPlan_217 : decode cX9_findPlan 217 = .ok (.goto (-17), 3) := by decide +kernel
theorem dX9_findPlan_220 : decode cX9_findPlan 220 = .ok (.iconst 0, 1) := by decide +kernel
theorem dX9_findPlan_221 : decode cX9_findPlan 221 = .ok (.istore 4, 2) := by decide +kernel
theorem dX9_findPlan_223 : decode cX9_findPlan 223 = .ok (.iload 4, 2) := by decide +kernel
theorem dX9_findPlan_225 : decode cX9_findPlan 225 = .ok (.iload_n 2, 1) := by decide +kernel
theorem dX9_findPlan_226 : decode cX9_findPlan 226 = .ok (.if_icmp .ge 96, 3) := by decide +kernel
theorem dX9_findPlan_229 : decode cX9_findPlan 229 = .ok (.iload_n 3, 1) := by decide +kernel
theorem dX9_findPlan_230 : decode cX9_findPlan 230 = .ok (.aload_n 0, 1) := by decide +kernel
theorem dX9_findPlan_231 : decode cX9_findPlan 231 = .ok (.iload 4, 2) := by decide +kernel
theorem dX9_findPlan_233 : decode cX9_findPlan 233 = .ok (.invokevirtual 151, 3) := by decide +kernel
theorem dX9_findPlan_236 : decode cX9_findPlan 236 = .ok (.idiv, 1) := by decide +kernel
theorem dX9_findPlan_237 : decode cX9_findPlan 237 = .ok (.istore 5, 2) := by decide +kernel
theorem dX9_findPlan_239 : decode cX9_findPlan 239 = .ok (.aload_n 0, 1) := by decide +kernel
theorem dX9_findPlan_240 : decode cX9_findPlan 240 = .ok (.getfield 43, 3) := by decide +kernel
theorem dX9_findPlan_243 : decode cX9_findPlan 243 = .ok (.iload 4, 2) := by decide +kernel
theorem dX9_findPlan_245 : decode cX9_findPlan 245 = .ok (.iconst 1, 1) := by decide +kernel
theorem dX9_findPlan_246 : decode cX9_findPlan 246 = .ok (.iadd, 1) := by decide +kernel
theorem dX9_findPlan_247 : decode cX9_findPlan 247 = .ok (.iload_n 3, 1) := by decide +kernel
theorem dX9_findPlan_248 : decode cX9_findPlan 248 = .ok (.iload 5, 2) := by decide +kernel
theorem dX9_findPlan_250 : decode cX9_findPlan 250 = .ok (.aload_n 0, 1) := by decide +kernel
theorem dX9_findPlan_251 : decode cX9_findPlan 251 = .ok (.iload 4, 2) := by decide +kernel
theorem dX9_findPlan_253 : decode cX9_findPlan 253 = .ok (.invokevirtual 151, 3) := by decide +kernel
theorem dX9_findPlan_256 : decode cX9_findPlan 256 = .ok (.imul, 1) := by decide +kernel
theorem dX9_findPlan_257 : decode cX9_findPlan 257 = .ok (.isub, 1) := by decide +kernel
theorem dX9_findPlan_258 : decode cX9_findPlan 258 = .ok (.invokestatic 181, 3) := by decide +kernel
theorem dX9_findPlan_261 : decode cX9_findPlan 261 = .ok (.iaload, 1) := by decide +kernel
theorem dX9_findPlan_262 : decode cX9_findPlan 262 = .ok (.iload 5, 2) := by decide +kernel
theorem dX9_findPlan_264 : decode cX9_findPlan 264 = .ok (.aload_n 0, 1) := by decide +kernel
theorem dX9_findPlan_265 : decode cX9_findPlan 265 = .ok (.getfield 13, 3) := by decide +kernel
theorem dX9_findPlan_268 : decode cX9_findPlan 268 = .ok (.iconst 4, 1) := by decide +kernel
theorem dX9_findPlan_269 : decode cX9_findPlan 269 = .ok (.iload 4, 2) := by decide +kernel
theorem dX9_findPlan_271 : decode cX9_findPlan 271 = .ok (.iadd, 1) := by decide +kernel
theorem dX9_findPlan_272 : decode cX9_findPlan 272 = .ok (.iaload, 1) := by decide +kernel
theorem dX9_findPlan_273 : decode cX9_findPlan 273 = .ok (.imul, 1) := by decide +kernel
theorem dX9_findPlan_274 : decode cX9_findPlan 274 = .ok (.iadd, 1) := by decide +kernel
theorem dX9_findPlan_275 : decode cX9_findPlan 275 = .ok (.aload_n 0, 1) := by decide +kernel
theorem dX9_findPlan_276 : decode cX9_findPlan 276 = .ok (.getfield 43, 3) := by decide +kernel
theorem dX9_findPlan_279 : decode cX9_findPlan 279 = .ok (.iload 4, 2) := by decide +kernel
theorem dX9_findPlan_281 : decode cX9_findPlan 281 = .ok (.iload_n 3, 1) := by decide +kernel
theorem dX9_findPlan_282 : decode cX9_findPlan 282 = .ok (.invokestatic 181, 3) := by decide +kernel
theorem dX9_findPlan_285 : decode cX9_findPlan 285 = .ok (.iaload, 1) := by decide +kernel
theorem dX9_findPlan_286 : decode cX9_findPlan 286 = .ok (.if_icmp .eq 9, 3) := by decide +kernel
theorem dX9_findPlan_289 : decode cX9_findPlan 289 = .ok (.iinc 5 (-1), 3) := by decide +kernel
theorem dX9_findPlan_292 : decode cX9_findPlan 292 = .ok (.goto (-53), 3) := by decide +kernel
theorem dX9_findPlan_295 : decode cX9_findPlan 295 = .ok (.aload_n 0, 1) := by decide +kernel
theorem dX9_findPlan_296 : decode cX9_findPlan 296 = .ok (.getfield 46, 3) := by decide +kernel
theorem dX9_findPlan_299 : decode cX9_findPlan 299 = .ok (.iload 4, 2) := by decide +kernel
theorem dX9_findPlan_301 : decode cX9_findPlan 301 = .ok (.iload 5, 2) := by decide +kernel
theorem dX9_findPlan_303 : decode cX9_findPlan 303 = .ok (.iastore, 1) := by decide +kernel
theorem dX9_findPlan_304 : decode cX9_findPlan 304 = .ok (.iload_n 3, 1) := by decide +kernel
theorem dX9_findPlan_305 : decode cX9_findPlan 305 = .ok (.iload 5, 2) := by decide +kernel
theorem dX9_findPlan_307 : decode cX9_findPlan 307 = .ok (.aload_n 0, 1) := by decide +kernel
theorem dX9_findPlan_308 : decode cX9_findPlan 308 = .ok (.iload 4, 2) := by decide +kernel
theorem dX9_findPlan_310 : decode cX9_findPlan 310 = .ok (.invokevirtual 151, 3) := by decide +kernel
theorem dX9_findPlan_313 : decode cX9_findPlan 313 = .ok (.imul, 1) := by decide +kernel
theorem dX9_findPlan_314 : decode cX9_findPlan 314 = .ok (.isub, 1) := by decide +kernel
theorem dX9_findPlan_315 : decode cX9_findPlan 315 = .ok (.istore_n 3, 1) := by decide +kernel
theorem dX9_findPlan_316 : decode cX9_findPlan 316 = .ok (.iinc 4 1, 3) := by decide +kernel
theorem dX9_findPlan_319 : decode cX9_findPlan 319 = .ok (.goto (-96), 3) := by decide +kernel
theorem dX9_findPlan_322 : decode cX9_findPlan 322 = .ok (.return_, 1) := by decide +kernel
theorem dX9_sheetMany_0 : decode cX9_sheetMany 0 = .ok (.aload_n 0, 1) := by decide +kernel
theorem dX9_sheetMany_1 : decode cX9_sheetMany 1 = .ok (.aload_n 0, 1) := by decide +kernel
theorem dX9_sheetMany_2 : decode cX9_sheetMany 2 = .ok (.getfield 13, 3) := by decide +kernel
theorem dX9_sheetMany_5 : decode cX9_sheetMany 5 = .ok (.iconst 0, 1) := by decide +kernel
theorem dX9_sheetMany_6 : decode cX9_sheetMany 6 = .ok (.iaload, 1) := by decide +kernel
theorem dX9_sheetMany_7 : decode cX9_sheetMany 7 = .ok (.invokevirtual 154, 3) := by decide +kernel
theorem dX9_sheetMany_10 : decode cX9_sheetMany 10 = .ok (.aload_n 0, 1) := by decide +kernel
theorem dX9_sheetMany_11 : decode cX9_sheetMany 11 = .ok (.getfield 46, 3) := by decide +kernel
theorem dX9_sheetMany_14 : decode cX9_sheetMany 14 = .ok (.iconst 0, 1) := by decide +kernel
theorem dX9_sheetMany_15 : decode cX9_sheetMany 15 = .ok (.iaload, 1) := by decide +kernel
theorem dX9_sheetMany_16 : decode cX9_sheetMany 16 = .ok (.aload_n 0, 1) := by decide +kernel
theorem dX9_sheetMany_17 : decode cX9_sheetMany 17 = .ok (.getfield 46, 3) := by decide +kernel
theorem dX9_sheetMany_20 : decode cX9_sheetMany 20 = .ok (.iconst 1, 1) := by decide +kernel
theorem dX9_sheetMany_21 : decode cX9_sheetMany 21 = .ok (.iaload, 1) := by decide +kernel
theorem dX9_sheetMany_22 : decode cX9_sheetMany 22 = .ok (.iadd, 1) := by decide +kernel
theorem dX9_sheetMany_23 : decode cX9_sheetMany 23 = .ok (.aload_n 0, 1) := by decide +kernel
theorem dX9_sheetMany_24 : decode cX9_sheetMany 24 = .ok (.getfield 46, 3) := by decide +kernel
theorem dX9_sheetMany_27 : decode cX9_sheetMany 27 = .ok (.iconst 2, 1) := by decide +kernel
theorem dX9_sheetMany_28 : decode cX9_sheetMany 28 = .ok (.iaload, 1) := by decide +kernel
theorem dX9_sheetMany_29 : decode cX9_sheetMany 29 = .ok (.iadd, 1) := by decide +kernel
theorem dX9_sheetMany_30 : decode cX9_sheetMany 30 = .ok (.aload_n 0, 1) := by decide +kernel
theorem dX9_sheetMany_31 : decode cX9_sheetMany 31 = .ok (.getfield 46, 3) := by decide +kernel
theorem dX9_sheetMany_34 : decode cX9_sheetMany 34 = .ok (.iconst 3, 1) := by decide +kernel
theorem dX9_sheetMany_35 : decode cX9_sheetMany 35 = .ok (.iaload, 1) := by decide +kernel
theorem dX9_sheetMany_36 : decode cX9_sheetMany 36 = .ok (.iadd, 1) := by decide +kernel
theorem dX9_sheetMany_37 : decode cX9_sheetMany 37 = .ok (.ireturn, 1) := by decide +kernel
theorem dX9_schemeOf_0 : decode cX9_schemeOf 0 = .ok (.iconst 0, 1) := by decide +kernel
theorem dX9_schemeOf_1 : decode cX9_schemeOf 1 = .ok (.istore_n 2, 1) := by decide +kernel
theorem dX9_schemeOf_2 : decode cX9_schemeOf 2 = .ok (.iload_n 1, 1) := by decide +kernel
theorem dX9_schemeOf_3 : decode cX9_schemeOf 3 = .ok (.istore_n 3, 1) := by decide +kernel
theorem dX9_schemeOf_4 : decode cX9_schemeOf 4 = .ok (.iload_n 3, 1) := by decide +kernel
theorem dX9_schemeOf_5 : decode cX9_schemeOf 5 = .ok (.aload_n 0, 1) := by decide +kernel
theorem dX9_schemeOf_6 : decode cX9_schemeOf 6 = .ok (.getfield 46, 3) := by decide +kernel
theorem dX9_schemeOf_9 : decode cX9_schemeOf 9 = .ok (.iload_n 2, 1) := by decide +kernel
theorem dX9_schemeOf_10 : decode cX9_schemeOf 10 = .ok (.iaload, 1) := by decide +kernel
theorem dX9_schemeOf_11 : decode cX9_schemeOf 11 = .ok (.if_icmp .lt 18, 3) := by decide +kernel
theorem dX9_schemeOf_14 : decode cX9_schemeOf 14 = .ok (.iload_n 3, 1) := by decide +kernel
theorem dX9_schemeOf_15 : decode cX9_schemeOf 15 = .ok (.aload_n 0, 1) := by decide +kernel
theorem dX9_schemeOf_16 : decode cX9_schemeOf 16 = .ok (.getfield 46, 3) := by decide +kernel
theorem dX9_schemeOf_19 : decode cX9_schemeOf 19 = .ok (.iload_n 2, 1) := by decide +kernel
theorem dX9_schemeOf_20 : decode cX9_schemeOf 20 = .ok (.iaload, 1) := by decide +kernel
theorem dX9_schemeOf_21 : decode cX9_schemeOf 21 = .ok (.isub, 1) := by decide +kernel
theorem dX9_schemeOf_22 : decode cX9_schemeOf 22 = .ok (.istore_n 3, 1) := by decide +kernel
theorem dX9_schemeOf_23 : decode cX9_schemeOf 23 = .ok (.iinc 2 1, 3) := by decide +kernel
theorem dX9_schemeOf_26 : decode cX9_schemeOf 26 = .ok (.goto (-22), 3) := by decide +kernel
theorem dX9_schemeOf_29 : decode cX9_schemeOf 29 = .ok (.iload_n 2, 1) := by decide +kernel
theorem dX9_schemeOf_30 : decode cX9_schemeOf 30 = .ok (.ireturn, 1) := by decide +kernel
theorem dX9_plan_0 : decode cX9_plan 0 = .ok (.iload_n 1, 1) := by decide +kernel
theorem dX9_plan_1 : decode cX9_plan 1 = .ok (.i2l, 1) := by decide +kernel
theorem dX9_plan_2 : decode cX9_plan 2 = .ok (.lconst 0, 1) := by decide +kernel
theorem dX9_plan_3 : decode cX9_plan 3 = .ok (.ldc2_w 158, 3) := by decide +kernel
theorem dX9_plan_6 : decode cX9_plan 6 = .ok (.invokestatic 57, 3) := by decide +kernel
theorem dX9_plan_9 : decode cX9_plan 9 = .ok (.ifCond .ne 5, 3) := by decide +kernel
theorem dX9_plan_12 : decode cX9_plan 12 = .ok (.iconst (-1), 1) := by decide +kernel
theorem dX9_plan_13 : decode cX9_plan 13 = .ok (.ireturn, 1) := by decide +kernel
theorem dX9_plan_14 : decode cX9_plan 14 = .ok (.aload_n 0, 1) := by decide +kernel
theorem dX9_plan_15 : decode cX9_plan 15 = .ok (.invokevirtual 188, 3) := by decide +kernel
theorem dX9_plan_18 : decode cX9_plan 18 = .ok (.istore_n 2, 1) := by decide +kernel
theorem dX9_plan_19 : decode cX9_plan 19 = .ok (.iconst 0, 1) := by decide +kernel
theorem dX9_plan_20 : decode cX9_plan 20 = .ok (.istore_n 3, 1) := by decide +kernel
theorem dX9_plan_21 : decode cX9_plan 21 = .ok (.iconst 0, 1) := by decide +kernel
theorem dX9_plan_22 : decode cX9_plan 22 = .ok (.istore 4, 2) := by decide +kernel
theorem dX9_plan_24 : decode cX9_plan 24 = .ok (.iload 4, 2) := by decide +kernel
theorem dX9_plan_26 : decode cX9_plan 26 = .ok (.iconst 4, 1) := by decide +kernel
theorem dX9_plan_27 : decode cX9_plan 27 = .ok (.if_icmp .ge 29, 3) := by decide +kernel
theorem dX9_plan_30 : decode cX9_plan 30 = .ok (.iload_n 3, 1) := by decide +kernel
theorem dX9_plan_31 : decode cX9_plan 31 = .ok (.aload_n 0, 1) := by decide +kernel
theorem dX9_plan_32 : decode cX9_plan 32 = .ok (.getfield 46, 3) := by decide +kernel
theorem dX9_plan_35 : decode cX9_plan 35 = .ok (.iload 4, 2) := by decide +kernel
theorem dX9_plan_37 : decode cX9_plan 37 = .ok (.iaload, 1) := by decide +kernel
theorem dX9_plan_38 : decode cX9_plan 38 = .ok (.aload_n 0, 1) := by decide +kernel
theorem dX9_plan_39 : decode cX9_plan 39 = .ok (.getfield 13, 3) := by decide +kernel
theorem dX9_plan_42 : decode cX9_plan 42 = .ok (.iconst 4, 1) := by decide +kernel
theorem dX9_plan_43 : decode cX9_plan 43 = .ok (.iload 4, 2) := by decide +kernel
theorem dX9_plan_45 : decode cX9_plan 45 = .ok (.iadd, 1) := by decide +kernel
theorem dX9_plan_46 : decode cX9_plan 46 = .ok (.iaload, 1) := by decide +kernel
theorem dX9_plan_47 : decode cX9_plan 47 = .ok (.imul, 1) := by decide +kernel
theorem dX9_plan_48 : decode cX9_plan 48 = .ok (.iadd, 1) := by decide +kernel
theorem dX9_plan_49 : decode cX9_plan 49 = .ok (.istore_n 3, 1) := by decide +kernel
theorem dX9_plan_50 : decode cX9_plan 50 = .ok (.iinc 4 1, 3) := by decide +kernel
theorem dX9_plan_53 : decode cX9_plan 53 = .ok (.goto (-29), 3) := by decide +kernel
theorem dX9_plan_56 : decode cX9_plan 56 = .ok (.iload_n 1, 1) := by decide +kernel
theorem dX9_plan_57 : decode cX9_plan 57 = .ok (.ifCond .ne 7, 3) := by decide +kernel
theorem dX9_plan_60 : decode cX9_plan 60 = .ok (.iload_n 2, 1) := by decide +kernel
theorem dX9_plan_61 : decode cX9_plan 61 = .ok (.goto 35, 3) := by decide +kernel
theorem dX9_plan_64 : decode cX9_plan 64 = .ok (.iload_n 1, 1) := by decide +kernel
theorem dX9_plan_65 : decode cX9_plan 65 = .ok (.iconst 1, 1) := by decide +kernel
theorem dX9_plan_66 : decode cX9_plan 66 = .ok (.if_icmp .ne 17, 3) := by decide +kernel
theorem dX9_plan_69 : decode cX9_plan 69 = .ok (.aload_n 0, 1) := by decide +kernel
theorem dX9_plan_70 : decode cX9_plan 70 = .ok (.getfield 185, 3) := by decide +kernel
theorem dX9_plan_73 : decode cX9_plan 73 = .ok (.aload_n 0, 1) := by decide +kernel
theorem dX9_plan_74 : decode cX9_plan 74 = .ok (.getfield 13, 3) := by decide +kernel
theorem dX9_plan_77 : decode cX9_plan 77 = .ok (.iconst 0, 1) := by decide +kernel
theorem dX9_plan_78 : decode cX9_plan 78 = .ok (.iaload, 1) := by decide +kernel
theorem dX9_plan_79 : decode cX9_plan 79 = .ok (.isub, 1) := by decide +kernel
theorem dX9_plan_80 : decode cX9_plan 80 = .ok (.goto 16, 3) := by decide +kernel
theorem dX9_plan_83 : decode cX9_plan 83 = .ok (.iload_n 1, 1) := by decide +kernel
theorem dX9_plan_84 : decode cX9_plan 84 = .ok (.iconst 2, 1) := by decide +kernel
theorem dX9_plan_85 : decode cX9_plan 85 = .ok (.if_icmp .ne 7, 3) := by decide +kernel
theorem dX9_plan_88 : decode cX9_plan 88 = .ok (.iload_n 3, 1) := by decide +kernel
theorem dX9_plan_89 : decode cX9_plan 89 = .ok (.goto 7, 3) := by decide +kernel
theorem dX9_plan_92 : decode cX9_plan 92 = .ok (.aload_n 0, 1) := by decide +kernel
theorem dX9_plan_93 : decode cX9_plan 93 = .ok (.getfield 185, 3) := by decide +kernel
theorem dX9_plan_96 : decode cX9_plan 96 = .ok (.ireturn, 1) := by decide +kernel
theorem dX9_blanks_0 : decode cX9_blanks 0 = .ok (.iload_n 1, 1) := by decide +kernel
theorem dX9_blanks_1 : decode cX9_blanks 1 = .ok (.i2l, 1) := by decide +kernel
theorem dX9_blanks_2 : decode cX9_blanks 2 = .ok (.lconst 1, 1) := by decide +kernel
theorem dX9_blanks_3 : decode cX9_blanks 3 = .ok (.ldc2_w 115, 3) := by decide +kernel
theorem dX9_blanks_6 : decode cX9_blanks 6 = .ok (.invokestatic 57, 3) := by decide +kernel
theorem dX9_blanks_9 : decode cX9_blanks 9 = .ok (.ifCond .ne 5, 3) := by decide +kernel
theorem dX9_blanks_12 : decode cX9_blanks 12 = .ok (.iconst (-1), 1) := by decide +kernel
theorem dX9_blanks_13 : decode cX9_blanks 13 = .ok (.ireturn, 1) := by decide +kernel
theorem dX9_blanks_14 : decode cX9_blanks 14 = .ok (.aload_n 0, 1) := by decide +kernel
theorem dX9_blanks_15 : decode cX9_blanks 15 = .ok (.iload_n 1, 1) := by decide +kernel
theorem dX9_blanks_16 : decode cX9_blanks 16 = .ok (.invokevirtual 154, 3) := by decide +kernel
theorem dX9_blanks_19 : decode cX9_blanks 19 = .ok (.aload_n 0, 1) := by decide +kernel
theorem dX9_blanks_20 : decode cX9_blanks 20 = .ok (.getfield 185, 3) := by decide +kernel
theorem dX9_blanks_23 : decode cX9_blanks 23 = .ok (.iload_n 1, 1) := by decide +kernel
theorem dX9_blanks_24 : decode cX9_blanks 24 = .ok (.isub, 1) := by decide +kernel
theorem dX9_blanks_25 : decode cX9_blanks 25 = .ok (.ireturn, 1) := by decide +kernel
theorem dX9_halfAhead_0 : decode cX9_halfAhead 0 = .ok (.iconst 0, 1) := by decide +kernel
theorem dX9_halfAhead_1 : decode cX9_halfAhead 1 = .ok (.istore_n 2, 1) := by decide +kernel
theorem dX9_halfAhead_2 : decode cX9_halfAhead 2 = .ok (.iconst 0, 1) := by decide +kernel
theorem dX9_halfAhead_3 : decode cX9_halfAhead 3 = .ok (.istore_n 3, 1) := by decide +kernel
theorem dX9_halfAhead_4 : decode cX9_halfAhead 4 = .ok (.iload_n 3, 1) := by decide +kernel
theorem dX9_halfAhead_5 : decode cX9_halfAhead 5 = .ok (.iload_n 1, 1) := by decide +kernel
theorem dX9_halfAhead_6 : decode cX9_halfAhead 6 = .ok (.if_icmp .ge 23, 3) := by decide +kernel
theorem dX9_halfAhead_9 : decode cX9_halfAhead 9 = .ok (.iload_n 2, 1) := by decide +kernel
theorem dX9_halfAhead_10 : decode cX9_halfAhead 10 = .ok (.aload_n 0, 1) := by decide +kernel
theorem dX9_halfAhead_11 : decode cX9_halfAhead 11 = .ok (.aload_n 0, 1) := by decide +kernel
theorem dX9_halfAhead_12 : decode cX9_halfAhead 12 = .ok (.iload_n 3, 1) := by decide +kernel
theorem dX9_halfAhead_13 : decode cX9_halfAhead 13 = .ok (.invokevirtual 191, 3) := by decide +kernel
theorem dX9_halfAhead_16 : decode cX9_halfAhead 16 = .ok (.invokevirtual 151, 3) := by decide +kernel
theorem dX9_halfAhead_19 : decode cX9_halfAhead 19 = .ok (.iconst 2, 1) := by decide +kernel
theorem dX9_halfAhead_20 : decode cX9_halfAhead 20 = .ok (.idiv, 1) := by decide +kernel
theorem dX9_halfAhead_21 : decode cX9_halfAhead 21 = .ok (.iadd, 1) := by decide +kernel
theorem dX9_halfAhead_22 : decode cX9_halfAhead 22 = .ok (.istore_n 2, 1) := by decide +kernel
theorem dX9_halfAhead_23 : decode cX9_halfAhead 23 = .ok (.iinc 3 1, 3) := by decide +kernel
theorem dX9_halfAhead_26 : decode cX9_halfAhead 26 = .ok (.goto (-22), 3) := by decide +kernel
theorem dX9_halfAhead_29 : decode cX9_halfAhead 29 = .ok (.iload_n 2, 1) := by decide +kernel
theorem dX9_halfAhead_30 : decode cX9_halfAhead 30 = .ok (.ireturn, 1) := by decide +kernel
theorem dX9_numberOf_0 : decode cX9_numberOf 0 = .ok (.aload_n 0, 1) := by decide +kernel
theorem dX9_numberOf_1 : decode cX9_numberOf 1 = .ok (.aload_n 0, 1) := by decide +kernel
theorem dX9_numberOf_2 : decode cX9_numberOf 2 = .ok (.iload_n 1, 1) := by decide +kernel
theorem dX9_numberOf_3 : decode cX9_numberOf 3 = .ok (.invokevirtual 191, 3) := by decide +kernel
theorem dX9_numberOf_6 : decode cX9_numberOf 6 = .ok (.invokevirtual 151, 3) := by decide +kernel
theorem dX9_numberOf_9 : decode cX9_numberOf 9 = .ok (.iconst 2, 1) := by decide +kernel
theorem dX9_numberOf_10 : decode cX9_numberOf 10 = .ok (.idiv, 1) := by decide +kernel
theorem dX9_numberOf_11 : decode cX9_numberOf 11 = .ok (.istore_n 3, 1) := by decide +kernel
theorem dX9_numberOf_12 : decode cX9_numberOf 12 = .ok (.aload_n 0, 1) := by decide +kernel
theorem dX9_numberOf_13 : decode cX9_numberOf 13 = .ok (.iload_n 1, 1) := by decide +kernel
theorem dX9_numberOf_14 : decode cX9_numberOf 14 = .ok (.invokevirtual 194, 3) := by decide +kernel
theorem dX9_numberOf_17 : decode cX9_numberOf 17 = .ok (.istore 4, 2) := by decide +kernel
theorem dX9_numberOf_19 : decode cX9_numberOf 19 = .ok (.aload_n 0, 1) := by decide +kernel
theorem dX9_numberOf_20 : decode cX9_numberOf 20 = .ok (.getfield 13, 3) := by decide +kernel
theorem dX9_numberOf_23 : decode cX9_numberOf 23 = .ok (.iconst 2, 1) := by decide +kernel
theorem dX9_numberOf_24 : decode cX9_numberOf 24 = .ok (.iaload, 1) := by decide +kernel
theorem dX9_numberOf_25 : decode cX9_numberOf 25 = .ok (.ifCond .ne 10, 3) := by decide +kernel
theorem dX9_numberOf_28 : decode cX9_numberOf 28 = .ok (.iconst 2, 1) := by decide +kernel
theorem dX9_numberOf_29 : decode cX9_numberOf 29 = .ok (.iload 4, 2) := by decide +kernel
theorem dX9_numberOf_31 : decode cX9_numberOf 31 = .ok (.imul, 1) := by decide +kernel
theorem dX9_numberOf_32 : decode cX9_numberOf 32 = .ok (.iload_n 2, 1) := by decide +kernel
theorem dX9_numberOf_33 : decode cX9_numberOf 33 = .ok (.iadd, 1) := by decide +kernel
theorem dX9_numberOf_34 : decode cX9_numberOf 34 = .ok (.ireturn, 1) := by decide +kernel
theorem dX9_numberOf_35 : decode cX9_numberOf 35 = .ok (.iload_n 2, 1) := by decide +kernel
theorem dX9_numberOf_36 : decode cX9_numberOf 36 = .ok (.iload_n 3, 1) := by decide +kernel
theorem dX9_numberOf_37 : decode cX9_numberOf 37 = .ok (.if_icmp .gt 10, 3) := by decide +kernel
theorem dX9_numberOf_40 : decode cX9_numberOf 40 = .ok (.iload 4, 2) := by decide +kernel
theorem dX9_numberOf_42 : decode cX9_numberOf 42 = .ok (.iload_n 2, 1) := by decide +kernel
theorem dX9_numberOf_43 : decode cX9_numberOf 43 = .ok (.iadd, 1) := by decide +kernel
theorem dX9_numberOf_44 : decode cX9_numberOf 44 = .ok (.goto 16, 3) := by decide +kernel
theorem dX9_numberOf_47 : decode cX9_numberOf 47 = .ok (.aload_n 0, 1) := by decide +kernel
theorem dX9_numberOf_48 : decode cX9_numberOf 48 = .ok (.getfield 185, 3) := by decide +kernel
theorem dX9_numberOf_51 : decode cX9_numberOf 51 = .ok (.iload 4, 2) := by decide +kernel
theorem dX9_numberOf_53 : decode cX9_numberOf 53 = .ok (.isub, 1) := by decide +kernel
theorem dX9_numberOf_54 : decode cX9_numberOf 54 = .ok (.iconst 2, 1) := by decide +kernel
theorem dX9_numberOf_55 : decode cX9_numberOf 55 = .ok (.iload_n 3, 1) := by decide +kernel
theorem dX9_numberOf_56 : decode cX9_numberOf 56 = .ok (.imul, 1) := by decide +kernel
theorem dX9_numberOf_57 : decode cX9_numberOf 57 = .ok (.isub, 1) := by decide +kernel
theorem dX9_numberOf_58 : decode cX9_numberOf 58 = .ok (.iload_n 2, 1) := by decide +kernel
theorem dX9_numberOf_59 : decode cX9_numberOf 59 = .ok (.iadd, 1) := by decide +kernel
theorem dX9_numberOf_60 : decode cX9_numberOf 60 = .ok (.ireturn, 1) := by decide +kernel
theorem dX9_seek_0 : decode cX9_seek 0 = .ok (.aload_n 0, 1) := by decide +kernel
theorem dX9_seek_1 : decode cX9_seek 1 = .ok (.iconst 0, 1) := by decide +kernel
theorem dX9_seek_2 : decode cX9_seek 2 = .ok (.putfield 197, 3) := by decide +kernel
theorem dX9_seek_5 : decode cX9_seek 5 = .ok (.aload_n 0, 1) := by decide +kernel
theorem dX9_seek_6 : decode cX9_seek 6 = .ok (.iconst 1, 1) := by decide +kernel
theorem dX9_seek_7 : decode cX9_seek 7 = .ok (.putfield 200, 3) := by decide +kernel
theorem dX9_seek_10 : decode cX9_seek 10 = .ok (.aload_n 0, 1) := by decide +kernel
theorem dX9_seek_11 : decode cX9_seek 11 = .ok (.aload_n 0, 1) := by decide +kernel
theorem dX9_seek_12 : decode cX9_seek 12 = .ok (.getfield 197, 3) := by decide +kernel
theorem dX9_seek_15 : decode cX9_seek 15 = .ok (.aload_n 0, 1) := by decide +kernel
theorem dX9_seek_16 : decode cX9_seek 16 = .ok (.getfield 200, 3) := by decide +kernel
theorem dX9_seek_19 : decode cX9_seek 19 = .ok (.invokevirtual 203, 3) := by decide +kernel
theorem dX9_seek_22 : decode cX9_seek 22 = .ok (.iload_n 1, 1) := by decide +kernel
theorem dX9_seek_23 : decode cX9_seek 23 = .ok (.if_icmp .eq 50, 3) := by decide +kernel
theorem dX9_seek_26 : decode cX9_seek 26 = .ok (.aload_n 0, 1) := by decide +kernel
theorem dX9_seek_27 : decode cX9_seek 27 = .ok (.dup, 1) := by decide +kernel
theorem dX9_seek_28 : decode cX9_seek 28 = .ok (.getfield 200, 3) := by decide +kernel
theorem dX9_seek_31 : decode cX9_seek 31 = .ok (.iconst 1, 1) := by decide +kernel
theorem dX9_seek_32 : decode cX9_seek 32 = .ok (.iadd, 1) := by decide +kernel
theorem dX9_seek_33 : decode cX9_seek 33 = .ok (.putfield 200, 3) := by decide +kernel
theorem dX9_seek_36 : decode cX9_seek 36 = .ok (.aload_n 0, 1) := by decide +kernel
theorem dX9_seek_37 : decode cX9_seek 37 = .ok (.getfield 200, 3) := by decide +kernel
theorem dX9_seek_40 : decode cX9_seek 40 = .ok (.aload_n 0, 1) := by decide +kernel
theorem dX9_seek_41 : decode cX9_seek 41 = .ok (.aload_n 0, 1) := by decide +kernel
theorem dX9_seek_42 : decode cX9_seek 42 = .ok (.aload_n 0, 1) := by decide +kernel
theorem dX9_seek_43 : decode cX9_seek 43 = .ok (.getfield 197, 3) := by decide +kernel
theorem dX9_seek_46 : decode cX9_seek 46 = .ok (.invokevirtual 191, 3) := by decide +kernel
theorem dX9_seek_49 : decode cX9_seek 49 = .ok (.invokevirtual 151, 3) := by decide +kernel
theorem dX9_seek_52 : decode cX9_seek 52 = .ok (.if_icmp .le (-42), 3) := by decide +kernel
theorem dX9_seek_55 : decode cX9_seek 55 = .ok (.aload_n 0, 1) := by decide +kernel
theorem dX9_seek_56 : decode cX9_seek 56 = .ok (.dup, 1) := by decide +kernel
theorem dX9_seek_57 : decode cX9_seek 57 = .ok (.getfield 197, 3) := by decide +kernel
theorem dX9_seek_60 : decode cX9_seek 60 = .ok (.iconst 1, 1) := by decide +kernel
theorem dX9_seek_61 : decode cX9_seek 61 = .ok (.iadd, 1) := by decide +kernel
theorem dX9_seek_62 : decode cX9_seek 62 = .ok (.putfield 197, 3) := by decide +kernel
theorem dX9_seek_65 : decode cX9_seek 65 = .ok (.aload_n 0, 1) := by decide +kernel
theorem dX9_seek_66 : decode cX9_seek 66 = .ok (.iconst 1, 1) := by decide +kernel
theorem dX9_seek_67 : decode cX9_seek 67 = .ok (.putfield 200, 3) := by decide +kernel
theorem dX9_seek_70 : decode cX9_seek 70 = .ok (.goto (-60), 3) := by decide +kernel
theorem dX9_seek_73 : decode cX9_seek 73 = .ok (.return_, 1) := by decide +kernel
theorem dX9_outOf_0 : decode cX9_outOf 0 = .ok (.aload_n 0, 1) := by decide +kernel
theorem dX9_outOf_1 : decode cX9_outOf 1 = .ok (.aload_n 0, 1) := by decide +kernel
theorem dX9_outOf_2 : decode cX9_outOf 2 = .ok (.iload_n 1, 1) := by decide +kernel
theorem dX9_outOf_3 : decode cX9_outOf 3 = .ok (.invokevirtual 191, 3) := by decide +kernel
theorem dX9_outOf_6 : decode cX9_outOf 6 = .ok (.invokevirtual 151, 3) := by decide +kernel
theorem dX9_outOf_9 : decode cX9_outOf 9 = .ok (.iconst 2, 1) := by decide +kernel
theorem dX9_outOf_10 : decode cX9_outOf 10 = .ok (.idiv, 1) := by decide +kernel
theorem dX9_outOf_11 : decode cX9_outOf 11 = .ok (.istore_n 3, 1) := by decide +kernel
theorem dX9_outOf_12 : decode cX9_outOf 12 = .ok (.iload_n 2, 1) := by decide +kernel
theorem dX9_outOf_13 : decode cX9_outOf 13 = .ok (.iconst 1, 1) := by decide +kernel
theorem dX9_outOf_14 : decode cX9_outOf 14 = .ok (.isub, 1) := by decide +kernel
theorem dX9_outOf_15 : decode cX9_outOf 15 = .ok (.iconst 2, 1) := by decide +kernel
theorem dX9_outOf_16 : decode cX9_outOf 16 = .ok (.idiv, 1) := by decide +kernel
theorem dX9_outOf_17 : decode cX9_outOf 17 = .ok (.istore 4, 2) := by decide +kernel
theorem dX9_outOf_19 : decode cX9_outOf 19 = .ok (.iconst 2, 1) := by decide +kernel
theorem dX9_outOf_20 : decode cX9_outOf 20 = .ok (.iload 4, 2) := by decide +kernel
theorem dX9_outOf_22 : decode cX9_outOf 22 = .ok (.imul, 1) := by decide +kernel
theorem dX9_outOf_23 : decode cX9_outOf 23 = .ok (.iload_n 3, 1) := by decide +kernel
theorem dX9_outOf_24 : decode cX9_outOf 24 = .ok (.if_icmp .ge 8, 3) := by decide +kernel
theorem dX9_outOf_27 : decode cX9_outOf 27 = .ok (.iload 4, 2) := by decide +kernel
theorem dX9_outOf_29 : decode cX9_outOf 29 = .ok (.goto 9, 3) := by decide +kernel
theorem dX9_outOf_32 : decode cX9_outOf 32 = .ok (.iload_n 3, 1) := by decide +kernel
theorem dX9_outOf_33 : decode cX9_outOf 33 = .ok (.iconst 1, 1) := by decide +kernel
theorem dX9_outOf_34 : decode cX9_outOf 34 = .ok (.isub, 1) := by decide +kernel
theorem dX9_outOf_35 : decode cX9_outOf 35 = .ok (.iload 4, 2) := by decide +kernel
theorem dX9_outOf_37 : decode cX9_outOf 37 = .ok (.isub, 1) := by decide +kernel
theorem dX9_outOf_38 : decode cX9_outOf 38 = .ok (.istore 5, 2) := by decide +kernel
theorem dX9_outOf_40 : decode cX9_outOf 40 = .ok (.aload_n 0, 1) := by decide +kernel
theorem dX9_outOf_41 : decode cX9_outOf 41 = .ok (.getfield 13, 3) := by decide +kernel
theorem dX9_outOf_44 : decode cX9_outOf 44 = .ok (.iconst 2, 1) := by decide +kernel
theorem dX9_outOf_45 : decode cX9_outOf 45 = .ok (.iaload, 1) := by decide +kernel
theorem dX9_outOf_46 : decode cX9_outOf 46 = .ok (.ifCond .ne 8, 3) := by decide +kernel
theorem dX9_outOf_49 : decode cX9_outOf 49 = .ok (.iload 5, 2) := by decide +kernel
theorem dX9_outOf_51 : decode cX9_outOf 51 = .ok (.goto 13, 3) := by decide +kernel
theorem dX9_outOf_54 : decode cX9_outOf 54 = .ok (.iload 5, 2) := by decide +kernel
theorem dX9_outOf_56 : decode cX9_outOf 56 = .ok (.aload_n 0, 1) := by decide +kernel
theorem dX9_outOf_57 : decode cX9_outOf 57 = .ok (.iload_n 1, 1) := by decide +kernel
theorem dX9_outOf_58 : decode cX9_outOf 58 = .ok (.invokevirtual 194, 3) := by decide +kernel
theorem dX9_outOf_61 : decode cX9_outOf 61 = .ok (.iconst 2, 1) := by decide +kernel
theorem dX9_outOf_62 : decode cX9_outOf 62 = .ok (.idiv, 1) := by decide +kernel
theorem dX9_outOf_63 : decode cX9_outOf 63 = .ok (.iadd, 1) := by decide +kernel
theorem dX9_outOf_64 : decode cX9_outOf 64 = .ok (.ireturn, 1) := by decide +kernel
theorem dX9_movedOf_0 : decode cX9_movedOf 0 = .ok (.aload_n 0, 1) := by decide +kernel
theorem dX9_movedOf_1 : decode cX9_movedOf 1 = .ok (.getfield 13, 3) := by decide +kernel
theorem dX9_movedOf_4 : decode cX9_movedOf 4 = .ok (.iconst 2, 1) := by decide +kernel
theorem dX9_movedOf_5 : decode cX9_movedOf 5 = .ok (.iaload, 1) := by decide +kernel
theorem dX9_movedOf_6 : decode cX9_movedOf 6 = .ok (.ifCond .ne 7, 3) := by decide +kernel
theorem dX9_movedOf_9 : decode cX9_movedOf 9 = .ok (.iload_n 1, 1) := by decide +kernel
theorem dX9_movedOf_10 : decode cX9_movedOf 10 = .ok (.goto 32, 3) := by decide +kernel
theorem dX9_movedOf_13 : decode cX9_movedOf 13 = .ok (.aload_n 0, 1) := by decide +kernel
theorem dX9_movedOf_14 : decode cX9_movedOf 14 = .ok (.getfield 46, 3) := by decide +kernel
theorem dX9_movedOf_17 : decode cX9_movedOf 17 = .ok (.iconst 0, 1) := by decide +kernel
theorem dX9_movedOf_18 : decode cX9_movedOf 18 = .ok (.iaload, 1) := by decide +kernel
theorem dX9_movedOf_19 : decode cX9_movedOf 19 = .ok (.aload_n 0, 1) := by decide +kernel
theorem dX9_movedOf_20 : decode cX9_movedOf 20 = .ok (.getfield 46, 3) := by decide +kernel
theorem dX9_movedOf_23 : decode cX9_movedOf 23 = .ok (.iconst 1, 1) := by decide +kernel
theorem dX9_movedOf_24 : decode cX9_movedOf 24 = .ok (.iaload, 1) := by decide +kernel
theorem dX9_movedOf_25 : decode cX9_movedOf 25 = .ok (.iadd, 1) := by decide +kernel
theorem dX9_movedOf_26 : decode cX9_movedOf 26 = .ok (.aload_n 0, 1) := by decide +kernel
theorem dX9_movedOf_27 : decode cX9_movedOf 27 = .ok (.getfield 46, 3) := by decide +kernel
theorem dX9_movedOf_30 : decode cX9_movedOf 30 = .ok (.iconst 2, 1) := by decide +kernel
theorem dX9_movedOf_31 : decode cX9_movedOf 31 = .ok (.iaload, 1) := by decide +kernel
theorem dX9_movedOf_32 : decode cX9_movedOf 32 = .ok (.iadd, 1) := by decide +kernel
theorem dX9_movedOf_33 : decode cX9_movedOf 33 = .ok (.aload_n 0, 1) := by decide +kernel
theorem dX9_movedOf_34 : decode cX9_movedOf 34 = .ok (.getfield 46, 3) := by decide +kernel
theorem dX9_movedOf_37 : decode cX9_movedOf 37 = .ok (.iconst 3, 1) := by decide +kernel
theorem dX9_movedOf_38 : decode cX9_movedOf 38 = .ok (.iaload, 1) := by decide +kernel
theorem dX9_movedOf_39 : decode cX9_movedOf 39 = .ok (.iadd, 1) := by decide +kernel
theorem dX9_movedOf_40 : decode cX9_movedOf 40 = .ok (.iconst 1, 1) := by decide +kernel
theorem dX9_movedOf_41 : decode cX9_movedOf 41 = .ok (.isub, 1) := by decide +kernel
theorem dX9_movedOf_42 : decode cX9_movedOf 42 = .ok (.istore_n 3, 1) := by decide +kernel
theorem dX9_movedOf_43 : decode cX9_movedOf 43 = .ok (.aload_n 0, 1) := by decide +kernel
theorem dX9_movedOf_44 : decode cX9_movedOf 44 = .ok (.iload_n 3, 1) := by decide +kernel
theorem dX9_movedOf_45 : decode cX9_movedOf 45 = .ok (.aload_n 0, 1) := by decide +kernel
theorem dX9_movedOf_46 : decode cX9_movedOf 46 = .ok (.aload_n 0, 1) := by decide +kernel
theorem dX9_movedOf_47 : decode cX9_movedOf 47 = .ok (.iload_n 3, 1) := by decide +kernel
theorem dX9_movedOf_48 : decode cX9_movedOf 48 = .ok (.invokevirtual 191, 3) := by decide +kernel
theorem dX9_movedOf_51 : decode cX9_movedOf 51 = .ok (.invokevirtual 151, 3) := by decide +kernel
theorem dX9_movedOf_54 : decode cX9_movedOf 54 = .ok (.iconst 2, 1) := by decide +kernel
theorem dX9_movedOf_55 : decode cX9_movedOf 55 = .ok (.idiv, 1) := by decide +kernel
theorem dX9_movedOf_56 : decode cX9_movedOf 56 = .ok (.invokevirtual 206, 3) := by decide +kernel
theorem dX9_movedOf_59 : decode cX9_movedOf 59 = .ok (.istore 4, 2) := by decide +kernel
theorem dX9_movedOf_61 : decode cX9_movedOf 61 = .ok (.aload_n 0, 1) := by decide +kernel
theorem dX9_movedOf_62 : decode cX9_movedOf 62 = .ok (.getfield 13, 3) := by decide +kernel
theorem dX9_movedOf_65 : decode cX9_movedOf 65 = .ok (.iconst 1, 1) := by decide +kernel
theorem dX9_movedOf_66 : decode cX9_movedOf 66 = .ok (.iaload, 1) := by decide +kernel
theorem dX9_movedOf_67 : decode cX9_movedOf 67 = .ok (.aload_n 0, 1) := by decide +kernel
theorem dX9_movedOf_68 : decode cX9_movedOf 68 = .ok (.iload_n 1, 1) := by decide +kernel
theorem dX9_movedOf_69 : decode cX9_movedOf 69 = .ok (.iload_n 2, 1) := by decide +kernel
theorem dX9_movedOf_70 : decode cX9_movedOf 70 = .ok (.invokevirtual 206, 3) := by decide +kernel
theorem dX9_movedOf_73 : decode cX9_movedOf 73 = .ok (.imul, 1) := by decide +kernel
theorem dX9_movedOf_74 : decode cX9_movedOf 74 = .ok (.aload_n 0, 1) := by decide +kernel
theorem dX9_movedOf_75 : decode cX9_movedOf 75 = .ok (.getfield 13, 3) := by decide +kernel
theorem dX9_movedOf_78 : decode cX9_movedOf 78 = .ok (.iconst 1, 1) := by decide +kernel
theorem dX9_movedOf_79 : decode cX9_movedOf 79 = .ok (.iaload, 1) := by decide +kernel
theorem dX9_movedOf_80 : decode cX9_movedOf 80 = .ok (.iload 4, 2) := by decide +kernel
theorem dX9_movedOf_82 : decode cX9_movedOf 82 = .ok (.imul, 1) := by decide +kernel
theorem dX9_movedOf_83 : decode cX9_movedOf 83 = .ok (.iconst 2, 1) := by decide +kernel
theorem dX9_movedOf_84 : decode cX9_movedOf 84 = .ok (.idiv, 1) := by decide +kernel
theorem dX9_movedOf_85 : decode cX9_movedOf 85 = .ok (.isub, 1) := by decide +kernel
theorem dX9_movedOf_86 : decode cX9_movedOf 86 = .ok (.ireturn, 1) := by decide +kernel
theorem dX9_book_0 : decode cX9_book 0 = .ok (.aload_n 0, 1) := by decide +kernel
theorem dX9_book_1 : decode cX9_book 1 = .ok (.invokevirtual 188, 3) := by decide +kernel
theorem dX9_book_4 : decode cX9_book 4 = .ok (.pop, 1) := by decide +kernel
theorem dX9_book_5 : decode cX9_book 5 = .ok (.iload_n 1, 1) := by decide +kernel
theorem dX9_book_6 : decode cX9_book 6 = .ok (.i2l, 1) := by decide +kernel
theorem dX9_book_7 : decode cX9_book 7 = .ok (.lconst 1, 1) := by decide +kernel
theorem dX9_book_8 : decode cX9_book 8 = .ok (.aload_n 0, 1) := by decide +kernel
theorem dX9_book_9 : decode cX9_book 9 = .ok (.getfield 185, 3) := by decide +kernel
theorem dX9_book_12 : decode cX9_book 12 = .ok (.i2l, 1) := by decide +kernel
theorem dX9_book_13 : decode cX9_book 13 = .ok (.invokestatic 57, 3) := by decide +kernel
theorem dX9_book_16 : decode cX9_book 16 = .ok (.ifCond .eq 15, 3) := by decide +kernel
theorem dX9_book_19 : decode cX9_book 19 = .ok (.iload_n 2, 1) := by decide +kernel
theorem dX9_book_20 : decode cX9_book 20 = .ok (.i2l, 1) := by decide +kernel
theorem dX9_book_21 : decode cX9_book 21 = .ok (.lconst 0, 1) := by decide +kernel
theorem dX9_book_22 : decode cX9_book 22 = .ok (.ldc2_w 209, 3) := by decide +kernel
theorem dX9_book_25 : decode cX9_book 25 = .ok (.invokestatic 57, 3) := by decide +kernel
theorem dX9_book_28 : decode cX9_book 28 = .ok (.ifCond .ne 5, 3) := by decide +kernel
theorem dX9_book_31 : decode cX9_book 31 = .ok (.iconst (-1), 1) := by decide +kernel
theorem dX9_book_32 : decode cX9_book 32 = .ok (.ireturn, 1) := by decide +kernel
theorem dX9_book_33 : decode cX9_book 33 = .ok (.aload_n 0, 1) := by decide +kernel
theorem dX9_book_34 : decode cX9_book 34 = .ok (.iload_n 1, 1) := by decide +kernel
theorem dX9_book_35 : decode cX9_book 35 = .ok (.invokevirtual 211, 3) := by decide +kernel
theorem dX9_book_38 : decode cX9_book 38 = .ok (.aload_n 0, 1) := by decide +kernel
theorem dX9_book_39 : decode cX9_book 39 = .ok (.getfield 200, 3) := by decide +kernel
theorem dX9_book_42 : decode cX9_book 42 = .ok (.iconst 1, 1) := by decide +kernel
theorem dX9_book_43 : decode cX9_book 43 = .ok (.isub, 1) := by decide +kernel
theorem dX9_book_44 : decode cX9_book 44 = .ok (.istore_n 3, 1) := by decide +kernel
theorem dX9_book_45 : decode cX9_book 45 = .ok (.aload_n 0, 1) := by decide +kernel
theorem dX9_book_46 : decode cX9_book 46 = .ok (.getfield 197, 3) := by decide +kernel
theorem dX9_book_49 : decode cX9_book 49 = .ok (.istore 4, 2) := by decide +kernel
theorem dX9_book_51 : decode cX9_book 51 = .ok (.aload_n 0, 1) := by decide +kernel
theorem dX9_book_52 : decode cX9_book 52 = .ok (.aload_n 0, 1) := by decide +kernel
theorem dX9_book_53 : decode cX9_book 53 = .ok (.iload 4, 2) := by decide +kernel
theorem dX9_book_55 : decode cX9_book 55 = .ok (.invokevirtual 191, 3) := by decide +kernel
theorem dX9_book_58 : decode cX9_book 58 = .ok (.invokevirtual 160, 3) := by decide +kernel
theorem dX9_book_61 : decode cX9_book 61 = .ok (.iload_n 2, 1) := by decide +kernel
theorem dX9_book_62 : decode cX9_book 62 = .ok (.tableswitch 117 0 7 #[46, 49, 54, 61, 73, 85, 92, 103], 46) := by decide +kernel
theorem dX9_book_108 : decode cX9_book 108 = .ok (.iload 4, 2) := by decide +kernel
theorem dX9_book_110 : decode cX9_book 110 = .ok (.ireturn, 1) := by decide +kernel
theorem dX9_book_111 : decode cX9_book 111 = .ok (.aload_n 0, 1) := by decide +kernel
theorem dX9_book_112 : decode cX9_book 112 = .ok (.getfield 200, 3) := by decide +kernel
theorem dX9_book_115 : decode cX9_book 115 = .ok (.ireturn, 1) := by decide +kernel
theorem dX9_book_116 : decode cX9_book 116 = .ok (.aload_n 0, 1) := by decide +kernel
theorem dX9_book_117 : decode cX9_book 117 = .ok (.getfield 34, 3) := by decide +kernel
theorem dX9_book_120 : decode cX9_book 120 = .ok (.iload_n 3, 1) := by decide +kernel
theorem dX9_book_121 : decode cX9_book 121 = .ok (.iaload, 1) := by decide +kernel
theorem dX9_book_122 : decode cX9_book 122 = .ok (.ireturn, 1) := by decide +kernel
theorem dX9_book_123 : decode cX9_book 123 = .ok (.aload_n 0, 1) := by decide +kernel
theorem dX9_book_124 : decode cX9_book 124 = .ok (.getfield 31, 3) := by decide +kernel
theorem dX9_book_127 : decode cX9_book 127 = .ok (.iload_n 3, 1) := by decide +kernel
theorem dX9_book_128 : decode cX9_book 128 = .ok (.iaload, 1) := by decide +kernel
theorem dX9_book_129 : decode cX9_book 129 = .ok (.aload_n 0, 1) := by decide +kernel
theorem dX9_book_130 : decode cX9_book 130 = .ok (.getfield 139, 3) := by decide +kernel
theorem dX9_book_133 : decode cX9_book 133 = .ok (.irem, 1) := by decide +kernel
theorem dX9_book_134 : decode cX9_book 134 = .ok (.ireturn, 1) := by decide +kernel
theorem dX9_book_135 : decode cX9_book 135 = .ok (.aload_n 0, 1) := by decide +kernel
theorem dX9_book_136 : decode cX9_book 136 = .ok (.getfield 31, 3) := by decide +kernel
theorem dX9_book_139 : decode cX9_book 139 = .ok (.iload_n 3, 1) := by decide +kernel
theorem dX9_book_140 : decode cX9_book 140 = .ok (.iaload, 1) := by decide +kernel
theorem dX9_book_141 : decode cX9_book 141 = .ok (.aload_n 0, 1) := by decide +kernel
theorem dX9_book_142 : decode cX9_book 142 = .ok (.getfield 139, 3) := by decide +kernel
theorem dX9_book_145 : decode cX9_book 145 = .ok (.idiv, 1) := by decide +kernel
theorem dX9_book_146 : decode cX9_book 146 = .ok (.ireturn, 1) := by decide +kernel
theorem dX9_book_147 : decode cX9_book 147 = .ok (.aload_n 0, 1) := by decide +kernel
theorem dX9_book_148 : decode cX9_book 148 = .ok (.getfield 37, 3) := by decide +kernel
theorem dX9_book_151 : decode cX9_book 151 = .ok (.iload_n 3, 1) := by decide +kernel
theorem dX9_book_152 : decode cX9_book 152 = .ok (.iaload, 1) := by decide +kernel
theorem dX9_book_153 : decode cX9_book 153 = .ok (.ireturn, 1) := by decide +kernel
theorem dX9_book_154 : decode cX9_book 154 = .ok (.aload_n 0, 1) := by decide +kernel
theorem dX9_book_155 : decode cX9_book 155 = .ok (.iload 4, 2) := by decide +kernel
theorem dX9_book_157 : decode cX9_book 157 = .ok (.aload_n 0, 1) := by decide +kernel
theorem dX9_book_158 : decode cX9_book 158 = .ok (.getfield 200, 3) := by decide +kernel
theorem dX9_book_161 : decode cX9_book 161 = .ok (.invokevirtual 206, 3) := by decide +kernel
theorem dX9_book_164 : decode cX9_book 164 = .ok (.ireturn, 1) := by decide +kernel
theorem dX9_book_165 : decode cX9_book 165 = .ok (.aload_n 0, 1) := by decide +kernel
theorem dX9_book_166 : decode cX9_book 166 = .ok (.iload 4, 2) := by decide +kernel
theorem dX9_book_168 : decode cX9_book 168 = .ok (.aload_n 0, 1) := by decide +kernel
theorem dX9_book_169 : decode cX9_book 169 = .ok (.getfield 200, 3) := by decide +kernel
theorem dX9_book_172 : decode cX9_book 172 = .ok (.invokevirtual 214, 3) := by decide +kernel
theorem dX9_book_175 : decode cX9_book 175 = .ok (.ldc 217, 2) := by decide +kernel
theorem dX9_book_177 : decode cX9_book 177 = .ok (.iadd, 1) := by decide +kernel
theorem dX9_book_178 : decode cX9_book 178 = .ok (.ireturn, 1) := by decide +kernel
theorem dX9_book_179 : decode cX9_book 179 = .ok (.iload_n 1, 1) := by decide +kernel
theorem dX9_book_180 : decode cX9_book 180 = .ok (.aload_n 0, 1) := by decide +kernel
theorem dX9_book_181 : decode cX9_book 181 = .ok (.getfield 13, 3) := by decide +kernel
theorem dX9_book_184 : decode cX9_book 184 = .ok (.iconst 0, 1) := by decide +kernel
theorem dX9_book_185 : decode cX9_book 185 = .ok (.iaload, 1) := by decide +kernel
theorem dX9_book_186 : decode cX9_book 186 = .ok (.if_icmp .gt 16, 3) := by decide +kernel
theorem dX9_book_189 : decode cX9_book 189 = .ok (.aload_n 0, 1) := by decide +kernel
theorem dX9_book_190 : decode cX9_book 190 = .ok (.getfield 13, 3) := by decide +kernel
theorem dX9_book_193 : decode cX9_book 193 = .ok (.bipush 28, 2) := by decide +kernel
theorem dX9_book_195 : decode cX9_book 195 = .ok (.iload 4, 2) := by decide +kernel
theorem dX9_book_197 : decode cX9_book 197 = .ok (.iadd, 1) := by decide +kernel
theorem dX9_book_198 : decode cX9_book 198 = .ok (.iaload, 1) := by decide +kernel
theorem dX9_book_199 : decode cX9_book 199 = .ok (.goto 4, 3) := by decide +kernel
theorem dX9_book_202 : decode cX9_book 202 = .ok (.iconst 0, 1) := by decide +kernel
theorem dX9_book_203 : decode cX9_book 203 = .ok (.ireturn, 1) := by decide +kernel
theorem dX9_isSheet_0 : decode cX9_isSheet 0 = .ok (.iload_n 1, 1) := by decide +kernel
theorem dX9_isSheet_1 : decode cX9_isSheet 1 = .ok (.i2l, 1) := by decide +kernel
theorem dX9_isSheet_2 : decode cX9_isSheet 2 = .ok (.lconst 0, 1) := by decide +kernel
theorem dX9_isSheet_3 : decode cX9_isSheet 3 = .ok (.aload_n 0, 1) := by decide +kernel
theorem dX9_isSheet_4 : decode cX9_isSheet 4 = .ok (.invokevirtual 188, 3) := by decide +kernel
theorem dX9_isSheet_7 : decode cX9_isSheet 7 = .ok (.iconst 1, 1) := by decide +kernel
theorem dX9_isSheet_8 : decode cX9_isSheet 8 = .ok (.isub, 1) := by decide +kernel
theorem dX9_isSheet_9 : decode cX9_isSheet 9 = .ok (.i2l, 1) := by decide +kernel
theorem dX9_isSheet_10 : decode cX9_isSheet 10 = .ok (.invokestatic 57, 3) := by decide +kernel
theorem dX9_isSheet_13 : decode cX9_isSheet 13 = .ok (.ireturn, 1) := by decide +kernel
theorem dX9_number_0 : decode cX9_number 0 = .ok (.aload_n 0, 1) := by decide +kernel
theorem dX9_number_1 : decode cX9_number 1 = .ok (.iload_n 1, 1) := by decide +kernel
theorem dX9_number_2 : decode cX9_number 2 = .ok (.invokevirtual 218, 3) := by decide +kernel
theorem dX9_number_5 : decode cX9_number 5 = .ok (.ifCond .eq 22, 3) := by decide +kernel
theorem dX9_number_8 : decode cX9_number 8 = .ok (.iload_n 2, 1) := by decide +kernel
theorem dX9_number_9 : decode cX9_number 9 = .ok (.i2l, 1) := by decide +kernel
theorem dX9_number_10 : decode cX9_number 10 = .ok (.lconst 1, 1) := by decide +kernel
theorem dX9_number_11 : decode cX9_number 11 = .ok (.aload_n 0, 1) := by decide +kernel
theorem dX9_number_12 : decode cX9_number 12 = .ok (.aload_n 0, 1) := by decide +kernel
theorem dX9_number_13 : decode cX9_number 13 = .ok (.iload_n 1, 1) := by decide +kernel
theorem dX9_number_14 : decode cX9_number 14 = .ok (.invokevirtual 191, 3) := by decide +kernel
theorem dX9_number_17 : decode cX9_number 17 = .ok (.invokevirtual 151, 3) := by decide +kernel
theorem dX9_number_20 : decode cX9_number 20 = .ok (.i2l, 1) := by decide +kernel
theorem dX9_number_21 : decode cX9_number 21 = .ok (.invokestatic 57, 3) := by decide +kernel
theorem dX9_number_24 : decode cX9_number 24 = .ok (.ifCond .ne 5, 3) := by decide +kernel
theorem dX9_number_27 : decode cX9_number 27 = .ok (.iconst (-1), 1) := by decide +kernel
theorem dX9_number_28 : decode cX9_number 28 = .ok (.ireturn, 1) := by decide +kernel
theorem dX9_number_29 : decode cX9_number 29 = .ok (.aload_n 0, 1) := by decide +kernel
theorem dX9_number_30 : decode cX9_number 30 = .ok (.iload_n 1, 1) := by decide +kernel
theorem dX9_number_31 : decode cX9_number 31 = .ok (.iload_n 2, 1) := by decide +kernel
theorem dX9_number_32 : decode cX9_number 32 = .ok (.invokevirtual 203, 3) := by decide +kernel
theorem dX9_number_35 : decode cX9_number 35 = .ok (.ireturn, 1) := by decide +kernel
theorem dX9_spoiledMany_0 : decode cX9_spoiledMany 0 = .ok (.iconst 0, 1) := by decide +kernel
theorem dX9_spoiledMany_1 : decode cX9_spoiledMany 1 = .ok (.istore_n 1, 1) := by decide +kernel
theorem dX9_spoiledMany_2 : decode cX9_spoiledMany 2 = .ok (.iconst 0, 1) := by decide +kernel
theorem dX9_spoiledMany_3 : decode cX9_spoiledMany 3 = .ok (.istore_n 2, 1) := by decide +kernel
theorem dX9_spoiledMany_4 : decode cX9_spoiledMany 4 = .ok (.iload_n 2, 1) := by decide +kernel
theorem dX9_spoiledMany_5 : decode cX9_spoiledMany 5 = .ok (.bipush 104, 2) := by decide +kernel
theorem dX9_spoiledMany_7 : decode cX9_spoiledMany 7 = .ok (.if_icmp .ge 21, 3) := by decide +kernel
theorem dX9_spoiledMany_10 : decode cX9_spoiledMany 10 = .ok (.iload_n 1, 1) := by decide +kernel
theorem dX9_spoiledMany_11 : decode cX9_spoiledMany 11 = .ok (.aload_n 0, 1) := by decide +kernel
theorem dX9_spoiledMany_12 : decode cX9_spoiledMany 12 = .ok (.getfield 13, 3) := by decide +kernel
theorem dX9_spoiledMany_15 : decode cX9_spoiledMany 15 = .ok (.bipush 28, 2) := by decide +kernel
theorem dX9_spoiledMany_17 : decode cX9_spoiledMany 17 = .ok (.iload_n 2, 1) := by decide +kernel
theorem dX9_spoiledMany_18 : decode cX9_spoiledMany 18 = .ok (.iadd, 1) := by decide +kernel
theorem dX9_spoiledMany_19 : decode cX9_spoiledMany 19 = .ok (.iaload, 1) := by decide +kernel
theorem dX9_spoiledMany_20 : decode cX9_spoiledMany 20 = .ok (.iadd, 1) := by decide +kernel
theorem dX9_spoiledMany_21 : decode cX9_spoiledMany 21 = .ok (.istore_n 1, 1) := by decide +kernel
theorem dX9_spoiledMany_22 : decode cX9_spoiledMany 22 = .ok (.iinc 2 1, 3) := by decide +kernel
theorem dX9_spoiledMany_25 : decode cX9_spoiledMany 25 = .ok (.goto (-21), 3) := by decide +kernel
theorem dX9_spoiledMany_28 : decode cX9_spoiledMany 28 = .ok (.iload_n 1, 1) := by decide +kernel
theorem dX9_spoiledMany_29 : decode cX9_spoiledMany 29 = .ok (.ireturn, 1) := by decide +kernel
theorem dX9_spoil_0 : decode cX9_spoil 0 = .ok (.aload_n 0, 1) := by decide +kernel
theorem dX9_spoil_1 : decode cX9_spoil 1 = .ok (.iload_n 1, 1) := by decide +kernel
theorem dX9_spoil_2 : decode cX9_spoil 2 = .ok (.invokevirtual 218, 3) := by decide +kernel
theorem dX9_spoil_5 : decode cX9_spoil 5 = .ok (.ifCond .eq 13, 3) := by decide +kernel
theorem dX9_spoil_8 : decode cX9_spoil 8 = .ok (.iload_n 2, 1) := by decide +kernel
theorem dX9_spoil_9 : decode cX9_spoil 9 = .ok (.i2l, 1) := by decide +kernel
theorem dX9_spoil_10 : decode cX9_spoil 10 = .ok (.lconst 0, 1) := by decide +kernel
theorem dX9_spoil_11 : decode cX9_spoil 11 = .ok (.lconst 1, 1) := by decide +kernel
theorem dX9_spoil_12 : decode cX9_spoil 12 = .ok (.invokestatic 57, 3) := by decide +kernel
theorem dX9_spoil_15 : decode cX9_spoil 15 = .ok (.ifCond .ne 5, 3) := by decide +kernel
theorem dX9_spoil_18 : decode cX9_spoil 18 = .ok (.iconst (-1), 1) := by decide +kernel
theorem dX9_spoil_19 : decode cX9_spoil 19 = .ok (.ireturn, 1) := by decide +kernel
theorem dX9_spoil_20 : decode cX9_spoil 20 = .ok (.aload_n 0, 1) := by decide +kernel
theorem dX9_spoil_21 : decode cX9_spoil 21 = .ok (.getfield 13, 3) := by decide +kernel
theorem dX9_spoil_24 : decode cX9_spoil 24 = .ok (.bipush 28, 2) := by decide +kernel
theorem dX9_spoil_26 : decode cX9_spoil 26 = .ok (.iload_n 1, 1) := by decide +kernel
theorem dX9_spoil_27 : decode cX9_spoil 27 = .ok (.iadd, 1) := by decide +kernel
theorem dX9_spoil_28 : decode cX9_spoil 28 = .ok (.iaload, 1) := by decide +kernel
theorem dX9_spoil_29 : decode cX9_spoil 29 = .ok (.iload_n 2, 1) := by decide +kernel
theorem dX9_spoil_30 : decode cX9_spoil 30 = .ok (.if_icmp .ne 6, 3) := by decide +kernel
theorem dX9_spoil_33 : decode cX9_spoil 33 = .ok (.bipush (-2), 2) := by decide +kernel
theorem dX9_spoil_35 : decode cX9_spoil 35 = .ok (.ireturn, 1) := by decide +kernel
theorem dX9_spoil_36 : decode cX9_spoil 36 = .ok (.aload_n 0, 1) := by decide +kernel
theorem dX9_spoil_37 : decode cX9_spoil 37 = .ok (.invokevirtual 109, 3) := by decide +kernel
theorem dX9_spoil_40 : decode cX9_spoil 40 = .ok (.aload_n 0, 1) := by decide +kernel
theorem dX9_spoil_41 : decode cX9_spoil 41 = .ok (.getfield 13, 3) := by decide +kernel
theorem dX9_spoil_44 : decode cX9_spoil 44 = .ok (.bipush 28, 2) := by decide +kernel
theorem dX9_spoil_46 : decode cX9_spoil 46 = .ok (.iload_n 1, 1) := by decide +kernel
theorem dX9_spoil_47 : decode cX9_spoil 47 = .ok (.iadd, 1) := by decide +kernel
theorem dX9_spoil_48 : decode cX9_spoil 48 = .ok (.iload_n 2, 1) := by decide +kernel
theorem dX9_spoil_49 : decode cX9_spoil 49 = .ok (.iastore, 1) := by decide +kernel
theorem dX9_spoil_50 : decode cX9_spoil 50 = .ok (.aload_n 0, 1) := by decide +kernel
theorem dX9_spoil_51 : decode cX9_spoil 51 = .ok (.invokevirtual 221, 3) := by decide +kernel
theorem dX9_spoil_54 : decode cX9_spoil 54 = .ok (.ireturn, 1) := by decide +kernel
theorem dX9_sheet_0 : decode cX9_sheet 0 = .ok (.aload_n 0, 1) := by decide +kernel
theorem dX9_sheet_1 : decode cX9_sheet 1 = .ok (.iload_n 1, 1) := by decide +kernel
theorem dX9_sheet_2 : decode cX9_sheet 2 = .ok (.invokevirtual 218, 3) := by decide +kernel
theorem dX9_sheet_5 : decode cX9_sheet 5 = .ok (.ifCond .eq 15, 3) := by decide +kernel
theorem dX9_sheet_8 : decode cX9_sheet 8 = .ok (.iload_n 2, 1) := by decide +kernel
theorem dX9_sheet_9 : decode cX9_sheet 9 = .ok (.i2l, 1) := by decide +kernel
theorem dX9_sheet_10 : decode cX9_sheet 10 = .ok (.lconst 0, 1) := by decide +kernel
theorem dX9_sheet_11 : decode cX9_sheet 11 = .ok (.ldc2_w 95, 3) := by decide +kernel
theorem dX9_sheet_14 : decode cX9_sheet 14 = .ok (.invokestatic 57, 3) := by decide +kernel
theorem dX9_sheet_17 : decode cX9_sheet 17 = .ok (.ifCond .ne 5, 3) := by decide +kernel
theorem dX9_sheet_20 : decode cX9_sheet 20 = .ok (.iconst (-1), 1) := by decide +kernel
theorem dX9_sheet_21 : decode cX9_sheet 21 = .ok (.ireturn, 1) := by decide +kernel
theorem dX9_sheet_22 : decode cX9_sheet 22 = .ok (.aload_n 0, 1) := by decide +kernel
theorem dX9_sheet_23 : decode cX9_sheet 23 = .ok (.aload_n 0, 1) := by decide +kernel
theorem dX9_sheet_24 : decode cX9_sheet 24 = .ok (.iload_n 1, 1) := by decide +kernel
theorem dX9_sheet_25 : decode cX9_sheet 25 = .ok (.invokevirtual 191, 3) := by decide +kernel
theorem dX9_sheet_28 : decode cX9_sheet 28 = .ok (.invokevirtual 151, 3) := by decide +kernel
theorem dX9_sheet_31 : decode cX9_sheet 31 = .ok (.istore_n 3, 1) := by decide +kernel
theorem dX9_sheet_32 : decode cX9_sheet 32 = .ok (.aload_n 0, 1) := by decide +kernel
theorem dX9_sheet_33 : decode cX9_sheet 33 = .ok (.iload_n 1, 1) := by decide +kernel
theorem dX9_sheet_34 : decode cX9_sheet 34 = .ok (.iconst 1, 1) := by decide +kernel
theorem dX9_sheet_35 : decode cX9_sheet 35 = .ok (.invokevirtual 203, 3) := by decide +kernel
theorem dX9_sheet_38 : decode cX9_sheet 38 = .ok (.istore 4, 2) := by decide +kernel
theorem dX9_sheet_40 : decode cX9_sheet 40 = .ok (.iload 4, 2) := by decide +kernel
theorem dX9_sheet_42 : decode cX9_sheet 42 = .ok (.istore 5, 2) := by decide +kernel
theorem dX9_sheet_44 : decode cX9_sheet 44 = .ok (.iconst 0, 1) := by decide +kernel
theorem dX9_sheet_45 : decode cX9_sheet 45 = .ok (.istore 6, 2) := by decide +kernel
theorem dX9_sheet_47 : decode cX9_sheet 47 = .ok (.iconst 1, 1) := by decide +kernel
theorem dX9_sheet_48 : decode cX9_sheet 48 = .ok (.istore 7, 2) := by decide +kernel
theorem dX9_sheet_50 : decode cX9_sheet 50 = .ok (.iload 7, 2) := by decide +kernel
theorem dX9_sheet_52 : decode cX9_sheet 52 = .ok (.iload_n 3, 1) := by decide +kernel
theorem dX9_sheet_53 : decode cX9_sheet 53 = .ok (.if_icmp .gt 71, 3) := by decide +kernel
theorem dX9_sheet_56 : decode cX9_sheet 56 = .ok (.aload_n 0, 1) := by decide +kernel
theorem dX9_sheet_57 : decode cX9_sheet 57 = .ok (.iload_n 1, 1) := by decide +kernel
theorem dX9_sheet_58 : decode cX9_sheet 58 = .ok (.iload 7, 2) := by decide +kernel
theorem dX9_sheet_60 : decode cX9_sheet 60 = .ok (.invokevirtual 203, 3) := by decide +kernel
theorem dX9_sheet_63 : decode cX9_sheet 63 = .ok (.istore 8, 2) := by decide +kernel
theorem dX9_sheet_65 : decode cX9_sheet 65 = .ok (.iload 8, 2) := by decide +kernel
theorem dX9_sheet_67 : decode cX9_sheet 67 = .ok (.iload 4, 2) := by decide +kernel
theorem dX9_sheet_69 : decode cX9_sheet 69 = .ok (.if_icmp .ge 8, 3) := by decide +kernel
theorem dX9_sheet_72 : decode cX9_sheet 72 = .ok (.iload 8, 2) := by decide +kernel
theorem dX9_sheet_74 : decode cX9_sheet 74 = .ok (.goto 5, 3) := by decide +kernel
theorem dX9_sheet_77 : decode cX9_sheet 77 = .ok (.iload 4, 2) := by decide +kernel
theorem dX9_sheet_79 : decode cX9_sheet 79 = .ok (.istore 4, 2) := by decide +kernel
theorem dX9_sheet_81 : decode cX9_sheet 81 = .ok (.iload 8, 2) := by decide +kernel
theorem dX9_sheet_83 : decode cX9_sheet 83 = .ok (.iload 5, 2) := by decide +kernel
theorem dX9_sheet_85 : decode cX9_sheet 85 = .ok (.if_icmp .le 8, 3) := by decide +kernel
theorem dX9_sheet_88 : decode cX9_sheet 88 = .ok (.iload 8, 2) := by decide +kernel
theorem dX9_sheet_90 : decode cX9_sheet 90 = .ok (.goto 5, 3) := by decide +kernel
theorem dX9_sheet_93 : decode cX9_sheet 93 = .ok (.iload 5, 2) := by decide +kernel
theorem dX9_sheet_95 : decode cX9_sheet 95 = .ok (.istore 5, 2) := by decide +kernel
theorem dX9_sheet_97 : decode cX9_sheet 97 = .ok (.iload 6, 2) := by decide +kernel
theorem dX9_sheet_99 : decode cX9_sheet 99 = .ok (.iload 8, 2) := by decide +kernel
theorem dX9_sheet_101 : decode cX9_sheet 101 = .ok (.aload_n 0, 1) := by decide +kernel
theorem dX9_sheet_102 : decode cX9_sheet 102 = .ok (.getfield 13, 3) := by decide +kernel
theorem dX9_sheet_105 : decode cX9_sheet 105 = .ok (.iconst 0, 1) := by decide +kernel
theorem dX9_sheet_106 : decode cX9_sheet 106 = .ok (.iaload, 1) := by decide +kernel
theorem dX9_sheet_107 : decode cX9_sheet 107 = .ok (.if_icmp .le 7, 3) := by decide +kernel
theorem dX9_sheet_110 : decode cX9_sheet 110 = .ok (.iconst 1, 1) := by decide +kernel
theorem dX9_sheet_111 : decode cX9_sheet 111 = .ok (.goto 4, 3) := by decide +kernel
theorem dX9_sheet_114 : decode cX9_sheet 114 = .ok (.iconst 0, 1) := by decide +kernel
theorem dX9_sheet_115 : decode cX9_sheet 115 = .ok (.iadd, 1) := by decide +kernel
theorem dX9_sheet_116 : decode cX9_sheet 116 = .ok (.istore 6, 2) := by decide +kernel
theorem dX9_sheet_118 : decode cX9_sheet 118 = .ok (.iinc 7 1, 3) := by decide +kernel
theorem dX9_sheet_121 : decode cX9_sheet 121 = .ok (.goto (-71), 3) := by decide +kernel
theorem dX9_sheet_124 : decode cX9_sheet 124 = .ok (.iload_n 2, 1) := by decide +kernel
theorem dX9_sheet_125 : decode cX9_sheet 125 = .ok (.ifCond .ne 11, 3) := by decide +kernel
theorem dX9_sheet_128 : decode cX9_sheet 128 = .ok (.aload_n 0, 1) := by decide +kernel
theorem dX9_sheet_129 : decode cX9_sheet 129 = .ok (.iload_n 1, 1) := by decide +kernel
theorem dX9_sheet_130 : decode cX9_sheet 130 = .ok (.invokevirtual 191, 3) := by decide +kernel
theorem dX9_sheet_133 : decode cX9_sheet 133 = .ok (.goto 42, 3) := by decide +kernel
theorem dX9_sheet_136 : decode cX9_sheet 136 = .ok (.iload_n 2, 1) := by decide +kernel
theorem dX9_sheet_137 : decode cX9_sheet 137 = .ok (.iconst 1, 1) := by decide +kernel
theorem dX9_sheet_138 : decode cX9_sheet 138 = .ok (.if_icmp .ne 15, 3) := by decide +kernel
theorem dX9_sheet_141 : decode cX9_sheet 141 = .ok (.aload_n 0, 1) := by decide +kernel
theorem dX9_sheet_142 : decode cX9_sheet 142 = .ok (.getfield 13, 3) := by decide +kernel
theorem dX9_sheet_145 : decode cX9_sheet 145 = .ok (.bipush 28, 2) := by decide +kernel
theorem dX9_sheet_147 : decode cX9_sheet 147 = .ok (.iload_n 1, 1) := by decide +kernel
theorem dX9_sheet_148 : decode cX9_sheet 148 = .ok (.iadd, 1) := by decide +kernel
theorem dX9_sheet_149 : decode cX9_sheet 149 = .ok (.iaload, 1) := by decide +kernel
theorem dX9_sheet_150 : decode cX9_sheet 150 = .ok (.goto 25, 3) := by decide +kernel
theorem dX9_sheet_153 : decode cX9_sheet 153 = .ok (.iload_n 2, 1) := by decide +kernel
theorem dX9_sheet_154 : decode cX9_sheet 154 = .ok (.iconst 2, 1) := by decide +kernel
theorem dX9_sheet_155 : decode cX9_sheet 155 = .ok (.if_icmp .ne 8, 3) := by decide +kernel
theorem dX9_sheet_158 : decode cX9_sheet 158 = .ok (.iload 4, 2) := by decide +kernel
theorem dX9_sheet_160 : decode cX9_sheet 160 = .ok (.goto 15, 3) := by decide +kernel
theorem dX9_sheet_163 : decode cX9_sheet 163 = .ok (.iload_n 2, 1) := by decide +kernel
theorem dX9_sheet_164 : decode cX9_sheet 164 = .ok (.iconst 3, 1) := by decide +kernel
theorem dX9_sheet_165 : decode cX9_sheet 165 = .ok (.if_icmp .ne 8, 3) := by decide +kernel
theorem dX9_sheet_168 : decode cX9_sheet 168 = .ok (.iload 5, 2) := by decide +kernel
theorem dX9_sheet_170 : decode cX9_sheet 170 = .ok (.goto 5, 3) := by decide +kernel
theorem dX9_sheet_173 : decode cX9_sheet 173 = .ok (.iload 6, 2) := by decide +kernel
theorem dX9_sheet_175 : decode cX9_sheet 175 = .ok (.ireturn, 1) := by decide +kernel
theorem dX9_missing_0 : decode cX9_missing 0 = .ok (.iload_n 1, 1) := by decide +kernel
theorem dX9_missing_1 : decode cX9_missing 1 = .ok (.bipush (-2), 2) := by decide +kernel
theorem dX9_missing_3 : decode cX9_missing 3 = .ok (.if_icmp .ge 5, 3) := by decide +kernel
theorem dX9_missing_6 : decode cX9_missing 6 = .ok (.iconst (-1), 1) := by decide +kernel
theorem dX9_missing_7 : decode cX9_missing 7 = .ok (.ireturn, 1) := by decide +kernel
theorem dX9_missing_8 : decode cX9_missing 8 = .ok (.aload_n 0, 1) := by decide +kernel
theorem dX9_missing_9 : decode cX9_missing 9 = .ok (.invokevirtual 188, 3) := by decide +kernel
theorem dX9_missing_12 : decode cX9_missing 12 = .ok (.istore_n 2, 1) := by decide +kernel
theorem dX9_missing_13 : decode cX9_missing 13 = .ok (.iconst 0, 1) := by decide +kernel
theorem dX9_missing_14 : decode cX9_missing 14 = .ok (.istore_n 3, 1) := by decide +kernel
theorem dX9_missing_15 : decode cX9_missing 15 = .ok (.iload_n 3, 1) := by decide +kernel
theorem dX9_missing_16 : decode cX9_missing 16 = .ok (.sipush 440, 3) := by decide +kernel
theorem dX9_missing_19 : decode cX9_missing 19 = .ok (.if_icmp .ge 16, 3) := by decide +kernel
theorem dX9_missing_22 : decode cX9_missing 22 = .ok (.aload_n 0, 1) := by decide +kernel
theorem dX9_missing_23 : decode cX9_missing 23 = .ok (.getfield 49, 3) := by decide +kernel
theorem dX9_missing_26 : decode cX9_missing 26 = .ok (.iload_n 3, 1) := by decide +kernel
theorem dX9_missing_27 : decode cX9_missing 27 = .ok (.iconst 0, 1) := by decide +kernel
theorem dX9_missing_28 : decode cX9_missing 28 = .ok (.bastore, 1) := by decide +kernel
theorem dX9_missing_29 : decode cX9_missing 29 = .ok (.iinc 3 1, 3) := by decide +kernel
theorem dX9_missing_32 : decode cX9_missing 32 = .ok (.goto (-17), 3) := by decide +kernel
theorem dX9_missing_35 : decode cX9_missing 35 = .ok (.iconst 0, 1) := by decide +kernel
theorem dX9_missing_36 : decode cX9_missing 36 = .ok (.istore_n 3, 1) := by decide +kernel
theorem dX9_missing_37 : decode cX9_missing 37 = .ok (.iload_n 3, 1) := by decide +kernel
theorem dX9_missing_38 : decode cX9_missing 38 = .ok (.iload_n 2, 1) := by decide +kernel
theorem dX9_missing_39 : decode cX9_missing 39 = .ok (.if_icmp .ge 82, 3) := by decide +kernel
theorem dX9_missing_42 : decode cX9_missing 42 = .ok (.aload_n 0, 1) := by decide +kernel
theorem dX9_missing_43 : decode cX9_missing 43 = .ok (.aload_n 0, 1) := by decide +kernel
theorem dX9_missing_44 : decode cX9_missing 44 = .ok (.iload_n 3, 1) := by decide +kernel
theorem dX9_missing_45 : decode cX9_missing 45 = .ok (.invokevirtual 191, 3) := by decide +kernel
theorem dX9_missing_48 : decode cX9_missing 48 = .ok (.invokevirtual 151, 3) := by decide +kernel
theorem dX9_missing_51 : decode cX9_missing 51 = .ok (.istore 4, 2) := by decide +kernel
theorem dX9_missing_53 : decode cX9_missing 53 = .ok (.iconst 1, 1) := by decide +kernel
theorem dX9_missing_54 : decode cX9_missing 54 = .ok (.istore 5, 2) := by decide +kernel
theorem dX9_missing_56 : decode cX9_missing 56 = .ok (.iload 5, 2) := by decide +kernel
theorem dX9_missing_58 : decode cX9_missing 58 = .ok (.iload 4, 2) := by decide +kernel
theorem dX9_missing_60 : decode cX9_missing 60 = .ok (.if_icmp .gt 55, 3) := by decide +kernel
theorem dX9_missing_63 : decode cX9_missing 63 = .ok (.aload_n 0, 1) := by decide +kernel
theorem dX9_missing_64 : decode cX9_missing 64 = .ok (.getfield 13, 3) := by decide +kernel
theorem dX9_missing_67 : decode cX9_missing 67 = .ok (.bipush 28, 2) := by decide +kernel
theorem dX9_missing_69 : decode cX9_missing 69 = .ok (.iload_n 3, 1) := by decide +kernel
theorem dX9_missing_70 : decode cX9_missing 70 = .ok (.iadd, 1) := by decide +kernel
theorem dX9_missing_71 : decode cX9_missing 71 = .ok (.iaload, 1) := by decide +kernel
theorem dX9_missing_72 : decode cX9_missing 72 = .ok (.iconst 1, 1) := by decide +kernel
theorem dX9_missing_73 : decode cX9_missing 73 = .ok (.if_icmp .ne 42, 3) := by decide +kernel
theorem dX9_missing_76 : decode cX9_missing 76 = .ok (.aload_n 0, 1) := by decide +kernel
theorem dX9_missing_77 : decode cX9_missing 77 = .ok (.getfield 49, 3) := by decide +kernel
theorem dX9_missing_80 : decode cX9_missing 80 = .ok (.aload_n 0, 1) := by decide +kernel
theorem dX9_missing_81 : decode cX9_missing 81 = .ok (.iload_n 3, 1) := by decide +kernel
theorem dX9_missing_82 : decode cX9_missing 82 = .ok (.iload 5, 2) := by decide +kernel
theorem dX9_missing_84 : decode cX9_missing 84 = .ok (.invokevirtual 203, 3) := by decide +kernel
theorem dX9_missing_87 : decode cX9_missing 87 = .ok (.aload_n 0, 1) := by decide +kernel
theorem dX9_missing_88 : decode cX9_missing 88 = .ok (.iload_n 3, 1) := by decide +kernel
theorem dX9_missing_89 : decode cX9_missing 89 = .ok (.iload 5, 2) := by decide +kernel
theorem dX9_missing_91 : decode cX9_missing 91 = .ok (.invokevirtual 203, 3) := by decide +kernel
theorem dX9_missing_94 : decode cX9_missing 94 = .ok (.aload_n 0, 1) := by decide +kernel
theorem dX9_missing_95 : decode cX9_missing 95 = .ok (.getfield 13, 3) := by decide +kernel
theorem dX9_missing_98 : decode cX9_missing 98 = .ok (.iconst 0, 1) := by decide +kernel
theorem dX9_missing_99 : decode cX9_missing 99 = .ok (.iaload, 1) := by decide +kernel
theorem dX9_missing_100 : decode cX9_missing 100 = .ok (.if_icmp .gt 7, 3) := by decide +kernel
theorem dX9_missing_103 : decode cX9_missing 103 = .ok (.iconst 1, 1) := by decide +kernel
theorem dX9_missing_104 : decode cX9_missing 104 = .ok (.goto 4, 3) := by decide +kernel
theorem dX9_missing_107 : decode cX9_missing 107 = .ok (.iconst 0, 1) := by decide +kernel
theorem dX9_missing_108 : decode cX9_missing 108 = .ok (.bastore, 1) := by decide +kernel
theorem dX9_missing_109 : decode cX9_missing 109 = .ok (.iinc 5 1, 3) := by decide +kernel
theorem dX9_missing_112 : decode cX9_missing 112 = .ok (.goto (-56), 3) := by decide +kernel
theorem dX9_missing_115 : decode cX9_missing 115 = .ok (.iinc 3 1, 3) := by decide +kernel
theorem dX9_missing_118 : decode cX9_missing 118 = .ok (.goto (-81), 3) := by decide +kernel
theorem dX9_missing_121 : decode cX9_missing 121 = .ok (.iconst 0, 1) := by decide +kernel
theorem dX9_missing_122 : decode cX9_missing 122 = .ok (.istore_n 3, 1) := by decide +kernel
theorem dX9_missing_123 : decode cX9_missing 123 = .ok (.iconst 0, 1) := by decide +kernel
theorem dX9_missing_124 : decode cX9_missing 124 = .ok (.istore 4, 2) := by decide +kernel
theorem dX9_missing_126 : decode cX9_missing 126 = .ok (.iconst 1, 1) := by decide +kernel
theorem dX9_missing_127 : decode cX9_missing 127 = .ok (.istore 5, 2) := by decide +kernel
theorem dX9_missing_129 : decode cX9_missing 129 = .ok (.iload 5, 2) := by decide +kernel
theorem dX9_missing_131 : decode cX9_missing 131 = .ok (.aload_n 0, 1) := by decide +kernel
theorem dX9_missing_132 : decode cX9_missing 132 = .ok (.getfield 13, 3) := by decide +kernel
theorem dX9_missing_135 : decode cX9_missing 135 = .ok (.iconst 0, 1) := by decide +kernel
theorem dX9_missing_136 : decode cX9_missing 136 = .ok (.iaload, 1) := by decide +kernel
theorem dX9_missing_137 : decode cX9_missing 137 = .ok (.if_icmp .gt 52, 3) := by decide +kernel
theorem dX9_missing_140 : decode cX9_missing 140 = .ok (.aload_n 0, 1) := by decide +kernel
theorem dX9_missing_141 : decode cX9_missing 141 = .ok (.getfield 49, 3) := by decide +kernel
theorem dX9_missing_144 : decode cX9_missing 144 = .ok (.iload 5, 2) := by decide +kernel
theorem dX9_missing_146 : decode cX9_missing 146 = .ok (.baload, 1) := by decide +kernel
theorem dX9_missing_147 : decode cX9_missing 147 = .ok (.ifCond .eq 36, 3) := by decide +kernel
theorem dX9_missing_150 : decode cX9_missing 150 = .ok (.iload_n 3, 1) := by decide +kernel
theorem dX9_missing_151 : decode cX9_missing 151 = .ok (.iload_n 1, 1) := by decide +kernel
theorem dX9_missing_152 : decode cX9_missing 152 = .ok (.if_icmp .ne 6, 3) := by decide +kernel
theorem dX9_missing_155 : decode cX9_missing 155 = .ok (.iload 5, 2) := by decide +kernel
theorem dX9_missing_157 : decode cX9_missing 157 = .ok (.ireturn, 1) := by decide +kernel
theorem dX9_missing_158 : decode cX9_missing 158 = .ok (.iinc 3 1, 3) := by decide +kernel
theorem dX9_missing_161 : decode cX9_missing 161 = .ok (.iload 4, 2) := by decide +kernel
theorem dX9_missing_163 : decode cX9_missing 163 = .ok (.aload_n 0, 1) := by decide +kernel
theorem dX9_missing_164 : decode cX9_missing 164 = .ok (.getfield 49, 3) := by decide +kernel
theorem dX9_missing_167 : decode cX9_missing 167 = .ok (.iload 5, 2) := by decide +kernel
theorem dX9_missing_169 : decode cX9_missing 169 = .ok (.iconst 1, 1) := by decide +kernel
theorem dX9_missing_170 : decode cX9_missing 170 = .ok (.isub, 1) := by decide +kernel
theorem dX9_missing_171 : decode cX9_missing 171 = .ok (.baload, 1) := by decide +kernel
theorem dX9_missing_172 : decode cX9_missing 172 = .ok (.ifCond .eq 7, 3) := by decide +kernel
theorem dX9_missing_175 : decode cX9_missing 175 = .ok (.iconst 0, 1) := by decide +kernel
theorem dX9_missing_176 : decode cX9_missing 176 = .ok (.goto 4, 3) := by decide +kernel
theorem dX9_missing_179 : decode cX9_missing 179 = .ok (.iconst 1, 1) := by decide +kernel
theorem dX9_missing_180 : decode cX9_missing 180 = .ok (.iadd, 1) := by decide +kernel
theorem dX9_missing_181 : decode cX9_missing 181 = .ok (.istore 4, 2) := by decide +kernel
theorem dX9_missing_183 : decode cX9_missing 183 = .ok (.iinc 5 1, 3) := by decide +kernel
theorem dX9_missing_186 : decode cX9_missing 186 = .ok (.goto (-57), 3) := by decide +kernel
theorem dX9_missing_189 : decode cX9_missing 189 = .ok (.iload_n 1, 1) := by decide +kernel
theorem dX9_missing_190 : decode cX9_missing 190 = .ok (.iconst (-1), 1) := by decide +kernel
theorem dX9_missing_191 : decode cX9_missing 191 = .ok (.if_icmp .ne 7, 3) := by decide +kernel
theorem dX9_missing_194 : decode cX9_missing 194 = .ok (.iload_n 3, 1) := by decide +kernel
theorem dX9_missing_195 : decode cX9_missing 195 = .ok (.goto 16, 3) := by decide +kernel
theorem dX9_missing_198 : decode cX9_missing 198 = .ok (.iload_n 1, 1) := by decide +kernel
theorem dX9_missing_199 : decode cX9_missing 199 = .ok (.bipush (-2), 2) := by decide +kernel
theorem dX9_missing_201 : decode cX9_missing 201 = .ok (.if_icmp .ne 8, 3) := by decide +kernel
theorem dX9_missing_204 : decode cX9_missing 204 = .ok (.iload 4, 2) := by decide +kernel
theorem dX9_missing_206 : decode cX9_missing 206 = .ok (.goto 5, 3) := by decide +kernel
theorem dX9_missing_209 : decode cX9_missing 209 = .ok (.bipush (-4), 2) := by decide +kernel
theorem dX9_missing_211 : decode cX9_missing 211 = .ok (.ireturn, 1) := by decide +kernel
theorem dX9_count_0 : decode cX9_count 0 = .ok (.iload_n 1, 1) := by decide +kernel
theorem dX9_count_1 : decode cX9_count 1 = .ok (.tableswitch 86 0 6 #[43, 50, 57, 64, 71, 76, 81], 43) := by decide +kernel
theorem dX9_count_44 : decode cX9_count 44 = .ok (.aload_n 0, 1) := by decide +kernel
theorem dX9_count_45 : decode cX9_count 45 = .ok (.getfield 13, 3) := by decide +kernel
theorem dX9_count_48 : decode cX9_count 48 = .ok (.iconst 3, 1) := by decide +kernel
theorem dX9_count_49 : decode cX9_count 49 = .ok (.iaload, 1) := by decide +kernel
theorem dX9_count_50 : decode cX9_count 50 = .ok (.ireturn, 1) := by decide +kernel
theorem dX9_count_51 : decode cX9_count 51 = .ok (.aload_n 0, 1) := by decide +kernel
theorem dX9_count_52 : decode cX9_count 52 = .ok (.getfield 13, 3) := by decide +kernel
theorem dX9_count_55 : decode cX9_count 55 = .ok (.iconst 0, 1) := by decide +kernel
theorem dX9_count_56 : decode cX9_count 56 = .ok (.iaload, 1) := by decide +kernel
theorem dX9_count_57 : decode cX9_count 57 = .ok (.ireturn, 1) := by decide +kernel
theorem dX9_count_58 : decode cX9_count 58 = .ok (.aload_n 0, 1) := by decide +kernel
theorem dX9_count_59 : decode cX9_count 59 = .ok (.getfield 13, 3) := by decide +kernel
theorem dX9_count_62 : decode cX9_count 62 = .ok (.iconst 1, 1) := by decide +kernel
theorem dX9_count_63 : decode cX9_count 63 = .ok (.iaload, 1) := by decide +kernel
theorem dX9_count_64 : decode cX9_count 64 = .ok (.ireturn, 1) := by decide +kernel
theorem dX9_count_65 : decode cX9_count 65 = .ok (.aload_n 0, 1) := by decide +kernel
theorem dX9_count_66 : decode cX9_count 66 = .ok (.getfield 13, 3) := by decide +kernel
theorem dX9_count_69 : decode cX9_count 69 = .ok (.iconst 2, 1) := by decide +kernel
theorem dX9_count_70 : decode cX9_count 70 = .ok (.iaload, 1) := by decide +kernel
theorem dX9_count_71 : decode cX9_count 71 = .ok (.ireturn, 1) := by decide +kernel
theorem dX9_count_72 : decode cX9_count 72 = .ok (.aload_n 0, 1) := by decide +kernel
theorem dX9_count_73 : decode cX9_count 73 = .ok (.invokevirtual 221, 3) := by decide +kernel
theorem dX9_count_76 : decode cX9_count 76 = .ok (.ireturn, 1) := by decide +kernel
theorem dX9_count_77 : decode cX9_count 77 = .ok (.aload_n 0, 1) := by decide +kernel
theorem dX9_count_78 : decode cX9_count 78 = .ok (.getfield 106, 3) := by decide +kernel
theorem dX9_count_81 : decode cX9_count 81 = .ok (.ireturn, 1) := by decide +kernel
theorem dX9_count_82 : decode cX9_count 82 = .ok (.aload_n 0, 1) := by decide +kernel
theorem dX9_count_83 : decode cX9_count 83 = .ok (.getfield 61, 3) := by decide +kernel
theorem dX9_count_86 : decode cX9_count 86 = .ok (.ireturn, 1) := by decide +kernel
theorem dX9_count_87 : decode cX9_count 87 = .ok (.iconst (-1), 1) := by decide +kernel
theorem dX9_count_88 : decode cX9_count 88 = .ok (.ireturn, 1) := by decide +kernel

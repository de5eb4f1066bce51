theorem dX9_init_0 : decode cX9_init 0 = .ok (.aload_n 0, 1) := by decide +kernel
theorem dX9_init_1 : decode cX9_init 1 = .ok (.invokespecial 1, 3) := by decide +kernel
theorem dX9_init_4 : decode cX9_init 4 = .ok (.aload_n 0, 1) := by decide +kernel
theorem dX9_init_5 : decode cX9_init 5 = .ok (.sipush 200, 3) := by decide +kernel
theorem dX9_init_8 : decode cX9_init 8 = .ok (.newarray .int, 2) := by decide +kernel
theorem dX9_init_10 : decode cX9_init 10 = .ok (.putfield 7, 3) := by decide +kernel
theorem dX9_init_13 : decode cX9_init 13 = .ok (.aload_n 0, 1) := by decide +kernel
theorem dX9_init_14 : decode cX9_init 14 = .ok (.sipush 132, 3) := by decide +kernel
theorem dX9_init_17 : decode cX9_init 17 = .ok (.newarray .int, 2) := by decide +kernel
theorem dX9_init_19 : decode cX9_init 19 = .ok (.putfield 13, 3) := by decide +kernel
theorem dX9_init_22 : decode cX9_init 22 = .ok (.aload_n 0, 1) := by decide +kernel
theorem dX9_init_23 : decode cX9_init 23 = .ok (.sipush 792, 3) := by decide +kernel
theorem dX9_init_26 : decode cX9_init 26 = .ok (.newarray .int, 2) := by decide +kernel
theorem dX9_init_28 : decode cX9_init 28 = .ok (.putfield 16, 3) := by decide +kernel
theorem dX9_init_31 : decode cX9_init 31 = .ok (.aload_n 0, 1) := by decide +kernel
theorem dX9_init_32 : decode cX9_init 32 = .ok (.sipush 132, 3) := by decide +kernel
theorem dX9_init_35 : decode cX9_init 35 = .ok (.newarray .int, 2) := by decide +kernel
theorem dX9_init_37 : decode cX9_init 37 = .ok (.putfield 19, 3) := by decide +kernel
theorem dX9_init_40 : decode cX9_init 40 = .ok (.aload_n 0, 1) := by decide +kernel
theorem dX9_init_41 : decode cX9_init 41 = .ok (.iconst 4, 1) := by decide +kernel
theorem dX9_init_42 : decode cX9_init 42 = .ok (.newarray .int, 2) := by decide +kernel
theorem dX9_init_44 : decode cX9_init 44 = .ok (.putfield 22, 3) := by decide +kernel
theorem dX9_init_47 : decode cX9_init 47 = .ok (.aload_n 0, 1) := by decide +kernel
theorem dX9_init_48 : decode cX9_init 48 = .ok (.bipush 16, 2) := by decide +kernel
theorem dX9_init_50 : decode cX9_init 50 = .ok (.newarray .int, 2) := by decide +kernel
theorem dX9_init_52 : decode cX9_init 52 = .ok (.putfield 25, 3) := by decide +kernel
theorem dX9_init_55 : decode cX9_init 55 = .ok (.aload_n 0, 1) := by decide +kernel
theorem dX9_init_56 : decode cX9_init 56 = .ok (.bipush 16, 2) := by decide +kernel
theorem dX9_init_58 : decode cX9_init 58 = .ok (.newarray .int, 2) := by decide +kernel
theorem dX9_init_60 : decode cX9_init 60 = .ok (.putfield 28, 3) := by decide +kernel
theorem dX9_init_63 : decode cX9_init 63 = .ok (.aload_n 0, 1) := by decide +kernel
theorem dX9_init_64 : decode cX9_init 64 = .ok (.bipush 32, 2) := by decide +kernel
theorem dX9_init_66 : decode cX9_init 66 = .ok (.newarray .int, 2) := by decide +kernel
theorem dX9_init_68 : decode cX9_init 68 = .ok (.putfield 31, 3) := by decide +kernel
theorem dX9_init_71 : decode cX9_init 71 = .ok (.aload_n 0, 1) := by decide +kernel
theorem dX9_init_72 : decode cX9_init 72 = .ok (.bipush 32, 2) := by decide +kernel
theorem dX9_init_74 : decode cX9_init 74 = .ok (.newarray .int, 2) := by decide +kernel
theorem dX9_init_76 : decode cX9_init 76 = .ok (.putfield 34, 3) := by decide +kernel
theorem dX9_init_79 : decode cX9_init 79 = .ok (.aload_n 0, 1) := by decide +kernel
theorem dX9_init_80 : decode cX9_init 80 = .ok (.bipush 32, 2) := by decide +kernel
theorem dX9_init_82 : decode cX9_init 82 = .ok (.newarray .int, 2) := by decide +kernel
theorem dX9_init_84 : decode cX9_init 84 = .ok (.putfield 37, 3) := by decide +kernel
theorem dX9_init_87 : decode cX9_init 87 = .ok (.aload_n 0, 1) := by decide +kernel
theorem dX9_init_88 : decode cX9_init 88 = .ok (.bipush 33, 2) := by decide +kernel
theorem dX9_init_90 : decode cX9_init 90 = .ok (.newarray .int, 2) := by decide +kernel
theorem dX9_init_92 : decode cX9_init 92 = .ok (.putfield 40, 3) := by decide +kernel
theorem dX9_init_95 : decode cX9_init 95 = .ok (.aload_n 0, 1) := by decide +kernel
theorem dX9_init_96 : decode cX9_init 96 = .ok (.sipush 2200, 3) := by decide +kernel
theorem dX9_init_99 : decode cX9_init 99 = .ok (.newarray .int, 2) := by decide +kernel
theorem dX9_init_101 : decode cX9_init 101 = .ok (.putfield 43, 3) := by decide +kernel
theorem dX9_init_104 : decode cX9_init 104 = .ok (.aload_n 0, 1) := by decide +kernel
theorem dX9_init_105 : decode cX9_init 105 = .ok (.iconst 4, 1) := by decide +kernel
theorem dX9_init_106 : decode cX9_init 106 = .ok (.newarray .int, 2) := by decide +kernel
theorem dX9_init_108 : decode cX9_init 108 = .ok (.putfield 46, 3) := by decide +kernel
theorem dX9_init_111 : decode cX9_init 111 = .ok (.aload_n 0, 1) := by decide +kernel
theorem dX9_init_112 : decode cX9_init 112 = .ok (.sipush 440, 3) := by decide +kernel
theorem dX9_init_115 : decode cX9_init 115 = .ok (.newarray .boolean, 2) := by decide +kernel
theorem dX9_init_117 : decode cX9_init 117 = .ok (.putfield 49, 3) := by decide +kernel
theorem dX9_init_120 : decode cX9_init 120 = .ok (.aload_n 0, 1) := by decide +kernel
theorem dX9_init_121 : decode cX9_init 121 = .ok (.getfield 13, 3) := by decide +kernel
theorem dX9_init_124 : decode cX9_init 124 = .ok (.iconst 0, 1) := by decide +kernel
theorem dX9_init_125 : decode cX9_init 125 = .ok (.bipush 30, 2) := by decide +kernel
theorem dX9_init_127 : decode cX9_init 127 = .ok (.iastore, 1) := by decide +kernel
theorem dX9_init_128 : decode cX9_init 128 = .ok (.aload_n 0, 1) := by decide +kernel
theorem dX9_init_129 : decode cX9_init 129 = .ok (.getfield 13, 3) := by decide +kernel
theorem dX9_init_132 : decode cX9_init 132 = .ok (.iconst 1, 1) := by decide +kernel
theorem dX9_init_133 : decode cX9_init 133 = .ok (.iconst 2, 1) := by decide +kernel
theorem dX9_init_134 : decode cX9_init 134 = .ok (.iastore, 1) := by decide +kernel
theorem dX9_init_135 : decode cX9_init 135 = .ok (.aload_n 0, 1) := by decide +kernel
theorem dX9_init_136 : decode cX9_init 136 = .ok (.getfield 13, 3) := by decide +kernel
theorem dX9_init_139 : decode cX9_init 139 = .ok (.iconst 3, 1) := by decide +kernel
theorem dX9_init_140 : decode cX9_init 140 = .ok (.iconst 3, 1) := by decide +kernel
theorem dX9_init_141 : decode cX9_init 141 = .ok (.iastore, 1) := by decide +kernel
theorem dX9_init_142 : decode cX9_init 142 = .ok (.aload_n 0, 1) := by decide +kernel
theorem dX9_init_143 : decode cX9_init 143 = .ok (.getfield 13, 3) := by decide +kernel
theorem dX9_init_146 : decode cX9_init 146 = .ok (.iconst 4, 1) := by decide +kernel
theorem dX9_init_147 : decode cX9_init 147 = .ok (.bipush 10, 2) := by decide +kernel
theorem dX9_init_149 : decode cX9_init 149 = .ok (.iastore, 1) := by decide +kernel
theorem dX9_init_150 : decode cX9_init 150 = .ok (.aload_n 0, 1) := by decide +kernel
theorem dX9_init_151 : decode cX9_init 151 = .ok (.getfield 13, 3) := by decide +kernel
theorem dX9_init_154 : decode cX9_init 154 = .ok (.iconst 5, 1) := by decide +kernel
theorem dX9_init_155 : decode cX9_init 155 = .ok (.bipush 14, 2) := by decide +kernel
theorem dX9_init_157 : decode cX9_init 157 = .ok (.iastore, 1) := by decide +kernel
theorem dX9_init_158 : decode cX9_init 158 = .ok (.aload_n 0, 1) := by decide +kernel
theorem dX9_init_159 : decode cX9_init 159 = .ok (.getfield 13, 3) := by decide +kernel
theorem dX9_init_162 : decode cX9_init 162 = .ok (.bipush 6, 2) := by decide +kernel
theorem dX9_init_164 : decode cX9_init 164 = .ok (.bipush 10, 2) := by decide +kernel
theorem dX9_init_166 : decode cX9_init 166 = .ok (.iastore, 1) := by decide +kernel
theorem dX9_init_167 : decode cX9_init 167 = .ok (.aload_n 0, 1) := by decide +kernel
theorem dX9_init_168 : decode cX9_init 168 = .ok (.getfield 13, 3) := by decide +kernel
theorem dX9_init_171 : decode cX9_init 171 = .ok (.bipush 7, 2) := by decide +kernel
theorem dX9_init_173 : decode cX9_init 173 = .ok (.bipush 10, 2) := by decide +kernel
theorem dX9_init_175 : decode cX9_init 175 = .ok (.iastore, 1) := by decide +kernel
theorem dX9_init_176 : decode cX9_init 176 = .ok (.aload_n 0, 1) := by decide +kernel
theorem dX9_init_177 : decode cX9_init 177 = .ok (.getfield 13, 3) := by decide +kernel
theorem dX9_init_180 : decode cX9_init 180 = .ok (.bipush 8, 2) := by decide +kernel
theorem dX9_init_182 : decode cX9_init 182 = .ok (.iconst 1, 1) := by decide +kernel
theorem dX9_init_183 : decode cX9_init 183 = .ok (.iastore, 1) := by decide +kernel
theorem dX9_init_184 : decode cX9_init 184 = .ok (.aload_n 0, 1) := by decide +kernel
theorem dX9_init_185 : decode cX9_init 185 = .ok (.getfield 13, 3) := by decide +kernel
theorem dX9_init_188 : decode cX9_init 188 = .ok (.bipush 9, 2) := by decide +kernel
theorem dX9_init_190 : decode cX9_init 190 = .ok (.bipush 108, 2) := by decide +kernel
theorem dX9_init_192 : decode cX9_init 192 = .ok (.iastore, 1) := by decide +kernel
theorem dX9_init_193 : decode cX9_init 193 = .ok (.aload_n 0, 1) := by decide +kernel
theorem dX9_init_194 : decode cX9_init 194 = .ok (.getfield 13, 3) := by decide +kernel
theorem dX9_init_197 : decode cX9_init 197 = .ok (.bipush 13, 2) := by decide +kernel
theorem dX9_init_199 : decode cX9_init 199 = .ok (.iconst 3, 1) := by decide +kernel
theorem dX9_init_200 : decode cX9_init 200 = .ok (.iastore, 1) := by decide +kernel
theorem dX9_init_201 : decode cX9_init 201 = .ok (.aload_n 0, 1) := by decide +kernel
theorem dX9_init_202 : decode cX9_init 202 = .ok (.getfield 13, 3) := by decide +kernel
theorem dX9_init_205 : decode cX9_init 205 = .ok (.bipush 14, 2) := by decide +kernel
theorem dX9_init_207 : decode cX9_init 207 = .ok (.bipush 114, 2) := by decide +kernel
theorem dX9_init_209 : decode cX9_init 209 = .ok (.iastore, 1) := by decide +kernel
theorem dX9_init_210 : decode cX9_init 210 = .ok (.aload_n 0, 1) := by decide +kernel
theorem dX9_init_211 : decode cX9_init 211 = .ok (.getfield 13, 3) := by decide +kernel
theorem dX9_init_214 : decode cX9_init 214 = .ok (.bipush 15, 2) := by decide +kernel
theorem dX9_init_216 : decode cX9_init 216 = .ok (.bipush 98, 2) := by decide +kernel
theorem dX9_init_218 : decode cX9_init 218 = .ok (.iastore, 1) := by decide +kernel
theorem dX9_init_219 : decode cX9_init 219 = .ok (.aload_n 0, 1) := by decide +kernel
theorem dX9_init_220 : decode cX9_init 220 = .ok (.getfield 13, 3) := by decide +kernel
theorem dX9_init_223 : decode cX9_init 223 = .ok (.bipush 16, 2) := by decide +kernel
theorem dX9_init_225 : decode cX9_init 225 = .ok (.bipush 108, 2) := by decide +kernel
theorem dX9_init_227 : decode cX9_init 227 = .ok (.iastore, 1) := by decide +kernel
theorem dX9_init_228 : decode cX9_init 228 = .ok (.aload_n 0, 1) := by decide +kernel
theorem dX9_init_229 : decode cX9_init 229 = .ok (.getfield 13, 3) := by decide +kernel
theorem dX9_init_232 : decode cX9_init 232 = .ok (.bipush 18, 2) := by decide +kernel
theorem dX9_init_234 : decode cX9_init 234 = .ok (.iconst 2, 1) := by decide +kernel
theorem dX9_init_235 : decode cX9_init 235 = .ok (.iastore, 1) := by decide +kernel
theorem dX9_init_236 : decode cX9_init 236 = .ok (.aload_n 0, 1) := by decide +kernel
theorem dX9_init_237 : decode cX9_init 237 = .ok (.getfield 13, 3) := by decide +kernel
theorem dX9_init_240 : decode cX9_init 240 = .ok (.bipush 19, 2) := by decide +kernel
theorem dX9_init_242 : decode cX9_init 242 = .ok (.bipush 116, 2) := by decide +kernel
theorem dX9_init_244 : decode cX9_init 244 = .ok (.iastore, 1) := by decide +kernel
theorem dX9_init_245 : decode cX9_init 245 = .ok (.aload_n 0, 1) := by decide +kernel
theorem dX9_init_246 : decode cX9_init 246 = .ok (.getfield 13, 3) := by decide +kernel
theorem dX9_init_249 : decode cX9_init 249 = .ok (.bipush 20, 2) := by decide +kernel
theorem dX9_init_251 : decode cX9_init 251 = .ok (.bipush 114, 2) := by decide +kernel
theorem dX9_init_253 : decode cX9_init 253 = .ok (.iastore, 1) := by decide +kernel
theorem dX9_init_254 : decode cX9_init 254 = .ok (.return_, 1) := by decide +kernel
theorem dX9_in_0 : decode cX9_in 0 = .ok (.lload_n 0, 1) := by decide +kernel
theorem dX9_in_1 : decode cX9_in 1 = .ok (.lload_n 2, 1) := by decide +kernel
theorem dX9_in_2 : decode cX9_in 2 = .ok (.lcmp, 1) := by decide +kernel
theorem dX9_in_3 : decode cX9_in 3 = .ok (.ifCond .lt 14, 3) := by decide +kernel
theorem dX9_in_6 : decode cX9_in 6 = .ok (.lload_n 0, 1) := by decide +kernel
theorem dX9_in_7 : decode cX9_in 7 = .ok (.lload 4, 2) := by decide +kernel
theorem dX9_in_9 : decode cX9_in 9 = .ok (.lcmp, 1) := by decide +kernel
theorem dX9_in_10 : decode cX9_in 10 = .ok (.ifCond .gt 7, 3) := by decide +kernel
theorem dX9_in_13 : decode cX9_in 13 = .ok (.iconst 1, 1) := by decide +kernel
theorem dX9_in_14 : decode cX9_in 14 = .ok (.goto 4, 3) := by decide +kernel
theorem dX9_in_17 : decode cX9_in 17 = .ok (.iconst 0, 1) := by decide +kernel
theorem dX9_in_18 : decode cX9_in 18 = .ok (.ireturn, 1) := by decide +kernel
theorem dX9_isFold_0 : decode cX9_isFold 0 = .ok (.iload_n 0, 1) := by decide +kernel
theorem dX9_isFold_1 : decode cX9_isFold 1 = .ok (.bipush 114, 2) := by decide +kernel
theorem dX9_isFold_3 : decode cX9_isFold 3 = .ok (.if_icmp .eq 21, 3) := by decide +kernel
theorem dX9_isFold_6 : decode cX9_isFold 6 = .ok (.iload_n 0, 1) := by decide +kernel
theorem dX9_isFold_7 : decode cX9_isFold 7 = .ok (.bipush 108, 2) := by decide +kernel
theorem dX9_isFold_9 : decode cX9_isFold 9 = .ok (.if_icmp .eq 15, 3) := by decide +kernel
theorem dX9_isFold_12 : decode cX9_isFold 12 = .ok (.iload_n 0, 1) := by decide +kernel
theorem dX9_isFold_13 : decode cX9_isFold 13 = .ok (.bipush 116, 2) := by decide +kernel
theorem dX9_isFold_15 : decode cX9_isFold 15 = .ok (.if_icmp .eq 9, 3) := by decide +kernel
theorem dX9_isFold_18 : decode cX9_isFold 18 = .ok (.iload_n 0, 1) := by decide +kernel
theorem dX9_isFold_19 : decode cX9_isFold 19 = .ok (.bipush 98, 2) := by decide +kernel
theorem dX9_isFold_21 : decode cX9_isFold 21 = .ok (.if_icmp .ne 7, 3) := by decide +kernel
theorem dX9_isFold_24 : decode cX9_isFold 24 = .ok (.iconst 1, 1) := by decide +kernel
theorem dX9_isFold_25 : decode cX9_isFold 25 = .ok (.goto 4, 3) := by decide +kernel
theorem dX9_isFold_28 : decode cX9_isFold 28 = .ok (.iconst 0, 1) := by decide +kernel
theorem dX9_isFold_29 : decode cX9_isFold 29 = .ok (.ireturn, 1) := by decide +kernel
theorem dX9_isSide_0 : decode cX9_isSide 0 = .ok (.iload_n 0, 1) := by decide +kernel
theorem dX9_isSide_1 : decode cX9_isSide 1 = .ok (.bipush 114, 2) := by decide +kernel
theorem dX9_isSide_3 : decode cX9_isSide 3 = .ok (.if_icmp .eq 9, 3) := by decide +kernel
theorem dX9_isSide_6 : decode cX9_isSide 6 = .ok (.iload_n 0, 1) := by decide +kernel
theorem dX9_isSide_7 : decode cX9_isSide 7 = .ok (.bipush 108, 2) := by decide +kernel
theorem dX9_isSide_9 : decode cX9_isSide 9 = .ok (.if_icmp .ne 7, 3) := by decide +kernel
theorem dX9_isSide_12 : decode cX9_isSide 12 = .ok (.iconst 1, 1) := by decide +kernel
theorem dX9_isSide_13 : decode cX9_isSide 13 = .ok (.goto 4, 3) := by decide +kernel
theorem dX9_isSide_16 : decode cX9_isSide 16 = .ok (.iconst 0, 1) := by decide +kernel
theorem dX9_isSide_17 : decode cX9_isSide 17 = .ok (.ireturn, 1) := by decide +kernel
theorem dX9_write_0 : decode cX9_write 0 = .ok (.iload_n 1, 1) := by decide +kernel
theorem dX9_write_1 : decode cX9_write 1 = .ok (.i2l, 1) := by decide +kernel
theorem dX9_write_2 : decode cX9_write 2 = .ok (.ldc2_w 53, 3) := by decide +kernel
theorem dX9_write_5 : decode cX9_write 5 = .ok (.ldc2_w 55, 3) := by decide +kernel
theorem dX9_write_8 : decode cX9_write 8 = .ok (.invokestatic 57, 3) := by decide +kernel
theorem dX9_write_11 : decode cX9_write 11 = .ok (.ifCond .ne 5, 3) := by decide +kernel
theorem dX9_write_14 : decode cX9_write 14 = .ok (.iconst (-1), 1) := by decide +kernel
theorem dX9_write_15 : decode cX9_write 15 = .ok (.ireturn, 1) := by decide +kernel
theorem dX9_write_16 : decode cX9_write 16 = .ok (.aload_n 0, 1) := by decide +kernel
theorem dX9_write_17 : decode cX9_write 17 = .ok (.getfield 61, 3) := by decide +kernel
theorem dX9_write_20 : decode cX9_write 20 = .ok (.sipush 200, 3) := by decide +kernel
theorem dX9_write_23 : decode cX9_write 23 = .ok (.if_icmp .ne 6, 3) := by decide +kernel
theorem dX9_write_26 : decode cX9_write 26 = .ok (.bipush (-3), 2) := by decide +kernel
theorem dX9_write_28 : decode cX9_write 28 = .ok (.ireturn, 1) := by decide +kernel
theorem dX9_write_29 : decode cX9_write 29 = .ok (.aload_n 0, 1) := by decide +kernel
theorem dX9_write_30 : decode cX9_write 30 = .ok (.getfield 7, 3) := by decide +kernel
theorem dX9_write_33 : decode cX9_write 33 = .ok (.aload_n 0, 1) := by decide +kernel
theorem dX9_write_34 : decode cX9_write 34 = .ok (.getfield 61, 3) := by decide +kernel
theorem dX9_write_37 : decode cX9_write 37 = .ok (.iload_n 1, 1) := by decide +kernel
theorem dX9_write_38 : decode cX9_write 38 = .ok (.iastore, 1) := by decide +kernel
theorem dX9_write_39 : decode cX9_write 39 = .ok (.aload_n 0, 1) := by decide +kernel
theorem dX9_write_40 : decode cX9_write 40 = .ok (.dup, 1) := by decide +kernel
theorem dX9_write_41 : decode cX9_write 41 = .ok (.getfield 61, 3) := by decide +kernel
theorem dX9_write_44 : decode cX9_write 44 = .ok (.iconst 1, 1) := by decide +kernel
theorem dX9_write_45 : decode cX9_write 45 = .ok (.iadd, 1) := by decide +kernel
theorem dX9_write_46 : decode cX9_write 46 = .ok (.putfield 61, 3) := by decide +kernel
theorem dX9_write_49 : decode cX9_write 49 = .ok (.aload_n 0, 1) := by decide +kernel
theorem dX9_write_50 : decode cX9_write 50 = .ok (.getfield 61, 3) := by decide +kernel
theorem dX9_write_53 : decode cX9_write 53 = .ok (.ireturn, 1) := by decide +kernel
theorem dX9_wipe_0 : decode cX9_wipe 0 = .ok (.aload_n 0, 1) := by decide +kernel
theorem dX9_wipe_1 : decode cX9_wipe 1 = .ok (.getfield 61, 3) := by decide +kernel
theorem dX9_wipe_4 : decode cX9_wipe 4 = .ok (.istore_n 1, 1) := by decide +kernel
theorem dX9_wipe_5 : decode cX9_wipe 5 = .ok (.aload_n 0, 1) := by decide +kernel
theorem dX9_wipe_6 : decode cX9_wipe 6 = .ok (.iconst 0, 1) := by decide +kernel
theorem dX9_wipe_7 : decode cX9_wipe 7 = .ok (.putfield 61, 3) := by decide +kernel
theorem dX9_wipe_10 : decode cX9_wipe 10 = .ok (.iload_n 1, 1) := by decide +kernel
theorem dX9_wipe_11 : decode cX9_wipe 11 = .ok (.ireturn, 1) := by decide +kernel
theorem dX9_byteAt_0 : decode cX9_byteAt 0 = .ok (.iload_n 1, 1) := by decide +kernel
theorem dX9_byteAt_1 : decode cX9_byteAt 1 = .ok (.aload_n 0, 1) := by decide +kernel
theorem dX9_byteAt_2 : decode cX9_byteAt 2 = .ok (.getfield 61, 3) := by decide +kernel
theorem dX9_byteAt_5 : decode cX9_byteAt 5 = .ok (.if_icmp .ge 12, 3) := by decide +kernel
theorem dX9_byteAt_8 : decode cX9_byteAt 8 = .ok (.aload_n 0, 1) := by decide +kernel
theorem dX9_byteAt_9 : decode cX9_byteAt 9 = .ok (.getfield 7, 3) := by decide +kernel
theorem dX9_byteAt_12 : decode cX9_byteAt 12 = .ok (.iload_n 1, 1) := by decide +kernel
theorem dX9_byteAt_13 : decode cX9_byteAt 13 = .ok (.iaload, 1) := by decide +kernel
theorem dX9_byteAt_14 : decode cX9_byteAt 14 = .ok (.goto 4, 3) := by decide +kernel
theorem dX9_byteAt_17 : decode cX9_byteAt 17 = .ok (.iconst 0, 1) := by decide +kernel
theorem dX9_byteAt_18 : decode cX9_byteAt 18 = .ok (.ireturn, 1) := by decide +kernel
theorem dX9_figures_0 : decode cX9_figures 0 = .ok (.iconst 0, 1) := by decide +kernel
theorem dX9_figures_1 : decode cX9_figures 1 = .ok (.istore_n 3, 1) := by decide +kernel
theorem dX9_figures_2 : decode cX9_figures 2 = .ok (.iconst 0, 1) := by decide +kernel
theorem dX9_figures_3 : decode cX9_figures 3 = .ok (.istore 4, 2) := by decide +kernel
theorem dX9_figures_5 : decode cX9_figures 5 = .ok (.iload 4, 2) := by decide +kernel
theorem dX9_figures_7 : decode cX9_figures 7 = .ok (.iconst 3, 1) := by decide +kernel
theorem dX9_figures_8 : decode cX9_figures 8 = .ok (.if_icmp .ge 57, 3) := by decide +kernel
theorem dX9_figures_11 : decode cX9_figures 11 = .ok (.aload_n 0, 1) := by decide +kernel
theorem dX9_figures_12 : decode cX9_figures 12 = .ok (.aload_n 0, 1) := by decide +kernel
theorem dX9_figures_13 : decode cX9_figures 13 = .ok (.getfield 65, 3) := by decide +kernel
theorem dX9_figures_16 : decode cX9_figures 16 = .ok (.invokevirtual 68, 3) := by decide +kernel
theorem dX9_figures_19 : decode cX9_figures 19 = .ok (.i2l, 1) := by decide +kernel
theorem dX9_figures_20 : decode cX9_figures 20 = .ok (.ldc2_w 72, 3) := by decide +kernel
theorem dX9_figures_23 : decode cX9_figures 23 = .ok (.ldc2_w 74, 3) := by decide +kernel
theorem dX9_figures_26 : decode cX9_figures 26 = .ok (.invokestatic 57, 3) := by decide +kernel
theorem dX9_figures_29 : decode cX9_figures 29 = .ok (.ifCond .eq 36, 3) := by decide +kernel
theorem dX9_figures_32 : decode cX9_figures 32 = .ok (.bipush 10, 2) := by decide +kernel
theorem dX9_figures_34 : decode cX9_figures 34 = .ok (.iload_n 3, 1) := by decide +kernel
theorem dX9_figures_35 : decode cX9_figures 35 = .ok (.imul, 1) := by decide +kernel
theorem dX9_figures_36 : decode cX9_figures 36 = .ok (.aload_n 0, 1) := by decide +kernel
theorem dX9_figures_37 : decode cX9_figures 37 = .ok (.aload_n 0, 1) := by decide +kernel
theorem dX9_figures_38 : decode cX9_figures 38 = .ok (.getfield 65, 3) := by decide +kernel
theorem dX9_figures_41 : decode cX9_figures 41 = .ok (.invokevirtual 68, 3) := by decide +kernel
theorem dX9_figures_44 : decode cX9_figures 44 = .ok (.iadd, 1) := by decide +kernel
theorem dX9_figures_45 : decode cX9_figures 45 = .ok (.bipush 48, 2) := by decide +kernel
theorem dX9_figures_47 : decode cX9_figures 47 = .ok (.isub, 1) := by decide +kernel
theorem dX9_figures_48 : decode cX9_figures 48 = .ok (.istore_n 3, 1) := by decide +kernel
theorem dX9_figures_49 : decode cX9_figures 49 = .ok (.aload_n 0, 1) := by decide +kernel
theorem dX9_figures_50 : decode cX9_figures 50 = .ok (.dup, 1) := by decide +kernel
theorem dX9_figures_51 : decode cX9_figures 51 = .ok (.getfield 65, 3) := by decide +kernel
theorem dX9_figures_54 : decode cX9_figures 54 = .ok (.iconst 1, 1) := by decide +kernel
theorem dX9_figures_55 : decode cX9_figures 55 = .ok (.iadd, 1) := by decide +kernel
theorem dX9_figures_56 : decode cX9_figures 56 = .ok (.putfield 65, 3) := by decide +kernel
theorem dX9_figures_59 : decode cX9_figures 59 = .ok (.iinc 4 1, 3) := by decide +kernel
theorem dX9_figures_62 : decode cX9_figures 62 = .ok (.goto (-57), 3) := by decide +kernel
theorem dX9_figures_65 : decode cX9_figures 65 = .ok (.iload 4, 2) := by decide +kernel
theorem dX9_figures_67 : decode cX9_figures 67 = .ok (.ifCond .le 19, 3) := by decide +kernel
theorem dX9_figures_70 : decode cX9_figures 70 = .ok (.iload_n 3, 1) := by decide +kernel
theorem dX9_figures_71 : decode cX9_figures 71 = .ok (.i2l, 1) := by decide +kernel
theorem dX9_figures_72 : decode cX9_figures 72 = .ok (.iload_n 1, 1) := by decide +kernel
theorem dX9_figures_73 : decode cX9_figures 73 = .ok (.i2l, 1) := by decide +kernel
theorem dX9_figures_74 : decode cX9_figures 74 = .ok (.iload_n 2, 1) := by decide +kernel
theorem dX9_figures_75 : decode cX9_figures 75 = .ok (.i2l, 1) := by decide +kernel
theorem dX9_figures_76 : decode cX9_figures 76 = .ok (.invokestatic 57, 3) := by decide +kernel
theorem dX9_figures_79 : decode cX9_figures 79 = .ok (.ifCond .eq 7, 3) := by decide +kernel
theorem dX9_figures_82 : decode cX9_figures 82 = .ok (.iload_n 3, 1) := by decide +kernel
theorem dX9_figures_83 : decode cX9_figures 83 = .ok (.goto 4, 3) := by decide +kernel
theorem dX9_figures_86 : decode cX9_figures 86 = .ok (.iconst (-1), 1) := by decide +kernel
theorem dX9_figures_87 : decode cX9_figures 87 = .ok (.ireturn, 1) := by decide +kernel
theorem dX9_schemeItem_0 : decode cX9_schemeItem 0 = .ok (.aload_n 0, 1) := by decide +kernel
theorem dX9_schemeItem_1 : decode cX9_schemeItem 1 = .ok (.getfield 19, 3) := by decide +kernel
theorem dX9_schemeItem_4 : decode cX9_schemeItem 4 = .ok (.iconst 3, 1) := by decide +kernel
theorem dX9_schemeItem_5 : decode cX9_schemeItem 5 = .ok (.iaload, 1) := by decide +kernel
theorem dX9_schemeItem_6 : decode cX9_schemeItem 6 = .ok (.istore_n 1, 1) := by decide +kernel
theorem dX9_schemeItem_7 : decode cX9_schemeItem 7 = .ok (.iconst 0, 1) := by decide +kernel
theorem dX9_schemeItem_8 : decode cX9_schemeItem 8 = .ok (.istore_n 2, 1) := by decide +kernel
theorem dX9_schemeItem_9 : decode cX9_schemeItem 9 = .ok (.iload_n 1, 1) := by decide +kernel
theorem dX9_schemeItem_10 : decode cX9_schemeItem 10 = .ok (.iconst 4, 1) := by decide +kernel
theorem dX9_schemeItem_11 : decode cX9_schemeItem 11 = .ok (.if_icmp .ge 61, 3) := by decide +kernel
theorem dX9_schemeItem_14 : decode cX9_schemeItem 14 = .ok (.iload_n 2, 1) := by decide +kernel
theorem dX9_schemeItem_15 : decode cX9_schemeItem 15 = .ok (.iconst 4, 1) := by decide +kernel
theorem dX9_schemeItem_16 : decode cX9_schemeItem 16 = .ok (.if_icmp .ge 56, 3) := by decide +kernel
theorem dX9_schemeItem_19 : decode cX9_schemeItem 19 = .ok (.aload_n 0, 1) := by decide +kernel
theorem dX9_schemeItem_20 : decode cX9_schemeItem 20 = .ok (.aload_n 0, 1) := by decide +kernel
theorem dX9_schemeItem_21 : decode cX9_schemeItem 21 = .ok (.getfield 65, 3) := by decide +kernel
theorem dX9_schemeItem_24 : decode cX9_schemeItem 24 = .ok (.invokevirtual 68, 3) := by decide +kernel
theorem dX9_schemeItem_27 : decode cX9_schemeItem 27 = .ok (.invokestatic 76, 3) := by decide +kernel
theorem dX9_schemeItem_30 : decode cX9_schemeItem 30 = .ok (.ifCond .eq 42, 3) := by decide +kernel
theorem dX9_schemeItem_33 : decode cX9_schemeItem 33 = .ok (.aload_n 0, 1) := by decide +kernel
theorem dX9_schemeItem_34 : decode cX9_schemeItem 34 = .ok (.getfield 19, 3) := by decide +kernel
theorem dX9_schemeItem_37 : decode cX9_schemeItem 37 = .ok (.bipush 8, 2) := by decide +kernel
theorem dX9_schemeItem_39 : decode cX9_schemeItem 39 = .ok (.iconst 5, 1) := by decide +kernel
theorem dX9_schemeItem_40 : decode cX9_schemeItem 40 = .ok (.iload_n 1, 1) := by decide +kernel
theorem dX9_schemeItem_41 : decode cX9_schemeItem 41 = .ok (.imul, 1) := by decide +kernel
theorem dX9_schemeItem_42 : decode cX9_schemeItem 42 = .ok (.iadd, 1) := by decide +kernel
theorem dX9_schemeItem_43 : decode cX9_schemeItem 43 = .ok (.iconst 1, 1) := by decide +kernel
theorem dX9_schemeItem_44 : decode cX9_schemeItem 44 = .ok (.iadd, 1) := by decide +kernel
theorem dX9_schemeItem_45 : decode cX9_schemeItem 45 = .ok (.iload_n 2, 1) := by decide +kernel
theorem dX9_schemeItem_46 : decode cX9_schemeItem 46 = .ok (.iadd, 1) := by decide +kernel
theorem dX9_schemeItem_47 : decode cX9_schemeItem 47 = .ok (.aload_n 0, 1) := by decide +kernel
theorem dX9_schemeItem_48 : decode cX9_schemeItem 48 = .ok (.aload_n 0, 1) := by decide +kernel
theorem dX9_schemeItem_49 : decode cX9_schemeItem 49 = .ok (.getfield 65, 3) := by decide +kernel
theorem dX9_schemeItem_52 : decode cX9_schemeItem 52 = .ok (.invokevirtual 68, 3) := by decide +kernel
theorem dX9_schemeItem_55 : decode cX9_schemeItem 55 = .ok (.iastore, 1) := by decide +kernel
theorem dX9_schemeItem_56 : decode cX9_schemeItem 56 = .ok (.aload_n 0, 1) := by decide +kernel
theorem dX9_schemeItem_57 : decode cX9_schemeItem 57 = .ok (.dup, 1) := by decide +kernel
theorem dX9_schemeItem_58 : decode cX9_schemeItem 58 = .ok (.getfield 65, 3) := by decide +kernel
theorem dX9_schemeItem_61 : decode cX9_schemeItem 61 = .ok (.iconst 1, 1) := by decide +kernel
theorem dX9_schemeItem_62 : decode cX9_schemeItem 62 = .ok (.iadd, 1) := by decide +kernel
theorem dX9_schemeItem_63 : decode cX9_schemeItem 63 = .ok (.putfield 65, 3) := by decide +kernel
theorem dX9_schemeItem_66 : decode cX9_schemeItem 66 = .ok (.iinc 2 1, 3) := by decide +kernel
theorem dX9_schemeItem_69 : decode cX9_schemeItem 69 = .ok (.goto (-60), 3) := by decide +kernel
theorem dX9_schemeItem_72 : decode cX9_schemeItem 72 = .ok (.iload_n 2, 1) := by decide +kernel
theorem dX9_schemeItem_73 : decode cX9_schemeItem 73 = .ok (.ifCond .eq 19, 3) := by decide +kernel
theorem dX9_schemeItem_76 : decode cX9_schemeItem 76 = .ok (.aload_n 0, 1) := by decide +kernel
theorem dX9_schemeItem_77 : decode cX9_schemeItem 77 = .ok (.aload_n 0, 1) := by decide +kernel
theorem dX9_schemeItem_78 : decode cX9_schemeItem 78 = .ok (.getfield 65, 3) := by decide +kernel
theorem dX9_schemeItem_81 : decode cX9_schemeItem 81 = .ok (.iconst 1, 1) := by decide +kernel
theorem dX9_schemeItem_82 : decode cX9_schemeItem 82 = .ok (.isub, 1) := by decide +kernel
theorem dX9_schemeItem_83 : decode cX9_schemeItem 83 = .ok (.invokevirtual 68, 3) := by decide +kernel
theorem dX9_schemeItem_86 : decode cX9_schemeItem 86 = .ok (.invokestatic 80, 3) := by decide +kernel
theorem dX9_schemeItem_89 : decode cX9_schemeItem 89 = .ok (.ifCond .ne 5, 3) := by decide +kernel
theorem dX9_schemeItem_92 : decode cX9_schemeItem 92 = .ok (.iconst 0, 1) := by decide +kernel
theorem dX9_schemeItem_93 : decode cX9_schemeItem 93 = .ok (.ireturn, 1) := by decide +kernel
theorem dX9_schemeItem_94 : decode cX9_schemeItem 94 = .ok (.aload_n 0, 1) := by decide +kernel
theorem dX9_schemeItem_95 : decode cX9_schemeItem 95 = .ok (.getfield 19, 3) := by decide +kernel
theorem dX9_schemeItem_98 : decode cX9_schemeItem 98 = .ok (.bipush 8, 2) := by decide +kernel
theorem dX9_schemeItem_100 : decode cX9_schemeItem 100 = .ok (.iconst 5, 1) := by decide +kernel
theorem dX9_schemeItem_101 : decode cX9_schemeItem 101 = .ok (.iload_n 1, 1) := by decide +kernel
theorem dX9_schemeItem_102 : decode cX9_schemeItem 102 = .ok (.imul, 1) := by decide +kernel
theorem dX9_schemeItem_103 : decode cX9_schemeItem 103 = .ok (.iadd, 1) := by decide +kernel
theorem dX9_schemeItem_104 : decode cX9_schemeItem 104 = .ok (.iload_n 2, 1) := by decide +kernel
theorem dX9_schemeItem_105 : decode cX9_schemeItem 105 = .ok (.iastore, 1) := by decide +kernel
theorem dX9_schemeItem_106 : decode cX9_schemeItem 106 = .ok (.aload_n 0, 1) := by decide +kernel
theorem dX9_schemeItem_107 : decode cX9_schemeItem 107 = .ok (.getfield 19, 3) := by decide +kernel
theorem dX9_schemeItem_110 : decode cX9_schemeItem 110 = .ok (.iconst 3, 1) := by decide +kernel
theorem dX9_schemeItem_111 : decode cX9_schemeItem 111 = .ok (.dup2, 1) := by decide +kernel
theorem dX9_schemeItem_112 : decode cX9_schemeItem 112 = .ok (.iaload, 1) := by decide +kernel
theorem dX9_schemeItem_113 : decode cX9_schemeItem 113 = .ok (.iconst 1, 1) := by decide +kernel
theorem dX9_schemeItem_114 : decode cX9_schemeItem 114 = .ok (.iadd, 1) := by decide +kernel
theorem dX9_schemeItem_115 : decode cX9_schemeItem 115 = .ok (.iastore, 1) := by decide +kernel
theorem dX9_schemeItem_116 : decode cX9_schemeItem 116 = .ok (.iconst 1, 1) := by decide +kernel
theorem dX9_schemeItem_117 : decode cX9_schemeItem 117 = .ok (.ireturn, 1) := by decide +kernel
theorem dX9_tells_0 : decode cX9_tells 0 = .ok (.aload_n 0, 1) := by decide +kernel
theorem dX9_tells_1 : decode cX9_tells 1 = .ok (.iload_n 2, 1) := by decide +kernel
theorem dX9_tells_2 : decode cX9_tells 2 = .ok (.iload_n 3, 1) := by decide +kernel
theorem dX9_tells_3 : decode cX9_tells 3 = .ok (.invokevirtual 83, 3) := by decide +kernel
theorem dX9_tells_6 : decode cX9_tells 6 = .ok (.istore 4, 2) := by decide +kernel
theorem dX9_tells_8 : decode cX9_tells 8 = .ok (.aload_n 0, 1) := by decide +kernel
theorem dX9_tells_9 : decode cX9_tells 9 = .ok (.getfield 19, 3) := by decide +kernel
theorem dX9_tells_12 : decode cX9_tells 12 = .ok (.iload_n 1, 1) := by decide +kernel
theorem dX9_tells_13 : decode cX9_tells 13 = .ok (.iload 4, 2) := by decide +kernel
theorem dX9_tells_15 : decode cX9_tells 15 = .ok (.iastore, 1) := by decide +kernel
theorem dX9_tells_16 : decode cX9_tells 16 = .ok (.iload 4, 2) := by decide +kernel
theorem dX9_tells_18 : decode cX9_tells 18 = .ok (.iconst (-1), 1) := by decide +kernel
theorem dX9_tells_19 : decode cX9_tells 19 = .ok (.if_icmp .eq 7, 3) := by decide +kernel
theorem dX9_tells_22 : decode cX9_tells 22 = .ok (.iconst 1, 1) := by decide +kernel
theorem dX9_tells_23 : decode cX9_tells 23 = .ok (.goto 4, 3) := by decide +kernel
theorem dX9_tells_26 : decode cX9_tells 26 = .ok (.iconst 0, 1) := by decide +kernel
theorem dX9_tells_27 : decode cX9_tells 27 = .ok (.ireturn, 1) := by decide +kernel
theorem dX9_item_0 : decode cX9_item 0 = .ok (.iload_n 1, 1) := by decide +kernel
theorem dX9_item_1 : decode cX9_item 1 = .ok (.tableswitch 166 99 112 #[149, 166, 166, 166, 166, 166, 166, 166, 71, 166, 158, 139, 166, 76], 71) := by decide +kernel
theorem dX9_item_72 : decode cX9_item 72 = .ok (.aload_n 0, 1) := by decide +kernel
theorem dX9_item_73 : decode cX9_item 73 = .ok (.invokevirtual 87, 3) := by decide +kernel
theorem dX9_item_76 : decode cX9_item 76 = .ok (.ireturn, 1) := by decide +kernel
theorem dX9_item_77 : decode cX9_item 77 = .ok (.aload_n 0, 1) := by decide +kernel
theorem dX9_item_78 : decode cX9_item 78 = .ok (.iconst 0, 1) := by decide +kernel
theorem dX9_item_79 : decode cX9_item 79 = .ok (.aload_n 0, 1) := by decide +kernel
theorem dX9_item_80 : decode cX9_item 80 = .ok (.getfield 19, 3) := by decide +kernel
theorem dX9_item_83 : decode cX9_item 83 = .ok (.iconst 3, 1) := by decide +kernel
theorem dX9_item_84 : decode cX9_item 84 = .ok (.iaload, 1) := by decide +kernel
theorem dX9_item_85 : decode cX9_item 85 = .ok (.iconst 1, 1) := by decide +kernel
theorem dX9_item_86 : decode cX9_item 86 = .ok (.isub, 1) := by decide +kernel
theorem dX9_item_87 : decode cX9_item 87 = .ok (.invokevirtual 83, 3) := by decide +kernel
theorem dX9_item_90 : decode cX9_item 90 = .ok (.istore_n 2, 1) := by decide +kernel
theorem dX9_item_91 : decode cX9_item 91 = .ok (.aload_n 0, 1) := by decide +kernel
theorem dX9_item_92 : decode cX9_item 92 = .ok (.dup, 1) := by decide +kernel
theorem dX9_item_93 : decode cX9_item 93 = .ok (.getfield 65, 3) := by decide +kernel
theorem dX9_item_96 : decode cX9_item 96 = .ok (.iconst 1, 1) := by decide +kernel
theorem dX9_item_97 : decode cX9_item 97 = .ok (.iadd, 1) := by decide +kernel
theorem dX9_item_98 : decode cX9_item 98 = .ok (.putfield 65, 3) := by decide +kernel
theorem dX9_item_101 : decode cX9_item 101 = .ok (.iload_n 2, 1) := by decide +kernel
theorem dX9_item_102 : decode cX9_item 102 = .ok (.iconst (-1), 1) := by decide +kernel
theorem dX9_item_103 : decode cX9_item 103 = .ok (.if_icmp .eq 35, 3) := by decide +kernel
theorem dX9_item_106 : decode cX9_item 106 = .ok (.aload_n 0, 1) := by decide +kernel
theorem dX9_item_107 : decode cX9_item 107 = .ok (.aload_n 0, 1) := by decide +kernel
theorem dX9_item_108 : decode cX9_item 108 = .ok (.getfield 65, 3) := by decide +kernel
theorem dX9_item_111 : decode cX9_item 111 = .ok (.iconst 1, 1) := by decide +kernel
theorem dX9_item_112 : decode cX9_item 112 = .ok (.isub, 1) := by decide +kernel
theorem dX9_item_113 : decode cX9_item 113 = .ok (.invokevirtual 68, 3) := by decide +kernel
theorem dX9_item_116 : decode cX9_item 116 = .ok (.bipush 44, 2) := by decide +kernel
theorem dX9_item_118 : decode cX9_item 118 = .ok (.if_icmp .ne 20, 3) := by decide +kernel
theorem dX9_item_121 : decode cX9_item 121 = .ok (.aload_n 0, 1) := by decide +kernel
theorem dX9_item_122 : decode cX9_item 122 = .ok (.iconst 4, 1) := by decide +kernel
theorem dX9_item_123 : decode cX9_item 123 = .ok (.iload_n 2, 1) := by decide +kernel
theorem dX9_item_124 : decode cX9_item 124 = .ok (.iadd, 1) := by decide +kernel
theorem dX9_item_125 : decode cX9_item 125 = .ok (.iconst 0, 1) := by decide +kernel
theorem dX9_item_126 : decode cX9_item 126 = .ok (.bipush 99, 2) := by decide +kernel
theorem dX9_item_128 : decode cX9_item 128 = .ok (.invokevirtual 91, 3) := by decide +kernel
theorem dX9_item_131 : decode cX9_item 131 = .ok (.ifCond .eq 7, 3) := by decide +kernel
theorem dX9_item_134 : decode cX9_item 134 = .ok (.iconst 1, 1) := by decide +kernel
theorem dX9_item_135 : decode cX9_item 135 = .ok (.goto 4, 3) := by decide +kernel
theorem dX9_item_138 : decode cX9_item 138 = .ok (.iconst 0, 1) := by decide +kernel
theorem dX9_item_139 : decode cX9_item 139 = .ok (.ireturn, 1) := by decide +kernel
theorem dX9_item_140 : decode cX9_item 140 = .ok (.aload_n 0, 1) := by decide +kernel
theorem dX9_item_141 : decode cX9_item 141 = .ok (.iconst 0, 1) := by decide +kernel
theorem dX9_item_142 : decode cX9_item 142 = .ok (.iconst 1, 1) := by decide +kernel
theorem dX9_item_143 : decode cX9_item 143 = .ok (.sipush 400, 3) := by decide +kernel
theorem dX9_item_146 : decode cX9_item 146 = .ok (.invokevirtual 91, 3) := by decide +kernel
theorem dX9_item_149 : decode cX9_item 149 = .ok (.ireturn, 1) := by decide +kernel
theorem dX9_item_150 : decode cX9_item 150 = .ok (.aload_n 0, 1) := by decide +kernel
theorem dX9_item_151 : decode cX9_item 151 = .ok (.iconst 1, 1) := by decide +kernel
theorem dX9_item_152 : decode cX9_item 152 = .ok (.iconst 0, 1) := by decide +kernel
theorem dX9_item_153 : decode cX9_item 153 = .ok (.bipush 20, 2) := by decide +kernel
theorem dX9_item_155 : decode cX9_item 155 = .ok (.invokevirtual 91, 3) := by decide +kernel
theorem dX9_item_158 : decode cX9_item 158 = .ok (.ireturn, 1) := by decide +kernel
theorem dX9_item_159 : decode cX9_item 159 = .ok (.aload_n 0, 1) := by decide +kernel
theorem dX9_item_160 : decode cX9_item 160 = .ok (.iconst 2, 1) := by decide +kernel
theorem dX9_item_161 : decode cX9_item 161 = .ok (.iconst 0, 1) := by decide +kernel
theorem dX9_item_162 : decode cX9_item 162 = .ok (.iconst 1, 1) := by decide +kernel
theorem dX9_item_163 : decode cX9_item 163 = .ok (.invokevirtual 91, 3) := by decide +kernel
theorem dX9_item_166 : decode cX9_item 166 = .ok (.ireturn, 1) := by decide +kernel
theorem dX9_item_167 : decode cX9_item 167 = .ok (.iconst 0, 1) := by decide +kernel
theorem dX9_item_168 : decode cX9_item 168 = .ok (.ireturn, 1) := by decide +kernel
theorem dX9_fault_0 : decode cX9_fault 0 = .ok (.iconst 0, 1) := by decide +kernel
theorem dX9_fault_1 : decode cX9_fault 1 = .ok (.istore_n 1, 1) := by decide +kernel
theorem dX9_fault_2 : decode cX9_fault 2 = .ok (.iload_n 1, 1) := by decide +kernel
theorem dX9_fault_3 : decode cX9_fault 3 = .ok (.sipush 132, 3) := by decide +kernel
theorem dX9_fault_6 : decode cX9_fault 6 = .ok (.if_icmp .ge 35, 3) := by decide +kernel
theorem dX9_fault_9 : decode cX9_fault 9 = .ok (.aload_n 0, 1) := by decide +kernel
theorem dX9_fault_10 : decode cX9_fault 10 = .ok (.getfield 19, 3) := by decide +kernel
theorem dX9_fault_13 : decode cX9_fault 13 = .ok (.iload_n 1, 1) := by decide +kernel
theorem dX9_fault_14 : decode cX9_fault 14 = .ok (.iload_n 1, 1) := by decide +kernel
theorem dX9_fault_15 : decode cX9_fault 15 = .ok (.i2l, 1) := by decide +kernel
theorem dX9_fault_16 : decode cX9_fault 16 = .ok (.ldc2_w 95, 3) := by decide +kernel
theorem dX9_fault_19 : decode cX9_fault 19 = .ok (.ldc2_w 97, 3) := by decide +kernel
theorem dX9_fault_22 : decode cX9_fault 22 = .ok (.invokestatic 57, 3) := by decide +kernel
theorem dX9_fault_25 : decode cX9_fault 25 = .ok (.ifCond .eq 8, 3) := by decide +kernel
theorem dX9_fault_28 : decode cX9_fault 28 = .ok (.bipush 10, 2) := by decide +kernel
theorem dX9_fault_30 : decode cX9_fault 30 = .ok (.goto 4, 3) := by decide +kernel
theorem dX9_fault_33 : decode cX9_fault 33 = .ok (.iconst 0, 1) := by decide +kernel
theorem dX9_fault_34 : decode cX9_fault 34 = .ok (.iastore, 1) := by decide +kernel
theorem dX9_fault_35 : decode cX9_fault 35 = .ok (.iinc 1 1, 3) := by decide +kernel
theorem dX9_fault_38 : decode cX9_fault 38 = .ok (.goto (-36), 3) := by decide +kernel
theorem dX9_fault_41 : decode cX9_fault 41 = .ok (.aload_n 0, 1) := by decide +kernel
theorem dX9_fault_42 : decode cX9_fault 42 = .ok (.getfield 19, 3) := by decide +kernel
theorem dX9_fault_45 : decode cX9_fault 45 = .ok (.iconst 0, 1) := by decide +kernel
theorem dX9_fault_46 : decode cX9_fault 46 = .ok (.bipush 16, 2) := by decide +kernel
theorem dX9_fault_48 : decode cX9_fault 48 = .ok (.iastore, 1) := by decide +kernel
theorem dX9_fault_49 : decode cX9_fault 49 = .ok (.aload_n 0, 1) := by decide +kernel
theorem dX9_fault_50 : decode cX9_fault 50 = .ok (.getfield 19, 3) := by decide +kernel
theorem dX9_fault_53 : decode cX9_fault 53 = .ok (.iconst 1, 1) := by decide +kernel
theorem dX9_fault_54 : decode cX9_fault 54 = .ok (.iconst 2, 1) := by decide +kernel
theorem dX9_fault_55 : decode cX9_fault 55 = .ok (.iastore, 1) := by decide +kernel
theorem dX9_fault_56 : decode cX9_fault 56 = .ok (.aload_n 0, 1) := by decide +kernel
theorem dX9_fault_57 : decode cX9_fault 57 = .ok (.iconst 0, 1) := by decide +kernel
theorem dX9_fault_58 : decode cX9_fault 58 = .ok (.putfield 65, 3) := by decide +kernel
theorem dX9_fault_61 : decode cX9_fault 61 = .ok (.aload_n 0, 1) := by decide +kernel
theorem dX9_fault_62 : decode cX9_fault 62 = .ok (.getfield 65, 3) := by decide +kernel
theorem dX9_fault_65 : decode cX9_fault 65 = .ok (.aload_n 0, 1) := by decide +kernel
theorem dX9_fault_66 : decode cX9_fault 66 = .ok (.getfield 61, 3) := by decide +kernel
theorem dX9_fault_69 : decode cX9_fault 69 = .ok (.if_icmp .ge 59, 3) := by decide +kernel
theorem dX9_fault_72 : decode cX9_fault 72 = .ok (.aload_n 0, 1) := by decide +kernel
theorem dX9_fault_73 : decode cX9_fault 73 = .ok (.getfield 65, 3) := by decide +kernel
theorem dX9_fault_76 : decode cX9_fault 76 = .ok (.istore_n 1, 1) := by decide +kernel
theorem dX9_fault_77 : decode cX9_fault 77 = .ok (.aload_n 0, 1) := by decide +kernel
theorem dX9_fault_78 : decode cX9_fault 78 = .ok (.dup, 1) := by decide +kernel
theorem dX9_fault_79 : decode cX9_fault 79 = .ok (.getfield 65, 3) := by decide +kernel
theorem dX9_fault_82 : decode cX9_fault 82 = .ok (.iconst 1, 1) := by decide +kernel
theorem dX9_fault_83 : decode cX9_fault 83 = .ok (.iadd, 1) := by decide +kernel
theorem dX9_fault_84 : decode cX9_fault 84 = .ok (.putfield 65, 3) := by decide +kernel
theorem dX9_fault_87 : decode cX9_fault 87 = .ok (.aload_n 0, 1) := by decide +kernel
theorem dX9_fault_88 : decode cX9_fault 88 = .ok (.aload_n 0, 1) := by decide +kernel
theorem dX9_fault_89 : decode cX9_fault 89 = .ok (.getfield 7, 3) := by decide +kernel
theorem dX9_fault_92 : decode cX9_fault 92 = .ok (.iload_n 1, 1) := by decide +kernel
theorem dX9_fault_93 : decode cX9_fault 93 = .ok (.iaload, 1) := by decide +kernel
theorem dX9_fault_94 : decode cX9_fault 94 = .ok (.invokevirtual 99, 3) := by decide +kernel
theorem dX9_fault_97 : decode cX9_fault 97 = .ok (.ifCond .eq 16, 3) := by decide +kernel
theorem dX9_fault_100 : decode cX9_fault 100 = .ok (.aload_n 0, 1) := by decide +kernel
theorem dX9_fault_101 : decode cX9_fault 101 = .ok (.aload_n 0, 1) := by decide +kernel
theorem dX9_fault_102 : decode cX9_fault 102 = .ok (.getfield 65, 3) := by decide +kernel
theorem dX9_fault_105 : decode cX9_fault 105 = .ok (.invokevirtual 68, 3) := by decide +kernel
theorem dX9_fault_108 : decode cX9_fault 108 = .ok (.bipush 59, 2) := by decide +kernel
theorem dX9_fault_110 : decode cX9_fault 110 = .ok (.if_icmp .eq 5, 3) := by decide +kernel
theorem dX9_fault_113 : decode cX9_fault 113 = .ok (.iload_n 1, 1) := by decide +kernel
theorem dX9_fault_114 : decode cX9_fault 114 = .ok (.ireturn, 1) := by decide +kernel
theorem dX9_fault_115 : decode cX9_fault 115 = .ok (.aload_n 0, 1) := by decide +kernel
theorem dX9_fault_116 : decode cX9_fault 116 = .ok (.dup, 1) := by decide +kernel
theorem dX9_fault_117 : decode cX9_fault 117 = .ok (.getfield 65, 3) := by decide +kernel
theorem dX9_fault_120 : decode cX9_fault 120 = .ok (.iconst 1, 1) := by decide +kernel
theorem dX9_fault_121 : decode cX9_fault 121 = .ok (.iadd, 1) := by decide +kernel
theorem dX9_fault_122 : decode cX9_fault 122 = .ok (.putfield 65, 3) := by decide +kernel
theorem dX9_fault_125 : decode cX9_fault 125 = .ok (.goto (-64), 3) := by decide +kernel
theorem dX9_fault_128 : decode cX9_fault 128 = .ok (.bipush (-4), 2) := by decide +kernel
theorem dX9_fault_130 : decode cX9_fault 130 = .ok (.ireturn, 1) := by decide +kernel
theorem dX9_lay_0 : decode cX9_lay 0 = .ok (.aload_n 0, 1) := by decide +kernel
theorem dX9_lay_1 : decode cX9_lay 1 = .ok (.invokevirtual 102, 3) := by decide +kernel
theorem dX9_lay_4 : decode cX9_lay 4 = .ok (.bipush (-4), 2) := by decide +kernel
theorem dX9_lay_6 : decode cX9_lay 6 = .ok (.if_icmp .ne 12, 3) := by decide +kernel
theorem dX9_lay_9 : decode cX9_lay 9 = .ok (.aload_n 0, 1) := by decide +kernel
theorem dX9_lay_10 : decode cX9_lay 10 = .ok (.getfield 19, 3) := by decide +kernel
theorem dX9_lay_13 : decode cX9_lay 13 = .ok (.iconst 3, 1) := by decide +kernel
theorem dX9_lay_14 : decode cX9_lay 14 = .ok (.iaload, 1) := by decide +kernel
theorem dX9_lay_15 : decode cX9_lay 15 = .ok (.ifCond .ne 6, 3) := by decide +kernel
theorem dX9_lay_18 : decode cX9_lay 18 = .ok (.bipush (-2), 2) := by decide +kernel
theorem dX9_lay_20 : decode cX9_lay 20 = .ok (.ireturn, 1) := by decide +kernel
theorem dX9_lay_21 : decode cX9_lay 21 = .ok (.iconst 0, 1) := by decide +kernel
theorem dX9_lay_22 : decode cX9_lay 22 = .ok (.istore_n 1, 1) := by decide +kernel
theorem dX9_lay_23 : decode cX9_lay 23 = .ok (.iload_n 1, 1) := by decide +kernel
theorem dX9_lay_24 : decode cX9_lay 24 = .ok (.sipush 132, 3) := by decide +kernel
theorem dX9_lay_27 : decode cX9_lay 27 = .ok (.if_icmp .ge 21, 3) := by decide +kernel
theorem dX9_lay_30 : decode cX9_lay 30 = .ok (.aload_n 0, 1) := by decide +kernel
theorem dX9_lay_31 : decode cX9_lay 31 = .ok (.getfield 13, 3) := by decide +kernel
theorem dX9_lay_34 : decode cX9_lay 34 = .ok (.iload_n 1, 1) := by decide +kernel
theorem dX9_lay_35 : decode cX9_lay 35 = .ok (.aload_n 0, 1) := by decide +kernel
theorem dX9_lay_36 : decode cX9_lay 36 = .ok (.getfield 19, 3) := by decide +kernel
theorem dX9_lay_39 : decode cX9_lay 39 = .ok (.iload_n 1, 1) := by decide +kernel
theorem dX9_lay_40 : decode cX9_lay 40 = .ok (.iaload, 1) := by decide +kernel
theorem dX9_lay_41 : decode cX9_lay 41 = .ok (.iastore, 1) := by decide +kernel
theorem dX9_lay_42 : decode cX9_lay 42 = .ok (.iinc 1 1, 3) := by decide +kernel
theorem dX9_lay_45 : decode cX9_lay 45 = .ok (.goto (-22), 3) := by decide +kernel
theorem dX9_lay_48 : decode cX9_lay 48 = .ok (.aload_n 0, 1) := by decide +kernel
theorem dX9_lay_49 : decode cX9_lay 49 = .ok (.iconst 0, 1) := by decide +kernel
theorem dX9_lay_50 : decode cX9_lay 50 = .ok (.putfield 106, 3) := by decide +kernel
theorem dX9_lay_53 : decode cX9_lay 53 = .ok (.aload_n 0, 1) := by decide +kernel
theorem dX9_lay_54 : decode cX9_lay 54 = .ok (.getfield 13, 3) := by decide +kernel
theorem dX9_lay_57 : decode cX9_lay 57 = .ok (.iconst 3, 1) := by decide +kernel
theorem dX9_lay_58 : decode cX9_lay 58 = .ok (.iaload, 1) := by decide +kernel
theorem dX9_lay_59 : decode cX9_lay 59 = .ok (.ireturn, 1) := by decide +kernel
theorem dX9_note_0 : decode cX9_note 0 = .ok (.aload_n 0, 1) := by decide +kernel
theorem dX9_note_1 : decode cX9_note 1 = .ok (.getfield 106, 3) := by decide +kernel
theorem dX9_note_4 : decode cX9_note 4 = .ok (.bipush 6, 2) := by decide +kernel
theorem dX9_note_6 : decode cX9_note 6 = .ok (.if_icmp .ne 44, 3) := by decide +kernel
theorem dX9_note_9 : decode cX9_note 9 = .ok (.iconst 0, 1) := by decide +kernel
theorem dX9_note_10 : decode cX9_note 10 = .ok (.istore_n 1, 1) := by decide +kernel
theorem dX9_note_11 : decode cX9_note 11 = .ok (.iload_n 1, 1) := by decide +kernel
theorem dX9_note_12 : decode cX9_note 12 = .ok (.sipush 660, 3) := by decide +kernel
theorem dX9_note_15 : decode cX9_note 15 = .ok (.if_icmp .ge 25, 3) := by decide +kernel
theorem dX9_note_18 : decode cX9_note 18 = .ok (.aload_n 0, 1) := by decide +kernel
theorem dX9_note_19 : decode cX9_note 19 = .ok (.getfield 16, 3) := by decide +kernel
theorem dX9_note_22 : decode cX9_note 22 = .ok (.iload_n 1, 1) := by decide +kernel
theorem dX9_note_23 : decode cX9_note 23 = .ok (.aload_n 0, 1) := by decide +kernel
theorem dX9_note_24 : decode cX9_note 24 = .ok (.getfield 16, 3) := by decide +kernel
theorem dX9_note_27 : decode cX9_note 27 = .ok (.sipush 132, 3) := by decide +kernel
theorem dX9_note_30 : decode cX9_note 30 = .ok (.iload_n 1, 1) := by decide +kernel
theorem dX9_note_31 : decode cX9_note 31 = .ok (.iadd, 1) := by decide +kernel
theorem dX9_note_32 : decode cX9_note 32 = .ok (.iaload, 1) := by decide +kernel
theorem dX9_note_33 : decode cX9_note 33 = .ok (.iastore, 1) := by decide +kernel
theorem dX9_note_34 : decode cX9_note 34 = .ok (.iinc 1 1, 3) := by decide +kernel
theorem dX9_note_37 : decode cX9_note 37 = .ok (.goto (-26), 3) := by decide +kernel
theorem dX9_note_40 : decode cX9_note 40 = .ok (.aload_n 0, 1) := by decide +kernel
theorem dX9_note_41 : decode cX9_note 41 = .ok (.dup, 1) := by decide +kernel
theorem dX9_note_42 : decode cX9_note 42 = .ok (.getfield 106, 3) := by decide +kernel
theorem dX9_note_45 : decode cX9_note 45 = .ok (.iconst 1, 1) := by decide +kernel
theorem dX9_note_46 : decode cX9_note 46 = .ok (.isub, 1) := by decide +kernel
theorem dX9_note_47 : decode cX9_note 47 = .ok (.putfield 106, 3) := by decide +kernel
theorem dX9_note_50 : decode cX9_note 50 = .ok (.iconst 0, 1) := by decide +kernel
theorem dX9_note_51 : decode cX9_note 51 = .ok (.istore_n 1, 1) := by decide +kernel
theorem dX9_note_52 : decode cX9_note 52 = .ok (.iload_n 1, 1) := by decide +kernel
theorem dX9_note_53 : decode cX9_note 53 = .ok (.sipush 132, 3) := by decide +kernel
theorem dX9_note_56 : decode cX9_note 56 = .ok (.if_icmp .ge 30, 3) := by decide +kernel
theorem dX9_note_59 : decode cX9_note 59 = .ok (.aload_n 0, 1) := by decide +kernel
theorem dX9_note_60 : decode cX9_note 60 = .ok (.getfield 16, 3) := by decide +kernel
theorem dX9_note_63 : decode cX9_note 63 = .ok (.sipush 132, 3) := by decide +kernel
theorem dX9_note_66 : decode cX9_note 66 = .ok (.aload_n 0, 1) := by decide +kernel
theorem dX9_note_67 : decode cX9_note 67 = .ok (.getfield 106, 3) := by decide +kernel
theorem dX9_note_70 : decode cX9_note 70 = .ok (.imul, 1) := by decide +kernel
theorem dX9_note_71 : decode cX9_note 71 = .ok (.iload_n 1, 1) := by decide +kernel
theorem dX9_note_72 : decode cX9_note 72 = .ok (.iadd, 1) := by decide +kernel
theorem dX9_note_73 : decode cX9_note 73 = .ok (.aload_n 0, 1) := by decide +kernel
theorem dX9_note_74 : decode cX9_note 74 = .ok (.getfield 13, 3) := by decide +kernel
theorem dX9_note_77 : decode cX9_note 77 = .ok (.iload_n 1, 1) := by decide +kernel
theorem dX9_note_78 : decode cX9_note 78 = .ok (.iaload, 1) := by decide +kernel
theorem dX9_note_79 : decode cX9_note 79 = .ok (.iastore, 1) := by decide +kernel
theorem dX9_note_80 : decode cX9_note 80 = .ok (.iinc 1 1, 3) := by decide +kernel
theorem dX9_note_83 : decode cX9_note 83 = .ok (.goto (-31), 3) := by decide +kernel
theorem dX9_note_86 : decode cX9_note 86 = .ok (.aload_n 0, 1) := by decide +kernel
theorem dX9_note_87 : decode cX9_note 87 = .ok (.dup, 1) := by decide +kernel
theorem dX9_note_88 : decode cX9_note 88 = .ok (.getfield 106, 3) := by decide +kernel
theorem dX9_note_91 : decode cX9_note 91 = .ok (.iconst 1, 1) := by decide +kernel
theorem dX9_note_92 : decode cX9_note 92 = .ok (.iadd, 1) := by decide +kernel
theorem dX9_note_93 : decode cX9_note 93 = .ok (.putfield 106, 3) := by decide +kernel
theorem dX9_note_96 : decode cX9_note 96 = .ok (.return_, 1) := by decide +kernel
theorem dX9_wholes_0 : decode cX9_wholes 0 = .ok (.iconst 0, 1) := by decide +kernel
theorem dX9_wholes_1 : decode cX9_wholes 1 = .ok (.istore_n 1, 1) := by decide +kernel
theorem dX9_wholes_2 : decode cX9_wholes 2 = .ok (.iload_n 1, 1) := by decide +kernel
theorem dX9_wholes_3 : decode cX9_wholes 3 = .ok (.bipush 104, 2) := by decide +kernel
theorem dX9_wholes_5 : decode cX9_wholes 5 = .ok (.if_icmp .ge 19, 3) := by decide +kernel
theorem dX9_wholes_8 : decode cX9_wholes 8 = .ok (.aload_n 0, 1) := by decide +kernel
theorem dX9_wholes_9 : decode cX9_wholes 9 = .ok (.getfield 13, 3) := by decide +kernel
theorem dX9_wholes_12 : decode cX9_wholes 12 = .ok (.bipush 28, 2) := by decide +kernel
theorem dX9_wholes_14 : decode cX9_wholes 14 = .ok (.iload_n 1, 1) := by decide +kernel
theorem dX9_wholes_15 : decode cX9_wholes 15 = .ok (.iadd, 1) := by decide +kernel
theorem dX9_wholes_16 : decode cX9_wholes 16 = .ok (.iconst 0, 1) := by decide +kernel
theorem dX9_wholes_17 : decode cX9_wholes 17 = .ok (.iastore, 1) := by decide +kernel
theorem dX9_wholes_18 : decode cX9_wholes 18 = .ok (.iinc 1 1, 3) := by decide +kernel
theorem dX9_wholes_21 : decode cX9_wholes 21 = .ok (.goto (-19), 3) := by decide +kernel
theorem dX9_wholes_24 : decode cX9_wholes 24 = .ok (.return_, 1) := by decide +kernel
theorem dX9_undo_0 : decode cX9_undo 0 = .ok (.aload_n 0, 1) := by decide +kernel
theorem dX9_undo_1 : decode cX9_undo 1 = .ok (.getfield 106, 3) := by decide +kernel
theorem dX9_undo_4 : decode cX9_undo 4 = .ok (.ifCond .ne 6, 3) := by decide +kernel
theorem dX9_undo_7 : decode cX9_undo 7 = .ok (.bipush (-2), 2) := by decide +kernel
theorem dX9_undo_9 : decode cX9_undo 9 = .ok (.ireturn, 1) := by decide +kernel
theorem dX9_undo_10 : decode cX9_undo 10 = .ok (.aload_n 0, 1) := by decide +kernel
theorem dX9_undo_11 : decode cX9_undo 11 = .ok (.dup, 1) := by decide +kernel
theorem dX9_undo_12 : decode cX9_undo 12 = .ok (.getfield 106, 3) := by decide +kernel
theorem dX9_undo_15 : decode cX9_undo 15 = .ok (.iconst 1, 1) := by decide +kernel
theorem dX9_undo_16 : decode cX9_undo 16 = .ok (.isub, 1) := by decide +kernel
theorem dX9_undo_17 : decode cX9_undo 17 = .ok (.putfield 106, 3) := by decide +kernel
theorem dX9_undo_20 : decode cX9_undo 20 = .ok (.iconst 0, 1) := by decide +kernel
theorem dX9_undo_21 : decode cX9_undo 21 = .ok (.istore_n 1, 1) := by decide +kernel
theorem dX9_undo_22 : decode cX9_undo 22 = .ok (.iload_n 1, 1) := by decide +kernel
theorem dX9_undo_23 : decode cX9_undo 23 = .ok (.sipush 132, 3) := by decide +kernel
theorem dX9_undo_26 : decode cX9_undo 26 = .ok (.if_icmp .ge 30, 3) := by decide +kernel
theorem dX9_undo_29 : decode cX9_undo 29 = .ok (.aload_n 0, 1) := by decide +kernel
theorem dX9_undo_30 : decode cX9_undo 30 = .ok (.getfield 13, 3) := by decide +kernel
theorem dX9_undo_33 : decode cX9_undo 33 = .ok (.iload_n 1, 1) := by decide +kernel
theorem dX9_undo_34 : decode cX9_undo 34 = .ok (.aload_n 0, 1) := by decide +kernel
theorem dX9_undo_35 : decode cX9_undo 35 = .ok (.getfield 16, 3) := by decide +kernel
theorem dX9_undo_38 : decode cX9_undo 38 = .ok (.sipush 132, 3) := by decide +kernel
theorem dX9_undo_41 : decode cX9_undo 41 = .ok (.aload_n 0, 1) := by decide +kernel
theorem dX9_undo_42 : decode cX9_undo 42 = .ok (.getfield 106, 3) := by decide +kernel
theorem dX9_undo_45 : decode cX9_undo 45 = .ok (.imul, 1) := by decide +kernel
theorem dX9_undo_46 : decode cX9_undo 46 = .ok (.iload_n 1, 1) := by decide +kernel
theorem dX9_undo_47 : decode cX9_undo 47 = .ok (.iadd, 1) := by decide +kernel
theorem dX9_undo_48 : decode cX9_undo 48 = .ok (.iaload, 1) := by decide +kernel
theorem dX9_undo_49 : decode cX9_undo 49 = .ok (.iastore, 1) := by decide +kernel
theorem dX9_undo_50 : decode cX9_undo 50 = .ok (.iinc 1 1, 3) := by decide +kernel
theorem dX9_undo_53 : decode cX9_undo 53 = .ok (.goto (-31), 3) := by decide +kernel
theorem dX9_undo_56 : decode cX9_undo 56 = .ok (.aload_n 0, 1) := by decide +kernel
theorem dX9_undo_57 : decode cX9_undo 57 = .ok (.getfield 106, 3) := by decide +kernel
theorem dX9_undo_60 : decode cX9_undo 60 = .ok (.ireturn, 1) := by decide +kernel
theorem dX9_becomes_0 : decode cX9_becomes 0 = .ok (.aload_n 0, 1) := by decide +kernel
theorem dX9_becomes_1 : decode cX9_becomes 1 = .ok (.getfield 13, 3) := by decide +kernel
theorem dX9_becomes_4 : decode cX9_becomes 4 = .ok (.iload_n 1, 1) := by decide +kernel
theorem dX9_becomes_5 : decode cX9_becomes 5 = .ok (.iaload, 1) := by decide +kernel
theorem dX9_becomes_6 : decode cX9_becomes 6 = .ok (.istore_n 3, 1) := by decide +kernel
theorem dX9_becomes_7 : decode cX9_becomes 7 = .ok (.iload_n 3, 1) := by decide +kernel
theorem dX9_becomes_8 : decode cX9_becomes 8 = .ok (.iload_n 2, 1) := by decide +kernel
theorem dX9_becomes_9 : decode cX9_becomes 9 = .ok (.if_icmp .ne 6, 3) := by decide +kernel
theorem dX9_becomes_12 : decode cX9_becomes 12 = .ok (.bipush (-2), 2) := by decide +kernel
theorem dX9_becomes_14 : decode cX9_becomes 14 = .ok (.ireturn, 1) := by decide +kernel
theorem dX9_becomes_15 : decode cX9_becomes 15 = .ok (.aload_n 0, 1) := by decide +kernel
theorem dX9_becomes_16 : decode cX9_becomes 16 = .ok (.invokevirtual 109, 3) := by decide +kernel
theorem dX9_becomes_19 : decode cX9_becomes 19 = .ok (.aload_n 0, 1) := by decide +kernel
theorem dX9_becomes_20 : decode cX9_becomes 20 = .ok (.getfield 13, 3) := by decide +kernel
theorem dX9_becomes_23 : decode cX9_becomes 23 = .ok (.iload_n 1, 1) := by decide +kernel
theorem dX9_becomes_24 : decode cX9_becomes 24 = .ok (.iload_n 2, 1) := by decide +kernel
theorem dX9_becomes_25 : decode cX9_becomes 25 = .ok (.iastore, 1) := by decide +kernel
theorem dX9_becomes_26 : decode cX9_becomes 26 = .ok (.aload_n 0, 1) := by decide +kernel
theorem dX9_becomes_27 : decode cX9_becomes 27 = .ok (.invokevirtual 112, 3) := by decide +kernel
theorem dX9_becomes_30 : decode cX9_becomes 30 = .ok (.iload_n 3, 1) := by decide +kernel
theorem dX9_becomes_31 : decode cX9_becomes 31 = .ok (.ireturn, 1) := by decide +kernel
theorem dX9_tell_0 : decode cX9_tell 0 = .ok (.iload_n 1, 1) := by decide +kernel
theorem dX9_tell_1 : decode cX9_tell 1 = .ok (.ifCond .ne 15, 3) := by decide +kernel
theorem dX9_tell_4 : decode cX9_tell 4 = .ok (.iload_n 2, 1) := by decide +kernel
theorem dX9_tell_5 : decode cX9_tell 5 = .ok (.i2l, 1) := by decide +kernel
theorem dX9_tell_6 : decode cX9_tell 6 = .ok (.lconst 1, 1) := by decide +kernel
theorem dX9_tell_7 : decode cX9_tell 7 = .ok (.ldc2_w 115, 3) := by decide +kernel
theorem dX9_tell_10 : decode cX9_tell 10 = .ok (.invokestatic 57, 3) := by decide +kernel
theorem dX9_tell_13 : decode cX9_tell 13 = .ok (.goto 40, 3) := by decide +kernel
theorem dX9_tell_16 : decode cX9_tell 16 = .ok (.iload_n 1, 1) := by decide +kernel
theorem dX9_tell_17 : decode cX9_tell 17 = .ok (.iconst 1, 1) := by decide +kernel
theorem dX9_tell_18 : decode cX9_tell 18 = .ok (.if_icmp .ne 15, 3) := by decide +kernel
theorem dX9_tell_21 : decode cX9_tell 21 = .ok (.iload_n 2, 1) := by decide +kernel
theorem dX9_tell_22 : decode cX9_tell 22 = .ok (.i2l, 1) := by decide +kernel
theorem dX9_tell_23 : decode cX9_tell 23 = .ok (.lconst 0, 1) := by decide +kernel
theorem dX9_tell_24 : decode cX9_tell 24 = .ok (.ldc2_w 117, 3) := by decide +kernel
theorem dX9_tell_27 : decode cX9_tell 27 = .ok (.invokestatic 57, 3) := by decide +kernel
theorem dX9_tell_30 : decode cX9_tell 30 = .ok (.goto 23, 3) := by decide +kernel
theorem dX9_tell_33 : decode cX9_tell 33 = .ok (.iload_n 1, 1) := by decide +kernel
theorem dX9_tell_34 : decode cX9_tell 34 = .ok (.iconst 2, 1) := by decide +kernel
theorem dX9_tell_35 : decode cX9_tell 35 = .ok (.if_icmp .ne 17, 3) := by decide +kernel
theorem dX9_tell_38 : decode cX9_tell 38 = .ok (.iload_n 2, 1) := by decide +kernel
theorem dX9_tell_39 : decode cX9_tell 39 = .ok (.i2l, 1) := by decide +kernel
theorem dX9_tell_40 : decode cX9_tell 40 = .ok (.lconst 0, 1) := by decide +kernel
theorem dX9_tell_41 : decode cX9_tell 41 = .ok (.lconst 1, 1) := by decide +kernel
theorem dX9_tell_42 : decode cX9_tell 42 = .ok (.invokestatic 57, 3) := by decide +kernel
theorem dX9_tell_45 : decode cX9_tell 45 = .ok (.ifCond .eq 7, 3) := by decide +kernel
theorem dX9_tell_48 : decode cX9_tell 48 = .ok (.iconst 1, 1) := by decide +kernel
theorem dX9_tell_49 : decode cX9_tell 49 = .ok (.goto 4, 3) := by decide +kernel
theorem dX9_tell_52 : decode cX9_tell 52 = .ok (.iconst 0, 1) := by decide +kernel
theorem dX9_tell_53 : decode cX9_tell 53 = .ok (.istore_n 3, 1) := by decide +kernel
theorem dX9_tell_54 : decode cX9_tell 54 = .ok (.iload_n 3, 1) := by decide +kernel
theorem dX9_tell_55 : decode cX9_tell 55 = .ok (.ifCond .eq 29, 3) := by decide +kernel
theorem dX9_tell_58 : decode cX9_tell 58 = .ok (.aload_n 0, 1) := by decide +kernel
theorem dX9_tell_59 : decode cX9_tell 59 = .ok (.iload_n 1, 1) := by decide +kernel
theorem dX9_tell_60 : decode cX9_tell 60 = .ok (.ifCond .ne 7, 3) := by decide +kernel
theorem dX9_tell_63 : decode cX9_tell 63 = .ok (.iconst 0, 1) := by decide +kernel
theorem dX9_tell_64 : decode cX9_tell 64 = .ok (.goto 13, 3) := by decide +kernel
theorem dX9_tell_67 : decode cX9_tell 67 = .ok (.iload_n 1, 1) := by decide +kernel
theorem dX9_tell_68 : decode cX9_tell 68 = .ok (.iconst 1, 1) := by decide +kernel
theorem dX9_tell_69 : decode cX9_tell 69 = .ok (.if_icmp .ne 7, 3) := by decide +kernel
theorem dX9_tell_72 : decode cX9_tell 72 = .ok (.iconst 1, 1) := by decide +kernel
theorem dX9_tell_73 : decode cX9_tell 73 = .ok (.goto 4, 3) := by decide +kernel
theorem dX9_tell_76 : decode cX9_tell 76 = .ok (.iconst 2, 1) := by decide +kernel
theorem dX9_tell_77 : decode cX9_tell 77 = .ok (.iload_n 2, 1) := by decide +kernel
theorem dX9_tell_78 : decode cX9_tell 78 = .ok (.invokevirtual 119, 3) := by decide +kernel
theorem dX9_tell_81 : decode cX9_tell 81 = .ok (.goto 4, 3) := by decide +kernel
theorem dX9_tell_84 : decode cX9_tell 84 = .ok (.iconst (-1), 1) := by decide +kernel
theorem dX9_tell_85 : decode cX9_tell 85 = .ok (.ireturn, 1) := by decide +kernel
theorem dX9_isScheme_0 : decode cX9_isScheme 0 = .ok (.iload_n 1, 1) := by decide +kernel
theorem dX9_isScheme_1 : decode cX9_isScheme 1 = .ok (.i2l, 1) := by decide +kernel
theorem dX9_isScheme_2 : decode cX9_isScheme 2 = .ok (.lconst 0, 1) := by decide +kernel
theorem dX9_isScheme_3 : decode cX9_isScheme 3 = .ok (.aload_n 0, 1) := by decide +kernel
theorem dX9_isScheme_4 : decode cX9_isScheme 4 = .ok (.getfield 13, 3) := by decide +kernel
theorem dX9_isScheme_7 : decode cX9_isScheme 7 = .ok (.iconst 3, 1) := by decide +kernel
theorem dX9_isScheme_8 : decode cX9_isScheme 8 = .ok (.iaload, 1) := by decide +kernel
theorem dX9_isScheme_9 : decode cX9_isScheme 9 = .ok (.iconst 1, 1) := by decide +kernel
theorem dX9_isScheme_10 : decode cX9_isScheme 10 = .ok (.isub, 1) := by decide +kernel
theorem dX9_isScheme_11 : decode cX9_isScheme 11 = .ok (.i2l, 1) := by decide +kernel
theorem dX9_isScheme_12 : decode cX9_isScheme 12 = .ok (.invokestatic 57, 3) := by decide +kernel
theorem dX9_isScheme_15 : decode cX9_isScheme 15 = .ok (.ireturn, 1) := by decide +kernel
theorem dX9_price_0 : decode cX9_price 0 = .ok (.aload_n 0, 1) := by decide +kernel
theorem dX9_price_1 : decode cX9_price 1 = .ok (.iload_n 1, 1) := by decide +kernel
theorem dX9_price_2 : decode cX9_price 2 = .ok (.invokevirtual 122, 3) := by decide +kernel
theorem dX9_price_5 : decode cX9_price 5 = .ok (.ifCond .eq 26, 3) := by decide +kernel
theorem dX9_price_8 : decode cX9_price 8 = .ok (.iload_n 2, 1) := by decide +kernel
theorem dX9_price_9 : decode cX9_price 9 = .ok (.i2l, 1) := by decide +kernel
theorem dX9_price_10 : decode cX9_price 10 = .ok (.lconst 0, 1) := by decide +kernel
theorem dX9_price_11 : decode cX9_price 11 = .ok (.ldc2_w 125, 3) := by decide +kernel
theorem dX9_price_14 : decode cX9_price 14 = .ok (.invokestatic 57, 3) := by decide +kernel
theorem dX9_price_17 : decode cX9_price 17 = .ok (.ifCond .eq 14, 3) := by decide +kernel
theorem dX9_price_20 : decode cX9_price 20 = .ok (.aload_n 0, 1) := by decide +kernel
theorem dX9_price_21 : decode cX9_price 21 = .ok (.iconst 4, 1) := by decide +kernel
theorem dX9_price_22 : decode cX9_price 22 = .ok (.iload_n 1, 1) := by decide +kernel
theorem dX9_price_23 : decode cX9_price 23 = .ok (.iadd, 1) := by decide +kernel
theorem dX9_price_24 : decode cX9_price 24 = .ok (.iload_n 2, 1) := by decide +kernel
theorem dX9_price_25 : decode cX9_price 25 = .ok (.invokevirtual 119, 3) := by decide +kernel
theorem dX9_price_28 : decode cX9_price 28 = .ok (.goto 4, 3) := by decide +kernel
theorem dX9_price_31 : decode cX9_price 31 = .ok (.iconst (-1), 1) := by decide +kernel
theorem dX9_price_32 : decode cX9_price 32 = .ok (.ireturn, 1) := by decide +kernel
theorem dX9_folds_0 : decode cX9_folds 0 = .ok (.aload_n 0, 1) := by decide +kernel
theorem dX9_folds_1 : decode cX9_folds 1 = .ok (.iload_n 1, 1) := by decide +kernel
theorem dX9_folds_2 : decode cX9_folds 2 = .ok (.invokevirtual 122, 3) := by decide +kernel
theorem dX9_folds_5 : decode cX9_folds 5 = .ok (.ifCond .ne 5, 3) := by decide +kernel
theorem dX9_folds_8 : decode cX9_folds 8 = .ok (.iconst (-1), 1) := by decide +kernel
theorem dX9_folds_9 : decode cX9_folds 9 = .ok (.ireturn, 1) := by decide +kernel
theorem dX9_folds_10 : decode cX9_folds 10 = .ok (.aload_n 0, 1) := by decide +kernel
theorem dX9_folds_11 : decode cX9_folds 11 = .ok (.getfield 61, 3) := by decide +kernel
theorem dX9_folds_14 : decode cX9_folds 14 = .ok (.i2l, 1) := by decide +kernel
theorem dX9_folds_15 : decode cX9_folds 15 = .ok (.lconst 1, 1) := by decide +kernel
theorem dX9_folds_16 : decode cX9_folds 16 = .ok (.ldc2_w 95, 3) := by decide +kernel
theorem dX9_folds_19 : decode cX9_folds 19 = .ok (.invokestatic 57, 3) := by decide +kernel
theorem dX9_folds_22 : decode cX9_folds 22 = .ok (.ifCond .eq 23, 3) := by decide +kernel
theorem dX9_folds_25 : decode cX9_folds 25 = .ok (.aload_n 0, 1) := by decide +kernel
theorem dX9_folds_26 : decode cX9_folds 26 = .ok (.aload_n 0, 1) := by decide +kernel
theorem dX9_folds_27 : decode cX9_folds 27 = .ok (.getfield 61, 3) := by decide +kernel
theorem dX9_folds_30 : decode cX9_folds 30 = .ok (.iconst 1, 1) := by decide +kernel
theorem dX9_folds_31 : decode cX9_folds 31 = .ok (.isub, 1) := by decide +kernel
theorem dX9_folds_32 : decode cX9_folds 32 = .ok (.invokevirtual 68, 3) := by decide +kernel
theorem dX9_folds_35 : decode cX9_folds 35 = .ok (.invokestatic 80, 3) := by decide +kernel
theorem dX9_folds_38 : decode cX9_folds 38 = .ok (.ifCond .eq 7, 3) := by decide +kernel
theorem dX9_folds_41 : decode cX9_folds 41 = .ok (.iconst 1, 1) := by decide +kernel
theorem dX9_folds_42 : decode cX9_folds 42 = .ok (.goto 4, 3) := by decide +kernel
theorem dX9_folds_45 : decode cX9_folds 45 = .ok (.iconst 0, 1) := by decide +kernel
theorem dX9_folds_46 : decode cX9_folds 46 = .ok (.istore_n 2, 1) := by decide +kernel
theorem dX9_folds_47 : decode cX9_folds 47 = .ok (.aload_n 0, 1) := by decide +kernel
theorem dX9_folds_48 : decode cX9_folds 48 = .ok (.getfield 61, 3) := by decide +kernel
theorem dX9_folds_51 : decode cX9_folds 51 = .ok (.aload_n 0, 1) := by decide +kernel
theorem dX9_folds_52 : decode cX9_folds 52 = .ok (.getfield 13, 3) := by decide +kernel
theorem dX9_folds_55 : decode cX9_folds 55 = .ok (.bipush 8, 2) := by decide +kernel
theorem dX9_folds_57 : decode cX9_folds 57 = .ok (.iconst 5, 1) := by decide +kernel
theorem dX9_folds_58 : decode cX9_folds 58 = .ok (.iload_n 1, 1) := by decide +kernel
theorem dX9_folds_59 : decode cX9_folds 59 = .ok (.imul, 1) := by decide +kernel
theorem dX9_folds_60 : decode cX9_folds 60 = .ok (.iadd, 1) := by decide +kernel
theorem dX9_folds_61 : decode cX9_folds 61 = .ok (.iaload, 1) := by decide +kernel
theorem dX9_folds_62 : decode cX9_folds 62 = .ok (.if_icmp .ne 7, 3) := by decide +kernel
theorem dX9_folds_65 : decode cX9_folds 65 = .ok (.iconst 1, 1) := by decide +kernel
theorem dX9_folds_66 : decode cX9_folds 66 = .ok (.goto 4, 3) := by decide +kernel
theorem dX9_folds_69 : decode cX9_folds 69 = .ok (.iconst 0, 1) := by decide +kernel
theorem dX9_folds_70 : decode cX9_folds 70 = .ok (.istore_n 3, 1) := by decide +kernel
theorem dX9_folds_71 : decode cX9_folds 71 = .ok (.iconst 0, 1) := by decide +kernel
theorem dX9_folds_72 : decode cX9_folds 72 = .ok (.istore 4, 2) := by decide +kernel
theorem dX9_folds_74 : decode cX9_folds 74 = .ok (.iload 4, 2) := by decide +kernel
theorem dX9_folds_76 : decode cX9_folds 76 = .ok (.aload_n 0, 1) := by decide +kernel
theorem dX9_folds_77 : decode cX9_folds 77 = .ok (.getfield 61, 3) := by decide +kernel
theorem dX9_folds_80 : decode cX9_folds 80 = .ok (.if_icmp .ge 60, 3) := by decide +kernel
theorem dX9_folds_83 : decode cX9_folds 83 = .ok (.iload_n 2, 1) := by decide +kernel
theorem dX9_folds_84 : decode cX9_folds 84 = .ok (.ifCond .eq 56, 3) := by decide +kernel
theorem dX9_folds_87 : decode cX9_folds 87 = .ok (.aload_n 0, 1) := by decide +kernel
theorem dX9_folds_88 : decode cX9_folds 88 = .ok (.getfield 7, 3) := by decide +kernel
theorem dX9_folds_91 : decode cX9_folds 91 = .ok (.iload 4, 2) := by decide +kernel
theorem dX9_folds_93 : decode cX9_folds 93 = .ok (.iaload, 1) := by decide +kernel
theorem dX9_folds_94 : decode cX9_folds 94 = .ok (.invokestatic 76, 3) := by decide +kernel
theorem dX9_folds_97 : decode cX9_folds 97 = .ok (.istore_n 2, 1) := by decide +kernel
theorem dX9_folds_98 : decode cX9_folds 98 = .ok (.iload_n 3, 1) := by decide +kernel
theorem dX9_folds_99 : decode cX9_folds 99 = .ok (.ifCond .eq 33, 3) := by decide +kernel
theorem dX9_folds_102 : decode cX9_folds 102 = .ok (.aload_n 0, 1) := by decide +kernel
theorem dX9_folds_103 : decode cX9_folds 103 = .ok (.getfield 7, 3) := by decide +kernel
theorem dX9_folds_106 : decode cX9_folds 106 = .ok (.iload 4, 2) := by decide +kernel
theorem dX9_folds_108 : decode cX9_folds 108 = .ok (.iaload, 1) := by decide +kernel
theorem dX9_folds_109 : decode cX9_folds 109 = .ok (.aload_n 0, 1) := by decide +kernel
theorem dX9_folds_110 : decode cX9_folds 110 = .ok (.getfield 13, 3) := by decide +kernel
theorem dX9_folds_113 : decode cX9_folds 113 = .ok (.bipush 8, 2) := by decide +kernel
theorem dX9_folds_115 : decode cX9_folds 115 = .ok (.iconst 5, 1) := by decide +kernel
theorem dX9_folds_116 : decode cX9_folds 116 = .ok (.iload_n 1, 1) := by decide +kernel
theorem dX9_folds_117 : decode cX9_folds 117 = .ok (.imul, 1) := by decide +kernel
theorem dX9_folds_118 : decode cX9_folds 118 = .ok (.iadd, 1) := by decide +kernel
theorem dX9_folds_119 : decode cX9_folds 119 = .ok (.iconst 1, 1) := by decide +kernel
theorem dX9_folds_120 : decode cX9_folds 120 = .ok (.iadd, 1) := by decide +kernel
theorem dX9_folds_121 : decode cX9_folds 121 = .ok (.iload 4, 2) := by decide +kernel
theorem dX9_folds_123 : decode cX9_folds 123 = .ok (.iadd, 1) := by decide +kernel
theorem dX9_folds_124 : decode cX9_folds 124 = .ok (.iaload, 1) := by decide +kernel
theorem dX9_folds_125 : decode cX9_folds 125 = .ok (.if_icmp .ne 7, 3) := by decide +kernel
theorem dX9_folds_128 : decode cX9_folds 128 = .ok (.iconst 1, 1) := by decide +kernel
theorem dX9_folds_129 : decode cX9_folds 129 = .ok (.goto 4, 3) := by decide +kernel
theorem dX9_folds_132 : decode cX9_folds 132 = .ok (.iconst 0, 1) := by decide +kernel
theorem dX9_folds_133 : decode cX9_folds 133 = .ok (.istore_n 3, 1) := by decide +kernel
theorem dX9_folds_134 : decode cX9_folds 134 = .ok (.iinc 4 1, 3) := by decide +kernel
theorem dX9_folds_137 : decode cX9_folds 137 = .ok (.goto (-63), 3) := by decide +kernel
theorem dX9_folds_140 : decode cX9_folds 140 = .ok (.iload_n 2, 1) := by decide +kernel
theorem dX9_folds_141 : decode cX9_folds 141 = .ok (.ifCond .eq 7, 3) := by decide +kernel
theorem dX9_folds_144 : decode cX9_folds 144 = .ok (.iload_n 3, 1) := by decide +kernel
theorem dX9_folds_145 : decode cX9_folds 145 = .ok (.ifCond .eq 6, 3) := by decide +kernel
theorem dX9_folds_148 : decode cX9_folds 148 = .ok (.bipush (-2), 2) := by decide +kernel
theorem dX9_folds_150 : decode cX9_folds 150 = .ok (.ireturn, 1) := by decide +kernel
theorem dX9_folds_151 : decode cX9_folds 151 = .ok (.aload_n 0, 1) := by decide +kernel
theorem dX9_folds_152 : decode cX9_folds 152 = .ok (.invokevirtual 109, 3) := by decide +kernel
theorem dX9_folds_155 : decode cX9_folds 155 = .ok (.aload_n 0, 1) := by decide +kernel
theorem dX9_folds_156 : decode cX9_folds 156 = .ok (.getfield 13, 3) := by decide +kernel
theorem dX9_folds_159 : decode cX9_folds 159 = .ok (.bipush 8, 2) := by decide +kernel
theorem dX9_folds_161 : decode cX9_folds 161 = .ok (.iconst 5, 1) := by decide +kernel
theorem dX9_folds_162 : decode cX9_folds 162 = .ok (.iload_n 1, 1) := by decide +kernel
theorem dX9_folds_163 : decode cX9_folds 163 = .ok (.imul, 1) := by decide +kernel
theorem dX9_folds_164 : decode cX9_folds 164 = .ok (.iadd, 1) := by decide +kernel
theorem dX9_folds_165 : decode cX9_folds 165 = .ok (.aload_n 0, 1) := by decide +kernel
theorem dX9_folds_166 : decode cX9_folds 166 = .ok (.getfield 61, 3) := by decide +kernel
theorem dX9_folds_169 : decode cX9_folds 169 = .ok (.iastore, 1) := by decide +kernel
theorem dX9_folds_170 : decode cX9_folds 170 = .ok (.iconst 0, 1) := by decide +kernel
theorem dX9_folds_171 : decode cX9_folds 171 = .ok (.istore 4, 2) := by decide +kernel
theorem dX9_folds_173 : decode cX9_folds 173 = .ok (.iload 4, 2) := by decide +kernel
theorem dX9_folds_175 : decode cX9_folds 175 = .ok (.iconst 4, 1) := by decide +kernel
theorem dX9_folds_176 : decode cX9_folds 176 = .ok (.if_icmp .ge 45, 3) := by decide +kernel
theorem dX9_folds_179 : decode cX9_folds 179 = .ok (.aload_n 0, 1) := by decide +kernel
theorem dX9_folds_180 : decode cX9_folds 180 = .ok (.getfield 13, 3) := by decide +kernel
theorem dX9_folds_183 : decode cX9_folds 183 = .ok (.bipush 8, 2) := by decide +kernel
theorem dX9_folds_185 : decode cX9_folds 185 = .ok (.iconst 5, 1) := by decide +kernel
theorem dX9_folds_186 : decode cX9_folds 186 = .ok (.iload_n 1, 1) := by decide +kernel
theorem dX9_folds_187 : decode cX9_folds 187 = .ok (.imul, 1) := by decide +kernel
theorem dX9_folds_188 : decode cX9_folds 188 = .ok (.iadd, 1) := by decide +kernel
theorem dX9_folds_189 : decode cX9_folds 189 = .ok (.iconst 1, 1) := by decide +kernel
theorem dX9_folds_190 : decode cX9_folds 190 = .ok (.iadd, 1) := by decide +kernel
theorem dX9_folds_191 : decode cX9_folds 191 = .ok (.iload 4, 2) := by decide +kernel
theorem dX9_folds_193 : decode cX9_folds 193 = .ok (.iadd, 1) := by decide +kernel
theorem dX9_folds_194 : decode cX9_folds 194 = .ok (.iload 4, 2) := by decide +kernel
theorem dX9_folds_196 : decode cX9_folds 196 = .ok (.aload_n 0, 1) := by decide +kernel
theorem dX9_folds_197 : decode cX9_folds 197 = .ok (.getfield 61, 3) := by decide +kernel
theorem dX9_folds_200 : decode cX9_folds 200 = .ok (.if_icmp .ge 13, 3) := by decide +kernel
theorem dX9_folds_203 : decode cX9_folds 203 = .ok (.aload_n 0, 1) := by decide +kernel
theorem dX9_folds_204 : decode cX9_folds 204 = .ok (.getfield 7, 3) := by decide +kernel
theorem dX9_folds_207 : decode cX9_folds 207 = .ok (.iload 4, 2) := by decide +kernel
theorem dX9_folds_209 : decode cX9_folds 209 = .ok (.iaload, 1) := by decide +kernel
theorem dX9_folds_210 : decode cX9_folds 210 = .ok (.goto 4, 3) := by decide +kernel
theorem dX9_folds_213 : decode cX9_folds 213 = .ok (.iconst 0, 1) := by decide +kernel
theorem dX9_folds_214 : decode cX9_folds 214 = .ok (.iastore, 1) := by decide +kernel
theorem dX9_folds_215 : decode cX9_folds 215 = .ok (.iinc 4 1, 3) := by decide +kernel
theorem dX9_folds_218 : decode cX9_folds 218 = .ok (.goto (-45), 3) := by decide +kernel
theorem dX9_folds_221 : decode cX9_folds 221 = .ok (.aload_n 0, 1) := by decide +kernel
theorem dX9_folds_222 : decode cX9_folds 222 = .ok (.invokevirtual 112, 3) := by decide +kernel
theorem dX9_folds_225 : decode cX9_folds 225 = .ok (.aload_n 0, 1) := by decide +kernel
theorem dX9_folds_226 : decode cX9_folds 226 = .ok (.getfield 61, 3) := by decide +kernel
theorem dX9_folds_229 : decode cX9_folds 229 = .ok (.ireturn, 1) := by decide +kernel
theorem dX9_lays_0 : decode cX9_lays 0 = .ok (.aload_n 0, 1) := by decide +kernel
theorem dX9_lays_1 : decode cX9_lays 1 = .ok (.aload_n 0, 1) := by decide +kernel
theorem dX9_lays_2 : decode cX9_lays 2 = .ok (.getfield 13, 3) := by decide +kernel
theorem dX9_lays_5 : decode cX9_lays 5 = .ok (.bipush 8, 2) := by decide +kernel
theorem dX9_lays_7 : decode cX9_lays 7 = .ok (.iconst 5, 1) := by decide +kernel
theorem dX9_lays_8 : decode cX9_lays 8 = .ok (.iload_n 1, 1) := by decide +kernel
theorem dX9_lays_9 : decode cX9_lays 9 = .ok (.imul, 1) := by decide +kernel
theorem dX9_lays_10 : decode cX9_lays 10 = .ok (.iadd, 1) := by decide +kernel
theorem dX9_lays_11 : decode cX9_lays 11 = .ok (.iaload, 1) := by decide +kernel
theorem dX9_lays_12 : decode cX9_lays 12 = .ok (.putfield 127, 3) := by decide +kernel
theorem dX9_lays_15 : decode cX9_lays 15 = .ok (.iconst 0, 1) := by decide +kernel
theorem dX9_lays_16 : decode cX9_lays 16 = .ok (.istore_n 2, 1) := by decide +kernel
theorem dX9_lays_17 : decode cX9_lays 17 = .ok (.iload_n 2, 1) := by decide +kernel
theorem dX9_lays_18 : decode cX9_lays 18 = .ok (.aload_n 0, 1) := by decide +kernel
theorem dX9_lays_19 : decode cX9_lays 19 = .ok (.getfield 127, 3) := by decide +kernel
theorem dX9_lays_22 : decode cX9_lays 22 = .ok (.if_icmp .ge 30, 3) := by decide +kernel
theorem dX9_lays_25 : decode cX9_lays 25 = .ok (.aload_n 0, 1) := by decide +kernel
theorem dX9_lays_26 : decode cX9_lays 26 = .ok (.getfield 22, 3) := by decide +kernel
theorem dX9_lays_29 : decode cX9_lays 29 = .ok (.iload_n 2, 1) := by decide +kernel
theorem dX9_lays_30 : decode cX9_lays 30 = .ok (.aload_n 0, 1) := by decide +kernel
theorem dX9_lays_31 : decode cX9_lays 31 = .ok (.getfield 13, 3) := by decide +kernel
theorem dX9_lays_34 : decode cX9_lays 34 = .ok (.bipush 8, 2) := by decide +kernel
theorem dX9_lays_36 : decode cX9_lays 36 = .ok (.iconst 5, 1) := by decide +kernel
theorem dX9_lays_37 : decode cX9_lays 37 = .ok (.iload_n 1, 1) := by decide +kernel
theorem dX9_lays_38 : decode cX9_lays 38 = .ok (.imul, 1) := by decide +kernel
theorem dX9_lays_39 : decode cX9_lays 39 = .ok (.iadd, 1) := by decide +kernel
theorem dX9_lays_40 : decode cX9_lays 40 = .ok (.iconst 1, 1) := by decide +kernel
theorem dX9_lays_41 : decode cX9_lays 41 = .ok (.iadd, 1) := by decide +kernel
theorem dX9_lays_42 : decode cX9_lays 42 = .ok (.iload_n 2, 1) := by decide +kernel
theorem dX9_lays_43 : decode cX9_lays 43 = .ok (.iadd, 1) := by decide +kernel
theorem dX9_lays_44 : decode cX9_lays 44 = .ok (.iaload, 1) := by decide +kernel
theorem dX9_lays_45 : decode cX9_lays 45 = .ok (.iastore, 1) := by decide +kernel
theorem dX9_lays_46 : decode cX9_lays 46 = .ok (.iinc 2 1, 3) := by decide +kernel
theorem dX9_lays_49 : decode cX9_lays 49 = .ok (.goto (-32), 3) := by decide +kernel
theorem dX9_lays_52 : decode cX9_lays 52 = .ok (.aload_n 0, 1) := by decide +kernel
theorem dX9_lays_53 : decode cX9_lays 53 = .ok (.invokevirtual 130, 3) := by decide +kernel
theorem dX9_lays_56 : decode cX9_lays 56 = .ok (.return_, 1) := by decide +kernel
theorem dX9_turns_0 : decode cX9_turns 0 = .ok (.iload_n 1, 1) := by decide +kernel
theorem dX9_turns_1 : decode cX9_turns 1 = .ok (.invokestatic 80, 3) := by decide +kernel
theorem dX9_turns_4 : decode cX9_turns 4 = .ok (.istore_n 3, 1) := by decide +kernel
theorem dX9_turns_5 : decode cX9_turns 5 = .ok (.iload_n 3, 1) := by decide +kernel
theorem dX9_turns_6 : decode cX9_turns 6 = .ok (.ifCond .eq 12, 3) := by decide +kernel
theorem dX9_turns_9 : decode cX9_turns 9 = .ok (.aload_n 0, 1) := by decide +kernel
theorem dX9_turns_10 : decode cX9_turns 10 = .ok (.getfield 133, 3) := by decide +kernel
theorem dX9_turns_13 : decode cX9_turns 13 = .ok (.iconst 2, 1) := by decide +kernel
theorem dX9_turns_14 : decode cX9_turns 14 = .ok (.idiv, 1) := by decide +kernel
theorem dX9_turns_15 : decode cX9_turns 15 = .ok (.goto 7, 3) := by decide +kernel
theorem dX9_turns_18 : decode cX9_turns 18 = .ok (.aload_n 0, 1) := by decide +kernel
theorem dX9_turns_19 : decode cX9_turns 19 = .ok (.getfield 133, 3) := by decide +kernel
theorem dX9_turns_22 : decode cX9_turns 22 = .ok (.istore 4, 2) := by decide +kernel
theorem dX9_turns_24 : decode cX9_turns 24 = .ok (.iload_n 3, 1) := by decide +kernel
theorem dX9_turns_25 : decode cX9_turns 25 = .ok (.ifCond .eq 10, 3) := by decide +kernel
theorem dX9_turns_28 : decode cX9_turns 28 = .ok (.aload_n 0, 1) := by decide +kernel
theorem dX9_turns_29 : decode cX9_turns 29 = .ok (.getfield 136, 3) := by decide +kernel
theorem dX9_turns_32 : decode cX9_turns 32 = .ok (.goto 9, 3) := by decide +kernel
theorem dX9_turns_35 : decode cX9_turns 35 = .ok (.aload_n 0, 1) := by decide +kernel
theorem dX9_turns_36 : decode cX9_turns 36 = .ok (.getfield 136, 3) := by decide +kernel
theorem dX9_turns_39 : decode cX9_turns 39 = .ok (.iconst 2, 1) := by decide +kernel
theorem dX9_turns_40 : decode cX9_turns 40 = .ok (.idiv, 1) := by decide +kernel
theorem dX9_turns_41 : decode cX9_turns 41 = .ok (.istore 5, 2) := by decide +kernel
theorem dX9_turns_43 : decode cX9_turns 43 = .ok (.iconst 0, 1) := by decide +kernel
theorem dX9_turns_44 : decode cX9_turns 44 = .ok (.istore 6, 2) := by decide +kernel
theorem dX9_turns_46 : decode cX9_turns 46 = .ok (.iload 6, 2) := by decide +kernel
theorem dX9_turns_48 : decode cX9_turns 48 = .ok (.iload 5, 2) := by decide +kernel
theorem dX9_turns_50 : decode cX9_turns 50 = .ok (.if_icmp .ge 216, 3) := by decide +kernel
theorem dX9_turns_53 : decode cX9_turns 53 = .ok (.iconst 0, 1) := by decide +kernel
theorem dX9_turns_54 : decode cX9_turns 54 = .ok (.istore 7, 2) := by decide +kernel
theorem dX9_turns_56 : decode cX9_turns 56 = .ok (.iload 7, 2) := by decide +kernel
theorem dX9_turns_58 : decode cX9_turns 58 = .ok (.iload 4, 2) := by decide +kernel
theorem dX9_turns_60 : decode cX9_turns 60 = .ok (.if_icmp .ge 200, 3) := by decide +kernel
theorem dX9_turns_63 : decode cX9_turns 63 = .ok (.iload_n 1, 1) := by decide +kernel
theorem dX9_turns_64 : decode cX9_turns 64 = .ok (.bipush 108, 2) := by decide +kernel
theorem dX9_turns_66 : decode cX9_turns 66 = .ok (.if_icmp .ne 11, 3) := by decide +kernel
theorem dX9_turns_69 : decode cX9_turns 69 = .ok (.iload 7, 2) := by decide +kernel
theorem dX9_turns_71 : decode cX9_turns 71 = .ok (.iload 4, 2) := by decide +kernel
theorem dX9_turns_73 : decode cX9_turns 73 = .ok (.iadd, 1) := by decide +kernel
theorem dX9_turns_74 : decode cX9_turns 74 = .ok (.goto 5, 3) := by decide +kernel
theorem dX9_turns_77 : decode cX9_turns 77 = .ok (.iload 7, 2) := by decide +kernel
theorem dX9_turns_79 : decode cX9_turns 79 = .ok (.istore 8, 2) := by decide +kernel
theorem dX9_turns_81 : decode cX9_turns 81 = .ok (.iload_n 1, 1) := by decide +kernel
theorem dX9_turns_82 : decode cX9_turns 82 = .ok (.bipush 116, 2) := by decide +kernel
theorem dX9_turns_84 : decode cX9_turns 84 = .ok (.if_icmp .ne 11, 3) := by decide +kernel
theorem dX9_turns_87 : decode cX9_turns 87 = .ok (.iload 6, 2) := by decide +kernel
theorem dX9_turns_89 : decode cX9_turns 89 = .ok (.iload 5, 2) := by decide +kernel
theorem dX9_turns_91 : decode cX9_turns 91 = .ok (.iadd, 1) := by decide +kernel
theorem dX9_turns_92 : decode cX9_turns 92 = .ok (.goto 5, 3) := by decide +kernel
theorem dX9_turns_95 : decode cX9_turns 95 = .ok (.iload 6, 2) := by decide +kernel
theorem dX9_turns_97 : decode cX9_turns 97 = .ok (.istore 9, 2) := by decide +kernel
theorem dX9_turns_99 : decode cX9_turns 99 = .ok (.iload_n 3, 1) := by decide +kernel
theorem dX9_turns_100 : decode cX9_turns 100 = .ok (.ifCond .eq 15, 3) := by decide +kernel
theorem dX9_turns_103 : decode cX9_turns 103 = .ok (.aload_n 0, 1) := by decide +kernel
theorem dX9_turns_104 : decode cX9_turns 104 = .ok (.getfield 133, 3) := by decide +kernel
theorem dX9_turns_107 : decode cX9_turns 107 = .ok (.iconst 1, 1) := by decide +kernel
theorem dX9_turns_108 : decode cX9_turns 108 = .ok (.isub, 1) := by decide +kernel
theorem dX9_turns_109 : decode cX9_turns 109 = .ok (.iload 8, 2) := by decide +kernel
theorem dX9_turns_111 : decode cX9_turns 111 = .ok (.isub, 1) := by decide +kernel
theorem dX9_turns_112 : decode cX9_turns 112 = .ok (.goto 5, 3) := by decide +kernel
theorem dX9_turns_115 : decode cX9_turns 115 = .ok (.iload 8, 2) := by decide +kernel
theorem dX9_turns_117 : decode cX9_turns 117 = .ok (.istore 10, 2) := by decide +kernel
theorem dX9_turns_119 : decode cX9_turns 119 = .ok (.iload_n 3, 1) := by decide +kernel
theorem dX9_turns_120 : decode cX9_turns 120 = .ok (.ifCond .eq 8, 3) := by decide +kernel
theorem dX9_turns_123 : decode cX9_turns 123 = .ok (.iload 9, 2) := by decide +kernel
theorem dX9_turns_125 : decode cX9_turns 125 = .ok (.goto 12, 3) := by decide +kernel
theorem dX9_turns_128 : decode cX9_turns 128 = .ok (.aload_n 0, 1) := by decide +kernel
theorem dX9_turns_129 : decode cX9_turns 129 = .ok (.getfield 136, 3) := by decide +kernel
theorem dX9_turns_132 : decode cX9_turns 132 = .ok (.iconst 1, 1) := by decide +kernel
theorem dX9_turns_133 : decode cX9_turns 133 = .ok (.isub, 1) := by decide +kernel
theorem dX9_turns_134 : decode cX9_turns 134 = .ok (.iload 9, 2) := by decide +kernel
theorem dX9_turns_136 : decode cX9_turns 136 = .ok (.isub, 1) := by decide +kernel
theorem dX9_turns_137 : decode cX9_turns 137 = .ok (.istore 11, 2) := by decide +kernel
theorem dX9_turns_139 : decode cX9_turns 139 = .ok (.iconst 2, 1) := by decide +kernel
theorem dX9_turns_140 : decode cX9_turns 140 = .ok (.iload_n 2, 1) := by decide +kernel
theorem dX9_turns_141 : decode cX9_turns 141 = .ok (.imul, 1) := by decide +kernel
theorem dX9_turns_142 : decode cX9_turns 142 = .ok (.iload 6, 2) := by decide +kernel
theorem dX9_turns_144 : decode cX9_turns 144 = .ok (.iload 4, 2) := by decide +kernel
theorem dX9_turns_146 : decode cX9_turns 146 = .ok (.imul, 1) := by decide +kernel
theorem dX9_turns_147 : decode cX9_turns 147 = .ok (.iload 7, 2) := by decide +kernel
theorem dX9_turns_149 : decode cX9_turns 149 = .ok (.iadd, 1) := by decide +kernel
theorem dX9_turns_150 : decode cX9_turns 150 = .ok (.imul, 1) := by decide +kernel
theorem dX9_turns_151 : decode cX9_turns 151 = .ok (.istore 12, 2) := by decide +kernel
theorem dX9_turns_153 : decode cX9_turns 153 = .ok (.iload_n 2, 1) := by decide +kernel
theorem dX9_turns_154 : decode cX9_turns 154 = .ok (.iload 9, 2) := by decide +kernel
theorem dX9_turns_156 : decode cX9_turns 156 = .ok (.aload_n 0, 1) := by decide +kernel
theorem dX9_turns_157 : decode cX9_turns 157 = .ok (.getfield 133, 3) := by decide +kernel
theorem dX9_turns_160 : decode cX9_turns 160 = .ok (.imul, 1) := by decide +kernel
theorem dX9_turns_161 : decode cX9_turns 161 = .ok (.iload 8, 2) := by decide +kernel
theorem dX9_turns_163 : decode cX9_turns 163 = .ok (.iadd, 1) := by decide +kernel
theorem dX9_turns_164 : decode cX9_turns 164 = .ok (.imul, 1) := by decide +kernel
theorem dX9_turns_165 : decode cX9_turns 165 = .ok (.istore 13, 2) := by decide +kernel
theorem dX9_turns_167 : decode cX9_turns 167 = .ok (.iload_n 2, 1) := by decide +kernel
theorem dX9_turns_168 : decode cX9_turns 168 = .ok (.iload 11, 2) := by decide +kernel
theorem dX9_turns_170 : decode cX9_turns 170 = .ok (.aload_n 0, 1) := by decide +kernel
theorem dX9_turns_171 : decode cX9_turns 171 = .ok (.getfield 133, 3) := by decide +kernel
theorem dX9_turns_174 : decode cX9_turns 174 = .ok (.imul, 1) := by decide +kernel
theorem dX9_turns_175 : decode cX9_turns 175 = .ok (.iload 10, 2) := by decide +kernel
theorem dX9_turns_177 : decode cX9_turns 177 = .ok (.iadd, 1) := by decide +kernel
theorem dX9_turns_178 : decode cX9_turns 178 = .ok (.imul, 1) := by decide +kernel
theorem dX9_turns_179 : decode cX9_turns 179 = .ok (.istore 14, 2) := by decide +kernel
theorem dX9_turns_181 : decode cX9_turns 181 = .ok (.iconst 0, 1) := by decide +kernel
theorem dX9_turns_182 : decode cX9_turns 182 = .ok (.istore 15, 2) := by decide +kernel
theorem dX9_turns_184 : decode cX9_turns 184 = .ok (.iload 15, 2) := by decide +kernel
theorem dX9_turns_186 : decode cX9_turns 186 = .ok (.iload_n 2, 1) := by decide +kernel
theorem dX9_turns_187 : decode cX9_turns 187 = .ok (.if_icmp .ge 67, 3) := by decide +kernel
theorem dX9_turns_190 : decode cX9_turns 190 = .ok (.aload_n 0, 1) := by decide +kernel
theorem dX9_turns_191 : decode cX9_turns 191 = .ok (.getfield 28, 3) := by decide +kernel
theorem dX9_turns_194 : decode cX9_turns 194 = .ok (.iload 12, 2) := by decide +kernel
theorem dX9_turns_196 : decode cX9_turns 196 = .ok (.iload 15, 2) := by decide +kernel
theorem dX9_turns_198 : decode cX9_turns 198 = .ok (.iadd, 1) := by decide +kernel
theorem dX9_turns_199 : decode cX9_turns 199 = .ok (.aload_n 0, 1) := by decide +kernel
theorem dX9_turns_200 : decode cX9_turns 200 = .ok (.getfield 25, 3) := by decide +kernel
theorem dX9_turns_203 : decode cX9_turns 203 = .ok (.iload 13, 2) := by decide +kernel
theorem dX9_turns_205 : decode cX9_turns 205 = .ok (.iload 15, 2) := by decide +kernel
theorem dX9_turns_207 : decode cX9_turns 207 = .ok (.iadd, 1) := by decide +kernel
theorem dX9_turns_208 : decode cX9_turns 208 = .ok (.iaload, 1) := by decide +kernel
theorem dX9_turns_209 : decode cX9_turns 209 = .ok (.iastore, 1) := by decide +kernel
theorem dX9_turns_210 : decode cX9_turns 210 = .ok (.aload_n 0, 1) := by decide +kernel
theorem dX9_turns_211 : decode cX9_turns 211 = .ok (.getfield 28, 3) := by decide +kernel
theorem dX9_turns_214 : decode cX9_turns 214 = .ok (.iload 12, 2) := by decide +kernel
theorem dX9_turns_216 : decode cX9_turns 216 = .ok (.iload_n 2, 1) := by decide +kernel
theorem dX9_turns_217 : decode cX9_turns 217 = .ok (.iadd, 1) := by decide +kernel
theorem dX9_turns_218 : decode cX9_turns 218 = .ok (.iload 15, 2) := by decide +kernel
theorem dX9_turns_220 : decode cX9_turns 220 = .ok (.iadd, 1) := by decide +kernel
theorem dX9_turns_221 : decode cX9_turns 221 = .ok (.aload_n 0, 1) := by decide +kernel
theorem dX9_turns_222 : decode cX9_turns 222 = .ok (.getfield 25, 3) := by decide +kernel
theorem dX9_turns_225 : decode cX9_turns 225 = .ok (.iload 14, 2) := by decide +kernel
theorem dX9_turns_227 : decode cX9_turns 227 = .ok (.iload_n 2, 1) := by decide +kernel
theorem dX9_turns_228 : decode cX9_turns 228 = .ok (.iadd, 1) := by decide +kernel
theorem dX9_turns_229 : decode cX9_turns 229 = .ok (.iconst 1, 1) := by decide +kernel
theorem dX9_turns_230 : decode cX9_turns 230 = .ok (.isub, 1) := by decide +kernel
theorem dX9_turns_231 : decode cX9_turns 231 = .ok (.iload 15, 2) := by decide +kernel
theorem dX9_turns_233 : decode cX9_turns 233 = .ok (.isub, 1) := by decide +kernel
theorem dX9_turns_234 : decode cX9_turns 234 = .ok (.iaload, 1) := by decide +kernel
theorem dX9_turns_235 : decode cX9_turns 235 = .ok (.iload_n 3, 1) := by decide +kernel
theorem dX9_turns_236 : decode cX9_turns 236 = .ok (.ifCond .eq 8, 3) := by decide +kernel
theorem dX9_turns_239 : decode cX9_turns 239 = .ok (.bipush 16, 2) := by decide +kernel
theorem dX9_turns_241 : decode cX9_turns 241 = .ok (.goto 5, 3) := by decide +kernel
theorem dX9_turns_244 : decode cX9_turns 244 = .ok (.bipush 48, 2) := by decide +kernel
theorem dX9_turns_246 : decode cX9_turns 246 = .ok (.ixor, 1) := by decide +kernel
theorem dX9_turns_247 : decode cX9_turns 247 = .ok (.iastore, 1) := by decide +kernel
theorem dX9_turns_248 : decode cX9_turns 248 = .ok (.iinc 15 1, 3) := by decide +kernel
theorem dX9_turns_251 : decode cX9_turns 251 = .ok (.goto (-67), 3) := by decide +kernel
theorem dX9_turns_254 : decode cX9_turns 254 = .ok (.iinc 7 1, 3) := by decide +kernel
theorem dX9_turns_257 : decode cX9_turns 257 = .ok (.goto (-201), 3) := by decide +kernel
theorem dX9_turns_260 : decode cX9_turns 260 = .ok (.iinc 6 1, 3) := by decide +kernel
theorem dX9_turns_263 : decode cX9_turns 263 = .ok (.goto (-217), 3) := by decide +kernel
theorem dX9_turns_266 : decode cX9_turns 266 = .ok (.iconst 0, 1) := by decide +kernel
theorem dX9_turns_267 : decode cX9_turns 267 = .ok (.istore 6, 2) := by decide +kernel
theorem dX9_turns_269 : decode cX9_turns 269 = .ok (.iload 6, 2) := by decide +kernel
theorem dX9_turns_271 : decode cX9_turns 271 = .ok (.bipush 16, 2) := by decide +kernel
theorem dX9_turns_273 : decode cX9_turns 273 = .ok (.if_icmp .ge 23, 3) := by decide +kernel
theorem dX9_turns_276 : decode cX9_turns 276 = .ok (.aload_n 0, 1) := by decide +kernel
theorem dX9_turns_277 : decode cX9_turns 277 = .ok (.getfield 25, 3) := by decide +kernel
theorem dX9_turns_280 : decode cX9_turns 280 = .ok (.iload 6, 2) := by decide +kernel
theorem dX9_turns_282 : decode cX9_turns 282 = .ok (.aload_n 0, 1) := by decide +kernel
theorem dX9_turns_283 : decode cX9_turns 283 = .ok (.getfield 28, 3) := by decide +kernel
theorem dX9_turns_286 : decode cX9_turns 286 = .ok (.iload 6, 2) := by decide +kernel
theorem dX9_turns_288 : decode cX9_turns 288 = .ok (.iaload, 1) := by decide +kernel
theorem dX9_turns_289 : decode cX9_turns 289 = .ok (.iastore, 1) := by decide +kernel
theorem dX9_turns_290 : decode cX9_turns 290 = .ok (.iinc 6 1, 3) := by decide +kernel
theorem dX9_turns_293 : decode cX9_turns 293 = .ok (.goto (-24), 3) := by decide +kernel
theorem dX9_turns_296 : decode cX9_turns 296 = .ok (.aload_n 0, 1) := by decide +kernel
theorem dX9_turns_297 : decode cX9_turns 297 = .ok (.iload 4, 2) := by decide +kernel
theorem dX9_turns_299 : decode cX9_turns 299 = .ok (.putfield 133, 3) := by decide +kernel
theorem dX9_turns_302 : decode cX9_turns 302 = .ok (.aload_n 0, 1) := by decide +kernel
theorem dX9_turns_303 : decode cX9_turns 303 = .ok (.iload 5, 2) := by decide +kernel
theorem dX9_turns_305 : decode cX9_turns 305 = .ok (.putfield 136, 3) := by decide +kernel
theorem dX9_turns_308 : decode cX9_turns 308 = .ok (.return_, 1) := by decide +kernel
theorem dX9_foldAll_0 : decode cX9_foldAll 0 = .ok (.aload_n 0, 1) := by decide +kernel
theorem dX9_foldAll_1 : decode cX9_foldAll 1 = .ok (.iconst 1, 1) := by decide +kernel
theorem dX9_foldAll_2 : decode cX9_foldAll 2 = .ok (.putfield 133, 3) := by decide +kernel
theorem dX9_foldAll_5 : decode cX9_foldAll 5 = .ok (.aload_n 0, 1) := by decide +kernel
theorem dX9_foldAll_6 : decode cX9_foldAll 6 = .ok (.iconst 1, 1) := by decide +kernel
theorem dX9_foldAll_7 : decode cX9_foldAll 7 = .ok (.putfield 136, 3) := by decide +kernel
theorem dX9_foldAll_10 : decode cX9_foldAll 10 = .ok (.iconst 0, 1) := by decide +kernel
theorem dX9_foldAll_11 : decode cX9_foldAll 11 = .ok (.istore_n 1, 1) := by decide +kernel
theorem dX9_foldAll_12 : decode cX9_foldAll 12 = .ok (.iload_n 1, 1) := by decide +kernel
theorem dX9_foldAll_13 : decode cX9_foldAll 13 = .ok (.aload_n 0, 1) := by decide +kernel
theorem dX9_foldAll_14 : decode cX9_foldAll 14 = .ok (.getfield 127, 3) := by decide +kernel
theorem dX9_foldAll_17 : decode cX9_foldAll 17 = .ok (.if_icmp .ge 61, 3) := by decide +kernel
theorem dX9_foldAll_20 : decode cX9_foldAll 20 = .ok (.aload_n 0, 1) := by decide +kernel
theorem dX9_foldAll_21 : decode cX9_foldAll 21 = .ok (.dup, 1) := by decide +kernel
theorem dX9_foldAll_22 : decode cX9_foldAll 22 = .ok (.getfield 133, 3) := by decide +kernel
theorem dX9_foldAll_25 : decode cX9_foldAll 25 = .ok (.aload_n 0, 1) := by decide +kernel
theorem dX9_foldAll_26 : decode cX9_foldAll 26 = .ok (.getfield 22, 3) := by decide +kernel
theorem dX9_foldAll_29 : decode cX9_foldAll 29 = .ok (.iload_n 1, 1) := by decide +kernel
theorem dX9_foldAll_30 : decode cX9_foldAll 30 = .ok (.iaload, 1) := by decide +kernel
theorem dX9_foldAll_31 : decode cX9_foldAll 31 = .ok (.invokestatic 80, 3) := by decide +kernel
theorem dX9_foldAll_34 : decode cX9_foldAll 34 = .ok (.ifCond .eq 7, 3) := by decide +kernel
theorem dX9_foldAll_37 : decode cX9_foldAll 37 = .ok (.iconst 2, 1) := by decide +kernel
theorem dX9_foldAll_38 : decode cX9_foldAll 38 = .ok (.goto 4, 3) := by decide +kernel
theorem dX9_foldAll_41 : decode cX9_foldAll 41 = .ok (.iconst 1, 1) := by decide +kernel
theorem dX9_foldAll_42 : decode cX9_foldAll 42 = .ok (.imul, 1) := by decide +kernel
theorem dX9_foldAll_43 : decode cX9_foldAll 43 = .ok (.putfield 133, 3) := by decide +kernel
theorem dX9_foldAll_46 : decode cX9_foldAll 46 = .ok (.aload_n 0, 1) := by decide +kernel
theorem dX9_foldAll_47 : decode cX9_foldAll 47 = .ok (.dup, 1) := by decide +kernel
theorem dX9_foldAll_48 : decode cX9_foldAll 48 = .ok (.getfield 136, 3) := by decide +kernel
theorem dX9_foldAll_51 : decode cX9_foldAll 51 = .ok (.aload_n 0, 1) := by decide +kernel
theorem dX9_foldAll_52 : decode cX9_foldAll 52 = .ok (.getfield 22, 3) := by decide +kernel
theorem dX9_foldAll_55 : decode cX9_foldAll 55 = .ok (.iload_n 1, 1) := by decide +kernel
theorem dX9_foldAll_56 : decode cX9_foldAll 56 = .ok (.iaload, 1) := by decide +kernel
theorem dX9_foldAll_57 : decode cX9_foldAll 57 = .ok (.invokestatic 80, 3) := by decide +kernel
theorem dX9_foldAll_60 : decode cX9_foldAll 60 = .ok (.ifCond .eq 7, 3) := by decide +kernel
theorem dX9_foldAll_63 : decode cX9_foldAll 63 = .ok (.iconst 1, 1) := by decide +kernel
theorem dX9_foldAll_64 : decode cX9_foldAll 64 = .ok (.goto 4, 3) := by decide +kernel
theorem dX9_foldAll_67 : decode cX9_foldAll 67 = .ok (.iconst 2, 1) := by decide +kernel
theorem dX9_foldAll_68 : decode cX9_foldAll 68 = .ok (.imul, 1) := by decide +kernel
theorem dX9_foldAll_69 : decode cX9_foldAll 69 = .ok (.putfield 136, 3) := by decide +kernel
theorem dX9_foldAll_72 : decode cX9_foldAll 72 = .ok (.iinc 1 1, 3) := by decide +kernel
theorem dX9_foldAll_75 : decode cX9_foldAll 75 = .ok (.goto (-63), 3) := by decide +kernel
theorem dX9_foldAll_78 : decode cX9_foldAll 78 = .ok (.aload_n 0, 1) := by decide +kernel
theorem dX9_foldAll_79 : decode cX9_foldAll 79 = .ok (.aload_n 0, 1) := by decide +kernel
theorem dX9_foldAll_80 : decode cX9_foldAll 80 = .ok (.getfield 133, 3) := by decide +kernel
theorem dX9_foldAll_83 : decode cX9_foldAll 83 = .ok (.putfield 139, 3) := by decide +kernel
theorem dX9_foldAll_86 : decode cX9_foldAll 86 = .ok (.aload_n 0, 1) := by decide +kernel
theorem dX9_foldAll_87 : decode cX9_foldAll 87 = .ok (.getfield 133, 3) := by decide +kernel
theorem dX9_foldAll_90 : decode cX9_foldAll 90 = .ok (.aload_n 0, 1) := by decide +kernel
theorem dX9_foldAll_91 : decode cX9_foldAll 91 = .ok (.getfield 136, 3) := by decide +kernel
theorem dX9_foldAll_94 : decode cX9_foldAll 94 = .ok (.imul, 1) := by decide +kernel
theorem dX9_foldAll_95 : decode cX9_foldAll 95 = .ok (.istore_n 1, 1) := by decide +kernel
theorem dX9_foldAll_96 : decode cX9_foldAll 96 = .ok (.iconst 0, 1) := by decide +kernel
theorem dX9_foldAll_97 : decode cX9_foldAll 97 = .ok (.istore_n 2, 1) := by decide +kernel
theorem dX9_foldAll_98 : decode cX9_foldAll 98 = .ok (.iload_n 2, 1) := by decide +kernel
theorem dX9_foldAll_99 : decode cX9_foldAll 99 = .ok (.bipush 16, 2) := by decide +kernel
theorem dX9_foldAll_101 : decode cX9_foldAll 101 = .ok (.if_icmp .ge 23, 3) := by decide +kernel
theorem dX9_foldAll_104 : decode cX9_foldAll 104 = .ok (.aload_n 0, 1) := by decide +kernel
theorem dX9_foldAll_105 : decode cX9_foldAll 105 = .ok (.getfield 25, 3) := by decide +kernel
theorem dX9_foldAll_108 : decode cX9_foldAll 108 = .ok (.iload_n 2, 1) := by decide +kernel
theorem dX9_foldAll_109 : decode cX9_foldAll 109 = .ok (.iload_n 2, 1) := by decide +kernel
theorem dX9_foldAll_110 : decode cX9_foldAll 110 = .ok (.iastore, 1) := by decide +kernel
theorem dX9_foldAll_111 : decode cX9_foldAll 111 = .ok (.aload_n 0, 1) := by decide +kernel
theorem dX9_foldAll_112 : decode cX9_foldAll 112 = .ok (.getfield 28, 3) := by decide +kernel
theorem dX9_foldAll_115 : decode cX9_foldAll 115 = .ok (.iload_n 2, 1) := by decide +kernel
theorem dX9_foldAll_116 : decode cX9_foldAll 116 = .ok (.iconst 0, 1) := by decide +kernel
theorem dX9_foldAll_117 : decode cX9_foldAll 117 = .ok (.iastore, 1) := by decide +kernel
theorem dX9_foldAll_118 : decode cX9_foldAll 118 = .ok (.iinc 2 1, 3) := by decide +kernel
theorem dX9_foldAll_121 : decode cX9_foldAll 121 = .ok (.goto (-23), 3) := by decide +kernel
theorem dX9_foldAll_124 : decode cX9_foldAll 124 = .ok (.iconst 0, 1) := by decide +kernel
theorem dX9_foldAll_125 : decode cX9_foldAll 125 = .ok (.istore_n 2, 1) := by decide +kernel
theorem dX9_foldAll_126 : decode cX9_foldAll 126 = .ok (.iload_n 2, 1) := by decide +kernel
theorem dX9_foldAll_127 : decode cX9_foldAll 127 = .ok (.aload_n 0, 1) := by decide +kernel
theorem dX9_foldAll_128 : decode cX9_foldAll 128 = .ok (.getfield 127, 3) := by decide +kernel
theorem dX9_foldAll_131 : decode cX9_foldAll 131 = .ok (.if_icmp .ge 22, 3) := by decide +kernel
theorem dX9_foldAll_134 : decode cX9_foldAll 134 = .ok (.aload_n 0, 1) := by decide +kernel
theorem dX9_foldAll_135 : decode cX9_foldAll 135 = .ok (.aload_n 0, 1) := by decide +kernel
theorem dX9_foldAll_136 : decode cX9_foldAll 136 = .ok (.getfield 22, 3) := by decide +kernel
theorem dX9_foldAll_139 : decode cX9_foldAll 139 = .ok (.iload_n 2, 1) := by decide +kernel
theorem dX9_foldAll_140 : decode cX9_foldAll 140 = .ok (.iaload, 1) := by decide +kernel
theorem dX9_foldAll_141 : decode cX9_foldAll 141 = .ok (.iconst 1, 1) := by decide +kernel
theorem dX9_foldAll_142 : decode cX9_foldAll 142 = .ok (.iload_n 2, 1) := by decide +kernel
theorem dX9_foldAll_143 : decode cX9_foldAll 143 = .ok (.ishl, 1) := by decide +kernel
theorem dX9_foldAll_144 : decode cX9_foldAll 144 = .ok (.invokevirtual 142, 3) := by decide +kernel
theorem dX9_foldAll_147 : decode cX9_foldAll 147 = .ok (.iinc 2 1, 3) := by decide +kernel
theorem dX9_foldAll_150 : decode cX9_foldAll 150 = .ok (.goto (-24), 3) := by decide +kernel
theorem dX9_foldAll_153 : decode cX9_foldAll 153 = .ok (.aload_n 0, 1) := by decide +kernel
theorem dX9_foldAll_154 : decode cX9_foldAll 154 = .ok (.getfield 22, 3) := by decide +kernel
theorem dX9_foldAll_157 : decode cX9_foldAll 157 = .ok (.aload_n 0, 1) := by decide +kernel
theorem dX9_foldAll_158 : decode cX9_foldAll 158 = .ok (.getfield 127, 3) := by decide +kernel
theorem dX9_foldAll_161 : decode cX9_foldAll 161 = .ok (.iconst 1, 1) := by decide +kernel
theorem dX9_foldAll_162 : decode cX9_foldAll 162 = .ok (.isub, 1) := by decide +kernel
theorem dX9_foldAll_163 : decode cX9_foldAll 163 = .ok (.iaload, 1) := by decide +kernel
theorem dX9_foldAll_164 : decode cX9_foldAll 164 = .ok (.bipush 114, 2) := by decide +kernel
theorem dX9_foldAll_166 : decode cX9_foldAll 166 = .ok (.if_icmp .ne 7, 3) := by decide +kernel
theorem dX9_foldAll_169 : decode cX9_foldAll 169 = .ok (.iconst 1, 1) := by decide +kernel
theorem dX9_foldAll_170 : decode cX9_foldAll 170 = .ok (.goto 4, 3) := by decide +kernel
theorem dX9_foldAll_173 : decode cX9_foldAll 173 = .ok (.iconst 0, 1) := by decide +kernel
theorem dX9_foldAll_174 : decode cX9_foldAll 174 = .ok (.istore_n 2, 1) := by decide +kernel
theorem dX9_foldAll_175 : decode cX9_foldAll 175 = .ok (.iconst 0, 1) := by decide +kernel
theorem dX9_foldAll_176 : decode cX9_foldAll 176 = .ok (.istore_n 3, 1) := by decide +kernel
theorem dX9_foldAll_177 : decode cX9_foldAll 177 = .ok (.iload_n 3, 1) := by decide +kernel
theorem dX9_foldAll_178 : decode cX9_foldAll 178 = .ok (.iload_n 1, 1) := by decide +kernel
theorem dX9_foldAll_179 : decode cX9_foldAll 179 = .ok (.if_icmp .ge 103, 3) := by decide +kernel
theorem dX9_foldAll_182 : decode cX9_foldAll 182 = .ok (.iload_n 2, 1) := by decide +kernel
theorem dX9_foldAll_183 : decode cX9_foldAll 183 = .ok (.ifCond .eq 15, 3) := by decide +kernel
theorem dX9_foldAll_186 : decode cX9_foldAll 186 = .ok (.aload_n 0, 1) := by decide +kernel
theorem dX9_foldAll_187 : decode cX9_foldAll 187 = .ok (.getfield 25, 3) := by decide +kernel
theorem dX9_foldAll_190 : decode cX9_foldAll 190 = .ok (.iload_n 3, 1) := by decide +kernel
theorem dX9_foldAll_191 : decode cX9_foldAll 191 = .ok (.iaload, 1) := by decide +kernel
theorem dX9_foldAll_192 : decode cX9_foldAll 192 = .ok (.bipush 16, 2) := by decide +kernel
theorem dX9_foldAll_194 : decode cX9_foldAll 194 = .ok (.ixor, 1) := by decide +kernel
theorem dX9_foldAll_195 : decode cX9_foldAll 195 = .ok (.goto 13, 3) := by decide +kernel
theorem dX9_foldAll_198 : decode cX9_foldAll 198 = .ok (.aload_n 0, 1) := by decide +kernel
theorem dX9_foldAll_199 : decode cX9_foldAll 199 = .ok (.getfield 25, 3) := by decide +kernel
theorem dX9_foldAll_202 : decode cX9_foldAll 202 = .ok (.iload_n 1, 1) := by decide +kernel
theorem dX9_foldAll_203 : decode cX9_foldAll 203 = .ok (.iconst 1, 1) := by decide +kernel
theorem dX9_foldAll_204 : decode cX9_foldAll 204 = .ok (.isub, 1) := by decide +kernel
theorem dX9_foldAll_205 : decode cX9_foldAll 205 = .ok (.iload_n 3, 1) := by decide +kernel
theorem dX9_foldAll_206 : decode cX9_foldAll 206 = .ok (.isub, 1) := by decide +kernel
theorem dX9_foldAll_207 : decode cX9_foldAll 207 = .ok (.iaload, 1) := by decide +kernel
theorem dX9_foldAll_208 : decode cX9_foldAll 208 = .ok (.istore 4, 2) := by decide +kernel
theorem dX9_foldAll_210 : decode cX9_foldAll 210 = .ok (.iconst 0, 1) := by decide +kernel
theorem dX9_foldAll_211 : decode cX9_foldAll 211 = .ok (.istore 5, 2) := by decide +kernel
theorem dX9_foldAll_213 : decode cX9_foldAll 213 = .ok (.iload 5, 2) := by decide +kernel
theorem dX9_foldAll_215 : decode cX9_foldAll 215 = .ok (.iconst 2, 1) := by decide +kernel
theorem dX9_foldAll_216 : decode cX9_foldAll 216 = .ok (.if_icmp .ge 60, 3) := by decide +kernel
theorem dX9_foldAll_219 : decode cX9_foldAll 219 = .ok (.aload_n 0, 1) := by decide +kernel
theorem dX9_foldAll_220 : decode cX9_foldAll 220 = .ok (.getfield 31, 3) := by decide +kernel
theorem dX9_foldAll_223 : decode cX9_foldAll 223 = .ok (.iconst 2, 1) := by decide +kernel
theorem dX9_foldAll_224 : decode cX9_foldAll 224 = .ok (.iload_n 3, 1) := by decide +kernel
theorem dX9_foldAll_225 : decode cX9_foldAll 225 = .ok (.imul, 1) := by decide +kernel
theorem dX9_foldAll_226 : decode cX9_foldAll 226 = .ok (.iload 5, 2) := by decide +kernel
theorem dX9_foldAll_228 : decode cX9_foldAll 228 = .ok (.iadd, 1) := by decide +kernel
theorem dX9_foldAll_229 : decode cX9_foldAll 229 = .ok (.iload 4, 2) := by decide +kernel
theorem dX9_foldAll_231 : decode cX9_foldAll 231 = .ok (.bipush 15, 2) := by decide +kernel
theorem dX9_foldAll_233 : decode cX9_foldAll 233 = .ok (.iand, 1) := by decide +kernel
theorem dX9_foldAll_234 : decode cX9_foldAll 234 = .ok (.iastore, 1) := by decide +kernel
theorem dX9_foldAll_235 : decode cX9_foldAll 235 = .ok (.aload_n 0, 1) := by decide +kernel
theorem dX9_foldAll_236 : decode cX9_foldAll 236 = .ok (.getfield 34, 3) := by decide +kernel
theorem dX9_foldAll_239 : decode cX9_foldAll 239 = .ok (.iconst 2, 1) := by decide +kernel
theorem dX9_foldAll_240 : decode cX9_foldAll 240 = .ok (.iload_n 3, 1) := by decide +kernel
theorem dX9_foldAll_241 : decode cX9_foldAll 241 = .ok (.imul, 1) := by decide +kernel
theorem dX9_foldAll_242 : decode cX9_foldAll 242 = .ok (.iload 5, 2) := by decide +kernel
theorem dX9_foldAll_244 : decode cX9_foldAll 244 = .ok (.iadd, 1) := by decide +kernel
theorem dX9_foldAll_245 : decode cX9_foldAll 245 = .ok (.iload 4, 2) := by decide +kernel
theorem dX9_foldAll_247 : decode cX9_foldAll 247 = .ok (.iconst 4, 1) := by decide +kernel
theorem dX9_foldAll_248 : decode cX9_foldAll 248 = .ok (.ishr, 1) := by decide +kernel
theorem dX9_foldAll_249 : decode cX9_foldAll 249 = .ok (.iconst 1, 1) := by decide +kernel
theorem dX9_foldAll_250 : decode cX9_foldAll 250 = .ok (.iand, 1) := by decide +kernel
theorem dX9_foldAll_251 : decode cX9_foldAll 251 = .ok (.iload 5, 2) := by decide +kernel
theorem dX9_foldAll_253 : decode cX9_foldAll 253 = .ok (.ixor, 1) := by decide +kernel
theorem dX9_foldAll_254 : decode cX9_foldAll 254 = .ok (.iastore, 1) := by decide +kernel
theorem dX9_foldAll_255 : decode cX9_foldAll 255 = .ok (.aload_n 0, 1) := by decide +kernel
theorem dX9_foldAll_256 : decode cX9_foldAll 256 = .ok (.getfield 37, 3) := by decide +kernel
theorem dX9_foldAll_259 : decode cX9_foldAll 259 = .ok (.iconst 2, 1) := by decide +kernel
theorem dX9_foldAll_260 : decode cX9_foldAll 260 = .ok (.iload_n 3, 1) := by decide +kernel
theorem dX9_foldAll_261 : decode cX9_foldAll 261 = .ok (.imul, 1) := by decide +kernel
theorem dX9_foldAll_262 : decode cX9_foldAll 262 = .ok (.iload 5, 2) := by decide +kernel
theorem dX9_foldAll_264 : decode cX9_foldAll 264 = .ok (.iadd, 1) := by decide +kernel
theorem dX9_foldAll_265 : decode cX9_foldAll 265 = .ok (.iload 4, 2) := by decide +kernel
theorem dX9_foldAll_267 : decode cX9_foldAll 267 = .ok (.iconst 5, 1) := by decide +kernel
theorem dX9_foldAll_268 : decode cX9_foldAll 268 = .ok (.ishr, 1) := by decide +kernel
theorem dX9_foldAll_269 : decode cX9_foldAll 269 = .ok (.iastore, 1) := by decide +kernel
theorem dX9_foldAll_270 : decode cX9_foldAll 270 = .ok (.iinc 5 1, 3) := by decide +kernel
theorem dX9_foldAll_273 : decode cX9_foldAll 273 = .ok (.goto (-60), 3) := by decide +kernel
theorem dX9_foldAll_276 : decode cX9_foldAll 276 = .ok (.iinc 3 1, 3) := by decide +kernel
theorem dX9_foldAll_279 : decode cX9_foldAll 279 = .ok (.goto (-102), 3) := by decide +kernel
theorem dX9_foldAll_282 : decode cX9_foldAll 282 = .ok (.return_, 1) := by decide +kernel
theorem dX9_pageAt_0 : decode cX9_pageAt 0 = .ok (.iconst 0, 1) := by decide +kernel
theorem dX9_pageAt_1 : decode cX9_pageAt 1 = .ok (.istore_n 3, 1) := by decide +kernel
theorem dX9_pageAt_2 : decode cX9_pageAt 2 = .ok (.aload_n 0, 1) := by decide +kernel
theorem dX9_pageAt_3 : decode cX9_pageAt 3 = .ok (.getfield 31, 3) := by decide +kernel
theorem dX9_pageAt_6 : decode cX9_pageAt 6 = .ok (.iload_n 3, 1) := by decide +kernel
theorem dX9_pageAt_7 : decode cX9_pageAt 7 = .ok (.iaload, 1) := by decide +kernel
theorem dX9_pageAt_8 : decode cX9_pageAt 8 = .ok (.iload_n 2, 1) := by decide +kernel
theorem dX9_pageAt_9 : decode cX9_pageAt 9 = .ok (.if_icmp .ne 13, 3) := by decide +kernel
theorem dX9_pageAt_12 : decode cX9_pageAt 12 = .ok (.aload_n 0, 1) := by decide +kernel
theorem dX9_pageAt_13 : decode cX9_pageAt 13 = .ok (.getfield 34, 3) := by decide +kernel
theorem dX9_pageAt_16 : decode cX9_pageAt 16 = .ok (.iload_n 3, 1) := by decide +kernel
theorem dX9_pageAt_17 : decode cX9_pageAt 17 = .ok (.iaload, 1) := by decide +kernel
theorem dX9_pageAt_18 : decode cX9_pageAt 18 = .ok (.iload_n 1, 1) := by decide +kernel
theorem dX9_pageAt_19 : decode cX9_pageAt 19 = .ok (.if_icmp .eq 9, 3) := by decide +kernel
theorem dX9_pageAt_22 : decode cX9_pageAt 22 = .ok (.iinc 3 1, 3) := by decide +kernel
theorem dX9_pageAt_25 : decode cX9_pageAt 25 = .ok (.goto (-23), 3) := by decide +kernel
theorem dX9_pageAt_28 : decode cX9_pageAt 28 = .ok (.iload_n 3, 1) := by decide +kernel
theorem dX9_pageAt_29 : decode cX9_pageAt 29 = .ok (.iconst 1, 1) := by decide +kernel
theorem dX9_pageAt_30 : decode cX9_pageAt 30 = .ok (.iadd, 1) := by decide +kernel
theorem dX9_pageAt_31 : decode cX9_pageAt 31 = .ok (.ireturn, 1) := by decide +kernel
theorem dX9_pagesOf_0 : decode cX9_pagesOf 0 = .ok (.iconst 2, 1) := by decide +kernel
theorem dX9_pagesOf_1 : decode cX9_pagesOf 1 = .ok (.aload_n 0, 1) := by decide +kernel
theorem dX9_pagesOf_2 : decode cX9_pagesOf 2 = .ok (.getfield 13, 3) := by decide +kernel
theorem dX9_pagesOf_5 : decode cX9_pagesOf 5 = .ok (.bipush 8, 2) := by decide +kernel
theorem dX9_pagesOf_7 : decode cX9_pagesOf 7 = .ok (.iconst 5, 1) := by decide +kernel
theorem dX9_pagesOf_8 : decode cX9_pagesOf 8 = .ok (.iload_n 1, 1) := by decide +kernel
theorem dX9_pagesOf_9 : decode cX9_pagesOf 9 = .ok (.imul, 1) := by decide +kernel
theorem dX9_pagesOf_10 : decode cX9_pagesOf 10 = .ok (.iadd, 1) := by decide +kernel
theorem dX9_pagesOf_11 : decode cX9_pagesOf 11 = .ok (.iaload, 1) := by decide +kernel
theorem dX9_pagesOf_12 : decode cX9_pagesOf 12 = .ok (.ishl, 1) := by decide +kernel
theorem dX9_pagesOf_13 : decode cX9_pagesOf 13 = .ok (.ireturn, 1) := by decide +kernel
theorem dX9_acrossOf_0 : decode cX9_acrossOf 0 = .ok (.iconst 1, 1) := by decide +kernel
theorem dX9_acrossOf_1 : decode cX9_acrossOf 1 = .ok (.istore_n 2, 1) := by decide +kernel
theorem dX9_acrossOf_2 : decode cX9_acrossOf 2 = .ok (.iconst 0, 1) := by decide +kernel
theorem dX9_acrossOf_3 : decode cX9_acrossOf 3 = .ok (.istore_n 3, 1) := by decide +kernel
theorem dX9_acrossOf_4 : decode cX9_acrossOf 4 = .ok (.iload_n 3, 1) := by decide +kernel
theorem dX9_acrossOf_5 : decode cX9_acrossOf 5 = .ok (.aload_n 0, 1) := by decide +kernel
theorem dX9_acrossOf_6 : decode cX9_acrossOf 6 = .ok (.getfield 13, 3) := by decide +kernel
theorem dX9_acrossOf_9 : decode cX9_acrossOf 9 = .ok (.bipush 8, 2) := by decide +kernel
theorem dX9_acrossOf_11 : decode cX9_acrossOf 11 = .ok (.iconst 5, 1) := by decide +kernel
theorem dX9_acrossOf_12 : decode cX9_acrossOf 12 = .ok (.iload_n 1, 1) := by decide +kernel
theorem dX9_acrossOf_13 : decode cX9_acrossOf 13 = .ok (.imul, 1) := by decide +kernel
theorem dX9_acrossOf_14 : decode cX9_acrossOf 14 = .ok (.iadd, 1) := by decide +kernel
theorem dX9_acrossOf_15 : decode cX9_acrossOf 15 = .ok (.iaload, 1) := by decide +kernel
theorem dX9_acrossOf_16 : decode cX9_acrossOf 16 = .ok (.if_icmp .ge 38, 3) := by decide +kernel
theorem dX9_acrossOf_19 : decode cX9_acrossOf 19 = .ok (.iload_n 2, 1) := by decide +kernel
theorem dX9_acrossOf_20 : decode cX9_acrossOf 20 = .ok (.aload_n 0, 1) := by decide +kernel
theorem dX9_acrossOf_21 : decode cX9_acrossOf 21 = .ok (.getfield 13, 3) := by decide +kernel
theorem dX9_acrossOf_24 : decode cX9_acrossOf 24 = .ok (.bipush 8, 2) := by decide +kernel
theorem dX9_acrossOf_26 : decode cX9_acrossOf 26 = .ok (.iconst 5, 1) := by decide +kernel
theorem dX9_acrossOf_27 : decode cX9_acrossOf 27 = .ok (.iload_n 1, 1) := by decide +kernel
theorem dX9_acrossOf_28 : decode cX9_acrossOf 28 = .ok (.imul, 1) := by decide +kernel
theorem dX9_acrossOf_29 : decode cX9_acrossOf 29 = .ok (.iadd, 1) := by decide +kernel
theorem dX9_acrossOf_30 : decode cX9_acrossOf 30 = .ok (.iconst 1, 1) := by decide +kernel
theorem dX9_acrossOf_31 : decode cX9_acrossOf 31 = .ok (.iadd, 1) := by decide +kernel
theorem dX9_acrossOf_32 : decode cX9_acrossOf 32 = .ok (.iload_n 3, 1) := by decide +kernel
theorem dX9_acrossOf_33 : decode cX9_acrossOf 33 = .ok (.iadd, 1) := by decide +kernel
theorem dX9_acrossOf_34 : decode cX9_acrossOf 34 = .ok (.iaload, 1) := by decide +kernel
theorem dX9_acrossOf_35 : decode cX9_acrossOf 35 = .ok (.invokestatic 80, 3) := by decide +kernel
theorem dX9_acrossOf_38 : decode cX9_acrossOf 38 = .ok (.ifCond .eq 7, 3) := by decide +kernel
theorem dX9_acrossOf_41 : decode cX9_acrossOf 41 = .ok (.iconst 2, 1) := by decide +kernel
theorem dX9_acrossOf_42 : decode cX9_acrossOf 42 = .ok (.goto 4, 3) := by decide +kernel
theorem dX9_acrossOf_45 : decode cX9_acrossOf 45 = .ok (.iconst 1, 1) := by decide +kernel
theorem dX9_acrossOf_46 : decode cX9_acrossOf 46 = .ok (.imul, 1) := by decide +kernel
theorem dX9_acrossOf_47 : decode cX9_acrossOf 47 = .ok (.istore_n 2, 1) := by decide +kernel
theorem dX9_acrossOf_48 : decode cX9_acrossOf 48 = .ok (.iinc 3 1, 3) := by decide +kernel
theorem dX9_acrossOf_51 : decode cX9_acrossOf 51 = .ok (.goto (-47), 3) := by decide +kernel
theorem dX9_acrossOf_54 : decode cX9_acrossOf 54 = .ok (.iload_n 2, 1) := by decide +kernel
theorem dX9_acrossOf_55 : decode cX9_acrossOf 55 = .ok (.ireturn, 1) := by decide +kernel
theorem dX9_scheme_0 : decode cX9_scheme 0 = .ok (.aload_n 0, 1) := by decide +kernel
theorem dX9_scheme_1 : decode cX9_scheme 1 = .ok (.iload_n 1, 1) := by decide +kernel
theorem dX9_scheme_2 : decode cX9_scheme 2 = .ok (.invokevirtual 122, 3) := by decide +kernel
theorem dX9_scheme_5 : decode cX9_scheme 5 = .ok (.ifCond .eq 15, 3) := by decide +kernel
theorem dX9_scheme_8 : decode cX9_scheme 8 = .ok (.iload_n 2, 1) := by decide +kernel
theorem dX9_scheme_9 : decode cX9_scheme 9 = .ok (.i2l, 1) := by decide +kernel
theorem dX9_scheme_10 : decode cX9_scheme 10 = .ok (.lconst 0, 1) := by decide +kernel
theorem dX9_scheme_11 : decode cX9_scheme 11 = .ok (.ldc2_w 146, 3) := by decide +kernel
theorem dX9_scheme_14 : decode cX9_scheme 14 = .ok (.invokestatic 57, 3) := by decide +kernel
theorem dX9_scheme_17 : decode cX9_scheme 17 = .ok (.ifCond .ne 5, 3) := by decide +kernel
theorem dX9_scheme_20 : decode cX9_scheme 20 = .ok (.iconst (-1), 1) := by decide +kernel
theorem dX9_scheme_21 : decode cX9_scheme 21 = .ok (.ireturn, 1) := by decide +kernel
theorem dX9_scheme_22 : decode cX9_scheme 22 = .ok (.iload_n 2, 1) := by decide +kernel
theorem dX9_scheme_23 : decode cX9_scheme 23 = .ok (.tableswitch 80 0 4 #[33, 45, 51, 65, 71], 33) := by decide +kernel
theorem dX9_scheme_56 : decode cX9_scheme 56 = .ok (.aload_n 0, 1) := by decide +kernel
theorem dX9_scheme_57 : decode cX9_scheme 57 = .ok (.getfield 13, 3) := by decide +kernel
theorem dX9_scheme_60 : decode cX9_scheme 60 = .ok (.bipush 8, 2) := by decide +kernel
theorem dX9_scheme_62 : decode cX9_scheme 62 = .ok (.iconst 5, 1) := by decide +kernel
theorem dX9_scheme_63 : decode cX9_scheme 63 = .ok (.iload_n 1, 1) := by decide +kernel
theorem dX9_scheme_64 : decode cX9_scheme 64 = .ok (.imul, 1) := by decide +kernel
theorem dX9_scheme_65 : decode cX9_scheme 65 = .ok (.iadd, 1) := by decide +kernel
theorem dX9_scheme_66 : decode cX9_scheme 66 = .ok (.iaload, 1) := by decide +kernel
theorem dX9_scheme_67 : decode cX9_scheme 67 = .ok (.ireturn, 1) := by decide +kernel
theorem dX9_scheme_68 : decode cX9_scheme 68 = .ok (.aload_n 0, 1) := by decide +kernel
theorem dX9_scheme_69 : decode cX9_scheme 69 = .ok (.iload_n 1, 1) := by decide +kernel
theorem dX9_scheme_70 : decode cX9_scheme 70 = .ok (.invokevirtual 148, 3) := by decide +kernel
theorem dX9_scheme_73 : decode cX9_scheme 73 = .ok (.ireturn, 1) := by decide +kernel
theorem dX9_scheme_74 : decode cX9_scheme 74 = .ok (.aload_n 0, 1) := by decide +kernel
theorem dX9_scheme_75 : decode cX9_scheme 75 = .ok (.iload_n 1, 1) := by decide +kernel
theorem dX9_scheme_76 : decode cX9_scheme 76 = .ok (.invokevirtual 151, 3) := by decide +kernel
theorem dX9_scheme_79 : decode cX9_scheme 79 = .ok (.iconst 2, 1) := by decide +kernel
theorem dX9_scheme_80 : decode cX9_scheme 80 = .ok (.idiv, 1) := by decide +kernel
theorem dX9_scheme_81 : decode cX9_scheme 81 = .ok (.aload_n 0, 1) := by decide +kernel
theorem dX9_scheme_82 : decode cX9_scheme 82 = .ok (.iload_n 1, 1) := by decide +kernel
theorem dX9_scheme_83 : decode cX9_scheme 83 = .ok (.invokevirtual 148, 3) := by decide +kernel
theorem dX9_scheme_86 : decode cX9_scheme 86 = .ok (.idiv, 1) := by decide +kernel
theorem dX9_scheme_87 : decode cX9_scheme 87 = .ok (.ireturn, 1) := by decide +kernel
theorem dX9_scheme_88 : decode cX9_scheme 88 = .ok (.aload_n 0, 1) := by decide +kernel
theorem dX9_scheme_89 : decode cX9_scheme 89 = .ok (.iload_n 1, 1) := by decide +kernel
theorem dX9_scheme_90 : decode cX9_scheme 90 = .ok (.invokevirtual 151, 3) := by decide +kernel
theorem dX9_scheme_93 : decode cX9_scheme 93 = .ok (.ireturn, 1) := by decide +kernel
theorem dX9_scheme_94 : decode cX9_scheme 94 = .ok (.aload_n 0, 1) := by decide +kernel
theorem dX9_scheme_95 : decode cX9_scheme 95 = .ok (.getfield 13, 3) := by decide +kernel
theorem dX9_scheme_98 : decode cX9_scheme 98 = .ok (.iconst 4, 1) := by decide +kernel
theorem dX9_scheme_99 : decode cX9_scheme 99 = .ok (.iload_n 1, 1) := by decide +kernel
theorem dX9_scheme_100 : decode cX9_scheme 100 = .ok (.iadd, 1) := by decide +kernel
theorem dX9_scheme_101 : decode cX9_scheme 101 = .ok (.iaload, 1) := by decide +kernel
theorem dX9_scheme_102 : decode cX9_scheme 102 = .ok (.ireturn, 1) := by decide +kernel
theorem dX9_scheme_103 : decode cX9_scheme 103 = .ok (.aload_n 0, 1) := by decide +kernel
theorem dX9_scheme_104 : decode cX9_scheme 104 = .ok (.aload_n 0, 1) := by decide +kernel
theorem dX9_scheme_105 : decode cX9_scheme 105 = .ok (.getfield 13, 3) := by decide +kernel
theorem dX9_scheme_108 : decode cX9_scheme 108 = .ok (.iconst 0, 1) := by decide +kernel
theorem dX9_scheme_109 : decode cX9_scheme 109 = .ok (.iaload, 1) := by decide +kernel
theorem dX9_scheme_110 : decode cX9_scheme 110 = .ok (.invokevirtual 154, 3) := by decide +kernel
theorem dX9_scheme_113 : decode cX9_scheme 113 = .ok (.aload_n 0, 1) := by decide +kernel
theorem dX9_scheme_114 : decode cX9_scheme 114 = .ok (.getfield 46, 3) := by decide +kernel
theorem dX9_scheme_117 : decode cX9_scheme 117 = .ok (.iload_n 1, 1) := by decide +kernel
theorem dX9_scheme_118 : decode cX9_scheme 118 = .ok (.iaload, 1) := by decide +kernel
theorem dX9_scheme_119 : decode cX9_scheme 119 = .ok (.ireturn, 1) := by decide +kernel
theorem dX9_fold_0 : decode cX9_fold 0 = .ok (.aload_n 0, 1) := by decide +kernel
theorem dX9_fold_1 : decode cX9_fold 1 = .ok (.iload_n 1, 1) := by decide +kernel
theorem dX9_fold_2 : decode cX9_fold 2 = .ok (.invokevirtual 122, 3) := by decide +kernel
theorem dX9_fold_5 : decode cX9_fold 5 = .ok (.ifCond .eq 15, 3) := by decide +kernel
theorem dX9_fold_8 : decode cX9_fold 8 = .ok (.iload_n 2, 1) := by decide +kernel
theorem dX9_fold_9 : decode cX9_fold 9 = .ok (.i2l, 1) := by decide +kernel
theorem dX9_fold_10 : decode cX9_fold 10 = .ok (.lconst 0, 1) := by decide +kernel
theorem dX9_fold_11 : decode cX9_fold 11 = .ok (.ldc2_w 158, 3) := by decide +kernel
theorem dX9_fold_14 : decode cX9_fold 14 = .ok (.invokestatic 57, 3) := by decide +kernel
theorem dX9_fold_17 : decode cX9_fold 17 = .ok (.ifCond .ne 5, 3) := by decide +kernel
theorem dX9_fold_20 : decode cX9_fold 20 = .ok (.iconst (-1), 1) := by decide +kernel
theorem dX9_fold_21 : decode cX9_fold 21 = .ok (.ireturn, 1) := by decide +kernel
theorem dX9_fold_22 : decode cX9_fold 22 = .ok (.iload_n 2, 1) := by decide +kernel
theorem dX9_fold_23 : decode cX9_fold 23 = .ok (.aload_n 0, 1) := by decide +kernel
theorem dX9_fold_24 : decode cX9_fold 24 = .ok (.getfield 13, 3) := by decide +kernel
theorem dX9_fold_27 : decode cX9_fold 27 = .ok (.bipush 8, 2) := by decide +kernel
theorem dX9_fold_29 : decode cX9_fold 29 = .ok (.iconst 5, 1) := by decide +kernel
theorem dX9_fold_30 : decode cX9_fold 30 = .ok (.iload_n 1, 1) := by decide +kernel
theorem dX9_fold_31 : decode cX9_fold 31 = .ok (.imul, 1) := by decide +kernel
theorem dX9_fold_32 : decode cX9_fold 32 = .ok (.iadd, 1) := by decide +kernel
theorem dX9_fold_33 : decode cX9_fold 33 = .ok (.iaload, 1) := by decide +kernel
theorem dX9_fold_34 : decode cX9_fold 34 = .ok (.if_icmp .ge 21, 3) := by decide +kernel
theorem dX9_fold_37 : decode cX9_fold 37 = .ok (.aload_n 0, 1) := by decide +kernel
theorem dX9_fold_38 : decode cX9_fold 38 = .ok (.getfield 13, 3) := by decide +kernel
theorem dX9_fold_41 : decode cX9_fold 41 = .ok (.bipush 8, 2) := by decide +kernel
theorem dX9_fold_43 : decode cX9_fold 43 = .ok (.iconst 5, 1) := by decide +kernel
theorem dX9_fold_44 : decode cX9_fold 44 = .ok (.iload_n 1, 1) := by decide +kernel
theorem dX9_fold_45 : decode cX9_fold 45 = .ok (.imul, 1) := by decide +kernel
theorem dX9_fold_46 : decode cX9_fold 46 = .ok (.iadd, 1) := by decide +kernel
theorem dX9_fold_47 : decode cX9_fold 47 = .ok (.iconst 1, 1) := by decide +kernel
theorem dX9_fold_48 : decode cX9_fold 48 = .ok (.iadd, 1) := by decide +kernel
theorem dX9_fold_49 : decode cX9_fold 49 = .ok (.iload_n 2, 1) := by decide +kernel
theorem dX9_fold_50 : decode cX9_fold 50 = .ok (.iadd, 1) := by decide +kernel
theorem dX9_fold_51 : decode cX9_fold 51 = .ok (.iaload, 1) := by decide +kernel
theorem dX9_fold_52 : decode cX9_fold 52 = .ok (.goto 5, 3) := by decide +kernel
theorem dX9_fold_55 : decode cX9_fold 55 = .ok (.bipush (-4), 2) := by decide +kernel
theorem dX9_fold_57 : decode cX9_fold 57 = .ok (.ireturn, 1) := by decide +kernel
theorem dX9_page_0 : decode cX9_page 0 = .ok (.aload_n 0, 1) := by decide +kernel
theorem dX9_page_1 : decode cX9_page 1 = .ok (.iload_n 1, 1) := by decide +kernel
theorem dX9_page_2 : decode cX9_page 2 = .ok (.invokevirtual 122, 3) := by decide +kernel
theorem dX9_page_5 : decode cX9_page 5 = .ok (.ifCond .eq 13, 3) := by decide +kernel
theorem dX9_page_8 : decode cX9_page 8 = .ok (.iload_n 2, 1) := by decide +kernel
theorem dX9_page_9 : decode cX9_page 9 = .ok (.i2l, 1) := by decide +kernel
theorem dX9_page_10 : decode cX9_page 10 = .ok (.lconst 0, 1) := by decide +kernel
theorem dX9_page_11 : decode cX9_page 11 = .ok (.lconst 1, 1) := by decide +kernel
theorem dX9_page_12 : decode cX9_page 12 = .ok (.invokestatic 57, 3) := by decide +kernel
theorem dX9_page_15 : decode cX9_page 15 = .ok (.ifCond .ne 5, 3) := by decide +kernel
theorem dX9_page_18 : decode cX9_page 18 = .ok (.iconst (-1), 1) := by decide +kernel
theorem dX9_page_19 : decode cX9_page 19 = .ok (.ireturn, 1) := by decide +kernel
theorem dX9_page_20 : decode cX9_page 20 = .ok (.aload_n 0, 1) := by decide +kernel
theorem dX9_page_21 : decode cX9_page 21 = .ok (.iload_n 1, 1) := by decide +kernel
theorem dX9_page_22 : decode cX9_page 22 = .ok (.invokevirtual 160, 3) := by decide +kernel
theorem dX9_page_25 : decode cX9_page 25 = .ok (.iload_n 3, 1) := by decide +kernel
theorem dX9_page_26 : decode cX9_page 26 = .ok (.i2l, 1) := by decide +kernel
theorem dX9_page_27 : decode cX9_page 27 = .ok (.lconst 0, 1) := by decide +kernel
theorem dX9_page_28 : decode cX9_page 28 = .ok (.aload_n 0, 1) := by decide +kernel
theorem dX9_page_29 : decode cX9_page 29 = .ok (.getfield 139, 3) := by decide +kernel
theorem dX9_page_32 : decode cX9_page 32 = .ok (.iconst 1, 1) := by decide +kernel
theorem dX9_page_33 : decode cX9_page 33 = .ok (.isub, 1) := by decide +kernel
theorem dX9_page_34 : decode cX9_page 34 = .ok (.i2l, 1) := by decide +kernel
theorem dX9_page_35 : decode cX9_page 35 = .ok (.invokestatic 57, 3) := by decide +kernel
theorem dX9_page_38 : decode cX9_page 38 = .ok (.ifCond .eq 28, 3) := by decide +kernel
theorem dX9_page_41 : decode cX9_page 41 = .ok (.iload 4, 2) := by decide +kernel
theorem dX9_page_43 : decode cX9_page 43 = .ok (.i2l, 1) := by decide +kernel
theorem dX9_page_44 : decode cX9_page 44 = .ok (.lconst 0, 1) := by decide +kernel
theorem dX9_page_45 : decode cX9_page 45 = .ok (.aload_n 0, 1) := by decide +kernel
theorem dX9_page_46 : decode cX9_page 46 = .ok (.iload_n 1, 1) := by decide +kernel
theorem dX9_page_47 : decode cX9_page 47 = .ok (.invokevirtual 151, 3) := by decide +kernel
theorem dX9_page_50 : decode cX9_page 50 = .ok (.iconst 2, 1) := by decide +kernel

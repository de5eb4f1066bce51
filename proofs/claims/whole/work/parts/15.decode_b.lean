theorem dX6_init_0 : decode cX6_init 0 = .ok (.aload_n 0, 1) := by decide +kernel
theorem dX6_init_1 : decode cX6_init 1 = .ok (.invokespecial 3, 3) := by decide +kernel
theorem dX6_init_4 : decode cX6_init 4 = .ok (.aload_n 0, 1) := by decide +kernel
theorem dX6_init_5 : decode cX6_init 5 = .ok (.sipush 200, 3) := by decide +kernel
theorem dX6_init_8 : decode cX6_init 8 = .ok (.newarray .char, 2) := by decide +kernel
theorem dX6_init_10 : decode cX6_init 10 = .ok (.putfield 9, 3) := by decide +kernel
theorem dX6_init_13 : decode cX6_init 13 = .ok (.return_, 1) := by decide +kernel
theorem dX6_append_0 : decode cX6_append 0 = .ok (.aload_n 0, 1) := by decide +kernel
theorem dX6_append_1 : decode cX6_append 1 = .ok (.getfield 15, 3) := by decide +kernel
theorem dX6_append_4 : decode cX6_append 4 = .ok (.sipush 200, 3) := by decide +kernel
theorem dX6_append_7 : decode cX6_append 7 = .ok (.if_icmp .ge 23, 3) := by decide +kernel
theorem dX6_append_10 : decode cX6_append 10 = .ok (.aload_n 0, 1) := by decide +kernel
theorem dX6_append_11 : decode cX6_append 11 = .ok (.getfield 9, 3) := by decide +kernel
theorem dX6_append_14 : decode cX6_append 14 = .ok (.aload_n 0, 1) := by decide +kernel
theorem dX6_append_15 : decode cX6_append 15 = .ok (.getfield 15, 3) := by decide +kernel
theorem dX6_append_18 : decode cX6_append 18 = .ok (.iload_n 1, 1) := by decide +kernel
theorem dX6_append_19 : decode cX6_append 19 = .ok (.castore, 1) := by decide +kernel
theorem dX6_append_20 : decode cX6_append 20 = .ok (.aload_n 0, 1) := by decide +kernel
theorem dX6_append_21 : decode cX6_append 21 = .ok (.dup, 1) := by decide +kernel
theorem dX6_append_22 : decode cX6_append 22 = .ok (.getfield 15, 3) := by decide +kernel
theorem dX6_append_25 : decode cX6_append 25 = .ok (.iconst 1, 1) := by decide +kernel
theorem dX6_append_26 : decode cX6_append 26 = .ok (.iadd, 1) := by decide +kernel
theorem dX6_append_27 : decode cX6_append 27 = .ok (.putfield 15, 3) := by decide +kernel
theorem dX6_append_30 : decode cX6_append 30 = .ok (.return_, 1) := by decide +kernel
theorem dX6_readInto_0 : decode cX6_readInto 0 = .ok (.aload_n 1, 1) := by decide +kernel
theorem dX6_readInto_1 : decode cX6_readInto 1 = .ok (.invokevirtual 19, 3) := by decide +kernel
theorem dX6_readInto_4 : decode cX6_readInto 4 = .ok (.iconst 0, 1) := by decide +kernel
theorem dX6_readInto_5 : decode cX6_readInto 5 = .ok (.istore_n 2, 1) := by decide +kernel
theorem dX6_readInto_6 : decode cX6_readInto 6 = .ok (.iconst 0, 1) := by decide +kernel
theorem dX6_readInto_7 : decode cX6_readInto 7 = .ok (.istore_n 3, 1) := by decide +kernel
theorem dX6_readInto_8 : decode cX6_readInto 8 = .ok (.iload_n 3, 1) := by decide +kernel
theorem dX6_readInto_9 : decode cX6_readInto 9 = .ok (.aload_n 0, 1) := by decide +kernel
theorem dX6_readInto_10 : decode cX6_readInto 10 = .ok (.getfield 15, 3) := by decide +kernel
theorem dX6_readInto_13 : decode cX6_readInto 13 = .ok (.if_icmp .ge 36, 3) := by decide +kernel
theorem dX6_readInto_16 : decode cX6_readInto 16 = .ok (.aload_n 0, 1) := by decide +kernel
theorem dX6_readInto_17 : decode cX6_readInto 17 = .ok (.getfield 9, 3) := by decide +kernel
theorem dX6_readInto_20 : decode cX6_readInto 20 = .ok (.iload_n 3, 1) := by decide +kernel
theorem dX6_readInto_21 : decode cX6_readInto 21 = .ok (.caload, 1) := by decide +kernel
theorem dX6_readInto_22 : decode cX6_readInto 22 = .ok (.bipush 59, 2) := by decide +kernel
theorem dX6_readInto_24 : decode cX6_readInto 24 = .ok (.if_icmp .ne 19, 3) := by decide +kernel
theorem dX6_readInto_27 : decode cX6_readInto 27 = .ok (.aload_n 0, 1) := by decide +kernel
theorem dX6_readInto_28 : decode cX6_readInto 28 = .ok (.aload_n 1, 1) := by decide +kernel
theorem dX6_readInto_29 : decode cX6_readInto 29 = .ok (.iload_n 2, 1) := by decide +kernel
theorem dX6_readInto_30 : decode cX6_readInto 30 = .ok (.iload_n 3, 1) := by decide +kernel
theorem dX6_readInto_31 : decode cX6_readInto 31 = .ok (.invokevirtual 24, 3) := by decide +kernel
theorem dX6_readInto_34 : decode cX6_readInto 34 = .ok (.ifCond .ne 5, 3) := by decide +kernel
theorem dX6_readInto_37 : decode cX6_readInto 37 = .ok (.iload_n 2, 1) := by decide +kernel
theorem dX6_readInto_38 : decode cX6_readInto 38 = .ok (.ireturn, 1) := by decide +kernel
theorem dX6_readInto_39 : decode cX6_readInto 39 = .ok (.iload_n 3, 1) := by decide +kernel
theorem dX6_readInto_40 : decode cX6_readInto 40 = .ok (.iconst 1, 1) := by decide +kernel
theorem dX6_readInto_41 : decode cX6_readInto 41 = .ok (.iadd, 1) := by decide +kernel
theorem dX6_readInto_42 : decode cX6_readInto 42 = .ok (.istore_n 2, 1) := by decide +kernel
theorem dX6_readInto_43 : decode cX6_readInto 43 = .ok (.iinc 3 1, 3) := by decide +kernel
theorem dX6_readInto_46 : decode cX6_readInto 46 = .ok (.goto (-38), 3) := by decide +kernel
theorem dX6_readInto_49 : decode cX6_readInto 49 = .ok (.iload_n 2, 1) := by decide +kernel
theorem dX6_readInto_50 : decode cX6_readInto 50 = .ok (.aload_n 0, 1) := by decide +kernel
theorem dX6_readInto_51 : decode cX6_readInto 51 = .ok (.getfield 15, 3) := by decide +kernel
theorem dX6_readInto_54 : decode cX6_readInto 54 = .ok (.if_icmp .ge 7, 3) := by decide +kernel
theorem dX6_readInto_57 : decode cX6_readInto 57 = .ok (.iload_n 2, 1) := by decide +kernel
theorem dX6_readInto_58 : decode cX6_readInto 58 = .ok (.goto 5, 3) := by decide +kernel
theorem dX6_readInto_61 : decode cX6_readInto 61 = .ok (.bipush (-4), 2) := by decide +kernel
theorem dX6_readInto_63 : decode cX6_readInto 63 = .ok (.ireturn, 1) := by decide +kernel
theorem dX6_readItem_0 : decode cX6_readItem 0 = .ok (.iload_n 2, 1) := by decide +kernel
theorem dX6_readItem_1 : decode cX6_readItem 1 = .ok (.iload_n 3, 1) := by decide +kernel
theorem dX6_readItem_2 : decode cX6_readItem 2 = .ok (.if_icmp .lt 5, 3) := by decide +kernel
theorem dX6_readItem_5 : decode cX6_readItem 5 = .ok (.iconst 0, 1) := by decide +kernel
theorem dX6_readItem_6 : decode cX6_readItem 6 = .ok (.ireturn, 1) := by decide +kernel
theorem dX6_readItem_7 : decode cX6_readItem 7 = .ok (.aload_n 0, 1) := by decide +kernel
theorem dX6_readItem_8 : decode cX6_readItem 8 = .ok (.getfield 9, 3) := by decide +kernel
theorem dX6_readItem_11 : decode cX6_readItem 11 = .ok (.iload_n 2, 1) := by decide +kernel
theorem dX6_readItem_12 : decode cX6_readItem 12 = .ok (.caload, 1) := by decide +kernel
theorem dX6_readItem_13 : decode cX6_readItem 13 = .ok (.istore 4, 2) := by decide +kernel
theorem dX6_readItem_15 : decode cX6_readItem 15 = .ok (.iload 4, 2) := by decide +kernel
theorem dX6_readItem_17 : decode cX6_readItem 17 = .ok (.bipush 107, 2) := by decide +kernel
theorem dX6_readItem_19 : decode cX6_readItem 19 = .ok (.if_icmp .ne 13, 3) := by decide +kernel
theorem dX6_readItem_22 : decode cX6_readItem 22 = .ok (.aload_n 0, 1) := by decide +kernel
theorem dX6_readItem_23 : decode cX6_readItem 23 = .ok (.aload_n 1, 1) := by decide +kernel
theorem dX6_readItem_24 : decode cX6_readItem 24 = .ok (.iload_n 2, 1) := by decide +kernel
theorem dX6_readItem_25 : decode cX6_readItem 25 = .ok (.iconst 1, 1) := by decide +kernel
theorem dX6_readItem_26 : decode cX6_readItem 26 = .ok (.iadd, 1) := by decide +kernel
theorem dX6_readItem_27 : decode cX6_readItem 27 = .ok (.iload_n 3, 1) := by decide +kernel
theorem dX6_readItem_28 : decode cX6_readItem 28 = .ok (.invokevirtual 28, 3) := by decide +kernel
theorem dX6_readItem_31 : decode cX6_readItem 31 = .ok (.ireturn, 1) := by decide +kernel
theorem dX6_readItem_32 : decode cX6_readItem 32 = .ok (.iload 4, 2) := by decide +kernel
theorem dX6_readItem_34 : decode cX6_readItem 34 = .ok (.bipush 112, 2) := by decide +kernel
theorem dX6_readItem_36 : decode cX6_readItem 36 = .ok (.if_icmp .ne 13, 3) := by decide +kernel
theorem dX6_readItem_39 : decode cX6_readItem 39 = .ok (.aload_n 0, 1) := by decide +kernel
theorem dX6_readItem_40 : decode cX6_readItem 40 = .ok (.aload_n 1, 1) := by decide +kernel
theorem dX6_readItem_41 : decode cX6_readItem 41 = .ok (.iload_n 2, 1) := by decide +kernel
theorem dX6_readItem_42 : decode cX6_readItem 42 = .ok (.iconst 1, 1) := by decide +kernel
theorem dX6_readItem_43 : decode cX6_readItem 43 = .ok (.iadd, 1) := by decide +kernel
theorem dX6_readItem_44 : decode cX6_readItem 44 = .ok (.iload_n 3, 1) := by decide +kernel
theorem dX6_readItem_45 : decode cX6_readItem 45 = .ok (.invokevirtual 31, 3) := by decide +kernel
theorem dX6_readItem_48 : decode cX6_readItem 48 = .ok (.ireturn, 1) := by decide +kernel
theorem dX6_readItem_49 : decode cX6_readItem 49 = .ok (.aload_n 0, 1) := by decide +kernel
theorem dX6_readItem_50 : decode cX6_readItem 50 = .ok (.aload_n 1, 1) := by decide +kernel
theorem dX6_readItem_51 : decode cX6_readItem 51 = .ok (.ldc 34, 2) := by decide +kernel
theorem dX6_readItem_53 : decode cX6_readItem 53 = .ok (.iload 4, 2) := by decide +kernel
theorem dX6_readItem_55 : decode cX6_readItem 55 = .ok (.invokevirtual 36, 3) := by decide +kernel
theorem dX6_readItem_58 : decode cX6_readItem 58 = .ok (.iload_n 2, 1) := by decide +kernel
theorem dX6_readItem_59 : decode cX6_readItem 59 = .ok (.iconst 1, 1) := by decide +kernel
theorem dX6_readItem_60 : decode cX6_readItem 60 = .ok (.iadd, 1) := by decide +kernel
theorem dX6_readItem_61 : decode cX6_readItem 61 = .ok (.iload_n 3, 1) := by decide +kernel
theorem dX6_readItem_62 : decode cX6_readItem 62 = .ok (.invokevirtual 42, 3) := by decide +kernel
theorem dX6_readItem_65 : decode cX6_readItem 65 = .ok (.ireturn, 1) := by decide +kernel
theorem dX6_readScheme_0 : decode cX6_readScheme 0 = .ok (.aload_n 0, 1) := by decide +kernel
theorem dX6_readScheme_1 : decode cX6_readScheme 1 = .ok (.iload_n 2, 1) := by decide +kernel
theorem dX6_readScheme_2 : decode cX6_readScheme 2 = .ok (.iload_n 3, 1) := by decide +kernel
theorem dX6_readScheme_3 : decode cX6_readScheme 3 = .ok (.invokevirtual 46, 3) := by decide +kernel
theorem dX6_readScheme_6 : decode cX6_readScheme 6 = .ok (.istore 4, 2) := by decide +kernel
theorem dX6_readScheme_8 : decode cX6_readScheme 8 = .ok (.iload 4, 2) := by decide +kernel
theorem dX6_readScheme_10 : decode cX6_readScheme 10 = .ok (.ifCond .lt 11, 3) := by decide +kernel
theorem dX6_readScheme_13 : decode cX6_readScheme 13 = .ok (.aload_n 1, 1) := by decide +kernel
theorem dX6_readScheme_14 : decode cX6_readScheme 14 = .ok (.getfield 50, 3) := by decide +kernel
theorem dX6_readScheme_17 : decode cX6_readScheme 17 = .ok (.iconst 4, 1) := by decide +kernel
theorem dX6_readScheme_18 : decode cX6_readScheme 18 = .ok (.if_icmp .lt 5, 3) := by decide +kernel
theorem dX6_readScheme_21 : decode cX6_readScheme 21 = .ok (.iconst 0, 1) := by decide +kernel
theorem dX6_readScheme_22 : decode cX6_readScheme 22 = .ok (.ireturn, 1) := by decide +kernel
theorem dX6_readScheme_23 : decode cX6_readScheme 23 = .ok (.aload_n 1, 1) := by decide +kernel
theorem dX6_readScheme_24 : decode cX6_readScheme 24 = .ok (.iload_n 3, 1) := by decide +kernel
theorem dX6_readScheme_25 : decode cX6_readScheme 25 = .ok (.iload_n 2, 1) := by decide +kernel
theorem dX6_readScheme_26 : decode cX6_readScheme 26 = .ok (.isub, 1) := by decide +kernel
theorem dX6_readScheme_27 : decode cX6_readScheme 27 = .ok (.iload 4, 2) := by decide +kernel
theorem dX6_readScheme_29 : decode cX6_readScheme 29 = .ok (.invokevirtual 53, 3) := by decide +kernel
theorem dX6_readScheme_32 : decode cX6_readScheme 32 = .ok (.iconst 1, 1) := by decide +kernel
theorem dX6_readScheme_33 : decode cX6_readScheme 33 = .ok (.ireturn, 1) := by decide +kernel
theorem dX6_readPrice_0 : decode cX6_readPrice 0 = .ok (.aload_n 0, 1) := by decide +kernel
theorem dX6_readPrice_1 : decode cX6_readPrice 1 = .ok (.iload_n 2, 1) := by decide +kernel
theorem dX6_readPrice_2 : decode cX6_readPrice 2 = .ok (.iload_n 3, 1) := by decide +kernel
theorem dX6_readPrice_3 : decode cX6_readPrice 3 = .ok (.invokevirtual 57, 3) := by decide +kernel
theorem dX6_readPrice_6 : decode cX6_readPrice 6 = .ok (.istore 4, 2) := by decide +kernel
theorem dX6_readPrice_8 : decode cX6_readPrice 8 = .ok (.iload 4, 2) := by decide +kernel
theorem dX6_readPrice_10 : decode cX6_readPrice 10 = .ok (.ifCond .ge 5, 3) := by decide +kernel
theorem dX6_readPrice_13 : decode cX6_readPrice 13 = .ok (.iconst 0, 1) := by decide +kernel
theorem dX6_readPrice_14 : decode cX6_readPrice 14 = .ok (.ireturn, 1) := by decide +kernel
theorem dX6_readPrice_15 : decode cX6_readPrice 15 = .ok (.aload_n 0, 1) := by decide +kernel
theorem dX6_readPrice_16 : decode cX6_readPrice 16 = .ok (.iload_n 2, 1) := by decide +kernel
theorem dX6_readPrice_17 : decode cX6_readPrice 17 = .ok (.iload 4, 2) := by decide +kernel
theorem dX6_readPrice_19 : decode cX6_readPrice 19 = .ok (.invokevirtual 60, 3) := by decide +kernel
theorem dX6_readPrice_22 : decode cX6_readPrice 22 = .ok (.istore 5, 2) := by decide +kernel
theorem dX6_readPrice_24 : decode cX6_readPrice 24 = .ok (.aload_n 0, 1) := by decide +kernel
theorem dX6_readPrice_25 : decode cX6_readPrice 25 = .ok (.iload 4, 2) := by decide +kernel
theorem dX6_readPrice_27 : decode cX6_readPrice 27 = .ok (.iconst 1, 1) := by decide +kernel
theorem dX6_readPrice_28 : decode cX6_readPrice 28 = .ok (.iadd, 1) := by decide +kernel
theorem dX6_readPrice_29 : decode cX6_readPrice 29 = .ok (.iload_n 3, 1) := by decide +kernel
theorem dX6_readPrice_30 : decode cX6_readPrice 30 = .ok (.invokevirtual 60, 3) := by decide +kernel
theorem dX6_readPrice_33 : decode cX6_readPrice 33 = .ok (.istore 6, 2) := by decide +kernel
theorem dX6_readPrice_35 : decode cX6_readPrice 35 = .ok (.iload 5, 2) := by decide +kernel
theorem dX6_readPrice_37 : decode cX6_readPrice 37 = .ok (.ifCond .lt 24, 3) := by decide +kernel
theorem dX6_readPrice_40 : decode cX6_readPrice 40 = .ok (.iload 5, 2) := by decide +kernel
theorem dX6_readPrice_42 : decode cX6_readPrice 42 = .ok (.aload_n 1, 1) := by decide +kernel
theorem dX6_readPrice_43 : decode cX6_readPrice 43 = .ok (.getfield 50, 3) := by decide +kernel
theorem dX6_readPrice_46 : decode cX6_readPrice 46 = .ok (.if_icmp .ge 15, 3) := by decide +kernel
theorem dX6_readPrice_49 : decode cX6_readPrice 49 = .ok (.iload 6, 2) := by decide +kernel
theorem dX6_readPrice_51 : decode cX6_readPrice 51 = .ok (.ifCond .lt 10, 3) := by decide +kernel
theorem dX6_readPrice_54 : decode cX6_readPrice 54 = .ok (.iload 6, 2) := by decide +kernel
theorem dX6_readPrice_56 : decode cX6_readPrice 56 = .ok (.bipush 99, 2) := by decide +kernel
theorem dX6_readPrice_58 : decode cX6_readPrice 58 = .ok (.if_icmp .le 5, 3) := by decide +kernel
theorem dX6_readPrice_61 : decode cX6_readPrice 61 = .ok (.iconst 0, 1) := by decide +kernel
theorem dX6_readPrice_62 : decode cX6_readPrice 62 = .ok (.ireturn, 1) := by decide +kernel
theorem dX6_readPrice_63 : decode cX6_readPrice 63 = .ok (.aload_n 1, 1) := by decide +kernel
theorem dX6_readPrice_64 : decode cX6_readPrice 64 = .ok (.getfield 63, 3) := by decide +kernel
theorem dX6_readPrice_67 : decode cX6_readPrice 67 = .ok (.iload 5, 2) := by decide +kernel
theorem dX6_readPrice_69 : decode cX6_readPrice 69 = .ok (.iload 6, 2) := by decide +kernel
theorem dX6_readPrice_71 : decode cX6_readPrice 71 = .ok (.iastore, 1) := by decide +kernel
theorem dX6_readPrice_72 : decode cX6_readPrice 72 = .ok (.iconst 1, 1) := by decide +kernel
theorem dX6_readPrice_73 : decode cX6_readPrice 73 = .ok (.ireturn, 1) := by decide +kernel
theorem dX6_readNumber_0 : decode cX6_readNumber 0 = .ok (.iload_n 2, 1) := by decide +kernel
theorem dX6_readNumber_1 : decode cX6_readNumber 1 = .ok (.ifCond .lt 8, 3) := by decide +kernel
theorem dX6_readNumber_4 : decode cX6_readNumber 4 = .ok (.iload_n 2, 1) := by decide +kernel
theorem dX6_readNumber_5 : decode cX6_readNumber 5 = .ok (.iconst 3, 1) := by decide +kernel
theorem dX6_readNumber_6 : decode cX6_readNumber 6 = .ok (.if_icmp .lt 5, 3) := by decide +kernel
theorem dX6_readNumber_9 : decode cX6_readNumber 9 = .ok (.iconst 0, 1) := by decide +kernel
theorem dX6_readNumber_10 : decode cX6_readNumber 10 = .ok (.ireturn, 1) := by decide +kernel
theorem dX6_readNumber_11 : decode cX6_readNumber 11 = .ok (.aload_n 0, 1) := by decide +kernel
theorem dX6_readNumber_12 : decode cX6_readNumber 12 = .ok (.iload_n 3, 1) := by decide +kernel
theorem dX6_readNumber_13 : decode cX6_readNumber 13 = .ok (.iload 4, 2) := by decide +kernel
theorem dX6_readNumber_15 : decode cX6_readNumber 15 = .ok (.invokevirtual 60, 3) := by decide +kernel
theorem dX6_readNumber_18 : decode cX6_readNumber 18 = .ok (.istore 5, 2) := by decide +kernel
theorem dX6_readNumber_20 : decode cX6_readNumber 20 = .ok (.iload 5, 2) := by decide +kernel
theorem dX6_readNumber_22 : decode cX6_readNumber 22 = .ok (.getstatic 67, 3) := by decide +kernel
theorem dX6_readNumber_25 : decode cX6_readNumber 25 = .ok (.iload_n 2, 1) := by decide +kernel
theorem dX6_readNumber_26 : decode cX6_readNumber 26 = .ok (.iaload, 1) := by decide +kernel
theorem dX6_readNumber_27 : decode cX6_readNumber 27 = .ok (.if_icmp .lt 13, 3) := by decide +kernel
theorem dX6_readNumber_30 : decode cX6_readNumber 30 = .ok (.iload 5, 2) := by decide +kernel
theorem dX6_readNumber_32 : decode cX6_readNumber 32 = .ok (.getstatic 70, 3) := by decide +kernel
theorem dX6_readNumber_35 : decode cX6_readNumber 35 = .ok (.iload_n 2, 1) := by decide +kernel
theorem dX6_readNumber_36 : decode cX6_readNumber 36 = .ok (.iaload, 1) := by decide +kernel
theorem dX6_readNumber_37 : decode cX6_readNumber 37 = .ok (.if_icmp .le 5, 3) := by decide +kernel
theorem dX6_readNumber_40 : decode cX6_readNumber 40 = .ok (.iconst 0, 1) := by decide +kernel
theorem dX6_readNumber_41 : decode cX6_readNumber 41 = .ok (.ireturn, 1) := by decide +kernel
theorem dX6_readNumber_42 : decode cX6_readNumber 42 = .ok (.aload_n 1, 1) := by decide +kernel
theorem dX6_readNumber_43 : decode cX6_readNumber 43 = .ok (.getfield 73, 3) := by decide +kernel
theorem dX6_readNumber_46 : decode cX6_readNumber 46 = .ok (.iload_n 2, 1) := by decide +kernel
theorem dX6_readNumber_47 : decode cX6_readNumber 47 = .ok (.iload 5, 2) := by decide +kernel
theorem dX6_readNumber_49 : decode cX6_readNumber 49 = .ok (.iastore, 1) := by decide +kernel
theorem dX6_readNumber_50 : decode cX6_readNumber 50 = .ok (.iconst 1, 1) := by decide +kernel
theorem dX6_readNumber_51 : decode cX6_readNumber 51 = .ok (.ireturn, 1) := by decide +kernel
theorem dX6_commaIn_0 : decode cX6_commaIn 0 = .ok (.iload_n 1, 1) := by decide +kernel
theorem dX6_commaIn_1 : decode cX6_commaIn 1 = .ok (.istore_n 3, 1) := by decide +kernel
theorem dX6_commaIn_2 : decode cX6_commaIn 2 = .ok (.iload_n 3, 1) := by decide +kernel
theorem dX6_commaIn_3 : decode cX6_commaIn 3 = .ok (.iload_n 2, 1) := by decide +kernel
theorem dX6_commaIn_4 : decode cX6_commaIn 4 = .ok (.if_icmp .ge 22, 3) := by decide +kernel
theorem dX6_commaIn_7 : decode cX6_commaIn 7 = .ok (.aload_n 0, 1) := by decide +kernel
theorem dX6_commaIn_8 : decode cX6_commaIn 8 = .ok (.getfield 9, 3) := by decide +kernel
theorem dX6_commaIn_11 : decode cX6_commaIn 11 = .ok (.iload_n 3, 1) := by decide +kernel
theorem dX6_commaIn_12 : decode cX6_commaIn 12 = .ok (.caload, 1) := by decide +kernel
theorem dX6_commaIn_13 : decode cX6_commaIn 13 = .ok (.bipush 44, 2) := by decide +kernel
theorem dX6_commaIn_15 : decode cX6_commaIn 15 = .ok (.if_icmp .ne 5, 3) := by decide +kernel
theorem dX6_commaIn_18 : decode cX6_commaIn 18 = .ok (.iload_n 3, 1) := by decide +kernel
theorem dX6_commaIn_19 : decode cX6_commaIn 19 = .ok (.ireturn, 1) := by decide +kernel
theorem dX6_commaIn_20 : decode cX6_commaIn 20 = .ok (.iinc 3 1, 3) := by decide +kernel
theorem dX6_commaIn_23 : decode cX6_commaIn 23 = .ok (.goto (-21), 3) := by decide +kernel
theorem dX6_commaIn_26 : decode cX6_commaIn 26 = .ok (.iconst (-1), 1) := by decide +kernel
theorem dX6_commaIn_27 : decode cX6_commaIn 27 = .ok (.ireturn, 1) := by decide +kernel
theorem dX6_figuresIn_0 : decode cX6_figuresIn 0 = .ok (.iload_n 1, 1) := by decide +kernel
theorem dX6_figuresIn_1 : decode cX6_figuresIn 1 = .ok (.iload_n 2, 1) := by decide +kernel
theorem dX6_figuresIn_2 : decode cX6_figuresIn 2 = .ok (.if_icmp .ge 10, 3) := by decide +kernel
theorem dX6_figuresIn_5 : decode cX6_figuresIn 5 = .ok (.iload_n 2, 1) := by decide +kernel
theorem dX6_figuresIn_6 : decode cX6_figuresIn 6 = .ok (.iload_n 1, 1) := by decide +kernel
theorem dX6_figuresIn_7 : decode cX6_figuresIn 7 = .ok (.isub, 1) := by decide +kernel
theorem dX6_figuresIn_8 : decode cX6_figuresIn 8 = .ok (.iconst 3, 1) := by decide +kernel
theorem dX6_figuresIn_9 : decode cX6_figuresIn 9 = .ok (.if_icmp .le 5, 3) := by decide +kernel
theorem dX6_figuresIn_12 : decode cX6_figuresIn 12 = .ok (.iconst (-1), 1) := by decide +kernel
theorem dX6_figuresIn_13 : decode cX6_figuresIn 13 = .ok (.ireturn, 1) := by decide +kernel
theorem dX6_figuresIn_14 : decode cX6_figuresIn 14 = .ok (.iconst 0, 1) := by decide +kernel
theorem dX6_figuresIn_15 : decode cX6_figuresIn 15 = .ok (.istore_n 3, 1) := by decide +kernel
theorem dX6_figuresIn_16 : decode cX6_figuresIn 16 = .ok (.iload_n 1, 1) := by decide +kernel
theorem dX6_figuresIn_17 : decode cX6_figuresIn 17 = .ok (.istore 4, 2) := by decide +kernel
theorem dX6_figuresIn_19 : decode cX6_figuresIn 19 = .ok (.iload 4, 2) := by decide +kernel
theorem dX6_figuresIn_21 : decode cX6_figuresIn 21 = .ok (.iload_n 2, 1) := by decide +kernel
theorem dX6_figuresIn_22 : decode cX6_figuresIn 22 = .ok (.if_icmp .ge 51, 3) := by decide +kernel
theorem dX6_figuresIn_25 : decode cX6_figuresIn 25 = .ok (.aload_n 0, 1) := by decide +kernel
theorem dX6_figuresIn_26 : decode cX6_figuresIn 26 = .ok (.getfield 9, 3) := by decide +kernel
theorem dX6_figuresIn_29 : decode cX6_figuresIn 29 = .ok (.iload 4, 2) := by decide +kernel
theorem dX6_figuresIn_31 : decode cX6_figuresIn 31 = .ok (.caload, 1) := by decide +kernel
theorem dX6_figuresIn_32 : decode cX6_figuresIn 32 = .ok (.bipush 48, 2) := by decide +kernel
theorem dX6_figuresIn_34 : decode cX6_figuresIn 34 = .ok (.if_icmp .lt 15, 3) := by decide +kernel
theorem dX6_figuresIn_37 : decode cX6_figuresIn 37 = .ok (.aload_n 0, 1) := by decide +kernel
theorem dX6_figuresIn_38 : decode cX6_figuresIn 38 = .ok (.getfield 9, 3) := by decide +kernel
theorem dX6_figuresIn_41 : decode cX6_figuresIn 41 = .ok (.iload 4, 2) := by decide +kernel
theorem dX6_figuresIn_43 : decode cX6_figuresIn 43 = .ok (.caload, 1) := by decide +kernel
theorem dX6_figuresIn_44 : decode cX6_figuresIn 44 = .ok (.bipush 57, 2) := by decide +kernel
theorem dX6_figuresIn_46 : decode cX6_figuresIn 46 = .ok (.if_icmp .le 5, 3) := by decide +kernel
theorem dX6_figuresIn_49 : decode cX6_figuresIn 49 = .ok (.iconst (-1), 1) := by decide +kernel
theorem dX6_figuresIn_50 : decode cX6_figuresIn 50 = .ok (.ireturn, 1) := by decide +kernel
theorem dX6_figuresIn_51 : decode cX6_figuresIn 51 = .ok (.bipush 10, 2) := by decide +kernel
theorem dX6_figuresIn_53 : decode cX6_figuresIn 53 = .ok (.iload_n 3, 1) := by decide +kernel
theorem dX6_figuresIn_54 : decode cX6_figuresIn 54 = .ok (.imul, 1) := by decide +kernel
theorem dX6_figuresIn_55 : decode cX6_figuresIn 55 = .ok (.aload_n 0, 1) := by decide +kernel
theorem dX6_figuresIn_56 : decode cX6_figuresIn 56 = .ok (.getfield 9, 3) := by decide +kernel
theorem dX6_figuresIn_59 : decode cX6_figuresIn 59 = .ok (.iload 4, 2) := by decide +kernel
theorem dX6_figuresIn_61 : decode cX6_figuresIn 61 = .ok (.caload, 1) := by decide +kernel
theorem dX6_figuresIn_62 : decode cX6_figuresIn 62 = .ok (.iadd, 1) := by decide +kernel
theorem dX6_figuresIn_63 : decode cX6_figuresIn 63 = .ok (.bipush 48, 2) := by decide +kernel
theorem dX6_figuresIn_65 : decode cX6_figuresIn 65 = .ok (.isub, 1) := by decide +kernel
theorem dX6_figuresIn_66 : decode cX6_figuresIn 66 = .ok (.istore_n 3, 1) := by decide +kernel
theorem dX6_figuresIn_67 : decode cX6_figuresIn 67 = .ok (.iinc 4 1, 3) := by decide +kernel
theorem dX6_figuresIn_70 : decode cX6_figuresIn 70 = .ok (.goto (-51), 3) := by decide +kernel
theorem dX6_figuresIn_73 : decode cX6_figuresIn 73 = .ok (.iload_n 3, 1) := by decide +kernel
theorem dX6_figuresIn_74 : decode cX6_figuresIn 74 = .ok (.ireturn, 1) := by decide +kernel
theorem dX6_foldsIn_0 : decode cX6_foldsIn 0 = .ok (.iload_n 1, 1) := by decide +kernel
theorem dX6_foldsIn_1 : decode cX6_foldsIn 1 = .ok (.iload_n 2, 1) := by decide +kernel
theorem dX6_foldsIn_2 : decode cX6_foldsIn 2 = .ok (.if_icmp .ge 10, 3) := by decide +kernel
theorem dX6_foldsIn_5 : decode cX6_foldsIn 5 = .ok (.iload_n 2, 1) := by decide +kernel
theorem dX6_foldsIn_6 : decode cX6_foldsIn 6 = .ok (.iload_n 1, 1) := by decide +kernel
theorem dX6_foldsIn_7 : decode cX6_foldsIn 7 = .ok (.isub, 1) := by decide +kernel
theorem dX6_foldsIn_8 : decode cX6_foldsIn 8 = .ok (.iconst 4, 1) := by decide +kernel
theorem dX6_foldsIn_9 : decode cX6_foldsIn 9 = .ok (.if_icmp .le 5, 3) := by decide +kernel
theorem dX6_foldsIn_12 : decode cX6_foldsIn 12 = .ok (.iconst (-1), 1) := by decide +kernel
theorem dX6_foldsIn_13 : decode cX6_foldsIn 13 = .ok (.ireturn, 1) := by decide +kernel
theorem dX6_foldsIn_14 : decode cX6_foldsIn 14 = .ok (.iconst 0, 1) := by decide +kernel
theorem dX6_foldsIn_15 : decode cX6_foldsIn 15 = .ok (.istore_n 3, 1) := by decide +kernel
theorem dX6_foldsIn_16 : decode cX6_foldsIn 16 = .ok (.iload_n 1, 1) := by decide +kernel
theorem dX6_foldsIn_17 : decode cX6_foldsIn 17 = .ok (.istore 4, 2) := by decide +kernel
theorem dX6_foldsIn_19 : decode cX6_foldsIn 19 = .ok (.iload 4, 2) := by decide +kernel
theorem dX6_foldsIn_21 : decode cX6_foldsIn 21 = .ok (.iload_n 2, 1) := by decide +kernel
theorem dX6_foldsIn_22 : decode cX6_foldsIn 22 = .ok (.if_icmp .ge 37, 3) := by decide +kernel
theorem dX6_foldsIn_25 : decode cX6_foldsIn 25 = .ok (.ldc 76, 2) := by decide +kernel
theorem dX6_foldsIn_27 : decode cX6_foldsIn 27 = .ok (.aload_n 0, 1) := by decide +kernel
theorem dX6_foldsIn_28 : decode cX6_foldsIn 28 = .ok (.getfield 9, 3) := by decide +kernel
theorem dX6_foldsIn_31 : decode cX6_foldsIn 31 = .ok (.iload 4, 2) := by decide +kernel
theorem dX6_foldsIn_33 : decode cX6_foldsIn 33 = .ok (.caload, 1) := by decide +kernel
theorem dX6_foldsIn_34 : decode cX6_foldsIn 34 = .ok (.invokevirtual 36, 3) := by decide +kernel
theorem dX6_foldsIn_37 : decode cX6_foldsIn 37 = .ok (.istore 5, 2) := by decide +kernel
theorem dX6_foldsIn_39 : decode cX6_foldsIn 39 = .ok (.iload 5, 2) := by decide +kernel
theorem dX6_foldsIn_41 : decode cX6_foldsIn 41 = .ok (.ifCond .ge 5, 3) := by decide +kernel
theorem dX6_foldsIn_44 : decode cX6_foldsIn 44 = .ok (.iconst (-1), 1) := by decide +kernel
theorem dX6_foldsIn_45 : decode cX6_foldsIn 45 = .ok (.ireturn, 1) := by decide +kernel
theorem dX6_foldsIn_46 : decode cX6_foldsIn 46 = .ok (.iconst 4, 1) := by decide +kernel
theorem dX6_foldsIn_47 : decode cX6_foldsIn 47 = .ok (.iload_n 3, 1) := by decide +kernel
theorem dX6_foldsIn_48 : decode cX6_foldsIn 48 = .ok (.imul, 1) := by decide +kernel
theorem dX6_foldsIn_49 : decode cX6_foldsIn 49 = .ok (.iload 5, 2) := by decide +kernel
theorem dX6_foldsIn_51 : decode cX6_foldsIn 51 = .ok (.iadd, 1) := by decide +kernel
theorem dX6_foldsIn_52 : decode cX6_foldsIn 52 = .ok (.istore_n 3, 1) := by decide +kernel
theorem dX6_foldsIn_53 : decode cX6_foldsIn 53 = .ok (.iinc 4 1, 3) := by decide +kernel
theorem dX6_foldsIn_56 : decode cX6_foldsIn 56 = .ok (.goto (-37), 3) := by decide +kernel
theorem dX6_foldsIn_59 : decode cX6_foldsIn 59 = .ok (.iload_n 3, 1) := by decide +kernel
theorem dX6_foldsIn_60 : decode cX6_foldsIn 60 = .ok (.invokestatic 78, 3) := by decide +kernel
theorem dX6_foldsIn_63 : decode cX6_foldsIn 63 = .ok (.invokestatic 83, 3) := by decide +kernel
theorem dX6_foldsIn_66 : decode cX6_foldsIn 66 = .ok (.ifCond .eq 7, 3) := by decide +kernel
theorem dX6_foldsIn_69 : decode cX6_foldsIn 69 = .ok (.iload_n 3, 1) := by decide +kernel
theorem dX6_foldsIn_70 : decode cX6_foldsIn 70 = .ok (.goto 4, 3) := by decide +kernel
theorem dX6_foldsIn_73 : decode cX6_foldsIn 73 = .ok (.iconst (-1), 1) := by decide +kernel
theorem dX6_foldsIn_74 : decode cX6_foldsIn 74 = .ok (.ireturn, 1) := by decide +kernel
theorem dX7_init_0 : decode cX7_init 0 = .ok (.aload_n 0, 1) := by decide +kernel
theorem dX7_init_1 : decode cX7_init 1 = .ok (.invokespecial 3, 3) := by decide +kernel
theorem dX7_init_4 : decode cX7_init 4 = .ok (.aload_n 0, 1) := by decide +kernel
theorem dX7_init_5 : decode cX7_init 5 = .ok (.iconst 3, 1) := by decide +kernel
theorem dX7_init_6 : decode cX7_init 6 = .ok (.newarray .int, 2) := by decide +kernel
theorem dX7_init_8 : decode cX7_init 8 = .ok (.putfield 9, 3) := by decide +kernel
theorem dX7_init_11 : decode cX7_init 11 = .ok (.aload_n 0, 1) := by decide +kernel
theorem dX7_init_12 : decode cX7_init 12 = .ok (.iconst 4, 1) := by decide +kernel
theorem dX7_init_13 : decode cX7_init 13 = .ok (.newarray .int, 2) := by decide +kernel
theorem dX7_init_15 : decode cX7_init 15 = .ok (.putfield 15, 3) := by decide +kernel
theorem dX7_init_18 : decode cX7_init 18 = .ok (.aload_n 0, 1) := by decide +kernel
theorem dX7_init_19 : decode cX7_init 19 = .ok (.iconst 4, 1) := by decide +kernel
theorem dX7_init_20 : decode cX7_init 20 = .ok (.newarray .int, 2) := by decide +kernel
theorem dX7_init_22 : decode cX7_init 22 = .ok (.putfield 18, 3) := by decide +kernel
theorem dX7_init_25 : decode cX7_init 25 = .ok (.aload_n 0, 1) := by decide +kernel
theorem dX7_init_26 : decode cX7_init 26 = .ok (.iconst 4, 1) := by decide +kernel
theorem dX7_init_27 : decode cX7_init 27 = .ok (.newarray .int, 2) := by decide +kernel
theorem dX7_init_29 : decode cX7_init 29 = .ok (.putfield 21, 3) := by decide +kernel
theorem dX7_init_32 : decode cX7_init 32 = .ok (.aload_n 0, 1) := by decide +kernel
theorem dX7_init_33 : decode cX7_init 33 = .ok (.bipush 100, 2) := by decide +kernel
theorem dX7_init_35 : decode cX7_init 35 = .ok (.newarray .int, 2) := by decide +kernel
theorem dX7_init_37 : decode cX7_init 37 = .ok (.putfield 24, 3) := by decide +kernel
theorem dX7_init_40 : decode cX7_init 40 = .ok (.return_, 1) := by decide +kernel
theorem dX7_tellNothing_0 : decode cX7_tellNothing 0 = .ok (.aload_n 0, 1) := by decide +kernel
theorem dX7_tellNothing_1 : decode cX7_tellNothing 1 = .ok (.iconst 0, 1) := by decide +kernel
theorem dX7_tellNothing_2 : decode cX7_tellNothing 2 = .ok (.putfield 27, 3) := by decide +kernel
theorem dX7_tellNothing_5 : decode cX7_tellNothing 5 = .ok (.iconst 0, 1) := by decide +kernel
theorem dX7_tellNothing_6 : decode cX7_tellNothing 6 = .ok (.istore_n 1, 1) := by decide +kernel
theorem dX7_tellNothing_7 : decode cX7_tellNothing 7 = .ok (.iload_n 1, 1) := by decide +kernel
theorem dX7_tellNothing_8 : decode cX7_tellNothing 8 = .ok (.iconst 3, 1) := by decide +kernel
theorem dX7_tellNothing_9 : decode cX7_tellNothing 9 = .ok (.if_icmp .ge 20, 3) := by decide +kernel
theorem dX7_tellNothing_12 : decode cX7_tellNothing 12 = .ok (.aload_n 0, 1) := by decide +kernel
theorem dX7_tellNothing_13 : decode cX7_tellNothing 13 = .ok (.getfield 9, 3) := by decide +kernel
theorem dX7_tellNothing_16 : decode cX7_tellNothing 16 = .ok (.iload_n 1, 1) := by decide +kernel
theorem dX7_tellNothing_17 : decode cX7_tellNothing 17 = .ok (.getstatic 31, 3) := by decide +kernel
theorem dX7_tellNothing_20 : decode cX7_tellNothing 20 = .ok (.iload_n 1, 1) := by decide +kernel
theorem dX7_tellNothing_21 : decode cX7_tellNothing 21 = .ok (.iaload, 1) := by decide +kernel
theorem dX7_tellNothing_22 : decode cX7_tellNothing 22 = .ok (.iastore, 1) := by decide +kernel
theorem dX7_tellNothing_23 : decode cX7_tellNothing 23 = .ok (.iinc 1 1, 3) := by decide +kernel
theorem dX7_tellNothing_26 : decode cX7_tellNothing 26 = .ok (.goto (-19), 3) := by decide +kernel
theorem dX7_tellNothing_29 : decode cX7_tellNothing 29 = .ok (.aload_n 0, 1) := by decide +kernel
theorem dX7_tellNothing_30 : decode cX7_tellNothing 30 = .ok (.invokevirtual 34, 3) := by decide +kernel
theorem dX7_tellNothing_33 : decode cX7_tellNothing 33 = .ok (.return_, 1) := by decide +kernel
theorem dX7_unspoil_0 : decode cX7_unspoil 0 = .ok (.iconst 0, 1) := by decide +kernel
theorem dX7_unspoil_1 : decode cX7_unspoil 1 = .ok (.istore_n 1, 1) := by decide +kernel
theorem dX7_unspoil_2 : decode cX7_unspoil 2 = .ok (.iload_n 1, 1) := by decide +kernel
theorem dX7_unspoil_3 : decode cX7_unspoil 3 = .ok (.bipush 100, 2) := by decide +kernel
theorem dX7_unspoil_5 : decode cX7_unspoil 5 = .ok (.if_icmp .ge 16, 3) := by decide +kernel
theorem dX7_unspoil_8 : decode cX7_unspoil 8 = .ok (.aload_n 0, 1) := by decide +kernel
theorem dX7_unspoil_9 : decode cX7_unspoil 9 = .ok (.getfield 24, 3) := by decide +kernel
theorem dX7_unspoil_12 : decode cX7_unspoil 12 = .ok (.iload_n 1, 1) := by decide +kernel
theorem dX7_unspoil_13 : decode cX7_unspoil 13 = .ok (.iconst 0, 1) := by decide +kernel
theorem dX7_unspoil_14 : decode cX7_unspoil 14 = .ok (.iastore, 1) := by decide +kernel
theorem dX7_unspoil_15 : decode cX7_unspoil 15 = .ok (.iinc 1 1, 3) := by decide +kernel
theorem dX7_unspoil_18 : decode cX7_unspoil 18 = .ok (.goto (-16), 3) := by decide +kernel
theorem dX7_unspoil_21 : decode cX7_unspoil 21 = .ok (.return_, 1) := by decide +kernel
theorem dX7_copyFrom_0 : decode cX7_copyFrom 0 = .ok (.aload_n 0, 1) := by decide +kernel
theorem dX7_copyFrom_1 : decode cX7_copyFrom 1 = .ok (.aload_n 1, 1) := by decide +kernel
theorem dX7_copyFrom_2 : decode cX7_copyFrom 2 = .ok (.getfield 27, 3) := by decide +kernel
theorem dX7_copyFrom_5 : decode cX7_copyFrom 5 = .ok (.putfield 27, 3) := by decide +kernel
theorem dX7_copyFrom_8 : decode cX7_copyFrom 8 = .ok (.aload_n 1, 1) := by decide +kernel
theorem dX7_copyFrom_9 : decode cX7_copyFrom 9 = .ok (.getfield 9, 3) := by decide +kernel
theorem dX7_copyFrom_12 : decode cX7_copyFrom 12 = .ok (.aload_n 0, 1) := by decide +kernel
theorem dX7_copyFrom_13 : decode cX7_copyFrom 13 = .ok (.getfield 9, 3) := by decide +kernel
theorem dX7_copyFrom_16 : decode cX7_copyFrom 16 = .ok (.invokestatic 37, 3) := by decide +kernel
theorem dX7_copyFrom_19 : decode cX7_copyFrom 19 = .ok (.aload_n 1, 1) := by decide +kernel
theorem dX7_copyFrom_20 : decode cX7_copyFrom 20 = .ok (.getfield 15, 3) := by decide +kernel
theorem dX7_copyFrom_23 : decode cX7_copyFrom 23 = .ok (.aload_n 0, 1) := by decide +kernel
theorem dX7_copyFrom_24 : decode cX7_copyFrom 24 = .ok (.getfield 15, 3) := by decide +kernel
theorem dX7_copyFrom_27 : decode cX7_copyFrom 27 = .ok (.invokestatic 37, 3) := by decide +kernel
theorem dX7_copyFrom_30 : decode cX7_copyFrom 30 = .ok (.aload_n 1, 1) := by decide +kernel
theorem dX7_copyFrom_31 : decode cX7_copyFrom 31 = .ok (.getfield 18, 3) := by decide +kernel
theorem dX7_copyFrom_34 : decode cX7_copyFrom 34 = .ok (.aload_n 0, 1) := by decide +kernel
theorem dX7_copyFrom_35 : decode cX7_copyFrom 35 = .ok (.getfield 18, 3) := by decide +kernel
theorem dX7_copyFrom_38 : decode cX7_copyFrom 38 = .ok (.invokestatic 37, 3) := by decide +kernel
theorem dX7_copyFrom_41 : decode cX7_copyFrom 41 = .ok (.aload_n 1, 1) := by decide +kernel
theorem dX7_copyFrom_42 : decode cX7_copyFrom 42 = .ok (.getfield 21, 3) := by decide +kernel
theorem dX7_copyFrom_45 : decode cX7_copyFrom 45 = .ok (.aload_n 0, 1) := by decide +kernel
theorem dX7_copyFrom_46 : decode cX7_copyFrom 46 = .ok (.getfield 21, 3) := by decide +kernel
theorem dX7_copyFrom_49 : decode cX7_copyFrom 49 = .ok (.invokestatic 37, 3) := by decide +kernel
theorem dX7_copyFrom_52 : decode cX7_copyFrom 52 = .ok (.aload_n 1, 1) := by decide +kernel
theorem dX7_copyFrom_53 : decode cX7_copyFrom 53 = .ok (.getfield 24, 3) := by decide +kernel
theorem dX7_copyFrom_56 : decode cX7_copyFrom 56 = .ok (.aload_n 0, 1) := by decide +kernel
theorem dX7_copyFrom_57 : decode cX7_copyFrom 57 = .ok (.getfield 24, 3) := by decide +kernel
theorem dX7_copyFrom_60 : decode cX7_copyFrom 60 = .ok (.invokestatic 37, 3) := by decide +kernel
theorem dX7_copyFrom_63 : decode cX7_copyFrom 63 = .ok (.return_, 1) := by decide +kernel
theorem dX7_copyRow_0 : decode cX7_copyRow 0 = .ok (.iconst 0, 1) := by decide +kernel
theorem dX7_copyRow_1 : decode cX7_copyRow 1 = .ok (.istore_n 2, 1) := by decide +kernel
theorem dX7_copyRow_2 : decode cX7_copyRow 2 = .ok (.iload_n 2, 1) := by decide +kernel
theorem dX7_copyRow_3 : decode cX7_copyRow 3 = .ok (.aload_n 0, 1) := by decide +kernel
theorem dX7_copyRow_4 : decode cX7_copyRow 4 = .ok (.arraylength, 1) := by decide +kernel
theorem dX7_copyRow_5 : decode cX7_copyRow 5 = .ok (.if_icmp .ge 21, 3) := by decide +kernel
theorem dX7_copyRow_8 : decode cX7_copyRow 8 = .ok (.iload_n 2, 1) := by decide +kernel
theorem dX7_copyRow_9 : decode cX7_copyRow 9 = .ok (.aload_n 1, 1) := by decide +kernel
theorem dX7_copyRow_10 : decode cX7_copyRow 10 = .ok (.arraylength, 1) := by decide +kernel
theorem dX7_copyRow_11 : decode cX7_copyRow 11 = .ok (.if_icmp .ge 15, 3) := by decide +kernel
theorem dX7_copyRow_14 : decode cX7_copyRow 14 = .ok (.aload_n 1, 1) := by decide +kernel
theorem dX7_copyRow_15 : decode cX7_copyRow 15 = .ok (.iload_n 2, 1) := by decide +kernel
theorem dX7_copyRow_16 : decode cX7_copyRow 16 = .ok (.aload_n 0, 1) := by decide +kernel
theorem dX7_copyRow_17 : decode cX7_copyRow 17 = .ok (.iload_n 2, 1) := by decide +kernel
theorem dX7_copyRow_18 : decode cX7_copyRow 18 = .ok (.iaload, 1) := by decide +kernel
theorem dX7_copyRow_19 : decode cX7_copyRow 19 = .ok (.iastore, 1) := by decide +kernel
theorem dX7_copyRow_20 : decode cX7_copyRow 20 = .ok (.iinc 2 1, 3) := by decide +kernel
theorem dX7_copyRow_23 : decode cX7_copyRow 23 = .ok (.goto (-21), 3) := by decide +kernel
theorem dX7_copyRow_26 : decode cX7_copyRow 26 = .ok (.return_, 1) := by decide +kernel
theorem dX7_addScheme_0 : decode cX7_addScheme 0 = .ok (.aload_n 0, 1) := by decide +kernel
theorem dX7_addScheme_1 : decode cX7_addScheme 1 = .ok (.getfield 27, 3) := by decide +kernel
theorem dX7_addScheme_4 : decode cX7_addScheme 4 = .ok (.iconst 4, 1) := by decide +kernel
theorem dX7_addScheme_5 : decode cX7_addScheme 5 = .ok (.if_icmp .ge 44, 3) := by decide +kernel
theorem dX7_addScheme_8 : decode cX7_addScheme 8 = .ok (.aload_n 0, 1) := by decide +kernel
theorem dX7_addScheme_9 : decode cX7_addScheme 9 = .ok (.getfield 15, 3) := by decide +kernel
theorem dX7_addScheme_12 : decode cX7_addScheme 12 = .ok (.aload_n 0, 1) := by decide +kernel
theorem dX7_addScheme_13 : decode cX7_addScheme 13 = .ok (.getfield 27, 3) := by decide +kernel
theorem dX7_addScheme_16 : decode cX7_addScheme 16 = .ok (.iload_n 1, 1) := by decide +kernel
theorem dX7_addScheme_17 : decode cX7_addScheme 17 = .ok (.iastore, 1) := by decide +kernel
theorem dX7_addScheme_18 : decode cX7_addScheme 18 = .ok (.aload_n 0, 1) := by decide +kernel
theorem dX7_addScheme_19 : decode cX7_addScheme 19 = .ok (.getfield 18, 3) := by decide +kernel
theorem dX7_addScheme_22 : decode cX7_addScheme 22 = .ok (.aload_n 0, 1) := by decide +kernel
theorem dX7_addScheme_23 : decode cX7_addScheme 23 = .ok (.getfield 27, 3) := by decide +kernel
theorem dX7_addScheme_26 : decode cX7_addScheme 26 = .ok (.iload_n 2, 1) := by decide +kernel
theorem dX7_addScheme_27 : decode cX7_addScheme 27 = .ok (.iastore, 1) := by decide +kernel
theorem dX7_addScheme_28 : decode cX7_addScheme 28 = .ok (.aload_n 0, 1) := by decide +kernel
theorem dX7_addScheme_29 : decode cX7_addScheme 29 = .ok (.getfield 21, 3) := by decide +kernel
theorem dX7_addScheme_32 : decode cX7_addScheme 32 = .ok (.aload_n 0, 1) := by decide +kernel
theorem dX7_addScheme_33 : decode cX7_addScheme 33 = .ok (.getfield 27, 3) := by decide +kernel
theorem dX7_addScheme_36 : decode cX7_addScheme 36 = .ok (.bipush 10, 2) := by decide +kernel
theorem dX7_addScheme_38 : decode cX7_addScheme 38 = .ok (.iastore, 1) := by decide +kernel
theorem dX7_addScheme_39 : decode cX7_addScheme 39 = .ok (.aload_n 0, 1) := by decide +kernel
theorem dX7_addScheme_40 : decode cX7_addScheme 40 = .ok (.dup, 1) := by decide +kernel
theorem dX7_addScheme_41 : decode cX7_addScheme 41 = .ok (.getfield 27, 3) := by decide +kernel
theorem dX7_addScheme_44 : decode cX7_addScheme 44 = .ok (.iconst 1, 1) := by decide +kernel
theorem dX7_addScheme_45 : decode cX7_addScheme 45 = .ok (.iadd, 1) := by decide +kernel
theorem dX7_addScheme_46 : decode cX7_addScheme 46 = .ok (.putfield 27, 3) := by decide +kernel
theorem dX7_addScheme_49 : decode cX7_addScheme 49 = .ok (.return_, 1) := by decide +kernel
theorem dX7_unitsOf_0 : decode cX7_unitsOf 0 = .ok (.iconst 2, 1) := by decide +kernel
theorem dX7_unitsOf_1 : decode cX7_unitsOf 1 = .ok (.aload_n 0, 1) := by decide +kernel
theorem dX7_unitsOf_2 : decode cX7_unitsOf 2 = .ok (.getfield 15, 3) := by decide +kernel
theorem dX7_unitsOf_5 : decode cX7_unitsOf 5 = .ok (.iload_n 1, 1) := by decide +kernel
theorem dX7_unitsOf_6 : decode cX7_unitsOf 6 = .ok (.iaload, 1) := by decide +kernel
theorem dX7_unitsOf_7 : decode cX7_unitsOf 7 = .ok (.ishl, 1) := by decide +kernel
theorem dX7_unitsOf_8 : decode cX7_unitsOf 8 = .ok (.iconst 4, 1) := by decide +kernel
theorem dX7_unitsOf_9 : decode cX7_unitsOf 9 = .ok (.idiv, 1) := by decide +kernel
theorem dX7_unitsOf_10 : decode cX7_unitsOf 10 = .ok (.ireturn, 1) := by decide +kernel
theorem dX7_pagesOf_0 : decode cX7_pagesOf 0 = .ok (.iconst 2, 1) := by decide +kernel
theorem dX7_pagesOf_1 : decode cX7_pagesOf 1 = .ok (.aload_n 0, 1) := by decide +kernel
theorem dX7_pagesOf_2 : decode cX7_pagesOf 2 = .ok (.getfield 15, 3) := by decide +kernel
theorem dX7_pagesOf_5 : decode cX7_pagesOf 5 = .ok (.iload_n 1, 1) := by decide +kernel
theorem dX7_pagesOf_6 : decode cX7_pagesOf 6 = .ok (.iaload, 1) := by decide +kernel
theorem dX7_pagesOf_7 : decode cX7_pagesOf 7 = .ok (.ishl, 1) := by decide +kernel
theorem dX7_pagesOf_8 : decode cX7_pagesOf 8 = .ok (.ireturn, 1) := by decide +kernel
theorem dX7_spoiledSheets_0 : decode cX7_spoiledSheets 0 = .ok (.iconst 0, 1) := by decide +kernel
theorem dX7_spoiledSheets_1 : decode cX7_spoiledSheets 1 = .ok (.istore_n 1, 1) := by decide +kernel
theorem dX7_spoiledSheets_2 : decode cX7_spoiledSheets 2 = .ok (.iconst 0, 1) := by decide +kernel
theorem dX7_spoiledSheets_3 : decode cX7_spoiledSheets 3 = .ok (.istore_n 2, 1) := by decide +kernel
theorem dX7_spoiledSheets_4 : decode cX7_spoiledSheets 4 = .ok (.iload_n 2, 1) := by decide +kernel
theorem dX7_spoiledSheets_5 : decode cX7_spoiledSheets 5 = .ok (.bipush 100, 2) := by decide +kernel
theorem dX7_spoiledSheets_7 : decode cX7_spoiledSheets 7 = .ok (.if_icmp .ge 18, 3) := by decide +kernel
theorem dX7_spoiledSheets_10 : decode cX7_spoiledSheets 10 = .ok (.iload_n 1, 1) := by decide +kernel
theorem dX7_spoiledSheets_11 : decode cX7_spoiledSheets 11 = .ok (.aload_n 0, 1) := by decide +kernel
theorem dX7_spoiledSheets_12 : decode cX7_spoiledSheets 12 = .ok (.getfield 24, 3) := by decide +kernel
theorem dX7_spoiledSheets_15 : decode cX7_spoiledSheets 15 = .ok (.iload_n 2, 1) := by decide +kernel
theorem dX7_spoiledSheets_16 : decode cX7_spoiledSheets 16 = .ok (.iaload, 1) := by decide +kernel
theorem dX7_spoiledSheets_17 : decode cX7_spoiledSheets 17 = .ok (.iadd, 1) := by decide +kernel
theorem dX7_spoiledSheets_18 : decode cX7_spoiledSheets 18 = .ok (.istore_n 1, 1) := by decide +kernel
theorem dX7_spoiledSheets_19 : decode cX7_spoiledSheets 19 = .ok (.iinc 2 1, 3) := by decide +kernel
theorem dX7_spoiledSheets_22 : decode cX7_spoiledSheets 22 = .ok (.goto (-18), 3) := by decide +kernel
theorem dX7_spoiledSheets_25 : decode cX7_spoiledSheets 25 = .ok (.iload_n 1, 1) := by decide +kernel
theorem dX7_spoiledSheets_26 : decode cX7_spoiledSheets 26 = .ok (.ireturn, 1) := by decide +kernel
theorem dX8_init_0 : decode cX8_init 0 = .ok (.aload_n 0, 1) := by decide +kernel
theorem dX8_init_1 : decode cX8_init 1 = .ok (.invokespecial 3, 3) := by decide +kernel
theorem dX8_init_4 : decode cX8_init 4 = .ok (.aload_n 0, 1) := by decide +kernel
theorem dX8_init_5 : decode cX8_init 5 = .ok (.new 9, 3) := by decide +kernel
theorem dX8_init_8 : decode cX8_init 8 = .ok (.dup, 1) := by decide +kernel
theorem dX8_init_9 : decode cX8_init 9 = .ok (.invokespecial 11, 3) := by decide +kernel
theorem dX8_init_12 : decode cX8_init 12 = .ok (.putfield 12, 3) := by decide +kernel
theorem dX8_init_15 : decode cX8_init 15 = .ok (.aload_n 0, 1) := by decide +kernel
theorem dX8_init_16 : decode cX8_init 16 = .ok (.new 16, 3) := by decide +kernel
theorem dX8_init_19 : decode cX8_init 19 = .ok (.dup, 1) := by decide +kernel
theorem dX8_init_20 : decode cX8_init 20 = .ok (.invokespecial 18, 3) := by decide +kernel
theorem dX8_init_23 : decode cX8_init 23 = .ok (.putfield 19, 3) := by decide +kernel
theorem dX8_init_26 : decode cX8_init 26 = .ok (.aload_n 0, 1) := by decide +kernel
theorem dX8_init_27 : decode cX8_init 27 = .ok (.new 16, 3) := by decide +kernel
theorem dX8_init_30 : decode cX8_init 30 = .ok (.dup, 1) := by decide +kernel
theorem dX8_init_31 : decode cX8_init 31 = .ok (.invokespecial 18, 3) := by decide +kernel
theorem dX8_init_34 : decode cX8_init 34 = .ok (.putfield 23, 3) := by decide +kernel
theorem dX8_init_37 : decode cX8_init 37 = .ok (.aload_n 0, 1) := by decide +kernel
theorem dX8_init_38 : decode cX8_init 38 = .ok (.new 26, 3) := by decide +kernel
theorem dX8_init_41 : decode cX8_init 41 = .ok (.dup, 1) := by decide +kernel
theorem dX8_init_42 : decode cX8_init 42 = .ok (.invokespecial 28, 3) := by decide +kernel
theorem dX8_init_45 : decode cX8_init 45 = .ok (.putfield 29, 3) := by decide +kernel
theorem dX8_init_48 : decode cX8_init 48 = .ok (.aload_n 0, 1) := by decide +kernel
theorem dX8_init_49 : decode cX8_init 49 = .ok (.iconst 4, 1) := by decide +kernel
theorem dX8_init_50 : decode cX8_init 50 = .ok (.anewarray 33, 3) := by decide +kernel
theorem dX8_init_53 : decode cX8_init 53 = .ok (.putfield 35, 3) := by decide +kernel
theorem dX8_init_56 : decode cX8_init 56 = .ok (.iconst 0, 1) := by decide +kernel
theorem dX8_init_57 : decode cX8_init 57 = .ok (.istore_n 1, 1) := by decide +kernel
theorem dX8_init_58 : decode cX8_init 58 = .ok (.iload_n 1, 1) := by decide +kernel
theorem dX8_init_59 : decode cX8_init 59 = .ok (.iconst 4, 1) := by decide +kernel
theorem dX8_init_60 : decode cX8_init 60 = .ok (.if_icmp .ge 22, 3) := by decide +kernel
theorem dX8_init_63 : decode cX8_init 63 = .ok (.aload_n 0, 1) := by decide +kernel
theorem dX8_init_64 : decode cX8_init 64 = .ok (.getfield 35, 3) := by decide +kernel
theorem dX8_init_67 : decode cX8_init 67 = .ok (.iload_n 1, 1) := by decide +kernel
theorem dX8_init_68 : decode cX8_init 68 = .ok (.new 33, 3) := by decide +kernel
theorem dX8_init_71 : decode cX8_init 71 = .ok (.dup, 1) := by decide +kernel
theorem dX8_init_72 : decode cX8_init 72 = .ok (.invokespecial 39, 3) := by decide +kernel
theorem dX8_init_75 : decode cX8_init 75 = .ok (.aastore, 1) := by decide +kernel
theorem dX8_init_76 : decode cX8_init 76 = .ok (.iinc 1 1, 3) := by decide +kernel
theorem dX8_init_79 : decode cX8_init 79 = .ok (.goto (-21), 3) := by decide +kernel
theorem dX8_init_82 : decode cX8_init 82 = .ok (.aload_n 0, 1) := by decide +kernel
theorem dX8_init_83 : decode cX8_init 83 = .ok (.new 40, 3) := by decide +kernel
theorem dX8_init_86 : decode cX8_init 86 = .ok (.dup, 1) := by decide +kernel
theorem dX8_init_87 : decode cX8_init 87 = .ok (.invokespecial 42, 3) := by decide +kernel
theorem dX8_init_90 : decode cX8_init 90 = .ok (.putfield 43, 3) := by decide +kernel
theorem dX8_init_93 : decode cX8_init 93 = .ok (.aload_n 0, 1) := by decide +kernel
theorem dX8_init_94 : decode cX8_init 94 = .ok (.new 47, 3) := by decide +kernel
theorem dX8_init_97 : decode cX8_init 97 = .ok (.dup, 1) := by decide +kernel
theorem dX8_init_98 : decode cX8_init 98 = .ok (.invokespecial 49, 3) := by decide +kernel
theorem dX8_init_101 : decode cX8_init 101 = .ok (.putfield 50, 3) := by decide +kernel
theorem dX8_init_104 : decode cX8_init 104 = .ok (.aload_n 0, 1) := by decide +kernel
theorem dX8_init_105 : decode cX8_init 105 = .ok (.new 54, 3) := by decide +kernel
theorem dX8_init_108 : decode cX8_init 108 = .ok (.dup, 1) := by decide +kernel
theorem dX8_init_109 : decode cX8_init 109 = .ok (.invokespecial 56, 3) := by decide +kernel
theorem dX8_init_112 : decode cX8_init 112 = .ok (.putfield 57, 3) := by decide +kernel
theorem dX8_init_115 : decode cX8_init 115 = .ok (.iconst 0, 1) := by decide +kernel
theorem dX8_init_116 : decode cX8_init 116 = .ok (.istore_n 1, 1) := by decide +kernel
theorem dX8_init_117 : decode cX8_init 117 = .ok (.iload_n 1, 1) := by decide +kernel
theorem dX8_init_118 : decode cX8_init 118 = .ok (.ldc 61, 2) := by decide +kernel
theorem dX8_init_120 : decode cX8_init 120 = .ok (.invokevirtual 63, 3) := by decide +kernel
theorem dX8_init_123 : decode cX8_init 123 = .ok (.if_icmp .ge 22, 3) := by decide +kernel
theorem dX8_init_126 : decode cX8_init 126 = .ok (.aload_n 0, 1) := by decide +kernel
theorem dX8_init_127 : decode cX8_init 127 = .ok (.getfield 12, 3) := by decide +kernel
theorem dX8_init_130 : decode cX8_init 130 = .ok (.ldc 61, 2) := by decide +kernel
theorem dX8_init_132 : decode cX8_init 132 = .ok (.iload_n 1, 1) := by decide +kernel
theorem dX8_init_133 : decode cX8_init 133 = .ok (.invokevirtual 69, 3) := by decide +kernel
theorem dX8_init_136 : decode cX8_init 136 = .ok (.invokevirtual 73, 3) := by decide +kernel
theorem dX8_init_139 : decode cX8_init 139 = .ok (.iinc 1 1, 3) := by decide +kernel
theorem dX8_init_142 : decode cX8_init 142 = .ok (.goto (-25), 3) := by decide +kernel
theorem dX8_init_145 : decode cX8_init 145 = .ok (.aload_n 0, 1) := by decide +kernel
theorem dX8_init_146 : decode cX8_init 146 = .ok (.invokevirtual 77, 3) := by decide +kernel
theorem dX8_init_149 : decode cX8_init 149 = .ok (.pop, 1) := by decide +kernel
theorem dX8_init_150 : decode cX8_init 150 = .ok (.aload_n 0, 1) := by decide +kernel
theorem dX8_init_151 : decode cX8_init 151 = .ok (.getfield 12, 3) := by decide +kernel
theorem dX8_init_154 : decode cX8_init 154 = .ok (.iconst 0, 1) := by decide +kernel
theorem dX8_init_155 : decode cX8_init 155 = .ok (.putfield 80, 3) := by decide +kernel
theorem dX8_init_158 : decode cX8_init 158 = .ok (.return_, 1) := by decide +kernel
theorem dX8_write_0 : decode cX8_write 0 = .ok (.iload_n 1, 1) := by decide +kernel
theorem dX8_write_1 : decode cX8_write 1 = .ok (.bipush 32, 2) := by decide +kernel
theorem dX8_write_3 : decode cX8_write 3 = .ok (.if_icmp .lt 9, 3) := by decide +kernel
theorem dX8_write_6 : decode cX8_write 6 = .ok (.iload_n 1, 1) := by decide +kernel
theorem dX8_write_7 : decode cX8_write 7 = .ok (.bipush 126, 2) := by decide +kernel
theorem dX8_write_9 : decode cX8_write 9 = .ok (.if_icmp .le 5, 3) := by decide +kernel
theorem dX8_write_12 : decode cX8_write 12 = .ok (.iconst (-1), 1) := by decide +kernel
theorem dX8_write_13 : decode cX8_write 13 = .ok (.ireturn, 1) := by decide +kernel
theorem dX8_write_14 : decode cX8_write 14 = .ok (.aload_n 0, 1) := by decide +kernel
theorem dX8_write_15 : decode cX8_write 15 = .ok (.getfield 12, 3) := by decide +kernel
theorem dX8_write_18 : decode cX8_write 18 = .ok (.getfield 80, 3) := by decide +kernel
theorem dX8_write_21 : decode cX8_write 21 = .ok (.sipush 200, 3) := by decide +kernel
theorem dX8_write_24 : decode cX8_write 24 = .ok (.if_icmp .lt 6, 3) := by decide +kernel
theorem dX8_write_27 : decode cX8_write 27 = .ok (.bipush (-3), 2) := by decide +kernel
theorem dX8_write_29 : decode cX8_write 29 = .ok (.ireturn, 1) := by decide +kernel
theorem dX8_write_30 : decode cX8_write 30 = .ok (.aload_n 0, 1) := by decide +kernel
theorem dX8_write_31 : decode cX8_write 31 = .ok (.getfield 12, 3) := by decide +kernel
theorem dX8_write_34 : decode cX8_write 34 = .ok (.iload_n 1, 1) := by decide +kernel
theorem dX8_write_35 : decode cX8_write 35 = .ok (.i2c, 1) := by decide +kernel
theorem dX8_write_36 : decode cX8_write 36 = .ok (.invokevirtual 73, 3) := by decide +kernel
theorem dX8_write_39 : decode cX8_write 39 = .ok (.aload_n 0, 1) := by decide +kernel
theorem dX8_write_40 : decode cX8_write 40 = .ok (.getfield 12, 3) := by decide +kernel
theorem dX8_write_43 : decode cX8_write 43 = .ok (.getfield 80, 3) := by decide +kernel
theorem dX8_write_46 : decode cX8_write 46 = .ok (.ireturn, 1) := by decide +kernel
theorem dX8_wipe_0 : decode cX8_wipe 0 = .ok (.aload_n 0, 1) := by decide +kernel
theorem dX8_wipe_1 : decode cX8_wipe 1 = .ok (.getfield 12, 3) := by decide +kernel
theorem dX8_wipe_4 : decode cX8_wipe 4 = .ok (.getfield 80, 3) := by decide +kernel
theorem dX8_wipe_7 : decode cX8_wipe 7 = .ok (.istore_n 1, 1) := by decide +kernel
theorem dX8_wipe_8 : decode cX8_wipe 8 = .ok (.aload_n 0, 1) := by decide +kernel
theorem dX8_wipe_9 : decode cX8_wipe 9 = .ok (.getfield 12, 3) := by decide +kernel
theorem dX8_wipe_12 : decode cX8_wipe 12 = .ok (.iconst 0, 1) := by decide +kernel
theorem dX8_wipe_13 : decode cX8_wipe 13 = .ok (.putfield 80, 3) := by decide +kernel
theorem dX8_wipe_16 : decode cX8_wipe 16 = .ok (.iload_n 1, 1) := by decide +kernel
theorem dX8_wipe_17 : decode cX8_wipe 17 = .ok (.ireturn, 1) := by decide +kernel
theorem dX8_fault_0 : decode cX8_fault 0 = .ok (.aload_n 0, 1) := by decide +kernel
theorem dX8_fault_1 : decode cX8_fault 1 = .ok (.getfield 12, 3) := by decide +kernel
theorem dX8_fault_4 : decode cX8_fault 4 = .ok (.aload_n 0, 1) := by decide +kernel
theorem dX8_fault_5 : decode cX8_fault 5 = .ok (.getfield 23, 3) := by decide +kernel
theorem dX8_fault_8 : decode cX8_fault 8 = .ok (.invokevirtual 83, 3) := by decide +kernel
theorem dX8_fault_11 : decode cX8_fault 11 = .ok (.ireturn, 1) := by decide +kernel
theorem dX8_lay_0 : decode cX8_lay 0 = .ok (.aload_n 0, 1) := by decide +kernel
theorem dX8_lay_1 : decode cX8_lay 1 = .ok (.invokevirtual 77, 3) := by decide +kernel
theorem dX8_lay_4 : decode cX8_lay 4 = .ok (.ireturn, 1) := by decide +kernel
theorem dX8_tell_0 : decode cX8_tell 0 = .ok (.iload_n 1, 1) := by decide +kernel
theorem dX8_tell_1 : decode cX8_tell 1 = .ok (.ifCond .lt 26, 3) := by decide +kernel
theorem dX8_tell_4 : decode cX8_tell 4 = .ok (.iload_n 1, 1) := by decide +kernel
theorem dX8_tell_5 : decode cX8_tell 5 = .ok (.iconst 3, 1) := by decide +kernel
theorem dX8_tell_6 : decode cX8_tell 6 = .ok (.if_icmp .ge 21, 3) := by decide +kernel
theorem dX8_tell_9 : decode cX8_tell 9 = .ok (.iload_n 2, 1) := by decide +kernel
theorem dX8_tell_10 : decode cX8_tell 10 = .ok (.getstatic 87, 3) := by decide +kernel
theorem dX8_tell_13 : decode cX8_tell 13 = .ok (.iload_n 1, 1) := by decide +kernel
theorem dX8_tell_14 : decode cX8_tell 14 = .ok (.iaload, 1) := by decide +kernel
theorem dX8_tell_15 : decode cX8_tell 15 = .ok (.if_icmp .lt 12, 3) := by decide +kernel
theorem dX8_tell_18 : decode cX8_tell 18 = .ok (.iload_n 2, 1) := by decide +kernel
theorem dX8_tell_19 : decode cX8_tell 19 = .ok (.getstatic 91, 3) := by decide +kernel
theorem dX8_tell_22 : decode cX8_tell 22 = .ok (.iload_n 1, 1) := by decide +kernel
theorem dX8_tell_23 : decode cX8_tell 23 = .ok (.iaload, 1) := by decide +kernel
theorem dX8_tell_24 : decode cX8_tell 24 = .ok (.if_icmp .le 5, 3) := by decide +kernel
theorem dX8_tell_27 : decode cX8_tell 27 = .ok (.iconst (-1), 1) := by decide +kernel
theorem dX8_tell_28 : decode cX8_tell 28 = .ok (.ireturn, 1) := by decide +kernel
theorem dX8_tell_29 : decode cX8_tell 29 = .ok (.aload_n 0, 1) := by decide +kernel
theorem dX8_tell_30 : decode cX8_tell 30 = .ok (.getfield 19, 3) := by decide +kernel
theorem dX8_tell_33 : decode cX8_tell 33 = .ok (.getfield 94, 3) := by decide +kernel
theorem dX8_tell_36 : decode cX8_tell 36 = .ok (.iload_n 1, 1) := by decide +kernel
theorem dX8_tell_37 : decode cX8_tell 37 = .ok (.iaload, 1) := by decide +kernel
theorem dX8_tell_38 : decode cX8_tell 38 = .ok (.istore_n 3, 1) := by decide +kernel
theorem dX8_tell_39 : decode cX8_tell 39 = .ok (.iload_n 3, 1) := by decide +kernel
theorem dX8_tell_40 : decode cX8_tell 40 = .ok (.iload_n 2, 1) := by decide +kernel
theorem dX8_tell_41 : decode cX8_tell 41 = .ok (.if_icmp .ne 6, 3) := by decide +kernel
theorem dX8_tell_44 : decode cX8_tell 44 = .ok (.bipush (-2), 2) := by decide +kernel
theorem dX8_tell_46 : decode cX8_tell 46 = .ok (.ireturn, 1) := by decide +kernel
theorem dX8_tell_47 : decode cX8_tell 47 = .ok (.aload_n 0, 1) := by decide +kernel
theorem dX8_tell_48 : decode cX8_tell 48 = .ok (.getfield 29, 3) := by decide +kernel
theorem dX8_tell_51 : decode cX8_tell 51 = .ok (.aload_n 0, 1) := by decide +kernel
theorem dX8_tell_52 : decode cX8_tell 52 = .ok (.getfield 19, 3) := by decide +kernel
theorem dX8_tell_55 : decode cX8_tell 55 = .ok (.invokevirtual 97, 3) := by decide +kernel
theorem dX8_tell_58 : decode cX8_tell 58 = .ok (.aload_n 0, 1) := by decide +kernel
theorem dX8_tell_59 : decode cX8_tell 59 = .ok (.getfield 19, 3) := by decide +kernel
theorem dX8_tell_62 : decode cX8_tell 62 = .ok (.getfield 94, 3) := by decide +kernel
theorem dX8_tell_65 : decode cX8_tell 65 = .ok (.iload_n 1, 1) := by decide +kernel
theorem dX8_tell_66 : decode cX8_tell 66 = .ok (.iload_n 2, 1) := by decide +kernel
theorem dX8_tell_67 : decode cX8_tell 67 = .ok (.iastore, 1) := by decide +kernel
theorem dX8_tell_68 : decode cX8_tell 68 = .ok (.aload_n 0, 1) := by decide +kernel
theorem dX8_tell_69 : decode cX8_tell 69 = .ok (.invokevirtual 101, 3) := by decide +kernel
theorem dX8_tell_72 : decode cX8_tell 72 = .ok (.iload_n 3, 1) := by decide +kernel
theorem dX8_tell_73 : decode cX8_tell 73 = .ok (.ireturn, 1) := by decide +kernel
theorem dX8_price_0 : decode cX8_price 0 = .ok (.aload_n 0, 1) := by decide +kernel
theorem dX8_price_1 : decode cX8_price 1 = .ok (.iload_n 1, 1) := by decide +kernel
theorem dX8_price_2 : decode cX8_price 2 = .ok (.invokevirtual 104, 3) := by decide +kernel
theorem dX8_price_5 : decode cX8_price 5 = .ok (.ifCond .eq 13, 3) := by decide +kernel
theorem dX8_price_8 : decode cX8_price 8 = .ok (.iload_n 2, 1) := by decide +kernel
theorem dX8_price_9 : decode cX8_price 9 = .ok (.ifCond .lt 9, 3) := by decide +kernel
theorem dX8_price_12 : decode cX8_price 12 = .ok (.iload_n 2, 1) := by decide +kernel
theorem dX8_price_13 : decode cX8_price 13 = .ok (.bipush 99, 2) := by decide +kernel
theorem dX8_price_15 : decode cX8_price 15 = .ok (.if_icmp .le 5, 3) := by decide +kernel
theorem dX8_price_18 : decode cX8_price 18 = .ok (.iconst (-1), 1) := by decide +kernel
theorem dX8_price_19 : decode cX8_price 19 = .ok (.ireturn, 1) := by decide +kernel
theorem dX8_price_20 : decode cX8_price 20 = .ok (.aload_n 0, 1) := by decide +kernel
theorem dX8_price_21 : decode cX8_price 21 = .ok (.getfield 19, 3) := by decide +kernel
theorem dX8_price_24 : decode cX8_price 24 = .ok (.getfield 108, 3) := by decide +kernel
theorem dX8_price_27 : decode cX8_price 27 = .ok (.iload_n 1, 1) := by decide +kernel
theorem dX8_price_28 : decode cX8_price 28 = .ok (.iaload, 1) := by decide +kernel
theorem dX8_price_29 : decode cX8_price 29 = .ok (.istore_n 3, 1) := by decide +kernel
theorem dX8_price_30 : decode cX8_price 30 = .ok (.iload_n 3, 1) := by decide +kernel
theorem dX8_price_31 : decode cX8_price 31 = .ok (.iload_n 2, 1) := by decide +kernel
theorem dX8_price_32 : decode cX8_price 32 = .ok (.if_icmp .ne 6, 3) := by decide +kernel
theorem dX8_price_35 : decode cX8_price 35 = .ok (.bipush (-2), 2) := by decide +kernel
theorem dX8_price_37 : decode cX8_price 37 = .ok (.ireturn, 1) := by decide +kernel
theorem dX8_price_38 : decode cX8_price 38 = .ok (.aload_n 0, 1) := by decide +kernel
theorem dX8_price_39 : decode cX8_price 39 = .ok (.getfield 29, 3) := by decide +kernel
theorem dX8_price_42 : decode cX8_price 42 = .ok (.aload_n 0, 1) := by decide +kernel
theorem dX8_price_43 : decode cX8_price 43 = .ok (.getfield 19, 3) := by decide +kernel
theorem dX8_price_46 : decode cX8_price 46 = .ok (.invokevirtual 97, 3) := by decide +kernel
theorem dX8_price_49 : decode cX8_price 49 = .ok (.aload_n 0, 1) := by decide +kernel
theorem dX8_price_50 : decode cX8_price 50 = .ok (.getfield 19, 3) := by decide +kernel
theorem dX8_price_53 : decode cX8_price 53 = .ok (.getfield 108, 3) := by decide +kernel
theorem dX8_price_56 : decode cX8_price 56 = .ok (.iload_n 1, 1) := by decide +kernel
theorem dX8_price_57 : decode cX8_price 57 = .ok (.iload_n 2, 1) := by decide +kernel
theorem dX8_price_58 : decode cX8_price 58 = .ok (.iastore, 1) := by decide +kernel
theorem dX8_price_59 : decode cX8_price 59 = .ok (.aload_n 0, 1) := by decide +kernel
theorem dX8_price_60 : decode cX8_price 60 = .ok (.invokevirtual 101, 3) := by decide +kernel
theorem dX8_price_63 : decode cX8_price 63 = .ok (.iload_n 3, 1) := by decide +kernel
theorem dX8_price_64 : decode cX8_price 64 = .ok (.ireturn, 1) := by decide +kernel
theorem dX8_folds_0 : decode cX8_folds 0 = .ok (.aload_n 0, 1) := by decide +kernel
theorem dX8_folds_1 : decode cX8_folds 1 = .ok (.iload_n 1, 1) := by decide +kernel
theorem dX8_folds_2 : decode cX8_folds 2 = .ok (.invokevirtual 104, 3) := by decide +kernel
theorem dX8_folds_5 : decode cX8_folds 5 = .ok (.ifCond .ne 5, 3) := by decide +kernel
theorem dX8_folds_8 : decode cX8_folds 8 = .ok (.iconst (-1), 1) := by decide +kernel
theorem dX8_folds_9 : decode cX8_folds 9 = .ok (.ireturn, 1) := by decide +kernel
theorem dX8_folds_10 : decode cX8_folds 10 = .ok (.aload_n 0, 1) := by decide +kernel
theorem dX8_folds_11 : decode cX8_folds 11 = .ok (.getfield 12, 3) := by decide +kernel
theorem dX8_folds_14 : decode cX8_folds 14 = .ok (.iconst 0, 1) := by decide +kernel
theorem dX8_folds_15 : decode cX8_folds 15 = .ok (.aload_n 0, 1) := by decide +kernel
theorem dX8_folds_16 : decode cX8_folds 16 = .ok (.getfield 12, 3) := by decide +kernel
theorem dX8_folds_19 : decode cX8_folds 19 = .ok (.getfield 80, 3) := by decide +kernel
theorem dX8_folds_22 : decode cX8_folds 22 = .ok (.invokevirtual 111, 3) := by decide +kernel
theorem dX8_folds_25 : decode cX8_folds 25 = .ok (.istore_n 2, 1) := by decide +kernel
theorem dX8_folds_26 : decode cX8_folds 26 = .ok (.iload_n 2, 1) := by decide +kernel
theorem dX8_folds_27 : decode cX8_folds 27 = .ok (.ifCond .lt 35, 3) := by decide +kernel
theorem dX8_folds_30 : decode cX8_folds 30 = .ok (.aload_n 0, 1) := by decide +kernel
theorem dX8_folds_31 : decode cX8_folds 31 = .ok (.getfield 12, 3) := by decide +kernel
theorem dX8_folds_34 : decode cX8_folds 34 = .ok (.getfield 80, 3) := by decide +kernel
theorem dX8_folds_37 : decode cX8_folds 37 = .ok (.aload_n 0, 1) := by decide +kernel
theorem dX8_folds_38 : decode cX8_folds 38 = .ok (.getfield 19, 3) := by decide +kernel
theorem dX8_folds_41 : decode cX8_folds 41 = .ok (.getfield 115, 3) := by decide +kernel
theorem dX8_folds_44 : decode cX8_folds 44 = .ok (.iload_n 1, 1) := by decide +kernel
theorem dX8_folds_45 : decode cX8_folds 45 = .ok (.iaload, 1) := by decide +kernel
theorem dX8_folds_46 : decode cX8_folds 46 = .ok (.if_icmp .ne 19, 3) := by decide +kernel
theorem dX8_folds_49 : decode cX8_folds 49 = .ok (.iload_n 2, 1) := by decide +kernel
theorem dX8_folds_50 : decode cX8_folds 50 = .ok (.aload_n 0, 1) := by decide +kernel
theorem dX8_folds_51 : decode cX8_folds 51 = .ok (.getfield 19, 3) := by decide +kernel
theorem dX8_folds_54 : decode cX8_folds 54 = .ok (.getfield 118, 3) := by decide +kernel
theorem dX8_folds_57 : decode cX8_folds 57 = .ok (.iload_n 1, 1) := by decide +kernel
theorem dX8_folds_58 : decode cX8_folds 58 = .ok (.iaload, 1) := by decide +kernel
theorem dX8_folds_59 : decode cX8_folds 59 = .ok (.if_icmp .ne 6, 3) := by decide +kernel
theorem dX8_folds_62 : decode cX8_folds 62 = .ok (.bipush (-2), 2) := by decide +kernel
theorem dX8_folds_64 : decode cX8_folds 64 = .ok (.ireturn, 1) := by decide +kernel
theorem dX8_folds_65 : decode cX8_folds 65 = .ok (.aload_n 0, 1) := by decide +kernel
theorem dX8_folds_66 : decode cX8_folds 66 = .ok (.getfield 29, 3) := by decide +kernel
theorem dX8_folds_69 : decode cX8_folds 69 = .ok (.aload_n 0, 1) := by decide +kernel
theorem dX8_folds_70 : decode cX8_folds 70 = .ok (.getfield 19, 3) := by decide +kernel
theorem dX8_folds_73 : decode cX8_folds 73 = .ok (.invokevirtual 97, 3) := by decide +kernel
theorem dX8_folds_76 : decode cX8_folds 76 = .ok (.aload_n 0, 1) := by decide +kernel
theorem dX8_folds_77 : decode cX8_folds 77 = .ok (.getfield 19, 3) := by decide +kernel
theorem dX8_folds_80 : decode cX8_folds 80 = .ok (.getfield 115, 3) := by decide +kernel
theorem dX8_folds_83 : decode cX8_folds 83 = .ok (.iload_n 1, 1) := by decide +kernel
theorem dX8_folds_84 : decode cX8_folds 84 = .ok (.aload_n 0, 1) := by decide +kernel
theorem dX8_folds_85 : decode cX8_folds 85 = .ok (.getfield 12, 3) := by decide +kernel
theorem dX8_folds_88 : decode cX8_folds 88 = .ok (.getfield 80, 3) := by decide +kernel
theorem dX8_folds_91 : decode cX8_folds 91 = .ok (.iastore, 1) := by decide +kernel
theorem dX8_folds_92 : decode cX8_folds 92 = .ok (.aload_n 0, 1) := by decide +kernel
theorem dX8_folds_93 : decode cX8_folds 93 = .ok (.getfield 19, 3) := by decide +kernel
theorem dX8_folds_96 : decode cX8_folds 96 = .ok (.getfield 118, 3) := by decide +kernel
theorem dX8_folds_99 : decode cX8_folds 99 = .ok (.iload_n 1, 1) := by decide +kernel
theorem dX8_folds_100 : decode cX8_folds 100 = .ok (.iload_n 2, 1) := by decide +kernel
theorem dX8_folds_101 : decode cX8_folds 101 = .ok (.iastore, 1) := by decide +kernel
theorem dX8_folds_102 : decode cX8_folds 102 = .ok (.aload_n 0, 1) := by decide +kernel
theorem dX8_folds_103 : decode cX8_folds 103 = .ok (.invokevirtual 101, 3) := by decide +kernel
theorem dX8_folds_106 : decode cX8_folds 106 = .ok (.aload_n 0, 1) := by decide +kernel
theorem dX8_folds_107 : decode cX8_folds 107 = .ok (.getfield 12, 3) := by decide +kernel
theorem dX8_folds_110 : decode cX8_folds 110 = .ok (.getfield 80, 3) := by decide +kernel
theorem dX8_folds_113 : decode cX8_folds 113 = .ok (.ireturn, 1) := by decide +kernel
theorem dX8_spoil_0 : decode cX8_spoil 0 = .ok (.aload_n 0, 1) := by decide +kernel
theorem dX8_spoil_1 : decode cX8_spoil 1 = .ok (.iload_n 1, 1) := by decide +kernel
theorem dX8_spoil_2 : decode cX8_spoil 2 = .ok (.invokevirtual 121, 3) := by decide +kernel
theorem dX8_spoil_5 : decode cX8_spoil 5 = .ok (.ifCond .eq 12, 3) := by decide +kernel
theorem dX8_spoil_8 : decode cX8_spoil 8 = .ok (.iload_n 2, 1) := by decide +kernel
theorem dX8_spoil_9 : decode cX8_spoil 9 = .ok (.ifCond .lt 8, 3) := by decide +kernel
theorem dX8_spoil_12 : decode cX8_spoil 12 = .ok (.iload_n 2, 1) := by decide +kernel
theorem dX8_spoil_13 : decode cX8_spoil 13 = .ok (.iconst 1, 1) := by decide +kernel
theorem dX8_spoil_14 : decode cX8_spoil 14 = .ok (.if_icmp .le 5, 3) := by decide +kernel
theorem dX8_spoil_17 : decode cX8_spoil 17 = .ok (.iconst (-1), 1) := by decide +kernel
theorem dX8_spoil_18 : decode cX8_spoil 18 = .ok (.ireturn, 1) := by decide +kernel
theorem dX8_spoil_19 : decode cX8_spoil 19 = .ok (.aload_n 0, 1) := by decide +kernel
theorem dX8_spoil_20 : decode cX8_spoil 20 = .ok (.getfield 19, 3) := by decide +kernel
theorem dX8_spoil_23 : decode cX8_spoil 23 = .ok (.getfield 124, 3) := by decide +kernel
theorem dX8_spoil_26 : decode cX8_spoil 26 = .ok (.iload_n 1, 1) := by decide +kernel
theorem dX8_spoil_27 : decode cX8_spoil 27 = .ok (.iaload, 1) := by decide +kernel
theorem dX8_spoil_28 : decode cX8_spoil 28 = .ok (.iload_n 2, 1) := by decide +kernel
theorem dX8_spoil_29 : decode cX8_spoil 29 = .ok (.if_icmp .ne 6, 3) := by decide +kernel
theorem dX8_spoil_32 : decode cX8_spoil 32 = .ok (.bipush (-2), 2) := by decide +kernel
theorem dX8_spoil_34 : decode cX8_spoil 34 = .ok (.ireturn, 1) := by decide +kernel
theorem dX8_spoil_35 : decode cX8_spoil 35 = .ok (.aload_n 0, 1) := by decide +kernel
theorem dX8_spoil_36 : decode cX8_spoil 36 = .ok (.getfield 29, 3) := by decide +kernel
theorem dX8_spoil_39 : decode cX8_spoil 39 = .ok (.aload_n 0, 1) := by decide +kernel
theorem dX8_spoil_40 : decode cX8_spoil 40 = .ok (.getfield 19, 3) := by decide +kernel
theorem dX8_spoil_43 : decode cX8_spoil 43 = .ok (.invokevirtual 97, 3) := by decide +kernel
theorem dX8_spoil_46 : decode cX8_spoil 46 = .ok (.aload_n 0, 1) := by decide +kernel
theorem dX8_spoil_47 : decode cX8_spoil 47 = .ok (.getfield 19, 3) := by decide +kernel
theorem dX8_spoil_50 : decode cX8_spoil 50 = .ok (.getfield 124, 3) := by decide +kernel
theorem dX8_spoil_53 : decode cX8_spoil 53 = .ok (.iload_n 1, 1) := by decide +kernel
theorem dX8_spoil_54 : decode cX8_spoil 54 = .ok (.iload_n 2, 1) := by decide +kernel
theorem dX8_spoil_55 : decode cX8_spoil 55 = .ok (.iastore, 1) := by decide +kernel
theorem dX8_spoil_56 : decode cX8_spoil 56 = .ok (.aload_n 0, 1) := by decide +kernel
theorem dX8_spoil_57 : decode cX8_spoil 57 = .ok (.getfield 19, 3) := by decide +kernel
theorem dX8_spoil_60 : decode cX8_spoil 60 = .ok (.invokevirtual 127, 3) := by decide +kernel
theorem dX8_spoil_63 : decode cX8_spoil 63 = .ok (.ireturn, 1) := by decide +kernel
theorem dX8_undo_0 : decode cX8_undo 0 = .ok (.aload_n 0, 1) := by decide +kernel
theorem dX8_undo_1 : decode cX8_undo 1 = .ok (.getfield 29, 3) := by decide +kernel
theorem dX8_undo_4 : decode cX8_undo 4 = .ok (.getfield 130, 3) := by decide +kernel
theorem dX8_undo_7 : decode cX8_undo 7 = .ok (.ifCond .ne 6, 3) := by decide +kernel
theorem dX8_undo_10 : decode cX8_undo 10 = .ok (.bipush (-2), 2) := by decide +kernel
theorem dX8_undo_12 : decode cX8_undo 12 = .ok (.ireturn, 1) := by decide +kernel
theorem dX8_undo_13 : decode cX8_undo 13 = .ok (.aload_n 0, 1) := by decide +kernel
theorem dX8_undo_14 : decode cX8_undo 14 = .ok (.getfield 29, 3) := by decide +kernel
theorem dX8_undo_17 : decode cX8_undo 17 = .ok (.aload_n 0, 1) := by decide +kernel
theorem dX8_undo_18 : decode cX8_undo 18 = .ok (.getfield 19, 3) := by decide +kernel
theorem dX8_undo_21 : decode cX8_undo 21 = .ok (.invokevirtual 133, 3) := by decide +kernel
theorem dX8_undo_24 : decode cX8_undo 24 = .ok (.aload_n 0, 1) := by decide +kernel
theorem dX8_undo_25 : decode cX8_undo 25 = .ok (.invokevirtual 136, 3) := by decide +kernel
theorem dX8_undo_28 : decode cX8_undo 28 = .ok (.aload_n 0, 1) := by decide +kernel
theorem dX8_undo_29 : decode cX8_undo 29 = .ok (.getfield 29, 3) := by decide +kernel
theorem dX8_undo_32 : decode cX8_undo 32 = .ok (.getfield 130, 3) := by decide +kernel
theorem dX8_undo_35 : decode cX8_undo 35 = .ok (.ireturn, 1) := by decide +kernel
theorem dX8_scheme_0 : decode cX8_scheme 0 = .ok (.aload_n 0, 1) := by decide +kernel
theorem dX8_scheme_1 : decode cX8_scheme 1 = .ok (.iload_n 1, 1) := by decide +kernel
theorem dX8_scheme_2 : decode cX8_scheme 2 = .ok (.invokevirtual 104, 3) := by decide +kernel
theorem dX8_scheme_5 : decode cX8_scheme 5 = .ok (.ifCond .ne 5, 3) := by decide +kernel
theorem dX8_scheme_8 : decode cX8_scheme 8 = .ok (.iconst (-1), 1) := by decide +kernel
theorem dX8_scheme_9 : decode cX8_scheme 9 = .ok (.ireturn, 1) := by decide +kernel
theorem dX8_scheme_10 : decode cX8_scheme 10 = .ok (.iload_n 2, 1) := by decide +kernel
theorem dX8_scheme_11 : decode cX8_scheme 11 = .ok (.tableswitch 96 0 5 #[37, 47, 57, 67, 76, 86], 37) := by decide +kernel
theorem dX8_scheme_48 : decode cX8_scheme 48 = .ok (.aload_n 0, 1) := by decide +kernel
theorem dX8_scheme_49 : decode cX8_scheme 49 = .ok (.getfield 19, 3) := by decide +kernel
theorem dX8_scheme_52 : decode cX8_scheme 52 = .ok (.getfield 115, 3) := by decide +kernel
theorem dX8_scheme_55 : decode cX8_scheme 55 = .ok (.iload_n 1, 1) := by decide +kernel
theorem dX8_scheme_56 : decode cX8_scheme 56 = .ok (.iaload, 1) := by decide +kernel
theorem dX8_scheme_57 : decode cX8_scheme 57 = .ok (.ireturn, 1) := by decide +kernel
theorem dX8_scheme_58 : decode cX8_scheme 58 = .ok (.aload_n 0, 1) := by decide +kernel
theorem dX8_scheme_59 : decode cX8_scheme 59 = .ok (.getfield 35, 3) := by decide +kernel
theorem dX8_scheme_62 : decode cX8_scheme 62 = .ok (.iload_n 1, 1) := by decide +kernel
theorem dX8_scheme_63 : decode cX8_scheme 63 = .ok (.aaload, 1) := by decide +kernel
theorem dX8_scheme_64 : decode cX8_scheme 64 = .ok (.getfield 139, 3) := by decide +kernel
theorem dX8_scheme_67 : decode cX8_scheme 67 = .ok (.ireturn, 1) := by decide +kernel
theorem dX8_scheme_68 : decode cX8_scheme 68 = .ok (.aload_n 0, 1) := by decide +kernel
theorem dX8_scheme_69 : decode cX8_scheme 69 = .ok (.getfield 35, 3) := by decide +kernel
theorem dX8_scheme_72 : decode cX8_scheme 72 = .ok (.iload_n 1, 1) := by decide +kernel
theorem dX8_scheme_73 : decode cX8_scheme 73 = .ok (.aaload, 1) := by decide +kernel
theorem dX8_scheme_74 : decode cX8_scheme 74 = .ok (.getfield 142, 3) := by decide +kernel
theorem dX8_scheme_77 : decode cX8_scheme 77 = .ok (.ireturn, 1) := by decide +kernel
theorem dX8_scheme_78 : decode cX8_scheme 78 = .ok (.aload_n 0, 1) := by decide +kernel
theorem dX8_scheme_79 : decode cX8_scheme 79 = .ok (.getfield 19, 3) := by decide +kernel
theorem dX8_scheme_82 : decode cX8_scheme 82 = .ok (.iload_n 1, 1) := by decide +kernel
theorem dX8_scheme_83 : decode cX8_scheme 83 = .ok (.invokevirtual 145, 3) := by decide +kernel
theorem dX8_scheme_86 : decode cX8_scheme 86 = .ok (.ireturn, 1) := by decide +kernel
theorem dX8_scheme_87 : decode cX8_scheme 87 = .ok (.aload_n 0, 1) := by decide +kernel
theorem dX8_scheme_88 : decode cX8_scheme 88 = .ok (.getfield 19, 3) := by decide +kernel
theorem dX8_scheme_91 : decode cX8_scheme 91 = .ok (.getfield 108, 3) := by decide +kernel
theorem dX8_scheme_94 : decode cX8_scheme 94 = .ok (.iload_n 1, 1) := by decide +kernel
theorem dX8_scheme_95 : decode cX8_scheme 95 = .ok (.iaload, 1) := by decide +kernel
theorem dX8_scheme_96 : decode cX8_scheme 96 = .ok (.ireturn, 1) := by decide +kernel
theorem dX8_scheme_97 : decode cX8_scheme 97 = .ok (.aload_n 0, 1) := by decide +kernel
theorem dX8_scheme_98 : decode cX8_scheme 98 = .ok (.getfield 50, 3) := by decide +kernel
theorem dX8_scheme_101 : decode cX8_scheme 101 = .ok (.getfield 149, 3) := by decide +kernel
theorem dX8_scheme_104 : decode cX8_scheme 104 = .ok (.iload_n 1, 1) := by decide +kernel
theorem dX8_scheme_105 : decode cX8_scheme 105 = .ok (.iaload, 1) := by decide +kernel
theorem dX8_scheme_106 : decode cX8_scheme 106 = .ok (.ireturn, 1) := by decide +kernel
theorem dX8_scheme_107 : decode cX8_scheme 107 = .ok (.iconst (-1), 1) := by decide +kernel
theorem dX8_scheme_108 : decode cX8_scheme 108 = .ok (.ireturn, 1) := by decide +kernel
theorem dX8_fold_0 : decode cX8_fold 0 = .ok (.aload_n 0, 1) := by decide +kernel
theorem dX8_fold_1 : decode cX8_fold 1 = .ok (.iload_n 1, 1) := by decide +kernel
theorem dX8_fold_2 : decode cX8_fold 2 = .ok (.invokevirtual 104, 3) := by decide +kernel
theorem dX8_fold_5 : decode cX8_fold 5 = .ok (.ifCond .eq 12, 3) := by decide +kernel
theorem dX8_fold_8 : decode cX8_fold 8 = .ok (.iload_n 2, 1) := by decide +kernel
theorem dX8_fold_9 : decode cX8_fold 9 = .ok (.ifCond .lt 8, 3) := by decide +kernel
theorem dX8_fold_12 : decode cX8_fold 12 = .ok (.iload_n 2, 1) := by decide +kernel
theorem dX8_fold_13 : decode cX8_fold 13 = .ok (.iconst 4, 1) := by decide +kernel
theorem dX8_fold_14 : decode cX8_fold 14 = .ok (.if_icmp .lt 5, 3) := by decide +kernel
theorem dX8_fold_17 : decode cX8_fold 17 = .ok (.iconst (-1), 1) := by decide +kernel
theorem dX8_fold_18 : decode cX8_fold 18 = .ok (.ireturn, 1) := by decide +kernel
theorem dX8_fold_19 : decode cX8_fold 19 = .ok (.iload_n 2, 1) := by decide +kernel
theorem dX8_fold_20 : decode cX8_fold 20 = .ok (.aload_n 0, 1) := by decide +kernel
theorem dX8_fold_21 : decode cX8_fold 21 = .ok (.getfield 19, 3) := by decide +kernel
theorem dX8_fold_24 : decode cX8_fold 24 = .ok (.getfield 115, 3) := by decide +kernel
theorem dX8_fold_27 : decode cX8_fold 27 = .ok (.iload_n 1, 1) := by decide +kernel
theorem dX8_fold_28 : decode cX8_fold 28 = .ok (.iaload, 1) := by decide +kernel
theorem dX8_fold_29 : decode cX8_fold 29 = .ok (.if_icmp .lt 6, 3) := by decide +kernel
theorem dX8_fold_32 : decode cX8_fold 32 = .ok (.bipush (-4), 2) := by decide +kernel
theorem dX8_fold_34 : decode cX8_fold 34 = .ok (.ireturn, 1) := by decide +kernel
theorem dX8_fold_35 : decode cX8_fold 35 = .ok (.ldc 152, 2) := by decide +kernel
theorem dX8_fold_37 : decode cX8_fold 37 = .ok (.aload_n 0, 1) := by decide +kernel
theorem dX8_fold_38 : decode cX8_fold 38 = .ok (.getfield 19, 3) := by decide +kernel
theorem dX8_fold_41 : decode cX8_fold 41 = .ok (.getfield 115, 3) := by decide +kernel
theorem dX8_fold_44 : decode cX8_fold 44 = .ok (.iload_n 1, 1) := by decide +kernel
theorem dX8_fold_45 : decode cX8_fold 45 = .ok (.iaload, 1) := by decide +kernel
theorem dX8_fold_46 : decode cX8_fold 46 = .ok (.aload_n 0, 1) := by decide +kernel
theorem dX8_fold_47 : decode cX8_fold 47 = .ok (.getfield 19, 3) := by decide +kernel
theorem dX8_fold_50 : decode cX8_fold 50 = .ok (.getfield 118, 3) := by decide +kernel
theorem dX8_fold_53 : decode cX8_fold 53 = .ok (.iload_n 1, 1) := by decide +kernel
theorem dX8_fold_54 : decode cX8_fold 54 = .ok (.iaload, 1) := by decide +kernel
theorem dX8_fold_55 : decode cX8_fold 55 = .ok (.iload_n 2, 1) := by decide +kernel
theorem dX8_fold_56 : decode cX8_fold 56 = .ok (.invokestatic 154, 3) := by decide +kernel
theorem dX8_fold_59 : decode cX8_fold 59 = .ok (.invokevirtual 69, 3) := by decide +kernel
theorem dX8_fold_62 : decode cX8_fold 62 = .ok (.ireturn, 1) := by decide +kernel
theorem dX8_page_0 : decode cX8_page 0 = .ok (.aload_n 0, 1) := by decide +kernel
theorem dX8_page_1 : decode cX8_page 1 = .ok (.iload_n 1, 1) := by decide +kernel
theorem dX8_page_2 : decode cX8_page 2 = .ok (.invokevirtual 104, 3) := by decide +kernel
theorem dX8_page_5 : decode cX8_page 5 = .ok (.ifCond .eq 25, 3) := by decide +kernel
theorem dX8_page_8 : decode cX8_page 8 = .ok (.iload_n 2, 1) := by decide +kernel
theorem dX8_page_9 : decode cX8_page 9 = .ok (.invokestatic 158, 3) := by decide +kernel
theorem dX8_page_12 : decode cX8_page 12 = .ok (.ifCond .eq 18, 3) := by decide +kernel
theorem dX8_page_15 : decode cX8_page 15 = .ok (.aload_n 0, 1) := by decide +kernel
theorem dX8_page_16 : decode cX8_page 16 = .ok (.getfield 35, 3) := by decide +kernel
theorem dX8_page_19 : decode cX8_page 19 = .ok (.iload_n 1, 1) := by decide +kernel
theorem dX8_page_20 : decode cX8_page 20 = .ok (.aaload, 1) := by decide +kernel
theorem dX8_page_21 : decode cX8_page 21 = .ok (.iload_n 3, 1) := by decide +kernel
theorem dX8_page_22 : decode cX8_page 22 = .ok (.iload 4, 2) := by decide +kernel
theorem dX8_page_24 : decode cX8_page 24 = .ok (.invokevirtual 161, 3) := by decide +kernel
theorem dX8_page_27 : decode cX8_page 27 = .ok (.ifCond .ne 5, 3) := by decide +kernel
theorem dX8_page_30 : decode cX8_page 30 = .ok (.iconst (-1), 1) := by decide +kernel
theorem dX8_page_31 : decode cX8_page 31 = .ok (.ireturn, 1) := by decide +kernel
theorem dX8_page_32 : decode cX8_page 32 = .ok (.aload_n 0, 1) := by decide +kernel
theorem dX8_page_33 : decode cX8_page 33 = .ok (.getfield 35, 3) := by decide +kernel
theorem dX8_page_36 : decode cX8_page 36 = .ok (.iload_n 1, 1) := by decide +kernel
theorem dX8_page_37 : decode cX8_page 37 = .ok (.aaload, 1) := by decide +kernel
theorem dX8_page_38 : decode cX8_page 38 = .ok (.iload_n 2, 1) := by decide +kernel
theorem dX8_page_39 : decode cX8_page 39 = .ok (.iload_n 3, 1) := by decide +kernel
theorem dX8_page_40 : decode cX8_page 40 = .ok (.iload 4, 2) := by decide +kernel
theorem dX8_page_42 : decode cX8_page 42 = .ok (.invokevirtual 165, 3) := by decide +kernel
theorem dX8_page_45 : decode cX8_page 45 = .ok (.ireturn, 1) := by decide +kernel
theorem dX8_where_0 : decode cX8_where 0 = .ok (.aload_n 0, 1) := by decide +kernel
theorem dX8_where_1 : decode cX8_where 1 = .ok (.iload_n 1, 1) := by decide +kernel
theorem dX8_where_2 : decode cX8_where 2 = .ok (.invokevirtual 104, 3) := by decide +kernel
theorem dX8_where_5 : decode cX8_where 5 = .ok (.ifCond .eq 20, 3) := by decide +kernel
theorem dX8_where_8 : decode cX8_where 8 = .ok (.iload_n 2, 1) := by decide +kernel
theorem dX8_where_9 : decode cX8_where 9 = .ok (.iconst 1, 1) := by decide +kernel
theorem dX8_where_10 : decode cX8_where 10 = .ok (.if_icmp .lt 15, 3) := by decide +kernel
theorem dX8_where_13 : decode cX8_where 13 = .ok (.iload_n 2, 1) := by decide +kernel
theorem dX8_where_14 : decode cX8_where 14 = .ok (.aload_n 0, 1) := by decide +kernel
theorem dX8_where_15 : decode cX8_where 15 = .ok (.getfield 19, 3) := by decide +kernel
theorem dX8_where_18 : decode cX8_where 18 = .ok (.iload_n 1, 1) := by decide +kernel
theorem dX8_where_19 : decode cX8_where 19 = .ok (.invokevirtual 145, 3) := by decide +kernel
theorem dX8_where_22 : decode cX8_where 22 = .ok (.if_icmp .le 5, 3) := by decide +kernel
theorem dX8_where_25 : decode cX8_where 25 = .ok (.iconst (-1), 1) := by decide +kernel
theorem dX8_where_26 : decode cX8_where 26 = .ok (.ireturn, 1) := by decide +kernel
theorem dX8_where_27 : decode cX8_where 27 = .ok (.aload_n 0, 1) := by decide +kernel
theorem dX8_where_28 : decode cX8_where 28 = .ok (.getfield 35, 3) := by decide +kernel
theorem dX8_where_31 : decode cX8_where 31 = .ok (.iload_n 1, 1) := by decide +kernel
theorem dX8_where_32 : decode cX8_where 32 = .ok (.aaload, 1) := by decide +kernel
theorem dX8_where_33 : decode cX8_where 33 = .ok (.astore 4, 2) := by decide +kernel
theorem dX8_where_35 : decode cX8_where 35 = .ok (.iload_n 3, 1) := by decide +kernel
theorem dX8_where_36 : decode cX8_where 36 = .ok (.tableswitch 80 0 5 #[40, 47, 54, 61, 68, 73], 40) := by decide +kernel
theorem dX8_where_76 : decode cX8_where 76 = .ok (.aload 4, 2) := by decide +kernel
theorem dX8_where_78 : decode cX8_where 78 = .ok (.iload_n 2, 1) := by decide +kernel
theorem dX8_where_79 : decode cX8_where 79 = .ok (.invokevirtual 168, 3) := by decide +kernel
theorem dX8_where_82 : decode cX8_where 82 = .ok (.ireturn, 1) := by decide +kernel
theorem dX8_where_83 : decode cX8_where 83 = .ok (.aload 4, 2) := by decide +kernel
theorem dX8_where_85 : decode cX8_where 85 = .ok (.iload_n 2, 1) := by decide +kernel
theorem dX8_where_86 : decode cX8_where 86 = .ok (.invokevirtual 171, 3) := by decide +kernel
theorem dX8_where_89 : decode cX8_where 89 = .ok (.ireturn, 1) := by decide +kernel
theorem dX8_where_90 : decode cX8_where 90 = .ok (.aload 4, 2) := by decide +kernel
theorem dX8_where_92 : decode cX8_where 92 = .ok (.iload_n 2, 1) := by decide +kernel
theorem dX8_where_93 : decode cX8_where 93 = .ok (.invokevirtual 174, 3) := by decide +kernel
theorem dX8_where_96 : decode cX8_where 96 = .ok (.ireturn, 1) := by decide +kernel
theorem dX8_where_97 : decode cX8_where 97 = .ok (.aload 4, 2) := by decide +kernel
theorem dX8_where_99 : decode cX8_where 99 = .ok (.iload_n 2, 1) := by decide +kernel
theorem dX8_where_100 : decode cX8_where 100 = .ok (.invokevirtual 177, 3) := by decide +kernel
theorem dX8_where_103 : decode cX8_where 103 = .ok (.ireturn, 1) := by decide +kernel
theorem dX8_where_104 : decode cX8_where 104 = .ok (.iload_n 2, 1) := by decide +kernel
theorem dX8_where_105 : decode cX8_where 105 = .ok (.invokestatic 180, 3) := by decide +kernel
theorem dX8_where_108 : decode cX8_where 108 = .ok (.ireturn, 1) := by decide +kernel
theorem dX8_where_109 : decode cX8_where 109 = .ok (.aload 4, 2) := by decide +kernel
theorem dX8_where_111 : decode cX8_where 111 = .ok (.iload_n 2, 1) := by decide +kernel
theorem dX8_where_112 : decode cX8_where 112 = .ok (.invokevirtual 183, 3) := by decide +kernel
theorem dX8_where_115 : decode cX8_where 115 = .ok (.ireturn, 1) := by decide +kernel
theorem dX8_where_116 : decode cX8_where 116 = .ok (.iconst (-1), 1) := by decide +kernel
theorem dX8_where_117 : decode cX8_where 117 = .ok (.ireturn, 1) := by decide +kernel
theorem dX8_turned_0 : decode cX8_turned 0 = .ok (.aload_n 0, 1) := by decide +kernel
theorem dX8_turned_1 : decode cX8_turned 1 = .ok (.iload_n 1, 1) := by decide +kernel
theorem dX8_turned_2 : decode cX8_turned 2 = .ok (.invokevirtual 104, 3) := by decide +kernel
theorem dX8_turned_5 : decode cX8_turned 5 = .ok (.ifCond .eq 10, 3) := by decide +kernel
theorem dX8_turned_8 : decode cX8_turned 8 = .ok (.iload_n 2, 1) := by decide +kernel
theorem dX8_turned_9 : decode cX8_turned 9 = .ok (.invokestatic 158, 3) := by decide +kernel
theorem dX8_turned_12 : decode cX8_turned 12 = .ok (.ifCond .ne 5, 3) := by decide +kernel
theorem dX8_turned_15 : decode cX8_turned 15 = .ok (.iconst (-1), 1) := by decide +kernel
theorem dX8_turned_16 : decode cX8_turned 16 = .ok (.ireturn, 1) := by decide +kernel
theorem dX8_turned_17 : decode cX8_turned 17 = .ok (.aload_n 0, 1) := by decide +kernel
theorem dX8_turned_18 : decode cX8_turned 18 = .ok (.getfield 35, 3) := by decide +kernel
theorem dX8_turned_21 : decode cX8_turned 21 = .ok (.iload_n 1, 1) := by decide +kernel
theorem dX8_turned_22 : decode cX8_turned 22 = .ok (.aaload, 1) := by decide +kernel
theorem dX8_turned_23 : decode cX8_turned 23 = .ok (.invokevirtual 186, 3) := by decide +kernel
theorem dX8_turned_26 : decode cX8_turned 26 = .ok (.ireturn, 1) := by decide +kernel
theorem dX8_find_0 : decode cX8_find 0 = .ok (.iload_n 1, 1) := by decide +kernel
theorem dX8_find_1 : decode cX8_find 1 = .ok (.invokestatic 189, 3) := by decide +kernel
theorem dX8_find_4 : decode cX8_find 4 = .ok (.ifCond .eq 22, 3) := by decide +kernel
theorem dX8_find_7 : decode cX8_find 7 = .ok (.iload_n 2, 1) := by decide +kernel
theorem dX8_find_8 : decode cX8_find 8 = .ok (.iconst 1, 1) := by decide +kernel
theorem dX8_find_9 : decode cX8_find 9 = .ok (.if_icmp .lt 17, 3) := by decide +kernel
theorem dX8_find_12 : decode cX8_find 12 = .ok (.iload_n 2, 1) := by decide +kernel
theorem dX8_find_13 : decode cX8_find 13 = .ok (.iconst 2, 1) := by decide +kernel
theorem dX8_find_14 : decode cX8_find 14 = .ok (.iload_n 1, 1) := by decide +kernel
theorem dX8_find_15 : decode cX8_find 15 = .ok (.ishl, 1) := by decide +kernel
theorem dX8_find_16 : decode cX8_find 16 = .ok (.if_icmp .gt 10, 3) := by decide +kernel
theorem dX8_find_19 : decode cX8_find 19 = .ok (.iload_n 3, 1) := by decide +kernel
theorem dX8_find_20 : decode cX8_find 20 = .ok (.invokestatic 158, 3) := by decide +kernel
theorem dX8_find_23 : decode cX8_find 23 = .ok (.ifCond .ne 5, 3) := by decide +kernel
theorem dX8_find_26 : decode cX8_find 26 = .ok (.iconst (-1), 1) := by decide +kernel
theorem dX8_find_27 : decode cX8_find 27 = .ok (.ireturn, 1) := by decide +kernel
theorem dX8_find_28 : decode cX8_find 28 = .ok (.iload 4, 2) := by decide +kernel
theorem dX8_find_30 : decode cX8_find 30 = .ok (.ifCond .lt 22, 3) := by decide +kernel
theorem dX8_find_33 : decode cX8_find 33 = .ok (.iload 4, 2) := by decide +kernel
theorem dX8_find_35 : decode cX8_find 35 = .ok (.bipush 15, 2) := by decide +kernel
theorem dX8_find_37 : decode cX8_find 37 = .ok (.if_icmp .gt 15, 3) := by decide +kernel
theorem dX8_find_40 : decode cX8_find 40 = .ok (.iload 5, 2) := by decide +kernel
theorem dX8_find_42 : decode cX8_find 42 = .ok (.ifCond .lt 10, 3) := by decide +kernel
theorem dX8_find_45 : decode cX8_find 45 = .ok (.iload 5, 2) := by decide +kernel
theorem dX8_find_47 : decode cX8_find 47 = .ok (.bipush 15, 2) := by decide +kernel
theorem dX8_find_49 : decode cX8_find 49 = .ok (.if_icmp .le 5, 3) := by decide +kernel
theorem dX8_find_52 : decode cX8_find 52 = .ok (.iconst (-1), 1) := by decide +kernel
theorem dX8_find_53 : decode cX8_find 53 = .ok (.ireturn, 1) := by decide +kernel
theorem dX8_find_54 : decode cX8_find 54 = .ok (.aload_n 0, 1) := by decide +kernel
theorem dX8_find_55 : decode cX8_find 55 = .ok (.getfield 43, 3) := by decide +kernel
theorem dX8_find_58 : decode cX8_find 58 = .ok (.iload_n 1, 1) := by decide +kernel
theorem dX8_find_59 : decode cX8_find 59 = .ok (.iload_n 2, 1) := by decide +kernel
theorem dX8_find_60 : decode cX8_find 60 = .ok (.iload_n 3, 1) := by decide +kernel
theorem dX8_find_61 : decode cX8_find 61 = .ok (.iload 4, 2) := by decide +kernel
theorem dX8_find_63 : decode cX8_find 63 = .ok (.iload 5, 2) := by decide +kernel
theorem dX8_find_65 : decode cX8_find 65 = .ok (.invokevirtual 192, 3) := by decide +kernel
theorem dX8_find_68 : decode cX8_find 68 = .ok (.ireturn, 1) := by decide +kernel
theorem dX8_alike_0 : decode cX8_alike 0 = .ok (.aload_n 0, 1) := by decide +kernel
theorem dX8_alike_1 : decode cX8_alike 1 = .ok (.iload_n 1, 1) := by decide +kernel
theorem dX8_alike_2 : decode cX8_alike 2 = .ok (.invokevirtual 104, 3) := by decide +kernel
theorem dX8_alike_5 : decode cX8_alike 5 = .ok (.ifCond .ne 5, 3) := by decide +kernel
theorem dX8_alike_8 : decode cX8_alike 8 = .ok (.iconst (-1), 1) := by decide +kernel
theorem dX8_alike_9 : decode cX8_alike 9 = .ok (.ireturn, 1) := by decide +kernel
theorem dX8_alike_10 : decode cX8_alike 10 = .ok (.aload_n 0, 1) := by decide +kernel
theorem dX8_alike_11 : decode cX8_alike 11 = .ok (.getfield 43, 3) := by decide +kernel
theorem dX8_alike_14 : decode cX8_alike 14 = .ok (.aload_n 0, 1) := by decide +kernel
theorem dX8_alike_15 : decode cX8_alike 15 = .ok (.getfield 35, 3) := by decide +kernel
theorem dX8_alike_18 : decode cX8_alike 18 = .ok (.iload_n 1, 1) := by decide +kernel
theorem dX8_alike_19 : decode cX8_alike 19 = .ok (.aaload, 1) := by decide +kernel
theorem dX8_alike_20 : decode cX8_alike 20 = .ok (.aload_n 0, 1) := by decide +kernel
theorem dX8_alike_21 : decode cX8_alike 21 = .ok (.getfield 19, 3) := by decide +kernel
theorem dX8_alike_24 : decode cX8_alike 24 = .ok (.getfield 115, 3) := by decide +kernel
theorem dX8_alike_27 : decode cX8_alike 27 = .ok (.iload_n 1, 1) := by decide +kernel
theorem dX8_alike_28 : decode cX8_alike 28 = .ok (.iaload, 1) := by decide +kernel
theorem dX8_alike_29 : decode cX8_alike 29 = .ok (.invokevirtual 196, 3) := by decide +kernel
theorem dX8_alike_32 : decode cX8_alike 32 = .ok (.ireturn, 1) := by decide +kernel
theorem dX8_unlike_0 : decode cX8_unlike 0 = .ok (.iload_n 1, 1) := by decide +kernel
theorem dX8_unlike_1 : decode cX8_unlike 1 = .ok (.invokestatic 189, 3) := by decide +kernel
theorem dX8_unlike_4 : decode cX8_unlike 4 = .ok (.ifCond .ne 5, 3) := by decide +kernel
theorem dX8_unlike_7 : decode cX8_unlike 7 = .ok (.iconst (-1), 1) := by decide +kernel
theorem dX8_unlike_8 : decode cX8_unlike 8 = .ok (.ireturn, 1) := by decide +kernel
theorem dX8_unlike_9 : decode cX8_unlike 9 = .ok (.aload_n 0, 1) := by decide +kernel
theorem dX8_unlike_10 : decode cX8_unlike 10 = .ok (.getfield 43, 3) := by decide +kernel
theorem dX8_unlike_13 : decode cX8_unlike 13 = .ok (.iload_n 1, 1) := by decide +kernel
theorem dX8_unlike_14 : decode cX8_unlike 14 = .ok (.invokevirtual 200, 3) := by decide +kernel
theorem dX8_unlike_17 : decode cX8_unlike 17 = .ok (.ireturn, 1) := by decide +kernel
theorem dX8_plan_0 : decode cX8_plan 0 = .ok (.iload_n 1, 1) := by decide +kernel
theorem dX8_plan_1 : decode cX8_plan 1 = .ok (.tableswitch 73 0 3 #[31, 39, 57, 65], 31) := by decide +kernel
theorem dX8_plan_32 : decode cX8_plan 32 = .ok (.aload_n 0, 1) := by decide +kernel
theorem dX8_plan_33 : decode cX8_plan 33 = .ok (.getfield 57, 3) := by decide +kernel
theorem dX8_plan_36 : decode cX8_plan 36 = .ok (.getfield 203, 3) := by decide +kernel
theorem dX8_plan_39 : decode cX8_plan 39 = .ok (.ireturn, 1) := by decide +kernel
theorem dX8_plan_40 : decode cX8_plan 40 = .ok (.aload_n 0, 1) := by decide +kernel
theorem dX8_plan_41 : decode cX8_plan 41 = .ok (.getfield 57, 3) := by decide +kernel
theorem dX8_plan_44 : decode cX8_plan 44 = .ok (.getfield 206, 3) := by decide +kernel
theorem dX8_plan_47 : decode cX8_plan 47 = .ok (.aload_n 0, 1) := by decide +kernel
theorem dX8_plan_48 : decode cX8_plan 48 = .ok (.getfield 19, 3) := by decide +kernel
theorem dX8_plan_51 : decode cX8_plan 51 = .ok (.getfield 94, 3) := by decide +kernel
theorem dX8_plan_54 : decode cX8_plan 54 = .ok (.iconst 0, 1) := by decide +kernel
theorem dX8_plan_55 : decode cX8_plan 55 = .ok (.iaload, 1) := by decide +kernel
theorem dX8_plan_56 : decode cX8_plan 56 = .ok (.isub, 1) := by decide +kernel
theorem dX8_plan_57 : decode cX8_plan 57 = .ok (.ireturn, 1) := by decide +kernel
theorem dX8_plan_58 : decode cX8_plan 58 = .ok (.aload_n 0, 1) := by decide +kernel
theorem dX8_plan_59 : decode cX8_plan 59 = .ok (.getfield 50, 3) := by decide +kernel
theorem dX8_plan_62 : decode cX8_plan 62 = .ok (.getfield 209, 3) := by decide +kernel
theorem dX8_plan_65 : decode cX8_plan 65 = .ok (.ireturn, 1) := by decide +kernel
theorem dX8_plan_66 : decode cX8_plan 66 = .ok (.aload_n 0, 1) := by decide +kernel
theorem dX8_plan_67 : decode cX8_plan 67 = .ok (.getfield 57, 3) := by decide +kernel
theorem dX8_plan_70 : decode cX8_plan 70 = .ok (.getfield 206, 3) := by decide +kernel
theorem dX8_plan_73 : decode cX8_plan 73 = .ok (.ireturn, 1) := by decide +kernel
theorem dX8_plan_74 : decode cX8_plan 74 = .ok (.iconst (-1), 1) := by decide +kernel
theorem dX8_plan_75 : decode cX8_plan 75 = .ok (.ireturn, 1) := by decide +kernel
theorem dX8_blanks_0 : decode cX8_blanks 0 = .ok (.iload_n 1, 1) := by decide +kernel
theorem dX8_blanks_1 : decode cX8_blanks 1 = .ok (.getstatic 87, 3) := by decide +kernel
theorem dX8_blanks_4 : decode cX8_blanks 4 = .ok (.iconst 0, 1) := by decide +kernel
theorem dX8_blanks_5 : decode cX8_blanks 5 = .ok (.iaload, 1) := by decide +kernel
theorem dX8_blanks_6 : decode cX8_blanks 6 = .ok (.if_icmp .lt 12, 3) := by decide +kernel
theorem dX8_blanks_9 : decode cX8_blanks 9 = .ok (.iload_n 1, 1) := by decide +kernel
theorem dX8_blanks_10 : decode cX8_blanks 10 = .ok (.getstatic 91, 3) := by decide +kernel
theorem dX8_blanks_13 : decode cX8_blanks 13 = .ok (.iconst 0, 1) := by decide +kernel
theorem dX8_blanks_14 : decode cX8_blanks 14 = .ok (.iaload, 1) := by decide +kernel
theorem dX8_blanks_15 : decode cX8_blanks 15 = .ok (.if_icmp .le 5, 3) := by decide +kernel
theorem dX8_blanks_18 : decode cX8_blanks 18 = .ok (.iconst (-1), 1) := by decide +kernel
theorem dX8_blanks_19 : decode cX8_blanks 19 = .ok (.ireturn, 1) := by decide +kernel
theorem dX8_blanks_20 : decode cX8_blanks 20 = .ok (.aload_n 0, 1) := by decide +kernel
theorem dX8_blanks_21 : decode cX8_blanks 21 = .ok (.getfield 50, 3) := by decide +kernel
theorem dX8_blanks_24 : decode cX8_blanks 24 = .ok (.iload_n 1, 1) := by decide +kernel
theorem dX8_blanks_25 : decode cX8_blanks 25 = .ok (.invokevirtual 212, 3) := by decide +kernel
theorem dX8_blanks_28 : decode cX8_blanks 28 = .ok (.iconst 4, 1) := by decide +kernel
theorem dX8_blanks_29 : decode cX8_blanks 29 = .ok (.imul, 1) := by decide +kernel
theorem dX8_blanks_30 : decode cX8_blanks 30 = .ok (.iload_n 1, 1) := by decide +kernel
theorem dX8_blanks_31 : decode cX8_blanks 31 = .ok (.isub, 1) := by decide +kernel
theorem dX8_blanks_32 : decode cX8_blanks 32 = .ok (.ireturn, 1) := by decide +kernel
theorem dX8_book_0 : decode cX8_book 0 = .ok (.iload_n 1, 1) := by decide +kernel
theorem dX8_book_1 : decode cX8_book 1 = .ok (.iconst 1, 1) := by decide +kernel
theorem dX8_book_2 : decode cX8_book 2 = .ok (.if_icmp .lt 14, 3) := by decide +kernel
theorem dX8_book_5 : decode cX8_book 5 = .ok (.iload_n 1, 1) := by decide +kernel
theorem dX8_book_6 : decode cX8_book 6 = .ok (.aload_n 0, 1) := by decide +kernel
theorem dX8_book_7 : decode cX8_book 7 = .ok (.getfield 57, 3) := by decide +kernel
theorem dX8_book_10 : decode cX8_book 10 = .ok (.getfield 206, 3) := by decide +kernel
theorem dX8_book_13 : decode cX8_book 13 = .ok (.if_icmp .le 5, 3) := by decide +kernel
theorem dX8_book_16 : decode cX8_book 16 = .ok (.iconst (-1), 1) := by decide +kernel
theorem dX8_book_17 : decode cX8_book 17 = .ok (.ireturn, 1) := by decide +kernel
theorem dX8_book_18 : decode cX8_book 18 = .ok (.aload_n 0, 1) := by decide +kernel
theorem dX8_book_19 : decode cX8_book 19 = .ok (.getfield 57, 3) := by decide +kernel
theorem dX8_book_22 : decode cX8_book 22 = .ok (.getfield 215, 3) := by decide +kernel
theorem dX8_book_25 : decode cX8_book 25 = .ok (.iload_n 1, 1) := by decide +kernel
theorem dX8_book_26 : decode cX8_book 26 = .ok (.iaload, 1) := by decide +kernel
theorem dX8_book_27 : decode cX8_book 27 = .ok (.istore_n 3, 1) := by decide +kernel
theorem dX8_book_28 : decode cX8_book 28 = .ok (.aload_n 0, 1) := by decide +kernel
theorem dX8_book_29 : decode cX8_book 29 = .ok (.getfield 57, 3) := by decide +kernel
theorem dX8_book_32 : decode cX8_book 32 = .ok (.getfield 218, 3) := by decide +kernel
theorem dX8_book_35 : decode cX8_book 35 = .ok (.iload_n 1, 1) := by decide +kernel
theorem dX8_book_36 : decode cX8_book 36 = .ok (.iaload, 1) := by decide +kernel
theorem dX8_book_37 : decode cX8_book 37 = .ok (.istore 4, 2) := by decide +kernel
theorem dX8_book_39 : decode cX8_book 39 = .ok (.aload_n 0, 1) := by decide +kernel
theorem dX8_book_40 : decode cX8_book 40 = .ok (.getfield 35, 3) := by decide +kernel
theorem dX8_book_43 : decode cX8_book 43 = .ok (.aload_n 0, 1) := by decide +kernel
theorem dX8_book_44 : decode cX8_book 44 = .ok (.getfield 57, 3) := by decide +kernel
theorem dX8_book_47 : decode cX8_book 47 = .ok (.getfield 221, 3) := by decide +kernel
theorem dX8_book_50 : decode cX8_book 50 = .ok (.iload_n 3, 1) := by decide +kernel
theorem dX8_book_51 : decode cX8_book 51 = .ok (.iaload, 1) := by decide +kernel
theorem dX8_book_52 : decode cX8_book 52 = .ok (.aaload, 1) := by decide +kernel
theorem dX8_book_53 : decode cX8_book 53 = .ok (.astore 5, 2) := by decide +kernel
theorem dX8_book_55 : decode cX8_book 55 = .ok (.iload_n 2, 1) := by decide +kernel
theorem dX8_book_56 : decode cX8_book 56 = .ok (.tableswitch 136 0 8 #[52, 54, 57, 65, 73, 81, 89, 104, 122], 52) := by decide +kernel
theorem dX8_book_108 : decode cX8_book 108 = .ok (.iload_n 3, 1) := by decide +kernel
theorem dX8_book_109 : decode cX8_book 109 = .ok (.ireturn, 1) := by decide +kernel
theorem dX8_book_110 : decode cX8_book 110 = .ok (.iload 4, 2) := by decide +kernel
theorem dX8_book_112 : decode cX8_book 112 = .ok (.ireturn, 1) := by decide +kernel
theorem dX8_book_113 : decode cX8_book 113 = .ok (.aload 5, 2) := by decide +kernel
theorem dX8_book_115 : decode cX8_book 115 = .ok (.iload 4, 2) := by decide +kernel
theorem dX8_book_117 : decode cX8_book 117 = .ok (.invokevirtual 168, 3) := by decide +kernel
theorem dX8_book_120 : decode cX8_book 120 = .ok (.ireturn, 1) := by decide +kernel
theorem dX8_book_121 : decode cX8_book 121 = .ok (.aload 5, 2) := by decide +kernel
theorem dX8_book_123 : decode cX8_book 123 = .ok (.iload 4, 2) := by decide +kernel
theorem dX8_book_125 : decode cX8_book 125 = .ok (.invokevirtual 171, 3) := by decide +kernel
theorem dX8_book_128 : decode cX8_book 128 = .ok (.ireturn, 1) := by decide +kernel
theorem dX8_book_129 : decode cX8_book 129 = .ok (.aload 5, 2) := by decide +kernel
theorem dX8_book_131 : decode cX8_book 131 = .ok (.iload 4, 2) := by decide +kernel
theorem dX8_book_133 : decode cX8_book 133 = .ok (.invokevirtual 174, 3) := by decide +kernel
theorem dX8_book_136 : decode cX8_book 136 = .ok (.ireturn, 1) := by decide +kernel
theorem dX8_book_137 : decode cX8_book 137 = .ok (.aload 5, 2) := by decide +kernel
theorem dX8_book_139 : decode cX8_book 139 = .ok (.iload 4, 2) := by decide +kernel
theorem dX8_book_141 : decode cX8_book 141 = .ok (.invokevirtual 177, 3) := by decide +kernel
theorem dX8_book_144 : decode cX8_book 144 = .ok (.ireturn, 1) := by decide +kernel
theorem dX8_book_145 : decode cX8_book 145 = .ok (.aload_n 0, 1) := by decide +kernel
theorem dX8_book_146 : decode cX8_book 146 = .ok (.getfield 57, 3) := by decide +kernel
theorem dX8_book_149 : decode cX8_book 149 = .ok (.aload_n 0, 1) := by decide +kernel
theorem dX8_book_150 : decode cX8_book 150 = .ok (.getfield 19, 3) := by decide +kernel
theorem dX8_book_153 : decode cX8_book 153 = .ok (.iload_n 3, 1) := by decide +kernel
theorem dX8_book_154 : decode cX8_book 154 = .ok (.iload 4, 2) := by decide +kernel
theorem dX8_book_156 : decode cX8_book 156 = .ok (.invokevirtual 224, 3) := by decide +kernel
theorem dX8_book_159 : decode cX8_book 159 = .ok (.ireturn, 1) := by decide +kernel
theorem dX8_book_160 : decode cX8_book 160 = .ok (.ldc 228, 2) := by decide +kernel
theorem dX8_book_162 : decode cX8_book 162 = .ok (.aload_n 0, 1) := by decide +kernel
theorem dX8_book_163 : decode cX8_book 163 = .ok (.getfield 57, 3) := by decide +kernel
theorem dX8_book_166 : decode cX8_book 166 = .ok (.aload_n 0, 1) := by decide +kernel
theorem dX8_book_167 : decode cX8_book 167 = .ok (.getfield 19, 3) := by decide +kernel
theorem dX8_book_170 : decode cX8_book 170 = .ok (.iload_n 3, 1) := by decide +kernel
theorem dX8_book_171 : decode cX8_book 171 = .ok (.iload 4, 2) := by decide +kernel
theorem dX8_book_173 : decode cX8_book 173 = .ok (.invokevirtual 229, 3) := by decide +kernel
theorem dX8_book_176 : decode cX8_book 176 = .ok (.iadd, 1) := by decide +kernel
theorem dX8_book_177 : decode cX8_book 177 = .ok (.ireturn, 1) := by decide +kernel
theorem dX8_book_178 : decode cX8_book 178 = .ok (.aload_n 0, 1) := by decide +kernel
theorem dX8_book_179 : decode cX8_book 179 = .ok (.iload_n 1, 1) := by decide +kernel
theorem dX8_book_180 : decode cX8_book 180 = .ok (.invokevirtual 232, 3) := by decide +kernel
theorem dX8_book_183 : decode cX8_book 183 = .ok (.ifCond .eq 7, 3) := by decide +kernel
theorem dX8_book_186 : decode cX8_book 186 = .ok (.iconst 1, 1) := by decide +kernel
theorem dX8_book_187 : decode cX8_book 187 = .ok (.goto 4, 3) := by decide +kernel
theorem dX8_book_190 : decode cX8_book 190 = .ok (.iconst 0, 1) := by decide +kernel
theorem dX8_book_191 : decode cX8_book 191 = .ok (.ireturn, 1) := by decide +kernel
theorem dX8_book_192 : decode cX8_book 192 = .ok (.iconst (-1), 1) := by decide +kernel
theorem dX8_book_193 : decode cX8_book 193 = .ok (.ireturn, 1) := by decide +kernel
theorem dX8_number_0 : decode cX8_number 0 = .ok (.aload_n 0, 1) := by decide +kernel
theorem dX8_number_1 : decode cX8_number 1 = .ok (.iload_n 1, 1) := by decide +kernel
theorem dX8_number_2 : decode cX8_number 2 = .ok (.invokevirtual 121, 3) := by decide +kernel
theorem dX8_number_5 : decode cX8_number 5 = .ok (.ifCond .eq 28, 3) := by decide +kernel
theorem dX8_number_8 : decode cX8_number 8 = .ok (.iload_n 2, 1) := by decide +kernel
theorem dX8_number_9 : decode cX8_number 9 = .ok (.iconst 1, 1) := by decide +kernel
theorem dX8_number_10 : decode cX8_number 10 = .ok (.if_icmp .lt 23, 3) := by decide +kernel
theorem dX8_number_13 : decode cX8_number 13 = .ok (.iload_n 2, 1) := by decide +kernel
theorem dX8_number_14 : decode cX8_number 14 = .ok (.aload_n 0, 1) := by decide +kernel
theorem dX8_number_15 : decode cX8_number 15 = .ok (.getfield 19, 3) := by decide +kernel
theorem dX8_number_18 : decode cX8_number 18 = .ok (.aload_n 0, 1) := by decide +kernel
theorem dX8_number_19 : decode cX8_number 19 = .ok (.getfield 57, 3) := by decide +kernel
theorem dX8_number_22 : decode cX8_number 22 = .ok (.getfield 221, 3) := by decide +kernel
theorem dX8_number_25 : decode cX8_number 25 = .ok (.iload_n 1, 1) := by decide +kernel
theorem dX8_number_26 : decode cX8_number 26 = .ok (.iaload, 1) := by decide +kernel
theorem dX8_number_27 : decode cX8_number 27 = .ok (.invokevirtual 145, 3) := by decide +kernel
theorem dX8_number_30 : decode cX8_number 30 = .ok (.if_icmp .le 5, 3) := by decide +kernel
theorem dX8_number_33 : decode cX8_number 33 = .ok (.iconst (-1), 1) := by decide +kernel
theorem dX8_number_34 : decode cX8_number 34 = .ok (.ireturn, 1) := by decide +kernel
theorem dX8_number_35 : decode cX8_number 35 = .ok (.aload_n 0, 1) := by decide +kernel
theorem dX8_number_36 : decode cX8_number 36 = .ok (.getfield 57, 3) := by decide +kernel
theorem dX8_number_39 : decode cX8_number 39 = .ok (.aload_n 0, 1) := by decide +kernel
theorem dX8_number_40 : decode cX8_number 40 = .ok (.getfield 19, 3) := by decide +kernel
theorem dX8_number_43 : decode cX8_number 43 = .ok (.iload_n 1, 1) := by decide +kernel
theorem dX8_number_44 : decode cX8_number 44 = .ok (.iload_n 2, 1) := by decide +kernel
theorem dX8_number_45 : decode cX8_number 45 = .ok (.invokevirtual 235, 3) := by decide +kernel
theorem dX8_number_48 : decode cX8_number 48 = .ok (.ireturn, 1) := by decide +kernel
theorem dX8_sheet_0 : decode cX8_sheet 0 = .ok (.aload_n 0, 1) := by decide +kernel
theorem dX8_sheet_1 : decode cX8_sheet 1 = .ok (.iload_n 1, 1) := by decide +kernel
theorem dX8_sheet_2 : decode cX8_sheet 2 = .ok (.invokevirtual 121, 3) := by decide +kernel
theorem dX8_sheet_5 : decode cX8_sheet 5 = .ok (.ifCond .ne 5, 3) := by decide +kernel
theorem dX8_sheet_8 : decode cX8_sheet 8 = .ok (.iconst (-1), 1) := by decide +kernel
theorem dX8_sheet_9 : decode cX8_sheet 9 = .ok (.ireturn, 1) := by decide +kernel
theorem dX8_sheet_10 : decode cX8_sheet 10 = .ok (.aload_n 0, 1) := by decide +kernel
theorem dX8_sheet_11 : decode cX8_sheet 11 = .ok (.getfield 57, 3) := by decide +kernel
theorem dX8_sheet_14 : decode cX8_sheet 14 = .ok (.getfield 221, 3) := by decide +kernel
theorem dX8_sheet_17 : decode cX8_sheet 17 = .ok (.iload_n 1, 1) := by decide +kernel
theorem dX8_sheet_18 : decode cX8_sheet 18 = .ok (.iaload, 1) := by decide +kernel
theorem dX8_sheet_19 : decode cX8_sheet 19 = .ok (.istore_n 3, 1) := by decide +kernel
theorem dX8_sheet_20 : decode cX8_sheet 20 = .ok (.iload_n 2, 1) := by decide +kernel
theorem dX8_sheet_21 : decode cX8_sheet 21 = .ok (.tableswitch 95 0 4 #[35, 37, 47, 61, 82], 35) := by decide +kernel
theorem dX8_sheet_56 : decode cX8_sheet 56 = .ok (.iload_n 3, 1) := by decide +kernel
theorem dX8_sheet_57 : decode cX8_sheet 57 = .ok (.ireturn, 1) := by decide +kernel
theorem dX8_sheet_58 : decode cX8_sheet 58 = .ok (.aload_n 0, 1) := by decide +kernel
theorem dX8_sheet_59 : decode cX8_sheet 59 = .ok (.getfield 19, 3) := by decide +kernel
theorem dX8_sheet_62 : decode cX8_sheet 62 = .ok (.getfield 124, 3) := by decide +kernel
theorem dX8_sheet_65 : decode cX8_sheet 65 = .ok (.iload_n 1, 1) := by decide +kernel
theorem dX8_sheet_66 : decode cX8_sheet 66 = .ok (.iaload, 1) := by decide +kernel
theorem dX8_sheet_67 : decode cX8_sheet 67 = .ok (.ireturn, 1) := by decide +kernel
theorem dX8_sheet_68 : decode cX8_sheet 68 = .ok (.aload_n 0, 1) := by decide +kernel
theorem dX8_sheet_69 : decode cX8_sheet 69 = .ok (.getfield 57, 3) := by decide +kernel
theorem dX8_sheet_72 : decode cX8_sheet 72 = .ok (.aload_n 0, 1) := by decide +kernel
theorem dX8_sheet_73 : decode cX8_sheet 73 = .ok (.getfield 19, 3) := by decide +kernel
theorem dX8_sheet_76 : decode cX8_sheet 76 = .ok (.iload_n 1, 1) := by decide +kernel
theorem dX8_sheet_77 : decode cX8_sheet 77 = .ok (.iconst 1, 1) := by decide +kernel
theorem dX8_sheet_78 : decode cX8_sheet 78 = .ok (.invokevirtual 235, 3) := by decide +kernel
theorem dX8_sheet_81 : decode cX8_sheet 81 = .ok (.ireturn, 1) := by decide +kernel
theorem dX8_sheet_82 : decode cX8_sheet 82 = .ok (.aload_n 0, 1) := by decide +kernel
theorem dX8_sheet_83 : decode cX8_sheet 83 = .ok (.getfield 57, 3) := by decide +kernel
theorem dX8_sheet_86 : decode cX8_sheet 86 = .ok (.aload_n 0, 1) := by decide +kernel
theorem dX8_sheet_87 : decode cX8_sheet 87 = .ok (.getfield 19, 3) := by decide +kernel
theorem dX8_sheet_90 : decode cX8_sheet 90 = .ok (.iload_n 1, 1) := by decide +kernel
theorem dX8_sheet_91 : decode cX8_sheet 91 = .ok (.aload_n 0, 1) := by decide +kernel
theorem dX8_sheet_92 : decode cX8_sheet 92 = .ok (.getfield 19, 3) := by decide +kernel
theorem dX8_sheet_95 : decode cX8_sheet 95 = .ok (.iload_n 3, 1) := by decide +kernel
theorem dX8_sheet_96 : decode cX8_sheet 96 = .ok (.invokevirtual 145, 3) := by decide +kernel
theorem dX8_sheet_99 : decode cX8_sheet 99 = .ok (.invokevirtual 235, 3) := by decide +kernel
theorem dX8_sheet_102 : decode cX8_sheet 102 = .ok (.ireturn, 1) := by decide +kernel
theorem dX8_sheet_103 : decode cX8_sheet 103 = .ok (.aload_n 0, 1) := by decide +kernel
theorem dX8_sheet_104 : decode cX8_sheet 104 = .ok (.getfield 57, 3) := by decide +kernel
theorem dX8_sheet_107 : decode cX8_sheet 107 = .ok (.aload_n 0, 1) := by decide +kernel
theorem dX8_sheet_108 : decode cX8_sheet 108 = .ok (.getfield 19, 3) := by decide +kernel
theorem dX8_sheet_111 : decode cX8_sheet 111 = .ok (.iload_n 1, 1) := by decide +kernel
theorem dX8_sheet_112 : decode cX8_sheet 112 = .ok (.invokevirtual 238, 3) := by decide +kernel
theorem dX8_sheet_115 : decode cX8_sheet 115 = .ok (.ireturn, 1) := by decide +kernel
theorem dX8_sheet_116 : decode cX8_sheet 116 = .ok (.iconst (-1), 1) := by decide +kernel
theorem dX8_sheet_117 : decode cX8_sheet 117 = .ok (.ireturn, 1) := by decide +kernel
theorem dX8_missing_0 : decode cX8_missing 0 = .ok (.iload_n 1, 1) := by decide +kernel
theorem dX8_missing_1 : decode cX8_missing 1 = .ok (.bipush (-2), 2) := by decide +kernel
theorem dX8_missing_3 : decode cX8_missing 3 = .ok (.if_icmp .ge 5, 3) := by decide +kernel
theorem dX8_missing_6 : decode cX8_missing 6 = .ok (.iconst (-1), 1) := by decide +kernel
theorem dX8_missing_7 : decode cX8_missing 7 = .ok (.ireturn, 1) := by decide +kernel
theorem dX8_missing_8 : decode cX8_missing 8 = .ok (.iload_n 1, 1) := by decide +kernel
theorem dX8_missing_9 : decode cX8_missing 9 = .ok (.bipush (-2), 2) := by decide +kernel
theorem dX8_missing_11 : decode cX8_missing 11 = .ok (.if_icmp .ne 8, 3) := by decide +kernel
theorem dX8_missing_14 : decode cX8_missing 14 = .ok (.aload_n 0, 1) := by decide +kernel
theorem dX8_missing_15 : decode cX8_missing 15 = .ok (.invokevirtual 242, 3) := by decide +kernel
theorem dX8_missing_18 : decode cX8_missing 18 = .ok (.ireturn, 1) := by decide +kernel
theorem dX8_missing_19 : decode cX8_missing 19 = .ok (.iconst 0, 1) := by decide +kernel
theorem dX8_missing_20 : decode cX8_missing 20 = .ok (.istore_n 2, 1) := by decide +kernel
theorem dX8_missing_21 : decode cX8_missing 21 = .ok (.iconst 1, 1) := by decide +kernel
theorem dX8_missing_22 : decode cX8_missing 22 = .ok (.istore_n 3, 1) := by decide +kernel
theorem dX8_missing_23 : decode cX8_missing 23 = .ok (.iload_n 3, 1) := by decide +kernel
theorem dX8_missing_24 : decode cX8_missing 24 = .ok (.aload_n 0, 1) := by decide +kernel
theorem dX8_missing_25 : decode cX8_missing 25 = .ok (.getfield 19, 3) := by decide +kernel
theorem dX8_missing_28 : decode cX8_missing 28 = .ok (.getfield 94, 3) := by decide +kernel
theorem dX8_missing_31 : decode cX8_missing 31 = .ok (.iconst 0, 1) := by decide +kernel
theorem dX8_missing_32 : decode cX8_missing 32 = .ok (.iaload, 1) := by decide +kernel
theorem dX8_missing_33 : decode cX8_missing 33 = .ok (.if_icmp .gt 27, 3) := by decide +kernel
theorem dX8_missing_36 : decode cX8_missing 36 = .ok (.aload_n 0, 1) := by decide +kernel
theorem dX8_missing_37 : decode cX8_missing 37 = .ok (.iload_n 3, 1) := by decide +kernel
theorem dX8_missing_38 : decode cX8_missing 38 = .ok (.invokevirtual 232, 3) := by decide +kernel
theorem dX8_missing_41 : decode cX8_missing 41 = .ok (.ifCond .eq 13, 3) := by decide +kernel
theorem dX8_missing_44 : decode cX8_missing 44 = .ok (.iload_n 2, 1) := by decide +kernel
theorem dX8_missing_45 : decode cX8_missing 45 = .ok (.iload_n 1, 1) := by decide +kernel
theorem dX8_missing_46 : decode cX8_missing 46 = .ok (.if_icmp .ne 5, 3) := by decide +kernel
theorem dX8_missing_49 : decode cX8_missing 49 = .ok (.iload_n 3, 1) := by decide +kernel
theorem dX8_missing_50 : decode cX8_missing 50 = .ok (.ireturn, 1) := by decide +kernel
theorem dX8_missing_51 : decode cX8_missing 51 = .ok (.iinc 2 1, 3) := by decide +kernel
theorem dX8_missing_54 : decode cX8_missing 54 = .ok (.iinc 3 1, 3) := by decide +kernel
theorem dX8_missing_57 : decode cX8_missing 57 = .ok (.goto (-34), 3) := by decide +kernel
theorem dX8_missing_60 : decode cX8_missing 60 = .ok (.iload_n 1, 1) := by decide +kernel
theorem dX8_missing_61 : decode cX8_missing 61 = .ok (.iconst (-1), 1) := by decide +kernel
theorem dX8_missing_62 : decode cX8_missing 62 = .ok (.if_icmp .ne 7, 3) := by decide +kernel
theorem dX8_missing_65 : decode cX8_missing 65 = .ok (.iload_n 2, 1) := by decide +kernel
theorem dX8_missing_66 : decode cX8_missing 66 = .ok (.goto 5, 3) := by decide +kernel
theorem dX8_missing_69 : decode cX8_missing 69 = .ok (.bipush (-4), 2) := by decide +kernel
theorem dX8_missing_71 : decode cX8_missing 71 = .ok (.ireturn, 1) := by decide +kernel
theorem dX8_count_0 : decode cX8_count 0 = .ok (.iload_n 1, 1) := by decide +kernel
theorem dX8_count_1 : decode cX8_count 1 = .ok (.tableswitch 105 0 6 #[43, 51, 61, 71, 81, 89, 97], 43) := by decide +kernel
theorem dX8_count_44 : decode cX8_count 44 = .ok (.aload_n 0, 1) := by decide +kernel
theorem dX8_count_45 : decode cX8_count 45 = .ok (.getfield 19, 3) := by decide +kernel
theorem dX8_count_48 : decode cX8_count 48 = .ok (.getfield 245, 3) := by decide +kernel
theorem dX8_count_51 : decode cX8_count 51 = .ok (.ireturn, 1) := by decide +kernel
theorem dX8_count_52 : decode cX8_count 52 = .ok (.aload_n 0, 1) := by decide +kernel
theorem dX8_count_53 : decode cX8_count 53 = .ok (.getfield 19, 3) := by decide +kernel
theorem dX8_count_56 : decode cX8_count 56 = .ok (.getfield 94, 3) := by decide +kernel
theorem dX8_count_59 : decode cX8_count 59 = .ok (.iconst 0, 1) := by decide +kernel
theorem dX8_count_60 : decode cX8_count 60 = .ok (.iaload, 1) := by decide +kernel
theorem dX8_count_61 : decode cX8_count 61 = .ok (.ireturn, 1) := by decide +kernel
theorem dX8_count_62 : decode cX8_count 62 = .ok (.aload_n 0, 1) := by decide +kernel
theorem dX8_count_63 : decode cX8_count 63 = .ok (.getfield 19, 3) := by decide +kernel
theorem dX8_count_66 : decode cX8_count 66 = .ok (.getfield 94, 3) := by decide +kernel
theorem dX8_count_69 : decode cX8_count 69 = .ok (.iconst 1, 1) := by decide +kernel
theorem dX8_count_70 : decode cX8_count 70 = .ok (.iaload, 1) := by decide +kernel
theorem dX8_count_71 : decode cX8_count 71 = .ok (.ireturn, 1) := by decide +kernel
theorem dX8_count_72 : decode cX8_count 72 = .ok (.aload_n 0, 1) := by decide +kernel
theorem dX8_count_73 : decode cX8_count 73 = .ok (.getfield 19, 3) := by decide +kernel
theorem dX8_count_76 : decode cX8_count 76 = .ok (.getfield 94, 3) := by decide +kernel
theorem dX8_count_79 : decode cX8_count 79 = .ok (.iconst 2, 1) := by decide +kernel
theorem dX8_count_80 : decode cX8_count 80 = .ok (.iaload, 1) := by decide +kernel
theorem dX8_count_81 : decode cX8_count 81 = .ok (.ireturn, 1) := by decide +kernel
theorem dX8_count_82 : decode cX8_count 82 = .ok (.aload_n 0, 1) := by decide +kernel
theorem dX8_count_83 : decode cX8_count 83 = .ok (.getfield 19, 3) := by decide +kernel
theorem dX8_count_86 : decode cX8_count 86 = .ok (.invokevirtual 127, 3) := by decide +kernel
theorem dX8_count_89 : decode cX8_count 89 = .ok (.ireturn, 1) := by decide +kernel
theorem dX8_count_90 : decode cX8_count 90 = .ok (.aload_n 0, 1) := by decide +kernel
theorem dX8_count_91 : decode cX8_count 91 = .ok (.getfield 29, 3) := by decide +kernel
theorem dX8_count_94 : decode cX8_count 94 = .ok (.getfield 130, 3) := by decide +kernel
theorem dX8_count_97 : decode cX8_count 97 = .ok (.ireturn, 1) := by decide +kernel
theorem dX8_count_98 : decode cX8_count 98 = .ok (.aload_n 0, 1) := by decide +kernel
theorem dX8_count_99 : decode cX8_count 99 = .ok (.getfield 12, 3) := by decide +kernel
theorem dX8_count_102 : decode cX8_count 102 = .ok (.getfield 80, 3) := by decide +kernel
theorem dX8_count_105 : decode cX8_count 105 = .ok (.ireturn, 1) := by decide +kernel
theorem dX8_count_106 : decode cX8_count 106 = .ok (.iconst (-1), 1) := by decide +kernel
theorem dX8_count_107 : decode cX8_count 107 = .ok (.ireturn, 1) := by decide +kernel
theorem dX8_layText_0 : decode cX8_layText 0 = .ok (.aload_n 0, 1) := by decide +kernel
theorem dX8_layText_1 : decode cX8_layText 1 = .ok (.getfield 12, 3) := by decide +kernel
theorem dX8_layText_4 : decode cX8_layText 4 = .ok (.aload_n 0, 1) := by decide +kernel
theorem dX8_layText_5 : decode cX8_layText 5 = .ok (.getfield 23, 3) := by decide +kernel
theorem dX8_layText_8 : decode cX8_layText 8 = .ok (.invokevirtual 83, 3) := by decide +kernel
theorem dX8_layText_11 : decode cX8_layText 11 = .ok (.bipush (-4), 2) := by decide +kernel
theorem dX8_layText_13 : decode cX8_layText 13 = .ok (.if_icmp .ne 13, 3) := by decide +kernel
theorem dX8_layText_16 : decode cX8_layText 16 = .ok (.aload_n 0, 1) := by decide +kernel
theorem dX8_layText_17 : decode cX8_layText 17 = .ok (.getfield 23, 3) := by decide +kernel
theorem dX8_layText_20 : decode cX8_layText 20 = .ok (.getfield 245, 3) := by decide +kernel
theorem dX8_layText_23 : decode cX8_layText 23 = .ok (.ifCond .ne 6, 3) := by decide +kernel
theorem dX8_layText_26 : decode cX8_layText 26 = .ok (.bipush (-2), 2) := by decide +kernel
theorem dX8_layText_28 : decode cX8_layText 28 = .ok (.ireturn, 1) := by decide +kernel
theorem dX8_layText_29 : decode cX8_layText 29 = .ok (.aload_n 0, 1) := by decide +kernel
theorem dX8_layText_30 : decode cX8_layText 30 = .ok (.getfield 19, 3) := by decide +kernel
theorem dX8_layText_33 : decode cX8_layText 33 = .ok (.aload_n 0, 1) := by decide +kernel
theorem dX8_layText_34 : decode cX8_layText 34 = .ok (.getfield 23, 3) := by decide +kernel
theorem dX8_layText_37 : decode cX8_layText 37 = .ok (.invokevirtual 248, 3) := by decide +kernel
theorem dX8_layText_40 : decode cX8_layText 40 = .ok (.aload_n 0, 1) := by decide +kernel
theorem dX8_layText_41 : decode cX8_layText 41 = .ok (.getfield 29, 3) := by decide +kernel
theorem dX8_layText_44 : decode cX8_layText 44 = .ok (.iconst 0, 1) := by decide +kernel
theorem dX8_layText_45 : decode cX8_layText 45 = .ok (.putfield 130, 3) := by decide +kernel
theorem dX8_layText_48 : decode cX8_layText 48 = .ok (.aload_n 0, 1) := by decide +kernel
theorem dX8_layText_49 : decode cX8_layText 49 = .ok (.invokevirtual 136, 3) := by decide +kernel
theorem dX8_layText_52 : decode cX8_layText 52 = .ok (.aload_n 0, 1) := by decide +kernel
theorem dX8_layText_53 : decode cX8_layText 53 = .ok (.getfield 19, 3) := by decide +kernel
theorem dX8_layText_56 : decode cX8_layText 56 = .ok (.getfield 245, 3) := by decide +kernel
theorem dX8_layText_59 : decode cX8_layText 59 = .ok (.ireturn, 1) := by decide +kernel
theorem dX8_settleAnew_0 : decode cX8_settleAnew 0 = .ok (.aload_n 0, 1) := by decide +kernel
theorem dX8_settleAnew_1 : decode cX8_settleAnew 1 = .ok (.getfield 19, 3) := by decide +kernel
theorem dX8_settleAnew_4 : decode cX8_settleAnew 4 = .ok (.invokevirtual 251, 3) := by decide +kernel
theorem dX8_settleAnew_7 : decode cX8_settleAnew 7 = .ok (.aload_n 0, 1) := by decide +kernel
theorem dX8_settleAnew_8 : decode cX8_settleAnew 8 = .ok (.invokevirtual 136, 3) := by decide +kernel
theorem dX8_settleAnew_11 : decode cX8_settleAnew 11 = .ok (.return_, 1) := by decide +kernel
theorem dX8_settle_0 : decode cX8_settle 0 = .ok (.iconst 0, 1) := by decide +kernel
theorem dX8_settle_1 : decode cX8_settle 1 = .ok (.istore_n 1, 1) := by decide +kernel
theorem dX8_settle_2 : decode cX8_settle 2 = .ok (.iload_n 1, 1) := by decide +kernel
theorem dX8_settle_3 : decode cX8_settle 3 = .ok (.aload_n 0, 1) := by decide +kernel
theorem dX8_settle_4 : decode cX8_settle 4 = .ok (.getfield 19, 3) := by decide +kernel
theorem dX8_settle_7 : decode cX8_settle 7 = .ok (.getfield 245, 3) := by decide +kernel
theorem dX8_settle_10 : decode cX8_settle 10 = .ok (.if_icmp .ge 36, 3) := by decide +kernel
theorem dX8_settle_13 : decode cX8_settle 13 = .ok (.aload_n 0, 1) := by decide +kernel
theorem dX8_settle_14 : decode cX8_settle 14 = .ok (.getfield 35, 3) := by decide +kernel
theorem dX8_settle_17 : decode cX8_settle 17 = .ok (.iload_n 1, 1) := by decide +kernel
theorem dX8_settle_18 : decode cX8_settle 18 = .ok (.aaload, 1) := by decide +kernel
theorem dX8_settle_19 : decode cX8_settle 19 = .ok (.aload_n 0, 1) := by decide +kernel
theorem dX8_settle_20 : decode cX8_settle 20 = .ok (.getfield 19, 3) := by decide +kernel
theorem dX8_settle_23 : decode cX8_settle 23 = .ok (.getfield 115, 3) := by decide +kernel
theorem dX8_settle_26 : decode cX8_settle 26 = .ok (.iload_n 1, 1) := by decide +kernel
theorem dX8_settle_27 : decode cX8_settle 27 = .ok (.iaload, 1) := by decide +kernel
theorem dX8_settle_28 : decode cX8_settle 28 = .ok (.aload_n 0, 1) := by decide +kernel
theorem dX8_settle_29 : decode cX8_settle 29 = .ok (.getfield 19, 3) := by decide +kernel
theorem dX8_settle_32 : decode cX8_settle 32 = .ok (.getfield 118, 3) := by decide +kernel
theorem dX8_settle_35 : decode cX8_settle 35 = .ok (.iload_n 1, 1) := by decide +kernel
theorem dX8_settle_36 : decode cX8_settle 36 = .ok (.iaload, 1) := by decide +kernel
theorem dX8_settle_37 : decode cX8_settle 37 = .ok (.invokevirtual 254, 3) := by decide +kernel
theorem dX8_settle_40 : decode cX8_settle 40 = .ok (.iinc 1 1, 3) := by decide +kernel
theorem dX8_settle_43 : decode cX8_settle 43 = .ok (.goto (-41), 3) := by decide +kernel
theorem dX8_settle_46 : decode cX8_settle 46 = .ok (.aload_n 0, 1) := by decide +kernel
theorem dX8_settle_47 : decode cX8_settle 47 = .ok (.getfield 50, 3) := by decide +kernel
theorem dX8_settle_50 : decode cX8_settle 50 = .ok (.aload_n 0, 1) := by decide +kernel
theorem dX8_settle_51 : decode cX8_settle 51 = .ok (.getfield 19, 3) := by decide +kernel
theorem dX8_settle_54 : decode cX8_settle 54 = .ok (.invokevirtual 258, 3) := by decide +kernel
theorem dX8_settle_57 : decode cX8_settle 57 = .ok (.aload_n 0, 1) := by decide +kernel
theorem dX8_settle_58 : decode cX8_settle 58 = .ok (.getfield 57, 3) := by decide +kernel
theorem dX8_settle_61 : decode cX8_settle 61 = .ok (.aload_n 0, 1) := by decide +kernel
theorem dX8_settle_62 : decode cX8_settle 62 = .ok (.getfield 19, 3) := by decide +kernel
theorem dX8_settle_65 : decode cX8_settle 65 = .ok (.aload_n 0, 1) := by decide +kernel
theorem dX8_settle_66 : decode cX8_settle 66 = .ok (.getfield 50, 3) := by decide +kernel
theorem dX8_settle_69 : decode cX8_settle 69 = .ok (.invokevirtual 261, 3) := by decide +kernel
theorem dX8_settle_72 : decode cX8_settle 72 = .ok (.return_, 1) := by decide +kernel
theorem dX8_isScheme_0 : decode cX8_isScheme 0 = .ok (.iload_n 1, 1) := by decide +kernel
theorem dX8_isScheme_1 : decode cX8_isScheme 1 = .ok (.ifCond .lt 18, 3) := by decide +kernel
theorem dX8_isScheme_4 : decode cX8_isScheme 4 = .ok (.iload_n 1, 1) := by decide +kernel
theorem dX8_isScheme_5 : decode cX8_isScheme 5 = .ok (.aload_n 0, 1) := by decide +kernel
theorem dX8_isScheme_6 : decode cX8_isScheme 6 = .ok (.getfield 19, 3) := by decide +kernel
theorem dX8_isScheme_9 : decode cX8_isScheme 9 = .ok (.getfield 245, 3) := by decide +kernel
theorem dX8_isScheme_12 : decode cX8_isScheme 12 = .ok (.if_icmp .ge 7, 3) := by decide +kernel
theorem dX8_isScheme_15 : decode cX8_isScheme 15 = .ok (.iconst 1, 1) := by decide +kernel
theorem dX8_isScheme_16 : decode cX8_isScheme 16 = .ok (.goto 4, 3) := by decide +kernel
theorem dX8_isScheme_19 : decode cX8_isScheme 19 = .ok (.iconst 0, 1) := by decide +kernel
theorem dX8_isScheme_20 : decode cX8_isScheme 20 = .ok (.ireturn, 1) := by decide +kernel
theorem dX8_isSheet_0 : decode cX8_isSheet 0 = .ok (.iload_n 1, 1) := by decide +kernel
theorem dX8_isSheet_1 : decode cX8_isSheet 1 = .ok (.ifCond .lt 18, 3) := by decide +kernel
theorem dX8_isSheet_4 : decode cX8_isSheet 4 = .ok (.iload_n 1, 1) := by decide +kernel
theorem dX8_isSheet_5 : decode cX8_isSheet 5 = .ok (.aload_n 0, 1) := by decide +kernel
theorem dX8_isSheet_6 : decode cX8_isSheet 6 = .ok (.getfield 57, 3) := by decide +kernel
theorem dX8_isSheet_9 : decode cX8_isSheet 9 = .ok (.getfield 203, 3) := by decide +kernel
theorem dX8_isSheet_12 : decode cX8_isSheet 12 = .ok (.if_icmp .ge 7, 3) := by decide +kernel
theorem dX8_isSheet_15 : decode cX8_isSheet 15 = .ok (.iconst 1, 1) := by decide +kernel
theorem dX8_isSheet_16 : decode cX8_isSheet 16 = .ok (.goto 4, 3) := by decide +kernel
theorem dX8_isSheet_19 : decode cX8_isSheet 19 = .ok (.iconst 0, 1) := by decide +kernel
theorem dX8_isSheet_20 : decode cX8_isSheet 20 = .ok (.ireturn, 1) := by decide +kernel
theorem dX8_isSide_0 : decode cX8_isSide 0 = .ok (.iload_n 0, 1) := by decide +kernel
theorem dX8_isSide_1 : decode cX8_isSide 1 = .ok (.ifCond .eq 8, 3) := by decide +kernel
theorem dX8_isSide_4 : decode cX8_isSide 4 = .ok (.iload_n 0, 1) := by decide +kernel
theorem dX8_isSide_5 : decode cX8_isSide 5 = .ok (.iconst 1, 1) := by decide +kernel
theorem dX8_isSide_6 : decode cX8_isSide 6 = .ok (.if_icmp .ne 7, 3) := by decide +kernel
theorem dX8_isSide_9 : decode cX8_isSide 9 = .ok (.iconst 1, 1) := by decide +kernel
theorem dX8_isSide_10 : decode cX8_isSide 10 = .ok (.goto 4, 3) := by decide +kernel
theorem dX8_isSide_13 : decode cX8_isSide 13 = .ok (.iconst 0, 1) := by decide +kernel
theorem dX8_isSide_14 : decode cX8_isSide 14 = .ok (.ireturn, 1) := by decide +kernel
theorem dX8_isFoldCount_0 : decode cX8_isFoldCount 0 = .ok (.iload_n 0, 1) := by decide +kernel
theorem dX8_isFoldCount_1 : decode cX8_isFoldCount 1 = .ok (.iconst 1, 1) := by decide +kernel
theorem dX8_isFoldCount_2 : decode cX8_isFoldCount 2 = .ok (.if_icmp .lt 12, 3) := by decide +kernel
theorem dX8_isFoldCount_5 : decode cX8_isFoldCount 5 = .ok (.iload_n 0, 1) := by decide +kernel
theorem dX8_isFoldCount_6 : decode cX8_isFoldCount 6 = .ok (.iconst 4, 1) := by decide +kernel
theorem dX8_isFoldCount_7 : decode cX8_isFoldCount 7 = .ok (.if_icmp .gt 7, 3) := by decide +kernel
theorem dX8_isFoldCount_10 : decode cX8_isFoldCount 10 = .ok (.iconst 1, 1) := by decide +kernel
theorem dX8_isFoldCount_11 : decode cX8_isFoldCount 11 = .ok (.goto 4, 3) := by decide +kernel
theorem dX8_isFoldCount_14 : decode cX8_isFoldCount 14 = .ok (.iconst 0, 1) := by decide +kernel
theorem dX8_isFoldCount_15 : decode cX8_isFoldCount 15 = .ok (.ireturn, 1) := by decide +kernel
theorem dX8_isMissing_0 : decode cX8_isMissing 0 = .ok (.iload_n 1, 1) := by decide +kernel
theorem dX8_isMissing_1 : decode cX8_isMissing 1 = .ok (.iconst 1, 1) := by decide +kernel
theorem dX8_isMissing_2 : decode cX8_isMissing 2 = .ok (.if_icmp .lt 41, 3) := by decide +kernel
theorem dX8_isMissing_5 : decode cX8_isMissing 5 = .ok (.iload_n 1, 1) := by decide +kernel
theorem dX8_isMissing_6 : decode cX8_isMissing 6 = .ok (.aload_n 0, 1) := by decide +kernel
theorem dX8_isMissing_7 : decode cX8_isMissing 7 = .ok (.getfield 19, 3) := by decide +kernel
theorem dX8_isMissing_10 : decode cX8_isMissing 10 = .ok (.getfield 94, 3) := by decide +kernel
theorem dX8_isMissing_13 : decode cX8_isMissing 13 = .ok (.iconst 0, 1) := by decide +kernel
theorem dX8_isMissing_14 : decode cX8_isMissing 14 = .ok (.iaload, 1) := by decide +kernel
theorem dX8_isMissing_15 : decode cX8_isMissing 15 = .ok (.if_icmp .gt 28, 3) := by decide +kernel
theorem dX8_isMissing_18 : decode cX8_isMissing 18 = .ok (.aload_n 0, 1) := by decide +kernel
theorem dX8_isMissing_19 : decode cX8_isMissing 19 = .ok (.getfield 19, 3) := by decide +kernel
theorem dX8_isMissing_22 : decode cX8_isMissing 22 = .ok (.getfield 124, 3) := by decide +kernel
theorem dX8_isMissing_25 : decode cX8_isMissing 25 = .ok (.aload_n 0, 1) := by decide +kernel
theorem dX8_isMissing_26 : decode cX8_isMissing 26 = .ok (.getfield 57, 3) := by decide +kernel
theorem dX8_isMissing_29 : decode cX8_isMissing 29 = .ok (.getfield 215, 3) := by decide +kernel
theorem dX8_isMissing_32 : decode cX8_isMissing 32 = .ok (.iload_n 1, 1) := by decide +kernel
theorem dX8_isMissing_33 : decode cX8_isMissing 33 = .ok (.iaload, 1) := by decide +kernel
theorem dX8_isMissing_34 : decode cX8_isMissing 34 = .ok (.iaload, 1) := by decide +kernel
theorem dX8_isMissing_35 : decode cX8_isMissing 35 = .ok (.iconst 1, 1) := by decide +kernel
theorem dX8_isMissing_36 : decode cX8_isMissing 36 = .ok (.if_icmp .ne 7, 3) := by decide +kernel
theorem dX8_isMissing_39 : decode cX8_isMissing 39 = .ok (.iconst 1, 1) := by decide +kernel
theorem dX8_isMissing_40 : decode cX8_isMissing 40 = .ok (.goto 4, 3) := by decide +kernel
theorem dX8_isMissing_43 : decode cX8_isMissing 43 = .ok (.iconst 0, 1) := by decide +kernel
theorem dX8_isMissing_44 : decode cX8_isMissing 44 = .ok (.ireturn, 1) := by decide +kernel
theorem dX8_missingRuns_0 : decode cX8_missingRuns 0 = .ok (.iconst 0, 1) := by decide +kernel
theorem dX8_missingRuns_1 : decode cX8_missingRuns 1 = .ok (.istore_n 1, 1) := by decide +kernel
theorem dX8_missingRuns_2 : decode cX8_missingRuns 2 = .ok (.iconst 1, 1) := by decide +kernel
theorem dX8_missingRuns_3 : decode cX8_missingRuns 3 = .ok (.istore_n 2, 1) := by decide +kernel
theorem dX8_missingRuns_4 : decode cX8_missingRuns 4 = .ok (.iload_n 2, 1) := by decide +kernel
theorem dX8_missingRuns_5 : decode cX8_missingRuns 5 = .ok (.aload_n 0, 1) := by decide +kernel
theorem dX8_missingRuns_6 : decode cX8_missingRuns 6 = .ok (.getfield 19, 3) := by decide +kernel
theorem dX8_missingRuns_9 : decode cX8_missingRuns 9 = .ok (.getfield 94, 3) := by decide +kernel
theorem dX8_missingRuns_12 : decode cX8_missingRuns 12 = .ok (.iconst 0, 1) := by decide +kernel
theorem dX8_missingRuns_13 : decode cX8_missingRuns 13 = .ok (.iaload, 1) := by decide +kernel
theorem dX8_missingRuns_14 : decode cX8_missingRuns 14 = .ok (.if_icmp .gt 30, 3) := by decide +kernel
theorem dX8_missingRuns_17 : decode cX8_missingRuns 17 = .ok (.aload_n 0, 1) := by decide +kernel
theorem dX8_missingRuns_18 : decode cX8_missingRuns 18 = .ok (.iload_n 2, 1) := by decide +kernel
theorem dX8_missingRuns_19 : decode cX8_missingRuns 19 = .ok (.invokevirtual 232, 3) := by decide +kernel
theorem dX8_missingRuns_22 : decode cX8_missingRuns 22 = .ok (.ifCond .eq 16, 3) := by decide +kernel
theorem dX8_missingRuns_25 : decode cX8_missingRuns 25 = .ok (.aload_n 0, 1) := by decide +kernel
theorem dX8_missingRuns_26 : decode cX8_missingRuns 26 = .ok (.iload_n 2, 1) := by decide +kernel
theorem dX8_missingRuns_27 : decode cX8_missingRuns 27 = .ok (.iconst 1, 1) := by decide +kernel
theorem dX8_missingRuns_28 : decode cX8_missingRuns 28 = .ok (.isub, 1) := by decide +kernel
theorem dX8_missingRuns_29 : decode cX8_missingRuns 29 = .ok (.invokevirtual 232, 3) := by decide +kernel
theorem dX8_missingRuns_32 : decode cX8_missingRuns 32 = .ok (.ifCond .ne 6, 3) := by decide +kernel
theorem dX8_missingRuns_35 : decode cX8_missingRuns 35 = .ok (.iinc 1 1, 3) := by decide +kernel
theorem dX8_missingRuns_38 : decode cX8_missingRuns 38 = .ok (.iinc 2 1, 3) := by decide +kernel
theorem dX8_missingRuns_41 : decode cX8_missingRuns 41 = .ok (.goto (-37), 3) := by decide +kernel
theorem dX8_missingRuns_44 : decode cX8_missingRuns 44 = .ok (.iload_n 1, 1) := by decide +kernel
theorem dX8_missingRuns_45 : decode cX8_missingRuns 45 = .ok (.ireturn, 1) := by decide +kernel

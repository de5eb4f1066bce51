theorem dX0_init_0 : decode cX0_init 0 = .ok (.aload_n 0, 1) := by decide +kernel
theorem dX0_init_1 : decode cX0_init 1 = .ok (.invokespecial 3, 3) := by decide +kernel
theorem dX0_init_4 : decode cX0_init 4 = .ok (.aload_n 0, 1) := by decide +kernel
theorem dX0_init_5 : decode cX0_init 5 = .ok (.bipush 100, 2) := by decide +kernel
theorem dX0_init_7 : decode cX0_init 7 = .ok (.newarray .int, 2) := by decide +kernel
theorem dX0_init_9 : decode cX0_init 9 = .ok (.putfield 9, 3) := by decide +kernel
theorem dX0_init_12 : decode cX0_init 12 = .ok (.aload_n 0, 1) := by decide +kernel
theorem dX0_init_13 : decode cX0_init 13 = .ok (.bipush 100, 2) := by decide +kernel
theorem dX0_init_15 : decode cX0_init 15 = .ok (.newarray .int, 2) := by decide +kernel
theorem dX0_init_17 : decode cX0_init 17 = .ok (.putfield 15, 3) := by decide +kernel
theorem dX0_init_20 : decode cX0_init 20 = .ok (.aload_n 0, 1) := by decide +kernel
theorem dX0_init_21 : decode cX0_init 21 = .ok (.sipush 433, 3) := by decide +kernel
theorem dX0_init_24 : decode cX0_init 24 = .ok (.newarray .int, 2) := by decide +kernel
theorem dX0_init_26 : decode cX0_init 26 = .ok (.putfield 18, 3) := by decide +kernel
theorem dX0_init_29 : decode cX0_init 29 = .ok (.aload_n 0, 1) := by decide +kernel
theorem dX0_init_30 : decode cX0_init 30 = .ok (.sipush 433, 3) := by decide +kernel
theorem dX0_init_33 : decode cX0_init 33 = .ok (.newarray .int, 2) := by decide +kernel
theorem dX0_init_35 : decode cX0_init 35 = .ok (.putfield 21, 3) := by decide +kernel
theorem dX0_init_38 : decode cX0_init 38 = .ok (.return_, 1) := by decide +kernel
theorem dX0_arrange_0 : decode cX0_arrange 0 = .ok (.aload_n 0, 1) := by decide +kernel
theorem dX0_arrange_1 : decode cX0_arrange 1 = .ok (.iconst 0, 1) := by decide +kernel
theorem dX0_arrange_2 : decode cX0_arrange 2 = .ok (.putfield 24, 3) := by decide +kernel
theorem dX0_arrange_5 : decode cX0_arrange 5 = .ok (.aload_n 0, 1) := by decide +kernel
theorem dX0_arrange_6 : decode cX0_arrange 6 = .ok (.iconst 0, 1) := by decide +kernel
theorem dX0_arrange_7 : decode cX0_arrange 7 = .ok (.putfield 28, 3) := by decide +kernel
theorem dX0_arrange_10 : decode cX0_arrange 10 = .ok (.iconst 0, 1) := by decide +kernel
theorem dX0_arrange_11 : decode cX0_arrange 11 = .ok (.istore_n 3, 1) := by decide +kernel
theorem dX0_arrange_12 : decode cX0_arrange 12 = .ok (.iload_n 3, 1) := by decide +kernel
theorem dX0_arrange_13 : decode cX0_arrange 13 = .ok (.aload_n 1, 1) := by decide +kernel
theorem dX0_arrange_14 : decode cX0_arrange 14 = .ok (.getfield 31, 3) := by decide +kernel
theorem dX0_arrange_17 : decode cX0_arrange 17 = .ok (.if_icmp .ge 39, 3) := by decide +kernel
theorem dX0_arrange_20 : decode cX0_arrange 20 = .ok (.iconst 0, 1) := by decide +kernel
theorem dX0_arrange_21 : decode cX0_arrange 21 = .ok (.istore 4, 2) := by decide +kernel
theorem dX0_arrange_23 : decode cX0_arrange 23 = .ok (.iload 4, 2) := by decide +kernel
theorem dX0_arrange_25 : decode cX0_arrange 25 = .ok (.aload_n 2, 1) := by decide +kernel
theorem dX0_arrange_26 : decode cX0_arrange 26 = .ok (.getfield 36, 3) := by decide +kernel
theorem dX0_arrange_29 : decode cX0_arrange 29 = .ok (.iload_n 3, 1) := by decide +kernel
theorem dX0_arrange_30 : decode cX0_arrange 30 = .ok (.iaload, 1) := by decide +kernel
theorem dX0_arrange_31 : decode cX0_arrange 31 = .ok (.if_icmp .ge 19, 3) := by decide +kernel
theorem dX0_arrange_34 : decode cX0_arrange 34 = .ok (.aload_n 0, 1) := by decide +kernel
theorem dX0_arrange_35 : decode cX0_arrange 35 = .ok (.iload_n 3, 1) := by decide +kernel
theorem dX0_arrange_36 : decode cX0_arrange 36 = .ok (.aload_n 1, 1) := by decide +kernel
theorem dX0_arrange_37 : decode cX0_arrange 37 = .ok (.iload_n 3, 1) := by decide +kernel
theorem dX0_arrange_38 : decode cX0_arrange 38 = .ok (.invokevirtual 41, 3) := by decide +kernel
theorem dX0_arrange_41 : decode cX0_arrange 41 = .ok (.invokevirtual 45, 3) := by decide +kernel
theorem dX0_arrange_44 : decode cX0_arrange 44 = .ok (.iinc 4 1, 3) := by decide +kernel
theorem dX0_arrange_47 : decode cX0_arrange 47 = .ok (.goto (-24), 3) := by decide +kernel
theorem dX0_arrange_50 : decode cX0_arrange 50 = .ok (.iinc 3 1, 3) := by decide +kernel
theorem dX0_arrange_53 : decode cX0_arrange 53 = .ok (.goto (-41), 3) := by decide +kernel
theorem dX0_arrange_56 : decode cX0_arrange 56 = .ok (.iconst 0, 1) := by decide +kernel
theorem dX0_arrange_57 : decode cX0_arrange 57 = .ok (.istore_n 3, 1) := by decide +kernel
theorem dX0_arrange_58 : decode cX0_arrange 58 = .ok (.iload_n 3, 1) := by decide +kernel
theorem dX0_arrange_59 : decode cX0_arrange 59 = .ok (.aload_n 0, 1) := by decide +kernel
theorem dX0_arrange_60 : decode cX0_arrange 60 = .ok (.getfield 24, 3) := by decide +kernel
theorem dX0_arrange_63 : decode cX0_arrange 63 = .ok (.if_icmp .ge 15, 3) := by decide +kernel
theorem dX0_arrange_66 : decode cX0_arrange 66 = .ok (.aload_n 0, 1) := by decide +kernel
theorem dX0_arrange_67 : decode cX0_arrange 67 = .ok (.aload_n 1, 1) := by decide +kernel
theorem dX0_arrange_68 : decode cX0_arrange 68 = .ok (.iload_n 3, 1) := by decide +kernel
theorem dX0_arrange_69 : decode cX0_arrange 69 = .ok (.invokevirtual 49, 3) := by decide +kernel
theorem dX0_arrange_72 : decode cX0_arrange 72 = .ok (.iinc 3 1, 3) := by decide +kernel
theorem dX0_arrange_75 : decode cX0_arrange 75 = .ok (.goto (-17), 3) := by decide +kernel
theorem dX0_arrange_78 : decode cX0_arrange 78 = .ok (.return_, 1) := by decide +kernel
theorem dX0_addSheet_0 : decode cX0_addSheet 0 = .ok (.aload_n 0, 1) := by decide +kernel
theorem dX0_addSheet_1 : decode cX0_addSheet 1 = .ok (.getfield 24, 3) := by decide +kernel
theorem dX0_addSheet_4 : decode cX0_addSheet 4 = .ok (.bipush 100, 2) := by decide +kernel
theorem dX0_addSheet_6 : decode cX0_addSheet 6 = .ok (.if_icmp .ge 58, 3) := by decide +kernel
theorem dX0_addSheet_9 : decode cX0_addSheet 9 = .ok (.aload_n 0, 1) := by decide +kernel
theorem dX0_addSheet_10 : decode cX0_addSheet 10 = .ok (.getfield 28, 3) := by decide +kernel
theorem dX0_addSheet_13 : decode cX0_addSheet 13 = .ok (.iload_n 2, 1) := by decide +kernel
theorem dX0_addSheet_14 : decode cX0_addSheet 14 = .ok (.iadd, 1) := by decide +kernel
theorem dX0_addSheet_15 : decode cX0_addSheet 15 = .ok (.sipush 432, 3) := by decide +kernel
theorem dX0_addSheet_18 : decode cX0_addSheet 18 = .ok (.if_icmp .gt 46, 3) := by decide +kernel
theorem dX0_addSheet_21 : decode cX0_addSheet 21 = .ok (.aload_n 0, 1) := by decide +kernel
theorem dX0_addSheet_22 : decode cX0_addSheet 22 = .ok (.getfield 9, 3) := by decide +kernel
theorem dX0_addSheet_25 : decode cX0_addSheet 25 = .ok (.aload_n 0, 1) := by decide +kernel
theorem dX0_addSheet_26 : decode cX0_addSheet 26 = .ok (.getfield 24, 3) := by decide +kernel
theorem dX0_addSheet_29 : decode cX0_addSheet 29 = .ok (.iload_n 1, 1) := by decide +kernel
theorem dX0_addSheet_30 : decode cX0_addSheet 30 = .ok (.iastore, 1) := by decide +kernel
theorem dX0_addSheet_31 : decode cX0_addSheet 31 = .ok (.aload_n 0, 1) := by decide +kernel
theorem dX0_addSheet_32 : decode cX0_addSheet 32 = .ok (.getfield 15, 3) := by decide +kernel
theorem dX0_addSheet_35 : decode cX0_addSheet 35 = .ok (.aload_n 0, 1) := by decide +kernel
theorem dX0_addSheet_36 : decode cX0_addSheet 36 = .ok (.getfield 24, 3) := by decide +kernel
theorem dX0_addSheet_39 : decode cX0_addSheet 39 = .ok (.aload_n 0, 1) := by decide +kernel
theorem dX0_addSheet_40 : decode cX0_addSheet 40 = .ok (.getfield 28, 3) := by decide +kernel
theorem dX0_addSheet_43 : decode cX0_addSheet 43 = .ok (.iastore, 1) := by decide +kernel
theorem dX0_addSheet_44 : decode cX0_addSheet 44 = .ok (.aload_n 0, 1) := by decide +kernel
theorem dX0_addSheet_45 : decode cX0_addSheet 45 = .ok (.dup, 1) := by decide +kernel
theorem dX0_addSheet_46 : decode cX0_addSheet 46 = .ok (.getfield 24, 3) := by decide +kernel
theorem dX0_addSheet_49 : decode cX0_addSheet 49 = .ok (.iconst 1, 1) := by decide +kernel
theorem dX0_addSheet_50 : decode cX0_addSheet 50 = .ok (.iadd, 1) := by decide +kernel
theorem dX0_addSheet_51 : decode cX0_addSheet 51 = .ok (.putfield 24, 3) := by decide +kernel
theorem dX0_addSheet_54 : decode cX0_addSheet 54 = .ok (.aload_n 0, 1) := by decide +kernel
theorem dX0_addSheet_55 : decode cX0_addSheet 55 = .ok (.dup, 1) := by decide +kernel
theorem dX0_addSheet_56 : decode cX0_addSheet 56 = .ok (.getfield 28, 3) := by decide +kernel
theorem dX0_addSheet_59 : decode cX0_addSheet 59 = .ok (.iload_n 2, 1) := by decide +kernel
theorem dX0_addSheet_60 : decode cX0_addSheet 60 = .ok (.iadd, 1) := by decide +kernel
theorem dX0_addSheet_61 : decode cX0_addSheet 61 = .ok (.putfield 28, 3) := by decide +kernel
theorem dX0_addSheet_64 : decode cX0_addSheet 64 = .ok (.return_, 1) := by decide +kernel
theorem dX0_placePages_0 : decode cX0_placePages 0 = .ok (.iconst 1, 1) := by decide +kernel
theorem dX0_placePages_1 : decode cX0_placePages 1 = .ok (.istore_n 3, 1) := by decide +kernel
theorem dX0_placePages_2 : decode cX0_placePages 2 = .ok (.iload_n 3, 1) := by decide +kernel
theorem dX0_placePages_3 : decode cX0_placePages 3 = .ok (.aload_n 1, 1) := by decide +kernel
theorem dX0_placePages_4 : decode cX0_placePages 4 = .ok (.aload_n 0, 1) := by decide +kernel
theorem dX0_placePages_5 : decode cX0_placePages 5 = .ok (.getfield 9, 3) := by decide +kernel
theorem dX0_placePages_8 : decode cX0_placePages 8 = .ok (.iload_n 2, 1) := by decide +kernel
theorem dX0_placePages_9 : decode cX0_placePages 9 = .ok (.iaload, 1) := by decide +kernel
theorem dX0_placePages_10 : decode cX0_placePages 10 = .ok (.invokevirtual 41, 3) := by decide +kernel
theorem dX0_placePages_13 : decode cX0_placePages 13 = .ok (.if_icmp .gt 48, 3) := by decide +kernel
theorem dX0_placePages_16 : decode cX0_placePages 16 = .ok (.aload_n 0, 1) := by decide +kernel
theorem dX0_placePages_17 : decode cX0_placePages 17 = .ok (.aload_n 1, 1) := by decide +kernel
theorem dX0_placePages_18 : decode cX0_placePages 18 = .ok (.iload_n 2, 1) := by decide +kernel
theorem dX0_placePages_19 : decode cX0_placePages 19 = .ok (.iload_n 3, 1) := by decide +kernel
theorem dX0_placePages_20 : decode cX0_placePages 20 = .ok (.invokevirtual 53, 3) := by decide +kernel
theorem dX0_placePages_23 : decode cX0_placePages 23 = .ok (.istore 4, 2) := by decide +kernel
theorem dX0_placePages_25 : decode cX0_placePages 25 = .ok (.iload 4, 2) := by decide +kernel
theorem dX0_placePages_27 : decode cX0_placePages 27 = .ok (.iconst 1, 1) := by decide +kernel
theorem dX0_placePages_28 : decode cX0_placePages 28 = .ok (.if_icmp .lt 27, 3) := by decide +kernel
theorem dX0_placePages_31 : decode cX0_placePages 31 = .ok (.iload 4, 2) := by decide +kernel
theorem dX0_placePages_33 : decode cX0_placePages 33 = .ok (.sipush 432, 3) := by decide +kernel
theorem dX0_placePages_36 : decode cX0_placePages 36 = .ok (.if_icmp .gt 19, 3) := by decide +kernel
theorem dX0_placePages_39 : decode cX0_placePages 39 = .ok (.aload_n 0, 1) := by decide +kernel
theorem dX0_placePages_40 : decode cX0_placePages 40 = .ok (.getfield 18, 3) := by decide +kernel
theorem dX0_placePages_43 : decode cX0_placePages 43 = .ok (.iload 4, 2) := by decide +kernel
theorem dX0_placePages_45 : decode cX0_placePages 45 = .ok (.iload_n 2, 1) := by decide +kernel
theorem dX0_placePages_46 : decode cX0_placePages 46 = .ok (.iastore, 1) := by decide +kernel
theorem dX0_placePages_47 : decode cX0_placePages 47 = .ok (.aload_n 0, 1) := by decide +kernel
theorem dX0_placePages_48 : decode cX0_placePages 48 = .ok (.getfield 21, 3) := by decide +kernel
theorem dX0_placePages_51 : decode cX0_placePages 51 = .ok (.iload 4, 2) := by decide +kernel
theorem dX0_placePages_53 : decode cX0_placePages 53 = .ok (.iload_n 3, 1) := by decide +kernel
theorem dX0_placePages_54 : decode cX0_placePages 54 = .ok (.iastore, 1) := by decide +kernel
theorem dX0_placePages_55 : decode cX0_placePages 55 = .ok (.iinc 3 1, 3) := by decide +kernel
theorem dX0_placePages_58 : decode cX0_placePages 58 = .ok (.goto (-56), 3) := by decide +kernel
theorem dX0_placePages_61 : decode cX0_placePages 61 = .ok (.return_, 1) := by decide +kernel
theorem dX0_numberOf_0 : decode cX0_numberOf 0 = .ok (.aload_n 1, 1) := by decide +kernel
theorem dX0_numberOf_1 : decode cX0_numberOf 1 = .ok (.getfield 57, 3) := by decide +kernel
theorem dX0_numberOf_4 : decode cX0_numberOf 4 = .ok (.iconst 2, 1) := by decide +kernel
theorem dX0_numberOf_5 : decode cX0_numberOf 5 = .ok (.iaload, 1) := by decide +kernel
theorem dX0_numberOf_6 : decode cX0_numberOf 6 = .ok (.iconst 1, 1) := by decide +kernel
theorem dX0_numberOf_7 : decode cX0_numberOf 7 = .ok (.if_icmp .eq 12, 3) := by decide +kernel
theorem dX0_numberOf_10 : decode cX0_numberOf 10 = .ok (.aload_n 0, 1) := by decide +kernel
theorem dX0_numberOf_11 : decode cX0_numberOf 11 = .ok (.getfield 15, 3) := by decide +kernel
theorem dX0_numberOf_14 : decode cX0_numberOf 14 = .ok (.iload_n 2, 1) := by decide +kernel
theorem dX0_numberOf_15 : decode cX0_numberOf 15 = .ok (.iaload, 1) := by decide +kernel
theorem dX0_numberOf_16 : decode cX0_numberOf 16 = .ok (.iload_n 3, 1) := by decide +kernel
theorem dX0_numberOf_17 : decode cX0_numberOf 17 = .ok (.iadd, 1) := by decide +kernel
theorem dX0_numberOf_18 : decode cX0_numberOf 18 = .ok (.ireturn, 1) := by decide +kernel
theorem dX0_numberOf_19 : decode cX0_numberOf 19 = .ok (.aload_n 0, 1) := by decide +kernel
theorem dX0_numberOf_20 : decode cX0_numberOf 20 = .ok (.getfield 15, 3) := by decide +kernel
theorem dX0_numberOf_23 : decode cX0_numberOf 23 = .ok (.iload_n 2, 1) := by decide +kernel
theorem dX0_numberOf_24 : decode cX0_numberOf 24 = .ok (.iaload, 1) := by decide +kernel
theorem dX0_numberOf_25 : decode cX0_numberOf 25 = .ok (.iconst 2, 1) := by decide +kernel
theorem dX0_numberOf_26 : decode cX0_numberOf 26 = .ok (.idiv, 1) := by decide +kernel
theorem dX0_numberOf_27 : decode cX0_numberOf 27 = .ok (.istore 4, 2) := by decide +kernel
theorem dX0_numberOf_29 : decode cX0_numberOf 29 = .ok (.aload_n 1, 1) := by decide +kernel
theorem dX0_numberOf_30 : decode cX0_numberOf 30 = .ok (.aload_n 0, 1) := by decide +kernel
theorem dX0_numberOf_31 : decode cX0_numberOf 31 = .ok (.getfield 9, 3) := by decide +kernel
theorem dX0_numberOf_34 : decode cX0_numberOf 34 = .ok (.iload_n 2, 1) := by decide +kernel
theorem dX0_numberOf_35 : decode cX0_numberOf 35 = .ok (.iaload, 1) := by decide +kernel
theorem dX0_numberOf_36 : decode cX0_numberOf 36 = .ok (.invokevirtual 41, 3) := by decide +kernel
theorem dX0_numberOf_39 : decode cX0_numberOf 39 = .ok (.istore 5, 2) := by decide +kernel
theorem dX0_numberOf_41 : decode cX0_numberOf 41 = .ok (.iload_n 3, 1) := by decide +kernel
theorem dX0_numberOf_42 : decode cX0_numberOf 42 = .ok (.iload 5, 2) := by decide +kernel
theorem dX0_numberOf_44 : decode cX0_numberOf 44 = .ok (.iconst 2, 1) := by decide +kernel
theorem dX0_numberOf_45 : decode cX0_numberOf 45 = .ok (.idiv, 1) := by decide +kernel
theorem dX0_numberOf_46 : decode cX0_numberOf 46 = .ok (.if_icmp .gt 8, 3) := by decide +kernel
theorem dX0_numberOf_49 : decode cX0_numberOf 49 = .ok (.iload 4, 2) := by decide +kernel
theorem dX0_numberOf_51 : decode cX0_numberOf 51 = .ok (.iload_n 3, 1) := by decide +kernel
theorem dX0_numberOf_52 : decode cX0_numberOf 52 = .ok (.iadd, 1) := by decide +kernel
theorem dX0_numberOf_53 : decode cX0_numberOf 53 = .ok (.ireturn, 1) := by decide +kernel
theorem dX0_numberOf_54 : decode cX0_numberOf 54 = .ok (.aload_n 0, 1) := by decide +kernel
theorem dX0_numberOf_55 : decode cX0_numberOf 55 = .ok (.getfield 28, 3) := by decide +kernel
theorem dX0_numberOf_58 : decode cX0_numberOf 58 = .ok (.iload 4, 2) := by decide +kernel
theorem dX0_numberOf_60 : decode cX0_numberOf 60 = .ok (.isub, 1) := by decide +kernel
theorem dX0_numberOf_61 : decode cX0_numberOf 61 = .ok (.iload 5, 2) := by decide +kernel
theorem dX0_numberOf_63 : decode cX0_numberOf 63 = .ok (.iload_n 3, 1) := by decide +kernel
theorem dX0_numberOf_64 : decode cX0_numberOf 64 = .ok (.isub, 1) := by decide +kernel
theorem dX0_numberOf_65 : decode cX0_numberOf 65 = .ok (.isub, 1) := by decide +kernel
theorem dX0_numberOf_66 : decode cX0_numberOf 66 = .ok (.ireturn, 1) := by decide +kernel
theorem dX0_out_0 : decode cX0_out 0 = .ok (.aload_n 1, 1) := by decide +kernel
theorem dX0_out_1 : decode cX0_out 1 = .ok (.aload_n 0, 1) := by decide +kernel
theorem dX0_out_2 : decode cX0_out 2 = .ok (.getfield 9, 3) := by decide +kernel
theorem dX0_out_5 : decode cX0_out 5 = .ok (.iload_n 2, 1) := by decide +kernel
theorem dX0_out_6 : decode cX0_out 6 = .ok (.iaload, 1) := by decide +kernel
theorem dX0_out_7 : decode cX0_out 7 = .ok (.invokevirtual 41, 3) := by decide +kernel
theorem dX0_out_10 : decode cX0_out 10 = .ok (.iconst 2, 1) := by decide +kernel
theorem dX0_out_11 : decode cX0_out 11 = .ok (.idiv, 1) := by decide +kernel
theorem dX0_out_12 : decode cX0_out 12 = .ok (.istore 4, 2) := by decide +kernel
theorem dX0_out_14 : decode cX0_out 14 = .ok (.iload_n 3, 1) := by decide +kernel
theorem dX0_out_15 : decode cX0_out 15 = .ok (.iconst 1, 1) := by decide +kernel
theorem dX0_out_16 : decode cX0_out 16 = .ok (.isub, 1) := by decide +kernel
theorem dX0_out_17 : decode cX0_out 17 = .ok (.iconst 2, 1) := by decide +kernel
theorem dX0_out_18 : decode cX0_out 18 = .ok (.idiv, 1) := by decide +kernel
theorem dX0_out_19 : decode cX0_out 19 = .ok (.istore 5, 2) := by decide +kernel
theorem dX0_out_21 : decode cX0_out 21 = .ok (.iload 5, 2) := by decide +kernel
theorem dX0_out_23 : decode cX0_out 23 = .ok (.iload 4, 2) := by decide +kernel
theorem dX0_out_25 : decode cX0_out 25 = .ok (.iconst 1, 1) := by decide +kernel
theorem dX0_out_26 : decode cX0_out 26 = .ok (.isub, 1) := by decide +kernel
theorem dX0_out_27 : decode cX0_out 27 = .ok (.iload 5, 2) := by decide +kernel
theorem dX0_out_29 : decode cX0_out 29 = .ok (.isub, 1) := by decide +kernel
theorem dX0_out_30 : decode cX0_out 30 = .ok (.invokestatic 60, 3) := by decide +kernel
theorem dX0_out_33 : decode cX0_out 33 = .ok (.istore 6, 2) := by decide +kernel
theorem dX0_out_35 : decode cX0_out 35 = .ok (.aload_n 1, 1) := by decide +kernel
theorem dX0_out_36 : decode cX0_out 36 = .ok (.getfield 57, 3) := by decide +kernel
theorem dX0_out_39 : decode cX0_out 39 = .ok (.iconst 2, 1) := by decide +kernel
theorem dX0_out_40 : decode cX0_out 40 = .ok (.iaload, 1) := by decide +kernel
theorem dX0_out_41 : decode cX0_out 41 = .ok (.iconst 1, 1) := by decide +kernel
theorem dX0_out_42 : decode cX0_out 42 = .ok (.if_icmp .ne 17, 3) := by decide +kernel
theorem dX0_out_45 : decode cX0_out 45 = .ok (.iload 6, 2) := by decide +kernel
theorem dX0_out_47 : decode cX0_out 47 = .ok (.aload_n 0, 1) := by decide +kernel
theorem dX0_out_48 : decode cX0_out 48 = .ok (.getfield 15, 3) := by decide +kernel
theorem dX0_out_51 : decode cX0_out 51 = .ok (.iload_n 2, 1) := by decide +kernel
theorem dX0_out_52 : decode cX0_out 52 = .ok (.iaload, 1) := by decide +kernel
theorem dX0_out_53 : decode cX0_out 53 = .ok (.iconst 4, 1) := by decide +kernel
theorem dX0_out_54 : decode cX0_out 54 = .ok (.idiv, 1) := by decide +kernel
theorem dX0_out_55 : decode cX0_out 55 = .ok (.iadd, 1) := by decide +kernel
theorem dX0_out_56 : decode cX0_out 56 = .ok (.goto 5, 3) := by decide +kernel
theorem dX0_out_59 : decode cX0_out 59 = .ok (.iload 6, 2) := by decide +kernel
theorem dX0_out_61 : decode cX0_out 61 = .ok (.ireturn, 1) := by decide +kernel
theorem dX0_mostOut_0 : decode cX0_mostOut 0 = .ok (.aload_n 1, 1) := by decide +kernel
theorem dX0_mostOut_1 : decode cX0_mostOut 1 = .ok (.getfield 57, 3) := by decide +kernel
theorem dX0_mostOut_4 : decode cX0_mostOut 4 = .ok (.iconst 2, 1) := by decide +kernel
theorem dX0_mostOut_5 : decode cX0_mostOut 5 = .ok (.iaload, 1) := by decide +kernel
theorem dX0_mostOut_6 : decode cX0_mostOut 6 = .ok (.iconst 1, 1) := by decide +kernel
theorem dX0_mostOut_7 : decode cX0_mostOut 7 = .ok (.if_icmp .ne 10, 3) := by decide +kernel
theorem dX0_mostOut_10 : decode cX0_mostOut 10 = .ok (.aload_n 0, 1) := by decide +kernel
theorem dX0_mostOut_11 : decode cX0_mostOut 11 = .ok (.getfield 28, 3) := by decide +kernel
theorem dX0_mostOut_14 : decode cX0_mostOut 14 = .ok (.goto 13, 3) := by decide +kernel
theorem dX0_mostOut_17 : decode cX0_mostOut 17 = .ok (.aload_n 1, 1) := by decide +kernel
theorem dX0_mostOut_18 : decode cX0_mostOut 18 = .ok (.aload_n 0, 1) := by decide +kernel
theorem dX0_mostOut_19 : decode cX0_mostOut 19 = .ok (.getfield 9, 3) := by decide +kernel
theorem dX0_mostOut_22 : decode cX0_mostOut 22 = .ok (.iload_n 2, 1) := by decide +kernel
theorem dX0_mostOut_23 : decode cX0_mostOut 23 = .ok (.iaload, 1) := by decide +kernel
theorem dX0_mostOut_24 : decode cX0_mostOut 24 = .ok (.invokevirtual 41, 3) := by decide +kernel
theorem dX0_mostOut_27 : decode cX0_mostOut 27 = .ok (.istore_n 3, 1) := by decide +kernel
theorem dX0_mostOut_28 : decode cX0_mostOut 28 = .ok (.iload_n 3, 1) := by decide +kernel
theorem dX0_mostOut_29 : decode cX0_mostOut 29 = .ok (.iconst 4, 1) := by decide +kernel
theorem dX0_mostOut_30 : decode cX0_mostOut 30 = .ok (.idiv, 1) := by decide +kernel
theorem dX0_mostOut_31 : decode cX0_mostOut 31 = .ok (.iconst 1, 1) := by decide +kernel
theorem dX0_mostOut_32 : decode cX0_mostOut 32 = .ok (.isub, 1) := by decide +kernel
theorem dX0_mostOut_33 : decode cX0_mostOut 33 = .ok (.ireturn, 1) := by decide +kernel
theorem dX0_moved_0 : decode cX0_moved 0 = .ok (.aload_n 1, 1) := by decide +kernel
theorem dX0_moved_1 : decode cX0_moved 1 = .ok (.getfield 57, 3) := by decide +kernel
theorem dX0_moved_4 : decode cX0_moved 4 = .ok (.iconst 1, 1) := by decide +kernel
theorem dX0_moved_5 : decode cX0_moved 5 = .ok (.iaload, 1) := by decide +kernel
theorem dX0_moved_6 : decode cX0_moved 6 = .ok (.istore 4, 2) := by decide +kernel
theorem dX0_moved_8 : decode cX0_moved 8 = .ok (.iload 4, 2) := by decide +kernel
theorem dX0_moved_10 : decode cX0_moved 10 = .ok (.aload_n 0, 1) := by decide +kernel
theorem dX0_moved_11 : decode cX0_moved 11 = .ok (.aload_n 1, 1) := by decide +kernel
theorem dX0_moved_12 : decode cX0_moved 12 = .ok (.iload_n 2, 1) := by decide +kernel
theorem dX0_moved_13 : decode cX0_moved 13 = .ok (.iload_n 3, 1) := by decide +kernel
theorem dX0_moved_14 : decode cX0_moved 14 = .ok (.invokevirtual 66, 3) := by decide +kernel
theorem dX0_moved_17 : decode cX0_moved 17 = .ok (.imul, 1) := by decide +kernel
theorem dX0_moved_18 : decode cX0_moved 18 = .ok (.iload 4, 2) := by decide +kernel
theorem dX0_moved_20 : decode cX0_moved 20 = .ok (.aload_n 0, 1) := by decide +kernel
theorem dX0_moved_21 : decode cX0_moved 21 = .ok (.aload_n 1, 1) := by decide +kernel
theorem dX0_moved_22 : decode cX0_moved 22 = .ok (.iload_n 2, 1) := by decide +kernel
theorem dX0_moved_23 : decode cX0_moved 23 = .ok (.invokevirtual 69, 3) := by decide +kernel
theorem dX0_moved_26 : decode cX0_moved 26 = .ok (.imul, 1) := by decide +kernel
theorem dX0_moved_27 : decode cX0_moved 27 = .ok (.iconst 2, 1) := by decide +kernel
theorem dX0_moved_28 : decode cX0_moved 28 = .ok (.idiv, 1) := by decide +kernel
theorem dX0_moved_29 : decode cX0_moved 29 = .ok (.isub, 1) := by decide +kernel
theorem dX0_moved_30 : decode cX0_moved 30 = .ok (.ireturn, 1) := by decide +kernel
theorem dX0_blanksOn_0 : decode cX0_blanksOn 0 = .ok (.iconst 0, 1) := by decide +kernel
theorem dX0_blanksOn_1 : decode cX0_blanksOn 1 = .ok (.istore_n 3, 1) := by decide +kernel
theorem dX0_blanksOn_2 : decode cX0_blanksOn 2 = .ok (.iconst 1, 1) := by decide +kernel
theorem dX0_blanksOn_3 : decode cX0_blanksOn 3 = .ok (.istore 4, 2) := by decide +kernel
theorem dX0_blanksOn_5 : decode cX0_blanksOn 5 = .ok (.iload 4, 2) := by decide +kernel
theorem dX0_blanksOn_7 : decode cX0_blanksOn 7 = .ok (.aload_n 1, 1) := by decide +kernel
theorem dX0_blanksOn_8 : decode cX0_blanksOn 8 = .ok (.aload_n 0, 1) := by decide +kernel
theorem dX0_blanksOn_9 : decode cX0_blanksOn 9 = .ok (.getfield 9, 3) := by decide +kernel
theorem dX0_blanksOn_12 : decode cX0_blanksOn 12 = .ok (.iload_n 2, 1) := by decide +kernel
theorem dX0_blanksOn_13 : decode cX0_blanksOn 13 = .ok (.iaload, 1) := by decide +kernel
theorem dX0_blanksOn_14 : decode cX0_blanksOn 14 = .ok (.invokevirtual 41, 3) := by decide +kernel
theorem dX0_blanksOn_17 : decode cX0_blanksOn 17 = .ok (.if_icmp .gt 29, 3) := by decide +kernel
theorem dX0_blanksOn_20 : decode cX0_blanksOn 20 = .ok (.aload_n 0, 1) := by decide +kernel
theorem dX0_blanksOn_21 : decode cX0_blanksOn 21 = .ok (.aload_n 1, 1) := by decide +kernel
theorem dX0_blanksOn_22 : decode cX0_blanksOn 22 = .ok (.iload_n 2, 1) := by decide +kernel
theorem dX0_blanksOn_23 : decode cX0_blanksOn 23 = .ok (.iload 4, 2) := by decide +kernel
theorem dX0_blanksOn_25 : decode cX0_blanksOn 25 = .ok (.invokevirtual 53, 3) := by decide +kernel
theorem dX0_blanksOn_28 : decode cX0_blanksOn 28 = .ok (.aload_n 1, 1) := by decide +kernel
theorem dX0_blanksOn_29 : decode cX0_blanksOn 29 = .ok (.getfield 57, 3) := by decide +kernel
theorem dX0_blanksOn_32 : decode cX0_blanksOn 32 = .ok (.iconst 0, 1) := by decide +kernel
theorem dX0_blanksOn_33 : decode cX0_blanksOn 33 = .ok (.iaload, 1) := by decide +kernel
theorem dX0_blanksOn_34 : decode cX0_blanksOn 34 = .ok (.if_icmp .le 6, 3) := by decide +kernel
theorem dX0_blanksOn_37 : decode cX0_blanksOn 37 = .ok (.iinc 3 1, 3) := by decide +kernel
theorem dX0_blanksOn_40 : decode cX0_blanksOn 40 = .ok (.iinc 4 1, 3) := by decide +kernel
theorem dX0_blanksOn_43 : decode cX0_blanksOn 43 = .ok (.goto (-38), 3) := by decide +kernel
theorem dX0_blanksOn_46 : decode cX0_blanksOn 46 = .ok (.iload_n 3, 1) := by decide +kernel
theorem dX0_blanksOn_47 : decode cX0_blanksOn 47 = .ok (.ireturn, 1) := by decide +kernel
theorem dX1_init_0 : decode cX1_init 0 = .ok (.aload_n 0, 1) := by decide +kernel
theorem dX1_init_1 : decode cX1_init 1 = .ok (.invokespecial 3, 3) := by decide +kernel
theorem dX1_init_4 : decode cX1_init 4 = .ok (.aload_n 0, 1) := by decide +kernel
theorem dX1_init_5 : decode cX1_init 5 = .ok (.bipush 6, 2) := by decide +kernel
theorem dX1_init_7 : decode cX1_init 7 = .ok (.anewarray 9, 3) := by decide +kernel
theorem dX1_init_10 : decode cX1_init 10 = .ok (.putfield 11, 3) := by decide +kernel
theorem dX1_init_13 : decode cX1_init 13 = .ok (.iconst 0, 1) := by decide +kernel
theorem dX1_init_14 : decode cX1_init 14 = .ok (.istore_n 1, 1) := by decide +kernel
theorem dX1_init_15 : decode cX1_init 15 = .ok (.iload_n 1, 1) := by decide +kernel
theorem dX1_init_16 : decode cX1_init 16 = .ok (.bipush 6, 2) := by decide +kernel
theorem dX1_init_18 : decode cX1_init 18 = .ok (.if_icmp .ge 22, 3) := by decide +kernel
theorem dX1_init_21 : decode cX1_init 21 = .ok (.aload_n 0, 1) := by decide +kernel
theorem dX1_init_22 : decode cX1_init 22 = .ok (.getfield 11, 3) := by decide +kernel
theorem dX1_init_25 : decode cX1_init 25 = .ok (.iload_n 1, 1) := by decide +kernel
theorem dX1_init_26 : decode cX1_init 26 = .ok (.new 9, 3) := by decide +kernel
theorem dX1_init_29 : decode cX1_init 29 = .ok (.dup, 1) := by decide +kernel
theorem dX1_init_30 : decode cX1_init 30 = .ok (.invokespecial 17, 3) := by decide +kernel
theorem dX1_init_33 : decode cX1_init 33 = .ok (.aastore, 1) := by decide +kernel
theorem dX1_init_34 : decode cX1_init 34 = .ok (.iinc 1 1, 3) := by decide +kernel
theorem dX1_init_37 : decode cX1_init 37 = .ok (.goto (-22), 3) := by decide +kernel
theorem dX1_init_40 : decode cX1_init 40 = .ok (.return_, 1) := by decide +kernel
theorem dX1_keep_0 : decode cX1_keep 0 = .ok (.aload_n 0, 1) := by decide +kernel
theorem dX1_keep_1 : decode cX1_keep 1 = .ok (.getfield 18, 3) := by decide +kernel
theorem dX1_keep_4 : decode cX1_keep 4 = .ok (.bipush 6, 2) := by decide +kernel
theorem dX1_keep_6 : decode cX1_keep 6 = .ok (.if_icmp .lt 7, 3) := by decide +kernel
theorem dX1_keep_9 : decode cX1_keep 9 = .ok (.aload_n 0, 1) := by decide +kernel
theorem dX1_keep_10 : decode cX1_keep 10 = .ok (.invokevirtual 22, 3) := by decide +kernel
theorem dX1_keep_13 : decode cX1_keep 13 = .ok (.aload_n 0, 1) := by decide +kernel
theorem dX1_keep_14 : decode cX1_keep 14 = .ok (.getfield 11, 3) := by decide +kernel
theorem dX1_keep_17 : decode cX1_keep 17 = .ok (.aload_n 0, 1) := by decide +kernel
theorem dX1_keep_18 : decode cX1_keep 18 = .ok (.getfield 18, 3) := by decide +kernel
theorem dX1_keep_21 : decode cX1_keep 21 = .ok (.aaload, 1) := by decide +kernel
theorem dX1_keep_22 : decode cX1_keep 22 = .ok (.aload_n 1, 1) := by decide +kernel
theorem dX1_keep_23 : decode cX1_keep 23 = .ok (.invokevirtual 25, 3) := by decide +kernel
theorem dX1_keep_26 : decode cX1_keep 26 = .ok (.aload_n 0, 1) := by decide +kernel
theorem dX1_keep_27 : decode cX1_keep 27 = .ok (.dup, 1) := by decide +kernel
theorem dX1_keep_28 : decode cX1_keep 28 = .ok (.getfield 18, 3) := by decide +kernel
theorem dX1_keep_31 : decode cX1_keep 31 = .ok (.iconst 1, 1) := by decide +kernel
theorem dX1_keep_32 : decode cX1_keep 32 = .ok (.iadd, 1) := by decide +kernel
theorem dX1_keep_33 : decode cX1_keep 33 = .ok (.putfield 18, 3) := by decide +kernel
theorem dX1_keep_36 : decode cX1_keep 36 = .ok (.return_, 1) := by decide +kernel
theorem dX1_forgetOldest_0 : decode cX1_forgetOldest 0 = .ok (.aload_n 0, 1) := by decide +kernel
theorem dX1_forgetOldest_1 : decode cX1_forgetOldest 1 = .ok (.getfield 11, 3) := by decide +kernel
theorem dX1_forgetOldest_4 : decode cX1_forgetOldest 4 = .ok (.iconst 0, 1) := by decide +kernel
theorem dX1_forgetOldest_5 : decode cX1_forgetOldest 5 = .ok (.aaload, 1) := by decide +kernel
theorem dX1_forgetOldest_6 : decode cX1_forgetOldest 6 = .ok (.astore_n 1, 1) := by decide +kernel
theorem dX1_forgetOldest_7 : decode cX1_forgetOldest 7 = .ok (.iconst 1, 1) := by decide +kernel
theorem dX1_forgetOldest_8 : decode cX1_forgetOldest 8 = .ok (.istore_n 2, 1) := by decide +kernel
theorem dX1_forgetOldest_9 : decode cX1_forgetOldest 9 = .ok (.iload_n 2, 1) := by decide +kernel
theorem dX1_forgetOldest_10 : decode cX1_forgetOldest 10 = .ok (.bipush 6, 2) := by decide +kernel
theorem dX1_forgetOldest_12 : decode cX1_forgetOldest 12 = .ok (.if_icmp .ge 23, 3) := by decide +kernel
theorem dX1_forgetOldest_15 : decode cX1_forgetOldest 15 = .ok (.aload_n 0, 1) := by decide +kernel
theorem dX1_forgetOldest_16 : decode cX1_forgetOldest 16 = .ok (.getfield 11, 3) := by decide +kernel
theorem dX1_forgetOldest_19 : decode cX1_forgetOldest 19 = .ok (.iload_n 2, 1) := by decide +kernel
theorem dX1_forgetOldest_20 : decode cX1_forgetOldest 20 = .ok (.iconst 1, 1) := by decide +kernel
theorem dX1_forgetOldest_21 : decode cX1_forgetOldest 21 = .ok (.isub, 1) := by decide +kernel
theorem dX1_forgetOldest_22 : decode cX1_forgetOldest 22 = .ok (.aload_n 0, 1) := by decide +kernel
theorem dX1_forgetOldest_23 : decode cX1_forgetOldest 23 = .ok (.getfield 11, 3) := by decide +kernel
theorem dX1_forgetOldest_26 : decode cX1_forgetOldest 26 = .ok (.iload_n 2, 1) := by decide +kernel
theorem dX1_forgetOldest_27 : decode cX1_forgetOldest 27 = .ok (.aaload, 1) := by decide +kernel
theorem dX1_forgetOldest_28 : decode cX1_forgetOldest 28 = .ok (.aastore, 1) := by decide +kernel
theorem dX1_forgetOldest_29 : decode cX1_forgetOldest 29 = .ok (.iinc 2 1, 3) := by decide +kernel
theorem dX1_forgetOldest_32 : decode cX1_forgetOldest 32 = .ok (.goto (-23), 3) := by decide +kernel
theorem dX1_forgetOldest_35 : decode cX1_forgetOldest 35 = .ok (.aload_n 0, 1) := by decide +kernel
theorem dX1_forgetOldest_36 : decode cX1_forgetOldest 36 = .ok (.getfield 11, 3) := by decide +kernel
theorem dX1_forgetOldest_39 : decode cX1_forgetOldest 39 = .ok (.iconst 5, 1) := by decide +kernel
theorem dX1_forgetOldest_40 : decode cX1_forgetOldest 40 = .ok (.aload_n 1, 1) := by decide +kernel
theorem dX1_forgetOldest_41 : decode cX1_forgetOldest 41 = .ok (.aastore, 1) := by decide +kernel
theorem dX1_forgetOldest_42 : decode cX1_forgetOldest 42 = .ok (.aload_n 0, 1) := by decide +kernel
theorem dX1_forgetOldest_43 : decode cX1_forgetOldest 43 = .ok (.iconst 5, 1) := by decide +kernel
theorem dX1_forgetOldest_44 : decode cX1_forgetOldest 44 = .ok (.putfield 18, 3) := by decide +kernel
theorem dX1_forgetOldest_47 : decode cX1_forgetOldest 47 = .ok (.return_, 1) := by decide +kernel
theorem dX1_bringBack_0 : decode cX1_bringBack 0 = .ok (.aload_n 0, 1) := by decide +kernel
theorem dX1_bringBack_1 : decode cX1_bringBack 1 = .ok (.getfield 18, 3) := by decide +kernel
theorem dX1_bringBack_4 : decode cX1_bringBack 4 = .ok (.ifCond .le 26, 3) := by decide +kernel
theorem dX1_bringBack_7 : decode cX1_bringBack 7 = .ok (.aload_n 0, 1) := by decide +kernel
theorem dX1_bringBack_8 : decode cX1_bringBack 8 = .ok (.dup, 1) := by decide +kernel
theorem dX1_bringBack_9 : decode cX1_bringBack 9 = .ok (.getfield 18, 3) := by decide +kernel
theorem dX1_bringBack_12 : decode cX1_bringBack 12 = .ok (.iconst 1, 1) := by decide +kernel
theorem dX1_bringBack_13 : decode cX1_bringBack 13 = .ok (.isub, 1) := by decide +kernel
theorem dX1_bringBack_14 : decode cX1_bringBack 14 = .ok (.putfield 18, 3) := by decide +kernel
theorem dX1_bringBack_17 : decode cX1_bringBack 17 = .ok (.aload_n 1, 1) := by decide +kernel
theorem dX1_bringBack_18 : decode cX1_bringBack 18 = .ok (.aload_n 0, 1) := by decide +kernel
theorem dX1_bringBack_19 : decode cX1_bringBack 19 = .ok (.getfield 11, 3) := by decide +kernel
theorem dX1_bringBack_22 : decode cX1_bringBack 22 = .ok (.aload_n 0, 1) := by decide +kernel
theorem dX1_bringBack_23 : decode cX1_bringBack 23 = .ok (.getfield 18, 3) := by decide +kernel
theorem dX1_bringBack_26 : decode cX1_bringBack 26 = .ok (.aaload, 1) := by decide +kernel
theorem dX1_bringBack_27 : decode cX1_bringBack 27 = .ok (.invokevirtual 25, 3) := by decide +kernel
theorem dX1_bringBack_30 : decode cX1_bringBack 30 = .ok (.return_, 1) := by decide +kernel
theorem dX2_init_0 : decode cX2_init 0 = .ok (.aload_n 0, 1) := by decide +kernel
theorem dX2_init_1 : decode cX2_init 1 = .ok (.invokespecial 3, 3) := by decide +kernel
theorem dX2_init_4 : decode cX2_init 4 = .ok (.aload_n 0, 1) := by decide +kernel
theorem dX2_init_5 : decode cX2_init 5 = .ok (.new 9, 3) := by decide +kernel
theorem dX2_init_8 : decode cX2_init 8 = .ok (.dup, 1) := by decide +kernel
theorem dX2_init_9 : decode cX2_init 9 = .ok (.invokespecial 11, 3) := by decide +kernel
theorem dX2_init_12 : decode cX2_init 12 = .ok (.putfield 12, 3) := by decide +kernel
theorem dX2_init_15 : decode cX2_init 15 = .ok (.aload_n 0, 1) := by decide +kernel
theorem dX2_init_16 : decode cX2_init 16 = .ok (.sipush 2048, 3) := by decide +kernel
theorem dX2_init_19 : decode cX2_init 19 = .ok (.newarray .int, 2) := by decide +kernel
theorem dX2_init_21 : decode cX2_init 21 = .ok (.putfield 18, 3) := by decide +kernel
theorem dX2_init_24 : decode cX2_init 24 = .ok (.return_, 1) := by decide +kernel
theorem dX2_isTried_0 : decode cX2_isTried 0 = .ok (.iload_n 2, 1) := by decide +kernel
theorem dX2_isTried_1 : decode cX2_isTried 1 = .ok (.invokestatic 22, 3) := by decide +kernel
theorem dX2_isTried_4 : decode cX2_isTried 4 = .ok (.invokestatic 26, 3) := by decide +kernel
theorem dX2_isTried_7 : decode cX2_isTried 7 = .ok (.ifCond .ne 5, 3) := by decide +kernel
theorem dX2_isTried_10 : decode cX2_isTried 10 = .ok (.iconst 0, 1) := by decide +kernel
theorem dX2_isTried_11 : decode cX2_isTried 11 = .ok (.ireturn, 1) := by decide +kernel
theorem dX2_isTried_12 : decode cX2_isTried 12 = .ok (.aload_n 0, 1) := by decide +kernel
theorem dX2_isTried_13 : decode cX2_isTried 13 = .ok (.getfield 12, 3) := by decide +kernel
theorem dX2_isTried_16 : decode cX2_isTried 16 = .ok (.iload_n 1, 1) := by decide +kernel
theorem dX2_isTried_17 : decode cX2_isTried 17 = .ok (.iload_n 2, 1) := by decide +kernel
theorem dX2_isTried_18 : decode cX2_isTried 18 = .ok (.invokevirtual 30, 3) := by decide +kernel
theorem dX2_isTried_21 : decode cX2_isTried 21 = .ok (.iconst 1, 1) := by decide +kernel
theorem dX2_isTried_22 : decode cX2_isTried 22 = .ok (.ireturn, 1) := by decide +kernel
theorem dX2_codesOf_0 : decode cX2_codesOf 0 = .ok (.iconst 1, 1) := by decide +kernel
theorem dX2_codesOf_1 : decode cX2_codesOf 1 = .ok (.iconst 2, 1) := by decide +kernel
theorem dX2_codesOf_2 : decode cX2_codesOf 2 = .ok (.iload_n 0, 1) := by decide +kernel
theorem dX2_codesOf_3 : decode cX2_codesOf 3 = .ok (.imul, 1) := by decide +kernel
theorem dX2_codesOf_4 : decode cX2_codesOf 4 = .ok (.ishl, 1) := by decide +kernel
theorem dX2_codesOf_5 : decode cX2_codesOf 5 = .ok (.ireturn, 1) := by decide +kernel
theorem dX2_firstWith_0 : decode cX2_firstWith 0 = .ok (.iconst 0, 1) := by decide +kernel
theorem dX2_firstWith_1 : decode cX2_firstWith 1 = .ok (.istore 6, 2) := by decide +kernel
theorem dX2_firstWith_3 : decode cX2_firstWith 3 = .ok (.iload 6, 2) := by decide +kernel
theorem dX2_firstWith_5 : decode cX2_firstWith 5 = .ok (.iload_n 1, 1) := by decide +kernel
theorem dX2_firstWith_6 : decode cX2_firstWith 6 = .ok (.invokestatic 34, 3) := by decide +kernel
theorem dX2_firstWith_9 : decode cX2_firstWith 9 = .ok (.if_icmp .ge 52, 3) := by decide +kernel
theorem dX2_firstWith_12 : decode cX2_firstWith 12 = .ok (.aload_n 0, 1) := by decide +kernel
theorem dX2_firstWith_13 : decode cX2_firstWith 13 = .ok (.iload_n 1, 1) := by decide +kernel
theorem dX2_firstWith_14 : decode cX2_firstWith 14 = .ok (.iload 6, 2) := by decide +kernel
theorem dX2_firstWith_16 : decode cX2_firstWith 16 = .ok (.invokevirtual 37, 3) := by decide +kernel
theorem dX2_firstWith_19 : decode cX2_firstWith 19 = .ok (.ifCond .eq 36, 3) := by decide +kernel
theorem dX2_firstWith_22 : decode cX2_firstWith 22 = .ok (.aload_n 0, 1) := by decide +kernel
theorem dX2_firstWith_23 : decode cX2_firstWith 23 = .ok (.getfield 12, 3) := by decide +kernel
theorem dX2_firstWith_26 : decode cX2_firstWith 26 = .ok (.iload 4, 2) := by decide +kernel
theorem dX2_firstWith_28 : decode cX2_firstWith 28 = .ok (.iload 5, 2) := by decide +kernel
theorem dX2_firstWith_30 : decode cX2_firstWith 30 = .ok (.invokevirtual 41, 3) := by decide +kernel
theorem dX2_firstWith_33 : decode cX2_firstWith 33 = .ok (.ifCond .eq 22, 3) := by decide +kernel
theorem dX2_firstWith_36 : decode cX2_firstWith 36 = .ok (.aload_n 0, 1) := by decide +kernel
theorem dX2_firstWith_37 : decode cX2_firstWith 37 = .ok (.getfield 12, 3) := by decide +kernel
theorem dX2_firstWith_40 : decode cX2_firstWith 40 = .ok (.iload_n 3, 1) := by decide +kernel
theorem dX2_firstWith_41 : decode cX2_firstWith 41 = .ok (.iload 4, 2) := by decide +kernel
theorem dX2_firstWith_43 : decode cX2_firstWith 43 = .ok (.iload 5, 2) := by decide +kernel
theorem dX2_firstWith_45 : decode cX2_firstWith 45 = .ok (.invokevirtual 44, 3) := by decide +kernel
theorem dX2_firstWith_48 : decode cX2_firstWith 48 = .ok (.iload_n 2, 1) := by decide +kernel
theorem dX2_firstWith_49 : decode cX2_firstWith 49 = .ok (.if_icmp .ne 6, 3) := by decide +kernel
theorem dX2_firstWith_52 : decode cX2_firstWith 52 = .ok (.iload 6, 2) := by decide +kernel
theorem dX2_firstWith_54 : decode cX2_firstWith 54 = .ok (.ireturn, 1) := by decide +kernel
theorem dX2_firstWith_55 : decode cX2_firstWith 55 = .ok (.iinc 6 1, 3) := by decide +kernel
theorem dX2_firstWith_58 : decode cX2_firstWith 58 = .ok (.goto (-55), 3) := by decide +kernel
theorem dX2_firstWith_61 : decode cX2_firstWith 61 = .ok (.bipush (-4), 2) := by decide +kernel
theorem dX2_firstWith_63 : decode cX2_firstWith 63 = .ok (.ireturn, 1) := by decide +kernel
theorem dX2_alikeTo_0 : decode cX2_alikeTo 0 = .ok (.iconst 0, 1) := by decide +kernel
theorem dX2_alikeTo_1 : decode cX2_alikeTo 1 = .ok (.istore_n 3, 1) := by decide +kernel
theorem dX2_alikeTo_2 : decode cX2_alikeTo 2 = .ok (.iconst 0, 1) := by decide +kernel
theorem dX2_alikeTo_3 : decode cX2_alikeTo 3 = .ok (.istore 4, 2) := by decide +kernel
theorem dX2_alikeTo_5 : decode cX2_alikeTo 5 = .ok (.iload 4, 2) := by decide +kernel
theorem dX2_alikeTo_7 : decode cX2_alikeTo 7 = .ok (.iload_n 2, 1) := by decide +kernel
theorem dX2_alikeTo_8 : decode cX2_alikeTo 8 = .ok (.invokestatic 34, 3) := by decide +kernel
theorem dX2_alikeTo_11 : decode cX2_alikeTo 11 = .ok (.if_icmp .ge 30, 3) := by decide +kernel
theorem dX2_alikeTo_14 : decode cX2_alikeTo 14 = .ok (.aload_n 0, 1) := by decide +kernel
theorem dX2_alikeTo_15 : decode cX2_alikeTo 15 = .ok (.iload_n 2, 1) := by decide +kernel
theorem dX2_alikeTo_16 : decode cX2_alikeTo 16 = .ok (.iload 4, 2) := by decide +kernel
theorem dX2_alikeTo_18 : decode cX2_alikeTo 18 = .ok (.invokevirtual 37, 3) := by decide +kernel
theorem dX2_alikeTo_21 : decode cX2_alikeTo 21 = .ok (.ifCond .eq 14, 3) := by decide +kernel
theorem dX2_alikeTo_24 : decode cX2_alikeTo 24 = .ok (.aload_n 0, 1) := by decide +kernel
theorem dX2_alikeTo_25 : decode cX2_alikeTo 25 = .ok (.aload_n 1, 1) := by decide +kernel
theorem dX2_alikeTo_26 : decode cX2_alikeTo 26 = .ok (.invokevirtual 48, 3) := by decide +kernel
theorem dX2_alikeTo_29 : decode cX2_alikeTo 29 = .ok (.ifCond .eq 6, 3) := by decide +kernel
theorem dX2_alikeTo_32 : decode cX2_alikeTo 32 = .ok (.iinc 3 1, 3) := by decide +kernel
theorem dX2_alikeTo_35 : decode cX2_alikeTo 35 = .ok (.iinc 4 1, 3) := by decide +kernel
theorem dX2_alikeTo_38 : decode cX2_alikeTo 38 = .ok (.goto (-33), 3) := by decide +kernel
theorem dX2_alikeTo_41 : decode cX2_alikeTo 41 = .ok (.iload_n 3, 1) := by decide +kernel
theorem dX2_alikeTo_42 : decode cX2_alikeTo 42 = .ok (.ireturn, 1) := by decide +kernel
theorem dX2_isTriedAlike_0 : decode cX2_isTriedAlike 0 = .ok (.iconst 0, 1) := by decide +kernel
theorem dX2_isTriedAlike_1 : decode cX2_isTriedAlike 1 = .ok (.istore_n 2, 1) := by decide +kernel
theorem dX2_isTriedAlike_2 : decode cX2_isTriedAlike 2 = .ok (.iload_n 2, 1) := by decide +kernel
theorem dX2_isTriedAlike_3 : decode cX2_isTriedAlike 3 = .ok (.aload_n 0, 1) := by decide +kernel
theorem dX2_isTriedAlike_4 : decode cX2_isTriedAlike 4 = .ok (.getfield 12, 3) := by decide +kernel
theorem dX2_isTriedAlike_7 : decode cX2_isTriedAlike 7 = .ok (.invokevirtual 52, 3) := by decide +kernel
theorem dX2_isTriedAlike_10 : decode cX2_isTriedAlike 10 = .ok (.if_icmp .ge 27, 3) := by decide +kernel
theorem dX2_isTriedAlike_13 : decode cX2_isTriedAlike 13 = .ok (.aload_n 0, 1) := by decide +kernel
theorem dX2_isTriedAlike_14 : decode cX2_isTriedAlike 14 = .ok (.getfield 12, 3) := by decide +kernel
theorem dX2_isTriedAlike_17 : decode cX2_isTriedAlike 17 = .ok (.iload_n 2, 1) := by decide +kernel
theorem dX2_isTriedAlike_18 : decode cX2_isTriedAlike 18 = .ok (.invokevirtual 56, 3) := by decide +kernel
theorem dX2_isTriedAlike_21 : decode cX2_isTriedAlike 21 = .ok (.aload_n 1, 1) := by decide +kernel
theorem dX2_isTriedAlike_22 : decode cX2_isTriedAlike 22 = .ok (.iload_n 2, 1) := by decide +kernel
theorem dX2_isTriedAlike_23 : decode cX2_isTriedAlike 23 = .ok (.invokevirtual 56, 3) := by decide +kernel
theorem dX2_isTriedAlike_26 : decode cX2_isTriedAlike 26 = .ok (.if_icmp .eq 5, 3) := by decide +kernel
theorem dX2_isTriedAlike_29 : decode cX2_isTriedAlike 29 = .ok (.iconst 0, 1) := by decide +kernel
theorem dX2_isTriedAlike_30 : decode cX2_isTriedAlike 30 = .ok (.ireturn, 1) := by decide +kernel
theorem dX2_isTriedAlike_31 : decode cX2_isTriedAlike 31 = .ok (.iinc 2 1, 3) := by decide +kernel
theorem dX2_isTriedAlike_34 : decode cX2_isTriedAlike 34 = .ok (.goto (-32), 3) := by decide +kernel
theorem dX2_isTriedAlike_37 : decode cX2_isTriedAlike 37 = .ok (.iconst 1, 1) := by decide +kernel
theorem dX2_isTriedAlike_38 : decode cX2_isTriedAlike 38 = .ok (.ireturn, 1) := by decide +kernel
theorem dX2_unlikeOnes_0 : decode cX2_unlikeOnes 0 = .ok (.iconst 0, 1) := by decide +kernel
theorem dX2_unlikeOnes_1 : decode cX2_unlikeOnes 1 = .ok (.istore_n 2, 1) := by decide +kernel
theorem dX2_unlikeOnes_2 : decode cX2_unlikeOnes 2 = .ok (.iconst 0, 1) := by decide +kernel
theorem dX2_unlikeOnes_3 : decode cX2_unlikeOnes 3 = .ok (.istore_n 3, 1) := by decide +kernel
theorem dX2_unlikeOnes_4 : decode cX2_unlikeOnes 4 = .ok (.iload_n 3, 1) := by decide +kernel
theorem dX2_unlikeOnes_5 : decode cX2_unlikeOnes 5 = .ok (.iload_n 1, 1) := by decide +kernel
theorem dX2_unlikeOnes_6 : decode cX2_unlikeOnes 6 = .ok (.invokestatic 34, 3) := by decide +kernel
theorem dX2_unlikeOnes_9 : decode cX2_unlikeOnes 9 = .ok (.if_icmp .ge 41, 3) := by decide +kernel
theorem dX2_unlikeOnes_12 : decode cX2_unlikeOnes 12 = .ok (.iload_n 2, 1) := by decide +kernel
theorem dX2_unlikeOnes_13 : decode cX2_unlikeOnes 13 = .ok (.sipush 128, 3) := by decide +kernel
theorem dX2_unlikeOnes_16 : decode cX2_unlikeOnes 16 = .ok (.if_icmp .ge 34, 3) := by decide +kernel
theorem dX2_unlikeOnes_19 : decode cX2_unlikeOnes 19 = .ok (.aload_n 0, 1) := by decide +kernel
theorem dX2_unlikeOnes_20 : decode cX2_unlikeOnes 20 = .ok (.iload_n 1, 1) := by decide +kernel
theorem dX2_unlikeOnes_21 : decode cX2_unlikeOnes 21 = .ok (.iload_n 3, 1) := by decide +kernel
theorem dX2_unlikeOnes_22 : decode cX2_unlikeOnes 22 = .ok (.invokevirtual 37, 3) := by decide +kernel
theorem dX2_unlikeOnes_25 : decode cX2_unlikeOnes 25 = .ok (.ifCond .eq 19, 3) := by decide +kernel
theorem dX2_unlikeOnes_28 : decode cX2_unlikeOnes 28 = .ok (.aload_n 0, 1) := by decide +kernel
theorem dX2_unlikeOnes_29 : decode cX2_unlikeOnes 29 = .ok (.iload_n 2, 1) := by decide +kernel
theorem dX2_unlikeOnes_30 : decode cX2_unlikeOnes 30 = .ok (.invokevirtual 59, 3) := by decide +kernel
theorem dX2_unlikeOnes_33 : decode cX2_unlikeOnes 33 = .ok (.aload_n 0, 1) := by decide +kernel
theorem dX2_unlikeOnes_34 : decode cX2_unlikeOnes 34 = .ok (.iload_n 2, 1) := by decide +kernel
theorem dX2_unlikeOnes_35 : decode cX2_unlikeOnes 35 = .ok (.invokevirtual 63, 3) := by decide +kernel
theorem dX2_unlikeOnes_38 : decode cX2_unlikeOnes 38 = .ok (.ifCond .ne 6, 3) := by decide +kernel
theorem dX2_unlikeOnes_41 : decode cX2_unlikeOnes 41 = .ok (.iinc 2 1, 3) := by decide +kernel
theorem dX2_unlikeOnes_44 : decode cX2_unlikeOnes 44 = .ok (.iinc 3 1, 3) := by decide +kernel
theorem dX2_unlikeOnes_47 : decode cX2_unlikeOnes 47 = .ok (.goto (-43), 3) := by decide +kernel
theorem dX2_unlikeOnes_50 : decode cX2_unlikeOnes 50 = .ok (.iload_n 2, 1) := by decide +kernel
theorem dX2_unlikeOnes_51 : decode cX2_unlikeOnes 51 = .ok (.ireturn, 1) := by decide +kernel
theorem dX2_keepMarks_0 : decode cX2_keepMarks 0 = .ok (.iconst 0, 1) := by decide +kernel
theorem dX2_keepMarks_1 : decode cX2_keepMarks 1 = .ok (.istore_n 2, 1) := by decide +kernel
theorem dX2_keepMarks_2 : decode cX2_keepMarks 2 = .ok (.iload_n 2, 1) := by decide +kernel
theorem dX2_keepMarks_3 : decode cX2_keepMarks 3 = .ok (.aload_n 0, 1) := by decide +kernel
theorem dX2_keepMarks_4 : decode cX2_keepMarks 4 = .ok (.getfield 12, 3) := by decide +kernel
theorem dX2_keepMarks_7 : decode cX2_keepMarks 7 = .ok (.invokevirtual 52, 3) := by decide +kernel
theorem dX2_keepMarks_10 : decode cX2_keepMarks 10 = .ok (.if_icmp .ge 28, 3) := by decide +kernel
theorem dX2_keepMarks_13 : decode cX2_keepMarks 13 = .ok (.aload_n 0, 1) := by decide +kernel
theorem dX2_keepMarks_14 : decode cX2_keepMarks 14 = .ok (.getfield 18, 3) := by decide +kernel
theorem dX2_keepMarks_17 : decode cX2_keepMarks 17 = .ok (.iload_n 1, 1) := by decide +kernel
theorem dX2_keepMarks_18 : decode cX2_keepMarks 18 = .ok (.bipush 16, 2) := by decide +kernel
theorem dX2_keepMarks_20 : decode cX2_keepMarks 20 = .ok (.imul, 1) := by decide +kernel
theorem dX2_keepMarks_21 : decode cX2_keepMarks 21 = .ok (.iload_n 2, 1) := by decide +kernel
theorem dX2_keepMarks_22 : decode cX2_keepMarks 22 = .ok (.iadd, 1) := by decide +kernel
theorem dX2_keepMarks_23 : decode cX2_keepMarks 23 = .ok (.aload_n 0, 1) := by decide +kernel
theorem dX2_keepMarks_24 : decode cX2_keepMarks 24 = .ok (.getfield 12, 3) := by decide +kernel
theorem dX2_keepMarks_27 : decode cX2_keepMarks 27 = .ok (.iload_n 2, 1) := by decide +kernel
theorem dX2_keepMarks_28 : decode cX2_keepMarks 28 = .ok (.invokevirtual 56, 3) := by decide +kernel
theorem dX2_keepMarks_31 : decode cX2_keepMarks 31 = .ok (.iastore, 1) := by decide +kernel
theorem dX2_keepMarks_32 : decode cX2_keepMarks 32 = .ok (.iinc 2 1, 3) := by decide +kernel
theorem dX2_keepMarks_35 : decode cX2_keepMarks 35 = .ok (.goto (-33), 3) := by decide +kernel
theorem dX2_keepMarks_38 : decode cX2_keepMarks 38 = .ok (.return_, 1) := by decide +kernel
theorem dX2_isKeptBefore_0 : decode cX2_isKeptBefore 0 = .ok (.iconst 0, 1) := by decide +kernel
theorem dX2_isKeptBefore_1 : decode cX2_isKeptBefore 1 = .ok (.istore_n 2, 1) := by decide +kernel
theorem dX2_isKeptBefore_2 : decode cX2_isKeptBefore 2 = .ok (.iload_n 2, 1) := by decide +kernel
theorem dX2_isKeptBefore_3 : decode cX2_isKeptBefore 3 = .ok (.iload_n 1, 1) := by decide +kernel
theorem dX2_isKeptBefore_4 : decode cX2_isKeptBefore 4 = .ok (.if_icmp .ge 20, 3) := by decide +kernel
theorem dX2_isKeptBefore_7 : decode cX2_isKeptBefore 7 = .ok (.aload_n 0, 1) := by decide +kernel
theorem dX2_isKeptBefore_8 : decode cX2_isKeptBefore 8 = .ok (.iload_n 2, 1) := by decide +kernel
theorem dX2_isKeptBefore_9 : decode cX2_isKeptBefore 9 = .ok (.iload_n 1, 1) := by decide +kernel
theorem dX2_isKeptBefore_10 : decode cX2_isKeptBefore 10 = .ok (.invokevirtual 66, 3) := by decide +kernel
theorem dX2_isKeptBefore_13 : decode cX2_isKeptBefore 13 = .ok (.ifCond .eq 5, 3) := by decide +kernel
theorem dX2_isKeptBefore_16 : decode cX2_isKeptBefore 16 = .ok (.iconst 1, 1) := by decide +kernel
theorem dX2_isKeptBefore_17 : decode cX2_isKeptBefore 17 = .ok (.ireturn, 1) := by decide +kernel
theorem dX2_isKeptBefore_18 : decode cX2_isKeptBefore 18 = .ok (.iinc 2 1, 3) := by decide +kernel
theorem dX2_isKeptBefore_21 : decode cX2_isKeptBefore 21 = .ok (.goto (-19), 3) := by decide +kernel
theorem dX2_isKeptBefore_24 : decode cX2_isKeptBefore 24 = .ok (.iconst 0, 1) := by decide +kernel
theorem dX2_isKeptBefore_25 : decode cX2_isKeptBefore 25 = .ok (.ireturn, 1) := by decide +kernel
theorem dX2_haveSameMarks_0 : decode cX2_haveSameMarks 0 = .ok (.iconst 0, 1) := by decide +kernel
theorem dX2_haveSameMarks_1 : decode cX2_haveSameMarks 1 = .ok (.istore_n 3, 1) := by decide +kernel
theorem dX2_haveSameMarks_2 : decode cX2_haveSameMarks 2 = .ok (.iload_n 3, 1) := by decide +kernel
theorem dX2_haveSameMarks_3 : decode cX2_haveSameMarks 3 = .ok (.aload_n 0, 1) := by decide +kernel
theorem dX2_haveSameMarks_4 : decode cX2_haveSameMarks 4 = .ok (.getfield 12, 3) := by decide +kernel
theorem dX2_haveSameMarks_7 : decode cX2_haveSameMarks 7 = .ok (.invokevirtual 52, 3) := by decide +kernel
theorem dX2_haveSameMarks_10 : decode cX2_haveSameMarks 10 = .ok (.if_icmp .ge 36, 3) := by decide +kernel
theorem dX2_haveSameMarks_13 : decode cX2_haveSameMarks 13 = .ok (.aload_n 0, 1) := by decide +kernel
theorem dX2_haveSameMarks_14 : decode cX2_haveSameMarks 14 = .ok (.getfield 18, 3) := by decide +kernel
theorem dX2_haveSameMarks_17 : decode cX2_haveSameMarks 17 = .ok (.iload_n 1, 1) := by decide +kernel
theorem dX2_haveSameMarks_18 : decode cX2_haveSameMarks 18 = .ok (.bipush 16, 2) := by decide +kernel
theorem dX2_haveSameMarks_20 : decode cX2_haveSameMarks 20 = .ok (.imul, 1) := by decide +kernel
theorem dX2_haveSameMarks_21 : decode cX2_haveSameMarks 21 = .ok (.iload_n 3, 1) := by decide +kernel
theorem dX2_haveSameMarks_22 : decode cX2_haveSameMarks 22 = .ok (.iadd, 1) := by decide +kernel
theorem dX2_haveSameMarks_23 : decode cX2_haveSameMarks 23 = .ok (.iaload, 1) := by decide +kernel
theorem dX2_haveSameMarks_24 : decode cX2_haveSameMarks 24 = .ok (.aload_n 0, 1) := by decide +kernel
theorem dX2_haveSameMarks_25 : decode cX2_haveSameMarks 25 = .ok (.getfield 18, 3) := by decide +kernel
theorem dX2_haveSameMarks_28 : decode cX2_haveSameMarks 28 = .ok (.iload_n 2, 1) := by decide +kernel
theorem dX2_haveSameMarks_29 : decode cX2_haveSameMarks 29 = .ok (.bipush 16, 2) := by decide +kernel
theorem dX2_haveSameMarks_31 : decode cX2_haveSameMarks 31 = .ok (.imul, 1) := by decide +kernel
theorem dX2_haveSameMarks_32 : decode cX2_haveSameMarks 32 = .ok (.iload_n 3, 1) := by decide +kernel
theorem dX2_haveSameMarks_33 : decode cX2_haveSameMarks 33 = .ok (.iadd, 1) := by decide +kernel
theorem dX2_haveSameMarks_34 : decode cX2_haveSameMarks 34 = .ok (.iaload, 1) := by decide +kernel
theorem dX2_haveSameMarks_35 : decode cX2_haveSameMarks 35 = .ok (.if_icmp .eq 5, 3) := by decide +kernel
theorem dX2_haveSameMarks_38 : decode cX2_haveSameMarks 38 = .ok (.iconst 0, 1) := by decide +kernel
theorem dX2_haveSameMarks_39 : decode cX2_haveSameMarks 39 = .ok (.ireturn, 1) := by decide +kernel
theorem dX2_haveSameMarks_40 : decode cX2_haveSameMarks 40 = .ok (.iinc 3 1, 3) := by decide +kernel
theorem dX2_haveSameMarks_43 : decode cX2_haveSameMarks 43 = .ok (.goto (-41), 3) := by decide +kernel
theorem dX2_haveSameMarks_46 : decode cX2_haveSameMarks 46 = .ok (.iconst 1, 1) := by decide +kernel
theorem dX2_haveSameMarks_47 : decode cX2_haveSameMarks 47 = .ok (.ireturn, 1) := by decide +kernel
theorem dX3_init_0 : decode cX3_init 0 = .ok (.aload_n 0, 1) := by decide +kernel
theorem dX3_init_1 : decode cX3_init 1 = .ok (.invokespecial 3, 3) := by decide +kernel
theorem dX3_init_4 : decode cX3_init 4 = .ok (.return_, 1) := by decide +kernel
theorem dX3_lieAt_0 : decode cX3_lieAt 0 = .ok (.aload_n 0, 1) := by decide +kernel
theorem dX3_lieAt_1 : decode cX3_lieAt 1 = .ok (.iload_n 1, 1) := by decide +kernel
theorem dX3_lieAt_2 : decode cX3_lieAt 2 = .ok (.putfield 9, 3) := by decide +kernel
theorem dX3_lieAt_5 : decode cX3_lieAt 5 = .ok (.aload_n 0, 1) := by decide +kernel
theorem dX3_lieAt_6 : decode cX3_lieAt 6 = .ok (.iload_n 2, 1) := by decide +kernel
theorem dX3_lieAt_7 : decode cX3_lieAt 7 = .ok (.putfield 15, 3) := by decide +kernel
theorem dX3_lieAt_10 : decode cX3_lieAt 10 = .ok (.aload_n 0, 1) := by decide +kernel
theorem dX3_lieAt_11 : decode cX3_lieAt 11 = .ok (.iload_n 3, 1) := by decide +kernel
theorem dX3_lieAt_12 : decode cX3_lieAt 12 = .ok (.putfield 18, 3) := by decide +kernel
theorem dX3_lieAt_15 : decode cX3_lieAt 15 = .ok (.aload_n 0, 1) := by decide +kernel
theorem dX3_lieAt_16 : decode cX3_lieAt 16 = .ok (.iload 4, 2) := by decide +kernel
theorem dX3_lieAt_18 : decode cX3_lieAt 18 = .ok (.putfield 21, 3) := by decide +kernel
theorem dX3_lieAt_21 : decode cX3_lieAt 21 = .ok (.aload_n 0, 1) := by decide +kernel
theorem dX3_lieAt_22 : decode cX3_lieAt 22 = .ok (.iconst 1, 1) := by decide +kernel
theorem dX3_lieAt_23 : decode cX3_lieAt 23 = .ok (.putfield 24, 3) := by decide +kernel
theorem dX3_lieAt_26 : decode cX3_lieAt 26 = .ok (.aload_n 0, 1) := by decide +kernel
theorem dX3_lieAt_27 : decode cX3_lieAt 27 = .ok (.iconst 0, 1) := by decide +kernel
theorem dX3_lieAt_28 : decode cX3_lieAt 28 = .ok (.putfield 27, 3) := by decide +kernel
theorem dX3_lieAt_31 : decode cX3_lieAt 31 = .ok (.aload_n 0, 1) := by decide +kernel
theorem dX3_lieAt_32 : decode cX3_lieAt 32 = .ok (.iconst 0, 1) := by decide +kernel
theorem dX3_lieAt_33 : decode cX3_lieAt 33 = .ok (.putfield 30, 3) := by decide +kernel
theorem dX3_lieAt_36 : decode cX3_lieAt 36 = .ok (.aload_n 0, 1) := by decide +kernel
theorem dX3_lieAt_37 : decode cX3_lieAt 37 = .ok (.iconst 0, 1) := by decide +kernel
theorem dX3_lieAt_38 : decode cX3_lieAt 38 = .ok (.putfield 33, 3) := by decide +kernel
theorem dX3_lieAt_41 : decode cX3_lieAt 41 = .ok (.return_, 1) := by decide +kernel
theorem dX3_takeFold_0 : decode cX3_takeFold 0 = .ok (.iload_n 1, 1) := by decide +kernel
theorem dX3_takeFold_1 : decode cX3_takeFold 1 = .ok (.invokestatic 36, 3) := by decide +kernel
theorem dX3_takeFold_4 : decode cX3_takeFold 4 = .ok (.istore_n 2, 1) := by decide +kernel
theorem dX3_takeFold_5 : decode cX3_takeFold 5 = .ok (.iload_n 1, 1) := by decide +kernel
theorem dX3_takeFold_6 : decode cX3_takeFold 6 = .ok (.iconst 1, 1) := by decide +kernel
theorem dX3_takeFold_7 : decode cX3_takeFold 7 = .ok (.if_icmp .eq 8, 3) := by decide +kernel
theorem dX3_takeFold_10 : decode cX3_takeFold 10 = .ok (.iload_n 1, 1) := by decide +kernel
theorem dX3_takeFold_11 : decode cX3_takeFold 11 = .ok (.iconst 3, 1) := by decide +kernel
theorem dX3_takeFold_12 : decode cX3_takeFold 12 = .ok (.if_icmp .ne 7, 3) := by decide +kernel
theorem dX3_takeFold_15 : decode cX3_takeFold 15 = .ok (.iconst 1, 1) := by decide +kernel
theorem dX3_takeFold_16 : decode cX3_takeFold 16 = .ok (.goto 4, 3) := by decide +kernel
theorem dX3_takeFold_19 : decode cX3_takeFold 19 = .ok (.iconst 0, 1) := by decide +kernel
theorem dX3_takeFold_20 : decode cX3_takeFold 20 = .ok (.istore_n 3, 1) := by decide +kernel
theorem dX3_takeFold_21 : decode cX3_takeFold 21 = .ok (.iload_n 2, 1) := by decide +kernel
theorem dX3_takeFold_22 : decode cX3_takeFold 22 = .ok (.ifCond .eq 10, 3) := by decide +kernel
theorem dX3_takeFold_25 : decode cX3_takeFold 25 = .ok (.aload_n 0, 1) := by decide +kernel
theorem dX3_takeFold_26 : decode cX3_takeFold 26 = .ok (.getfield 9, 3) := by decide +kernel
theorem dX3_takeFold_29 : decode cX3_takeFold 29 = .ok (.goto 7, 3) := by decide +kernel
theorem dX3_takeFold_32 : decode cX3_takeFold 32 = .ok (.aload_n 0, 1) := by decide +kernel
theorem dX3_takeFold_33 : decode cX3_takeFold 33 = .ok (.getfield 15, 3) := by decide +kernel
theorem dX3_takeFold_36 : decode cX3_takeFold 36 = .ok (.istore 4, 2) := by decide +kernel
theorem dX3_takeFold_38 : decode cX3_takeFold 38 = .ok (.iload_n 2, 1) := by decide +kernel
theorem dX3_takeFold_39 : decode cX3_takeFold 39 = .ok (.ifCond .eq 10, 3) := by decide +kernel
theorem dX3_takeFold_42 : decode cX3_takeFold 42 = .ok (.aload_n 0, 1) := by decide +kernel
theorem dX3_takeFold_43 : decode cX3_takeFold 43 = .ok (.getfield 18, 3) := by decide +kernel
theorem dX3_takeFold_46 : decode cX3_takeFold 46 = .ok (.goto 7, 3) := by decide +kernel
theorem dX3_takeFold_49 : decode cX3_takeFold 49 = .ok (.aload_n 0, 1) := by decide +kernel
theorem dX3_takeFold_50 : decode cX3_takeFold 50 = .ok (.getfield 21, 3) := by decide +kernel
theorem dX3_takeFold_53 : decode cX3_takeFold 53 = .ok (.iconst 2, 1) := by decide +kernel
theorem dX3_takeFold_54 : decode cX3_takeFold 54 = .ok (.idiv, 1) := by decide +kernel
theorem dX3_takeFold_55 : decode cX3_takeFold 55 = .ok (.istore 5, 2) := by decide +kernel
theorem dX3_takeFold_57 : decode cX3_takeFold 57 = .ok (.iload_n 3, 1) := by decide +kernel
theorem dX3_takeFold_58 : decode cX3_takeFold 58 = .ok (.iload 4, 2) := by decide +kernel
theorem dX3_takeFold_60 : decode cX3_takeFold 60 = .ok (.iload 5, 2) := by decide +kernel
theorem dX3_takeFold_62 : decode cX3_takeFold 62 = .ok (.if_icmp .ge 7, 3) := by decide +kernel
theorem dX3_takeFold_65 : decode cX3_takeFold 65 = .ok (.iconst 1, 1) := by decide +kernel
theorem dX3_takeFold_66 : decode cX3_takeFold 66 = .ok (.goto 4, 3) := by decide +kernel
theorem dX3_takeFold_69 : decode cX3_takeFold 69 = .ok (.iconst 0, 1) := by decide +kernel
theorem dX3_takeFold_70 : decode cX3_takeFold 70 = .ok (.if_icmp .ne 62, 3) := by decide +kernel
theorem dX3_takeFold_73 : decode cX3_takeFold 73 = .ok (.iconst 2, 1) := by decide +kernel
theorem dX3_takeFold_74 : decode cX3_takeFold 74 = .ok (.iload 5, 2) := by decide +kernel
theorem dX3_takeFold_76 : decode cX3_takeFold 76 = .ok (.imul, 1) := by decide +kernel
theorem dX3_takeFold_77 : decode cX3_takeFold 77 = .ok (.iconst 1, 1) := by decide +kernel
theorem dX3_takeFold_78 : decode cX3_takeFold 78 = .ok (.isub, 1) := by decide +kernel
theorem dX3_takeFold_79 : decode cX3_takeFold 79 = .ok (.iload 4, 2) := by decide +kernel
theorem dX3_takeFold_81 : decode cX3_takeFold 81 = .ok (.isub, 1) := by decide +kernel
theorem dX3_takeFold_82 : decode cX3_takeFold 82 = .ok (.istore 4, 2) := by decide +kernel
theorem dX3_takeFold_84 : decode cX3_takeFold 84 = .ok (.aload_n 0, 1) := by decide +kernel
theorem dX3_takeFold_85 : decode cX3_takeFold 85 = .ok (.iconst 2, 1) := by decide +kernel
theorem dX3_takeFold_86 : decode cX3_takeFold 86 = .ok (.aload_n 0, 1) := by decide +kernel
theorem dX3_takeFold_87 : decode cX3_takeFold 87 = .ok (.getfield 24, 3) := by decide +kernel
theorem dX3_takeFold_90 : decode cX3_takeFold 90 = .ok (.imul, 1) := by decide +kernel
theorem dX3_takeFold_91 : decode cX3_takeFold 91 = .ok (.iconst 1, 1) := by decide +kernel
theorem dX3_takeFold_92 : decode cX3_takeFold 92 = .ok (.isub, 1) := by decide +kernel
theorem dX3_takeFold_93 : decode cX3_takeFold 93 = .ok (.aload_n 0, 1) := by decide +kernel
theorem dX3_takeFold_94 : decode cX3_takeFold 94 = .ok (.getfield 27, 3) := by decide +kernel
theorem dX3_takeFold_97 : decode cX3_takeFold 97 = .ok (.isub, 1) := by decide +kernel
theorem dX3_takeFold_98 : decode cX3_takeFold 98 = .ok (.putfield 27, 3) := by decide +kernel
theorem dX3_takeFold_101 : decode cX3_takeFold 101 = .ok (.aload_n 0, 1) := by decide +kernel
theorem dX3_takeFold_102 : decode cX3_takeFold 102 = .ok (.iconst 1, 1) := by decide +kernel
theorem dX3_takeFold_103 : decode cX3_takeFold 103 = .ok (.aload_n 0, 1) := by decide +kernel
theorem dX3_takeFold_104 : decode cX3_takeFold 104 = .ok (.getfield 30, 3) := by decide +kernel
theorem dX3_takeFold_107 : decode cX3_takeFold 107 = .ok (.isub, 1) := by decide +kernel
theorem dX3_takeFold_108 : decode cX3_takeFold 108 = .ok (.putfield 30, 3) := by decide +kernel
theorem dX3_takeFold_111 : decode cX3_takeFold 111 = .ok (.aload_n 0, 1) := by decide +kernel
theorem dX3_takeFold_112 : decode cX3_takeFold 112 = .ok (.iload_n 2, 1) := by decide +kernel
theorem dX3_takeFold_113 : decode cX3_takeFold 113 = .ok (.ifCond .eq 10, 3) := by decide +kernel
theorem dX3_takeFold_116 : decode cX3_takeFold 116 = .ok (.aload_n 0, 1) := by decide +kernel
theorem dX3_takeFold_117 : decode cX3_takeFold 117 = .ok (.getfield 33, 3) := by decide +kernel
theorem dX3_takeFold_120 : decode cX3_takeFold 120 = .ok (.goto 9, 3) := by decide +kernel
theorem dX3_takeFold_123 : decode cX3_takeFold 123 = .ok (.iconst 1, 1) := by decide +kernel
theorem dX3_takeFold_124 : decode cX3_takeFold 124 = .ok (.aload_n 0, 1) := by decide +kernel
theorem dX3_takeFold_125 : decode cX3_takeFold 125 = .ok (.getfield 33, 3) := by decide +kernel
theorem dX3_takeFold_128 : decode cX3_takeFold 128 = .ok (.isub, 1) := by decide +kernel
theorem dX3_takeFold_129 : decode cX3_takeFold 129 = .ok (.putfield 33, 3) := by decide +kernel
theorem dX3_takeFold_132 : decode cX3_takeFold 132 = .ok (.aload_n 0, 1) := by decide +kernel
theorem dX3_takeFold_133 : decode cX3_takeFold 133 = .ok (.dup, 1) := by decide +kernel
theorem dX3_takeFold_134 : decode cX3_takeFold 134 = .ok (.getfield 24, 3) := by decide +kernel
theorem dX3_takeFold_137 : decode cX3_takeFold 137 = .ok (.iconst 2, 1) := by decide +kernel
theorem dX3_takeFold_138 : decode cX3_takeFold 138 = .ok (.imul, 1) := by decide +kernel
theorem dX3_takeFold_139 : decode cX3_takeFold 139 = .ok (.putfield 24, 3) := by decide +kernel
theorem dX3_takeFold_142 : decode cX3_takeFold 142 = .ok (.aload_n 0, 1) := by decide +kernel
theorem dX3_takeFold_143 : decode cX3_takeFold 143 = .ok (.iload_n 3, 1) := by decide +kernel
theorem dX3_takeFold_144 : decode cX3_takeFold 144 = .ok (.ifCond .eq 11, 3) := by decide +kernel
theorem dX3_takeFold_147 : decode cX3_takeFold 147 = .ok (.iload 4, 2) := by decide +kernel
theorem dX3_takeFold_149 : decode cX3_takeFold 149 = .ok (.iload 5, 2) := by decide +kernel
theorem dX3_takeFold_151 : decode cX3_takeFold 151 = .ok (.isub, 1) := by decide +kernel
theorem dX3_takeFold_152 : decode cX3_takeFold 152 = .ok (.goto 5, 3) := by decide +kernel
theorem dX3_takeFold_155 : decode cX3_takeFold 155 = .ok (.iload 4, 2) := by decide +kernel
theorem dX3_takeFold_157 : decode cX3_takeFold 157 = .ok (.iload 5, 2) := by decide +kernel
theorem dX3_takeFold_159 : decode cX3_takeFold 159 = .ok (.iload_n 2, 1) := by decide +kernel
theorem dX3_takeFold_160 : decode cX3_takeFold 160 = .ok (.invokevirtual 42, 3) := by decide +kernel
theorem dX3_takeFold_163 : decode cX3_takeFold 163 = .ok (.return_, 1) := by decide +kernel
theorem dX3_stayAt_0 : decode cX3_stayAt 0 = .ok (.iload_n 3, 1) := by decide +kernel
theorem dX3_stayAt_1 : decode cX3_stayAt 1 = .ok (.ifCond .eq 16, 3) := by decide +kernel
theorem dX3_stayAt_4 : decode cX3_stayAt 4 = .ok (.aload_n 0, 1) := by decide +kernel
theorem dX3_stayAt_5 : decode cX3_stayAt 5 = .ok (.iload_n 1, 1) := by decide +kernel
theorem dX3_stayAt_6 : decode cX3_stayAt 6 = .ok (.putfield 9, 3) := by decide +kernel
theorem dX3_stayAt_9 : decode cX3_stayAt 9 = .ok (.aload_n 0, 1) := by decide +kernel
theorem dX3_stayAt_10 : decode cX3_stayAt 10 = .ok (.iload_n 2, 1) := by decide +kernel
theorem dX3_stayAt_11 : decode cX3_stayAt 11 = .ok (.putfield 18, 3) := by decide +kernel
theorem dX3_stayAt_14 : decode cX3_stayAt 14 = .ok (.goto 13, 3) := by decide +kernel
theorem dX3_stayAt_17 : decode cX3_stayAt 17 = .ok (.aload_n 0, 1) := by decide +kernel
theorem dX3_stayAt_18 : decode cX3_stayAt 18 = .ok (.iload_n 1, 1) := by decide +kernel
theorem dX3_stayAt_19 : decode cX3_stayAt 19 = .ok (.putfield 15, 3) := by decide +kernel
theorem dX3_stayAt_22 : decode cX3_stayAt 22 = .ok (.aload_n 0, 1) := by decide +kernel
theorem dX3_stayAt_23 : decode cX3_stayAt 23 = .ok (.iload_n 2, 1) := by decide +kernel
theorem dX3_stayAt_24 : decode cX3_stayAt 24 = .ok (.putfield 21, 3) := by decide +kernel
theorem dX3_stayAt_27 : decode cX3_stayAt 27 = .ok (.return_, 1) := by decide +kernel
theorem dX3_turnPile_0 : decode cX3_turnPile 0 = .ok (.aload_n 0, 1) := by decide +kernel
theorem dX3_turnPile_1 : decode cX3_turnPile 1 = .ok (.aload_n 0, 1) := by decide +kernel
theorem dX3_turnPile_2 : decode cX3_turnPile 2 = .ok (.getfield 24, 3) := by decide +kernel
theorem dX3_turnPile_5 : decode cX3_turnPile 5 = .ok (.iconst 1, 1) := by decide +kernel
theorem dX3_turnPile_6 : decode cX3_turnPile 6 = .ok (.isub, 1) := by decide +kernel
theorem dX3_turnPile_7 : decode cX3_turnPile 7 = .ok (.aload_n 0, 1) := by decide +kernel
theorem dX3_turnPile_8 : decode cX3_turnPile 8 = .ok (.getfield 27, 3) := by decide +kernel
theorem dX3_turnPile_11 : decode cX3_turnPile 11 = .ok (.isub, 1) := by decide +kernel
theorem dX3_turnPile_12 : decode cX3_turnPile 12 = .ok (.putfield 27, 3) := by decide +kernel
theorem dX3_turnPile_15 : decode cX3_turnPile 15 = .ok (.aload_n 0, 1) := by decide +kernel
theorem dX3_turnPile_16 : decode cX3_turnPile 16 = .ok (.iconst 1, 1) := by decide +kernel
theorem dX3_turnPile_17 : decode cX3_turnPile 17 = .ok (.aload_n 0, 1) := by decide +kernel
theorem dX3_turnPile_18 : decode cX3_turnPile 18 = .ok (.getfield 30, 3) := by decide +kernel
theorem dX3_turnPile_21 : decode cX3_turnPile 21 = .ok (.isub, 1) := by decide +kernel
theorem dX3_turnPile_22 : decode cX3_turnPile 22 = .ok (.putfield 30, 3) := by decide +kernel
theorem dX3_turnPile_25 : decode cX3_turnPile 25 = .ok (.return_, 1) := by decide +kernel
theorem dX3_frontPage_0 : decode cX3_frontPage 0 = .ok (.aload_n 0, 1) := by decide +kernel
theorem dX3_frontPage_1 : decode cX3_frontPage 1 = .ok (.getfield 24, 3) := by decide +kernel
theorem dX3_frontPage_4 : decode cX3_frontPage 4 = .ok (.iconst 1, 1) := by decide +kernel
theorem dX3_frontPage_5 : decode cX3_frontPage 5 = .ok (.isub, 1) := by decide +kernel
theorem dX3_frontPage_6 : decode cX3_frontPage 6 = .ok (.aload_n 0, 1) := by decide +kernel
theorem dX3_frontPage_7 : decode cX3_frontPage 7 = .ok (.getfield 27, 3) := by decide +kernel
theorem dX3_frontPage_10 : decode cX3_frontPage 10 = .ok (.isub, 1) := by decide +kernel
theorem dX3_frontPage_11 : decode cX3_frontPage 11 = .ok (.istore_n 1, 1) := by decide +kernel
theorem dX3_frontPage_12 : decode cX3_frontPage 12 = .ok (.iconst 2, 1) := by decide +kernel
theorem dX3_frontPage_13 : decode cX3_frontPage 13 = .ok (.iload_n 1, 1) := by decide +kernel
theorem dX3_frontPage_14 : decode cX3_frontPage 14 = .ok (.imul, 1) := by decide +kernel
theorem dX3_frontPage_15 : decode cX3_frontPage 15 = .ok (.iconst 1, 1) := by decide +kernel
theorem dX3_frontPage_16 : decode cX3_frontPage 16 = .ok (.iadd, 1) := by decide +kernel
theorem dX3_frontPage_17 : decode cX3_frontPage 17 = .ok (.aload_n 0, 1) := by decide +kernel
theorem dX3_frontPage_18 : decode cX3_frontPage 18 = .ok (.getfield 30, 3) := by decide +kernel
theorem dX3_frontPage_21 : decode cX3_frontPage 21 = .ok (.iadd, 1) := by decide +kernel
theorem dX3_frontPage_22 : decode cX3_frontPage 22 = .ok (.ireturn, 1) := by decide +kernel
theorem dX4_init_0 : decode cX4_init 0 = .ok (.aload_n 0, 1) := by decide +kernel
theorem dX4_init_1 : decode cX4_init 1 = .ok (.invokespecial 3, 3) := by decide +kernel
theorem dX4_init_4 : decode cX4_init 4 = .ok (.aload_n 0, 1) := by decide +kernel
theorem dX4_init_5 : decode cX4_init 5 = .ok (.iconst 5, 1) := by decide +kernel
theorem dX4_init_6 : decode cX4_init 6 = .ok (.bipush 108, 2) := by decide +kernel
theorem dX4_init_8 : decode cX4_init 8 = .ok (.multianewarray 9 2, 4) := by decide +kernel
theorem dX4_init_12 : decode cX4_init 12 = .ok (.putfield 11, 3) := by decide +kernel
theorem dX4_init_15 : decode cX4_init 15 = .ok (.aload_n 0, 1) := by decide +kernel
theorem dX4_init_16 : decode cX4_init 16 = .ok (.iconst 4, 1) := by decide +kernel
theorem dX4_init_17 : decode cX4_init 17 = .ok (.newarray .int, 2) := by decide +kernel
theorem dX4_init_19 : decode cX4_init 19 = .ok (.putfield 16, 3) := by decide +kernel
theorem dX4_init_22 : decode cX4_init 22 = .ok (.return_, 1) := by decide +kernel
theorem dX4_make_0 : decode cX4_make 0 = .ok (.aload_n 0, 1) := by decide +kernel
theorem dX4_make_1 : decode cX4_make 1 = .ok (.aload_n 1, 1) := by decide +kernel
theorem dX4_make_2 : decode cX4_make 2 = .ok (.invokevirtual 20, 3) := by decide +kernel
theorem dX4_make_5 : decode cX4_make 5 = .ok (.aload_n 0, 1) := by decide +kernel
theorem dX4_make_6 : decode cX4_make 6 = .ok (.aload_n 1, 1) := by decide +kernel
theorem dX4_make_7 : decode cX4_make 7 = .ok (.getfield 24, 3) := by decide +kernel
theorem dX4_make_10 : decode cX4_make 10 = .ok (.iconst 0, 1) := by decide +kernel
theorem dX4_make_11 : decode cX4_make 11 = .ok (.iaload, 1) := by decide +kernel
theorem dX4_make_12 : decode cX4_make 12 = .ok (.invokevirtual 29, 3) := by decide +kernel
theorem dX4_make_15 : decode cX4_make 15 = .ok (.istore_n 2, 1) := by decide +kernel
theorem dX4_make_16 : decode cX4_make 16 = .ok (.aload_n 0, 1) := by decide +kernel
theorem dX4_make_17 : decode cX4_make 17 = .ok (.aload_n 0, 1) := by decide +kernel
theorem dX4_make_18 : decode cX4_make 18 = .ok (.getfield 11, 3) := by decide +kernel
theorem dX4_make_21 : decode cX4_make 21 = .ok (.iconst 0, 1) := by decide +kernel
theorem dX4_make_22 : decode cX4_make 22 = .ok (.aaload, 1) := by decide +kernel
theorem dX4_make_23 : decode cX4_make 23 = .ok (.iload_n 2, 1) := by decide +kernel
theorem dX4_make_24 : decode cX4_make 24 = .ok (.iaload, 1) := by decide +kernel
theorem dX4_make_25 : decode cX4_make 25 = .ok (.putfield 33, 3) := by decide +kernel
theorem dX4_make_28 : decode cX4_make 28 = .ok (.aload_n 0, 1) := by decide +kernel
theorem dX4_make_29 : decode cX4_make 29 = .ok (.aload_n 1, 1) := by decide +kernel
theorem dX4_make_30 : decode cX4_make 30 = .ok (.iload_n 2, 1) := by decide +kernel
theorem dX4_make_31 : decode cX4_make 31 = .ok (.invokevirtual 37, 3) := by decide +kernel
theorem dX4_make_34 : decode cX4_make 34 = .ok (.return_, 1) := by decide +kernel
theorem dX4_weigh_0 : decode cX4_weigh 0 = .ok (.iconst 0, 1) := by decide +kernel
theorem dX4_weigh_1 : decode cX4_weigh 1 = .ok (.istore_n 2, 1) := by decide +kernel
theorem dX4_weigh_2 : decode cX4_weigh 2 = .ok (.iload_n 2, 1) := by decide +kernel
theorem dX4_weigh_3 : decode cX4_weigh 3 = .ok (.bipush 108, 2) := by decide +kernel
theorem dX4_weigh_5 : decode cX4_weigh 5 = .ok (.if_icmp .ge 29, 3) := by decide +kernel
theorem dX4_weigh_8 : decode cX4_weigh 8 = .ok (.aload_n 0, 1) := by decide +kernel
theorem dX4_weigh_9 : decode cX4_weigh 9 = .ok (.getfield 11, 3) := by decide +kernel
theorem dX4_weigh_12 : decode cX4_weigh 12 = .ok (.aload_n 1, 1) := by decide +kernel
theorem dX4_weigh_13 : decode cX4_weigh 13 = .ok (.getfield 41, 3) := by decide +kernel
theorem dX4_weigh_16 : decode cX4_weigh 16 = .ok (.aaload, 1) := by decide +kernel
theorem dX4_weigh_17 : decode cX4_weigh 17 = .ok (.iload_n 2, 1) := by decide +kernel
theorem dX4_weigh_18 : decode cX4_weigh 18 = .ok (.iload_n 2, 1) := by decide +kernel
theorem dX4_weigh_19 : decode cX4_weigh 19 = .ok (.ifCond .ne 7, 3) := by decide +kernel
theorem dX4_weigh_22 : decode cX4_weigh 22 = .ok (.iconst 0, 1) := by decide +kernel
theorem dX4_weigh_23 : decode cX4_weigh 23 = .ok (.goto 4, 3) := by decide +kernel
theorem dX4_weigh_26 : decode cX4_weigh 26 = .ok (.iconst (-1), 1) := by decide +kernel
theorem dX4_weigh_27 : decode cX4_weigh 27 = .ok (.iastore, 1) := by decide +kernel
theorem dX4_weigh_28 : decode cX4_weigh 28 = .ok (.iinc 2 1, 3) := by decide +kernel
theorem dX4_weigh_31 : decode cX4_weigh 31 = .ok (.goto (-29), 3) := by decide +kernel
theorem dX4_weigh_34 : decode cX4_weigh 34 = .ok (.aload_n 1, 1) := by decide +kernel
theorem dX4_weigh_35 : decode cX4_weigh 35 = .ok (.getfield 41, 3) := by decide +kernel
theorem dX4_weigh_38 : decode cX4_weigh 38 = .ok (.iconst 1, 1) := by decide +kernel
theorem dX4_weigh_39 : decode cX4_weigh 39 = .ok (.isub, 1) := by decide +kernel
theorem dX4_weigh_40 : decode cX4_weigh 40 = .ok (.istore_n 2, 1) := by decide +kernel
theorem dX4_weigh_41 : decode cX4_weigh 41 = .ok (.iload_n 2, 1) := by decide +kernel
theorem dX4_weigh_42 : decode cX4_weigh 42 = .ok (.ifCond .lt 51, 3) := by decide +kernel
theorem dX4_weigh_45 : decode cX4_weigh 45 = .ok (.iconst 0, 1) := by decide +kernel
theorem dX4_weigh_46 : decode cX4_weigh 46 = .ok (.istore_n 3, 1) := by decide +kernel
theorem dX4_weigh_47 : decode cX4_weigh 47 = .ok (.iload_n 3, 1) := by decide +kernel
theorem dX4_weigh_48 : decode cX4_weigh 48 = .ok (.bipush 108, 2) := by decide +kernel
theorem dX4_weigh_50 : decode cX4_weigh 50 = .ok (.if_icmp .ge 37, 3) := by decide +kernel
theorem dX4_weigh_53 : decode cX4_weigh 53 = .ok (.aload_n 0, 1) := by decide +kernel
theorem dX4_weigh_54 : decode cX4_weigh 54 = .ok (.getfield 11, 3) := by decide +kernel
theorem dX4_weigh_57 : decode cX4_weigh 57 = .ok (.iload_n 2, 1) := by decide +kernel
theorem dX4_weigh_58 : decode cX4_weigh 58 = .ok (.aaload, 1) := by decide +kernel
theorem dX4_weigh_59 : decode cX4_weigh 59 = .ok (.iload_n 3, 1) := by decide +kernel
theorem dX4_weigh_60 : decode cX4_weigh 60 = .ok (.aload_n 0, 1) := by decide +kernel
theorem dX4_weigh_61 : decode cX4_weigh 61 = .ok (.getfield 11, 3) := by decide +kernel
theorem dX4_weigh_64 : decode cX4_weigh 64 = .ok (.iload_n 2, 1) := by decide +kernel
theorem dX4_weigh_65 : decode cX4_weigh 65 = .ok (.iconst 1, 1) := by decide +kernel
theorem dX4_weigh_66 : decode cX4_weigh 66 = .ok (.iadd, 1) := by decide +kernel
theorem dX4_weigh_67 : decode cX4_weigh 67 = .ok (.aaload, 1) := by decide +kernel
theorem dX4_weigh_68 : decode cX4_weigh 68 = .ok (.iload_n 3, 1) := by decide +kernel
theorem dX4_weigh_69 : decode cX4_weigh 69 = .ok (.iaload, 1) := by decide +kernel
theorem dX4_weigh_70 : decode cX4_weigh 70 = .ok (.aload_n 0, 1) := by decide +kernel
theorem dX4_weigh_71 : decode cX4_weigh 71 = .ok (.aload_n 1, 1) := by decide +kernel
theorem dX4_weigh_72 : decode cX4_weigh 72 = .ok (.iload_n 2, 1) := by decide +kernel
theorem dX4_weigh_73 : decode cX4_weigh 73 = .ok (.iload_n 3, 1) := by decide +kernel
theorem dX4_weigh_74 : decode cX4_weigh 74 = .ok (.invokevirtual 44, 3) := by decide +kernel
theorem dX4_weigh_77 : decode cX4_weigh 77 = .ok (.invokestatic 48, 3) := by decide +kernel
theorem dX4_weigh_80 : decode cX4_weigh 80 = .ok (.iastore, 1) := by decide +kernel
theorem dX4_weigh_81 : decode cX4_weigh 81 = .ok (.iinc 3 1, 3) := by decide +kernel
theorem dX4_weigh_84 : decode cX4_weigh 84 = .ok (.goto (-37), 3) := by decide +kernel
theorem dX4_weigh_87 : decode cX4_weigh 87 = .ok (.iinc 2 (-1), 3) := by decide +kernel
theorem dX4_weigh_90 : decode cX4_weigh 90 = .ok (.goto (-49), 3) := by decide +kernel
theorem dX4_weigh_93 : decode cX4_weigh 93 = .ok (.return_, 1) := by decide +kernel
theorem dX4_withOneOf_0 : decode cX4_withOneOf 0 = .ok (.iload_n 3, 1) := by decide +kernel
theorem dX4_withOneOf_1 : decode cX4_withOneOf 1 = .ok (.aload_n 1, 1) := by decide +kernel
theorem dX4_withOneOf_2 : decode cX4_withOneOf 2 = .ok (.iload_n 2, 1) := by decide +kernel
theorem dX4_withOneOf_3 : decode cX4_withOneOf 3 = .ok (.invokevirtual 52, 3) := by decide +kernel
theorem dX4_withOneOf_6 : decode cX4_withOneOf 6 = .ok (.isub, 1) := by decide +kernel
theorem dX4_withOneOf_7 : decode cX4_withOneOf 7 = .ok (.istore 4, 2) := by decide +kernel
theorem dX4_withOneOf_9 : decode cX4_withOneOf 9 = .ok (.iload 4, 2) := by decide +kernel
theorem dX4_withOneOf_11 : decode cX4_withOneOf 11 = .ok (.ifCond .lt 16, 3) := by decide +kernel
theorem dX4_withOneOf_14 : decode cX4_withOneOf 14 = .ok (.aload_n 0, 1) := by decide +kernel
theorem dX4_withOneOf_15 : decode cX4_withOneOf 15 = .ok (.getfield 11, 3) := by decide +kernel
theorem dX4_withOneOf_18 : decode cX4_withOneOf 18 = .ok (.iload_n 2, 1) := by decide +kernel
theorem dX4_withOneOf_19 : decode cX4_withOneOf 19 = .ok (.aaload, 1) := by decide +kernel
theorem dX4_withOneOf_20 : decode cX4_withOneOf 20 = .ok (.iload 4, 2) := by decide +kernel
theorem dX4_withOneOf_22 : decode cX4_withOneOf 22 = .ok (.iaload, 1) := by decide +kernel
theorem dX4_withOneOf_23 : decode cX4_withOneOf 23 = .ok (.iconst (-1), 1) := by decide +kernel
theorem dX4_withOneOf_24 : decode cX4_withOneOf 24 = .ok (.if_icmp .ne 5, 3) := by decide +kernel
theorem dX4_withOneOf_27 : decode cX4_withOneOf 27 = .ok (.iconst (-1), 1) := by decide +kernel
theorem dX4_withOneOf_28 : decode cX4_withOneOf 28 = .ok (.ireturn, 1) := by decide +kernel
theorem dX4_withOneOf_29 : decode cX4_withOneOf 29 = .ok (.aload_n 0, 1) := by decide +kernel
theorem dX4_withOneOf_30 : decode cX4_withOneOf 30 = .ok (.getfield 11, 3) := by decide +kernel
theorem dX4_withOneOf_33 : decode cX4_withOneOf 33 = .ok (.iload_n 2, 1) := by decide +kernel
theorem dX4_withOneOf_34 : decode cX4_withOneOf 34 = .ok (.aaload, 1) := by decide +kernel
theorem dX4_withOneOf_35 : decode cX4_withOneOf 35 = .ok (.iload 4, 2) := by decide +kernel
theorem dX4_withOneOf_37 : decode cX4_withOneOf 37 = .ok (.iaload, 1) := by decide +kernel
theorem dX4_withOneOf_38 : decode cX4_withOneOf 38 = .ok (.aload_n 1, 1) := by decide +kernel
theorem dX4_withOneOf_39 : decode cX4_withOneOf 39 = .ok (.getfield 55, 3) := by decide +kernel
theorem dX4_withOneOf_42 : decode cX4_withOneOf 42 = .ok (.iload_n 2, 1) := by decide +kernel
theorem dX4_withOneOf_43 : decode cX4_withOneOf 43 = .ok (.iaload, 1) := by decide +kernel
theorem dX4_withOneOf_44 : decode cX4_withOneOf 44 = .ok (.iadd, 1) := by decide +kernel
theorem dX4_withOneOf_45 : decode cX4_withOneOf 45 = .ok (.ireturn, 1) := by decide +kernel
theorem dX4_cheaper_0 : decode cX4_cheaper 0 = .ok (.iload_n 0, 1) := by decide +kernel
theorem dX4_cheaper_1 : decode cX4_cheaper 1 = .ok (.iconst (-1), 1) := by decide +kernel
theorem dX4_cheaper_2 : decode cX4_cheaper 2 = .ok (.if_icmp .ne 5, 3) := by decide +kernel
theorem dX4_cheaper_5 : decode cX4_cheaper 5 = .ok (.iload_n 1, 1) := by decide +kernel
theorem dX4_cheaper_6 : decode cX4_cheaper 6 = .ok (.ireturn, 1) := by decide +kernel
theorem dX4_cheaper_7 : decode cX4_cheaper 7 = .ok (.iload_n 1, 1) := by decide +kernel
theorem dX4_cheaper_8 : decode cX4_cheaper 8 = .ok (.iconst (-1), 1) := by decide +kernel
theorem dX4_cheaper_9 : decode cX4_cheaper 9 = .ok (.if_icmp .ne 7, 3) := by decide +kernel
theorem dX4_cheaper_12 : decode cX4_cheaper 12 = .ok (.iload_n 0, 1) := by decide +kernel
theorem dX4_cheaper_13 : decode cX4_cheaper 13 = .ok (.goto 8, 3) := by decide +kernel
theorem dX4_cheaper_16 : decode cX4_cheaper 16 = .ok (.iload_n 0, 1) := by decide +kernel
theorem dX4_cheaper_17 : decode cX4_cheaper 17 = .ok (.iload_n 1, 1) := by decide +kernel
theorem dX4_cheaper_18 : decode cX4_cheaper 18 = .ok (.invokestatic 58, 3) := by decide +kernel
theorem dX4_cheaper_21 : decode cX4_cheaper 21 = .ok (.ireturn, 1) := by decide +kernel
theorem dX4_unitsFor_0 : decode cX4_unitsFor 0 = .ok (.iload_n 1, 1) := by decide +kernel
theorem dX4_unitsFor_1 : decode cX4_unitsFor 1 = .ok (.iconst 4, 1) := by decide +kernel
theorem dX4_unitsFor_2 : decode cX4_unitsFor 2 = .ok (.iadd, 1) := by decide +kernel
theorem dX4_unitsFor_3 : decode cX4_unitsFor 3 = .ok (.iconst 1, 1) := by decide +kernel
theorem dX4_unitsFor_4 : decode cX4_unitsFor 4 = .ok (.isub, 1) := by decide +kernel
theorem dX4_unitsFor_5 : decode cX4_unitsFor 5 = .ok (.iconst 4, 1) := by decide +kernel
theorem dX4_unitsFor_6 : decode cX4_unitsFor 6 = .ok (.idiv, 1) := by decide +kernel
theorem dX4_unitsFor_7 : decode cX4_unitsFor 7 = .ok (.istore_n 2, 1) := by decide +kernel
theorem dX4_unitsFor_8 : decode cX4_unitsFor 8 = .ok (.iload_n 2, 1) := by decide +kernel
theorem dX4_unitsFor_9 : decode cX4_unitsFor 9 = .ok (.bipush 107, 2) := by decide +kernel
theorem dX4_unitsFor_11 : decode cX4_unitsFor 11 = .ok (.if_icmp .ge 21, 3) := by decide +kernel
theorem dX4_unitsFor_14 : decode cX4_unitsFor 14 = .ok (.aload_n 0, 1) := by decide +kernel
theorem dX4_unitsFor_15 : decode cX4_unitsFor 15 = .ok (.getfield 11, 3) := by decide +kernel
theorem dX4_unitsFor_18 : decode cX4_unitsFor 18 = .ok (.iconst 0, 1) := by decide +kernel
theorem dX4_unitsFor_19 : decode cX4_unitsFor 19 = .ok (.aaload, 1) := by decide +kernel
theorem dX4_unitsFor_20 : decode cX4_unitsFor 20 = .ok (.iload_n 2, 1) := by decide +kernel
theorem dX4_unitsFor_21 : decode cX4_unitsFor 21 = .ok (.iaload, 1) := by decide +kernel
theorem dX4_unitsFor_22 : decode cX4_unitsFor 22 = .ok (.iconst (-1), 1) := by decide +kernel
theorem dX4_unitsFor_23 : decode cX4_unitsFor 23 = .ok (.if_icmp .ne 9, 3) := by decide +kernel
theorem dX4_unitsFor_26 : decode cX4_unitsFor 26 = .ok (.iinc 2 1, 3) := by decide +kernel
theorem dX4_unitsFor_29 : decode cX4_unitsFor 29 = .ok (.goto (-21), 3) := by decide +kernel
theorem dX4_unitsFor_32 : decode cX4_unitsFor 32 = .ok (.iload_n 2, 1) := by decide +kernel
theorem dX4_unitsFor_33 : decode cX4_unitsFor 33 = .ok (.ireturn, 1) := by decide +kernel
theorem dX4_choose_0 : decode cX4_choose 0 = .ok (.iload_n 2, 1) := by decide +kernel
theorem dX4_choose_1 : decode cX4_choose 1 = .ok (.istore_n 3, 1) := by decide +kernel
theorem dX4_choose_2 : decode cX4_choose 2 = .ok (.iconst 0, 1) := by decide +kernel
theorem dX4_choose_3 : decode cX4_choose 3 = .ok (.istore 4, 2) := by decide +kernel
theorem dX4_choose_5 : decode cX4_choose 5 = .ok (.iload 4, 2) := by decide +kernel
theorem dX4_choose_7 : decode cX4_choose 7 = .ok (.aload_n 1, 1) := by decide +kernel
theorem dX4_choose_8 : decode cX4_choose 8 = .ok (.getfield 41, 3) := by decide +kernel
theorem dX4_choose_11 : decode cX4_choose 11 = .ok (.if_icmp .ge 41, 3) := by decide +kernel
theorem dX4_choose_14 : decode cX4_choose 14 = .ok (.aload_n 0, 1) := by decide +kernel
theorem dX4_choose_15 : decode cX4_choose 15 = .ok (.getfield 16, 3) := by decide +kernel
theorem dX4_choose_18 : decode cX4_choose 18 = .ok (.iload 4, 2) := by decide +kernel
theorem dX4_choose_20 : decode cX4_choose 20 = .ok (.aload_n 0, 1) := by decide +kernel
theorem dX4_choose_21 : decode cX4_choose 21 = .ok (.aload_n 1, 1) := by decide +kernel
theorem dX4_choose_22 : decode cX4_choose 22 = .ok (.iload 4, 2) := by decide +kernel
theorem dX4_choose_24 : decode cX4_choose 24 = .ok (.iload_n 3, 1) := by decide +kernel
theorem dX4_choose_25 : decode cX4_choose 25 = .ok (.invokevirtual 63, 3) := by decide +kernel
theorem dX4_choose_28 : decode cX4_choose 28 = .ok (.iastore, 1) := by decide +kernel
theorem dX4_choose_29 : decode cX4_choose 29 = .ok (.iload_n 3, 1) := by decide +kernel
theorem dX4_choose_30 : decode cX4_choose 30 = .ok (.aload_n 0, 1) := by decide +kernel
theorem dX4_choose_31 : decode cX4_choose 31 = .ok (.getfield 16, 3) := by decide +kernel
theorem dX4_choose_34 : decode cX4_choose 34 = .ok (.iload 4, 2) := by decide +kernel
theorem dX4_choose_36 : decode cX4_choose 36 = .ok (.iaload, 1) := by decide +kernel
theorem dX4_choose_37 : decode cX4_choose 37 = .ok (.aload_n 1, 1) := by decide +kernel
theorem dX4_choose_38 : decode cX4_choose 38 = .ok (.iload 4, 2) := by decide +kernel
theorem dX4_choose_40 : decode cX4_choose 40 = .ok (.invokevirtual 52, 3) := by decide +kernel
theorem dX4_choose_43 : decode cX4_choose 43 = .ok (.imul, 1) := by decide +kernel
theorem dX4_choose_44 : decode cX4_choose 44 = .ok (.isub, 1) := by decide +kernel
theorem dX4_choose_45 : decode cX4_choose 45 = .ok (.istore_n 3, 1) := by decide +kernel
theorem dX4_choose_46 : decode cX4_choose 46 = .ok (.iinc 4 1, 3) := by decide +kernel
theorem dX4_choose_49 : decode cX4_choose 49 = .ok (.goto (-44), 3) := by decide +kernel
theorem dX4_choose_52 : decode cX4_choose 52 = .ok (.return_, 1) := by decide +kernel
theorem dX4_mostOf_0 : decode cX4_mostOf 0 = .ok (.aload_n 1, 1) := by decide +kernel
theorem dX4_mostOf_1 : decode cX4_mostOf 1 = .ok (.iload_n 2, 1) := by decide +kernel
theorem dX4_mostOf_2 : decode cX4_mostOf 2 = .ok (.invokevirtual 52, 3) := by decide +kernel
theorem dX4_mostOf_5 : decode cX4_mostOf 5 = .ok (.istore 4, 2) := by decide +kernel
theorem dX4_mostOf_7 : decode cX4_mostOf 7 = .ok (.iconst 0, 1) := by decide +kernel
theorem dX4_mostOf_8 : decode cX4_mostOf 8 = .ok (.istore 5, 2) := by decide +kernel
theorem dX4_mostOf_10 : decode cX4_mostOf 10 = .ok (.iconst 0, 1) := by decide +kernel
theorem dX4_mostOf_11 : decode cX4_mostOf 11 = .ok (.istore 6, 2) := by decide +kernel
theorem dX4_mostOf_13 : decode cX4_mostOf 13 = .ok (.iload 6, 2) := by decide +kernel
theorem dX4_mostOf_15 : decode cX4_mostOf 15 = .ok (.iload_n 3, 1) := by decide +kernel
theorem dX4_mostOf_16 : decode cX4_mostOf 16 = .ok (.if_icmp .gt 69, 3) := by decide +kernel
theorem dX4_mostOf_19 : decode cX4_mostOf 19 = .ok (.iload 6, 2) := by decide +kernel
theorem dX4_mostOf_21 : decode cX4_mostOf 21 = .ok (.iload 4, 2) := by decide +kernel
theorem dX4_mostOf_23 : decode cX4_mostOf 23 = .ok (.imul, 1) := by decide +kernel
theorem dX4_mostOf_24 : decode cX4_mostOf 24 = .ok (.iload_n 3, 1) := by decide +kernel
theorem dX4_mostOf_25 : decode cX4_mostOf 25 = .ok (.if_icmp .gt 60, 3) := by decide +kernel
theorem dX4_mostOf_28 : decode cX4_mostOf 28 = .ok (.aload_n 0, 1) := by decide +kernel
theorem dX4_mostOf_29 : decode cX4_mostOf 29 = .ok (.getfield 11, 3) := by decide +kernel
theorem dX4_mostOf_32 : decode cX4_mostOf 32 = .ok (.iload_n 2, 1) := by decide +kernel
theorem dX4_mostOf_33 : decode cX4_mostOf 33 = .ok (.iconst 1, 1) := by decide +kernel
theorem dX4_mostOf_34 : decode cX4_mostOf 34 = .ok (.iadd, 1) := by decide +kernel
theorem dX4_mostOf_35 : decode cX4_mostOf 35 = .ok (.aaload, 1) := by decide +kernel
theorem dX4_mostOf_36 : decode cX4_mostOf 36 = .ok (.iload_n 3, 1) := by decide +kernel
theorem dX4_mostOf_37 : decode cX4_mostOf 37 = .ok (.iload 6, 2) := by decide +kernel
theorem dX4_mostOf_39 : decode cX4_mostOf 39 = .ok (.iload 4, 2) := by decide +kernel
theorem dX4_mostOf_41 : decode cX4_mostOf 41 = .ok (.imul, 1) := by decide +kernel
theorem dX4_mostOf_42 : decode cX4_mostOf 42 = .ok (.isub, 1) := by decide +kernel
theorem dX4_mostOf_43 : decode cX4_mostOf 43 = .ok (.iaload, 1) := by decide +kernel
theorem dX4_mostOf_44 : decode cX4_mostOf 44 = .ok (.istore 7, 2) := by decide +kernel
theorem dX4_mostOf_46 : decode cX4_mostOf 46 = .ok (.iload 7, 2) := by decide +kernel
theorem dX4_mostOf_48 : decode cX4_mostOf 48 = .ok (.iconst (-1), 1) := by decide +kernel
theorem dX4_mostOf_49 : decode cX4_mostOf 49 = .ok (.if_icmp .eq 30, 3) := by decide +kernel
theorem dX4_mostOf_52 : decode cX4_mostOf 52 = .ok (.iload 7, 2) := by decide +kernel
theorem dX4_mostOf_54 : decode cX4_mostOf 54 = .ok (.iload 6, 2) := by decide +kernel
theorem dX4_mostOf_56 : decode cX4_mostOf 56 = .ok (.aload_n 1, 1) := by decide +kernel
theorem dX4_mostOf_57 : decode cX4_mostOf 57 = .ok (.getfield 55, 3) := by decide +kernel
theorem dX4_mostOf_60 : decode cX4_mostOf 60 = .ok (.iload_n 2, 1) := by decide +kernel
theorem dX4_mostOf_61 : decode cX4_mostOf 61 = .ok (.iaload, 1) := by decide +kernel
theorem dX4_mostOf_62 : decode cX4_mostOf 62 = .ok (.imul, 1) := by decide +kernel
theorem dX4_mostOf_63 : decode cX4_mostOf 63 = .ok (.iadd, 1) := by decide +kernel
theorem dX4_mostOf_64 : decode cX4_mostOf 64 = .ok (.aload_n 0, 1) := by decide +kernel
theorem dX4_mostOf_65 : decode cX4_mostOf 65 = .ok (.getfield 11, 3) := by decide +kernel
theorem dX4_mostOf_68 : decode cX4_mostOf 68 = .ok (.iload_n 2, 1) := by decide +kernel
theorem dX4_mostOf_69 : decode cX4_mostOf 69 = .ok (.aaload, 1) := by decide +kernel
theorem dX4_mostOf_70 : decode cX4_mostOf 70 = .ok (.iload_n 3, 1) := by decide +kernel
theorem dX4_mostOf_71 : decode cX4_mostOf 71 = .ok (.iaload, 1) := by decide +kernel
theorem dX4_mostOf_72 : decode cX4_mostOf 72 = .ok (.if_icmp .ne 7, 3) := by decide +kernel
theorem dX4_mostOf_75 : decode cX4_mostOf 75 = .ok (.iload 6, 2) := by decide +kernel
theorem dX4_mostOf_77 : decode cX4_mostOf 77 = .ok (.istore 5, 2) := by decide +kernel
theorem dX4_mostOf_79 : decode cX4_mostOf 79 = .ok (.iinc 6 1, 3) := by decide +kernel
theorem dX4_mostOf_82 : decode cX4_mostOf 82 = .ok (.goto (-69), 3) := by decide +kernel
theorem dX4_mostOf_85 : decode cX4_mostOf 85 = .ok (.iload 5, 2) := by decide +kernel
theorem dX4_mostOf_87 : decode cX4_mostOf 87 = .ok (.ireturn, 1) := by decide +kernel
theorem dX5_init_0 : decode cX5_init 0 = .ok (.aload_n 0, 1) := by decide +kernel
theorem dX5_init_1 : decode cX5_init 1 = .ok (.invokespecial 3, 3) := by decide +kernel
theorem dX5_init_4 : decode cX5_init 4 = .ok (.aload_n 0, 1) := by decide +kernel
theorem dX5_init_5 : decode cX5_init 5 = .ok (.iconst 1, 1) := by decide +kernel
theorem dX5_init_6 : decode cX5_init 6 = .ok (.putfield 9, 3) := by decide +kernel
theorem dX5_init_9 : decode cX5_init 9 = .ok (.aload_n 0, 1) := by decide +kernel
theorem dX5_init_10 : decode cX5_init 10 = .ok (.iconst 1, 1) := by decide +kernel
theorem dX5_init_11 : decode cX5_init 11 = .ok (.putfield 15, 3) := by decide +kernel
theorem dX5_init_14 : decode cX5_init 14 = .ok (.aload_n 0, 1) := by decide +kernel
theorem dX5_init_15 : decode cX5_init 15 = .ok (.bipush 16, 2) := by decide +kernel
theorem dX5_init_17 : decode cX5_init 17 = .ok (.newarray .int, 2) := by decide +kernel
theorem dX5_init_19 : decode cX5_init 19 = .ok (.putfield 18, 3) := by decide +kernel
theorem dX5_init_22 : decode cX5_init 22 = .ok (.aload_n 0, 1) := by decide +kernel
theorem dX5_init_23 : decode cX5_init 23 = .ok (.bipush 16, 2) := by decide +kernel
theorem dX5_init_25 : decode cX5_init 25 = .ok (.newarray .int, 2) := by decide +kernel
theorem dX5_init_27 : decode cX5_init 27 = .ok (.putfield 22, 3) := by decide +kernel
theorem dX5_init_30 : decode cX5_init 30 = .ok (.aload_n 0, 1) := by decide +kernel
theorem dX5_init_31 : decode cX5_init 31 = .ok (.new 25, 3) := by decide +kernel
theorem dX5_init_34 : decode cX5_init 34 = .ok (.dup, 1) := by decide +kernel
theorem dX5_init_35 : decode cX5_init 35 = .ok (.invokespecial 27, 3) := by decide +kernel
theorem dX5_init_38 : decode cX5_init 38 = .ok (.putfield 28, 3) := by decide +kernel
theorem dX5_init_41 : decode cX5_init 41 = .ok (.return_, 1) := by decide +kernel
theorem dX5_figureAt_0 : decode cX5_figureAt 0 = .ok (.iload_n 1, 1) := by decide +kernel
theorem dX5_figureAt_1 : decode cX5_figureAt 1 = .ok (.iconst 2, 1) := by decide +kernel
theorem dX5_figureAt_2 : decode cX5_figureAt 2 = .ok (.iload_n 0, 1) := by decide +kernel
theorem dX5_figureAt_3 : decode cX5_figureAt 3 = .ok (.iconst 1, 1) := by decide +kernel
theorem dX5_figureAt_4 : decode cX5_figureAt 4 = .ok (.isub, 1) := by decide +kernel
theorem dX5_figureAt_5 : decode cX5_figureAt 5 = .ok (.iload_n 2, 1) := by decide +kernel
theorem dX5_figureAt_6 : decode cX5_figureAt 6 = .ok (.isub, 1) := by decide +kernel
theorem dX5_figureAt_7 : decode cX5_figureAt 7 = .ok (.imul, 1) := by decide +kernel
theorem dX5_figureAt_8 : decode cX5_figureAt 8 = .ok (.ishr, 1) := by decide +kernel
theorem dX5_figureAt_9 : decode cX5_figureAt 9 = .ok (.iconst 3, 1) := by decide +kernel
theorem dX5_figureAt_10 : decode cX5_figureAt 10 = .ok (.iand, 1) := by decide +kernel
theorem dX5_figureAt_11 : decode cX5_figureAt 11 = .ok (.ireturn, 1) := by decide +kernel
theorem dX5_lastFigure_0 : decode cX5_lastFigure 0 = .ok (.iload_n 0, 1) := by decide +kernel
theorem dX5_lastFigure_1 : decode cX5_lastFigure 1 = .ok (.iconst 3, 1) := by decide +kernel
theorem dX5_lastFigure_2 : decode cX5_lastFigure 2 = .ok (.iand, 1) := by decide +kernel
theorem dX5_lastFigure_3 : decode cX5_lastFigure 3 = .ok (.ireturn, 1) := by decide +kernel
theorem dX5_isAcross_0 : decode cX5_isAcross 0 = .ok (.iload_n 0, 1) := by decide +kernel
theorem dX5_isAcross_1 : decode cX5_isAcross 1 = .ok (.iconst 1, 1) := by decide +kernel
theorem dX5_isAcross_2 : decode cX5_isAcross 2 = .ok (.if_icmp .eq 8, 3) := by decide +kernel
theorem dX5_isAcross_5 : decode cX5_isAcross 5 = .ok (.iload_n 0, 1) := by decide +kernel
theorem dX5_isAcross_6 : decode cX5_isAcross 6 = .ok (.iconst 2, 1) := by decide +kernel
theorem dX5_isAcross_7 : decode cX5_isAcross 7 = .ok (.if_icmp .ne 7, 3) := by decide +kernel
theorem dX5_isAcross_10 : decode cX5_isAcross 10 = .ok (.iconst 1, 1) := by decide +kernel
theorem dX5_isAcross_11 : decode cX5_isAcross 11 = .ok (.goto 4, 3) := by decide +kernel
theorem dX5_isAcross_14 : decode cX5_isAcross 14 = .ok (.iconst 0, 1) := by decide +kernel
theorem dX5_isAcross_15 : decode cX5_isAcross 15 = .ok (.ireturn, 1) := by decide +kernel
theorem dX5_behind_0 : decode cX5_behind 0 = .ok (.iload_n 0, 1) := by decide +kernel
theorem dX5_behind_1 : decode cX5_behind 1 = .ok (.iconst 2, 1) := by decide +kernel
theorem dX5_behind_2 : decode cX5_behind 2 = .ok (.irem, 1) := by decide +kernel
theorem dX5_behind_3 : decode cX5_behind 3 = .ok (.iconst 1, 1) := by decide +kernel
theorem dX5_behind_4 : decode cX5_behind 4 = .ok (.if_icmp .ne 9, 3) := by decide +kernel
theorem dX5_behind_7 : decode cX5_behind 7 = .ok (.iload_n 0, 1) := by decide +kernel
theorem dX5_behind_8 : decode cX5_behind 8 = .ok (.iconst 1, 1) := by decide +kernel
theorem dX5_behind_9 : decode cX5_behind 9 = .ok (.iadd, 1) := by decide +kernel
theorem dX5_behind_10 : decode cX5_behind 10 = .ok (.goto 6, 3) := by decide +kernel
theorem dX5_behind_13 : decode cX5_behind 13 = .ok (.iload_n 0, 1) := by decide +kernel
theorem dX5_behind_14 : decode cX5_behind 14 = .ok (.iconst 1, 1) := by decide +kernel
theorem dX5_behind_15 : decode cX5_behind 15 = .ok (.isub, 1) := by decide +kernel
theorem dX5_behind_16 : decode cX5_behind 16 = .ok (.ireturn, 1) := by decide +kernel
theorem dX5_foldBy_0 : decode cX5_foldBy 0 = .ok (.aload_n 0, 1) := by decide +kernel
theorem dX5_foldBy_1 : decode cX5_foldBy 1 = .ok (.iconst 0, 1) := by decide +kernel
theorem dX5_foldBy_2 : decode cX5_foldBy 2 = .ok (.putfield 32, 3) := by decide +kernel
theorem dX5_foldBy_5 : decode cX5_foldBy 5 = .ok (.iconst 0, 1) := by decide +kernel
theorem dX5_foldBy_6 : decode cX5_foldBy 6 = .ok (.istore_n 3, 1) := by decide +kernel
theorem dX5_foldBy_7 : decode cX5_foldBy 7 = .ok (.iload_n 3, 1) := by decide +kernel
theorem dX5_foldBy_8 : decode cX5_foldBy 8 = .ok (.iload_n 1, 1) := by decide +kernel
theorem dX5_foldBy_9 : decode cX5_foldBy 9 = .ok (.if_icmp .ge 31, 3) := by decide +kernel
theorem dX5_foldBy_12 : decode cX5_foldBy 12 = .ok (.iload_n 1, 1) := by decide +kernel
theorem dX5_foldBy_13 : decode cX5_foldBy 13 = .ok (.iload_n 2, 1) := by decide +kernel
theorem dX5_foldBy_14 : decode cX5_foldBy 14 = .ok (.iload_n 3, 1) := by decide +kernel
theorem dX5_foldBy_15 : decode cX5_foldBy 15 = .ok (.invokestatic 35, 3) := by decide +kernel
theorem dX5_foldBy_18 : decode cX5_foldBy 18 = .ok (.invokestatic 39, 3) := by decide +kernel
theorem dX5_foldBy_21 : decode cX5_foldBy 21 = .ok (.ifCond .eq 13, 3) := by decide +kernel
theorem dX5_foldBy_24 : decode cX5_foldBy 24 = .ok (.aload_n 0, 1) := by decide +kernel
theorem dX5_foldBy_25 : decode cX5_foldBy 25 = .ok (.dup, 1) := by decide +kernel
theorem dX5_foldBy_26 : decode cX5_foldBy 26 = .ok (.getfield 32, 3) := by decide +kernel
theorem dX5_foldBy_29 : decode cX5_foldBy 29 = .ok (.iconst 1, 1) := by decide +kernel
theorem dX5_foldBy_30 : decode cX5_foldBy 30 = .ok (.iadd, 1) := by decide +kernel
theorem dX5_foldBy_31 : decode cX5_foldBy 31 = .ok (.putfield 32, 3) := by decide +kernel
theorem dX5_foldBy_34 : decode cX5_foldBy 34 = .ok (.iinc 3 1, 3) := by decide +kernel
theorem dX5_foldBy_37 : decode cX5_foldBy 37 = .ok (.goto (-30), 3) := by decide +kernel
theorem dX5_foldBy_40 : decode cX5_foldBy 40 = .ok (.aload_n 0, 1) := by decide +kernel
theorem dX5_foldBy_41 : decode cX5_foldBy 41 = .ok (.iconst 1, 1) := by decide +kernel
theorem dX5_foldBy_42 : decode cX5_foldBy 42 = .ok (.aload_n 0, 1) := by decide +kernel
theorem dX5_foldBy_43 : decode cX5_foldBy 43 = .ok (.getfield 32, 3) := by decide +kernel
theorem dX5_foldBy_46 : decode cX5_foldBy 46 = .ok (.ishl, 1) := by decide +kernel
theorem dX5_foldBy_47 : decode cX5_foldBy 47 = .ok (.putfield 9, 3) := by decide +kernel
theorem dX5_foldBy_50 : decode cX5_foldBy 50 = .ok (.aload_n 0, 1) := by decide +kernel
theorem dX5_foldBy_51 : decode cX5_foldBy 51 = .ok (.iconst 1, 1) := by decide +kernel
theorem dX5_foldBy_52 : decode cX5_foldBy 52 = .ok (.iload_n 1, 1) := by decide +kernel
theorem dX5_foldBy_53 : decode cX5_foldBy 53 = .ok (.aload_n 0, 1) := by decide +kernel
theorem dX5_foldBy_54 : decode cX5_foldBy 54 = .ok (.getfield 32, 3) := by decide +kernel
theorem dX5_foldBy_57 : decode cX5_foldBy 57 = .ok (.isub, 1) := by decide +kernel
theorem dX5_foldBy_58 : decode cX5_foldBy 58 = .ok (.ishl, 1) := by decide +kernel
theorem dX5_foldBy_59 : decode cX5_foldBy 59 = .ok (.putfield 15, 3) := by decide +kernel
theorem dX5_foldBy_62 : decode cX5_foldBy 62 = .ok (.iconst 0, 1) := by decide +kernel
theorem dX5_foldBy_63 : decode cX5_foldBy 63 = .ok (.istore_n 3, 1) := by decide +kernel
theorem dX5_foldBy_64 : decode cX5_foldBy 64 = .ok (.iload_n 3, 1) := by decide +kernel
theorem dX5_foldBy_65 : decode cX5_foldBy 65 = .ok (.aload_n 0, 1) := by decide +kernel
theorem dX5_foldBy_66 : decode cX5_foldBy 66 = .ok (.invokevirtual 43, 3) := by decide +kernel
theorem dX5_foldBy_69 : decode cX5_foldBy 69 = .ok (.if_icmp .ge 66, 3) := by decide +kernel
theorem dX5_foldBy_72 : decode cX5_foldBy 72 = .ok (.aload_n 0, 1) := by decide +kernel
theorem dX5_foldBy_73 : decode cX5_foldBy 73 = .ok (.getfield 28, 3) := by decide +kernel
theorem dX5_foldBy_76 : decode cX5_foldBy 76 = .ok (.aload_n 0, 1) := by decide +kernel
theorem dX5_foldBy_77 : decode cX5_foldBy 77 = .ok (.iload_n 3, 1) := by decide +kernel
theorem dX5_foldBy_78 : decode cX5_foldBy 78 = .ok (.invokevirtual 47, 3) := by decide +kernel
theorem dX5_foldBy_81 : decode cX5_foldBy 81 = .ok (.aload_n 0, 1) := by decide +kernel
theorem dX5_foldBy_82 : decode cX5_foldBy 82 = .ok (.iload_n 3, 1) := by decide +kernel
theorem dX5_foldBy_83 : decode cX5_foldBy 83 = .ok (.invokevirtual 51, 3) := by decide +kernel
theorem dX5_foldBy_86 : decode cX5_foldBy 86 = .ok (.aload_n 0, 1) := by decide +kernel
theorem dX5_foldBy_87 : decode cX5_foldBy 87 = .ok (.getfield 9, 3) := by decide +kernel
theorem dX5_foldBy_90 : decode cX5_foldBy 90 = .ok (.aload_n 0, 1) := by decide +kernel
theorem dX5_foldBy_91 : decode cX5_foldBy 91 = .ok (.getfield 15, 3) := by decide +kernel
theorem dX5_foldBy_94 : decode cX5_foldBy 94 = .ok (.invokevirtual 54, 3) := by decide +kernel
theorem dX5_foldBy_97 : decode cX5_foldBy 97 = .ok (.aload_n 0, 1) := by decide +kernel
theorem dX5_foldBy_98 : decode cX5_foldBy 98 = .ok (.iload_n 1, 1) := by decide +kernel
theorem dX5_foldBy_99 : decode cX5_foldBy 99 = .ok (.iload_n 2, 1) := by decide +kernel
theorem dX5_foldBy_100 : decode cX5_foldBy 100 = .ok (.invokevirtual 58, 3) := by decide +kernel
theorem dX5_foldBy_103 : decode cX5_foldBy 103 = .ok (.aload_n 0, 1) := by decide +kernel
theorem dX5_foldBy_104 : decode cX5_foldBy 104 = .ok (.getfield 18, 3) := by decide +kernel
theorem dX5_foldBy_107 : decode cX5_foldBy 107 = .ok (.iload_n 3, 1) := by decide +kernel
theorem dX5_foldBy_108 : decode cX5_foldBy 108 = .ok (.aload_n 0, 1) := by decide +kernel
theorem dX5_foldBy_109 : decode cX5_foldBy 109 = .ok (.getfield 28, 3) := by decide +kernel
theorem dX5_foldBy_112 : decode cX5_foldBy 112 = .ok (.invokevirtual 62, 3) := by decide +kernel
theorem dX5_foldBy_115 : decode cX5_foldBy 115 = .ok (.iastore, 1) := by decide +kernel
theorem dX5_foldBy_116 : decode cX5_foldBy 116 = .ok (.aload_n 0, 1) := by decide +kernel
theorem dX5_foldBy_117 : decode cX5_foldBy 117 = .ok (.getfield 22, 3) := by decide +kernel
theorem dX5_foldBy_120 : decode cX5_foldBy 120 = .ok (.iload_n 3, 1) := by decide +kernel
theorem dX5_foldBy_121 : decode cX5_foldBy 121 = .ok (.aload_n 0, 1) := by decide +kernel
theorem dX5_foldBy_122 : decode cX5_foldBy 122 = .ok (.getfield 28, 3) := by decide +kernel
theorem dX5_foldBy_125 : decode cX5_foldBy 125 = .ok (.getfield 65, 3) := by decide +kernel
theorem dX5_foldBy_128 : decode cX5_foldBy 128 = .ok (.iastore, 1) := by decide +kernel
theorem dX5_foldBy_129 : decode cX5_foldBy 129 = .ok (.iinc 3 1, 3) := by decide +kernel
theorem dX5_foldBy_132 : decode cX5_foldBy 132 = .ok (.goto (-68), 3) := by decide +kernel
theorem dX5_foldBy_135 : decode cX5_foldBy 135 = .ok (.return_, 1) := by decide +kernel
theorem dX5_foldLeaf_0 : decode cX5_foldLeaf 0 = .ok (.iconst 0, 1) := by decide +kernel
theorem dX5_foldLeaf_1 : decode cX5_foldLeaf 1 = .ok (.istore_n 3, 1) := by decide +kernel
theorem dX5_foldLeaf_2 : decode cX5_foldLeaf 2 = .ok (.iload_n 3, 1) := by decide +kernel
theorem dX5_foldLeaf_3 : decode cX5_foldLeaf 3 = .ok (.iload_n 1, 1) := by decide +kernel
theorem dX5_foldLeaf_4 : decode cX5_foldLeaf 4 = .ok (.if_icmp .ge 22, 3) := by decide +kernel
theorem dX5_foldLeaf_7 : decode cX5_foldLeaf 7 = .ok (.aload_n 0, 1) := by decide +kernel
theorem dX5_foldLeaf_8 : decode cX5_foldLeaf 8 = .ok (.getfield 28, 3) := by decide +kernel
theorem dX5_foldLeaf_11 : decode cX5_foldLeaf 11 = .ok (.iload_n 1, 1) := by decide +kernel
theorem dX5_foldLeaf_12 : decode cX5_foldLeaf 12 = .ok (.iload_n 2, 1) := by decide +kernel
theorem dX5_foldLeaf_13 : decode cX5_foldLeaf 13 = .ok (.iload_n 3, 1) := by decide +kernel
theorem dX5_foldLeaf_14 : decode cX5_foldLeaf 14 = .ok (.invokestatic 35, 3) := by decide +kernel
theorem dX5_foldLeaf_17 : decode cX5_foldLeaf 17 = .ok (.invokevirtual 68, 3) := by decide +kernel
theorem dX5_foldLeaf_20 : decode cX5_foldLeaf 20 = .ok (.iinc 3 1, 3) := by decide +kernel
theorem dX5_foldLeaf_23 : decode cX5_foldLeaf 23 = .ok (.goto (-21), 3) := by decide +kernel
theorem dX5_foldLeaf_26 : decode cX5_foldLeaf 26 = .ok (.iload_n 2, 1) := by decide +kernel
theorem dX5_foldLeaf_27 : decode cX5_foldLeaf 27 = .ok (.invokestatic 72, 3) := by decide +kernel
theorem dX5_foldLeaf_30 : decode cX5_foldLeaf 30 = .ok (.iconst 2, 1) := by decide +kernel
theorem dX5_foldLeaf_31 : decode cX5_foldLeaf 31 = .ok (.if_icmp .ne 10, 3) := by decide +kernel
theorem dX5_foldLeaf_34 : decode cX5_foldLeaf 34 = .ok (.aload_n 0, 1) := by decide +kernel
theorem dX5_foldLeaf_35 : decode cX5_foldLeaf 35 = .ok (.getfield 28, 3) := by decide +kernel
theorem dX5_foldLeaf_38 : decode cX5_foldLeaf 38 = .ok (.invokevirtual 75, 3) := by decide +kernel
theorem dX5_foldLeaf_41 : decode cX5_foldLeaf 41 = .ok (.return_, 1) := by decide +kernel
theorem dX5_leaves_0 : decode cX5_leaves 0 = .ok (.aload_n 0, 1) := by decide +kernel
theorem dX5_leaves_1 : decode cX5_leaves 1 = .ok (.getfield 9, 3) := by decide +kernel
theorem dX5_leaves_4 : decode cX5_leaves 4 = .ok (.aload_n 0, 1) := by decide +kernel
theorem dX5_leaves_5 : decode cX5_leaves 5 = .ok (.getfield 15, 3) := by decide +kernel
theorem dX5_leaves_8 : decode cX5_leaves 8 = .ok (.imul, 1) := by decide +kernel
theorem dX5_leaves_9 : decode cX5_leaves 9 = .ok (.bipush 16, 2) := by decide +kernel
theorem dX5_leaves_11 : decode cX5_leaves 11 = .ok (.invokestatic 78, 3) := by decide +kernel
theorem dX5_leaves_14 : decode cX5_leaves 14 = .ok (.ireturn, 1) := by decide +kernel
theorem dX5_cellAt_0 : decode cX5_cellAt 0 = .ok (.iload_n 2, 1) := by decide +kernel
theorem dX5_cellAt_1 : decode cX5_cellAt 1 = .ok (.aload_n 0, 1) := by decide +kernel
theorem dX5_cellAt_2 : decode cX5_cellAt 2 = .ok (.getfield 32, 3) := by decide +kernel
theorem dX5_cellAt_5 : decode cX5_cellAt 5 = .ok (.ishl, 1) := by decide +kernel
theorem dX5_cellAt_6 : decode cX5_cellAt 6 = .ok (.iload_n 1, 1) := by decide +kernel
theorem dX5_cellAt_7 : decode cX5_cellAt 7 = .ok (.iadd, 1) := by decide +kernel
theorem dX5_cellAt_8 : decode cX5_cellAt 8 = .ok (.ireturn, 1) := by decide +kernel
theorem dX5_columnAt_0 : decode cX5_columnAt 0 = .ok (.iload_n 1, 1) := by decide +kernel
theorem dX5_columnAt_1 : decode cX5_columnAt 1 = .ok (.aload_n 0, 1) := by decide +kernel
theorem dX5_columnAt_2 : decode cX5_columnAt 2 = .ok (.getfield 9, 3) := by decide +kernel
theorem dX5_columnAt_5 : decode cX5_columnAt 5 = .ok (.iconst 1, 1) := by decide +kernel
theorem dX5_columnAt_6 : decode cX5_columnAt 6 = .ok (.isub, 1) := by decide +kernel
theorem dX5_columnAt_7 : decode cX5_columnAt 7 = .ok (.iand, 1) := by decide +kernel
theorem dX5_columnAt_8 : decode cX5_columnAt 8 = .ok (.ireturn, 1) := by decide +kernel
theorem dX5_rowAt_0 : decode cX5_rowAt 0 = .ok (.iload_n 1, 1) := by decide +kernel
theorem dX5_rowAt_1 : decode cX5_rowAt 1 = .ok (.aload_n 0, 1) := by decide +kernel
theorem dX5_rowAt_2 : decode cX5_rowAt 2 = .ok (.getfield 32, 3) := by decide +kernel
theorem dX5_rowAt_5 : decode cX5_rowAt 5 = .ok (.ishr, 1) := by decide +kernel
theorem dX5_rowAt_6 : decode cX5_rowAt 6 = .ok (.ireturn, 1) := by decide +kernel
theorem dX5_hasCell_0 : decode cX5_hasCell 0 = .ok (.iload_n 1, 1) := by decide +kernel
theorem dX5_hasCell_1 : decode cX5_hasCell 1 = .ok (.ifCond .lt 27, 3) := by decide +kernel
theorem dX5_hasCell_4 : decode cX5_hasCell 4 = .ok (.iload_n 1, 1) := by decide +kernel
theorem dX5_hasCell_5 : decode cX5_hasCell 5 = .ok (.aload_n 0, 1) := by decide +kernel
theorem dX5_hasCell_6 : decode cX5_hasCell 6 = .ok (.getfield 9, 3) := by decide +kernel
theorem dX5_hasCell_9 : decode cX5_hasCell 9 = .ok (.if_icmp .ge 19, 3) := by decide +kernel
theorem dX5_hasCell_12 : decode cX5_hasCell 12 = .ok (.iload_n 2, 1) := by decide +kernel
theorem dX5_hasCell_13 : decode cX5_hasCell 13 = .ok (.ifCond .lt 15, 3) := by decide +kernel
theorem dX5_hasCell_16 : decode cX5_hasCell 16 = .ok (.iload_n 2, 1) := by decide +kernel
theorem dX5_hasCell_17 : decode cX5_hasCell 17 = .ok (.aload_n 0, 1) := by decide +kernel
theorem dX5_hasCell_18 : decode cX5_hasCell 18 = .ok (.getfield 15, 3) := by decide +kernel
theorem dX5_hasCell_21 : decode cX5_hasCell 21 = .ok (.if_icmp .ge 7, 3) := by decide +kernel
theorem dX5_hasCell_24 : decode cX5_hasCell 24 = .ok (.iconst 1, 1) := by decide +kernel
theorem dX5_hasCell_25 : decode cX5_hasCell 25 = .ok (.goto 4, 3) := by decide +kernel
theorem dX5_hasCell_28 : decode cX5_hasCell 28 = .ok (.iconst 0, 1) := by decide +kernel
theorem dX5_hasCell_29 : decode cX5_hasCell 29 = .ok (.ireturn, 1) := by decide +kernel
theorem dX5_pageOn_0 : decode cX5_pageOn 0 = .ok (.aload_n 0, 1) := by decide +kernel
theorem dX5_pageOn_1 : decode cX5_pageOn 1 = .ok (.getfield 18, 3) := by decide +kernel
theorem dX5_pageOn_4 : decode cX5_pageOn 4 = .ok (.aload_n 0, 1) := by decide +kernel
theorem dX5_pageOn_5 : decode cX5_pageOn 5 = .ok (.iload_n 2, 1) := by decide +kernel
theorem dX5_pageOn_6 : decode cX5_pageOn 6 = .ok (.iload_n 3, 1) := by decide +kernel
theorem dX5_pageOn_7 : decode cX5_pageOn 7 = .ok (.invokevirtual 84, 3) := by decide +kernel
theorem dX5_pageOn_10 : decode cX5_pageOn 10 = .ok (.iaload, 1) := by decide +kernel
theorem dX5_pageOn_11 : decode cX5_pageOn 11 = .ok (.istore 4, 2) := by decide +kernel
theorem dX5_pageOn_13 : decode cX5_pageOn 13 = .ok (.iload_n 1, 1) := by decide +kernel
theorem dX5_pageOn_14 : decode cX5_pageOn 14 = .ok (.ifCond .ne 8, 3) := by decide +kernel
theorem dX5_pageOn_17 : decode cX5_pageOn 17 = .ok (.iload 4, 2) := by decide +kernel
theorem dX5_pageOn_19 : decode cX5_pageOn 19 = .ok (.goto 8, 3) := by decide +kernel
theorem dX5_pageOn_22 : decode cX5_pageOn 22 = .ok (.iload 4, 2) := by decide +kernel
theorem dX5_pageOn_24 : decode cX5_pageOn 24 = .ok (.invokestatic 87, 3) := by decide +kernel
theorem dX5_pageOn_27 : decode cX5_pageOn 27 = .ok (.ireturn, 1) := by decide +kernel
theorem dX5_cellOf_0 : decode cX5_cellOf 0 = .ok (.iconst 0, 1) := by decide +kernel
theorem dX5_cellOf_1 : decode cX5_cellOf 1 = .ok (.istore_n 2, 1) := by decide +kernel
theorem dX5_cellOf_2 : decode cX5_cellOf 2 = .ok (.iload_n 2, 1) := by decide +kernel
theorem dX5_cellOf_3 : decode cX5_cellOf 3 = .ok (.aload_n 0, 1) := by decide +kernel
theorem dX5_cellOf_4 : decode cX5_cellOf 4 = .ok (.invokevirtual 43, 3) := by decide +kernel
theorem dX5_cellOf_7 : decode cX5_cellOf 7 = .ok (.if_icmp .ge 34, 3) := by decide +kernel
theorem dX5_cellOf_10 : decode cX5_cellOf 10 = .ok (.aload_n 0, 1) := by decide +kernel
theorem dX5_cellOf_11 : decode cX5_cellOf 11 = .ok (.getfield 18, 3) := by decide +kernel
theorem dX5_cellOf_14 : decode cX5_cellOf 14 = .ok (.iload_n 2, 1) := by decide +kernel
theorem dX5_cellOf_15 : decode cX5_cellOf 15 = .ok (.iaload, 1) := by decide +kernel
theorem dX5_cellOf_16 : decode cX5_cellOf 16 = .ok (.iload_n 1, 1) := by decide +kernel
theorem dX5_cellOf_17 : decode cX5_cellOf 17 = .ok (.if_icmp .eq 16, 3) := by decide +kernel
theorem dX5_cellOf_20 : decode cX5_cellOf 20 = .ok (.aload_n 0, 1) := by decide +kernel
theorem dX5_cellOf_21 : decode cX5_cellOf 21 = .ok (.getfield 18, 3) := by decide +kernel
theorem dX5_cellOf_24 : decode cX5_cellOf 24 = .ok (.iload_n 2, 1) := by decide +kernel
theorem dX5_cellOf_25 : decode cX5_cellOf 25 = .ok (.iaload, 1) := by decide +kernel
theorem dX5_cellOf_26 : decode cX5_cellOf 26 = .ok (.iload_n 1, 1) := by decide +kernel
theorem dX5_cellOf_27 : decode cX5_cellOf 27 = .ok (.invokestatic 87, 3) := by decide +kernel
theorem dX5_cellOf_30 : decode cX5_cellOf 30 = .ok (.if_icmp .ne 5, 3) := by decide +kernel
theorem dX5_cellOf_33 : decode cX5_cellOf 33 = .ok (.iload_n 2, 1) := by decide +kernel
theorem dX5_cellOf_34 : decode cX5_cellOf 34 = .ok (.ireturn, 1) := by decide +kernel
theorem dX5_cellOf_35 : decode cX5_cellOf 35 = .ok (.iinc 2 1, 3) := by decide +kernel
theorem dX5_cellOf_38 : decode cX5_cellOf 38 = .ok (.goto (-36), 3) := by decide +kernel
theorem dX5_cellOf_41 : decode cX5_cellOf 41 = .ok (.iconst 0, 1) := by decide +kernel
theorem dX5_cellOf_42 : decode cX5_cellOf 42 = .ok (.ireturn, 1) := by decide +kernel
theorem dX5_sideOf_0 : decode cX5_sideOf 0 = .ok (.aload_n 0, 1) := by decide +kernel
theorem dX5_sideOf_1 : decode cX5_sideOf 1 = .ok (.getfield 18, 3) := by decide +kernel
theorem dX5_sideOf_4 : decode cX5_sideOf 4 = .ok (.aload_n 0, 1) := by decide +kernel
theorem dX5_sideOf_5 : decode cX5_sideOf 5 = .ok (.iload_n 1, 1) := by decide +kernel
theorem dX5_sideOf_6 : decode cX5_sideOf 6 = .ok (.invokevirtual 90, 3) := by decide +kernel
theorem dX5_sideOf_9 : decode cX5_sideOf 9 = .ok (.iaload, 1) := by decide +kernel
theorem dX5_sideOf_10 : decode cX5_sideOf 10 = .ok (.iload_n 1, 1) := by decide +kernel
theorem dX5_sideOf_11 : decode cX5_sideOf 11 = .ok (.if_icmp .ne 7, 3) := by decide +kernel
theorem dX5_sideOf_14 : decode cX5_sideOf 14 = .ok (.iconst 0, 1) := by decide +kernel
theorem dX5_sideOf_15 : decode cX5_sideOf 15 = .ok (.goto 4, 3) := by decide +kernel
theorem dX5_sideOf_18 : decode cX5_sideOf 18 = .ok (.iconst 1, 1) := by decide +kernel
theorem dX5_sideOf_19 : decode cX5_sideOf 19 = .ok (.ireturn, 1) := by decide +kernel
theorem dX5_columnOf_0 : decode cX5_columnOf 0 = .ok (.aload_n 0, 1) := by decide +kernel
theorem dX5_columnOf_1 : decode cX5_columnOf 1 = .ok (.aload_n 0, 1) := by decide +kernel
theorem dX5_columnOf_2 : decode cX5_columnOf 2 = .ok (.iload_n 1, 1) := by decide +kernel
theorem dX5_columnOf_3 : decode cX5_columnOf 3 = .ok (.invokevirtual 90, 3) := by decide +kernel
theorem dX5_columnOf_6 : decode cX5_columnOf 6 = .ok (.invokevirtual 47, 3) := by decide +kernel
theorem dX5_columnOf_9 : decode cX5_columnOf 9 = .ok (.ireturn, 1) := by decide +kernel
theorem dX5_rowOf_0 : decode cX5_rowOf 0 = .ok (.aload_n 0, 1) := by decide +kernel
theorem dX5_rowOf_1 : decode cX5_rowOf 1 = .ok (.aload_n 0, 1) := by decide +kernel
theorem dX5_rowOf_2 : decode cX5_rowOf 2 = .ok (.iload_n 1, 1) := by decide +kernel
theorem dX5_rowOf_3 : decode cX5_rowOf 3 = .ok (.invokevirtual 90, 3) := by decide +kernel
theorem dX5_rowOf_6 : decode cX5_rowOf 6 = .ok (.invokevirtual 51, 3) := by decide +kernel
theorem dX5_rowOf_9 : decode cX5_rowOf 9 = .ok (.ireturn, 1) := by decide +kernel
theorem dX5_isOverturned_0 : decode cX5_isOverturned 0 = .ok (.aload_n 0, 1) := by decide +kernel
theorem dX5_isOverturned_1 : decode cX5_isOverturned 1 = .ok (.getfield 22, 3) := by decide +kernel
theorem dX5_isOverturned_4 : decode cX5_isOverturned 4 = .ok (.aload_n 0, 1) := by decide +kernel
theorem dX5_isOverturned_5 : decode cX5_isOverturned 5 = .ok (.iload_n 1, 1) := by decide +kernel
theorem dX5_isOverturned_6 : decode cX5_isOverturned 6 = .ok (.invokevirtual 90, 3) := by decide +kernel
theorem dX5_isOverturned_9 : decode cX5_isOverturned 9 = .ok (.iaload, 1) := by decide +kernel
theorem dX5_isOverturned_10 : decode cX5_isOverturned 10 = .ok (.ireturn, 1) := by decide +kernel
theorem dX5_rightOf_0 : decode cX5_rightOf 0 = .ok (.aload_n 0, 1) := by decide +kernel
theorem dX5_rightOf_1 : decode cX5_rightOf 1 = .ok (.iload_n 1, 1) := by decide +kernel
theorem dX5_rightOf_2 : decode cX5_rightOf 2 = .ok (.invokevirtual 93, 3) := by decide +kernel
theorem dX5_rightOf_5 : decode cX5_rightOf 5 = .ok (.istore_n 2, 1) := by decide +kernel
theorem dX5_rightOf_6 : decode cX5_rightOf 6 = .ok (.aload_n 0, 1) := by decide +kernel
theorem dX5_rightOf_7 : decode cX5_rightOf 7 = .ok (.iload_n 1, 1) := by decide +kernel
theorem dX5_rightOf_8 : decode cX5_rightOf 8 = .ok (.invokevirtual 96, 3) := by decide +kernel
theorem dX5_rightOf_11 : decode cX5_rightOf 11 = .ok (.iload_n 2, 1) := by decide +kernel
theorem dX5_rightOf_12 : decode cX5_rightOf 12 = .ok (.ifCond .ne 7, 3) := by decide +kernel
theorem dX5_rightOf_15 : decode cX5_rightOf 15 = .ok (.iconst 1, 1) := by decide +kernel
theorem dX5_rightOf_16 : decode cX5_rightOf 16 = .ok (.goto 4, 3) := by decide +kernel
theorem dX5_rightOf_19 : decode cX5_rightOf 19 = .ok (.iconst (-1), 1) := by decide +kernel
theorem dX5_rightOf_20 : decode cX5_rightOf 20 = .ok (.iadd, 1) := by decide +kernel
theorem dX5_rightOf_21 : decode cX5_rightOf 21 = .ok (.istore_n 3, 1) := by decide +kernel
theorem dX5_rightOf_22 : decode cX5_rightOf 22 = .ok (.aload_n 0, 1) := by decide +kernel
theorem dX5_rightOf_23 : decode cX5_rightOf 23 = .ok (.iload_n 1, 1) := by decide +kernel
theorem dX5_rightOf_24 : decode cX5_rightOf 24 = .ok (.invokevirtual 99, 3) := by decide +kernel
theorem dX5_rightOf_27 : decode cX5_rightOf 27 = .ok (.istore 4, 2) := by decide +kernel
theorem dX5_rightOf_29 : decode cX5_rightOf 29 = .ok (.aload_n 0, 1) := by decide +kernel
theorem dX5_rightOf_30 : decode cX5_rightOf 30 = .ok (.iload_n 3, 1) := by decide +kernel
theorem dX5_rightOf_31 : decode cX5_rightOf 31 = .ok (.iload 4, 2) := by decide +kernel
theorem dX5_rightOf_33 : decode cX5_rightOf 33 = .ok (.invokevirtual 102, 3) := by decide +kernel
theorem dX5_rightOf_36 : decode cX5_rightOf 36 = .ok (.ifCond .eq 14, 3) := by decide +kernel
theorem dX5_rightOf_39 : decode cX5_rightOf 39 = .ok (.aload_n 0, 1) := by decide +kernel
theorem dX5_rightOf_40 : decode cX5_rightOf 40 = .ok (.iload_n 2, 1) := by decide +kernel
theorem dX5_rightOf_41 : decode cX5_rightOf 41 = .ok (.iload_n 3, 1) := by decide +kernel
theorem dX5_rightOf_42 : decode cX5_rightOf 42 = .ok (.iload 4, 2) := by decide +kernel
theorem dX5_rightOf_44 : decode cX5_rightOf 44 = .ok (.invokevirtual 106, 3) := by decide +kernel
theorem dX5_rightOf_47 : decode cX5_rightOf 47 = .ok (.goto 5, 3) := by decide +kernel
theorem dX5_rightOf_50 : decode cX5_rightOf 50 = .ok (.bipush (-4), 2) := by decide +kernel
theorem dX5_rightOf_52 : decode cX5_rightOf 52 = .ok (.ireturn, 1) := by decide +kernel
theorem dX5_overturnedLeaves_0 : decode cX5_overturnedLeaves 0 = .ok (.iconst 0, 1) := by decide +kernel
theorem dX5_overturnedLeaves_1 : decode cX5_overturnedLeaves 1 = .ok (.istore_n 1, 1) := by decide +kernel
theorem dX5_overturnedLeaves_2 : decode cX5_overturnedLeaves 2 = .ok (.iconst 0, 1) := by decide +kernel
theorem dX5_overturnedLeaves_3 : decode cX5_overturnedLeaves 3 = .ok (.istore_n 2, 1) := by decide +kernel
theorem dX5_overturnedLeaves_4 : decode cX5_overturnedLeaves 4 = .ok (.iload_n 2, 1) := by decide +kernel
theorem dX5_overturnedLeaves_5 : decode cX5_overturnedLeaves 5 = .ok (.aload_n 0, 1) := by decide +kernel
theorem dX5_overturnedLeaves_6 : decode cX5_overturnedLeaves 6 = .ok (.invokevirtual 43, 3) := by decide +kernel
theorem dX5_overturnedLeaves_9 : decode cX5_overturnedLeaves 9 = .ok (.if_icmp .ge 18, 3) := by decide +kernel
theorem dX5_overturnedLeaves_12 : decode cX5_overturnedLeaves 12 = .ok (.iload_n 1, 1) := by decide +kernel
theorem dX5_overturnedLeaves_13 : decode cX5_overturnedLeaves 13 = .ok (.aload_n 0, 1) := by decide +kernel
theorem dX5_overturnedLeaves_14 : decode cX5_overturnedLeaves 14 = .ok (.getfield 22, 3) := by decide +kernel
theorem dX5_overturnedLeaves_17 : decode cX5_overturnedLeaves 17 = .ok (.iload_n 2, 1) := by decide +kernel
theorem dX5_overturnedLeaves_18 : decode cX5_overturnedLeaves 18 = .ok (.iaload, 1) := by decide +kernel
theorem dX5_overturnedLeaves_19 : decode cX5_overturnedLeaves 19 = .ok (.iadd, 1) := by decide +kernel
theorem dX5_overturnedLeaves_20 : decode cX5_overturnedLeaves 20 = .ok (.istore_n 1, 1) := by decide +kernel
theorem dX5_overturnedLeaves_21 : decode cX5_overturnedLeaves 21 = .ok (.iinc 2 1, 3) := by decide +kernel
theorem dX5_overturnedLeaves_24 : decode cX5_overturnedLeaves 24 = .ok (.goto (-20), 3) := by decide +kernel
theorem dX5_overturnedLeaves_27 : decode cX5_overturnedLeaves 27 = .ok (.iload_n 1, 1) := by decide +kernel
theorem dX5_overturnedLeaves_28 : decode cX5_overturnedLeaves 28 = .ok (.ireturn, 1) := by decide +kernel
theorem dX5_markOf_0 : decode cX5_markOf 0 = .ok (.aload_n 0, 1) := by decide +kernel
theorem dX5_markOf_1 : decode cX5_markOf 1 = .ok (.getfield 9, 3) := by decide +kernel
theorem dX5_markOf_4 : decode cX5_markOf 4 = .ok (.bipush 64, 2) := by decide +kernel
theorem dX5_markOf_6 : decode cX5_markOf 6 = .ok (.imul, 1) := by decide +kernel
theorem dX5_markOf_7 : decode cX5_markOf 7 = .ok (.aload_n 0, 1) := by decide +kernel
theorem dX5_markOf_8 : decode cX5_markOf 8 = .ok (.getfield 18, 3) := by decide +kernel
theorem dX5_markOf_11 : decode cX5_markOf 11 = .ok (.iload_n 1, 1) := by decide +kernel
theorem dX5_markOf_12 : decode cX5_markOf 12 = .ok (.iaload, 1) := by decide +kernel
theorem dX5_markOf_13 : decode cX5_markOf 13 = .ok (.iadd, 1) := by decide +kernel
theorem dX5_markOf_14 : decode cX5_markOf 14 = .ok (.iconst 2, 1) := by decide +kernel
theorem dX5_markOf_15 : decode cX5_markOf 15 = .ok (.imul, 1) := by decide +kernel
theorem dX5_markOf_16 : decode cX5_markOf 16 = .ok (.aload_n 0, 1) := by decide +kernel
theorem dX5_markOf_17 : decode cX5_markOf 17 = .ok (.getfield 22, 3) := by decide +kernel
theorem dX5_markOf_20 : decode cX5_markOf 20 = .ok (.iload_n 1, 1) := by decide +kernel
theorem dX5_markOf_21 : decode cX5_markOf 21 = .ok (.iaload, 1) := by decide +kernel
theorem dX5_markOf_22 : decode cX5_markOf 22 = .ok (.iadd, 1) := by decide +kernel
theorem dX5_markOf_23 : decode cX5_markOf 23 = .ok (.ireturn, 1) := by decide +kernel

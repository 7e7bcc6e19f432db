theorem dX8_findLeast_251 : decode cX8_findLeast 251 = .ok (.goto (-190), 3) := by decide +kernel
theorem dX8_findLeast_254 : decode cX8_findLeast 254 = .ok (.iinc 1 1, 3) := by decide +kernel
theorem dX8_findLeast_257 : decode cX8_findLeast 257 = .ok (.goto (-230), 3) := by decide +kernel
theorem dX8_findLeast_260 : decode cX8_findLeast 260 = .ok (.return_, 1) := by decide +kernel
theorem dX8_layRow_0 : decode cX8_layRow 0 = .ok (.aload_n 0, 1) := by decide +kernel
theorem dX8_layRow_1 : decode cX8_layRow 1 = .ok (.invokevirtual 216, 3) := by decide +kernel
theorem dX8_layRow_4 : decode cX8_layRow 4 = .ok (.aload_n 0, 1) := by decide +kernel
theorem dX8_layRow_5 : decode cX8_layRow 5 = .ok (.iconst 0, 1) := by decide +kernel
theorem dX8_layRow_6 : decode cX8_layRow 6 = .ok (.putfield 219, 3) := by decide +kernel
theorem dX8_layRow_9 : decode cX8_layRow 9 = .ok (.aload_n 0, 1) := by decide +kernel
theorem dX8_layRow_10 : decode cX8_layRow 10 = .ok (.invokevirtual 78, 3) := by decide +kernel
theorem dX8_layRow_13 : decode cX8_layRow 13 = .ok (.istore_n 1, 1) := by decide +kernel
theorem dX8_layRow_14 : decode cX8_layRow 14 = .ok (.aload_n 0, 1) := by decide +kernel
theorem dX8_layRow_15 : decode cX8_layRow 15 = .ok (.getfield 46, 3) := by decide +kernel
theorem dX8_layRow_18 : decode cX8_layRow 18 = .ok (.iload_n 1, 1) := by decide +kernel
theorem dX8_layRow_19 : decode cX8_layRow 19 = .ok (.iaload, 1) := by decide +kernel
theorem dX8_layRow_20 : decode cX8_layRow 20 = .ok (.ldc 206, 2) := by decide +kernel
theorem dX8_layRow_22 : decode cX8_layRow 22 = .ok (.if_icmp .ne 5, 3) := by decide +kernel
theorem dX8_layRow_25 : decode cX8_layRow 25 = .ok (.iconst 0, 1) := by decide +kernel
theorem dX8_layRow_26 : decode cX8_layRow 26 = .ok (.ireturn, 1) := by decide +kernel
theorem dX8_layRow_27 : decode cX8_layRow 27 = .ok (.iload_n 1, 1) := by decide +kernel
theorem dX8_layRow_28 : decode cX8_layRow 28 = .ok (.ifCond .eq 49, 3) := by decide +kernel
theorem dX8_layRow_31 : decode cX8_layRow 31 = .ok (.iconst 1, 1) := by decide +kernel
theorem dX8_layRow_32 : decode cX8_layRow 32 = .ok (.istore_n 2, 1) := by decide +kernel
theorem dX8_layRow_33 : decode cX8_layRow 33 = .ok (.aload_n 0, 1) := by decide +kernel
theorem dX8_layRow_34 : decode cX8_layRow 34 = .ok (.iload_n 2, 1) := by decide +kernel
theorem dX8_layRow_35 : decode cX8_layRow 35 = .ok (.iload_n 1, 1) := by decide +kernel
theorem dX8_layRow_36 : decode cX8_layRow 36 = .ok (.invokevirtual 222, 3) := by decide +kernel
theorem dX8_layRow_39 : decode cX8_layRow 39 = .ok (.ifCond .ne 9, 3) := by decide +kernel
theorem dX8_layRow_42 : decode cX8_layRow 42 = .ok (.iinc 2 1, 3) := by decide +kernel
theorem dX8_layRow_45 : decode cX8_layRow 45 = .ok (.goto (-12), 3) := by decide +kernel
theorem dX8_layRow_48 : decode cX8_layRow 48 = .ok (.aload_n 0, 1) := by decide +kernel
theorem dX8_layRow_49 : decode cX8_layRow 49 = .ok (.getfield 58, 3) := by decide +kernel
theorem dX8_layRow_52 : decode cX8_layRow 52 = .ok (.aload_n 0, 1) := by decide +kernel
theorem dX8_layRow_53 : decode cX8_layRow 53 = .ok (.getfield 219, 3) := by decide +kernel
theorem dX8_layRow_56 : decode cX8_layRow 56 = .ok (.iload_n 2, 1) := by decide +kernel
theorem dX8_layRow_57 : decode cX8_layRow 57 = .ok (.iastore, 1) := by decide +kernel
theorem dX8_layRow_58 : decode cX8_layRow 58 = .ok (.aload_n 0, 1) := by decide +kernel
theorem dX8_layRow_59 : decode cX8_layRow 59 = .ok (.dup, 1) := by decide +kernel
theorem dX8_layRow_60 : decode cX8_layRow 60 = .ok (.getfield 219, 3) := by decide +kernel
theorem dX8_layRow_63 : decode cX8_layRow 63 = .ok (.iconst 1, 1) := by decide +kernel
theorem dX8_layRow_64 : decode cX8_layRow 64 = .ok (.iadd, 1) := by decide +kernel
theorem dX8_layRow_65 : decode cX8_layRow 65 = .ok (.putfield 219, 3) := by decide +kernel
theorem dX8_layRow_68 : decode cX8_layRow 68 = .ok (.iload_n 1, 1) := by decide +kernel
theorem dX8_layRow_69 : decode cX8_layRow 69 = .ok (.iload_n 2, 1) := by decide +kernel
theorem dX8_layRow_70 : decode cX8_layRow 70 = .ok (.iconst (-1), 1) := by decide +kernel
theorem dX8_layRow_71 : decode cX8_layRow 71 = .ok (.ixor, 1) := by decide +kernel
theorem dX8_layRow_72 : decode cX8_layRow 72 = .ok (.iand, 1) := by decide +kernel
theorem dX8_layRow_73 : decode cX8_layRow 73 = .ok (.istore_n 1, 1) := by decide +kernel
theorem dX8_layRow_74 : decode cX8_layRow 74 = .ok (.goto (-47), 3) := by decide +kernel
theorem dX8_layRow_77 : decode cX8_layRow 77 = .ok (.iconst 1, 1) := by decide +kernel
theorem dX8_layRow_78 : decode cX8_layRow 78 = .ok (.ireturn, 1) := by decide +kernel
theorem dX8_isNext_0 : decode cX8_isNext 0 = .ok (.iload_n 2, 1) := by decide +kernel
theorem dX8_isNext_1 : decode cX8_isNext 1 = .ok (.iload_n 1, 1) := by decide +kernel
theorem dX8_isNext_2 : decode cX8_isNext 2 = .ok (.iconst (-1), 1) := by decide +kernel
theorem dX8_isNext_3 : decode cX8_isNext 3 = .ok (.ixor, 1) := by decide +kernel
theorem dX8_isNext_4 : decode cX8_isNext 4 = .ok (.iand, 1) := by decide +kernel
theorem dX8_isNext_5 : decode cX8_isNext 5 = .ok (.istore_n 3, 1) := by decide +kernel
theorem dX8_isNext_6 : decode cX8_isNext 6 = .ok (.aload_n 0, 1) := by decide +kernel
theorem dX8_isNext_7 : decode cX8_isNext 7 = .ok (.iload_n 1, 1) := by decide +kernel
theorem dX8_isNext_8 : decode cX8_isNext 8 = .ok (.iload_n 2, 1) := by decide +kernel
theorem dX8_isNext_9 : decode cX8_isNext 9 = .ok (.invokevirtual 210, 3) := by decide +kernel
theorem dX8_isNext_12 : decode cX8_isNext 12 = .ok (.ifCond .eq 50, 3) := by decide +kernel
theorem dX8_isNext_15 : decode cX8_isNext 15 = .ok (.aload_n 0, 1) := by decide +kernel
theorem dX8_isNext_16 : decode cX8_isNext 16 = .ok (.iload_n 1, 1) := by decide +kernel
theorem dX8_isNext_17 : decode cX8_isNext 17 = .ok (.invokevirtual 213, 3) := by decide +kernel
theorem dX8_isNext_20 : decode cX8_isNext 20 = .ok (.aload_n 0, 1) := by decide +kernel
theorem dX8_isNext_21 : decode cX8_isNext 21 = .ok (.getfield 46, 3) := by decide +kernel
theorem dX8_isNext_24 : decode cX8_isNext 24 = .ok (.iload_n 3, 1) := by decide +kernel
theorem dX8_isNext_25 : decode cX8_isNext 25 = .ok (.iaload, 1) := by decide +kernel
theorem dX8_isNext_26 : decode cX8_isNext 26 = .ok (.iadd, 1) := by decide +kernel
theorem dX8_isNext_27 : decode cX8_isNext 27 = .ok (.aload_n 0, 1) := by decide +kernel
theorem dX8_isNext_28 : decode cX8_isNext 28 = .ok (.getfield 46, 3) := by decide +kernel
theorem dX8_isNext_31 : decode cX8_isNext 31 = .ok (.iload_n 2, 1) := by decide +kernel
theorem dX8_isNext_32 : decode cX8_isNext 32 = .ok (.iaload, 1) := by decide +kernel
theorem dX8_isNext_33 : decode cX8_isNext 33 = .ok (.if_icmp .ne 29, 3) := by decide +kernel
theorem dX8_isNext_36 : decode cX8_isNext 36 = .ok (.aload_n 0, 1) := by decide +kernel
theorem dX8_isNext_37 : decode cX8_isNext 37 = .ok (.getfield 55, 3) := by decide +kernel
theorem dX8_isNext_40 : decode cX8_isNext 40 = .ok (.iload_n 1, 1) := by decide +kernel
theorem dX8_isNext_41 : decode cX8_isNext 41 = .ok (.iaload, 1) := by decide +kernel
theorem dX8_isNext_42 : decode cX8_isNext 42 = .ok (.aload_n 0, 1) := by decide +kernel
theorem dX8_isNext_43 : decode cX8_isNext 43 = .ok (.getfield 49, 3) := by decide +kernel
theorem dX8_isNext_46 : decode cX8_isNext 46 = .ok (.iload_n 3, 1) := by decide +kernel
theorem dX8_isNext_47 : decode cX8_isNext 47 = .ok (.iaload, 1) := by decide +kernel
theorem dX8_isNext_48 : decode cX8_isNext 48 = .ok (.iadd, 1) := by decide +kernel
theorem dX8_isNext_49 : decode cX8_isNext 49 = .ok (.aload_n 0, 1) := by decide +kernel
theorem dX8_isNext_50 : decode cX8_isNext 50 = .ok (.getfield 49, 3) := by decide +kernel
theorem dX8_isNext_53 : decode cX8_isNext 53 = .ok (.iload_n 2, 1) := by decide +kernel
theorem dX8_isNext_54 : decode cX8_isNext 54 = .ok (.iaload, 1) := by decide +kernel
theorem dX8_isNext_55 : decode cX8_isNext 55 = .ok (.if_icmp .ne 7, 3) := by decide +kernel
theorem dX8_isNext_58 : decode cX8_isNext 58 = .ok (.iconst 1, 1) := by decide +kernel
theorem dX8_isNext_59 : decode cX8_isNext 59 = .ok (.goto 4, 3) := by decide +kernel
theorem dX8_isNext_62 : decode cX8_isNext 62 = .ok (.iconst 0, 1) := by decide +kernel
theorem dX8_isNext_63 : decode cX8_isNext 63 = .ok (.ireturn, 1) := by decide +kernel
theorem dX8_least_0 : decode cX8_least 0 = .ok (.iload_n 1, 1) := by decide +kernel
theorem dX8_least_1 : decode cX8_least 1 = .ok (.i2l, 1) := by decide +kernel
theorem dX8_least_2 : decode cX8_least 2 = .ok (.lconst 0, 1) := by decide +kernel
theorem dX8_least_3 : decode cX8_least 3 = .ok (.ldc2_w 225, 3) := by decide +kernel
theorem dX8_least_6 : decode cX8_least 6 = .ok (.invokestatic 74, 3) := by decide +kernel
theorem dX8_least_9 : decode cX8_least 9 = .ok (.ifCond .ne 10, 3) := by decide +kernel
theorem dX8_least_12 : decode cX8_least 12 = .ok (.aload_n 0, 1) := by decide +kernel
theorem dX8_least_13 : decode cX8_least 13 = .ok (.bipush (-2), 2) := by decide +kernel
theorem dX8_least_15 : decode cX8_least 15 = .ok (.invokevirtual 87, 3) := by decide +kernel
theorem dX8_least_18 : decode cX8_least 18 = .ok (.ireturn, 1) := by decide +kernel
theorem dX8_least_19 : decode cX8_least 19 = .ok (.aload_n 0, 1) := by decide +kernel
theorem dX8_least_20 : decode cX8_least 20 = .ok (.invokevirtual 227, 3) := by decide +kernel
theorem dX8_least_23 : decode cX8_least 23 = .ok (.ifCond .ne 5, 3) := by decide +kernel
theorem dX8_least_26 : decode cX8_least 26 = .ok (.iconst (-1), 1) := by decide +kernel
theorem dX8_least_27 : decode cX8_least 27 = .ok (.ireturn, 1) := by decide +kernel
theorem dX8_least_28 : decode cX8_least 28 = .ok (.iload_n 1, 1) := by decide +kernel
theorem dX8_least_29 : decode cX8_least 29 = .ok (.ifCond .ne 15, 3) := by decide +kernel
theorem dX8_least_32 : decode cX8_least 32 = .ok (.aload_n 0, 1) := by decide +kernel
theorem dX8_least_33 : decode cX8_least 33 = .ok (.getfield 46, 3) := by decide +kernel
theorem dX8_least_36 : decode cX8_least 36 = .ok (.aload_n 0, 1) := by decide +kernel
theorem dX8_least_37 : decode cX8_least 37 = .ok (.invokevirtual 78, 3) := by decide +kernel
theorem dX8_least_40 : decode cX8_least 40 = .ok (.iaload, 1) := by decide +kernel
theorem dX8_least_41 : decode cX8_least 41 = .ok (.goto 41, 3) := by decide +kernel
theorem dX8_least_44 : decode cX8_least 44 = .ok (.iload_n 1, 1) := by decide +kernel
theorem dX8_least_45 : decode cX8_least 45 = .ok (.iconst 1, 1) := by decide +kernel
theorem dX8_least_46 : decode cX8_least 46 = .ok (.if_icmp .ne 15, 3) := by decide +kernel
theorem dX8_least_49 : decode cX8_least 49 = .ok (.aload_n 0, 1) := by decide +kernel
theorem dX8_least_50 : decode cX8_least 50 = .ok (.getfield 49, 3) := by decide +kernel
theorem dX8_least_53 : decode cX8_least 53 = .ok (.aload_n 0, 1) := by decide +kernel
theorem dX8_least_54 : decode cX8_least 54 = .ok (.invokevirtual 78, 3) := by decide +kernel
theorem dX8_least_57 : decode cX8_least 57 = .ok (.iaload, 1) := by decide +kernel
theorem dX8_least_58 : decode cX8_least 58 = .ok (.goto 24, 3) := by decide +kernel
theorem dX8_least_61 : decode cX8_least 61 = .ok (.iload_n 1, 1) := by decide +kernel
theorem dX8_least_62 : decode cX8_least 62 = .ok (.iconst 2, 1) := by decide +kernel
theorem dX8_least_63 : decode cX8_least 63 = .ok (.if_icmp .ne 10, 3) := by decide +kernel
theorem dX8_least_66 : decode cX8_least 66 = .ok (.aload_n 0, 1) := by decide +kernel
theorem dX8_least_67 : decode cX8_least 67 = .ok (.getfield 219, 3) := by decide +kernel
theorem dX8_least_70 : decode cX8_least 70 = .ok (.goto 12, 3) := by decide +kernel
theorem dX8_least_73 : decode cX8_least 73 = .ok (.aload_n 0, 1) := by decide +kernel
theorem dX8_least_74 : decode cX8_least 74 = .ok (.getfield 52, 3) := by decide +kernel
theorem dX8_least_77 : decode cX8_least 77 = .ok (.aload_n 0, 1) := by decide +kernel
theorem dX8_least_78 : decode cX8_least 78 = .ok (.invokevirtual 78, 3) := by decide +kernel
theorem dX8_least_81 : decode cX8_least 81 = .ok (.iaload, 1) := by decide +kernel
theorem dX8_least_82 : decode cX8_least 82 = .ok (.ireturn, 1) := by decide +kernel
theorem dX8_row_0 : decode cX8_row 0 = .ok (.iload_n 1, 1) := by decide +kernel
theorem dX8_row_1 : decode cX8_row 1 = .ok (.ifCond .ge 10, 3) := by decide +kernel
theorem dX8_row_4 : decode cX8_row 4 = .ok (.aload_n 0, 1) := by decide +kernel
theorem dX8_row_5 : decode cX8_row 5 = .ok (.bipush (-10), 2) := by decide +kernel
theorem dX8_row_7 : decode cX8_row 7 = .ok (.invokevirtual 87, 3) := by decide +kernel
theorem dX8_row_10 : decode cX8_row 10 = .ok (.ireturn, 1) := by decide +kernel
theorem dX8_row_11 : decode cX8_row 11 = .ok (.aload_n 0, 1) := by decide +kernel
theorem dX8_row_12 : decode cX8_row 12 = .ok (.invokevirtual 227, 3) := by decide +kernel
theorem dX8_row_15 : decode cX8_row 15 = .ok (.ifCond .eq 11, 3) := by decide +kernel
theorem dX8_row_18 : decode cX8_row 18 = .ok (.iload_n 1, 1) := by decide +kernel
theorem dX8_row_19 : decode cX8_row 19 = .ok (.aload_n 0, 1) := by decide +kernel
theorem dX8_row_20 : decode cX8_row 20 = .ok (.getfield 219, 3) := by decide +kernel
theorem dX8_row_23 : decode cX8_row 23 = .ok (.if_icmp .lt 6, 3) := by decide +kernel
theorem dX8_row_26 : decode cX8_row 26 = .ok (.bipush (-5), 2) := by decide +kernel
theorem dX8_row_28 : decode cX8_row 28 = .ok (.ireturn, 1) := by decide +kernel
theorem dX8_row_29 : decode cX8_row 29 = .ok (.aload_n 0, 1) := by decide +kernel
theorem dX8_row_30 : decode cX8_row 30 = .ok (.getfield 58, 3) := by decide +kernel
theorem dX8_row_33 : decode cX8_row 33 = .ok (.iload_n 1, 1) := by decide +kernel
theorem dX8_row_34 : decode cX8_row 34 = .ok (.iaload, 1) := by decide +kernel
theorem dX8_row_35 : decode cX8_row 35 = .ok (.aload_n 0, 1) := by decide +kernel
theorem dX8_row_36 : decode cX8_row 36 = .ok (.aload_n 0, 1) := by decide +kernel
theorem dX8_row_37 : decode cX8_row 37 = .ok (.getfield 58, 3) := by decide +kernel
theorem dX8_row_40 : decode cX8_row 40 = .ok (.iload_n 1, 1) := by decide +kernel
theorem dX8_row_41 : decode cX8_row 41 = .ok (.iaload, 1) := by decide +kernel
theorem dX8_row_42 : decode cX8_row 42 = .ok (.iconst 0, 1) := by decide +kernel
theorem dX8_row_43 : decode cX8_row 43 = .ok (.iconst 0, 1) := by decide +kernel
theorem dX8_row_44 : decode cX8_row 44 = .ok (.invokevirtual 175, 3) := by decide +kernel
theorem dX8_row_47 : decode cX8_row 47 = .ok (.ifCond .eq 7, 3) := by decide +kernel
theorem dX8_row_50 : decode cX8_row 50 = .ok (.iconst 0, 1) := by decide +kernel
theorem dX8_row_51 : decode cX8_row 51 = .ok (.goto 6, 3) := by decide +kernel
theorem dX8_row_54 : decode cX8_row 54 = .ok (.sipush 256, 3) := by decide +kernel
theorem dX8_row_57 : decode cX8_row 57 = .ok (.iadd, 1) := by decide +kernel
theorem dX8_row_58 : decode cX8_row 58 = .ok (.ireturn, 1) := by decide +kernel
theorem dX8_toll_0 : decode cX8_toll 0 = .ok (.iload_n 1, 1) := by decide +kernel
theorem dX8_toll_1 : decode cX8_toll 1 = .ok (.i2l, 1) := by decide +kernel
theorem dX8_toll_2 : decode cX8_toll 2 = .ok (.lconst 0, 1) := by decide +kernel
theorem dX8_toll_3 : decode cX8_toll 3 = .ok (.ldc2_w 83, 3) := by decide +kernel
theorem dX8_toll_6 : decode cX8_toll 6 = .ok (.invokestatic 74, 3) := by decide +kernel
theorem dX8_toll_9 : decode cX8_toll 9 = .ok (.ifCond .eq 15, 3) := by decide +kernel
theorem dX8_toll_12 : decode cX8_toll 12 = .ok (.iload_n 2, 1) := by decide +kernel
theorem dX8_toll_13 : decode cX8_toll 13 = .ok (.i2l, 1) := by decide +kernel
theorem dX8_toll_14 : decode cX8_toll 14 = .ok (.lconst 0, 1) := by decide +kernel
theorem dX8_toll_15 : decode cX8_toll 15 = .ok (.ldc2_w 230, 3) := by decide +kernel
theorem dX8_toll_18 : decode cX8_toll 18 = .ok (.invokestatic 74, 3) := by decide +kernel
theorem dX8_toll_21 : decode cX8_toll 21 = .ok (.ifCond .ne 10, 3) := by decide +kernel
theorem dX8_toll_24 : decode cX8_toll 24 = .ok (.aload_n 0, 1) := by decide +kernel
theorem dX8_toll_25 : decode cX8_toll 25 = .ok (.bipush (-2), 2) := by decide +kernel
theorem dX8_toll_27 : decode cX8_toll 27 = .ok (.invokevirtual 87, 3) := by decide +kernel
theorem dX8_toll_30 : decode cX8_toll 30 = .ok (.ireturn, 1) := by decide +kernel
theorem dX8_toll_31 : decode cX8_toll 31 = .ok (.aload_n 0, 1) := by decide +kernel
theorem dX8_toll_32 : decode cX8_toll 32 = .ok (.invokevirtual 227, 3) := by decide +kernel
theorem dX8_toll_35 : decode cX8_toll 35 = .ok (.ifCond .ne 8, 3) := by decide +kernel
theorem dX8_toll_38 : decode cX8_toll 38 = .ok (.aload_n 0, 1) := by decide +kernel
theorem dX8_toll_39 : decode cX8_toll 39 = .ok (.invokevirtual 232, 3) := by decide +kernel
theorem dX8_toll_42 : decode cX8_toll 42 = .ok (.ireturn, 1) := by decide +kernel
theorem dX8_toll_43 : decode cX8_toll 43 = .ok (.lconst 0, 1) := by decide +kernel
theorem dX8_toll_44 : decode cX8_toll 44 = .ok (.lstore_n 3, 1) := by decide +kernel
theorem dX8_toll_45 : decode cX8_toll 45 = .ok (.lconst 1, 1) := by decide +kernel
theorem dX8_toll_46 : decode cX8_toll 46 = .ok (.lstore 5, 2) := by decide +kernel
theorem dX8_toll_48 : decode cX8_toll 48 = .ok (.lconst 1, 1) := by decide +kernel
theorem dX8_toll_49 : decode cX8_toll 49 = .ok (.lstore 7, 2) := by decide +kernel
theorem dX8_toll_51 : decode cX8_toll 51 = .ok (.iconst 0, 1) := by decide +kernel
theorem dX8_toll_52 : decode cX8_toll 52 = .ok (.istore 9, 2) := by decide +kernel
theorem dX8_toll_54 : decode cX8_toll 54 = .ok (.iload 9, 2) := by decide +kernel
theorem dX8_toll_56 : decode cX8_toll 56 = .ok (.aload_n 0, 1) := by decide +kernel
theorem dX8_toll_57 : decode cX8_toll 57 = .ok (.getfield 219, 3) := by decide +kernel
theorem dX8_toll_60 : decode cX8_toll 60 = .ok (.if_icmp .gt 108, 3) := by decide +kernel
theorem dX8_toll_63 : decode cX8_toll 63 = .ok (.lload 5, 2) := by decide +kernel
theorem dX8_toll_65 : decode cX8_toll 65 = .ok (.lstore 10, 2) := by decide +kernel
theorem dX8_toll_67 : decode cX8_toll 67 = .ok (.iconst 0, 1) := by decide +kernel
theorem dX8_toll_68 : decode cX8_toll 68 = .ok (.istore 12, 2) := by decide +kernel
theorem dX8_toll_70 : decode cX8_toll 70 = .ok (.iload 12, 2) := by decide +kernel
theorem dX8_toll_72 : decode cX8_toll 72 = .ok (.aload_n 0, 1) := by decide +kernel
theorem dX8_toll_73 : decode cX8_toll 73 = .ok (.getfield 219, 3) := by decide +kernel
theorem dX8_toll_76 : decode cX8_toll 76 = .ok (.if_icmp .ge 31, 3) := by decide +kernel
theorem dX8_toll_79 : decode cX8_toll 79 = .ok (.lload 10, 2) := by decide +kernel
theorem dX8_toll_81 : decode cX8_toll 81 = .ok (.iload 12, 2) := by decide +kernel
theorem dX8_toll_83 : decode cX8_toll 83 = .ok (.iload 9, 2) := by decide +kernel
theorem dX8_toll_85 : decode cX8_toll 85 = .ok (.if_icmp .ge 8, 3) := by decide +kernel
theorem dX8_toll_88 : decode cX8_toll 88 = .ok (.iload_n 1, 1) := by decide +kernel
theorem dX8_toll_89 : decode cX8_toll 89 = .ok (.i2l, 1) := by decide +kernel
theorem dX8_toll_90 : decode cX8_toll 90 = .ok (.goto 8, 3) := by decide +kernel
theorem dX8_toll_93 : decode cX8_toll 93 = .ok (.bipush 20, 2) := by decide +kernel
theorem dX8_toll_95 : decode cX8_toll 95 = .ok (.iload_n 1, 1) := by decide +kernel
theorem dX8_toll_96 : decode cX8_toll 96 = .ok (.isub, 1) := by decide +kernel
theorem dX8_toll_97 : decode cX8_toll 97 = .ok (.i2l, 1) := by decide +kernel
theorem dX8_toll_98 : decode cX8_toll 98 = .ok (.lmul, 1) := by decide +kernel
theorem dX8_toll_99 : decode cX8_toll 99 = .ok (.lstore 10, 2) := by decide +kernel
theorem dX8_toll_101 : decode cX8_toll 101 = .ok (.iinc 12 1, 3) := by decide +kernel
theorem dX8_toll_104 : decode cX8_toll 104 = .ok (.goto (-34), 3) := by decide +kernel
theorem dX8_toll_107 : decode cX8_toll 107 = .ok (.lload_n 3, 1) := by decide +kernel
theorem dX8_toll_108 : decode cX8_toll 108 = .ok (.iload 9, 2) := by decide +kernel
theorem dX8_toll_110 : decode cX8_toll 110 = .ok (.iload_n 2, 1) := by decide +kernel
theorem dX8_toll_111 : decode cX8_toll 111 = .ok (.if_icmp .gt 8, 3) := by decide +kernel
theorem dX8_toll_114 : decode cX8_toll 114 = .ok (.lload 10, 2) := by decide +kernel
theorem dX8_toll_116 : decode cX8_toll 116 = .ok (.goto 4, 3) := by decide +kernel
theorem dX8_toll_119 : decode cX8_toll 119 = .ok (.lconst 0, 1) := by decide +kernel
theorem dX8_toll_120 : decode cX8_toll 120 = .ok (.ladd, 1) := by decide +kernel
theorem dX8_toll_121 : decode cX8_toll 121 = .ok (.lstore_n 3, 1) := by decide +kernel
theorem dX8_toll_122 : decode cX8_toll 122 = .ok (.lload 5, 2) := by decide +kernel
theorem dX8_toll_124 : decode cX8_toll 124 = .ok (.aload_n 0, 1) := by decide +kernel
theorem dX8_toll_125 : decode cX8_toll 125 = .ok (.getfield 219, 3) := by decide +kernel
theorem dX8_toll_128 : decode cX8_toll 128 = .ok (.iload 9, 2) := by decide +kernel
theorem dX8_toll_130 : decode cX8_toll 130 = .ok (.isub, 1) := by decide +kernel
theorem dX8_toll_131 : decode cX8_toll 131 = .ok (.i2l, 1) := by decide +kernel
theorem dX8_toll_132 : decode cX8_toll 132 = .ok (.lmul, 1) := by decide +kernel
theorem dX8_toll_133 : decode cX8_toll 133 = .ok (.iload 9, 2) := by decide +kernel
theorem dX8_toll_135 : decode cX8_toll 135 = .ok (.iconst 1, 1) := by decide +kernel
theorem dX8_toll_136 : decode cX8_toll 136 = .ok (.iadd, 1) := by decide +kernel
theorem dX8_toll_137 : decode cX8_toll 137 = .ok (.i2l, 1) := by decide +kernel
theorem dX8_toll_138 : decode cX8_toll 138 = .ok (.ldiv, 1) := by decide +kernel
theorem dX8_toll_139 : decode cX8_toll 139 = .ok (.lstore 5, 2) := by decide +kernel
theorem dX8_toll_141 : decode cX8_toll 141 = .ok (.lload 7, 2) := by decide +kernel
theorem dX8_toll_143 : decode cX8_toll 143 = .ok (.iload 9, 2) := by decide +kernel
theorem dX8_toll_145 : decode cX8_toll 145 = .ok (.aload_n 0, 1) := by decide +kernel
theorem dX8_toll_146 : decode cX8_toll 146 = .ok (.getfield 219, 3) := by decide +kernel
theorem dX8_toll_149 : decode cX8_toll 149 = .ok (.if_icmp .ge 9, 3) := by decide +kernel
theorem dX8_toll_152 : decode cX8_toll 152 = .ok (.ldc2_w 83, 3) := by decide +kernel
theorem dX8_toll_155 : decode cX8_toll 155 = .ok (.goto 4, 3) := by decide +kernel
theorem dX8_toll_158 : decode cX8_toll 158 = .ok (.lconst 1, 1) := by decide +kernel
theorem dX8_toll_159 : decode cX8_toll 159 = .ok (.lmul, 1) := by decide +kernel
theorem dX8_toll_160 : decode cX8_toll 160 = .ok (.lstore 7, 2) := by decide +kernel
theorem dX8_toll_162 : decode cX8_toll 162 = .ok (.iinc 9 1, 3) := by decide +kernel
theorem dX8_toll_165 : decode cX8_toll 165 = .ok (.goto (-111), 3) := by decide +kernel
theorem dX8_toll_168 : decode cX8_toll 168 = .ok (.aload_n 0, 1) := by decide +kernel
theorem dX8_toll_169 : decode cX8_toll 169 = .ok (.lload_n 3, 1) := by decide +kernel
theorem dX8_toll_170 : decode cX8_toll 170 = .ok (.lload 7, 2) := by decide +kernel
theorem dX8_toll_172 : decode cX8_toll 172 = .ok (.invokevirtual 235, 3) := by decide +kernel
theorem dX8_toll_175 : decode cX8_toll 175 = .ok (.ireturn, 1) := by decide +kernel
theorem dX8_doubt_0 : decode cX8_doubt 0 = .ok (.aload_n 0, 1) := by decide +kernel
theorem dX8_doubt_1 : decode cX8_doubt 1 = .ok (.iload_n 1, 1) := by decide +kernel
theorem dX8_doubt_2 : decode cX8_doubt 2 = .ok (.invokevirtual 203, 3) := by decide +kernel
theorem dX8_doubt_5 : decode cX8_doubt 5 = .ok (.ifCond .eq 15, 3) := by decide +kernel
theorem dX8_doubt_8 : decode cX8_doubt 8 = .ok (.iload_n 2, 1) := by decide +kernel
theorem dX8_doubt_9 : decode cX8_doubt 9 = .ok (.i2l, 1) := by decide +kernel
theorem dX8_doubt_10 : decode cX8_doubt 10 = .ok (.lconst 0, 1) := by decide +kernel
theorem dX8_doubt_11 : decode cX8_doubt 11 = .ok (.ldc2_w 146, 3) := by decide +kernel
theorem dX8_doubt_14 : decode cX8_doubt 14 = .ok (.invokestatic 74, 3) := by decide +kernel
theorem dX8_doubt_17 : decode cX8_doubt 17 = .ok (.ifCond .ne 10, 3) := by decide +kernel
theorem dX8_doubt_20 : decode cX8_doubt 20 = .ok (.aload_n 0, 1) := by decide +kernel
theorem dX8_doubt_21 : decode cX8_doubt 21 = .ok (.bipush (-2), 2) := by decide +kernel
theorem dX8_doubt_23 : decode cX8_doubt 23 = .ok (.invokevirtual 87, 3) := by decide +kernel
theorem dX8_doubt_26 : decode cX8_doubt 26 = .ok (.ireturn, 1) := by decide +kernel
theorem dX8_doubt_27 : decode cX8_doubt 27 = .ok (.aload_n 0, 1) := by decide +kernel
theorem dX8_doubt_28 : decode cX8_doubt 28 = .ok (.iload_n 1, 1) := by decide +kernel
theorem dX8_doubt_29 : decode cX8_doubt 29 = .ok (.iconst 3, 1) := by decide +kernel
theorem dX8_doubt_30 : decode cX8_doubt 30 = .ok (.invokevirtual 96, 3) := by decide +kernel
theorem dX8_doubt_33 : decode cX8_doubt 33 = .ok (.istore_n 3, 1) := by decide +kernel
theorem dX8_doubt_34 : decode cX8_doubt 34 = .ok (.aload_n 0, 1) := by decide +kernel
theorem dX8_doubt_35 : decode cX8_doubt 35 = .ok (.getfield 7, 3) := by decide +kernel
theorem dX8_doubt_38 : decode cX8_doubt 38 = .ok (.iconst 0, 1) := by decide +kernel
theorem dX8_doubt_39 : decode cX8_doubt 39 = .ok (.iconst 4, 1) := by decide +kernel
theorem dX8_doubt_40 : decode cX8_doubt 40 = .ok (.iload_n 1, 1) := by decide +kernel
theorem dX8_doubt_41 : decode cX8_doubt 41 = .ok (.imul, 1) := by decide +kernel
theorem dX8_doubt_42 : decode cX8_doubt 42 = .ok (.iadd, 1) := by decide +kernel
theorem dX8_doubt_43 : decode cX8_doubt 43 = .ok (.iconst 3, 1) := by decide +kernel
theorem dX8_doubt_44 : decode cX8_doubt 44 = .ok (.iadd, 1) := by decide +kernel
theorem dX8_doubt_45 : decode cX8_doubt 45 = .ok (.iload_n 2, 1) := by decide +kernel
theorem dX8_doubt_46 : decode cX8_doubt 46 = .ok (.iastore, 1) := by decide +kernel
theorem dX8_doubt_47 : decode cX8_doubt 47 = .ok (.iload_n 3, 1) := by decide +kernel
theorem dX8_doubt_48 : decode cX8_doubt 48 = .ok (.ireturn, 1) := by decide +kernel
theorem dX8_odd_0 : decode cX8_odd 0 = .ok (.aload_n 0, 1) := by decide +kernel
theorem dX8_odd_1 : decode cX8_odd 1 = .ok (.iload_n 1, 1) := by decide +kernel
theorem dX8_odd_2 : decode cX8_odd 2 = .ok (.invokevirtual 103, 3) := by decide +kernel
theorem dX8_odd_5 : decode cX8_odd 5 = .ok (.ifCond .ne 10, 3) := by decide +kernel
theorem dX8_odd_8 : decode cX8_odd 8 = .ok (.aload_n 0, 1) := by decide +kernel
theorem dX8_odd_9 : decode cX8_odd 9 = .ok (.bipush (-2), 2) := by decide +kernel
theorem dX8_odd_11 : decode cX8_odd 11 = .ok (.invokevirtual 87, 3) := by decide +kernel
theorem dX8_odd_14 : decode cX8_odd 14 = .ok (.ireturn, 1) := by decide +kernel
theorem dX8_odd_15 : decode cX8_odd 15 = .ok (.lconst 0, 1) := by decide +kernel
theorem dX8_odd_16 : decode cX8_odd 16 = .ok (.lstore_n 2, 1) := by decide +kernel
theorem dX8_odd_17 : decode cX8_odd 17 = .ok (.lconst 1, 1) := by decide +kernel
theorem dX8_odd_18 : decode cX8_odd 18 = .ok (.lstore 4, 2) := by decide +kernel
theorem dX8_odd_20 : decode cX8_odd 20 = .ok (.iconst 0, 1) := by decide +kernel
theorem dX8_odd_21 : decode cX8_odd 21 = .ok (.istore 6, 2) := by decide +kernel
theorem dX8_odd_23 : decode cX8_odd 23 = .ok (.iload 6, 2) := by decide +kernel
theorem dX8_odd_25 : decode cX8_odd 25 = .ok (.aload_n 0, 1) := by decide +kernel
theorem dX8_odd_26 : decode cX8_odd 26 = .ok (.invokevirtual 70, 3) := by decide +kernel
theorem dX8_odd_29 : decode cX8_odd 29 = .ok (.if_icmp .ge 65, 3) := by decide +kernel
theorem dX8_odd_32 : decode cX8_odd 32 = .ok (.iload_n 1, 1) := by decide +kernel
theorem dX8_odd_33 : decode cX8_odd 33 = .ok (.iload 6, 2) := by decide +kernel
theorem dX8_odd_35 : decode cX8_odd 35 = .ok (.ishr, 1) := by decide +kernel
theorem dX8_odd_36 : decode cX8_odd 36 = .ok (.iconst 1, 1) := by decide +kernel
theorem dX8_odd_37 : decode cX8_odd 37 = .ok (.iand, 1) := by decide +kernel
theorem dX8_odd_38 : decode cX8_odd 38 = .ok (.iconst 1, 1) := by decide +kernel
theorem dX8_odd_39 : decode cX8_odd 39 = .ok (.if_icmp .ne 49, 3) := by decide +kernel
theorem dX8_odd_42 : decode cX8_odd 42 = .ok (.aload_n 0, 1) := by decide +kernel
theorem dX8_odd_43 : decode cX8_odd 43 = .ok (.iload 6, 2) := by decide +kernel
theorem dX8_odd_45 : decode cX8_odd 45 = .ok (.iconst 3, 1) := by decide +kernel
theorem dX8_odd_46 : decode cX8_odd 46 = .ok (.invokevirtual 96, 3) := by decide +kernel
theorem dX8_odd_49 : decode cX8_odd 49 = .ok (.istore 7, 2) := by decide +kernel
theorem dX8_odd_51 : decode cX8_odd 51 = .ok (.lload_n 2, 1) := by decide +kernel
theorem dX8_odd_52 : decode cX8_odd 52 = .ok (.bipush 10, 2) := by decide +kernel
theorem dX8_odd_54 : decode cX8_odd 54 = .ok (.iload 7, 2) := by decide +kernel
theorem dX8_odd_56 : decode cX8_odd 56 = .ok (.isub, 1) := by decide +kernel
theorem dX8_odd_57 : decode cX8_odd 57 = .ok (.i2l, 1) := by decide +kernel
theorem dX8_odd_58 : decode cX8_odd 58 = .ok (.lmul, 1) := by decide +kernel
theorem dX8_odd_59 : decode cX8_odd 59 = .ok (.lload 4, 2) := by decide +kernel
theorem dX8_odd_61 : decode cX8_odd 61 = .ok (.iload 7, 2) := by decide +kernel
theorem dX8_odd_63 : decode cX8_odd 63 = .ok (.i2l, 1) := by decide +kernel
theorem dX8_odd_64 : decode cX8_odd 64 = .ok (.lmul, 1) := by decide +kernel
theorem dX8_odd_65 : decode cX8_odd 65 = .ok (.ladd, 1) := by decide +kernel
theorem dX8_odd_66 : decode cX8_odd 66 = .ok (.lstore 8, 2) := by decide +kernel
theorem dX8_odd_68 : decode cX8_odd 68 = .ok (.lload 4, 2) := by decide +kernel
theorem dX8_odd_70 : decode cX8_odd 70 = .ok (.bipush 10, 2) := by decide +kernel
theorem dX8_odd_72 : decode cX8_odd 72 = .ok (.iload 7, 2) := by decide +kernel
theorem dX8_odd_74 : decode cX8_odd 74 = .ok (.isub, 1) := by decide +kernel
theorem dX8_odd_75 : decode cX8_odd 75 = .ok (.i2l, 1) := by decide +kernel
theorem dX8_odd_76 : decode cX8_odd 76 = .ok (.lmul, 1) := by decide +kernel
theorem dX8_odd_77 : decode cX8_odd 77 = .ok (.lload_n 2, 1) := by decide +kernel
theorem dX8_odd_78 : decode cX8_odd 78 = .ok (.iload 7, 2) := by decide +kernel
theorem dX8_odd_80 : decode cX8_odd 80 = .ok (.i2l, 1) := by decide +kernel
theorem dX8_odd_81 : decode cX8_odd 81 = .ok (.lmul, 1) := by decide +kernel
theorem dX8_odd_82 : decode cX8_odd 82 = .ok (.ladd, 1) := by decide +kernel
theorem dX8_odd_83 : decode cX8_odd 83 = .ok (.lstore 4, 2) := by decide +kernel
theorem dX8_odd_85 : decode cX8_odd 85 = .ok (.lload 8, 2) := by decide +kernel
theorem dX8_odd_87 : decode cX8_odd 87 = .ok (.lstore_n 2, 1) := by decide +kernel
theorem dX8_odd_88 : decode cX8_odd 88 = .ok (.iinc 6 1, 3) := by decide +kernel
theorem dX8_odd_91 : decode cX8_odd 91 = .ok (.goto (-68), 3) := by decide +kernel
theorem dX8_odd_94 : decode cX8_odd 94 = .ok (.aload_n 0, 1) := by decide +kernel
theorem dX8_odd_95 : decode cX8_odd 95 = .ok (.lload_n 2, 1) := by decide +kernel
theorem dX8_odd_96 : decode cX8_odd 96 = .ok (.lload_n 2, 1) := by decide +kernel
theorem dX8_odd_97 : decode cX8_odd 97 = .ok (.lload 4, 2) := by decide +kernel
theorem dX8_odd_99 : decode cX8_odd 99 = .ok (.ladd, 1) := by decide +kernel
theorem dX8_odd_100 : decode cX8_odd 100 = .ok (.invokevirtual 235, 3) := by decide +kernel
theorem dX8_odd_103 : decode cX8_odd 103 = .ok (.ireturn, 1) := by decide +kernel
theorem dX8_home_0 : decode cX8_home 0 = .ok (.iload_n 1, 1) := by decide +kernel
theorem dX8_home_1 : decode cX8_home 1 = .ok (.i2l, 1) := by decide +kernel
theorem dX8_home_2 : decode cX8_home 2 = .ok (.lconst 1, 1) := by decide +kernel
theorem dX8_home_3 : decode cX8_home 3 = .ok (.ldc2_w 239, 3) := by decide +kernel
theorem dX8_home_6 : decode cX8_home 6 = .ok (.invokestatic 74, 3) := by decide +kernel
theorem dX8_home_9 : decode cX8_home 9 = .ok (.ifCond .eq 25, 3) := by decide +kernel
theorem dX8_home_12 : decode cX8_home 12 = .ok (.iload_n 2, 1) := by decide +kernel
theorem dX8_home_13 : decode cX8_home 13 = .ok (.i2l, 1) := by decide +kernel
theorem dX8_home_14 : decode cX8_home 14 = .ok (.lconst 1, 1) := by decide +kernel
theorem dX8_home_15 : decode cX8_home 15 = .ok (.ldc2_w 83, 3) := by decide +kernel
theorem dX8_home_18 : decode cX8_home 18 = .ok (.invokestatic 74, 3) := by decide +kernel
theorem dX8_home_21 : decode cX8_home 21 = .ok (.ifCond .eq 13, 3) := by decide +kernel
theorem dX8_home_24 : decode cX8_home 24 = .ok (.iload_n 3, 1) := by decide +kernel
theorem dX8_home_25 : decode cX8_home 25 = .ok (.i2l, 1) := by decide +kernel
theorem dX8_home_26 : decode cX8_home 26 = .ok (.lconst 0, 1) := by decide +kernel
theorem dX8_home_27 : decode cX8_home 27 = .ok (.lconst 1, 1) := by decide +kernel
theorem dX8_home_28 : decode cX8_home 28 = .ok (.invokestatic 74, 3) := by decide +kernel
theorem dX8_home_31 : decode cX8_home 31 = .ok (.ifCond .ne 10, 3) := by decide +kernel
theorem dX8_home_34 : decode cX8_home 34 = .ok (.aload_n 0, 1) := by decide +kernel
theorem dX8_home_35 : decode cX8_home 35 = .ok (.bipush (-2), 2) := by decide +kernel
theorem dX8_home_37 : decode cX8_home 37 = .ok (.invokevirtual 87, 3) := by decide +kernel
theorem dX8_home_40 : decode cX8_home 40 = .ok (.ireturn, 1) := by decide +kernel
theorem dX8_home_41 : decode cX8_home 41 = .ok (.iconst 0, 1) := by decide +kernel
theorem dX8_home_42 : decode cX8_home 42 = .ok (.istore 4, 2) := by decide +kernel
theorem dX8_home_44 : decode cX8_home 44 = .ok (.iload 4, 2) := by decide +kernel
theorem dX8_home_46 : decode cX8_home 46 = .ok (.bipush 40, 2) := by decide +kernel
theorem dX8_home_48 : decode cX8_home 48 = .ok (.if_icmp .ge 44, 3) := by decide +kernel
theorem dX8_home_51 : decode cX8_home 51 = .ok (.aload_n 0, 1) := by decide +kernel
theorem dX8_home_52 : decode cX8_home 52 = .ok (.getfield 61, 3) := by decide +kernel
theorem dX8_home_55 : decode cX8_home 55 = .ok (.iload 4, 2) := by decide +kernel
theorem dX8_home_57 : decode cX8_home 57 = .ok (.iload 4, 2) := by decide +kernel
theorem dX8_home_59 : decode cX8_home 59 = .ok (.ifCond .ne 7, 3) := by decide +kernel
theorem dX8_home_62 : decode cX8_home 62 = .ok (.iconst 1, 1) := by decide +kernel
theorem dX8_home_63 : decode cX8_home 63 = .ok (.goto 4, 3) := by decide +kernel
theorem dX8_home_66 : decode cX8_home 66 = .ok (.iconst 0, 1) := by decide +kernel
theorem dX8_home_67 : decode cX8_home 67 = .ok (.iastore, 1) := by decide +kernel
theorem dX8_home_68 : decode cX8_home 68 = .ok (.aload_n 0, 1) := by decide +kernel
theorem dX8_home_69 : decode cX8_home 69 = .ok (.getfield 64, 3) := by decide +kernel
theorem dX8_home_72 : decode cX8_home 72 = .ok (.iload 4, 2) := by decide +kernel
theorem dX8_home_74 : decode cX8_home 74 = .ok (.iload 4, 2) := by decide +kernel
theorem dX8_home_76 : decode cX8_home 76 = .ok (.ifCond .ne 7, 3) := by decide +kernel
theorem dX8_home_79 : decode cX8_home 79 = .ok (.iconst 0, 1) := by decide +kernel
theorem dX8_home_80 : decode cX8_home 80 = .ok (.goto 5, 3) := by decide +kernel
theorem dX8_home_83 : decode cX8_home 83 = .ok (.ldc 206, 2) := by decide +kernel
theorem dX8_home_85 : decode cX8_home 85 = .ok (.iastore, 1) := by decide +kernel
theorem dX8_home_86 : decode cX8_home 86 = .ok (.iinc 4 1, 3) := by decide +kernel
theorem dX8_home_89 : decode cX8_home 89 = .ok (.goto (-45), 3) := by decide +kernel
theorem dX8_home_92 : decode cX8_home 92 = .ok (.iconst 1, 1) := by decide +kernel
theorem dX8_home_93 : decode cX8_home 93 = .ok (.istore 4, 2) := by decide +kernel
theorem dX8_home_95 : decode cX8_home 95 = .ok (.iload 4, 2) := by decide +kernel
theorem dX8_home_97 : decode cX8_home 97 = .ok (.iload_n 2, 1) := by decide +kernel
theorem dX8_home_98 : decode cX8_home 98 = .ok (.if_icmp .gt 97, 3) := by decide +kernel
theorem dX8_home_101 : decode cX8_home 101 = .ok (.iload 4, 2) := by decide +kernel
theorem dX8_home_103 : decode cX8_home 103 = .ok (.istore 5, 2) := by decide +kernel
theorem dX8_home_105 : decode cX8_home 105 = .ok (.iload 5, 2) := by decide +kernel
theorem dX8_home_107 : decode cX8_home 107 = .ok (.bipush 40, 2) := by decide +kernel
theorem dX8_home_109 : decode cX8_home 109 = .ok (.if_icmp .ge 80, 3) := by decide +kernel
theorem dX8_home_112 : decode cX8_home 112 = .ok (.aload_n 0, 1) := by decide +kernel
theorem dX8_home_113 : decode cX8_home 113 = .ok (.getfield 61, 3) := by decide +kernel
theorem dX8_home_116 : decode cX8_home 116 = .ok (.iload 5, 2) := by decide +kernel
theorem dX8_home_118 : decode cX8_home 118 = .ok (.dup2, 1) := by decide +kernel
theorem dX8_home_119 : decode cX8_home 119 = .ok (.iaload, 1) := by decide +kernel
theorem dX8_home_120 : decode cX8_home 120 = .ok (.aload_n 0, 1) := by decide +kernel
theorem dX8_home_121 : decode cX8_home 121 = .ok (.getfield 61, 3) := by decide +kernel
theorem dX8_home_124 : decode cX8_home 124 = .ok (.iload 5, 2) := by decide +kernel
theorem dX8_home_126 : decode cX8_home 126 = .ok (.iload 4, 2) := by decide +kernel
theorem dX8_home_128 : decode cX8_home 128 = .ok (.isub, 1) := by decide +kernel
theorem dX8_home_129 : decode cX8_home 129 = .ok (.iaload, 1) := by decide +kernel
theorem dX8_home_130 : decode cX8_home 130 = .ok (.iadd, 1) := by decide +kernel
theorem dX8_home_131 : decode cX8_home 131 = .ok (.iastore, 1) := by decide +kernel
theorem dX8_home_132 : decode cX8_home 132 = .ok (.aload_n 0, 1) := by decide +kernel
theorem dX8_home_133 : decode cX8_home 133 = .ok (.getfield 64, 3) := by decide +kernel
theorem dX8_home_136 : decode cX8_home 136 = .ok (.iload 5, 2) := by decide +kernel
theorem dX8_home_138 : decode cX8_home 138 = .ok (.aload_n 0, 1) := by decide +kernel
theorem dX8_home_139 : decode cX8_home 139 = .ok (.getfield 64, 3) := by decide +kernel
theorem dX8_home_142 : decode cX8_home 142 = .ok (.iload 5, 2) := by decide +kernel
theorem dX8_home_144 : decode cX8_home 144 = .ok (.iload 4, 2) := by decide +kernel
theorem dX8_home_146 : decode cX8_home 146 = .ok (.isub, 1) := by decide +kernel
theorem dX8_home_147 : decode cX8_home 147 = .ok (.iaload, 1) := by decide +kernel
theorem dX8_home_148 : decode cX8_home 148 = .ok (.iconst 1, 1) := by decide +kernel
theorem dX8_home_149 : decode cX8_home 149 = .ok (.iadd, 1) := by decide +kernel
theorem dX8_home_150 : decode cX8_home 150 = .ok (.aload_n 0, 1) := by decide +kernel
theorem dX8_home_151 : decode cX8_home 151 = .ok (.getfield 64, 3) := by decide +kernel
theorem dX8_home_154 : decode cX8_home 154 = .ok (.iload 5, 2) := by decide +kernel
theorem dX8_home_156 : decode cX8_home 156 = .ok (.iaload, 1) := by decide +kernel
theorem dX8_home_157 : decode cX8_home 157 = .ok (.if_icmp .ge 18, 3) := by decide +kernel
theorem dX8_home_160 : decode cX8_home 160 = .ok (.aload_n 0, 1) := by decide +kernel
theorem dX8_home_161 : decode cX8_home 161 = .ok (.getfield 64, 3) := by decide +kernel
theorem dX8_home_164 : decode cX8_home 164 = .ok (.iload 5, 2) := by decide +kernel
theorem dX8_home_166 : decode cX8_home 166 = .ok (.iload 4, 2) := by decide +kernel
theorem dX8_home_168 : decode cX8_home 168 = .ok (.isub, 1) := by decide +kernel
theorem dX8_home_169 : decode cX8_home 169 = .ok (.iaload, 1) := by decide +kernel
theorem dX8_home_170 : decode cX8_home 170 = .ok (.iconst 1, 1) := by decide +kernel
theorem dX8_home_171 : decode cX8_home 171 = .ok (.iadd, 1) := by decide +kernel
theorem dX8_home_172 : decode cX8_home 172 = .ok (.goto 10, 3) := by decide +kernel
theorem dX8_home_175 : decode cX8_home 175 = .ok (.aload_n 0, 1) := by decide +kernel
theorem dX8_home_176 : decode cX8_home 176 = .ok (.getfield 64, 3) := by decide +kernel
theorem dX8_home_179 : decode cX8_home 179 = .ok (.iload 5, 2) := by decide +kernel
theorem dX8_home_181 : decode cX8_home 181 = .ok (.iaload, 1) := by decide +kernel
theorem dX8_home_182 : decode cX8_home 182 = .ok (.iastore, 1) := by decide +kernel
theorem dX8_home_183 : decode cX8_home 183 = .ok (.iinc 5 1, 3) := by decide +kernel
theorem dX8_home_186 : decode cX8_home 186 = .ok (.goto (-81), 3) := by decide +kernel
theorem dX8_home_189 : decode cX8_home 189 = .ok (.iinc 4 2, 3) := by decide +kernel
theorem dX8_home_192 : decode cX8_home 192 = .ok (.goto (-97), 3) := by decide +kernel
theorem dX8_home_195 : decode cX8_home 195 = .ok (.iload_n 3, 1) := by decide +kernel
theorem dX8_home_196 : decode cX8_home 196 = .ok (.ifCond .ne 14, 3) := by decide +kernel
theorem dX8_home_199 : decode cX8_home 199 = .ok (.aload_n 0, 1) := by decide +kernel
theorem dX8_home_200 : decode cX8_home 200 = .ok (.getfield 61, 3) := by decide +kernel
theorem dX8_home_203 : decode cX8_home 203 = .ok (.iload_n 1, 1) := by decide +kernel
theorem dX8_home_204 : decode cX8_home 204 = .ok (.iconst 1, 1) := by decide +kernel
theorem dX8_home_205 : decode cX8_home 205 = .ok (.isub, 1) := by decide +kernel
theorem dX8_home_206 : decode cX8_home 206 = .ok (.iaload, 1) := by decide +kernel
theorem dX8_home_207 : decode cX8_home 207 = .ok (.goto 28, 3) := by decide +kernel
theorem dX8_home_210 : decode cX8_home 210 = .ok (.aload_n 0, 1) := by decide +kernel
theorem dX8_home_211 : decode cX8_home 211 = .ok (.getfield 64, 3) := by decide +kernel
theorem dX8_home_214 : decode cX8_home 214 = .ok (.iload_n 1, 1) := by decide +kernel
theorem dX8_home_215 : decode cX8_home 215 = .ok (.iconst 1, 1) := by decide +kernel
theorem dX8_home_216 : decode cX8_home 216 = .ok (.isub, 1) := by decide +kernel
theorem dX8_home_217 : decode cX8_home 217 = .ok (.iaload, 1) := by decide +kernel
theorem dX8_home_218 : decode cX8_home 218 = .ok (.ldc 206, 2) := by decide +kernel
theorem dX8_home_220 : decode cX8_home 220 = .ok (.if_icmp .lt 7, 3) := by decide +kernel
theorem dX8_home_223 : decode cX8_home 223 = .ok (.iconst (-1), 1) := by decide +kernel
theorem dX8_home_224 : decode cX8_home 224 = .ok (.goto 11, 3) := by decide +kernel
theorem dX8_home_227 : decode cX8_home 227 = .ok (.aload_n 0, 1) := by decide +kernel
theorem dX8_home_228 : decode cX8_home 228 = .ok (.getfield 64, 3) := by decide +kernel
theorem dX8_home_231 : decode cX8_home 231 = .ok (.iload_n 1, 1) := by decide +kernel
theorem dX8_home_232 : decode cX8_home 232 = .ok (.iconst 1, 1) := by decide +kernel
theorem dX8_home_233 : decode cX8_home 233 = .ok (.isub, 1) := by decide +kernel
theorem dX8_home_234 : decode cX8_home 234 = .ok (.iaload, 1) := by decide +kernel
theorem dX8_home_235 : decode cX8_home 235 = .ok (.ireturn, 1) := by decide +kernel
theorem dX8_said_0 : decode cX8_said 0 = .ok (.aload_n 0, 1) := by decide +kernel
theorem dX8_said_1 : decode cX8_said 1 = .ok (.getfield 7, 3) := by decide +kernel
theorem dX8_said_4 : decode cX8_said 4 = .ok (.bipush 100, 2) := by decide +kernel
theorem dX8_said_6 : decode cX8_said 6 = .ok (.iaload, 1) := by decide +kernel
theorem dX8_said_7 : decode cX8_said 7 = .ok (.ireturn, 1) := by decide +kernel
theorem dX8_say_0 : decode cX8_say 0 = .ok (.aload_n 0, 1) := by decide +kernel
theorem dX8_say_1 : decode cX8_say 1 = .ok (.iload_n 1, 1) := by decide +kernel
theorem dX8_say_2 : decode cX8_say 2 = .ok (.invokevirtual 203, 3) := by decide +kernel
theorem dX8_say_5 : decode cX8_say 5 = .ok (.ifCond .eq 26, 3) := by decide +kernel
theorem dX8_say_8 : decode cX8_say 8 = .ok (.iload_n 3, 1) := by decide +kernel
theorem dX8_say_9 : decode cX8_say 9 = .ok (.i2l, 1) := by decide +kernel
theorem dX8_say_10 : decode cX8_say 10 = .ok (.lconst 0, 1) := by decide +kernel
theorem dX8_say_11 : decode cX8_say 11 = .ok (.ldc2_w 241, 3) := by decide +kernel
theorem dX8_say_14 : decode cX8_say 14 = .ok (.invokestatic 74, 3) := by decide +kernel
theorem dX8_say_17 : decode cX8_say 17 = .ok (.ifCond .eq 14, 3) := by decide +kernel
theorem dX8_say_20 : decode cX8_say 20 = .ok (.iload_n 2, 1) := by decide +kernel
theorem dX8_say_21 : decode cX8_say 21 = .ok (.i2l, 1) := by decide +kernel
theorem dX8_say_22 : decode cX8_say 22 = .ok (.lconst 0, 1) := by decide +kernel
theorem dX8_say_23 : decode cX8_say 23 = .ok (.iload_n 3, 1) := by decide +kernel
theorem dX8_say_24 : decode cX8_say 24 = .ok (.i2l, 1) := by decide +kernel
theorem dX8_say_25 : decode cX8_say 25 = .ok (.invokestatic 74, 3) := by decide +kernel
theorem dX8_say_28 : decode cX8_say 28 = .ok (.ifCond .ne 10, 3) := by decide +kernel
theorem dX8_say_31 : decode cX8_say 31 = .ok (.aload_n 0, 1) := by decide +kernel
theorem dX8_say_32 : decode cX8_say 32 = .ok (.bipush (-2), 2) := by decide +kernel
theorem dX8_say_34 : decode cX8_say 34 = .ok (.invokevirtual 87, 3) := by decide +kernel
theorem dX8_say_37 : decode cX8_say 37 = .ok (.ireturn, 1) := by decide +kernel
theorem dX8_say_38 : decode cX8_say 38 = .ok (.aload_n 0, 1) := by decide +kernel
theorem dX8_say_39 : decode cX8_say 39 = .ok (.invokevirtual 243, 3) := by decide +kernel
theorem dX8_say_42 : decode cX8_say 42 = .ok (.istore 4, 2) := by decide +kernel
theorem dX8_say_44 : decode cX8_say 44 = .ok (.iload 4, 2) := by decide +kernel
theorem dX8_say_46 : decode cX8_say 46 = .ok (.bipush 8, 2) := by decide +kernel
theorem dX8_say_48 : decode cX8_say 48 = .ok (.if_icmp .ne 8, 3) := by decide +kernel
theorem dX8_say_51 : decode cX8_say 51 = .ok (.aload_n 0, 1) := by decide +kernel
theorem dX8_say_52 : decode cX8_say 52 = .ok (.invokevirtual 91, 3) := by decide +kernel
theorem dX8_say_55 : decode cX8_say 55 = .ok (.ireturn, 1) := by decide +kernel
theorem dX8_say_56 : decode cX8_say 56 = .ok (.aload_n 0, 1) := by decide +kernel
theorem dX8_say_57 : decode cX8_say 57 = .ok (.getfield 7, 3) := by decide +kernel
theorem dX8_say_60 : decode cX8_say 60 = .ok (.bipush 75, 2) := by decide +kernel
theorem dX8_say_62 : decode cX8_say 62 = .ok (.iconst 3, 1) := by decide +kernel
theorem dX8_say_63 : decode cX8_say 63 = .ok (.iload 4, 2) := by decide +kernel
theorem dX8_say_65 : decode cX8_say 65 = .ok (.imul, 1) := by decide +kernel
theorem dX8_say_66 : decode cX8_say 66 = .ok (.iadd, 1) := by decide +kernel
theorem dX8_say_67 : decode cX8_say 67 = .ok (.iload_n 1, 1) := by decide +kernel
theorem dX8_say_68 : decode cX8_say 68 = .ok (.iastore, 1) := by decide +kernel
theorem dX8_say_69 : decode cX8_say 69 = .ok (.aload_n 0, 1) := by decide +kernel
theorem dX8_say_70 : decode cX8_say 70 = .ok (.getfield 7, 3) := by decide +kernel
theorem dX8_say_73 : decode cX8_say 73 = .ok (.bipush 75, 2) := by decide +kernel
theorem dX8_say_75 : decode cX8_say 75 = .ok (.iconst 3, 1) := by decide +kernel
theorem dX8_say_76 : decode cX8_say 76 = .ok (.iload 4, 2) := by decide +kernel
theorem dX8_say_78 : decode cX8_say 78 = .ok (.imul, 1) := by decide +kernel
theorem dX8_say_79 : decode cX8_say 79 = .ok (.iadd, 1) := by decide +kernel
theorem dX8_say_80 : decode cX8_say 80 = .ok (.iconst 1, 1) := by decide +kernel
theorem dX8_say_81 : decode cX8_say 81 = .ok (.iadd, 1) := by decide +kernel
theorem dX8_say_82 : decode cX8_say 82 = .ok (.iload_n 2, 1) := by decide +kernel
theorem dX8_say_83 : decode cX8_say 83 = .ok (.iastore, 1) := by decide +kernel
theorem dX8_say_84 : decode cX8_say 84 = .ok (.aload_n 0, 1) := by decide +kernel
theorem dX8_say_85 : decode cX8_say 85 = .ok (.getfield 7, 3) := by decide +kernel
theorem dX8_say_88 : decode cX8_say 88 = .ok (.bipush 75, 2) := by decide +kernel
theorem dX8_say_90 : decode cX8_say 90 = .ok (.iconst 3, 1) := by decide +kernel
theorem dX8_say_91 : decode cX8_say 91 = .ok (.iload 4, 2) := by decide +kernel
theorem dX8_say_93 : decode cX8_say 93 = .ok (.imul, 1) := by decide +kernel
theorem dX8_say_94 : decode cX8_say 94 = .ok (.iadd, 1) := by decide +kernel
theorem dX8_say_95 : decode cX8_say 95 = .ok (.iconst 2, 1) := by decide +kernel
theorem dX8_say_96 : decode cX8_say 96 = .ok (.iadd, 1) := by decide +kernel
theorem dX8_say_97 : decode cX8_say 97 = .ok (.iload_n 3, 1) := by decide +kernel
theorem dX8_say_98 : decode cX8_say 98 = .ok (.iastore, 1) := by decide +kernel
theorem dX8_say_99 : decode cX8_say 99 = .ok (.aload_n 0, 1) := by decide +kernel
theorem dX8_say_100 : decode cX8_say 100 = .ok (.getfield 7, 3) := by decide +kernel
theorem dX8_say_103 : decode cX8_say 103 = .ok (.bipush 100, 2) := by decide +kernel
theorem dX8_say_105 : decode cX8_say 105 = .ok (.dup2, 1) := by decide +kernel
theorem dX8_say_106 : decode cX8_say 106 = .ok (.iaload, 1) := by decide +kernel
theorem dX8_say_107 : decode cX8_say 107 = .ok (.iconst 1, 1) := by decide +kernel
theorem dX8_say_108 : decode cX8_say 108 = .ok (.iadd, 1) := by decide +kernel
theorem dX8_say_109 : decode cX8_say 109 = .ok (.iastore, 1) := by decide +kernel
theorem dX8_say_110 : decode cX8_say 110 = .ok (.iload 4, 2) := by decide +kernel
theorem dX8_say_112 : decode cX8_say 112 = .ok (.ireturn, 1) := by decide +kernel
theorem dX8_hush_0 : decode cX8_hush 0 = .ok (.aload_n 0, 1) := by decide +kernel
theorem dX8_hush_1 : decode cX8_hush 1 = .ok (.invokevirtual 243, 3) := by decide +kernel
theorem dX8_hush_4 : decode cX8_hush 4 = .ok (.istore_n 1, 1) := by decide +kernel
theorem dX8_hush_5 : decode cX8_hush 5 = .ok (.aload_n 0, 1) := by decide +kernel
theorem dX8_hush_6 : decode cX8_hush 6 = .ok (.getfield 7, 3) := by decide +kernel
theorem dX8_hush_9 : decode cX8_hush 9 = .ok (.bipush 100, 2) := by decide +kernel
theorem dX8_hush_11 : decode cX8_hush 11 = .ok (.iconst 0, 1) := by decide +kernel
theorem dX8_hush_12 : decode cX8_hush 12 = .ok (.iastore, 1) := by decide +kernel
theorem dX8_hush_13 : decode cX8_hush 13 = .ok (.iload_n 1, 1) := by decide +kernel
theorem dX8_hush_14 : decode cX8_hush 14 = .ok (.ireturn, 1) := by decide +kernel
theorem dX8_onBy_0 : decode cX8_onBy 0 = .ok (.iconst 0, 1) := by decide +kernel
theorem dX8_onBy_1 : decode cX8_onBy 1 = .ok (.istore_n 3, 1) := by decide +kernel
theorem dX8_onBy_2 : decode cX8_onBy 2 = .ok (.iconst 0, 1) := by decide +kernel
theorem dX8_onBy_3 : decode cX8_onBy 3 = .ok (.istore 4, 2) := by decide +kernel
theorem dX8_onBy_5 : decode cX8_onBy 5 = .ok (.iload 4, 2) := by decide +kernel
theorem dX8_onBy_7 : decode cX8_onBy 7 = .ok (.aload_n 0, 1) := by decide +kernel
theorem dX8_onBy_8 : decode cX8_onBy 8 = .ok (.invokevirtual 243, 3) := by decide +kernel
theorem dX8_onBy_11 : decode cX8_onBy 11 = .ok (.if_icmp .ge 89, 3) := by decide +kernel
theorem dX8_onBy_14 : decode cX8_onBy 14 = .ok (.iload_n 2, 1) := by decide +kernel
theorem dX8_onBy_15 : decode cX8_onBy 15 = .ok (.iload 4, 2) := by decide +kernel
theorem dX8_onBy_17 : decode cX8_onBy 17 = .ok (.ishr, 1) := by decide +kernel
theorem dX8_onBy_18 : decode cX8_onBy 18 = .ok (.iconst 1, 1) := by decide +kernel
theorem dX8_onBy_19 : decode cX8_onBy 19 = .ok (.iand, 1) := by decide +kernel
theorem dX8_onBy_20 : decode cX8_onBy 20 = .ok (.ifCond .ne 45, 3) := by decide +kernel
theorem dX8_onBy_23 : decode cX8_onBy 23 = .ok (.iload_n 1, 1) := by decide +kernel
theorem dX8_onBy_24 : decode cX8_onBy 24 = .ok (.i2l, 1) := by decide +kernel
theorem dX8_onBy_25 : decode cX8_onBy 25 = .ok (.aload_n 0, 1) := by decide +kernel
theorem dX8_onBy_26 : decode cX8_onBy 26 = .ok (.getfield 7, 3) := by decide +kernel
theorem dX8_onBy_29 : decode cX8_onBy 29 = .ok (.bipush 75, 2) := by decide +kernel
theorem dX8_onBy_31 : decode cX8_onBy 31 = .ok (.iconst 3, 1) := by decide +kernel
theorem dX8_onBy_32 : decode cX8_onBy 32 = .ok (.iload 4, 2) := by decide +kernel
theorem dX8_onBy_34 : decode cX8_onBy 34 = .ok (.imul, 1) := by decide +kernel
theorem dX8_onBy_35 : decode cX8_onBy 35 = .ok (.iadd, 1) := by decide +kernel
theorem dX8_onBy_36 : decode cX8_onBy 36 = .ok (.iconst 1, 1) := by decide +kernel
theorem dX8_onBy_37 : decode cX8_onBy 37 = .ok (.iadd, 1) := by decide +kernel
theorem dX8_onBy_38 : decode cX8_onBy 38 = .ok (.iaload, 1) := by decide +kernel
theorem dX8_onBy_39 : decode cX8_onBy 39 = .ok (.i2l, 1) := by decide +kernel
theorem dX8_onBy_40 : decode cX8_onBy 40 = .ok (.aload_n 0, 1) := by decide +kernel
theorem dX8_onBy_41 : decode cX8_onBy 41 = .ok (.getfield 7, 3) := by decide +kernel
theorem dX8_onBy_44 : decode cX8_onBy 44 = .ok (.bipush 75, 2) := by decide +kernel
theorem dX8_onBy_46 : decode cX8_onBy 46 = .ok (.iconst 3, 1) := by decide +kernel
theorem dX8_onBy_47 : decode cX8_onBy 47 = .ok (.iload 4, 2) := by decide +kernel
theorem dX8_onBy_49 : decode cX8_onBy 49 = .ok (.imul, 1) := by decide +kernel
theorem dX8_onBy_50 : decode cX8_onBy 50 = .ok (.iadd, 1) := by decide +kernel
theorem dX8_onBy_51 : decode cX8_onBy 51 = .ok (.iconst 2, 1) := by decide +kernel
theorem dX8_onBy_52 : decode cX8_onBy 52 = .ok (.iadd, 1) := by decide +kernel
theorem dX8_onBy_53 : decode cX8_onBy 53 = .ok (.iaload, 1) := by decide +kernel
theorem dX8_onBy_54 : decode cX8_onBy 54 = .ok (.i2l, 1) := by decide +kernel
theorem dX8_onBy_55 : decode cX8_onBy 55 = .ok (.invokestatic 74, 3) := by decide +kernel
theorem dX8_onBy_58 : decode cX8_onBy 58 = .ok (.ifCond .eq 7, 3) := by decide +kernel
theorem dX8_onBy_61 : decode cX8_onBy 61 = .ok (.iconst 1, 1) := by decide +kernel
theorem dX8_onBy_62 : decode cX8_onBy 62 = .ok (.goto 4, 3) := by decide +kernel
theorem dX8_onBy_65 : decode cX8_onBy 65 = .ok (.iconst 0, 1) := by decide +kernel
theorem dX8_onBy_66 : decode cX8_onBy 66 = .ok (.istore 5, 2) := by decide +kernel
theorem dX8_onBy_68 : decode cX8_onBy 68 = .ok (.iload_n 3, 1) := by decide +kernel
theorem dX8_onBy_69 : decode cX8_onBy 69 = .ok (.iload 5, 2) := by decide +kernel
theorem dX8_onBy_71 : decode cX8_onBy 71 = .ok (.ifCond .eq 20, 3) := by decide +kernel
theorem dX8_onBy_74 : decode cX8_onBy 74 = .ok (.iconst 1, 1) := by decide +kernel
theorem dX8_onBy_75 : decode cX8_onBy 75 = .ok (.aload_n 0, 1) := by decide +kernel
theorem dX8_onBy_76 : decode cX8_onBy 76 = .ok (.getfield 7, 3) := by decide +kernel
theorem dX8_onBy_79 : decode cX8_onBy 79 = .ok (.bipush 75, 2) := by decide +kernel
theorem dX8_onBy_81 : decode cX8_onBy 81 = .ok (.iconst 3, 1) := by decide +kernel
theorem dX8_onBy_82 : decode cX8_onBy 82 = .ok (.iload 4, 2) := by decide +kernel
theorem dX8_onBy_84 : decode cX8_onBy 84 = .ok (.imul, 1) := by decide +kernel
theorem dX8_onBy_85 : decode cX8_onBy 85 = .ok (.iadd, 1) := by decide +kernel
theorem dX8_onBy_86 : decode cX8_onBy 86 = .ok (.iaload, 1) := by decide +kernel
theorem dX8_onBy_87 : decode cX8_onBy 87 = .ok (.ishl, 1) := by decide +kernel
theorem dX8_onBy_88 : decode cX8_onBy 88 = .ok (.goto 4, 3) := by decide +kernel
theorem dX8_onBy_91 : decode cX8_onBy 91 = .ok (.iconst 0, 1) := by decide +kernel
theorem dX8_onBy_92 : decode cX8_onBy 92 = .ok (.ior, 1) := by decide +kernel
theorem dX8_onBy_93 : decode cX8_onBy 93 = .ok (.istore_n 3, 1) := by decide +kernel
theorem dX8_onBy_94 : decode cX8_onBy 94 = .ok (.iinc 4 1, 3) := by decide +kernel
theorem dX8_onBy_97 : decode cX8_onBy 97 = .ok (.goto (-92), 3) := by decide +kernel
theorem dX8_onBy_100 : decode cX8_onBy 100 = .ok (.iload_n 3, 1) := by decide +kernel
theorem dX8_onBy_101 : decode cX8_onBy 101 = .ok (.ireturn, 1) := by decide +kernel
theorem dX8_disputeOf_0 : decode cX8_disputeOf 0 = .ok (.lconst 0, 1) := by decide +kernel
theorem dX8_disputeOf_1 : decode cX8_disputeOf 1 = .ok (.lstore_n 2, 1) := by decide +kernel
theorem dX8_disputeOf_2 : decode cX8_disputeOf 2 = .ok (.iconst 0, 1) := by decide +kernel
theorem dX8_disputeOf_3 : decode cX8_disputeOf 3 = .ok (.istore 4, 2) := by decide +kernel
theorem dX8_disputeOf_5 : decode cX8_disputeOf 5 = .ok (.iload 4, 2) := by decide +kernel
theorem dX8_disputeOf_7 : decode cX8_disputeOf 7 = .ok (.bipush 63, 2) := by decide +kernel
theorem dX8_disputeOf_9 : decode cX8_disputeOf 9 = .ok (.if_icmp .ge 37, 3) := by decide +kernel
theorem dX8_disputeOf_12 : decode cX8_disputeOf 12 = .ok (.lload_n 2, 1) := by decide +kernel
theorem dX8_disputeOf_13 : decode cX8_disputeOf 13 = .ok (.aload_n 0, 1) := by decide +kernel
theorem dX8_disputeOf_14 : decode cX8_disputeOf 14 = .ok (.aload_n 0, 1) := by decide +kernel
theorem dX8_disputeOf_15 : decode cX8_disputeOf 15 = .ok (.iload 4, 2) := by decide +kernel
theorem dX8_disputeOf_17 : decode cX8_disputeOf 17 = .ok (.iload_n 1, 1) := by decide +kernel
theorem dX8_disputeOf_18 : decode cX8_disputeOf 18 = .ok (.invokevirtual 246, 3) := by decide +kernel
theorem dX8_disputeOf_21 : decode cX8_disputeOf 21 = .ok (.iload 4, 2) := by decide +kernel
theorem dX8_disputeOf_23 : decode cX8_disputeOf 23 = .ok (.iconst 0, 1) := by decide +kernel
theorem dX8_disputeOf_24 : decode cX8_disputeOf 24 = .ok (.invokevirtual 175, 3) := by decide +kernel
theorem dX8_disputeOf_27 : decode cX8_disputeOf 27 = .ok (.ifCond .eq 7, 3) := by decide +kernel
theorem dX8_disputeOf_30 : decode cX8_disputeOf 30 = .ok (.lconst 0, 1) := by decide +kernel
theorem dX8_disputeOf_31 : decode cX8_disputeOf 31 = .ok (.goto 7, 3) := by decide +kernel
theorem dX8_disputeOf_34 : decode cX8_disputeOf 34 = .ok (.lconst 1, 1) := by decide +kernel
theorem dX8_disputeOf_35 : decode cX8_disputeOf 35 = .ok (.iload 4, 2) := by decide +kernel
theorem dX8_disputeOf_37 : decode cX8_disputeOf 37 = .ok (.lshl, 1) := by decide +kernel
theorem dX8_disputeOf_38 : decode cX8_disputeOf 38 = .ok (.lor, 1) := by decide +kernel
theorem dX8_disputeOf_39 : decode cX8_disputeOf 39 = .ok (.lstore_n 2, 1) := by decide +kernel
theorem dX8_disputeOf_40 : decode cX8_disputeOf 40 = .ok (.iinc 4 1, 3) := by decide +kernel
theorem dX8_disputeOf_43 : decode cX8_disputeOf 43 = .ok (.goto (-38), 3) := by decide +kernel
theorem dX8_disputeOf_46 : decode cX8_disputeOf 46 = .ok (.lload_n 2, 1) := by decide +kernel
theorem dX8_disputeOf_47 : decode cX8_disputeOf 47 = .ok (.lreturn, 1) := by decide +kernel
theorem dX8_dispute_0 : decode cX8_dispute 0 = .ok (.iload_n 1, 1) := by decide +kernel
theorem dX8_dispute_1 : decode cX8_dispute 1 = .ok (.i2l, 1) := by decide +kernel
theorem dX8_dispute_2 : decode cX8_dispute 2 = .ok (.lconst 0, 1) := by decide +kernel
theorem dX8_dispute_3 : decode cX8_dispute 3 = .ok (.iconst 1, 1) := by decide +kernel
theorem dX8_dispute_4 : decode cX8_dispute 4 = .ok (.aload_n 0, 1) := by decide +kernel
theorem dX8_dispute_5 : decode cX8_dispute 5 = .ok (.invokevirtual 243, 3) := by decide +kernel
theorem dX8_dispute_8 : decode cX8_dispute 8 = .ok (.ishl, 1) := by decide +kernel
theorem dX8_dispute_9 : decode cX8_dispute 9 = .ok (.iconst 1, 1) := by decide +kernel
theorem dX8_dispute_10 : decode cX8_dispute 10 = .ok (.isub, 1) := by decide +kernel
theorem dX8_dispute_11 : decode cX8_dispute 11 = .ok (.i2l, 1) := by decide +kernel
theorem dX8_dispute_12 : decode cX8_dispute 12 = .ok (.invokestatic 74, 3) := by decide +kernel
theorem dX8_dispute_15 : decode cX8_dispute 15 = .ok (.ifCond .eq 11, 3) := by decide +kernel
theorem dX8_dispute_18 : decode cX8_dispute 18 = .ok (.aload_n 0, 1) := by decide +kernel
theorem dX8_dispute_19 : decode cX8_dispute 19 = .ok (.iload_n 1, 1) := by decide +kernel
theorem dX8_dispute_20 : decode cX8_dispute 20 = .ok (.invokevirtual 249, 3) := by decide +kernel
theorem dX8_dispute_23 : decode cX8_dispute 23 = .ok (.goto 10, 3) := by decide +kernel
theorem dX8_dispute_26 : decode cX8_dispute 26 = .ok (.aload_n 0, 1) := by decide +kernel
theorem dX8_dispute_27 : decode cX8_dispute 27 = .ok (.bipush (-2), 2) := by decide +kernel
theorem dX8_dispute_29 : decode cX8_dispute 29 = .ok (.invokevirtual 87, 3) := by decide +kernel
theorem dX8_dispute_32 : decode cX8_dispute 32 = .ok (.i2l, 1) := by decide +kernel
theorem dX8_dispute_33 : decode cX8_dispute 33 = .ok (.lreturn, 1) := by decide +kernel
theorem dX8_lied_0 : decode cX8_lied 0 = .ok (.iload_n 1, 1) := by decide +kernel
theorem dX8_lied_1 : decode cX8_lied 1 = .ok (.i2l, 1) := by decide +kernel
theorem dX8_lied_2 : decode cX8_lied 2 = .ok (.lconst 0, 1) := by decide +kernel
theorem dX8_lied_3 : decode cX8_lied 3 = .ok (.lconst 1, 1) := by decide +kernel
theorem dX8_lied_4 : decode cX8_lied 4 = .ok (.invokestatic 74, 3) := by decide +kernel
theorem dX8_lied_7 : decode cX8_lied 7 = .ok (.ifCond .ne 10, 3) := by decide +kernel
theorem dX8_lied_10 : decode cX8_lied 10 = .ok (.aload_n 0, 1) := by decide +kernel
theorem dX8_lied_11 : decode cX8_lied 11 = .ok (.bipush (-2), 2) := by decide +kernel
theorem dX8_lied_13 : decode cX8_lied 13 = .ok (.invokevirtual 87, 3) := by decide +kernel
theorem dX8_lied_16 : decode cX8_lied 16 = .ok (.ireturn, 1) := by decide +kernel
theorem dX8_lied_17 : decode cX8_lied 17 = .ok (.iconst 0, 1) := by decide +kernel
theorem dX8_lied_18 : decode cX8_lied 18 = .ok (.istore_n 2, 1) := by decide +kernel
theorem dX8_lied_19 : decode cX8_lied 19 = .ok (.iconst 0, 1) := by decide +kernel
theorem dX8_lied_20 : decode cX8_lied 20 = .ok (.istore_n 3, 1) := by decide +kernel
theorem dX8_lied_21 : decode cX8_lied 21 = .ok (.iload_n 3, 1) := by decide +kernel
theorem dX8_lied_22 : decode cX8_lied 22 = .ok (.aload_n 0, 1) := by decide +kernel
theorem dX8_lied_23 : decode cX8_lied 23 = .ok (.invokevirtual 243, 3) := by decide +kernel
theorem dX8_lied_26 : decode cX8_lied 26 = .ok (.if_icmp .ge 35, 3) := by decide +kernel
theorem dX8_lied_29 : decode cX8_lied 29 = .ok (.iload_n 1, 1) := by decide +kernel
theorem dX8_lied_30 : decode cX8_lied 30 = .ok (.ifCond .ne 31, 3) := by decide +kernel
theorem dX8_lied_33 : decode cX8_lied 33 = .ok (.iload_n 2, 1) := by decide +kernel
theorem dX8_lied_34 : decode cX8_lied 34 = .ok (.aload_n 0, 1) := by decide +kernel
theorem dX8_lied_35 : decode cX8_lied 35 = .ok (.iconst 1, 1) := by decide +kernel
theorem dX8_lied_36 : decode cX8_lied 36 = .ok (.iload_n 3, 1) := by decide +kernel
theorem dX8_lied_37 : decode cX8_lied 37 = .ok (.ishl, 1) := by decide +kernel
theorem dX8_lied_38 : decode cX8_lied 38 = .ok (.invokevirtual 249, 3) := by decide +kernel
theorem dX8_lied_41 : decode cX8_lied 41 = .ok (.lconst 0, 1) := by decide +kernel
theorem dX8_lied_42 : decode cX8_lied 42 = .ok (.lcmp, 1) := by decide +kernel
theorem dX8_lied_43 : decode cX8_lied 43 = .ok (.ifCond .ne 9, 3) := by decide +kernel
theorem dX8_lied_46 : decode cX8_lied 46 = .ok (.iconst 1, 1) := by decide +kernel
theorem dX8_lied_47 : decode cX8_lied 47 = .ok (.iload_n 3, 1) := by decide +kernel
theorem dX8_lied_48 : decode cX8_lied 48 = .ok (.ishl, 1) := by decide +kernel
theorem dX8_lied_49 : decode cX8_lied 49 = .ok (.goto 4, 3) := by decide +kernel
theorem dX8_lied_52 : decode cX8_lied 52 = .ok (.iconst 0, 1) := by decide +kernel
theorem dX8_lied_53 : decode cX8_lied 53 = .ok (.ior, 1) := by decide +kernel
theorem dX8_lied_54 : decode cX8_lied 54 = .ok (.istore_n 2, 1) := by decide +kernel
theorem dX8_lied_55 : decode cX8_lied 55 = .ok (.iinc 3 1, 3) := by decide +kernel
theorem dX8_lied_58 : decode cX8_lied 58 = .ok (.goto (-37), 3) := by decide +kernel
theorem dX8_lied_61 : decode cX8_lied 61 = .ok (.iconst 1, 1) := by decide +kernel
theorem dX8_lied_62 : decode cX8_lied 62 = .ok (.aload_n 0, 1) := by decide +kernel
theorem dX8_lied_63 : decode cX8_lied 63 = .ok (.invokevirtual 243, 3) := by decide +kernel
theorem dX8_lied_66 : decode cX8_lied 66 = .ok (.ishl, 1) := by decide +kernel
theorem dX8_lied_67 : decode cX8_lied 67 = .ok (.iconst 1, 1) := by decide +kernel
theorem dX8_lied_68 : decode cX8_lied 68 = .ok (.isub, 1) := by decide +kernel
theorem dX8_lied_69 : decode cX8_lied 69 = .ok (.istore_n 3, 1) := by decide +kernel
theorem dX8_lied_70 : decode cX8_lied 70 = .ok (.iconst 0, 1) := by decide +kernel
theorem dX8_lied_71 : decode cX8_lied 71 = .ok (.istore 4, 2) := by decide +kernel
theorem dX8_lied_73 : decode cX8_lied 73 = .ok (.iload 4, 2) := by decide +kernel
theorem dX8_lied_75 : decode cX8_lied 75 = .ok (.iconst 1, 1) := by decide +kernel
theorem dX8_lied_76 : decode cX8_lied 76 = .ok (.aload_n 0, 1) := by decide +kernel
theorem dX8_lied_77 : decode cX8_lied 77 = .ok (.invokevirtual 243, 3) := by decide +kernel
theorem dX8_lied_80 : decode cX8_lied 80 = .ok (.ishl, 1) := by decide +kernel
theorem dX8_lied_81 : decode cX8_lied 81 = .ok (.if_icmp .ge 60, 3) := by decide +kernel
theorem dX8_lied_84 : decode cX8_lied 84 = .ok (.iload_n 1, 1) := by decide +kernel
theorem dX8_lied_85 : decode cX8_lied 85 = .ok (.iconst 1, 1) := by decide +kernel
theorem dX8_lied_86 : decode cX8_lied 86 = .ok (.if_icmp .ne 55, 3) := by decide +kernel
theorem dX8_lied_89 : decode cX8_lied 89 = .ok (.iload_n 3, 1) := by decide +kernel
theorem dX8_lied_90 : decode cX8_lied 90 = .ok (.invokestatic 193, 3) := by decide +kernel
theorem dX8_lied_93 : decode cX8_lied 93 = .ok (.iload 4, 2) := by decide +kernel
theorem dX8_lied_95 : decode cX8_lied 95 = .ok (.invokestatic 193, 3) := by decide +kernel
theorem dX8_lied_98 : decode cX8_lied 98 = .ok (.isub, 1) := by decide +kernel
theorem dX8_lied_99 : decode cX8_lied 99 = .ok (.istore 5, 2) := by decide +kernel
theorem dX8_lied_101 : decode cX8_lied 101 = .ok (.iload 5, 2) := by decide +kernel
theorem dX8_lied_103 : decode cX8_lied 103 = .ok (.ifCond .gt 14, 3) := by decide +kernel
theorem dX8_lied_106 : decode cX8_lied 106 = .ok (.iload 5, 2) := by decide +kernel
theorem dX8_lied_108 : decode cX8_lied 108 = .ok (.ifCond .ne 25, 3) := by decide +kernel
theorem dX8_lied_111 : decode cX8_lied 111 = .ok (.iload 4, 2) := by decide +kernel
theorem dX8_lied_113 : decode cX8_lied 113 = .ok (.iload_n 3, 1) := by decide +kernel
theorem dX8_lied_114 : decode cX8_lied 114 = .ok (.if_icmp .ge 19, 3) := by decide +kernel
theorem dX8_lied_117 : decode cX8_lied 117 = .ok (.aload_n 0, 1) := by decide +kernel
theorem dX8_lied_118 : decode cX8_lied 118 = .ok (.iload 4, 2) := by decide +kernel
theorem dX8_lied_120 : decode cX8_lied 120 = .ok (.invokevirtual 249, 3) := by decide +kernel
theorem dX8_lied_123 : decode cX8_lied 123 = .ok (.lconst 0, 1) := by decide +kernel
theorem dX8_lied_124 : decode cX8_lied 124 = .ok (.lcmp, 1) := by decide +kernel
theorem dX8_lied_125 : decode cX8_lied 125 = .ok (.ifCond .ne 8, 3) := by decide +kernel
theorem dX8_lied_128 : decode cX8_lied 128 = .ok (.iload 4, 2) := by decide +kernel
theorem dX8_lied_130 : decode cX8_lied 130 = .ok (.goto 4, 3) := by decide +kernel
theorem dX8_lied_133 : decode cX8_lied 133 = .ok (.iload_n 3, 1) := by decide +kernel
theorem dX8_lied_134 : decode cX8_lied 134 = .ok (.istore_n 3, 1) := by decide +kernel
theorem dX8_lied_135 : decode cX8_lied 135 = .ok (.iinc 4 1, 3) := by decide +kernel
theorem dX8_lied_138 : decode cX8_lied 138 = .ok (.goto (-65), 3) := by decide +kernel
theorem dX8_lied_141 : decode cX8_lied 141 = .ok (.iload_n 1, 1) := by decide +kernel
theorem dX8_lied_142 : decode cX8_lied 142 = .ok (.ifCond .ne 7, 3) := by decide +kernel
theorem dX8_lied_145 : decode cX8_lied 145 = .ok (.iload_n 2, 1) := by decide +kernel
theorem dX8_lied_146 : decode cX8_lied 146 = .ok (.goto 4, 3) := by decide +kernel
theorem dX8_lied_149 : decode cX8_lied 149 = .ok (.iload_n 3, 1) := by decide +kernel
theorem dX8_lied_150 : decode cX8_lied 150 = .ok (.ireturn, 1) := by decide +kernel
theorem dX8_part_0 : decode cX8_part 0 = .ok (.iload_n 1, 1) := by decide +kernel
theorem dX8_part_1 : decode cX8_part 1 = .ok (.ifCond .ne 10, 3) := by decide +kernel
theorem dX8_part_4 : decode cX8_part 4 = .ok (.aload_n 0, 1) := by decide +kernel
theorem dX8_part_5 : decode cX8_part 5 = .ok (.getfield 67, 3) := by decide +kernel
theorem dX8_part_8 : decode cX8_part 8 = .ok (.goto 22, 3) := by decide +kernel
theorem dX8_part_11 : decode cX8_part 11 = .ok (.iload_n 1, 1) := by decide +kernel
theorem dX8_part_12 : decode cX8_part 12 = .ok (.iconst 1, 1) := by decide +kernel
theorem dX8_part_13 : decode cX8_part 13 = .ok (.if_icmp .ne 10, 3) := by decide +kernel
theorem dX8_part_16 : decode cX8_part 16 = .ok (.aload_n 0, 1) := by decide +kernel
theorem dX8_part_17 : decode cX8_part 17 = .ok (.getfield 23, 3) := by decide +kernel
theorem dX8_part_20 : decode cX8_part 20 = .ok (.goto 10, 3) := by decide +kernel
theorem dX8_part_23 : decode cX8_part 23 = .ok (.aload_n 0, 1) := by decide +kernel
theorem dX8_part_24 : decode cX8_part 24 = .ok (.bipush (-2), 2) := by decide +kernel
theorem dX8_part_26 : decode cX8_part 26 = .ok (.invokevirtual 87, 3) := by decide +kernel
theorem dX8_part_29 : decode cX8_part 29 = .ok (.i2l, 1) := by decide +kernel
theorem dX8_part_30 : decode cX8_part 30 = .ok (.lreturn, 1) := by decide +kernel
theorem dX8_image_0 : decode cX8_image 0 = .ok (.iload_n 1, 1) := by decide +kernel
theorem dX8_image_1 : decode cX8_image 1 = .ok (.i2l, 1) := by decide +kernel
theorem dX8_image_2 : decode cX8_image 2 = .ok (.lconst 0, 1) := by decide +kernel
theorem dX8_image_3 : decode cX8_image 3 = .ok (.lconst 1, 1) := by decide +kernel
theorem dX8_image_4 : decode cX8_image 4 = .ok (.invokestatic 74, 3) := by decide +kernel
theorem dX8_image_7 : decode cX8_image 7 = .ok (.ifCond .ne 10, 3) := by decide +kernel
theorem dX8_image_10 : decode cX8_image 10 = .ok (.aload_n 0, 1) := by decide +kernel
theorem dX8_image_11 : decode cX8_image 11 = .ok (.bipush (-2), 2) := by decide +kernel
theorem dX8_image_13 : decode cX8_image 13 = .ok (.invokevirtual 87, 3) := by decide +kernel
theorem dX8_image_16 : decode cX8_image 16 = .ok (.ireturn, 1) := by decide +kernel
theorem dX8_image_17 : decode cX8_image 17 = .ok (.iconst 0, 1) := by decide +kernel
theorem dX8_image_18 : decode cX8_image 18 = .ok (.istore_n 2, 1) := by decide +kernel
theorem dX8_image_19 : decode cX8_image 19 = .ok (.iload_n 2, 1) := by decide +kernel
theorem dX8_image_20 : decode cX8_image 20 = .ok (.bipush 101, 2) := by decide +kernel
theorem dX8_image_22 : decode cX8_image 22 = .ok (.if_icmp .ge 26, 3) := by decide +kernel
theorem dX8_image_25 : decode cX8_image 25 = .ok (.aload_n 0, 1) := by decide +kernel
theorem dX8_image_26 : decode cX8_image 26 = .ok (.getfield 13, 3) := by decide +kernel
theorem dX8_image_29 : decode cX8_image 29 = .ok (.bipush 101, 2) := by decide +kernel
theorem dX8_image_31 : decode cX8_image 31 = .ok (.iload_n 1, 1) := by decide +kernel
theorem dX8_image_32 : decode cX8_image 32 = .ok (.imul, 1) := by decide +kernel
theorem dX8_image_33 : decode cX8_image 33 = .ok (.iload_n 2, 1) := by decide +kernel
theorem dX8_image_34 : decode cX8_image 34 = .ok (.iadd, 1) := by decide +kernel
theorem dX8_image_35 : decode cX8_image 35 = .ok (.aload_n 0, 1) := by decide +kernel
theorem dX8_image_36 : decode cX8_image 36 = .ok (.getfield 7, 3) := by decide +kernel
theorem dX8_image_39 : decode cX8_image 39 = .ok (.iload_n 2, 1) := by decide +kernel
theorem dX8_image_40 : decode cX8_image 40 = .ok (.iaload, 1) := by decide +kernel
theorem dX8_image_41 : decode cX8_image 41 = .ok (.iastore, 1) := by decide +kernel
theorem dX8_image_42 : decode cX8_image 42 = .ok (.iinc 2 1, 3) := by decide +kernel
theorem dX8_image_45 : decode cX8_image 45 = .ok (.goto (-26), 3) := by decide +kernel
theorem dX8_image_48 : decode cX8_image 48 = .ok (.aload_n 0, 1) := by decide +kernel
theorem dX8_image_49 : decode cX8_image 49 = .ok (.getfield 16, 3) := by decide +kernel
theorem dX8_image_52 : decode cX8_image 52 = .ok (.iload_n 1, 1) := by decide +kernel
theorem dX8_image_53 : decode cX8_image 53 = .ok (.iconst 1, 1) := by decide +kernel
theorem dX8_image_54 : decode cX8_image 54 = .ok (.bastore, 1) := by decide +kernel
theorem dX8_image_55 : decode cX8_image 55 = .ok (.iconst 1, 1) := by decide +kernel
theorem dX8_image_56 : decode cX8_image 56 = .ok (.ireturn, 1) := by decide +kernel
theorem dX8_from_0 : decode cX8_from 0 = .ok (.iload_n 1, 1) := by decide +kernel
theorem dX8_from_1 : decode cX8_from 1 = .ok (.i2l, 1) := by decide +kernel
theorem dX8_from_2 : decode cX8_from 2 = .ok (.lconst 0, 1) := by decide +kernel
theorem dX8_from_3 : decode cX8_from 3 = .ok (.lconst 1, 1) := by decide +kernel
theorem dX8_from_4 : decode cX8_from 4 = .ok (.invokestatic 74, 3) := by decide +kernel
theorem dX8_from_7 : decode cX8_from 7 = .ok (.ifCond .ne 10, 3) := by decide +kernel
theorem dX8_from_10 : decode cX8_from 10 = .ok (.aload_n 0, 1) := by decide +kernel
theorem dX8_from_11 : decode cX8_from 11 = .ok (.bipush (-2), 2) := by decide +kernel
theorem dX8_from_13 : decode cX8_from 13 = .ok (.invokevirtual 87, 3) := by decide +kernel
theorem dX8_from_16 : decode cX8_from 16 = .ok (.ireturn, 1) := by decide +kernel
theorem dX8_from_17 : decode cX8_from 17 = .ok (.aload_n 0, 1) := by decide +kernel
theorem dX8_from_18 : decode cX8_from 18 = .ok (.getfield 16, 3) := by decide +kernel
theorem dX8_from_21 : decode cX8_from 21 = .ok (.iload_n 1, 1) := by decide +kernel
theorem dX8_from_22 : decode cX8_from 22 = .ok (.baload, 1) := by decide +kernel
theorem dX8_from_23 : decode cX8_from 23 = .ok (.ifCond .ne 8, 3) := by decide +kernel
theorem dX8_from_26 : decode cX8_from 26 = .ok (.aload_n 0, 1) := by decide +kernel
theorem dX8_from_27 : decode cX8_from 27 = .ok (.invokevirtual 232, 3) := by decide +kernel
theorem dX8_from_30 : decode cX8_from 30 = .ok (.ireturn, 1) := by decide +kernel
theorem dX8_from_31 : decode cX8_from 31 = .ok (.iconst 0, 1) := by decide +kernel
theorem dX8_from_32 : decode cX8_from 32 = .ok (.istore_n 2, 1) := by decide +kernel
theorem dX8_from_33 : decode cX8_from 33 = .ok (.iload_n 2, 1) := by decide +kernel
theorem dX8_from_34 : decode cX8_from 34 = .ok (.bipush 101, 2) := by decide +kernel
theorem dX8_from_36 : decode cX8_from 36 = .ok (.if_icmp .ge 26, 3) := by decide +kernel
theorem dX8_from_39 : decode cX8_from 39 = .ok (.aload_n 0, 1) := by decide +kernel
theorem dX8_from_40 : decode cX8_from 40 = .ok (.getfield 7, 3) := by decide +kernel
theorem dX8_from_43 : decode cX8_from 43 = .ok (.iload_n 2, 1) := by decide +kernel
theorem dX8_from_44 : decode cX8_from 44 = .ok (.aload_n 0, 1) := by decide +kernel
theorem dX8_from_45 : decode cX8_from 45 = .ok (.getfield 13, 3) := by decide +kernel
theorem dX8_from_48 : decode cX8_from 48 = .ok (.bipush 101, 2) := by decide +kernel
theorem dX8_from_50 : decode cX8_from 50 = .ok (.iload_n 1, 1) := by decide +kernel
theorem dX8_from_51 : decode cX8_from 51 = .ok (.imul, 1) := by decide +kernel
theorem dX8_from_52 : decode cX8_from 52 = .ok (.iload_n 2, 1) := by decide +kernel
theorem dX8_from_53 : decode cX8_from 53 = .ok (.iadd, 1) := by decide +kernel
theorem dX8_from_54 : decode cX8_from 54 = .ok (.iaload, 1) := by decide +kernel
theorem dX8_from_55 : decode cX8_from 55 = .ok (.iastore, 1) := by decide +kernel
theorem dX8_from_56 : decode cX8_from 56 = .ok (.iinc 2 1, 3) := by decide +kernel
theorem dX8_from_59 : decode cX8_from 59 = .ok (.goto (-26), 3) := by decide +kernel
theorem dX8_from_62 : decode cX8_from 62 = .ok (.iconst 1, 1) := by decide +kernel
theorem dX8_from_63 : decode cX8_from 63 = .ok (.ireturn, 1) := by decide +kernel
theorem dX8_status_0 : decode cX8_status 0 = .ok (.iload_n 1, 1) := by decide +kernel
theorem dX8_status_1 : decode cX8_status 1 = .ok (.i2l, 1) := by decide +kernel
theorem dX8_status_2 : decode cX8_status 2 = .ok (.lconst 0, 1) := by decide +kernel
theorem dX8_status_3 : decode cX8_status 3 = .ok (.ldc2_w 253, 3) := by decide +kernel
theorem dX8_status_6 : decode cX8_status 6 = .ok (.invokestatic 74, 3) := by decide +kernel
theorem dX8_status_9 : decode cX8_status 9 = .ok (.ifCond .eq 12, 3) := by decide +kernel
theorem dX8_status_12 : decode cX8_status 12 = .ok (.aload_n 0, 1) := by decide +kernel
theorem dX8_status_13 : decode cX8_status 13 = .ok (.getfield 20, 3) := by decide +kernel
theorem dX8_status_16 : decode cX8_status 16 = .ok (.iload_n 1, 1) := by decide +kernel
theorem dX8_status_17 : decode cX8_status 17 = .ok (.iaload, 1) := by decide +kernel
theorem dX8_status_18 : decode cX8_status 18 = .ok (.goto 8, 3) := by decide +kernel
theorem dX8_status_21 : decode cX8_status 21 = .ok (.aload_n 0, 1) := by decide +kernel
theorem dX8_status_22 : decode cX8_status 22 = .ok (.iconst (-1), 1) := by decide +kernel
theorem dX8_status_23 : decode cX8_status 23 = .ok (.invokevirtual 87, 3) := by decide +kernel
theorem dX8_status_26 : decode cX8_status 26 = .ok (.ireturn, 1) := by decide +kernel
theorem dX8_count_0 : decode cX8_count 0 = .ok (.iload_n 1, 1) := by decide +kernel
theorem dX8_count_1 : decode cX8_count 1 = .ok (.ifCond .ne 10, 3) := by decide +kernel
theorem dX8_count_4 : decode cX8_count 4 = .ok (.aload_n 0, 1) := by decide +kernel
theorem dX8_count_5 : decode cX8_count 5 = .ok (.invokevirtual 70, 3) := by decide +kernel
theorem dX8_count_8 : decode cX8_count 8 = .ok (.goto 36, 3) := by decide +kernel
theorem dX8_count_11 : decode cX8_count 11 = .ok (.iload_n 1, 1) := by decide +kernel
theorem dX8_count_12 : decode cX8_count 12 = .ok (.iconst 1, 1) := by decide +kernel
theorem dX8_count_13 : decode cX8_count 13 = .ok (.if_icmp .ne 13, 3) := by decide +kernel
theorem dX8_count_16 : decode cX8_count 16 = .ok (.aload_n 0, 1) := by decide +kernel
theorem dX8_count_17 : decode cX8_count 17 = .ok (.getfield 7, 3) := by decide +kernel
theorem dX8_count_20 : decode cX8_count 20 = .ok (.bipush 34, 2) := by decide +kernel
theorem dX8_count_22 : decode cX8_count 22 = .ok (.iaload, 1) := by decide +kernel
theorem dX8_count_23 : decode cX8_count 23 = .ok (.goto 21, 3) := by decide +kernel
theorem dX8_count_26 : decode cX8_count 26 = .ok (.iload_n 1, 1) := by decide +kernel
theorem dX8_count_27 : decode cX8_count 27 = .ok (.iconst 2, 1) := by decide +kernel
theorem dX8_count_28 : decode cX8_count 28 = .ok (.if_icmp .ne 10, 3) := by decide +kernel
theorem dX8_count_31 : decode cX8_count 31 = .ok (.aload_n 0, 1) := by decide +kernel
theorem dX8_count_32 : decode cX8_count 32 = .ok (.invokevirtual 243, 3) := by decide +kernel
theorem dX8_count_35 : decode cX8_count 35 = .ok (.goto 9, 3) := by decide +kernel
theorem dX8_count_38 : decode cX8_count 38 = .ok (.aload_n 0, 1) := by decide +kernel
theorem dX8_count_39 : decode cX8_count 39 = .ok (.bipush (-2), 2) := by decide +kernel
theorem dX8_count_41 : decode cX8_count 41 = .ok (.invokevirtual 87, 3) := by decide +kernel
theorem dX8_count_44 : decode cX8_count 44 = .ok (.ireturn, 1) := by decide +kernel
theorem dX8_sums_0 : decode cX8_sums 0 = .ok (.lload_n 1, 1) := by decide +kernel
theorem dX8_sums_1 : decode cX8_sums 1 = .ok (.lstore 5, 2) := by decide +kernel
theorem dX8_sums_3 : decode cX8_sums 3 = .ok (.iconst 0, 1) := by decide +kernel
theorem dX8_sums_4 : decode cX8_sums 4 = .ok (.istore 7, 2) := by decide +kernel
theorem dX8_sums_6 : decode cX8_sums 6 = .ok (.iload 7, 2) := by decide +kernel
theorem dX8_sums_8 : decode cX8_sums 8 = .ok (.iload 4, 2) := by decide +kernel
theorem dX8_sums_10 : decode cX8_sums 10 = .ok (.if_icmp .ge 28, 3) := by decide +kernel
theorem dX8_sums_13 : decode cX8_sums 13 = .ok (.ldc2_w 255, 3) := by decide +kernel
theorem dX8_sums_16 : decode cX8_sums 16 = .ok (.lload 5, 2) := by decide +kernel
theorem dX8_sums_18 : decode cX8_sums 18 = .ok (.lmul, 1) := by decide +kernel
theorem dX8_sums_19 : decode cX8_sums 19 = .ok (.aload_n 0, 1) := by decide +kernel
theorem dX8_sums_20 : decode cX8_sums 20 = .ok (.getfield 7, 3) := by decide +kernel
theorem dX8_sums_23 : decode cX8_sums 23 = .ok (.iload_n 3, 1) := by decide +kernel
theorem dX8_sums_24 : decode cX8_sums 24 = .ok (.iload 7, 2) := by decide +kernel
theorem dX8_sums_26 : decode cX8_sums 26 = .ok (.iadd, 1) := by decide +kernel
theorem dX8_sums_27 : decode cX8_sums 27 = .ok (.iaload, 1) := by decide +kernel
theorem dX8_sums_28 : decode cX8_sums 28 = .ok (.i2l, 1) := by decide +kernel
theorem dX8_sums_29 : decode cX8_sums 29 = .ok (.ladd, 1) := by decide +kernel
theorem dX8_sums_30 : decode cX8_sums 30 = .ok (.lstore 5, 2) := by decide +kernel
theorem dX8_sums_32 : decode cX8_sums 32 = .ok (.iinc 7 1, 3) := by decide +kernel
theorem dX8_sums_35 : decode cX8_sums 35 = .ok (.goto (-29), 3) := by decide +kernel
theorem dX8_sums_38 : decode cX8_sums 38 = .ok (.lload 5, 2) := by decide +kernel
theorem dX8_sums_40 : decode cX8_sums 40 = .ok (.lreturn, 1) := by decide +kernel
theorem dX8_digest_0 : decode cX8_digest 0 = .ok (.ldc2_w 255, 3) := by decide +kernel
theorem dX8_digest_3 : decode cX8_digest 3 = .ok (.ldc2_w 255, 3) := by decide +kernel
theorem dX8_digest_6 : decode cX8_digest 6 = .ok (.ldc2_w 257, 3) := by decide +kernel
theorem dX8_digest_9 : decode cX8_digest 9 = .ok (.aload_n 0, 1) := by decide +kernel
theorem dX8_digest_10 : decode cX8_digest 10 = .ok (.invokevirtual 70, 3) := by decide +kernel
theorem dX8_digest_13 : decode cX8_digest 13 = .ok (.i2l, 1) := by decide +kernel
theorem dX8_digest_14 : decode cX8_digest 14 = .ok (.ladd, 1) := by decide +kernel
theorem dX8_digest_15 : decode cX8_digest 15 = .ok (.lmul, 1) := by decide +kernel
theorem dX8_digest_16 : decode cX8_digest 16 = .ok (.aload_n 0, 1) := by decide +kernel
theorem dX8_digest_17 : decode cX8_digest 17 = .ok (.getfield 7, 3) := by decide +kernel
theorem dX8_digest_20 : decode cX8_digest 20 = .ok (.bipush 34, 2) := by decide +kernel
theorem dX8_digest_22 : decode cX8_digest 22 = .ok (.iaload, 1) := by decide +kernel
theorem dX8_digest_23 : decode cX8_digest 23 = .ok (.i2l, 1) := by decide +kernel
theorem dX8_digest_24 : decode cX8_digest 24 = .ok (.ladd, 1) := by decide +kernel
theorem dX8_digest_25 : decode cX8_digest 25 = .ok (.lmul, 1) := by decide +kernel
theorem dX8_digest_26 : decode cX8_digest 26 = .ok (.aload_n 0, 1) := by decide +kernel
theorem dX8_digest_27 : decode cX8_digest 27 = .ok (.invokevirtual 243, 3) := by decide +kernel
theorem dX8_digest_30 : decode cX8_digest 30 = .ok (.i2l, 1) := by decide +kernel
theorem dX8_digest_31 : decode cX8_digest 31 = .ok (.ladd, 1) := by decide +kernel
theorem dX8_digest_32 : decode cX8_digest 32 = .ok (.lstore_n 1, 1) := by decide +kernel
theorem dX8_digest_33 : decode cX8_digest 33 = .ok (.aload_n 0, 1) := by decide +kernel
theorem dX8_digest_34 : decode cX8_digest 34 = .ok (.lload_n 1, 1) := by decide +kernel
theorem dX8_digest_35 : decode cX8_digest 35 = .ok (.iconst 0, 1) := by decide +kernel
theorem dX8_digest_36 : decode cX8_digest 36 = .ok (.iconst 4, 1) := by decide +kernel
theorem dX8_digest_37 : decode cX8_digest 37 = .ok (.aload_n 0, 1) := by decide +kernel
theorem dX8_digest_38 : decode cX8_digest 38 = .ok (.invokevirtual 70, 3) := by decide +kernel
theorem dX8_digest_41 : decode cX8_digest 41 = .ok (.imul, 1) := by decide +kernel
theorem dX8_digest_42 : decode cX8_digest 42 = .ok (.invokevirtual 259, 3) := by decide +kernel
theorem dX8_digest_45 : decode cX8_digest 45 = .ok (.lstore_n 1, 1) := by decide +kernel
theorem dX8_digest_46 : decode cX8_digest 46 = .ok (.aload_n 0, 1) := by decide +kernel
theorem dX8_digest_47 : decode cX8_digest 47 = .ok (.lload_n 1, 1) := by decide +kernel
theorem dX8_digest_48 : decode cX8_digest 48 = .ok (.bipush 32, 2) := by decide +kernel
theorem dX8_digest_50 : decode cX8_digest 50 = .ok (.iconst 2, 1) := by decide +kernel
theorem dX8_digest_51 : decode cX8_digest 51 = .ok (.invokevirtual 259, 3) := by decide +kernel
theorem dX8_digest_54 : decode cX8_digest 54 = .ok (.lstore_n 1, 1) := by decide +kernel
theorem dX8_digest_55 : decode cX8_digest 55 = .ok (.aload_n 0, 1) := by decide +kernel
theorem dX8_digest_56 : decode cX8_digest 56 = .ok (.lload_n 1, 1) := by decide +kernel
theorem dX8_digest_57 : decode cX8_digest 57 = .ok (.bipush 35, 2) := by decide +kernel
theorem dX8_digest_59 : decode cX8_digest 59 = .ok (.aload_n 0, 1) := by decide +kernel
theorem dX8_digest_60 : decode cX8_digest 60 = .ok (.getfield 7, 3) := by decide +kernel
theorem dX8_digest_63 : decode cX8_digest 63 = .ok (.bipush 34, 2) := by decide +kernel
theorem dX8_digest_65 : decode cX8_digest 65 = .ok (.iaload, 1) := by decide +kernel
theorem dX8_digest_66 : decode cX8_digest 66 = .ok (.invokevirtual 259, 3) := by decide +kernel
theorem dX8_digest_69 : decode cX8_digest 69 = .ok (.lstore_n 1, 1) := by decide +kernel
theorem dX8_digest_70 : decode cX8_digest 70 = .ok (.aload_n 0, 1) := by decide +kernel
theorem dX8_digest_71 : decode cX8_digest 71 = .ok (.lload_n 1, 1) := by decide +kernel
theorem dX8_digest_72 : decode cX8_digest 72 = .ok (.bipush 75, 2) := by decide +kernel
theorem dX8_digest_74 : decode cX8_digest 74 = .ok (.iconst 3, 1) := by decide +kernel
theorem dX8_digest_75 : decode cX8_digest 75 = .ok (.aload_n 0, 1) := by decide +kernel
theorem dX8_digest_76 : decode cX8_digest 76 = .ok (.invokevirtual 243, 3) := by decide +kernel
theorem dX8_digest_79 : decode cX8_digest 79 = .ok (.imul, 1) := by decide +kernel
theorem dX8_digest_80 : decode cX8_digest 80 = .ok (.invokevirtual 259, 3) := by decide +kernel
theorem dX8_digest_83 : decode cX8_digest 83 = .ok (.lstore_n 1, 1) := by decide +kernel
theorem dX8_digest_84 : decode cX8_digest 84 = .ok (.ldc2_w 255, 3) := by decide +kernel
theorem dX8_digest_87 : decode cX8_digest 87 = .ok (.ldc2_w 255, 3) := by decide +kernel
theorem dX8_digest_90 : decode cX8_digest 90 = .ok (.lload_n 1, 1) := by decide +kernel
theorem dX8_digest_91 : decode cX8_digest 91 = .ok (.lmul, 1) := by decide +kernel
theorem dX8_digest_92 : decode cX8_digest 92 = .ok (.aload_n 0, 1) := by decide +kernel
theorem dX8_digest_93 : decode cX8_digest 93 = .ok (.getfield 67, 3) := by decide +kernel
theorem dX8_digest_96 : decode cX8_digest 96 = .ok (.ladd, 1) := by decide +kernel
theorem dX8_digest_97 : decode cX8_digest 97 = .ok (.lmul, 1) := by decide +kernel
theorem dX8_digest_98 : decode cX8_digest 98 = .ok (.aload_n 0, 1) := by decide +kernel
theorem dX8_digest_99 : decode cX8_digest 99 = .ok (.getfield 23, 3) := by decide +kernel
theorem dX8_digest_102 : decode cX8_digest 102 = .ok (.ladd, 1) := by decide +kernel
theorem dX8_digest_103 : decode cX8_digest 103 = .ok (.lreturn, 1) := by decide +kernel
theorem dJ11_isValidCodePoint_9a6ad_0 : decode cJ11_isValidCodePoint_9a6ad 0 = .ok (.iload_n 0, 1) := by decide +kernel
theorem dJ11_isValidCodePoint_9a6ad_1 : decode cJ11_isValidCodePoint_9a6ad 1 = .ok (.bipush 16, 2) := by decide +kernel

theorem dX7_isWalker_9 : decode cX7_isWalker 9 = .ok (.getfield 90, 3) := by decide +kernel
theorem dX7_isWalker_12 : decode cX7_isWalker 12 = .ok (.if_icmp .ge 13, 3) := by decide +kernel
theorem dX7_isWalker_15 : decode cX7_isWalker 15 = .ok (.iload_n 1, 1) := by decide +kernel
theorem dX7_isWalker_16 : decode cX7_isWalker 16 = .ok (.bipush 8, 2) := by decide +kernel
theorem dX7_isWalker_18 : decode cX7_isWalker 18 = .ok (.if_icmp .ge 7, 3) := by decide +kernel
theorem dX7_isWalker_21 : decode cX7_isWalker 21 = .ok (.iconst 1, 1) := by decide +kernel
theorem dX7_isWalker_22 : decode cX7_isWalker 22 = .ok (.goto 4, 3) := by decide +kernel
theorem dX7_isWalker_25 : decode cX7_isWalker 25 = .ok (.iconst 0, 1) := by decide +kernel
theorem dX7_isWalker_26 : decode cX7_isWalker 26 = .ok (.ireturn, 1) := by decide +kernel
theorem dX7_imageAt_0 : decode cX7_imageAt 0 = .ok (.iload_n 1, 1) := by decide +kernel
theorem dX7_imageAt_1 : decode cX7_imageAt 1 = .ok (.ifCond .ne 10, 3) := by decide +kernel
theorem dX7_imageAt_4 : decode cX7_imageAt 4 = .ok (.aload_n 0, 1) := by decide +kernel
theorem dX7_imageAt_5 : decode cX7_imageAt 5 = .ok (.getfield 16, 3) := by decide +kernel
theorem dX7_imageAt_8 : decode cX7_imageAt 8 = .ok (.goto 7, 3) := by decide +kernel
theorem dX7_imageAt_11 : decode cX7_imageAt 11 = .ok (.aload_n 0, 1) := by decide +kernel
theorem dX7_imageAt_12 : decode cX7_imageAt 12 = .ok (.getfield 19, 3) := by decide +kernel
theorem dX7_imageAt_15 : decode cX7_imageAt 15 = .ok (.areturn, 1) := by decide +kernel
theorem dX7_forgetWhatFollows_0 : decode cX7_forgetWhatFollows 0 = .ok (.aload_n 0, 1) := by decide +kernel
theorem dX7_forgetWhatFollows_1 : decode cX7_forgetWhatFollows 1 = .ok (.getfield 40, 3) := by decide +kernel
theorem dX7_forgetWhatFollows_4 : decode cX7_forgetWhatFollows 4 = .ok (.iconst 1, 1) := by decide +kernel
theorem dX7_forgetWhatFollows_5 : decode cX7_forgetWhatFollows 5 = .ok (.putfield 253, 3) := by decide +kernel
theorem dX7_forgetWhatFollows_8 : decode cX7_forgetWhatFollows 8 = .ok (.aload_n 0, 1) := by decide +kernel
theorem dX7_forgetWhatFollows_9 : decode cX7_forgetWhatFollows 9 = .ok (.getfield 49, 3) := by decide +kernel
theorem dX7_forgetWhatFollows_12 : decode cX7_forgetWhatFollows 12 = .ok (.iconst 0, 1) := by decide +kernel
theorem dX7_forgetWhatFollows_13 : decode cX7_forgetWhatFollows 13 = .ok (.putfield 107, 3) := by decide +kernel
theorem dX7_forgetWhatFollows_16 : decode cX7_forgetWhatFollows 16 = .ok (.aload_n 0, 1) := by decide +kernel
theorem dX7_forgetWhatFollows_17 : decode cX7_forgetWhatFollows 17 = .ok (.getfield 56, 3) := by decide +kernel
theorem dX7_forgetWhatFollows_20 : decode cX7_forgetWhatFollows 20 = .ok (.iconst 0, 1) := by decide +kernel
theorem dX7_forgetWhatFollows_21 : decode cX7_forgetWhatFollows 21 = .ok (.putfield 114, 3) := by decide +kernel
theorem dX7_forgetWhatFollows_24 : decode cX7_forgetWhatFollows 24 = .ok (.return_, 1) := by decide +kernel
theorem dX7_spreadStops_0 : decode cX7_spreadStops 0 = .ok (.aload_n 0, 1) := by decide +kernel
theorem dX7_spreadStops_1 : decode cX7_spreadStops 1 = .ok (.getfield 74, 3) := by decide +kernel
theorem dX7_spreadStops_4 : decode cX7_spreadStops 4 = .ok (.lconst 0, 1) := by decide +kernel
theorem dX7_spreadStops_5 : decode cX7_spreadStops 5 = .ok (.invokestatic 256, 3) := by decide +kernel
theorem dX7_spreadStops_8 : decode cX7_spreadStops 8 = .ok (.aload_n 0, 1) := by decide +kernel
theorem dX7_spreadStops_9 : decode cX7_spreadStops 9 = .ok (.getfield 74, 3) := by decide +kernel
theorem dX7_spreadStops_12 : decode cX7_spreadStops 12 = .ok (.iconst 0, 1) := by decide +kernel
theorem dX7_spreadStops_13 : decode cX7_spreadStops 13 = .ok (.lconst 1, 1) := by decide +kernel
theorem dX7_spreadStops_14 : decode cX7_spreadStops 14 = .ok (.lastore, 1) := by decide +kernel
theorem dX7_spreadStops_15 : decode cX7_spreadStops 15 = .ok (.lconst 1, 1) := by decide +kernel
theorem dX7_spreadStops_16 : decode cX7_spreadStops 16 = .ok (.lstore_n 3, 1) := by decide +kernel
theorem dX7_spreadStops_17 : decode cX7_spreadStops 17 = .ok (.iconst 0, 1) := by decide +kernel
theorem dX7_spreadStops_18 : decode cX7_spreadStops 18 = .ok (.istore 5, 2) := by decide +kernel
theorem dX7_spreadStops_20 : decode cX7_spreadStops 20 = .ok (.iload 5, 2) := by decide +kernel
theorem dX7_spreadStops_22 : decode cX7_spreadStops 22 = .ok (.iload_n 2, 1) := by decide +kernel
theorem dX7_spreadStops_23 : decode cX7_spreadStops 23 = .ok (.if_icmp .ge 77, 3) := by decide +kernel
theorem dX7_spreadStops_26 : decode cX7_spreadStops 26 = .ok (.bipush 8, 2) := by decide +kernel
theorem dX7_spreadStops_28 : decode cX7_spreadStops 28 = .ok (.istore 6, 2) := by decide +kernel
theorem dX7_spreadStops_30 : decode cX7_spreadStops 30 = .ok (.iload 6, 2) := by decide +kernel
theorem dX7_spreadStops_32 : decode cX7_spreadStops 32 = .ok (.ifCond .le 42, 3) := by decide +kernel
theorem dX7_spreadStops_35 : decode cX7_spreadStops 35 = .ok (.aload_n 0, 1) := by decide +kernel
theorem dX7_spreadStops_36 : decode cX7_spreadStops 36 = .ok (.getfield 74, 3) := by decide +kernel
theorem dX7_spreadStops_39 : decode cX7_spreadStops 39 = .ok (.iload 6, 2) := by decide +kernel
theorem dX7_spreadStops_41 : decode cX7_spreadStops 41 = .ok (.aload_n 0, 1) := by decide +kernel
theorem dX7_spreadStops_42 : decode cX7_spreadStops 42 = .ok (.getfield 74, 3) := by decide +kernel
theorem dX7_spreadStops_45 : decode cX7_spreadStops 45 = .ok (.iload 6, 2) := by decide +kernel
theorem dX7_spreadStops_47 : decode cX7_spreadStops 47 = .ok (.laload, 1) := by decide +kernel
theorem dX7_spreadStops_48 : decode cX7_spreadStops 48 = .ok (.bipush 20, 2) := by decide +kernel
theorem dX7_spreadStops_50 : decode cX7_spreadStops 50 = .ok (.iload_n 1, 1) := by decide +kernel
theorem dX7_spreadStops_51 : decode cX7_spreadStops 51 = .ok (.isub, 1) := by decide +kernel
theorem dX7_spreadStops_52 : decode cX7_spreadStops 52 = .ok (.i2l, 1) := by decide +kernel
theorem dX7_spreadStops_53 : decode cX7_spreadStops 53 = .ok (.lmul, 1) := by decide +kernel
theorem dX7_spreadStops_54 : decode cX7_spreadStops 54 = .ok (.aload_n 0, 1) := by decide +kernel
theorem dX7_spreadStops_55 : decode cX7_spreadStops 55 = .ok (.getfield 74, 3) := by decide +kernel
theorem dX7_spreadStops_58 : decode cX7_spreadStops 58 = .ok (.iload 6, 2) := by decide +kernel
theorem dX7_spreadStops_60 : decode cX7_spreadStops 60 = .ok (.iconst 1, 1) := by decide +kernel
theorem dX7_spreadStops_61 : decode cX7_spreadStops 61 = .ok (.isub, 1) := by decide +kernel
theorem dX7_spreadStops_62 : decode cX7_spreadStops 62 = .ok (.laload, 1) := by decide +kernel
theorem dX7_spreadStops_63 : decode cX7_spreadStops 63 = .ok (.iload_n 1, 1) := by decide +kernel
theorem dX7_spreadStops_64 : decode cX7_spreadStops 64 = .ok (.i2l, 1) := by decide +kernel
theorem dX7_spreadStops_65 : decode cX7_spreadStops 65 = .ok (.lmul, 1) := by decide +kernel
theorem dX7_spreadStops_66 : decode cX7_spreadStops 66 = .ok (.ladd, 1) := by decide +kernel
theorem dX7_spreadStops_67 : decode cX7_spreadStops 67 = .ok (.lastore, 1) := by decide +kernel
theorem dX7_spreadStops_68 : decode cX7_spreadStops 68 = .ok (.iinc 6 (-1), 3) := by decide +kernel
theorem dX7_spreadStops_71 : decode cX7_spreadStops 71 = .ok (.goto (-41), 3) := by decide +kernel
theorem dX7_spreadStops_74 : decode cX7_spreadStops 74 = .ok (.aload_n 0, 1) := by decide +kernel
theorem dX7_spreadStops_75 : decode cX7_spreadStops 75 = .ok (.getfield 74, 3) := by decide +kernel
theorem dX7_spreadStops_78 : decode cX7_spreadStops 78 = .ok (.iconst 0, 1) := by decide +kernel
theorem dX7_spreadStops_79 : decode cX7_spreadStops 79 = .ok (.dup2, 1) := by decide +kernel
theorem dX7_spreadStops_80 : decode cX7_spreadStops 80 = .ok (.laload, 1) := by decide +kernel
theorem dX7_spreadStops_81 : decode cX7_spreadStops 81 = .ok (.bipush 20, 2) := by decide +kernel
theorem dX7_spreadStops_83 : decode cX7_spreadStops 83 = .ok (.iload_n 1, 1) := by decide +kernel
theorem dX7_spreadStops_84 : decode cX7_spreadStops 84 = .ok (.isub, 1) := by decide +kernel
theorem dX7_spreadStops_85 : decode cX7_spreadStops 85 = .ok (.i2l, 1) := by decide +kernel
theorem dX7_spreadStops_86 : decode cX7_spreadStops 86 = .ok (.lmul, 1) := by decide +kernel
theorem dX7_spreadStops_87 : decode cX7_spreadStops 87 = .ok (.lastore, 1) := by decide +kernel
theorem dX7_spreadStops_88 : decode cX7_spreadStops 88 = .ok (.lload_n 3, 1) := by decide +kernel
theorem dX7_spreadStops_89 : decode cX7_spreadStops 89 = .ok (.ldc2_w 262, 3) := by decide +kernel
theorem dX7_spreadStops_92 : decode cX7_spreadStops 92 = .ok (.lmul, 1) := by decide +kernel
theorem dX7_spreadStops_93 : decode cX7_spreadStops 93 = .ok (.lstore_n 3, 1) := by decide +kernel
theorem dX7_spreadStops_94 : decode cX7_spreadStops 94 = .ok (.iinc 5 1, 3) := by decide +kernel
theorem dX7_spreadStops_97 : decode cX7_spreadStops 97 = .ok (.goto (-77), 3) := by decide +kernel
theorem dX7_spreadStops_100 : decode cX7_spreadStops 100 = .ok (.lload_n 3, 1) := by decide +kernel
theorem dX7_spreadStops_101 : decode cX7_spreadStops 101 = .ok (.lreturn, 1) := by decide +kernel
theorem dX7_waysHome_0 : decode cX7_waysHome 0 = .ok (.aload_n 0, 1) := by decide +kernel
theorem dX7_waysHome_1 : decode cX7_waysHome 1 = .ok (.getfield 78, 3) := by decide +kernel
theorem dX7_waysHome_4 : decode cX7_waysHome 4 = .ok (.iconst 0, 1) := by decide +kernel
theorem dX7_waysHome_5 : decode cX7_waysHome 5 = .ok (.invokestatic 264, 3) := by decide +kernel
theorem dX7_waysHome_8 : decode cX7_waysHome 8 = .ok (.aload_n 0, 1) := by decide +kernel
theorem dX7_waysHome_9 : decode cX7_waysHome 9 = .ok (.getfield 78, 3) := by decide +kernel
theorem dX7_waysHome_12 : decode cX7_waysHome 12 = .ok (.iconst 0, 1) := by decide +kernel
theorem dX7_waysHome_13 : decode cX7_waysHome 13 = .ok (.iconst 1, 1) := by decide +kernel
theorem dX7_waysHome_14 : decode cX7_waysHome 14 = .ok (.iastore, 1) := by decide +kernel
theorem dX7_waysHome_15 : decode cX7_waysHome 15 = .ok (.iconst 1, 1) := by decide +kernel
theorem dX7_waysHome_16 : decode cX7_waysHome 16 = .ok (.istore_n 3, 1) := by decide +kernel
theorem dX7_waysHome_17 : decode cX7_waysHome 17 = .ok (.iload_n 3, 1) := by decide +kernel
theorem dX7_waysHome_18 : decode cX7_waysHome 18 = .ok (.iload_n 2, 1) := by decide +kernel
theorem dX7_waysHome_19 : decode cX7_waysHome 19 = .ok (.if_icmp .gt 43, 3) := by decide +kernel
theorem dX7_waysHome_22 : decode cX7_waysHome 22 = .ok (.iload_n 3, 1) := by decide +kernel
theorem dX7_waysHome_23 : decode cX7_waysHome 23 = .ok (.istore 4, 2) := by decide +kernel
theorem dX7_waysHome_25 : decode cX7_waysHome 25 = .ok (.iload 4, 2) := by decide +kernel
theorem dX7_waysHome_27 : decode cX7_waysHome 27 = .ok (.iload_n 1, 1) := by decide +kernel
theorem dX7_waysHome_28 : decode cX7_waysHome 28 = .ok (.if_icmp .gt 28, 3) := by decide +kernel
theorem dX7_waysHome_31 : decode cX7_waysHome 31 = .ok (.aload_n 0, 1) := by decide +kernel
theorem dX7_waysHome_32 : decode cX7_waysHome 32 = .ok (.getfield 78, 3) := by decide +kernel
theorem dX7_waysHome_35 : decode cX7_waysHome 35 = .ok (.iload 4, 2) := by decide +kernel
theorem dX7_waysHome_37 : decode cX7_waysHome 37 = .ok (.dup2, 1) := by decide +kernel
theorem dX7_waysHome_38 : decode cX7_waysHome 38 = .ok (.iaload, 1) := by decide +kernel
theorem dX7_waysHome_39 : decode cX7_waysHome 39 = .ok (.aload_n 0, 1) := by decide +kernel
theorem dX7_waysHome_40 : decode cX7_waysHome 40 = .ok (.getfield 78, 3) := by decide +kernel
theorem dX7_waysHome_43 : decode cX7_waysHome 43 = .ok (.iload 4, 2) := by decide +kernel
theorem dX7_waysHome_45 : decode cX7_waysHome 45 = .ok (.iload_n 3, 1) := by decide +kernel
theorem dX7_waysHome_46 : decode cX7_waysHome 46 = .ok (.isub, 1) := by decide +kernel
theorem dX7_waysHome_47 : decode cX7_waysHome 47 = .ok (.iaload, 1) := by decide +kernel
theorem dX7_waysHome_48 : decode cX7_waysHome 48 = .ok (.iadd, 1) := by decide +kernel
theorem dX7_waysHome_49 : decode cX7_waysHome 49 = .ok (.iastore, 1) := by decide +kernel
theorem dX7_waysHome_50 : decode cX7_waysHome 50 = .ok (.iinc 4 1, 3) := by decide +kernel
theorem dX7_waysHome_53 : decode cX7_waysHome 53 = .ok (.goto (-28), 3) := by decide +kernel
theorem dX7_waysHome_56 : decode cX7_waysHome 56 = .ok (.iinc 3 2, 3) := by decide +kernel
theorem dX7_waysHome_59 : decode cX7_waysHome 59 = .ok (.goto (-42), 3) := by decide +kernel
theorem dX7_waysHome_62 : decode cX7_waysHome 62 = .ok (.aload_n 0, 1) := by decide +kernel
theorem dX7_waysHome_63 : decode cX7_waysHome 63 = .ok (.getfield 78, 3) := by decide +kernel
theorem dX7_waysHome_66 : decode cX7_waysHome 66 = .ok (.iload_n 1, 1) := by decide +kernel
theorem dX7_waysHome_67 : decode cX7_waysHome 67 = .ok (.iaload, 1) := by decide +kernel
theorem dX7_waysHome_68 : decode cX7_waysHome 68 = .ok (.ireturn, 1) := by decide +kernel
theorem dX7_fewestHome_0 : decode cX7_fewestHome 0 = .ok (.iload_n 1, 1) := by decide +kernel
theorem dX7_fewestHome_1 : decode cX7_fewestHome 1 = .ok (.iconst 2, 1) := by decide +kernel
theorem dX7_fewestHome_2 : decode cX7_fewestHome 2 = .ok (.irem, 1) := by decide +kernel
theorem dX7_fewestHome_3 : decode cX7_fewestHome 3 = .ok (.ifCond .ne 9, 3) := by decide +kernel
theorem dX7_fewestHome_6 : decode cX7_fewestHome 6 = .ok (.iload_n 1, 1) := by decide +kernel
theorem dX7_fewestHome_7 : decode cX7_fewestHome 7 = .ok (.iconst 1, 1) := by decide +kernel
theorem dX7_fewestHome_8 : decode cX7_fewestHome 8 = .ok (.isub, 1) := by decide +kernel
theorem dX7_fewestHome_9 : decode cX7_fewestHome 9 = .ok (.goto 4, 3) := by decide +kernel
theorem dX7_fewestHome_12 : decode cX7_fewestHome 12 = .ok (.iload_n 1, 1) := by decide +kernel
theorem dX7_fewestHome_13 : decode cX7_fewestHome 13 = .ok (.istore_n 2, 1) := by decide +kernel
theorem dX7_fewestHome_14 : decode cX7_fewestHome 14 = .ok (.iconst 0, 1) := by decide +kernel
theorem dX7_fewestHome_15 : decode cX7_fewestHome 15 = .ok (.istore_n 3, 1) := by decide +kernel
theorem dX7_fewestHome_16 : decode cX7_fewestHome 16 = .ok (.iload_n 3, 1) := by decide +kernel
theorem dX7_fewestHome_17 : decode cX7_fewestHome 17 = .ok (.iload_n 0, 1) := by decide +kernel
theorem dX7_fewestHome_18 : decode cX7_fewestHome 18 = .ok (.if_icmp .gt 26, 3) := by decide +kernel
theorem dX7_fewestHome_21 : decode cX7_fewestHome 21 = .ok (.iload_n 3, 1) := by decide +kernel
theorem dX7_fewestHome_22 : decode cX7_fewestHome 22 = .ok (.iload_n 2, 1) := by decide +kernel
theorem dX7_fewestHome_23 : decode cX7_fewestHome 23 = .ok (.imul, 1) := by decide +kernel
theorem dX7_fewestHome_24 : decode cX7_fewestHome 24 = .ok (.iload_n 0, 1) := by decide +kernel
theorem dX7_fewestHome_25 : decode cX7_fewestHome 25 = .ok (.if_icmp .lt 13, 3) := by decide +kernel
theorem dX7_fewestHome_28 : decode cX7_fewestHome 28 = .ok (.iload_n 0, 1) := by decide +kernel
theorem dX7_fewestHome_29 : decode cX7_fewestHome 29 = .ok (.iload_n 3, 1) := by decide +kernel
theorem dX7_fewestHome_30 : decode cX7_fewestHome 30 = .ok (.isub, 1) := by decide +kernel
theorem dX7_fewestHome_31 : decode cX7_fewestHome 31 = .ok (.iconst 2, 1) := by decide +kernel
theorem dX7_fewestHome_32 : decode cX7_fewestHome 32 = .ok (.irem, 1) := by decide +kernel
theorem dX7_fewestHome_33 : decode cX7_fewestHome 33 = .ok (.ifCond .ne 5, 3) := by decide +kernel
theorem dX7_fewestHome_36 : decode cX7_fewestHome 36 = .ok (.iload_n 3, 1) := by decide +kernel
theorem dX7_fewestHome_37 : decode cX7_fewestHome 37 = .ok (.ireturn, 1) := by decide +kernel
theorem dX7_fewestHome_38 : decode cX7_fewestHome 38 = .ok (.iinc 3 1, 3) := by decide +kernel
theorem dX7_fewestHome_41 : decode cX7_fewestHome 41 = .ok (.goto (-25), 3) := by decide +kernel
theorem dX7_fewestHome_44 : decode cX7_fewestHome 44 = .ok (.iconst (-1), 1) := by decide +kernel
theorem dX7_fewestHome_45 : decode cX7_fewestHome 45 = .ok (.ireturn, 1) := by decide +kernel
theorem dX8_init_0 : decode cX8_init 0 = .ok (.aload_n 0, 1) := by decide +kernel
theorem dX8_init_1 : decode cX8_init 1 = .ok (.invokespecial 1, 3) := by decide +kernel
theorem dX8_init_4 : decode cX8_init 4 = .ok (.aload_n 0, 1) := by decide +kernel
theorem dX8_init_5 : decode cX8_init 5 = .ok (.bipush 101, 2) := by decide +kernel
theorem dX8_init_7 : decode cX8_init 7 = .ok (.newarray .int, 2) := by decide +kernel
theorem dX8_init_9 : decode cX8_init 9 = .ok (.putfield 7, 3) := by decide +kernel
theorem dX8_init_12 : decode cX8_init 12 = .ok (.aload_n 0, 1) := by decide +kernel
theorem dX8_init_13 : decode cX8_init 13 = .ok (.sipush 202, 3) := by decide +kernel
theorem dX8_init_16 : decode cX8_init 16 = .ok (.newarray .int, 2) := by decide +kernel
theorem dX8_init_18 : decode cX8_init 18 = .ok (.putfield 13, 3) := by decide +kernel
theorem dX8_init_21 : decode cX8_init 21 = .ok (.aload_n 0, 1) := by decide +kernel
theorem dX8_init_22 : decode cX8_init 22 = .ok (.iconst 2, 1) := by decide +kernel
theorem dX8_init_23 : decode cX8_init 23 = .ok (.newarray .boolean, 2) := by decide +kernel
theorem dX8_init_25 : decode cX8_init 25 = .ok (.putfield 16, 3) := by decide +kernel
theorem dX8_init_28 : decode cX8_init 28 = .ok (.aload_n 0, 1) := by decide +kernel
theorem dX8_init_29 : decode cX8_init 29 = .ok (.iconst 3, 1) := by decide +kernel
theorem dX8_init_30 : decode cX8_init 30 = .ok (.newarray .int, 2) := by decide +kernel
theorem dX8_init_32 : decode cX8_init 32 = .ok (.putfield 20, 3) := by decide +kernel
theorem dX8_init_35 : decode cX8_init 35 = .ok (.aload_n 0, 1) := by decide +kernel
theorem dX8_init_36 : decode cX8_init 36 = .ok (.lconst 1, 1) := by decide +kernel
theorem dX8_init_37 : decode cX8_init 37 = .ok (.putfield 23, 3) := by decide +kernel
theorem dX8_init_40 : decode cX8_init 40 = .ok (.aload_n 0, 1) := by decide +kernel
theorem dX8_init_41 : decode cX8_init 41 = .ok (.bipush 64, 2) := by decide +kernel
theorem dX8_init_43 : decode cX8_init 43 = .ok (.newarray .long, 2) := by decide +kernel
theorem dX8_init_45 : decode cX8_init 45 = .ok (.putfield 27, 3) := by decide +kernel
theorem dX8_init_48 : decode cX8_init 48 = .ok (.aload_n 0, 1) := by decide +kernel
theorem dX8_init_49 : decode cX8_init 49 = .ok (.sipush 128, 3) := by decide +kernel
theorem dX8_init_52 : decode cX8_init 52 = .ok (.newarray .int, 2) := by decide +kernel
theorem dX8_init_54 : decode cX8_init 54 = .ok (.putfield 31, 3) := by decide +kernel
theorem dX8_init_57 : decode cX8_init 57 = .ok (.aload_n 0, 1) := by decide +kernel
theorem dX8_init_58 : decode cX8_init 58 = .ok (.bipush 6, 2) := by decide +kernel
theorem dX8_init_60 : decode cX8_init 60 = .ok (.newarray .long, 2) := by decide +kernel
theorem dX8_init_62 : decode cX8_init 62 = .ok (.putfield 34, 3) := by decide +kernel
theorem dX8_init_65 : decode cX8_init 65 = .ok (.aload_n 0, 1) := by decide +kernel
theorem dX8_init_66 : decode cX8_init 66 = .ok (.bipush 8, 2) := by decide +kernel
theorem dX8_init_68 : decode cX8_init 68 = .ok (.newarray .int, 2) := by decide +kernel
theorem dX8_init_70 : decode cX8_init 70 = .ok (.putfield 37, 3) := by decide +kernel
theorem dX8_init_73 : decode cX8_init 73 = .ok (.aload_n 0, 1) := by decide +kernel
theorem dX8_init_74 : decode cX8_init 74 = .ok (.bipush 8, 2) := by decide +kernel
theorem dX8_init_76 : decode cX8_init 76 = .ok (.newarray .int, 2) := by decide +kernel
theorem dX8_init_78 : decode cX8_init 78 = .ok (.putfield 40, 3) := by decide +kernel
theorem dX8_init_81 : decode cX8_init 81 = .ok (.aload_n 0, 1) := by decide +kernel
theorem dX8_init_82 : decode cX8_init 82 = .ok (.sipush 200, 3) := by decide +kernel
theorem dX8_init_85 : decode cX8_init 85 = .ok (.newarray .int, 2) := by decide +kernel
theorem dX8_init_87 : decode cX8_init 87 = .ok (.putfield 43, 3) := by decide +kernel
theorem dX8_init_90 : decode cX8_init 90 = .ok (.aload_n 0, 1) := by decide +kernel
theorem dX8_init_91 : decode cX8_init 91 = .ok (.sipush 256, 3) := by decide +kernel
theorem dX8_init_94 : decode cX8_init 94 = .ok (.newarray .int, 2) := by decide +kernel
theorem dX8_init_96 : decode cX8_init 96 = .ok (.putfield 46, 3) := by decide +kernel
theorem dX8_init_99 : decode cX8_init 99 = .ok (.aload_n 0, 1) := by decide +kernel
theorem dX8_init_100 : decode cX8_init 100 = .ok (.sipush 256, 3) := by decide +kernel
theorem dX8_init_103 : decode cX8_init 103 = .ok (.newarray .int, 2) := by decide +kernel
theorem dX8_init_105 : decode cX8_init 105 = .ok (.putfield 49, 3) := by decide +kernel
theorem dX8_init_108 : decode cX8_init 108 = .ok (.aload_n 0, 1) := by decide +kernel
theorem dX8_init_109 : decode cX8_init 109 = .ok (.sipush 256, 3) := by decide +kernel
theorem dX8_init_112 : decode cX8_init 112 = .ok (.newarray .int, 2) := by decide +kernel
theorem dX8_init_114 : decode cX8_init 114 = .ok (.putfield 52, 3) := by decide +kernel
theorem dX8_init_117 : decode cX8_init 117 = .ok (.aload_n 0, 1) := by decide +kernel
theorem dX8_init_118 : decode cX8_init 118 = .ok (.sipush 256, 3) := by decide +kernel
theorem dX8_init_121 : decode cX8_init 121 = .ok (.newarray .int, 2) := by decide +kernel
theorem dX8_init_123 : decode cX8_init 123 = .ok (.putfield 55, 3) := by decide +kernel
theorem dX8_init_126 : decode cX8_init 126 = .ok (.aload_n 0, 1) := by decide +kernel
theorem dX8_init_127 : decode cX8_init 127 = .ok (.bipush 8, 2) := by decide +kernel
theorem dX8_init_129 : decode cX8_init 129 = .ok (.newarray .int, 2) := by decide +kernel
theorem dX8_init_131 : decode cX8_init 131 = .ok (.putfield 58, 3) := by decide +kernel
theorem dX8_init_134 : decode cX8_init 134 = .ok (.aload_n 0, 1) := by decide +kernel
theorem dX8_init_135 : decode cX8_init 135 = .ok (.bipush 40, 2) := by decide +kernel
theorem dX8_init_137 : decode cX8_init 137 = .ok (.newarray .int, 2) := by decide +kernel
theorem dX8_init_139 : decode cX8_init 139 = .ok (.putfield 61, 3) := by decide +kernel
theorem dX8_init_142 : decode cX8_init 142 = .ok (.aload_n 0, 1) := by decide +kernel
theorem dX8_init_143 : decode cX8_init 143 = .ok (.bipush 40, 2) := by decide +kernel
theorem dX8_init_145 : decode cX8_init 145 = .ok (.newarray .int, 2) := by decide +kernel
theorem dX8_init_147 : decode cX8_init 147 = .ok (.putfield 64, 3) := by decide +kernel
theorem dX8_init_150 : decode cX8_init 150 = .ok (.aload_n 0, 1) := by decide +kernel
theorem dX8_init_151 : decode cX8_init 151 = .ok (.getfield 7, 3) := by decide +kernel
theorem dX8_init_154 : decode cX8_init 154 = .ok (.bipush 33, 2) := by decide +kernel
theorem dX8_init_156 : decode cX8_init 156 = .ok (.iconst 3, 1) := by decide +kernel
theorem dX8_init_157 : decode cX8_init 157 = .ok (.iastore, 1) := by decide +kernel
theorem dX8_init_158 : decode cX8_init 158 = .ok (.return_, 1) := by decide +kernel
theorem dX8_in_0 : decode cX8_in 0 = .ok (.lload_n 0, 1) := by decide +kernel
theorem dX8_in_1 : decode cX8_in 1 = .ok (.lload_n 2, 1) := by decide +kernel
theorem dX8_in_2 : decode cX8_in 2 = .ok (.lcmp, 1) := by decide +kernel
theorem dX8_in_3 : decode cX8_in 3 = .ok (.ifCond .lt 14, 3) := by decide +kernel
theorem dX8_in_6 : decode cX8_in 6 = .ok (.lload_n 0, 1) := by decide +kernel
theorem dX8_in_7 : decode cX8_in 7 = .ok (.lload 4, 2) := by decide +kernel
theorem dX8_in_9 : decode cX8_in 9 = .ok (.lcmp, 1) := by decide +kernel
theorem dX8_in_10 : decode cX8_in 10 = .ok (.ifCond .gt 7, 3) := by decide +kernel
theorem dX8_in_13 : decode cX8_in 13 = .ok (.iconst 1, 1) := by decide +kernel
theorem dX8_in_14 : decode cX8_in 14 = .ok (.goto 4, 3) := by decide +kernel
theorem dX8_in_17 : decode cX8_in 17 = .ok (.iconst 0, 1) := by decide +kernel
theorem dX8_in_18 : decode cX8_in 18 = .ok (.ireturn, 1) := by decide +kernel
theorem dX8_bad_0 : decode cX8_bad 0 = .ok (.aload_n 0, 1) := by decide +kernel
theorem dX8_bad_1 : decode cX8_bad 1 = .ok (.getfield 20, 3) := by decide +kernel
theorem dX8_bad_4 : decode cX8_bad 4 = .ok (.iconst 0, 1) := by decide +kernel
theorem dX8_bad_5 : decode cX8_bad 5 = .ok (.dup2, 1) := by decide +kernel
theorem dX8_bad_6 : decode cX8_bad 6 = .ok (.iaload, 1) := by decide +kernel
theorem dX8_bad_7 : decode cX8_bad 7 = .ok (.iconst 1, 1) := by decide +kernel
theorem dX8_bad_8 : decode cX8_bad 8 = .ok (.iadd, 1) := by decide +kernel
theorem dX8_bad_9 : decode cX8_bad 9 = .ok (.iastore, 1) := by decide +kernel
theorem dX8_bad_10 : decode cX8_bad 10 = .ok (.iload_n 1, 1) := by decide +kernel
theorem dX8_bad_11 : decode cX8_bad 11 = .ok (.ireturn, 1) := by decide +kernel
theorem dX8_no_0 : decode cX8_no 0 = .ok (.aload_n 0, 1) := by decide +kernel
theorem dX8_no_1 : decode cX8_no 1 = .ok (.getfield 20, 3) := by decide +kernel
theorem dX8_no_4 : decode cX8_no 4 = .ok (.iconst 1, 1) := by decide +kernel
theorem dX8_no_5 : decode cX8_no 5 = .ok (.dup2, 1) := by decide +kernel
theorem dX8_no_6 : decode cX8_no 6 = .ok (.iaload, 1) := by decide +kernel
theorem dX8_no_7 : decode cX8_no 7 = .ok (.iconst 1, 1) := by decide +kernel
theorem dX8_no_8 : decode cX8_no 8 = .ok (.iadd, 1) := by decide +kernel
theorem dX8_no_9 : decode cX8_no 9 = .ok (.iastore, 1) := by decide +kernel
theorem dX8_no_10 : decode cX8_no 10 = .ok (.bipush (-3), 2) := by decide +kernel
theorem dX8_no_12 : decode cX8_no 12 = .ok (.ireturn, 1) := by decide +kernel
theorem dX8_full_0 : decode cX8_full 0 = .ok (.aload_n 0, 1) := by decide +kernel
theorem dX8_full_1 : decode cX8_full 1 = .ok (.getfield 20, 3) := by decide +kernel
theorem dX8_full_4 : decode cX8_full 4 = .ok (.iconst 2, 1) := by decide +kernel
theorem dX8_full_5 : decode cX8_full 5 = .ok (.dup2, 1) := by decide +kernel
theorem dX8_full_6 : decode cX8_full 6 = .ok (.iaload, 1) := by decide +kernel
theorem dX8_full_7 : decode cX8_full 7 = .ok (.iconst 1, 1) := by decide +kernel
theorem dX8_full_8 : decode cX8_full 8 = .ok (.iadd, 1) := by decide +kernel
theorem dX8_full_9 : decode cX8_full 9 = .ok (.iastore, 1) := by decide +kernel
theorem dX8_full_10 : decode cX8_full 10 = .ok (.bipush (-4), 2) := by decide +kernel
theorem dX8_full_12 : decode cX8_full 12 = .ok (.ireturn, 1) := by decide +kernel
theorem dX8_tells_0 : decode cX8_tells 0 = .ok (.lload_n 1, 1) := by decide +kernel
theorem dX8_tells_1 : decode cX8_tells 1 = .ok (.lstore 5, 2) := by decide +kernel
theorem dX8_tells_3 : decode cX8_tells 3 = .ok (.lload_n 3, 1) := by decide +kernel
theorem dX8_tells_4 : decode cX8_tells 4 = .ok (.lstore 7, 2) := by decide +kernel
theorem dX8_tells_6 : decode cX8_tells 6 = .ok (.lload 7, 2) := by decide +kernel
theorem dX8_tells_8 : decode cX8_tells 8 = .ok (.lconst 0, 1) := by decide +kernel
theorem dX8_tells_9 : decode cX8_tells 9 = .ok (.lcmp, 1) := by decide +kernel
theorem dX8_tells_10 : decode cX8_tells 10 = .ok (.ifCond .eq 21, 3) := by decide +kernel
theorem dX8_tells_13 : decode cX8_tells 13 = .ok (.lload 5, 2) := by decide +kernel
theorem dX8_tells_15 : decode cX8_tells 15 = .ok (.lload 7, 2) := by decide +kernel
theorem dX8_tells_17 : decode cX8_tells 17 = .ok (.lrem, 1) := by decide +kernel
theorem dX8_tells_18 : decode cX8_tells 18 = .ok (.lstore 9, 2) := by decide +kernel
theorem dX8_tells_20 : decode cX8_tells 20 = .ok (.lload 7, 2) := by decide +kernel
theorem dX8_tells_22 : decode cX8_tells 22 = .ok (.lstore 5, 2) := by decide +kernel
theorem dX8_tells_24 : decode cX8_tells 24 = .ok (.lload 9, 2) := by decide +kernel
theorem dX8_tells_26 : decode cX8_tells 26 = .ok (.lstore 7, 2) := by decide +kernel
theorem dX8_tells_28 : decode cX8_tells 28 = .ok (.goto (-22), 3) := by decide +kernel
theorem dX8_tells_31 : decode cX8_tells 31 = .ok (.aload_n 0, 1) := by decide +kernel
theorem dX8_tells_32 : decode cX8_tells 32 = .ok (.lload_n 1, 1) := by decide +kernel
theorem dX8_tells_33 : decode cX8_tells 33 = .ok (.lload 5, 2) := by decide +kernel
theorem dX8_tells_35 : decode cX8_tells 35 = .ok (.ldiv, 1) := by decide +kernel
theorem dX8_tells_36 : decode cX8_tells 36 = .ok (.putfield 67, 3) := by decide +kernel
theorem dX8_tells_39 : decode cX8_tells 39 = .ok (.aload_n 0, 1) := by decide +kernel
theorem dX8_tells_40 : decode cX8_tells 40 = .ok (.lload_n 3, 1) := by decide +kernel
theorem dX8_tells_41 : decode cX8_tells 41 = .ok (.lload 5, 2) := by decide +kernel
theorem dX8_tells_43 : decode cX8_tells 43 = .ok (.ldiv, 1) := by decide +kernel
theorem dX8_tells_44 : decode cX8_tells 44 = .ok (.putfield 23, 3) := by decide +kernel
theorem dX8_tells_47 : decode cX8_tells 47 = .ok (.iconst 1, 1) := by decide +kernel
theorem dX8_tells_48 : decode cX8_tells 48 = .ok (.ireturn, 1) := by decide +kernel
theorem dX8_walkers_0 : decode cX8_walkers 0 = .ok (.aload_n 0, 1) := by decide +kernel
theorem dX8_walkers_1 : decode cX8_walkers 1 = .ok (.getfield 7, 3) := by decide +kernel
theorem dX8_walkers_4 : decode cX8_walkers 4 = .ok (.bipush 99, 2) := by decide +kernel
theorem dX8_walkers_6 : decode cX8_walkers 6 = .ok (.iaload, 1) := by decide +kernel
theorem dX8_walkers_7 : decode cX8_walkers 7 = .ok (.ireturn, 1) := by decide +kernel
theorem dX8_all_0 : decode cX8_all 0 = .ok (.iconst 1, 1) := by decide +kernel
theorem dX8_all_1 : decode cX8_all 1 = .ok (.aload_n 0, 1) := by decide +kernel
theorem dX8_all_2 : decode cX8_all 2 = .ok (.invokevirtual 70, 3) := by decide +kernel
theorem dX8_all_5 : decode cX8_all 5 = .ok (.ishl, 1) := by decide +kernel
theorem dX8_all_6 : decode cX8_all 6 = .ok (.iconst 1, 1) := by decide +kernel
theorem dX8_all_7 : decode cX8_all 7 = .ok (.isub, 1) := by decide +kernel
theorem dX8_all_8 : decode cX8_all 8 = .ok (.ireturn, 1) := by decide +kernel
theorem dX8_isWalker_0 : decode cX8_isWalker 0 = .ok (.iload_n 1, 1) := by decide +kernel
theorem dX8_isWalker_1 : decode cX8_isWalker 1 = .ok (.i2l, 1) := by decide +kernel
theorem dX8_isWalker_2 : decode cX8_isWalker 2 = .ok (.lconst 0, 1) := by decide +kernel
theorem dX8_isWalker_3 : decode cX8_isWalker 3 = .ok (.aload_n 0, 1) := by decide +kernel
theorem dX8_isWalker_4 : decode cX8_isWalker 4 = .ok (.invokevirtual 70, 3) := by decide +kernel
theorem dX8_isWalker_7 : decode cX8_isWalker 7 = .ok (.iconst 1, 1) := by decide +kernel
theorem dX8_isWalker_8 : decode cX8_isWalker 8 = .ok (.isub, 1) := by decide +kernel
theorem dX8_isWalker_9 : decode cX8_isWalker 9 = .ok (.i2l, 1) := by decide +kernel
theorem dX8_isWalker_10 : decode cX8_isWalker 10 = .ok (.invokestatic 74, 3) := by decide +kernel
theorem dX8_isWalker_13 : decode cX8_isWalker 13 = .ok (.ireturn, 1) := by decide +kernel
theorem dX8_isSet_0 : decode cX8_isSet 0 = .ok (.iload_n 1, 1) := by decide +kernel
theorem dX8_isSet_1 : decode cX8_isSet 1 = .ok (.i2l, 1) := by decide +kernel
theorem dX8_isSet_2 : decode cX8_isSet 2 = .ok (.lconst 0, 1) := by decide +kernel
theorem dX8_isSet_3 : decode cX8_isSet 3 = .ok (.aload_n 0, 1) := by decide +kernel
theorem dX8_isSet_4 : decode cX8_isSet 4 = .ok (.invokevirtual 78, 3) := by decide +kernel
theorem dX8_isSet_7 : decode cX8_isSet 7 = .ok (.i2l, 1) := by decide +kernel
theorem dX8_isSet_8 : decode cX8_isSet 8 = .ok (.invokestatic 74, 3) := by decide +kernel
theorem dX8_isSet_11 : decode cX8_isSet 11 = .ok (.ireturn, 1) := by decide +kernel
theorem dX8_of_0 : decode cX8_of 0 = .ok (.aload_n 0, 1) := by decide +kernel
theorem dX8_of_1 : decode cX8_of 1 = .ok (.getfield 7, 3) := by decide +kernel
theorem dX8_of_4 : decode cX8_of 4 = .ok (.iconst 0, 1) := by decide +kernel
theorem dX8_of_5 : decode cX8_of 5 = .ok (.iconst 4, 1) := by decide +kernel
theorem dX8_of_6 : decode cX8_of 6 = .ok (.iload_n 1, 1) := by decide +kernel
theorem dX8_of_7 : decode cX8_of 7 = .ok (.imul, 1) := by decide +kernel
theorem dX8_of_8 : decode cX8_of 8 = .ok (.iadd, 1) := by decide +kernel
theorem dX8_of_9 : decode cX8_of 9 = .ok (.iload_n 2, 1) := by decide +kernel
theorem dX8_of_10 : decode cX8_of 10 = .ok (.iadd, 1) := by decide +kernel
theorem dX8_of_11 : decode cX8_of 11 = .ok (.iaload, 1) := by decide +kernel
theorem dX8_of_12 : decode cX8_of 12 = .ok (.ireturn, 1) := by decide +kernel
theorem dX8_walker_0 : decode cX8_walker 0 = .ok (.iload_n 1, 1) := by decide +kernel
theorem dX8_walker_1 : decode cX8_walker 1 = .ok (.i2l, 1) := by decide +kernel
theorem dX8_walker_2 : decode cX8_walker 2 = .ok (.lconst 0, 1) := by decide +kernel
theorem dX8_walker_3 : decode cX8_walker 3 = .ok (.ldc2_w 81, 3) := by decide +kernel
theorem dX8_walker_6 : decode cX8_walker 6 = .ok (.invokestatic 74, 3) := by decide +kernel
theorem dX8_walker_9 : decode cX8_walker 9 = .ok (.ifCond .eq 27, 3) := by decide +kernel
theorem dX8_walker_12 : decode cX8_walker 12 = .ok (.iload_n 2, 1) := by decide +kernel
theorem dX8_walker_13 : decode cX8_walker 13 = .ok (.i2l, 1) := by decide +kernel
theorem dX8_walker_14 : decode cX8_walker 14 = .ok (.lconst 1, 1) := by decide +kernel
theorem dX8_walker_15 : decode cX8_walker 15 = .ok (.ldc2_w 83, 3) := by decide +kernel
theorem dX8_walker_18 : decode cX8_walker 18 = .ok (.invokestatic 74, 3) := by decide +kernel
theorem dX8_walker_21 : decode cX8_walker 21 = .ok (.ifCond .eq 15, 3) := by decide +kernel
theorem dX8_walker_24 : decode cX8_walker 24 = .ok (.iload_n 3, 1) := by decide +kernel
theorem dX8_walker_25 : decode cX8_walker 25 = .ok (.i2l, 1) := by decide +kernel
theorem dX8_walker_26 : decode cX8_walker 26 = .ok (.lconst 0, 1) := by decide +kernel
theorem dX8_walker_27 : decode cX8_walker 27 = .ok (.ldc2_w 85, 3) := by decide +kernel
theorem dX8_walker_30 : decode cX8_walker 30 = .ok (.invokestatic 74, 3) := by decide +kernel
theorem dX8_walker_33 : decode cX8_walker 33 = .ok (.ifCond .ne 10, 3) := by decide +kernel
theorem dX8_walker_36 : decode cX8_walker 36 = .ok (.aload_n 0, 1) := by decide +kernel
theorem dX8_walker_37 : decode cX8_walker 37 = .ok (.bipush (-2), 2) := by decide +kernel
theorem dX8_walker_39 : decode cX8_walker 39 = .ok (.invokevirtual 87, 3) := by decide +kernel
theorem dX8_walker_42 : decode cX8_walker 42 = .ok (.ireturn, 1) := by decide +kernel
theorem dX8_walker_43 : decode cX8_walker 43 = .ok (.aload_n 0, 1) := by decide +kernel
theorem dX8_walker_44 : decode cX8_walker 44 = .ok (.invokevirtual 70, 3) := by decide +kernel
theorem dX8_walker_47 : decode cX8_walker 47 = .ok (.istore 4, 2) := by decide +kernel
theorem dX8_walker_49 : decode cX8_walker 49 = .ok (.iload 4, 2) := by decide +kernel
theorem dX8_walker_51 : decode cX8_walker 51 = .ok (.bipush 8, 2) := by decide +kernel
theorem dX8_walker_53 : decode cX8_walker 53 = .ok (.if_icmp .ne 8, 3) := by decide +kernel
theorem dX8_walker_56 : decode cX8_walker 56 = .ok (.aload_n 0, 1) := by decide +kernel
theorem dX8_walker_57 : decode cX8_walker 57 = .ok (.invokevirtual 91, 3) := by decide +kernel
theorem dX8_walker_60 : decode cX8_walker 60 = .ok (.ireturn, 1) := by decide +kernel
theorem dX8_walker_61 : decode cX8_walker 61 = .ok (.aload_n 0, 1) := by decide +kernel
theorem dX8_walker_62 : decode cX8_walker 62 = .ok (.getfield 7, 3) := by decide +kernel
theorem dX8_walker_65 : decode cX8_walker 65 = .ok (.iconst 0, 1) := by decide +kernel
theorem dX8_walker_66 : decode cX8_walker 66 = .ok (.iconst 4, 1) := by decide +kernel
theorem dX8_walker_67 : decode cX8_walker 67 = .ok (.iload 4, 2) := by decide +kernel
theorem dX8_walker_69 : decode cX8_walker 69 = .ok (.imul, 1) := by decide +kernel
theorem dX8_walker_70 : decode cX8_walker 70 = .ok (.iadd, 1) := by decide +kernel
theorem dX8_walker_71 : decode cX8_walker 71 = .ok (.iload_n 1, 1) := by decide +kernel
theorem dX8_walker_72 : decode cX8_walker 72 = .ok (.iastore, 1) := by decide +kernel
theorem dX8_walker_73 : decode cX8_walker 73 = .ok (.aload_n 0, 1) := by decide +kernel
theorem dX8_walker_74 : decode cX8_walker 74 = .ok (.getfield 7, 3) := by decide +kernel
theorem dX8_walker_77 : decode cX8_walker 77 = .ok (.iconst 0, 1) := by decide +kernel
theorem dX8_walker_78 : decode cX8_walker 78 = .ok (.iconst 4, 1) := by decide +kernel
theorem dX8_walker_79 : decode cX8_walker 79 = .ok (.iload 4, 2) := by decide +kernel
theorem dX8_walker_81 : decode cX8_walker 81 = .ok (.imul, 1) := by decide +kernel
theorem dX8_walker_82 : decode cX8_walker 82 = .ok (.iadd, 1) := by decide +kernel
theorem dX8_walker_83 : decode cX8_walker 83 = .ok (.iconst 1, 1) := by decide +kernel
theorem dX8_walker_84 : decode cX8_walker 84 = .ok (.iadd, 1) := by decide +kernel
theorem dX8_walker_85 : decode cX8_walker 85 = .ok (.iload_n 2, 1) := by decide +kernel
theorem dX8_walker_86 : decode cX8_walker 86 = .ok (.iastore, 1) := by decide +kernel
theorem dX8_walker_87 : decode cX8_walker 87 = .ok (.aload_n 0, 1) := by decide +kernel
theorem dX8_walker_88 : decode cX8_walker 88 = .ok (.getfield 7, 3) := by decide +kernel
theorem dX8_walker_91 : decode cX8_walker 91 = .ok (.iconst 0, 1) := by decide +kernel
theorem dX8_walker_92 : decode cX8_walker 92 = .ok (.iconst 4, 1) := by decide +kernel
theorem dX8_walker_93 : decode cX8_walker 93 = .ok (.iload 4, 2) := by decide +kernel
theorem dX8_walker_95 : decode cX8_walker 95 = .ok (.imul, 1) := by decide +kernel
theorem dX8_walker_96 : decode cX8_walker 96 = .ok (.iadd, 1) := by decide +kernel
theorem dX8_walker_97 : decode cX8_walker 97 = .ok (.iconst 2, 1) := by decide +kernel
theorem dX8_walker_98 : decode cX8_walker 98 = .ok (.iadd, 1) := by decide +kernel
theorem dX8_walker_99 : decode cX8_walker 99 = .ok (.iload_n 3, 1) := by decide +kernel
theorem dX8_walker_100 : decode cX8_walker 100 = .ok (.iastore, 1) := by decide +kernel
theorem dX8_walker_101 : decode cX8_walker 101 = .ok (.aload_n 0, 1) := by decide +kernel
theorem dX8_walker_102 : decode cX8_walker 102 = .ok (.getfield 7, 3) := by decide +kernel
theorem dX8_walker_105 : decode cX8_walker 105 = .ok (.iconst 0, 1) := by decide +kernel
theorem dX8_walker_106 : decode cX8_walker 106 = .ok (.iconst 4, 1) := by decide +kernel
theorem dX8_walker_107 : decode cX8_walker 107 = .ok (.iload 4, 2) := by decide +kernel
theorem dX8_walker_109 : decode cX8_walker 109 = .ok (.imul, 1) := by decide +kernel
theorem dX8_walker_110 : decode cX8_walker 110 = .ok (.iadd, 1) := by decide +kernel
theorem dX8_walker_111 : decode cX8_walker 111 = .ok (.iconst 3, 1) := by decide +kernel
theorem dX8_walker_112 : decode cX8_walker 112 = .ok (.iadd, 1) := by decide +kernel
theorem dX8_walker_113 : decode cX8_walker 113 = .ok (.bipush 10, 2) := by decide +kernel
theorem dX8_walker_115 : decode cX8_walker 115 = .ok (.iastore, 1) := by decide +kernel
theorem dX8_walker_116 : decode cX8_walker 116 = .ok (.aload_n 0, 1) := by decide +kernel
theorem dX8_walker_117 : decode cX8_walker 117 = .ok (.getfield 7, 3) := by decide +kernel
theorem dX8_walker_120 : decode cX8_walker 120 = .ok (.bipush 99, 2) := by decide +kernel
theorem dX8_walker_122 : decode cX8_walker 122 = .ok (.dup2, 1) := by decide +kernel
theorem dX8_walker_123 : decode cX8_walker 123 = .ok (.iaload, 1) := by decide +kernel
theorem dX8_walker_124 : decode cX8_walker 124 = .ok (.iconst 1, 1) := by decide +kernel
theorem dX8_walker_125 : decode cX8_walker 125 = .ok (.iadd, 1) := by decide +kernel
theorem dX8_walker_126 : decode cX8_walker 126 = .ok (.iastore, 1) := by decide +kernel
theorem dX8_walker_127 : decode cX8_walker 127 = .ok (.iload 4, 2) := by decide +kernel
theorem dX8_walker_129 : decode cX8_walker 129 = .ok (.ireturn, 1) := by decide +kernel
theorem dX8_put_0 : decode cX8_put 0 = .ok (.iload_n 1, 1) := by decide +kernel
theorem dX8_put_1 : decode cX8_put 1 = .ok (.i2l, 1) := by decide +kernel
theorem dX8_put_2 : decode cX8_put 2 = .ok (.lconst 0, 1) := by decide +kernel
theorem dX8_put_3 : decode cX8_put 3 = .ok (.lconst 1, 1) := by decide +kernel
theorem dX8_put_4 : decode cX8_put 4 = .ok (.invokestatic 74, 3) := by decide +kernel
theorem dX8_put_7 : decode cX8_put 7 = .ok (.ifCond .eq 25, 3) := by decide +kernel
theorem dX8_put_10 : decode cX8_put 10 = .ok (.iload_n 2, 1) := by decide +kernel
theorem dX8_put_11 : decode cX8_put 11 = .ok (.i2l, 1) := by decide +kernel
theorem dX8_put_12 : decode cX8_put 12 = .ok (.lconst 0, 1) := by decide +kernel
theorem dX8_put_13 : decode cX8_put 13 = .ok (.iload_n 1, 1) := by decide +kernel
theorem dX8_put_14 : decode cX8_put 14 = .ok (.ifCond .ne 9, 3) := by decide +kernel
theorem dX8_put_17 : decode cX8_put 17 = .ok (.ldc2_w 94, 3) := by decide +kernel
theorem dX8_put_20 : decode cX8_put 20 = .ok (.goto 6, 3) := by decide +kernel
theorem dX8_put_23 : decode cX8_put 23 = .ok (.ldc2_w 85, 3) := by decide +kernel
theorem dX8_put_26 : decode cX8_put 26 = .ok (.invokestatic 74, 3) := by decide +kernel
theorem dX8_put_29 : decode cX8_put 29 = .ok (.ifCond .ne 10, 3) := by decide +kernel
theorem dX8_put_32 : decode cX8_put 32 = .ok (.aload_n 0, 1) := by decide +kernel
theorem dX8_put_33 : decode cX8_put 33 = .ok (.bipush (-2), 2) := by decide +kernel
theorem dX8_put_35 : decode cX8_put 35 = .ok (.invokevirtual 87, 3) := by decide +kernel
theorem dX8_put_38 : decode cX8_put 38 = .ok (.ireturn, 1) := by decide +kernel
theorem dX8_put_39 : decode cX8_put 39 = .ok (.aload_n 0, 1) := by decide +kernel
theorem dX8_put_40 : decode cX8_put 40 = .ok (.getfield 7, 3) := by decide +kernel
theorem dX8_put_43 : decode cX8_put 43 = .ok (.bipush 32, 2) := by decide +kernel
theorem dX8_put_45 : decode cX8_put 45 = .ok (.iload_n 1, 1) := by decide +kernel
theorem dX8_put_46 : decode cX8_put 46 = .ok (.iadd, 1) := by decide +kernel
theorem dX8_put_47 : decode cX8_put 47 = .ok (.iaload, 1) := by decide +kernel
theorem dX8_put_48 : decode cX8_put 48 = .ok (.istore_n 3, 1) := by decide +kernel
theorem dX8_put_49 : decode cX8_put 49 = .ok (.aload_n 0, 1) := by decide +kernel
theorem dX8_put_50 : decode cX8_put 50 = .ok (.getfield 7, 3) := by decide +kernel
theorem dX8_put_53 : decode cX8_put 53 = .ok (.bipush 32, 2) := by decide +kernel
theorem dX8_put_55 : decode cX8_put 55 = .ok (.iload_n 1, 1) := by decide +kernel
theorem dX8_put_56 : decode cX8_put 56 = .ok (.iadd, 1) := by decide +kernel
theorem dX8_put_57 : decode cX8_put 57 = .ok (.iload_n 2, 1) := by decide +kernel
theorem dX8_put_58 : decode cX8_put 58 = .ok (.iastore, 1) := by decide +kernel
theorem dX8_put_59 : decode cX8_put 59 = .ok (.iload_n 3, 1) := by decide +kernel
theorem dX8_put_60 : decode cX8_put 60 = .ok (.ireturn, 1) := by decide +kernel
theorem dX8_bringsOf_0 : decode cX8_bringsOf 0 = .ok (.iload_n 1, 1) := by decide +kernel
theorem dX8_bringsOf_1 : decode cX8_bringsOf 1 = .ok (.tableswitch 101 0 3 #[31, 42, 63, 84], 31) := by decide +kernel
theorem dX8_bringsOf_32 : decode cX8_bringsOf 32 = .ok (.iload_n 0, 1) := by decide +kernel
theorem dX8_bringsOf_33 : decode cX8_bringsOf 33 = .ok (.iconst 5, 1) := by decide +kernel
theorem dX8_bringsOf_34 : decode cX8_bringsOf 34 = .ok (.if_icmp .ne 7, 3) := by decide +kernel
theorem dX8_bringsOf_37 : decode cX8_bringsOf 37 = .ok (.iconst 0, 1) := by decide +kernel
theorem dX8_bringsOf_38 : decode cX8_bringsOf 38 = .ok (.goto 4, 3) := by decide +kernel
theorem dX8_bringsOf_41 : decode cX8_bringsOf 41 = .ok (.iconst 1, 1) := by decide +kernel
theorem dX8_bringsOf_42 : decode cX8_bringsOf 42 = .ok (.ireturn, 1) := by decide +kernel
theorem dX8_bringsOf_43 : decode cX8_bringsOf 43 = .ok (.iload_n 0, 1) := by decide +kernel
theorem dX8_bringsOf_44 : decode cX8_bringsOf 44 = .ok (.iconst 2, 1) := by decide +kernel
theorem dX8_bringsOf_45 : decode cX8_bringsOf 45 = .ok (.if_icmp .ne 7, 3) := by decide +kernel
theorem dX8_bringsOf_48 : decode cX8_bringsOf 48 = .ok (.iconst 2, 1) := by decide +kernel
theorem dX8_bringsOf_49 : decode cX8_bringsOf 49 = .ok (.goto 14, 3) := by decide +kernel
theorem dX8_bringsOf_52 : decode cX8_bringsOf 52 = .ok (.iload_n 0, 1) := by decide +kernel
theorem dX8_bringsOf_53 : decode cX8_bringsOf 53 = .ok (.bipush 7, 2) := by decide +kernel
theorem dX8_bringsOf_55 : decode cX8_bringsOf 55 = .ok (.if_icmp .ne 7, 3) := by decide +kernel
theorem dX8_bringsOf_58 : decode cX8_bringsOf 58 = .ok (.iconst 1, 1) := by decide +kernel
theorem dX8_bringsOf_59 : decode cX8_bringsOf 59 = .ok (.goto 4, 3) := by decide +kernel
theorem dX8_bringsOf_62 : decode cX8_bringsOf 62 = .ok (.iconst 0, 1) := by decide +kernel
theorem dX8_bringsOf_63 : decode cX8_bringsOf 63 = .ok (.ireturn, 1) := by decide +kernel
theorem dX8_bringsOf_64 : decode cX8_bringsOf 64 = .ok (.iload_n 0, 1) := by decide +kernel
theorem dX8_bringsOf_65 : decode cX8_bringsOf 65 = .ok (.iconst 1, 1) := by decide +kernel
theorem dX8_bringsOf_66 : decode cX8_bringsOf 66 = .ok (.if_icmp .ne 7, 3) := by decide +kernel
theorem dX8_bringsOf_69 : decode cX8_bringsOf 69 = .ok (.iconst 1, 1) := by decide +kernel
theorem dX8_bringsOf_70 : decode cX8_bringsOf 70 = .ok (.goto 14, 3) := by decide +kernel
theorem dX8_bringsOf_73 : decode cX8_bringsOf 73 = .ok (.iload_n 0, 1) := by decide +kernel
theorem dX8_bringsOf_74 : decode cX8_bringsOf 74 = .ok (.bipush 7, 2) := by decide +kernel
theorem dX8_bringsOf_76 : decode cX8_bringsOf 76 = .ok (.if_icmp .ne 7, 3) := by decide +kernel
theorem dX8_bringsOf_79 : decode cX8_bringsOf 79 = .ok (.iconst 2, 1) := by decide +kernel
theorem dX8_bringsOf_80 : decode cX8_bringsOf 80 = .ok (.goto 4, 3) := by decide +kernel
theorem dX8_bringsOf_83 : decode cX8_bringsOf 83 = .ok (.iconst 0, 1) := by decide +kernel
theorem dX8_bringsOf_84 : decode cX8_bringsOf 84 = .ok (.ireturn, 1) := by decide +kernel
theorem dX8_bringsOf_85 : decode cX8_bringsOf 85 = .ok (.iload_n 0, 1) := by decide +kernel
theorem dX8_bringsOf_86 : decode cX8_bringsOf 86 = .ok (.iconst 3, 1) := by decide +kernel
theorem dX8_bringsOf_87 : decode cX8_bringsOf 87 = .ok (.if_icmp .eq 9, 3) := by decide +kernel
theorem dX8_bringsOf_90 : decode cX8_bringsOf 90 = .ok (.iload_n 0, 1) := by decide +kernel
theorem dX8_bringsOf_91 : decode cX8_bringsOf 91 = .ok (.bipush 6, 2) := by decide +kernel
theorem dX8_bringsOf_93 : decode cX8_bringsOf 93 = .ok (.if_icmp .ne 7, 3) := by decide +kernel
theorem dX8_bringsOf_96 : decode cX8_bringsOf 96 = .ok (.iconst 1, 1) := by decide +kernel
theorem dX8_bringsOf_97 : decode cX8_bringsOf 97 = .ok (.goto 4, 3) := by decide +kernel
theorem dX8_bringsOf_100 : decode cX8_bringsOf 100 = .ok (.iconst 0, 1) := by decide +kernel
theorem dX8_bringsOf_101 : decode cX8_bringsOf 101 = .ok (.ireturn, 1) := by decide +kernel
theorem dX8_bringsOf_102 : decode cX8_bringsOf 102 = .ok (.iload_n 0, 1) := by decide +kernel
theorem dX8_bringsOf_103 : decode cX8_bringsOf 103 = .ok (.iconst 4, 1) := by decide +kernel
theorem dX8_bringsOf_104 : decode cX8_bringsOf 104 = .ok (.if_icmp .ne 7, 3) := by decide +kernel
theorem dX8_bringsOf_107 : decode cX8_bringsOf 107 = .ok (.iconst 1, 1) := by decide +kernel
theorem dX8_bringsOf_108 : decode cX8_bringsOf 108 = .ok (.goto 14, 3) := by decide +kernel
theorem dX8_bringsOf_111 : decode cX8_bringsOf 111 = .ok (.iload_n 0, 1) := by decide +kernel
theorem dX8_bringsOf_112 : decode cX8_bringsOf 112 = .ok (.bipush 6, 2) := by decide +kernel
theorem dX8_bringsOf_114 : decode cX8_bringsOf 114 = .ok (.if_icmp .ne 7, 3) := by decide +kernel
theorem dX8_bringsOf_117 : decode cX8_bringsOf 117 = .ok (.iconst 2, 1) := by decide +kernel
theorem dX8_bringsOf_118 : decode cX8_bringsOf 118 = .ok (.goto 4, 3) := by decide +kernel
theorem dX8_bringsOf_121 : decode cX8_bringsOf 121 = .ok (.iconst 0, 1) := by decide +kernel
theorem dX8_bringsOf_122 : decode cX8_bringsOf 122 = .ok (.ireturn, 1) := by decide +kernel
theorem dX8_broughtBy_0 : decode cX8_broughtBy 0 = .ok (.iconst 0, 1) := by decide +kernel
theorem dX8_broughtBy_1 : decode cX8_broughtBy 1 = .ok (.istore_n 3, 1) := by decide +kernel
theorem dX8_broughtBy_2 : decode cX8_broughtBy 2 = .ok (.iconst 0, 1) := by decide +kernel
theorem dX8_broughtBy_3 : decode cX8_broughtBy 3 = .ok (.istore 4, 2) := by decide +kernel
theorem dX8_broughtBy_5 : decode cX8_broughtBy 5 = .ok (.iload 4, 2) := by decide +kernel
theorem dX8_broughtBy_7 : decode cX8_broughtBy 7 = .ok (.aload_n 0, 1) := by decide +kernel
theorem dX8_broughtBy_8 : decode cX8_broughtBy 8 = .ok (.invokevirtual 70, 3) := by decide +kernel
theorem dX8_broughtBy_11 : decode cX8_broughtBy 11 = .ok (.if_icmp .ge 37, 3) := by decide +kernel
theorem dX8_broughtBy_14 : decode cX8_broughtBy 14 = .ok (.iload_n 3, 1) := by decide +kernel
theorem dX8_broughtBy_15 : decode cX8_broughtBy 15 = .ok (.iload_n 1, 1) := by decide +kernel
theorem dX8_broughtBy_16 : decode cX8_broughtBy 16 = .ok (.iload 4, 2) := by decide +kernel
theorem dX8_broughtBy_18 : decode cX8_broughtBy 18 = .ok (.ishr, 1) := by decide +kernel
theorem dX8_broughtBy_19 : decode cX8_broughtBy 19 = .ok (.iconst 1, 1) := by decide +kernel
theorem dX8_broughtBy_20 : decode cX8_broughtBy 20 = .ok (.iand, 1) := by decide +kernel
theorem dX8_broughtBy_21 : decode cX8_broughtBy 21 = .ok (.iconst 1, 1) := by decide +kernel
theorem dX8_broughtBy_22 : decode cX8_broughtBy 22 = .ok (.if_icmp .ne 17, 3) := by decide +kernel
theorem dX8_broughtBy_25 : decode cX8_broughtBy 25 = .ok (.aload_n 0, 1) := by decide +kernel
theorem dX8_broughtBy_26 : decode cX8_broughtBy 26 = .ok (.iload 4, 2) := by decide +kernel
theorem dX8_broughtBy_28 : decode cX8_broughtBy 28 = .ok (.iconst 0, 1) := by decide +kernel
theorem dX8_broughtBy_29 : decode cX8_broughtBy 29 = .ok (.invokevirtual 96, 3) := by decide +kernel
theorem dX8_broughtBy_32 : decode cX8_broughtBy 32 = .ok (.iload_n 2, 1) := by decide +kernel
theorem dX8_broughtBy_33 : decode cX8_broughtBy 33 = .ok (.invokestatic 100, 3) := by decide +kernel
theorem dX8_broughtBy_36 : decode cX8_broughtBy 36 = .ok (.goto 4, 3) := by decide +kernel
theorem dX8_broughtBy_39 : decode cX8_broughtBy 39 = .ok (.iconst 0, 1) := by decide +kernel
theorem dX8_broughtBy_40 : decode cX8_broughtBy 40 = .ok (.iadd, 1) := by decide +kernel
theorem dX8_broughtBy_41 : decode cX8_broughtBy 41 = .ok (.istore_n 3, 1) := by decide +kernel
theorem dX8_broughtBy_42 : decode cX8_broughtBy 42 = .ok (.iinc 4 1, 3) := by decide +kernel
theorem dX8_broughtBy_45 : decode cX8_broughtBy 45 = .ok (.goto (-40), 3) := by decide +kernel
theorem dX8_broughtBy_48 : decode cX8_broughtBy 48 = .ok (.iload_n 3, 1) := by decide +kernel
theorem dX8_broughtBy_49 : decode cX8_broughtBy 49 = .ok (.ireturn, 1) := by decide +kernel
theorem dX8_brings_0 : decode cX8_brings 0 = .ok (.aload_n 0, 1) := by decide +kernel
theorem dX8_brings_1 : decode cX8_brings 1 = .ok (.iload_n 1, 1) := by decide +kernel
theorem dX8_brings_2 : decode cX8_brings 2 = .ok (.invokevirtual 103, 3) := by decide +kernel
theorem dX8_brings_5 : decode cX8_brings 5 = .ok (.ifCond .eq 24, 3) := by decide +kernel
theorem dX8_brings_8 : decode cX8_brings 8 = .ok (.iload_n 2, 1) := by decide +kernel
theorem dX8_brings_9 : decode cX8_brings 9 = .ok (.i2l, 1) := by decide +kernel
theorem dX8_brings_10 : decode cX8_brings 10 = .ok (.lconst 0, 1) := by decide +kernel
theorem dX8_brings_11 : decode cX8_brings 11 = .ok (.ldc2_w 107, 3) := by decide +kernel
theorem dX8_brings_14 : decode cX8_brings 14 = .ok (.invokestatic 74, 3) := by decide +kernel
theorem dX8_brings_17 : decode cX8_brings 17 = .ok (.ifCond .eq 12, 3) := by decide +kernel
theorem dX8_brings_20 : decode cX8_brings 20 = .ok (.aload_n 0, 1) := by decide +kernel
theorem dX8_brings_21 : decode cX8_brings 21 = .ok (.iload_n 1, 1) := by decide +kernel
theorem dX8_brings_22 : decode cX8_brings 22 = .ok (.iload_n 2, 1) := by decide +kernel
theorem dX8_brings_23 : decode cX8_brings 23 = .ok (.invokevirtual 109, 3) := by decide +kernel
theorem dX8_brings_26 : decode cX8_brings 26 = .ok (.goto 9, 3) := by decide +kernel
theorem dX8_brings_29 : decode cX8_brings 29 = .ok (.aload_n 0, 1) := by decide +kernel
theorem dX8_brings_30 : decode cX8_brings 30 = .ok (.bipush (-2), 2) := by decide +kernel
theorem dX8_brings_32 : decode cX8_brings 32 = .ok (.invokevirtual 87, 3) := by decide +kernel
theorem dX8_brings_35 : decode cX8_brings 35 = .ok (.ireturn, 1) := by decide +kernel
theorem dX8_write_0 : decode cX8_write 0 = .ok (.iload_n 1, 1) := by decide +kernel
theorem dX8_write_1 : decode cX8_write 1 = .ok (.i2l, 1) := by decide +kernel
theorem dX8_write_2 : decode cX8_write 2 = .ok (.lconst 0, 1) := by decide +kernel
theorem dX8_write_3 : decode cX8_write 3 = .ok (.ldc2_w 112, 3) := by decide +kernel
theorem dX8_write_6 : decode cX8_write 6 = .ok (.invokestatic 74, 3) := by decide +kernel
theorem dX8_write_9 : decode cX8_write 9 = .ok (.ifCond .ne 10, 3) := by decide +kernel
theorem dX8_write_12 : decode cX8_write 12 = .ok (.aload_n 0, 1) := by decide +kernel
theorem dX8_write_13 : decode cX8_write 13 = .ok (.bipush (-2), 2) := by decide +kernel
theorem dX8_write_15 : decode cX8_write 15 = .ok (.invokevirtual 87, 3) := by decide +kernel
theorem dX8_write_18 : decode cX8_write 18 = .ok (.ireturn, 1) := by decide +kernel
theorem dX8_write_19 : decode cX8_write 19 = .ok (.aload_n 0, 1) := by decide +kernel
theorem dX8_write_20 : decode cX8_write 20 = .ok (.getfield 7, 3) := by decide +kernel
theorem dX8_write_23 : decode cX8_write 23 = .ok (.bipush 34, 2) := by decide +kernel
theorem dX8_write_25 : decode cX8_write 25 = .ok (.iaload, 1) := by decide +kernel
theorem dX8_write_26 : decode cX8_write 26 = .ok (.bipush 40, 2) := by decide +kernel
theorem dX8_write_28 : decode cX8_write 28 = .ok (.if_icmp .ne 8, 3) := by decide +kernel
theorem dX8_write_31 : decode cX8_write 31 = .ok (.aload_n 0, 1) := by decide +kernel
theorem dX8_write_32 : decode cX8_write 32 = .ok (.invokevirtual 91, 3) := by decide +kernel
theorem dX8_write_35 : decode cX8_write 35 = .ok (.ireturn, 1) := by decide +kernel
theorem dX8_write_36 : decode cX8_write 36 = .ok (.aload_n 0, 1) := by decide +kernel
theorem dX8_write_37 : decode cX8_write 37 = .ok (.getfield 7, 3) := by decide +kernel
theorem dX8_write_40 : decode cX8_write 40 = .ok (.bipush 35, 2) := by decide +kernel
theorem dX8_write_42 : decode cX8_write 42 = .ok (.aload_n 0, 1) := by decide +kernel
theorem dX8_write_43 : decode cX8_write 43 = .ok (.getfield 7, 3) := by decide +kernel
theorem dX8_write_46 : decode cX8_write 46 = .ok (.bipush 34, 2) := by decide +kernel
theorem dX8_write_48 : decode cX8_write 48 = .ok (.iaload, 1) := by decide +kernel
theorem dX8_write_49 : decode cX8_write 49 = .ok (.iadd, 1) := by decide +kernel
theorem dX8_write_50 : decode cX8_write 50 = .ok (.iload_n 1, 1) := by decide +kernel
theorem dX8_write_51 : decode cX8_write 51 = .ok (.iastore, 1) := by decide +kernel
theorem dX8_write_52 : decode cX8_write 52 = .ok (.aload_n 0, 1) := by decide +kernel
theorem dX8_write_53 : decode cX8_write 53 = .ok (.getfield 7, 3) := by decide +kernel
theorem dX8_write_56 : decode cX8_write 56 = .ok (.bipush 34, 2) := by decide +kernel
theorem dX8_write_58 : decode cX8_write 58 = .ok (.dup2, 1) := by decide +kernel
theorem dX8_write_59 : decode cX8_write 59 = .ok (.iaload, 1) := by decide +kernel
theorem dX8_write_60 : decode cX8_write 60 = .ok (.iconst 1, 1) := by decide +kernel
theorem dX8_write_61 : decode cX8_write 61 = .ok (.iadd, 1) := by decide +kernel
theorem dX8_write_62 : decode cX8_write 62 = .ok (.iastore, 1) := by decide +kernel
theorem dX8_write_63 : decode cX8_write 63 = .ok (.aload_n 0, 1) := by decide +kernel
theorem dX8_write_64 : decode cX8_write 64 = .ok (.getfield 7, 3) := by decide +kernel
theorem dX8_write_67 : decode cX8_write 67 = .ok (.bipush 34, 2) := by decide +kernel
theorem dX8_write_69 : decode cX8_write 69 = .ok (.iaload, 1) := by decide +kernel
theorem dX8_write_70 : decode cX8_write 70 = .ok (.ireturn, 1) := by decide +kernel
theorem dX8_erase_0 : decode cX8_erase 0 = .ok (.aload_n 0, 1) := by decide +kernel
theorem dX8_erase_1 : decode cX8_erase 1 = .ok (.getfield 7, 3) := by decide +kernel
theorem dX8_erase_4 : decode cX8_erase 4 = .ok (.bipush 34, 2) := by decide +kernel
theorem dX8_erase_6 : decode cX8_erase 6 = .ok (.iaload, 1) := by decide +kernel
theorem dX8_erase_7 : decode cX8_erase 7 = .ok (.istore_n 1, 1) := by decide +kernel
theorem dX8_erase_8 : decode cX8_erase 8 = .ok (.aload_n 0, 1) := by decide +kernel
theorem dX8_erase_9 : decode cX8_erase 9 = .ok (.getfield 7, 3) := by decide +kernel
theorem dX8_erase_12 : decode cX8_erase 12 = .ok (.bipush 34, 2) := by decide +kernel
theorem dX8_erase_14 : decode cX8_erase 14 = .ok (.iconst 0, 1) := by decide +kernel
theorem dX8_erase_15 : decode cX8_erase 15 = .ok (.iastore, 1) := by decide +kernel
theorem dX8_erase_16 : decode cX8_erase 16 = .ok (.iload_n 1, 1) := by decide +kernel
theorem dX8_erase_17 : decode cX8_erase 17 = .ok (.ireturn, 1) := by decide +kernel
theorem dX8_textLong_0 : decode cX8_textLong 0 = .ok (.aload_n 0, 1) := by decide +kernel
theorem dX8_textLong_1 : decode cX8_textLong 1 = .ok (.getfield 7, 3) := by decide +kernel
theorem dX8_textLong_4 : decode cX8_textLong 4 = .ok (.bipush 34, 2) := by decide +kernel
theorem dX8_textLong_6 : decode cX8_textLong 6 = .ok (.iaload, 1) := by decide +kernel
theorem dX8_textLong_7 : decode cX8_textLong 7 = .ok (.ireturn, 1) := by decide +kernel
theorem dX8_charAt_0 : decode cX8_charAt 0 = .ok (.aload_n 0, 1) := by decide +kernel
theorem dX8_charAt_1 : decode cX8_charAt 1 = .ok (.getfield 7, 3) := by decide +kernel
theorem dX8_charAt_4 : decode cX8_charAt 4 = .ok (.bipush 35, 2) := by decide +kernel
theorem dX8_charAt_6 : decode cX8_charAt 6 = .ok (.iload_n 1, 1) := by decide +kernel
theorem dX8_charAt_7 : decode cX8_charAt 7 = .ok (.iadd, 1) := by decide +kernel
theorem dX8_charAt_8 : decode cX8_charAt 8 = .ok (.iaload, 1) := by decide +kernel
theorem dX8_charAt_9 : decode cX8_charAt 9 = .ok (.ireturn, 1) := by decide +kernel
theorem dX8_ahead_0 : decode cX8_ahead 0 = .ok (.aload_n 0, 1) := by decide +kernel
theorem dX8_ahead_1 : decode cX8_ahead 1 = .ok (.getfield 114, 3) := by decide +kernel
theorem dX8_ahead_4 : decode cX8_ahead 4 = .ok (.aload_n 0, 1) := by decide +kernel
theorem dX8_ahead_5 : decode cX8_ahead 5 = .ok (.invokevirtual 118, 3) := by decide +kernel
theorem dX8_ahead_8 : decode cX8_ahead 8 = .ok (.if_icmp .ge 29, 3) := by decide +kernel
theorem dX8_ahead_11 : decode cX8_ahead 11 = .ok (.aload_n 0, 1) := by decide +kernel
theorem dX8_ahead_12 : decode cX8_ahead 12 = .ok (.aload_n 0, 1) := by decide +kernel
theorem dX8_ahead_13 : decode cX8_ahead 13 = .ok (.getfield 114, 3) := by decide +kernel
theorem dX8_ahead_16 : decode cX8_ahead 16 = .ok (.invokevirtual 121, 3) := by decide +kernel
theorem dX8_ahead_19 : decode cX8_ahead 19 = .ok (.bipush 32, 2) := by decide +kernel
theorem dX8_ahead_21 : decode cX8_ahead 21 = .ok (.if_icmp .ne 16, 3) := by decide +kernel
theorem dX8_ahead_24 : decode cX8_ahead 24 = .ok (.aload_n 0, 1) := by decide +kernel
theorem dX8_ahead_25 : decode cX8_ahead 25 = .ok (.dup, 1) := by decide +kernel
theorem dX8_ahead_26 : decode cX8_ahead 26 = .ok (.getfield 114, 3) := by decide +kernel
theorem dX8_ahead_29 : decode cX8_ahead 29 = .ok (.iconst 1, 1) := by decide +kernel
theorem dX8_ahead_30 : decode cX8_ahead 30 = .ok (.iadd, 1) := by decide +kernel
theorem dX8_ahead_31 : decode cX8_ahead 31 = .ok (.putfield 114, 3) := by decide +kernel
theorem dX8_ahead_34 : decode cX8_ahead 34 = .ok (.goto (-34), 3) := by decide +kernel
theorem dX8_ahead_37 : decode cX8_ahead 37 = .ok (.aload_n 0, 1) := by decide +kernel
theorem dX8_ahead_38 : decode cX8_ahead 38 = .ok (.getfield 114, 3) := by decide +kernel
theorem dX8_ahead_41 : decode cX8_ahead 41 = .ok (.aload_n 0, 1) := by decide +kernel
theorem dX8_ahead_42 : decode cX8_ahead 42 = .ok (.invokevirtual 118, 3) := by decide +kernel
theorem dX8_ahead_45 : decode cX8_ahead 45 = .ok (.if_icmp .ge 14, 3) := by decide +kernel
theorem dX8_ahead_48 : decode cX8_ahead 48 = .ok (.aload_n 0, 1) := by decide +kernel
theorem dX8_ahead_49 : decode cX8_ahead 49 = .ok (.aload_n 0, 1) := by decide +kernel
theorem dX8_ahead_50 : decode cX8_ahead 50 = .ok (.getfield 114, 3) := by decide +kernel
theorem dX8_ahead_53 : decode cX8_ahead 53 = .ok (.invokevirtual 121, 3) := by decide +kernel
theorem dX8_ahead_56 : decode cX8_ahead 56 = .ok (.goto 4, 3) := by decide +kernel
theorem dX8_ahead_59 : decode cX8_ahead 59 = .ok (.iconst (-1), 1) := by decide +kernel
theorem dX8_ahead_60 : decode cX8_ahead 60 = .ok (.ireturn, 1) := by decide +kernel
theorem dX8_rank_0 : decode cX8_rank 0 = .ok (.iload_n 0, 1) := by decide +kernel
theorem dX8_rank_1 : decode cX8_rank 1 = .ok (.lookupswitch 93 #[(38, 85), (42, 91), (43, 89), (45, 89), (47, 91), (60, 87), (61, 87), (62, 87), (124, 83)], 83) := by decide +kernel
theorem dX8_rank_84 : decode cX8_rank 84 = .ok (.iconst 1, 1) := by decide +kernel
theorem dX8_rank_85 : decode cX8_rank 85 = .ok (.ireturn, 1) := by decide +kernel
theorem dX8_rank_86 : decode cX8_rank 86 = .ok (.iconst 2, 1) := by decide +kernel
theorem dX8_rank_87 : decode cX8_rank 87 = .ok (.ireturn, 1) := by decide +kernel
theorem dX8_rank_88 : decode cX8_rank 88 = .ok (.iconst 3, 1) := by decide +kernel
theorem dX8_rank_89 : decode cX8_rank 89 = .ok (.ireturn, 1) := by decide +kernel
theorem dX8_rank_90 : decode cX8_rank 90 = .ok (.iconst 4, 1) := by decide +kernel
theorem dX8_rank_91 : decode cX8_rank 91 = .ok (.ireturn, 1) := by decide +kernel
theorem dX8_rank_92 : decode cX8_rank 92 = .ok (.iconst 5, 1) := by decide +kernel
theorem dX8_rank_93 : decode cX8_rank 93 = .ok (.ireturn, 1) := by decide +kernel
theorem dX8_rank_94 : decode cX8_rank 94 = .ok (.iconst 0, 1) := by decide +kernel
theorem dX8_rank_95 : decode cX8_rank 95 = .ok (.ireturn, 1) := by decide +kernel
theorem dX8_workOut_0 : decode cX8_workOut 0 = .ok (.aload_n 0, 1) := by decide +kernel
theorem dX8_workOut_1 : decode cX8_workOut 1 = .ok (.dup, 1) := by decide +kernel
theorem dX8_workOut_2 : decode cX8_workOut 2 = .ok (.getfield 124, 3) := by decide +kernel
theorem dX8_workOut_5 : decode cX8_workOut 5 = .ok (.iconst 1, 1) := by decide +kernel
theorem dX8_workOut_6 : decode cX8_workOut 6 = .ok (.isub, 1) := by decide +kernel
theorem dX8_workOut_7 : decode cX8_workOut 7 = .ok (.putfield 124, 3) := by decide +kernel
theorem dX8_workOut_10 : decode cX8_workOut 10 = .ok (.aload_n 0, 1) := by decide +kernel
theorem dX8_workOut_11 : decode cX8_workOut 11 = .ok (.dup, 1) := by decide +kernel
theorem dX8_workOut_12 : decode cX8_workOut 12 = .ok (.getfield 127, 3) := by decide +kernel
theorem dX8_workOut_15 : decode cX8_workOut 15 = .ok (.iconst 1, 1) := by decide +kernel
theorem dX8_workOut_16 : decode cX8_workOut 16 = .ok (.isub, 1) := by decide +kernel
theorem dX8_workOut_17 : decode cX8_workOut 17 = .ok (.putfield 127, 3) := by decide +kernel
theorem dX8_workOut_20 : decode cX8_workOut 20 = .ok (.aload_n 0, 1) := by decide +kernel
theorem dX8_workOut_21 : decode cX8_workOut 21 = .ok (.getfield 27, 3) := by decide +kernel
theorem dX8_workOut_24 : decode cX8_workOut 24 = .ok (.aload_n 0, 1) := by decide +kernel
theorem dX8_workOut_25 : decode cX8_workOut 25 = .ok (.getfield 127, 3) := by decide +kernel
theorem dX8_workOut_28 : decode cX8_workOut 28 = .ok (.iconst 1, 1) := by decide +kernel
theorem dX8_workOut_29 : decode cX8_workOut 29 = .ok (.isub, 1) := by decide +kernel
theorem dX8_workOut_30 : decode cX8_workOut 30 = .ok (.laload, 1) := by decide +kernel
theorem dX8_workOut_31 : decode cX8_workOut 31 = .ok (.lstore_n 1, 1) := by decide +kernel
theorem dX8_workOut_32 : decode cX8_workOut 32 = .ok (.aload_n 0, 1) := by decide +kernel
theorem dX8_workOut_33 : decode cX8_workOut 33 = .ok (.getfield 27, 3) := by decide +kernel
theorem dX8_workOut_36 : decode cX8_workOut 36 = .ok (.aload_n 0, 1) := by decide +kernel
theorem dX8_workOut_37 : decode cX8_workOut 37 = .ok (.getfield 127, 3) := by decide +kernel
theorem dX8_workOut_40 : decode cX8_workOut 40 = .ok (.laload, 1) := by decide +kernel
theorem dX8_workOut_41 : decode cX8_workOut 41 = .ok (.lstore_n 3, 1) := by decide +kernel
theorem dX8_workOut_42 : decode cX8_workOut 42 = .ok (.lconst 0, 1) := by decide +kernel
theorem dX8_workOut_43 : decode cX8_workOut 43 = .ok (.lstore 5, 2) := by decide +kernel
theorem dX8_workOut_45 : decode cX8_workOut 45 = .ok (.aload_n 0, 1) := by decide +kernel
theorem dX8_workOut_46 : decode cX8_workOut 46 = .ok (.getfield 31, 3) := by decide +kernel
theorem dX8_workOut_49 : decode cX8_workOut 49 = .ok (.aload_n 0, 1) := by decide +kernel
theorem dX8_workOut_50 : decode cX8_workOut 50 = .ok (.getfield 124, 3) := by decide +kernel
theorem dX8_workOut_53 : decode cX8_workOut 53 = .ok (.iaload, 1) := by decide +kernel
theorem dX8_workOut_54 : decode cX8_workOut 54 = .ok (.lookupswitch 190 #[(38, 96), (42, 182), (43, 166), (45, 174), (60, 118), (61, 150), (62, 134), (124, 74)], 74) := by decide +kernel
theorem dX8_workOut_128 : decode cX8_workOut 128 = .ok (.lload_n 1, 1) := by decide +kernel
theorem dX8_workOut_129 : decode cX8_workOut 129 = .ok (.lconst 0, 1) := by decide +kernel
theorem dX8_workOut_130 : decode cX8_workOut 130 = .ok (.lcmp, 1) := by decide +kernel
theorem dX8_workOut_131 : decode cX8_workOut 131 = .ok (.ifCond .ne 9, 3) := by decide +kernel
theorem dX8_workOut_134 : decode cX8_workOut 134 = .ok (.lload_n 3, 1) := by decide +kernel
theorem dX8_workOut_135 : decode cX8_workOut 135 = .ok (.lconst 0, 1) := by decide +kernel
theorem dX8_workOut_136 : decode cX8_workOut 136 = .ok (.lcmp, 1) := by decide +kernel
theorem dX8_workOut_137 : decode cX8_workOut 137 = .ok (.ifCond .eq 7, 3) := by decide +kernel
theorem dX8_workOut_140 : decode cX8_workOut 140 = .ok (.lconst 1, 1) := by decide +kernel
theorem dX8_workOut_141 : decode cX8_workOut 141 = .ok (.goto 4, 3) := by decide +kernel
theorem dX8_workOut_144 : decode cX8_workOut 144 = .ok (.lconst 0, 1) := by decide +kernel
theorem dX8_workOut_145 : decode cX8_workOut 145 = .ok (.lstore 5, 2) := by decide +kernel
theorem dX8_workOut_147 : decode cX8_workOut 147 = .ok (.goto 112, 3) := by decide +kernel
theorem dX8_workOut_150 : decode cX8_workOut 150 = .ok (.lload_n 1, 1) := by decide +kernel
theorem dX8_workOut_151 : decode cX8_workOut 151 = .ok (.lconst 0, 1) := by decide +kernel
theorem dX8_workOut_152 : decode cX8_workOut 152 = .ok (.lcmp, 1) := by decide +kernel
theorem dX8_workOut_153 : decode cX8_workOut 153 = .ok (.ifCond .eq 13, 3) := by decide +kernel
theorem dX8_workOut_156 : decode cX8_workOut 156 = .ok (.lload_n 3, 1) := by decide +kernel
theorem dX8_workOut_157 : decode cX8_workOut 157 = .ok (.lconst 0, 1) := by decide +kernel
theorem dX8_workOut_158 : decode cX8_workOut 158 = .ok (.lcmp, 1) := by decide +kernel
theorem dX8_workOut_159 : decode cX8_workOut 159 = .ok (.ifCond .eq 7, 3) := by decide +kernel
theorem dX8_workOut_162 : decode cX8_workOut 162 = .ok (.lconst 1, 1) := by decide +kernel
theorem dX8_workOut_163 : decode cX8_workOut 163 = .ok (.goto 4, 3) := by decide +kernel
theorem dX8_workOut_166 : decode cX8_workOut 166 = .ok (.lconst 0, 1) := by decide +kernel
theorem dX8_workOut_167 : decode cX8_workOut 167 = .ok (.lstore 5, 2) := by decide +kernel
theorem dX8_workOut_169 : decode cX8_workOut 169 = .ok (.goto 90, 3) := by decide +kernel
theorem dX8_workOut_172 : decode cX8_workOut 172 = .ok (.lload_n 1, 1) := by decide +kernel
theorem dX8_workOut_173 : decode cX8_workOut 173 = .ok (.lload_n 3, 1) := by decide +kernel
theorem dX8_workOut_174 : decode cX8_workOut 174 = .ok (.lcmp, 1) := by decide +kernel
theorem dX8_workOut_175 : decode cX8_workOut 175 = .ok (.ifCond .ge 7, 3) := by decide +kernel
theorem dX8_workOut_178 : decode cX8_workOut 178 = .ok (.lconst 1, 1) := by decide +kernel
theorem dX8_workOut_179 : decode cX8_workOut 179 = .ok (.goto 4, 3) := by decide +kernel
theorem dX8_workOut_182 : decode cX8_workOut 182 = .ok (.lconst 0, 1) := by decide +kernel
theorem dX8_workOut_183 : decode cX8_workOut 183 = .ok (.lstore 5, 2) := by decide +kernel
theorem dX8_workOut_185 : decode cX8_workOut 185 = .ok (.goto 74, 3) := by decide +kernel
theorem dX8_workOut_188 : decode cX8_workOut 188 = .ok (.lload_n 1, 1) := by decide +kernel
theorem dX8_workOut_189 : decode cX8_workOut 189 = .ok (.lload_n 3, 1) := by decide +kernel
theorem dX8_workOut_190 : decode cX8_workOut 190 = .ok (.lcmp, 1) := by decide +kernel
theorem dX8_workOut_191 : decode cX8_workOut 191 = .ok (.ifCond .le 7, 3) := by decide +kernel
theorem dX8_workOut_194 : decode cX8_workOut 194 = .ok (.lconst 1, 1) := by decide +kernel
theorem dX8_workOut_195 : decode cX8_workOut 195 = .ok (.goto 4, 3) := by decide +kernel
theorem dX8_workOut_198 : decode cX8_workOut 198 = .ok (.lconst 0, 1) := by decide +kernel
theorem dX8_workOut_199 : decode cX8_workOut 199 = .ok (.lstore 5, 2) := by decide +kernel
theorem dX8_workOut_201 : decode cX8_workOut 201 = .ok (.goto 58, 3) := by decide +kernel
theorem dX8_workOut_204 : decode cX8_workOut 204 = .ok (.lload_n 1, 1) := by decide +kernel
theorem dX8_workOut_205 : decode cX8_workOut 205 = .ok (.lload_n 3, 1) := by decide +kernel
theorem dX8_workOut_206 : decode cX8_workOut 206 = .ok (.lcmp, 1) := by decide +kernel
theorem dX8_workOut_207 : decode cX8_workOut 207 = .ok (.ifCond .ne 7, 3) := by decide +kernel
theorem dX8_workOut_210 : decode cX8_workOut 210 = .ok (.lconst 1, 1) := by decide +kernel
theorem dX8_workOut_211 : decode cX8_workOut 211 = .ok (.goto 4, 3) := by decide +kernel
theorem dX8_workOut_214 : decode cX8_workOut 214 = .ok (.lconst 0, 1) := by decide +kernel
theorem dX8_workOut_215 : decode cX8_workOut 215 = .ok (.lstore 5, 2) := by decide +kernel
theorem dX8_workOut_217 : decode cX8_workOut 217 = .ok (.goto 42, 3) := by decide +kernel
theorem dX8_workOut_220 : decode cX8_workOut 220 = .ok (.lload_n 1, 1) := by decide +kernel
theorem dX8_workOut_221 : decode cX8_workOut 221 = .ok (.lload_n 3, 1) := by decide +kernel
theorem dX8_workOut_222 : decode cX8_workOut 222 = .ok (.ladd, 1) := by decide +kernel
theorem dX8_workOut_223 : decode cX8_workOut 223 = .ok (.lstore 5, 2) := by decide +kernel
theorem dX8_workOut_225 : decode cX8_workOut 225 = .ok (.goto 34, 3) := by decide +kernel
theorem dX8_workOut_228 : decode cX8_workOut 228 = .ok (.lload_n 1, 1) := by decide +kernel
theorem dX8_workOut_229 : decode cX8_workOut 229 = .ok (.lload_n 3, 1) := by decide +kernel
theorem dX8_workOut_230 : decode cX8_workOut 230 = .ok (.lsub, 1) := by decide +kernel
theorem dX8_workOut_231 : decode cX8_workOut 231 = .ok (.lstore 5, 2) := by decide +kernel
theorem dX8_workOut_233 : decode cX8_workOut 233 = .ok (.goto 26, 3) := by decide +kernel
theorem dX8_workOut_236 : decode cX8_workOut 236 = .ok (.lload_n 1, 1) := by decide +kernel
theorem dX8_workOut_237 : decode cX8_workOut 237 = .ok (.lload_n 3, 1) := by decide +kernel
theorem dX8_workOut_238 : decode cX8_workOut 238 = .ok (.lmul, 1) := by decide +kernel
theorem dX8_workOut_239 : decode cX8_workOut 239 = .ok (.lstore 5, 2) := by decide +kernel
theorem dX8_workOut_241 : decode cX8_workOut 241 = .ok (.goto 18, 3) := by decide +kernel
theorem dX8_workOut_244 : decode cX8_workOut 244 = .ok (.lload_n 3, 1) := by decide +kernel
theorem dX8_workOut_245 : decode cX8_workOut 245 = .ok (.lconst 0, 1) := by decide +kernel
theorem dX8_workOut_246 : decode cX8_workOut 246 = .ok (.lcmp, 1) := by decide +kernel
theorem dX8_workOut_247 : decode cX8_workOut 247 = .ok (.ifCond .ne 7, 3) := by decide +kernel
theorem dX8_workOut_250 : decode cX8_workOut 250 = .ok (.lconst 0, 1) := by decide +kernel
theorem dX8_workOut_251 : decode cX8_workOut 251 = .ok (.goto 6, 3) := by decide +kernel
theorem dX8_workOut_254 : decode cX8_workOut 254 = .ok (.lload_n 1, 1) := by decide +kernel
theorem dX8_workOut_255 : decode cX8_workOut 255 = .ok (.lload_n 3, 1) := by decide +kernel
theorem dX8_workOut_256 : decode cX8_workOut 256 = .ok (.ldiv, 1) := by decide +kernel
theorem dX8_workOut_257 : decode cX8_workOut 257 = .ok (.lstore 5, 2) := by decide +kernel
theorem dX8_workOut_259 : decode cX8_workOut 259 = .ok (.aload_n 0, 1) := by decide +kernel
theorem dX8_workOut_260 : decode cX8_workOut 260 = .ok (.getfield 27, 3) := by decide +kernel
theorem dX8_workOut_263 : decode cX8_workOut 263 = .ok (.aload_n 0, 1) := by decide +kernel
theorem dX8_workOut_264 : decode cX8_workOut 264 = .ok (.getfield 127, 3) := by decide +kernel
theorem dX8_workOut_267 : decode cX8_workOut 267 = .ok (.iconst 1, 1) := by decide +kernel
theorem dX8_workOut_268 : decode cX8_workOut 268 = .ok (.isub, 1) := by decide +kernel
theorem dX8_workOut_269 : decode cX8_workOut 269 = .ok (.lload 5, 2) := by decide +kernel
theorem dX8_workOut_271 : decode cX8_workOut 271 = .ok (.lastore, 1) := by decide +kernel
theorem dX8_workOut_272 : decode cX8_workOut 272 = .ok (.return_, 1) := by decide +kernel
theorem dX8_workDown_0 : decode cX8_workDown 0 = .ok (.aload_n 0, 1) := by decide +kernel
theorem dX8_workDown_1 : decode cX8_workDown 1 = .ok (.getfield 124, 3) := by decide +kernel
theorem dX8_workDown_4 : decode cX8_workDown 4 = .ok (.ifCond .le 45, 3) := by decide +kernel
theorem dX8_workDown_7 : decode cX8_workDown 7 = .ok (.aload_n 0, 1) := by decide +kernel
theorem dX8_workDown_8 : decode cX8_workDown 8 = .ok (.getfield 31, 3) := by decide +kernel
theorem dX8_workDown_11 : decode cX8_workDown 11 = .ok (.aload_n 0, 1) := by decide +kernel
theorem dX8_workDown_12 : decode cX8_workDown 12 = .ok (.getfield 124, 3) := by decide +kernel
theorem dX8_workDown_15 : decode cX8_workDown 15 = .ok (.iconst 1, 1) := by decide +kernel
theorem dX8_workDown_16 : decode cX8_workDown 16 = .ok (.isub, 1) := by decide +kernel
theorem dX8_workDown_17 : decode cX8_workDown 17 = .ok (.iaload, 1) := by decide +kernel
theorem dX8_workDown_18 : decode cX8_workDown 18 = .ok (.sipush 1000, 3) := by decide +kernel
theorem dX8_workDown_21 : decode cX8_workDown 21 = .ok (.if_icmp .ge 28, 3) := by decide +kernel
theorem dX8_workDown_24 : decode cX8_workDown 24 = .ok (.aload_n 0, 1) := by decide +kernel
theorem dX8_workDown_25 : decode cX8_workDown 25 = .ok (.getfield 31, 3) := by decide +kernel
theorem dX8_workDown_28 : decode cX8_workDown 28 = .ok (.aload_n 0, 1) := by decide +kernel
theorem dX8_workDown_29 : decode cX8_workDown 29 = .ok (.getfield 124, 3) := by decide +kernel
theorem dX8_workDown_32 : decode cX8_workDown 32 = .ok (.iconst 1, 1) := by decide +kernel
theorem dX8_workDown_33 : decode cX8_workDown 33 = .ok (.isub, 1) := by decide +kernel
theorem dX8_workDown_34 : decode cX8_workDown 34 = .ok (.iaload, 1) := by decide +kernel
theorem dX8_workDown_35 : decode cX8_workDown 35 = .ok (.invokestatic 130, 3) := by decide +kernel
theorem dX8_workDown_38 : decode cX8_workDown 38 = .ok (.iload_n 1, 1) := by decide +kernel
theorem dX8_workDown_39 : decode cX8_workDown 39 = .ok (.if_icmp .lt 10, 3) := by decide +kernel
theorem dX8_workDown_42 : decode cX8_workDown 42 = .ok (.aload_n 0, 1) := by decide +kernel
theorem dX8_workDown_43 : decode cX8_workDown 43 = .ok (.invokevirtual 133, 3) := by decide +kernel
theorem dX8_workDown_46 : decode cX8_workDown 46 = .ok (.goto (-46), 3) := by decide +kernel
theorem dX8_workDown_49 : decode cX8_workDown 49 = .ok (.return_, 1) := by decide +kernel
theorem dX8_stands_0 : decode cX8_stands 0 = .ok (.lload_n 1, 1) := by decide +kernel
theorem dX8_stands_1 : decode cX8_stands 1 = .ok (.lstore_n 3, 1) := by decide +kernel
theorem dX8_stands_2 : decode cX8_stands 2 = .ok (.aload_n 0, 1) := by decide +kernel
theorem dX8_stands_3 : decode cX8_stands 3 = .ok (.getfield 124, 3) := by decide +kernel
theorem dX8_stands_6 : decode cX8_stands 6 = .ok (.ifCond .le 67, 3) := by decide +kernel
theorem dX8_stands_9 : decode cX8_stands 9 = .ok (.aload_n 0, 1) := by decide +kernel
theorem dX8_stands_10 : decode cX8_stands 10 = .ok (.getfield 31, 3) := by decide +kernel
theorem dX8_stands_13 : decode cX8_stands 13 = .ok (.aload_n 0, 1) := by decide +kernel
theorem dX8_stands_14 : decode cX8_stands 14 = .ok (.getfield 124, 3) := by decide +kernel
theorem dX8_stands_17 : decode cX8_stands 17 = .ok (.iconst 1, 1) := by decide +kernel
theorem dX8_stands_18 : decode cX8_stands 18 = .ok (.isub, 1) := by decide +kernel
theorem dX8_stands_19 : decode cX8_stands 19 = .ok (.iaload, 1) := by decide +kernel
theorem dX8_stands_20 : decode cX8_stands 20 = .ok (.sipush 1000, 3) := by decide +kernel
theorem dX8_stands_23 : decode cX8_stands 23 = .ok (.if_icmp .le 50, 3) := by decide +kernel
theorem dX8_stands_26 : decode cX8_stands 26 = .ok (.aload_n 0, 1) := by decide +kernel
theorem dX8_stands_27 : decode cX8_stands 27 = .ok (.getfield 31, 3) := by decide +kernel
theorem dX8_stands_30 : decode cX8_stands 30 = .ok (.aload_n 0, 1) := by decide +kernel
theorem dX8_stands_31 : decode cX8_stands 31 = .ok (.getfield 124, 3) := by decide +kernel
theorem dX8_stands_34 : decode cX8_stands 34 = .ok (.iconst 1, 1) := by decide +kernel
theorem dX8_stands_35 : decode cX8_stands 35 = .ok (.isub, 1) := by decide +kernel
theorem dX8_stands_36 : decode cX8_stands 36 = .ok (.iaload, 1) := by decide +kernel
theorem dX8_stands_37 : decode cX8_stands 37 = .ok (.sipush 1001, 3) := by decide +kernel
theorem dX8_stands_40 : decode cX8_stands 40 = .ok (.if_icmp .ne 17, 3) := by decide +kernel
theorem dX8_stands_43 : decode cX8_stands 43 = .ok (.lload_n 3, 1) := by decide +kernel
theorem dX8_stands_44 : decode cX8_stands 44 = .ok (.lconst 0, 1) := by decide +kernel
theorem dX8_stands_45 : decode cX8_stands 45 = .ok (.lcmp, 1) := by decide +kernel
theorem dX8_stands_46 : decode cX8_stands 46 = .ok (.ifCond .ne 7, 3) := by decide +kernel
theorem dX8_stands_49 : decode cX8_stands 49 = .ok (.lconst 1, 1) := by decide +kernel
theorem dX8_stands_50 : decode cX8_stands 50 = .ok (.goto 9, 3) := by decide +kernel
theorem dX8_stands_53 : decode cX8_stands 53 = .ok (.lconst 0, 1) := by decide +kernel
theorem dX8_stands_54 : decode cX8_stands 54 = .ok (.goto 5, 3) := by decide +kernel
theorem dX8_stands_57 : decode cX8_stands 57 = .ok (.lload_n 3, 1) := by decide +kernel
theorem dX8_stands_58 : decode cX8_stands 58 = .ok (.lneg, 1) := by decide +kernel
theorem dX8_stands_59 : decode cX8_stands 59 = .ok (.lstore_n 3, 1) := by decide +kernel
theorem dX8_stands_60 : decode cX8_stands 60 = .ok (.aload_n 0, 1) := by decide +kernel
theorem dX8_stands_61 : decode cX8_stands 61 = .ok (.dup, 1) := by decide +kernel
theorem dX8_stands_62 : decode cX8_stands 62 = .ok (.getfield 124, 3) := by decide +kernel
theorem dX8_stands_65 : decode cX8_stands 65 = .ok (.iconst 1, 1) := by decide +kernel
theorem dX8_stands_66 : decode cX8_stands 66 = .ok (.isub, 1) := by decide +kernel
theorem dX8_stands_67 : decode cX8_stands 67 = .ok (.putfield 124, 3) := by decide +kernel
theorem dX8_stands_70 : decode cX8_stands 70 = .ok (.goto (-68), 3) := by decide +kernel
theorem dX8_stands_73 : decode cX8_stands 73 = .ok (.aload_n 0, 1) := by decide +kernel
theorem dX8_stands_74 : decode cX8_stands 74 = .ok (.getfield 27, 3) := by decide +kernel
theorem dX8_stands_77 : decode cX8_stands 77 = .ok (.aload_n 0, 1) := by decide +kernel
theorem dX8_stands_78 : decode cX8_stands 78 = .ok (.getfield 127, 3) := by decide +kernel
theorem dX8_stands_81 : decode cX8_stands 81 = .ok (.lload_n 3, 1) := by decide +kernel
theorem dX8_stands_82 : decode cX8_stands 82 = .ok (.lastore, 1) := by decide +kernel
theorem dX8_stands_83 : decode cX8_stands 83 = .ok (.aload_n 0, 1) := by decide +kernel
theorem dX8_stands_84 : decode cX8_stands 84 = .ok (.dup, 1) := by decide +kernel
theorem dX8_stands_85 : decode cX8_stands 85 = .ok (.getfield 127, 3) := by decide +kernel
theorem dX8_stands_88 : decode cX8_stands 88 = .ok (.iconst 1, 1) := by decide +kernel
theorem dX8_stands_89 : decode cX8_stands 89 = .ok (.iadd, 1) := by decide +kernel
theorem dX8_stands_90 : decode cX8_stands 90 = .ok (.putfield 127, 3) := by decide +kernel
theorem dX8_stands_93 : decode cX8_stands 93 = .ok (.return_, 1) := by decide +kernel
theorem dX8_letterOf_0 : decode cX8_letterOf 0 = .ok (.iload_n 0, 1) := by decide +kernel
theorem dX8_letterOf_1 : decode cX8_letterOf 1 = .ok (.bipush 112, 2) := by decide +kernel
theorem dX8_letterOf_3 : decode cX8_letterOf 3 = .ok (.if_icmp .ne 7, 3) := by decide +kernel
theorem dX8_letterOf_6 : decode cX8_letterOf 6 = .ok (.iconst 0, 1) := by decide +kernel
theorem dX8_letterOf_7 : decode cX8_letterOf 7 = .ok (.goto 54, 3) := by decide +kernel
theorem dX8_letterOf_10 : decode cX8_letterOf 10 = .ok (.iload_n 0, 1) := by decide +kernel
theorem dX8_letterOf_11 : decode cX8_letterOf 11 = .ok (.bipush 98, 2) := by decide +kernel
theorem dX8_letterOf_13 : decode cX8_letterOf 13 = .ok (.if_icmp .ne 7, 3) := by decide +kernel
theorem dX8_letterOf_16 : decode cX8_letterOf 16 = .ok (.iconst 1, 1) := by decide +kernel
theorem dX8_letterOf_17 : decode cX8_letterOf 17 = .ok (.goto 44, 3) := by decide +kernel
theorem dX8_letterOf_20 : decode cX8_letterOf 20 = .ok (.iload_n 0, 1) := by decide +kernel
theorem dX8_letterOf_21 : decode cX8_letterOf 21 = .ok (.bipush 117, 2) := by decide +kernel
theorem dX8_letterOf_23 : decode cX8_letterOf 23 = .ok (.if_icmp .ne 7, 3) := by decide +kernel
theorem dX8_letterOf_26 : decode cX8_letterOf 26 = .ok (.iconst 2, 1) := by decide +kernel
theorem dX8_letterOf_27 : decode cX8_letterOf 27 = .ok (.goto 34, 3) := by decide +kernel
theorem dX8_letterOf_30 : decode cX8_letterOf 30 = .ok (.iload_n 0, 1) := by decide +kernel
theorem dX8_letterOf_31 : decode cX8_letterOf 31 = .ok (.bipush 100, 2) := by decide +kernel
theorem dX8_letterOf_33 : decode cX8_letterOf 33 = .ok (.if_icmp .ne 7, 3) := by decide +kernel
theorem dX8_letterOf_36 : decode cX8_letterOf 36 = .ok (.iconst 3, 1) := by decide +kernel
theorem dX8_letterOf_37 : decode cX8_letterOf 37 = .ok (.goto 24, 3) := by decide +kernel
theorem dX8_letterOf_40 : decode cX8_letterOf 40 = .ok (.iload_n 0, 1) := by decide +kernel
theorem dX8_letterOf_41 : decode cX8_letterOf 41 = .ok (.bipush 108, 2) := by decide +kernel
theorem dX8_letterOf_43 : decode cX8_letterOf 43 = .ok (.if_icmp .ne 7, 3) := by decide +kernel
theorem dX8_letterOf_46 : decode cX8_letterOf 46 = .ok (.iconst 4, 1) := by decide +kernel
theorem dX8_letterOf_47 : decode cX8_letterOf 47 = .ok (.goto 14, 3) := by decide +kernel
theorem dX8_letterOf_50 : decode cX8_letterOf 50 = .ok (.iload_n 0, 1) := by decide +kernel
theorem dX8_letterOf_51 : decode cX8_letterOf 51 = .ok (.bipush 109, 2) := by decide +kernel
theorem dX8_letterOf_53 : decode cX8_letterOf 53 = .ok (.if_icmp .ne 7, 3) := by decide +kernel
theorem dX8_letterOf_56 : decode cX8_letterOf 56 = .ok (.iconst 5, 1) := by decide +kernel
theorem dX8_letterOf_57 : decode cX8_letterOf 57 = .ok (.goto 4, 3) := by decide +kernel
theorem dX8_letterOf_60 : decode cX8_letterOf 60 = .ok (.iconst (-1), 1) := by decide +kernel
theorem dX8_letterOf_61 : decode cX8_letterOf 61 = .ok (.ireturn, 1) := by decide +kernel
theorem dX8_isFigure_0 : decode cX8_isFigure 0 = .ok (.iload_n 0, 1) := by decide +kernel
theorem dX8_isFigure_1 : decode cX8_isFigure 1 = .ok (.i2l, 1) := by decide +kernel
theorem dX8_isFigure_2 : decode cX8_isFigure 2 = .ok (.ldc2_w 136, 3) := by decide +kernel
theorem dX8_isFigure_5 : decode cX8_isFigure 5 = .ok (.ldc2_w 138, 3) := by decide +kernel
theorem dX8_isFigure_8 : decode cX8_isFigure 8 = .ok (.invokestatic 74, 3) := by decide +kernel
theorem dX8_isFigure_11 : decode cX8_isFigure 11 = .ok (.ireturn, 1) := by decide +kernel
theorem dX8_digits_0 : decode cX8_digits 0 = .ok (.aload_n 0, 1) := by decide +kernel
theorem dX8_digits_1 : decode cX8_digits 1 = .ok (.getfield 114, 3) := by decide +kernel
theorem dX8_digits_4 : decode cX8_digits 4 = .ok (.istore_n 1, 1) := by decide +kernel
theorem dX8_digits_5 : decode cX8_digits 5 = .ok (.lconst 0, 1) := by decide +kernel
theorem dX8_digits_6 : decode cX8_digits 6 = .ok (.lstore_n 2, 1) := by decide +kernel
theorem dX8_digits_7 : decode cX8_digits 7 = .ok (.aload_n 0, 1) := by decide +kernel
theorem dX8_digits_8 : decode cX8_digits 8 = .ok (.getfield 114, 3) := by decide +kernel
theorem dX8_digits_11 : decode cX8_digits 11 = .ok (.aload_n 0, 1) := by decide +kernel
theorem dX8_digits_12 : decode cX8_digits 12 = .ok (.invokevirtual 118, 3) := by decide +kernel
theorem dX8_digits_15 : decode cX8_digits 15 = .ok (.if_icmp .ge 73, 3) := by decide +kernel
theorem dX8_digits_18 : decode cX8_digits 18 = .ok (.aload_n 0, 1) := by decide +kernel
theorem dX8_digits_19 : decode cX8_digits 19 = .ok (.aload_n 0, 1) := by decide +kernel
theorem dX8_digits_20 : decode cX8_digits 20 = .ok (.getfield 114, 3) := by decide +kernel
theorem dX8_digits_23 : decode cX8_digits 23 = .ok (.invokevirtual 121, 3) := by decide +kernel
theorem dX8_digits_26 : decode cX8_digits 26 = .ok (.invokestatic 140, 3) := by decide +kernel
theorem dX8_digits_29 : decode cX8_digits 29 = .ok (.ifCond .eq 59, 3) := by decide +kernel
theorem dX8_digits_32 : decode cX8_digits 32 = .ok (.aload_n 0, 1) := by decide +kernel
theorem dX8_digits_33 : decode cX8_digits 33 = .ok (.getfield 114, 3) := by decide +kernel
theorem dX8_digits_36 : decode cX8_digits 36 = .ok (.iload_n 1, 1) := by decide +kernel
theorem dX8_digits_37 : decode cX8_digits 37 = .ok (.isub, 1) := by decide +kernel
theorem dX8_digits_38 : decode cX8_digits 38 = .ok (.bipush 6, 2) := by decide +kernel
theorem dX8_digits_40 : decode cX8_digits 40 = .ok (.if_icmp .ne 15, 3) := by decide +kernel
theorem dX8_digits_43 : decode cX8_digits 43 = .ok (.aload_n 0, 1) := by decide +kernel
theorem dX8_digits_44 : decode cX8_digits 44 = .ok (.bipush 10, 2) := by decide +kernel
theorem dX8_digits_46 : decode cX8_digits 46 = .ok (.iload_n 1, 1) := by decide +kernel
theorem dX8_digits_47 : decode cX8_digits 47 = .ok (.imul, 1) := by decide +kernel
theorem dX8_digits_48 : decode cX8_digits 48 = .ok (.iconst 2, 1) := by decide +kernel
theorem dX8_digits_49 : decode cX8_digits 49 = .ok (.iadd, 1) := by decide +kernel
theorem dX8_digits_50 : decode cX8_digits 50 = .ok (.putfield 143, 3) := by decide +kernel
theorem dX8_digits_53 : decode cX8_digits 53 = .ok (.lconst 0, 1) := by decide +kernel
theorem dX8_digits_54 : decode cX8_digits 54 = .ok (.lreturn, 1) := by decide +kernel
theorem dX8_digits_55 : decode cX8_digits 55 = .ok (.ldc2_w 146, 3) := by decide +kernel
theorem dX8_digits_58 : decode cX8_digits 58 = .ok (.lload_n 2, 1) := by decide +kernel
theorem dX8_digits_59 : decode cX8_digits 59 = .ok (.lmul, 1) := by decide +kernel
theorem dX8_digits_60 : decode cX8_digits 60 = .ok (.aload_n 0, 1) := by decide +kernel
theorem dX8_digits_61 : decode cX8_digits 61 = .ok (.aload_n 0, 1) := by decide +kernel
theorem dX8_digits_62 : decode cX8_digits 62 = .ok (.getfield 114, 3) := by decide +kernel
theorem dX8_digits_65 : decode cX8_digits 65 = .ok (.invokevirtual 121, 3) := by decide +kernel
theorem dX8_digits_68 : decode cX8_digits 68 = .ok (.i2l, 1) := by decide +kernel
theorem dX8_digits_69 : decode cX8_digits 69 = .ok (.ladd, 1) := by decide +kernel
theorem dX8_digits_70 : decode cX8_digits 70 = .ok (.ldc2_w 136, 3) := by decide +kernel
theorem dX8_digits_73 : decode cX8_digits 73 = .ok (.lsub, 1) := by decide +kernel
theorem dX8_digits_74 : decode cX8_digits 74 = .ok (.lstore_n 2, 1) := by decide +kernel
theorem dX8_digits_75 : decode cX8_digits 75 = .ok (.aload_n 0, 1) := by decide +kernel
theorem dX8_digits_76 : decode cX8_digits 76 = .ok (.dup, 1) := by decide +kernel
theorem dX8_digits_77 : decode cX8_digits 77 = .ok (.getfield 114, 3) := by decide +kernel
theorem dX8_digits_80 : decode cX8_digits 80 = .ok (.iconst 1, 1) := by decide +kernel
theorem dX8_digits_81 : decode cX8_digits 81 = .ok (.iadd, 1) := by decide +kernel
theorem dX8_digits_82 : decode cX8_digits 82 = .ok (.putfield 114, 3) := by decide +kernel
theorem dX8_digits_85 : decode cX8_digits 85 = .ok (.goto (-78), 3) := by decide +kernel
theorem dX8_digits_88 : decode cX8_digits 88 = .ok (.lload_n 2, 1) := by decide +kernel
theorem dX8_digits_89 : decode cX8_digits 89 = .ok (.lreturn, 1) := by decide +kernel
theorem dX8_reads_0 : decode cX8_reads 0 = .ok (.aload_n 0, 1) := by decide +kernel
theorem dX8_reads_1 : decode cX8_reads 1 = .ok (.iconst 0, 1) := by decide +kernel
theorem dX8_reads_2 : decode cX8_reads 2 = .ok (.putfield 114, 3) := by decide +kernel
theorem dX8_reads_5 : decode cX8_reads 5 = .ok (.aload_n 0, 1) := by decide +kernel
theorem dX8_reads_6 : decode cX8_reads 6 = .ok (.iconst (-1), 1) := by decide +kernel
theorem dX8_reads_7 : decode cX8_reads 7 = .ok (.putfield 143, 3) := by decide +kernel
theorem dX8_reads_10 : decode cX8_reads 10 = .ok (.aload_n 0, 1) := by decide +kernel
theorem dX8_reads_11 : decode cX8_reads 11 = .ok (.iconst 0, 1) := by decide +kernel
theorem dX8_reads_12 : decode cX8_reads 12 = .ok (.putfield 127, 3) := by decide +kernel
theorem dX8_reads_15 : decode cX8_reads 15 = .ok (.aload_n 0, 1) := by decide +kernel
theorem dX8_reads_16 : decode cX8_reads 16 = .ok (.iconst 0, 1) := by decide +kernel
theorem dX8_reads_17 : decode cX8_reads 17 = .ok (.putfield 124, 3) := by decide +kernel
theorem dX8_reads_20 : decode cX8_reads 20 = .ok (.iconst 0, 1) := by decide +kernel
theorem dX8_reads_21 : decode cX8_reads 21 = .ok (.istore_n 1, 1) := by decide +kernel
theorem dX8_reads_22 : decode cX8_reads 22 = .ok (.iconst 1, 1) := by decide +kernel
theorem dX8_reads_23 : decode cX8_reads 23 = .ok (.istore_n 2, 1) := by decide +kernel
theorem dX8_reads_24 : decode cX8_reads 24 = .ok (.iconst 1, 1) := by decide +kernel
theorem dX8_reads_25 : decode cX8_reads 25 = .ok (.istore_n 3, 1) := by decide +kernel

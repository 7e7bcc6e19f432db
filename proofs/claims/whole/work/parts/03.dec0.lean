theorem dX0_init_0 : decode cX0_init 0 = .ok (.aload_n 0, 1) := by decide +kernel
theorem dX0_init_1 : decode cX0_init 1 = .ok (.invokespecial 3, 3) := by decide +kernel
theorem dX0_init_4 : decode cX0_init 4 = .ok (.aload_n 0, 1) := by decide +kernel
theorem dX0_init_5 : decode cX0_init 5 = .ok (.sipush 256, 3) := by decide +kernel
theorem dX0_init_8 : decode cX0_init 8 = .ok (.newarray .int, 2) := by decide +kernel
theorem dX0_init_10 : decode cX0_init 10 = .ok (.putfield 9, 3) := by decide +kernel
theorem dX0_init_13 : decode cX0_init 13 = .ok (.aload_n 0, 1) := by decide +kernel
theorem dX0_init_14 : decode cX0_init 14 = .ok (.sipush 256, 3) := by decide +kernel
theorem dX0_init_17 : decode cX0_init 17 = .ok (.newarray .int, 2) := by decide +kernel
theorem dX0_init_19 : decode cX0_init 19 = .ok (.putfield 15, 3) := by decide +kernel
theorem dX0_init_22 : decode cX0_init 22 = .ok (.aload_n 0, 1) := by decide +kernel
theorem dX0_init_23 : decode cX0_init 23 = .ok (.sipush 256, 3) := by decide +kernel
theorem dX0_init_26 : decode cX0_init 26 = .ok (.newarray .int, 2) := by decide +kernel
theorem dX0_init_28 : decode cX0_init 28 = .ok (.putfield 18, 3) := by decide +kernel
theorem dX0_init_31 : decode cX0_init 31 = .ok (.aload_n 0, 1) := by decide +kernel
theorem dX0_init_32 : decode cX0_init 32 = .ok (.sipush 256, 3) := by decide +kernel
theorem dX0_init_35 : decode cX0_init 35 = .ok (.newarray .int, 2) := by decide +kernel
theorem dX0_init_37 : decode cX0_init 37 = .ok (.putfield 21, 3) := by decide +kernel
theorem dX0_init_40 : decode cX0_init 40 = .ok (.aload_n 0, 1) := by decide +kernel
theorem dX0_init_41 : decode cX0_init 41 = .ok (.sipush 256, 3) := by decide +kernel
theorem dX0_init_44 : decode cX0_init 44 = .ok (.newarray .int, 2) := by decide +kernel
theorem dX0_init_46 : decode cX0_init 46 = .ok (.putfield 24, 3) := by decide +kernel
theorem dX0_init_49 : decode cX0_init 49 = .ok (.aload_n 0, 1) := by decide +kernel
theorem dX0_init_50 : decode cX0_init 50 = .ok (.sipush 256, 3) := by decide +kernel
theorem dX0_init_53 : decode cX0_init 53 = .ok (.newarray .int, 2) := by decide +kernel
theorem dX0_init_55 : decode cX0_init 55 = .ok (.putfield 27, 3) := by decide +kernel
theorem dX0_init_58 : decode cX0_init 58 = .ok (.aload_n 0, 1) := by decide +kernel
theorem dX0_init_59 : decode cX0_init 59 = .ok (.bipush 8, 2) := by decide +kernel
theorem dX0_init_61 : decode cX0_init 61 = .ok (.newarray .int, 2) := by decide +kernel
theorem dX0_init_63 : decode cX0_init 63 = .ok (.putfield 30, 3) := by decide +kernel
theorem dX0_init_66 : decode cX0_init 66 = .ok (.aload_n 0, 1) := by decide +kernel
theorem dX0_init_67 : decode cX0_init 67 = .ok (.iconst 0, 1) := by decide +kernel
theorem dX0_init_68 : decode cX0_init 68 = .ok (.putfield 33, 3) := by decide +kernel
theorem dX0_init_71 : decode cX0_init 71 = .ok (.aload_n 0, 1) := by decide +kernel
theorem dX0_init_72 : decode cX0_init 72 = .ok (.aload_n 1, 1) := by decide +kernel
theorem dX0_init_73 : decode cX0_init 73 = .ok (.putfield 37, 3) := by decide +kernel
theorem dX0_init_76 : decode cX0_init 76 = .ok (.aload_n 0, 1) := by decide +kernel
theorem dX0_init_77 : decode cX0_init 77 = .ok (.aload_n 2, 1) := by decide +kernel
theorem dX0_init_78 : decode cX0_init 78 = .ok (.putfield 41, 3) := by decide +kernel
theorem dX0_init_81 : decode cX0_init 81 = .ok (.return_, 1) := by decide +kernel
theorem dX0_plan_0 : decode cX0_plan 0 = .ok (.aload_n 0, 1) := by decide +kernel
theorem dX0_plan_1 : decode cX0_plan 1 = .ok (.getfield 33, 3) := by decide +kernel
theorem dX0_plan_4 : decode cX0_plan 4 = .ok (.ifCond .eq 4, 3) := by decide +kernel
theorem dX0_plan_7 : decode cX0_plan 7 = .ok (.return_, 1) := by decide +kernel
theorem dX0_plan_8 : decode cX0_plan 8 = .ok (.aload_n 0, 1) := by decide +kernel
theorem dX0_plan_9 : decode cX0_plan 9 = .ok (.iconst 1, 1) := by decide +kernel
theorem dX0_plan_10 : decode cX0_plan 10 = .ok (.putfield 33, 3) := by decide +kernel
theorem dX0_plan_13 : decode cX0_plan 13 = .ok (.iconst 1, 1) := by decide +kernel
theorem dX0_plan_14 : decode cX0_plan 14 = .ok (.aload_n 0, 1) := by decide +kernel
theorem dX0_plan_15 : decode cX0_plan 15 = .ok (.getfield 37, 3) := by decide +kernel
theorem dX0_plan_18 : decode cX0_plan 18 = .ok (.getfield 45, 3) := by decide +kernel
theorem dX0_plan_21 : decode cX0_plan 21 = .ok (.ishl, 1) := by decide +kernel
theorem dX0_plan_22 : decode cX0_plan 22 = .ok (.iconst 1, 1) := by decide +kernel
theorem dX0_plan_23 : decode cX0_plan 23 = .ok (.isub, 1) := by decide +kernel
theorem dX0_plan_24 : decode cX0_plan 24 = .ok (.sipush 255, 3) := by decide +kernel
theorem dX0_plan_27 : decode cX0_plan 27 = .ok (.iand, 1) := by decide +kernel
theorem dX0_plan_28 : decode cX0_plan 28 = .ok (.istore_n 1, 1) := by decide +kernel
theorem dX0_plan_29 : decode cX0_plan 29 = .ok (.iconst 1, 1) := by decide +kernel
theorem dX0_plan_30 : decode cX0_plan 30 = .ok (.istore_n 2, 1) := by decide +kernel
theorem dX0_plan_31 : decode cX0_plan 31 = .ok (.iload_n 2, 1) := by decide +kernel
theorem dX0_plan_32 : decode cX0_plan 32 = .ok (.iload_n 1, 1) := by decide +kernel
theorem dX0_plan_33 : decode cX0_plan 33 = .ok (.if_icmp .gt 19, 3) := by decide +kernel
theorem dX0_plan_36 : decode cX0_plan 36 = .ok (.aload_n 0, 1) := by decide +kernel
theorem dX0_plan_37 : decode cX0_plan 37 = .ok (.iload_n 2, 1) := by decide +kernel
theorem dX0_plan_38 : decode cX0_plan 38 = .ok (.invokevirtual 51, 3) := by decide +kernel
theorem dX0_plan_41 : decode cX0_plan 41 = .ok (.aload_n 0, 1) := by decide +kernel
theorem dX0_plan_42 : decode cX0_plan 42 = .ok (.iload_n 2, 1) := by decide +kernel
theorem dX0_plan_43 : decode cX0_plan 43 = .ok (.invokevirtual 55, 3) := by decide +kernel
theorem dX0_plan_46 : decode cX0_plan 46 = .ok (.iinc 2 1, 3) := by decide +kernel
theorem dX0_plan_49 : decode cX0_plan 49 = .ok (.goto (-18), 3) := by decide +kernel
theorem dX0_plan_52 : decode cX0_plan 52 = .ok (.aload_n 0, 1) := by decide +kernel
theorem dX0_plan_53 : decode cX0_plan 53 = .ok (.aload_n 0, 1) := by decide +kernel
theorem dX0_plan_54 : decode cX0_plan 54 = .ok (.getfield 18, 3) := by decide +kernel
theorem dX0_plan_57 : decode cX0_plan 57 = .ok (.iload_n 1, 1) := by decide +kernel
theorem dX0_plan_58 : decode cX0_plan 58 = .ok (.iaload, 1) := by decide +kernel
theorem dX0_plan_59 : decode cX0_plan 59 = .ok (.iconst (-1), 1) := by decide +kernel
theorem dX0_plan_60 : decode cX0_plan 60 = .ok (.if_icmp .eq 7, 3) := by decide +kernel
theorem dX0_plan_63 : decode cX0_plan 63 = .ok (.iconst 1, 1) := by decide +kernel
theorem dX0_plan_64 : decode cX0_plan 64 = .ok (.goto 4, 3) := by decide +kernel
theorem dX0_plan_67 : decode cX0_plan 67 = .ok (.iconst 0, 1) := by decide +kernel
theorem dX0_plan_68 : decode cX0_plan 68 = .ok (.putfield 58, 3) := by decide +kernel
theorem dX0_plan_71 : decode cX0_plan 71 = .ok (.aload_n 0, 1) := by decide +kernel
theorem dX0_plan_72 : decode cX0_plan 72 = .ok (.aload_n 0, 1) := by decide +kernel
theorem dX0_plan_73 : decode cX0_plan 73 = .ok (.getfield 18, 3) := by decide +kernel
theorem dX0_plan_76 : decode cX0_plan 76 = .ok (.iload_n 1, 1) := by decide +kernel
theorem dX0_plan_77 : decode cX0_plan 77 = .ok (.iaload, 1) := by decide +kernel
theorem dX0_plan_78 : decode cX0_plan 78 = .ok (.putfield 61, 3) := by decide +kernel
theorem dX0_plan_81 : decode cX0_plan 81 = .ok (.aload_n 0, 1) := by decide +kernel
theorem dX0_plan_82 : decode cX0_plan 82 = .ok (.aload_n 0, 1) := by decide +kernel
theorem dX0_plan_83 : decode cX0_plan 83 = .ok (.getfield 21, 3) := by decide +kernel
theorem dX0_plan_86 : decode cX0_plan 86 = .ok (.iload_n 1, 1) := by decide +kernel
theorem dX0_plan_87 : decode cX0_plan 87 = .ok (.iaload, 1) := by decide +kernel
theorem dX0_plan_88 : decode cX0_plan 88 = .ok (.putfield 64, 3) := by decide +kernel
theorem dX0_plan_91 : decode cX0_plan 91 = .ok (.aload_n 0, 1) := by decide +kernel
theorem dX0_plan_92 : decode cX0_plan 92 = .ok (.aload_n 0, 1) := by decide +kernel
theorem dX0_plan_93 : decode cX0_plan 93 = .ok (.getfield 27, 3) := by decide +kernel
theorem dX0_plan_96 : decode cX0_plan 96 = .ok (.iload_n 1, 1) := by decide +kernel
theorem dX0_plan_97 : decode cX0_plan 97 = .ok (.iaload, 1) := by decide +kernel
theorem dX0_plan_98 : decode cX0_plan 98 = .ok (.putfield 67, 3) := by decide +kernel
theorem dX0_plan_101 : decode cX0_plan 101 = .ok (.aload_n 0, 1) := by decide +kernel
theorem dX0_plan_102 : decode cX0_plan 102 = .ok (.iconst 0, 1) := by decide +kernel
theorem dX0_plan_103 : decode cX0_plan 103 = .ok (.putfield 70, 3) := by decide +kernel
theorem dX0_plan_106 : decode cX0_plan 106 = .ok (.aload_n 0, 1) := by decide +kernel
theorem dX0_plan_107 : decode cX0_plan 107 = .ok (.getfield 58, 3) := by decide +kernel
theorem dX0_plan_110 : decode cX0_plan 110 = .ok (.ifCond .eq 8, 3) := by decide +kernel
theorem dX0_plan_113 : decode cX0_plan 113 = .ok (.aload_n 0, 1) := by decide +kernel
theorem dX0_plan_114 : decode cX0_plan 114 = .ok (.iload_n 1, 1) := by decide +kernel
theorem dX0_plan_115 : decode cX0_plan 115 = .ok (.invokevirtual 73, 3) := by decide +kernel
theorem dX0_plan_118 : decode cX0_plan 118 = .ok (.return_, 1) := by decide +kernel
theorem dX0_lookAtCompany_0 : decode cX0_lookAtCompany 0 = .ok (.aload_n 0, 1) := by decide +kernel
theorem dX0_lookAtCompany_1 : decode cX0_lookAtCompany 1 = .ok (.getfield 9, 3) := by decide +kernel
theorem dX0_lookAtCompany_4 : decode cX0_lookAtCompany 4 = .ok (.iload_n 1, 1) := by decide +kernel
theorem dX0_lookAtCompany_5 : decode cX0_lookAtCompany 5 = .ok (.iconst (-1), 1) := by decide +kernel
theorem dX0_lookAtCompany_6 : decode cX0_lookAtCompany 6 = .ok (.iastore, 1) := by decide +kernel
theorem dX0_lookAtCompany_7 : decode cX0_lookAtCompany 7 = .ok (.aload_n 0, 1) := by decide +kernel
theorem dX0_lookAtCompany_8 : decode cX0_lookAtCompany 8 = .ok (.getfield 41, 3) := by decide +kernel
theorem dX0_lookAtCompany_11 : decode cX0_lookAtCompany 11 = .ok (.iload_n 1, 1) := by decide +kernel
theorem dX0_lookAtCompany_12 : decode cX0_lookAtCompany 12 = .ok (.iconst 0, 1) := by decide +kernel
theorem dX0_lookAtCompany_13 : decode cX0_lookAtCompany 13 = .ok (.invokevirtual 76, 3) := by decide +kernel
theorem dX0_lookAtCompany_16 : decode cX0_lookAtCompany 16 = .ok (.ifCond .eq 13, 3) := by decide +kernel
theorem dX0_lookAtCompany_19 : decode cX0_lookAtCompany 19 = .ok (.aload_n 0, 1) := by decide +kernel
theorem dX0_lookAtCompany_20 : decode cX0_lookAtCompany 20 = .ok (.getfield 9, 3) := by decide +kernel
theorem dX0_lookAtCompany_23 : decode cX0_lookAtCompany 23 = .ok (.iload_n 1, 1) := by decide +kernel
theorem dX0_lookAtCompany_24 : decode cX0_lookAtCompany 24 = .ok (.iconst 0, 1) := by decide +kernel
theorem dX0_lookAtCompany_25 : decode cX0_lookAtCompany 25 = .ok (.iastore, 1) := by decide +kernel
theorem dX0_lookAtCompany_26 : decode cX0_lookAtCompany 26 = .ok (.goto 23, 3) := by decide +kernel
theorem dX0_lookAtCompany_29 : decode cX0_lookAtCompany 29 = .ok (.aload_n 0, 1) := by decide +kernel
theorem dX0_lookAtCompany_30 : decode cX0_lookAtCompany 30 = .ok (.getfield 41, 3) := by decide +kernel
theorem dX0_lookAtCompany_33 : decode cX0_lookAtCompany 33 = .ok (.iload_n 1, 1) := by decide +kernel
theorem dX0_lookAtCompany_34 : decode cX0_lookAtCompany 34 = .ok (.iconst 1, 1) := by decide +kernel
theorem dX0_lookAtCompany_35 : decode cX0_lookAtCompany 35 = .ok (.iconst 0, 1) := by decide +kernel
theorem dX0_lookAtCompany_36 : decode cX0_lookAtCompany 36 = .ok (.invokevirtual 82, 3) := by decide +kernel
theorem dX0_lookAtCompany_39 : decode cX0_lookAtCompany 39 = .ok (.ifCond .eq 10, 3) := by decide +kernel
theorem dX0_lookAtCompany_42 : decode cX0_lookAtCompany 42 = .ok (.aload_n 0, 1) := by decide +kernel
theorem dX0_lookAtCompany_43 : decode cX0_lookAtCompany 43 = .ok (.getfield 9, 3) := by decide +kernel
theorem dX0_lookAtCompany_46 : decode cX0_lookAtCompany 46 = .ok (.iload_n 1, 1) := by decide +kernel
theorem dX0_lookAtCompany_47 : decode cX0_lookAtCompany 47 = .ok (.iconst 1, 1) := by decide +kernel
theorem dX0_lookAtCompany_48 : decode cX0_lookAtCompany 48 = .ok (.iastore, 1) := by decide +kernel
theorem dX0_lookAtCompany_49 : decode cX0_lookAtCompany 49 = .ok (.aload_n 0, 1) := by decide +kernel
theorem dX0_lookAtCompany_50 : decode cX0_lookAtCompany 50 = .ok (.getfield 15, 3) := by decide +kernel
theorem dX0_lookAtCompany_53 : decode cX0_lookAtCompany 53 = .ok (.iload_n 1, 1) := by decide +kernel
theorem dX0_lookAtCompany_54 : decode cX0_lookAtCompany 54 = .ok (.iconst 0, 1) := by decide +kernel
theorem dX0_lookAtCompany_55 : decode cX0_lookAtCompany 55 = .ok (.iastore, 1) := by decide +kernel
theorem dX0_lookAtCompany_56 : decode cX0_lookAtCompany 56 = .ok (.iconst 0, 1) := by decide +kernel
theorem dX0_lookAtCompany_57 : decode cX0_lookAtCompany 57 = .ok (.istore_n 2, 1) := by decide +kernel
theorem dX0_lookAtCompany_58 : decode cX0_lookAtCompany 58 = .ok (.iload_n 2, 1) := by decide +kernel
theorem dX0_lookAtCompany_59 : decode cX0_lookAtCompany 59 = .ok (.bipush 8, 2) := by decide +kernel
theorem dX0_lookAtCompany_61 : decode cX0_lookAtCompany 61 = .ok (.if_icmp .ge 41, 3) := by decide +kernel
theorem dX0_lookAtCompany_64 : decode cX0_lookAtCompany 64 = .ok (.iload_n 1, 1) := by decide +kernel
theorem dX0_lookAtCompany_65 : decode cX0_lookAtCompany 65 = .ok (.iload_n 2, 1) := by decide +kernel
theorem dX0_lookAtCompany_66 : decode cX0_lookAtCompany 66 = .ok (.invokestatic 86, 3) := by decide +kernel
theorem dX0_lookAtCompany_69 : decode cX0_lookAtCompany 69 = .ok (.ifCond .eq 27, 3) := by decide +kernel
theorem dX0_lookAtCompany_72 : decode cX0_lookAtCompany 72 = .ok (.aload_n 0, 1) := by decide +kernel
theorem dX0_lookAtCompany_73 : decode cX0_lookAtCompany 73 = .ok (.getfield 15, 3) := by decide +kernel
theorem dX0_lookAtCompany_76 : decode cX0_lookAtCompany 76 = .ok (.iload_n 1, 1) := by decide +kernel
theorem dX0_lookAtCompany_77 : decode cX0_lookAtCompany 77 = .ok (.aload_n 0, 1) := by decide +kernel
theorem dX0_lookAtCompany_78 : decode cX0_lookAtCompany 78 = .ok (.getfield 15, 3) := by decide +kernel
theorem dX0_lookAtCompany_81 : decode cX0_lookAtCompany 81 = .ok (.iload_n 1, 1) := by decide +kernel
theorem dX0_lookAtCompany_82 : decode cX0_lookAtCompany 82 = .ok (.iaload, 1) := by decide +kernel
theorem dX0_lookAtCompany_83 : decode cX0_lookAtCompany 83 = .ok (.aload_n 0, 1) := by decide +kernel
theorem dX0_lookAtCompany_84 : decode cX0_lookAtCompany 84 = .ok (.getfield 37, 3) := by decide +kernel
theorem dX0_lookAtCompany_87 : decode cX0_lookAtCompany 87 = .ok (.getfield 89, 3) := by decide +kernel
theorem dX0_lookAtCompany_90 : decode cX0_lookAtCompany 90 = .ok (.iload_n 2, 1) := by decide +kernel
theorem dX0_lookAtCompany_91 : decode cX0_lookAtCompany 91 = .ok (.iaload, 1) := by decide +kernel
theorem dX0_lookAtCompany_92 : decode cX0_lookAtCompany 92 = .ok (.invokestatic 92, 3) := by decide +kernel
theorem dX0_lookAtCompany_95 : decode cX0_lookAtCompany 95 = .ok (.iastore, 1) := by decide +kernel
theorem dX0_lookAtCompany_96 : decode cX0_lookAtCompany 96 = .ok (.iinc 2 1, 3) := by decide +kernel
theorem dX0_lookAtCompany_99 : decode cX0_lookAtCompany 99 = .ok (.goto (-41), 3) := by decide +kernel
theorem dX0_lookAtCompany_102 : decode cX0_lookAtCompany 102 = .ok (.return_, 1) := by decide +kernel
theorem dX0_lookAtLeft_0 : decode cX0_lookAtLeft 0 = .ok (.iload_n 1, 1) := by decide +kernel
theorem dX0_lookAtLeft_1 : decode cX0_lookAtLeft 1 = .ok (.iload_n 1, 1) := by decide +kernel
theorem dX0_lookAtLeft_2 : decode cX0_lookAtLeft 2 = .ok (.ineg, 1) := by decide +kernel
theorem dX0_lookAtLeft_3 : decode cX0_lookAtLeft 3 = .ok (.iand, 1) := by decide +kernel
theorem dX0_lookAtLeft_4 : decode cX0_lookAtLeft 4 = .ok (.istore_n 2, 1) := by decide +kernel
theorem dX0_lookAtLeft_5 : decode cX0_lookAtLeft 5 = .ok (.aload_n 0, 1) := by decide +kernel
theorem dX0_lookAtLeft_6 : decode cX0_lookAtLeft 6 = .ok (.getfield 18, 3) := by decide +kernel
theorem dX0_lookAtLeft_9 : decode cX0_lookAtLeft 9 = .ok (.iload_n 1, 1) := by decide +kernel
theorem dX0_lookAtLeft_10 : decode cX0_lookAtLeft 10 = .ok (.iconst (-1), 1) := by decide +kernel
theorem dX0_lookAtLeft_11 : decode cX0_lookAtLeft 11 = .ok (.iastore, 1) := by decide +kernel
theorem dX0_lookAtLeft_12 : decode cX0_lookAtLeft 12 = .ok (.aload_n 0, 1) := by decide +kernel
theorem dX0_lookAtLeft_13 : decode cX0_lookAtLeft 13 = .ok (.getfield 21, 3) := by decide +kernel
theorem dX0_lookAtLeft_16 : decode cX0_lookAtLeft 16 = .ok (.iload_n 1, 1) := by decide +kernel
theorem dX0_lookAtLeft_17 : decode cX0_lookAtLeft 17 = .ok (.iconst (-1), 1) := by decide +kernel
theorem dX0_lookAtLeft_18 : decode cX0_lookAtLeft 18 = .ok (.iastore, 1) := by decide +kernel
theorem dX0_lookAtLeft_19 : decode cX0_lookAtLeft 19 = .ok (.aload_n 0, 1) := by decide +kernel
theorem dX0_lookAtLeft_20 : decode cX0_lookAtLeft 20 = .ok (.getfield 27, 3) := by decide +kernel
theorem dX0_lookAtLeft_23 : decode cX0_lookAtLeft 23 = .ok (.iload_n 1, 1) := by decide +kernel
theorem dX0_lookAtLeft_24 : decode cX0_lookAtLeft 24 = .ok (.iconst (-1), 1) := by decide +kernel
theorem dX0_lookAtLeft_25 : decode cX0_lookAtLeft 25 = .ok (.iastore, 1) := by decide +kernel
theorem dX0_lookAtLeft_26 : decode cX0_lookAtLeft 26 = .ok (.iload_n 2, 1) := by decide +kernel
theorem dX0_lookAtLeft_27 : decode cX0_lookAtLeft 27 = .ok (.istore_n 3, 1) := by decide +kernel
theorem dX0_lookAtLeft_28 : decode cX0_lookAtLeft 28 = .ok (.iload_n 3, 1) := by decide +kernel
theorem dX0_lookAtLeft_29 : decode cX0_lookAtLeft 29 = .ok (.iload_n 1, 1) := by decide +kernel
theorem dX0_lookAtLeft_30 : decode cX0_lookAtLeft 30 = .ok (.if_icmp .gt 65, 3) := by decide +kernel
theorem dX0_lookAtLeft_33 : decode cX0_lookAtLeft 33 = .ok (.iload_n 3, 1) := by decide +kernel
theorem dX0_lookAtLeft_34 : decode cX0_lookAtLeft 34 = .ok (.iload_n 1, 1) := by decide +kernel
theorem dX0_lookAtLeft_35 : decode cX0_lookAtLeft 35 = .ok (.iconst (-1), 1) := by decide +kernel
theorem dX0_lookAtLeft_36 : decode cX0_lookAtLeft 36 = .ok (.ixor, 1) := by decide +kernel
theorem dX0_lookAtLeft_37 : decode cX0_lookAtLeft 37 = .ok (.iand, 1) := by decide +kernel
theorem dX0_lookAtLeft_38 : decode cX0_lookAtLeft 38 = .ok (.ifCond .ne 13, 3) := by decide +kernel
theorem dX0_lookAtLeft_41 : decode cX0_lookAtLeft 41 = .ok (.iload_n 3, 1) := by decide +kernel
theorem dX0_lookAtLeft_42 : decode cX0_lookAtLeft 42 = .ok (.iload_n 2, 1) := by decide +kernel
theorem dX0_lookAtLeft_43 : decode cX0_lookAtLeft 43 = .ok (.iand, 1) := by decide +kernel
theorem dX0_lookAtLeft_44 : decode cX0_lookAtLeft 44 = .ok (.ifCond .eq 7, 3) := by decide +kernel
theorem dX0_lookAtLeft_47 : decode cX0_lookAtLeft 47 = .ok (.iconst 1, 1) := by decide +kernel
theorem dX0_lookAtLeft_48 : decode cX0_lookAtLeft 48 = .ok (.goto 4, 3) := by decide +kernel
theorem dX0_lookAtLeft_51 : decode cX0_lookAtLeft 51 = .ok (.iconst 0, 1) := by decide +kernel
theorem dX0_lookAtLeft_52 : decode cX0_lookAtLeft 52 = .ok (.istore 4, 2) := by decide +kernel
theorem dX0_lookAtLeft_54 : decode cX0_lookAtLeft 54 = .ok (.iload 4, 2) := by decide +kernel
theorem dX0_lookAtLeft_56 : decode cX0_lookAtLeft 56 = .ok (.ifCond .eq 33, 3) := by decide +kernel
theorem dX0_lookAtLeft_59 : decode cX0_lookAtLeft 59 = .ok (.aload_n 0, 1) := by decide +kernel
theorem dX0_lookAtLeft_60 : decode cX0_lookAtLeft 60 = .ok (.getfield 9, 3) := by decide +kernel
theorem dX0_lookAtLeft_63 : decode cX0_lookAtLeft 63 = .ok (.iload_n 3, 1) := by decide +kernel
theorem dX0_lookAtLeft_64 : decode cX0_lookAtLeft 64 = .ok (.iaload, 1) := by decide +kernel
theorem dX0_lookAtLeft_65 : decode cX0_lookAtLeft 65 = .ok (.iconst (-1), 1) := by decide +kernel
theorem dX0_lookAtLeft_66 : decode cX0_lookAtLeft 66 = .ok (.if_icmp .eq 23, 3) := by decide +kernel
theorem dX0_lookAtLeft_69 : decode cX0_lookAtLeft 69 = .ok (.aload_n 0, 1) := by decide +kernel
theorem dX0_lookAtLeft_70 : decode cX0_lookAtLeft 70 = .ok (.getfield 18, 3) := by decide +kernel
theorem dX0_lookAtLeft_73 : decode cX0_lookAtLeft 73 = .ok (.iload_n 1, 1) := by decide +kernel
theorem dX0_lookAtLeft_74 : decode cX0_lookAtLeft 74 = .ok (.iload_n 3, 1) := by decide +kernel
theorem dX0_lookAtLeft_75 : decode cX0_lookAtLeft 75 = .ok (.iconst (-1), 1) := by decide +kernel
theorem dX0_lookAtLeft_76 : decode cX0_lookAtLeft 76 = .ok (.ixor, 1) := by decide +kernel
theorem dX0_lookAtLeft_77 : decode cX0_lookAtLeft 77 = .ok (.iand, 1) := by decide +kernel
theorem dX0_lookAtLeft_78 : decode cX0_lookAtLeft 78 = .ok (.iaload, 1) := by decide +kernel
theorem dX0_lookAtLeft_79 : decode cX0_lookAtLeft 79 = .ok (.iconst (-1), 1) := by decide +kernel
theorem dX0_lookAtLeft_80 : decode cX0_lookAtLeft 80 = .ok (.if_icmp .eq 9, 3) := by decide +kernel
theorem dX0_lookAtLeft_83 : decode cX0_lookAtLeft 83 = .ok (.aload_n 0, 1) := by decide +kernel
theorem dX0_lookAtLeft_84 : decode cX0_lookAtLeft 84 = .ok (.iload_n 3, 1) := by decide +kernel
theorem dX0_lookAtLeft_85 : decode cX0_lookAtLeft 85 = .ok (.iload_n 1, 1) := by decide +kernel
theorem dX0_lookAtLeft_86 : decode cX0_lookAtLeft 86 = .ok (.invokevirtual 98, 3) := by decide +kernel
theorem dX0_lookAtLeft_89 : decode cX0_lookAtLeft 89 = .ok (.iinc 3 1, 3) := by decide +kernel
theorem dX0_lookAtLeft_92 : decode cX0_lookAtLeft 92 = .ok (.goto (-64), 3) := by decide +kernel
theorem dX0_lookAtLeft_95 : decode cX0_lookAtLeft 95 = .ok (.return_, 1) := by decide +kernel
theorem dX0_tryFirst_0 : decode cX0_tryFirst 0 = .ok (.iload_n 2, 1) := by decide +kernel
theorem dX0_tryFirst_1 : decode cX0_tryFirst 1 = .ok (.iload_n 1, 1) := by decide +kernel
theorem dX0_tryFirst_2 : decode cX0_tryFirst 2 = .ok (.iconst (-1), 1) := by decide +kernel
theorem dX0_tryFirst_3 : decode cX0_tryFirst 3 = .ok (.ixor, 1) := by decide +kernel
theorem dX0_tryFirst_4 : decode cX0_tryFirst 4 = .ok (.iand, 1) := by decide +kernel
theorem dX0_tryFirst_5 : decode cX0_tryFirst 5 = .ok (.istore_n 3, 1) := by decide +kernel
theorem dX0_tryFirst_6 : decode cX0_tryFirst 6 = .ok (.aload_n 0, 1) := by decide +kernel
theorem dX0_tryFirst_7 : decode cX0_tryFirst 7 = .ok (.getfield 9, 3) := by decide +kernel
theorem dX0_tryFirst_10 : decode cX0_tryFirst 10 = .ok (.iload_n 1, 1) := by decide +kernel
theorem dX0_tryFirst_11 : decode cX0_tryFirst 11 = .ok (.iaload, 1) := by decide +kernel
theorem dX0_tryFirst_12 : decode cX0_tryFirst 12 = .ok (.aload_n 0, 1) := by decide +kernel
theorem dX0_tryFirst_13 : decode cX0_tryFirst 13 = .ok (.getfield 37, 3) := by decide +kernel
theorem dX0_tryFirst_16 : decode cX0_tryFirst 16 = .ok (.getfield 102, 3) := by decide +kernel
theorem dX0_tryFirst_19 : decode cX0_tryFirst 19 = .ok (.imul, 1) := by decide +kernel
theorem dX0_tryFirst_20 : decode cX0_tryFirst 20 = .ok (.istore 4, 2) := by decide +kernel
theorem dX0_tryFirst_22 : decode cX0_tryFirst 22 = .ok (.aload_n 0, 1) := by decide +kernel
theorem dX0_tryFirst_23 : decode cX0_tryFirst 23 = .ok (.getfield 15, 3) := by decide +kernel
theorem dX0_tryFirst_26 : decode cX0_tryFirst 26 = .ok (.iload_n 1, 1) := by decide +kernel
theorem dX0_tryFirst_27 : decode cX0_tryFirst 27 = .ok (.iaload, 1) := by decide +kernel
theorem dX0_tryFirst_28 : decode cX0_tryFirst 28 = .ok (.aload_n 0, 1) := by decide +kernel
theorem dX0_tryFirst_29 : decode cX0_tryFirst 29 = .ok (.getfield 18, 3) := by decide +kernel
theorem dX0_tryFirst_32 : decode cX0_tryFirst 32 = .ok (.iload_n 3, 1) := by decide +kernel
theorem dX0_tryFirst_33 : decode cX0_tryFirst 33 = .ok (.iaload, 1) := by decide +kernel
theorem dX0_tryFirst_34 : decode cX0_tryFirst 34 = .ok (.iadd, 1) := by decide +kernel
theorem dX0_tryFirst_35 : decode cX0_tryFirst 35 = .ok (.istore 5, 2) := by decide +kernel
theorem dX0_tryFirst_37 : decode cX0_tryFirst 37 = .ok (.iload 4, 2) := by decide +kernel
theorem dX0_tryFirst_39 : decode cX0_tryFirst 39 = .ok (.aload_n 0, 1) := by decide +kernel
theorem dX0_tryFirst_40 : decode cX0_tryFirst 40 = .ok (.getfield 21, 3) := by decide +kernel
theorem dX0_tryFirst_43 : decode cX0_tryFirst 43 = .ok (.iload_n 3, 1) := by decide +kernel
theorem dX0_tryFirst_44 : decode cX0_tryFirst 44 = .ok (.iaload, 1) := by decide +kernel
theorem dX0_tryFirst_45 : decode cX0_tryFirst 45 = .ok (.iadd, 1) := by decide +kernel
theorem dX0_tryFirst_46 : decode cX0_tryFirst 46 = .ok (.istore 6, 2) := by decide +kernel
theorem dX0_tryFirst_48 : decode cX0_tryFirst 48 = .ok (.aload_n 0, 1) := by decide +kernel
theorem dX0_tryFirst_49 : decode cX0_tryFirst 49 = .ok (.getfield 18, 3) := by decide +kernel
theorem dX0_tryFirst_52 : decode cX0_tryFirst 52 = .ok (.iload_n 2, 1) := by decide +kernel
theorem dX0_tryFirst_53 : decode cX0_tryFirst 53 = .ok (.iaload, 1) := by decide +kernel
theorem dX0_tryFirst_54 : decode cX0_tryFirst 54 = .ok (.iconst (-1), 1) := by decide +kernel
theorem dX0_tryFirst_55 : decode cX0_tryFirst 55 = .ok (.if_icmp .eq 14, 3) := by decide +kernel
theorem dX0_tryFirst_58 : decode cX0_tryFirst 58 = .ok (.iload 5, 2) := by decide +kernel
theorem dX0_tryFirst_60 : decode cX0_tryFirst 60 = .ok (.aload_n 0, 1) := by decide +kernel
theorem dX0_tryFirst_61 : decode cX0_tryFirst 61 = .ok (.getfield 18, 3) := by decide +kernel
theorem dX0_tryFirst_64 : decode cX0_tryFirst 64 = .ok (.iload_n 2, 1) := by decide +kernel
theorem dX0_tryFirst_65 : decode cX0_tryFirst 65 = .ok (.iaload, 1) := by decide +kernel
theorem dX0_tryFirst_66 : decode cX0_tryFirst 66 = .ok (.if_icmp .ge 7, 3) := by decide +kernel
theorem dX0_tryFirst_69 : decode cX0_tryFirst 69 = .ok (.iconst 1, 1) := by decide +kernel
theorem dX0_tryFirst_70 : decode cX0_tryFirst 70 = .ok (.goto 4, 3) := by decide +kernel
theorem dX0_tryFirst_73 : decode cX0_tryFirst 73 = .ok (.iconst 0, 1) := by decide +kernel
theorem dX0_tryFirst_74 : decode cX0_tryFirst 74 = .ok (.istore 7, 2) := by decide +kernel
theorem dX0_tryFirst_76 : decode cX0_tryFirst 76 = .ok (.iload 7, 2) := by decide +kernel
theorem dX0_tryFirst_78 : decode cX0_tryFirst 78 = .ok (.ifCond .ne 25, 3) := by decide +kernel
theorem dX0_tryFirst_81 : decode cX0_tryFirst 81 = .ok (.iload 5, 2) := by decide +kernel
theorem dX0_tryFirst_83 : decode cX0_tryFirst 83 = .ok (.aload_n 0, 1) := by decide +kernel
theorem dX0_tryFirst_84 : decode cX0_tryFirst 84 = .ok (.getfield 18, 3) := by decide +kernel
theorem dX0_tryFirst_87 : decode cX0_tryFirst 87 = .ok (.iload_n 2, 1) := by decide +kernel
theorem dX0_tryFirst_88 : decode cX0_tryFirst 88 = .ok (.iaload, 1) := by decide +kernel
theorem dX0_tryFirst_89 : decode cX0_tryFirst 89 = .ok (.if_icmp .ne 37, 3) := by decide +kernel
theorem dX0_tryFirst_92 : decode cX0_tryFirst 92 = .ok (.iload 6, 2) := by decide +kernel
theorem dX0_tryFirst_94 : decode cX0_tryFirst 94 = .ok (.aload_n 0, 1) := by decide +kernel
theorem dX0_tryFirst_95 : decode cX0_tryFirst 95 = .ok (.getfield 21, 3) := by decide +kernel
theorem dX0_tryFirst_98 : decode cX0_tryFirst 98 = .ok (.iload_n 2, 1) := by decide +kernel
theorem dX0_tryFirst_99 : decode cX0_tryFirst 99 = .ok (.iaload, 1) := by decide +kernel
theorem dX0_tryFirst_100 : decode cX0_tryFirst 100 = .ok (.if_icmp .ge 26, 3) := by decide +kernel
theorem dX0_tryFirst_103 : decode cX0_tryFirst 103 = .ok (.aload_n 0, 1) := by decide +kernel
theorem dX0_tryFirst_104 : decode cX0_tryFirst 104 = .ok (.getfield 18, 3) := by decide +kernel
theorem dX0_tryFirst_107 : decode cX0_tryFirst 107 = .ok (.iload_n 2, 1) := by decide +kernel
theorem dX0_tryFirst_108 : decode cX0_tryFirst 108 = .ok (.iload 5, 2) := by decide +kernel
theorem dX0_tryFirst_110 : decode cX0_tryFirst 110 = .ok (.iastore, 1) := by decide +kernel
theorem dX0_tryFirst_111 : decode cX0_tryFirst 111 = .ok (.aload_n 0, 1) := by decide +kernel
theorem dX0_tryFirst_112 : decode cX0_tryFirst 112 = .ok (.getfield 21, 3) := by decide +kernel
theorem dX0_tryFirst_115 : decode cX0_tryFirst 115 = .ok (.iload_n 2, 1) := by decide +kernel
theorem dX0_tryFirst_116 : decode cX0_tryFirst 116 = .ok (.iload 6, 2) := by decide +kernel
theorem dX0_tryFirst_118 : decode cX0_tryFirst 118 = .ok (.iastore, 1) := by decide +kernel
theorem dX0_tryFirst_119 : decode cX0_tryFirst 119 = .ok (.aload_n 0, 1) := by decide +kernel
theorem dX0_tryFirst_120 : decode cX0_tryFirst 120 = .ok (.getfield 24, 3) := by decide +kernel
theorem dX0_tryFirst_123 : decode cX0_tryFirst 123 = .ok (.iload_n 2, 1) := by decide +kernel
theorem dX0_tryFirst_124 : decode cX0_tryFirst 124 = .ok (.iload_n 1, 1) := by decide +kernel
theorem dX0_tryFirst_125 : decode cX0_tryFirst 125 = .ok (.iastore, 1) := by decide +kernel
theorem dX0_tryFirst_126 : decode cX0_tryFirst 126 = .ok (.aload_n 0, 1) := by decide +kernel
theorem dX0_tryFirst_127 : decode cX0_tryFirst 127 = .ok (.getfield 27, 3) := by decide +kernel
theorem dX0_tryFirst_130 : decode cX0_tryFirst 130 = .ok (.iload_n 2, 1) := by decide +kernel
theorem dX0_tryFirst_131 : decode cX0_tryFirst 131 = .ok (.iaload, 1) := by decide +kernel
theorem dX0_tryFirst_132 : decode cX0_tryFirst 132 = .ok (.iconst (-1), 1) := by decide +kernel
theorem dX0_tryFirst_133 : decode cX0_tryFirst 133 = .ok (.if_icmp .eq 21, 3) := by decide +kernel
theorem dX0_tryFirst_136 : decode cX0_tryFirst 136 = .ok (.iload 4, 2) := by decide +kernel
theorem dX0_tryFirst_138 : decode cX0_tryFirst 138 = .ok (.aload_n 0, 1) := by decide +kernel
theorem dX0_tryFirst_139 : decode cX0_tryFirst 139 = .ok (.getfield 27, 3) := by decide +kernel
theorem dX0_tryFirst_142 : decode cX0_tryFirst 142 = .ok (.iload_n 3, 1) := by decide +kernel
theorem dX0_tryFirst_143 : decode cX0_tryFirst 143 = .ok (.iaload, 1) := by decide +kernel
theorem dX0_tryFirst_144 : decode cX0_tryFirst 144 = .ok (.iadd, 1) := by decide +kernel
theorem dX0_tryFirst_145 : decode cX0_tryFirst 145 = .ok (.aload_n 0, 1) := by decide +kernel
theorem dX0_tryFirst_146 : decode cX0_tryFirst 146 = .ok (.getfield 27, 3) := by decide +kernel
theorem dX0_tryFirst_149 : decode cX0_tryFirst 149 = .ok (.iload_n 2, 1) := by decide +kernel
theorem dX0_tryFirst_150 : decode cX0_tryFirst 150 = .ok (.iaload, 1) := by decide +kernel
theorem dX0_tryFirst_151 : decode cX0_tryFirst 151 = .ok (.if_icmp .ge 18, 3) := by decide +kernel
theorem dX0_tryFirst_154 : decode cX0_tryFirst 154 = .ok (.aload_n 0, 1) := by decide +kernel
theorem dX0_tryFirst_155 : decode cX0_tryFirst 155 = .ok (.getfield 27, 3) := by decide +kernel
theorem dX0_tryFirst_158 : decode cX0_tryFirst 158 = .ok (.iload_n 2, 1) := by decide +kernel
theorem dX0_tryFirst_159 : decode cX0_tryFirst 159 = .ok (.iload 4, 2) := by decide +kernel
theorem dX0_tryFirst_161 : decode cX0_tryFirst 161 = .ok (.aload_n 0, 1) := by decide +kernel
theorem dX0_tryFirst_162 : decode cX0_tryFirst 162 = .ok (.getfield 27, 3) := by decide +kernel
theorem dX0_tryFirst_165 : decode cX0_tryFirst 165 = .ok (.iload_n 3, 1) := by decide +kernel
theorem dX0_tryFirst_166 : decode cX0_tryFirst 166 = .ok (.iaload, 1) := by decide +kernel
theorem dX0_tryFirst_167 : decode cX0_tryFirst 167 = .ok (.iadd, 1) := by decide +kernel
theorem dX0_tryFirst_168 : decode cX0_tryFirst 168 = .ok (.iastore, 1) := by decide +kernel
theorem dX0_tryFirst_169 : decode cX0_tryFirst 169 = .ok (.return_, 1) := by decide +kernel
theorem dX0_lineUp_0 : decode cX0_lineUp 0 = .ok (.iload_n 1, 1) := by decide +kernel
theorem dX0_lineUp_1 : decode cX0_lineUp 1 = .ok (.istore_n 2, 1) := by decide +kernel
theorem dX0_lineUp_2 : decode cX0_lineUp 2 = .ok (.iconst 0, 1) := by decide +kernel
theorem dX0_lineUp_3 : decode cX0_lineUp 3 = .ok (.istore_n 3, 1) := by decide +kernel
theorem dX0_lineUp_4 : decode cX0_lineUp 4 = .ok (.iload_n 3, 1) := by decide +kernel
theorem dX0_lineUp_5 : decode cX0_lineUp 5 = .ok (.bipush 8, 2) := by decide +kernel
theorem dX0_lineUp_7 : decode cX0_lineUp 7 = .ok (.if_icmp .ge 77, 3) := by decide +kernel
theorem dX0_lineUp_10 : decode cX0_lineUp 10 = .ok (.iload_n 2, 1) := by decide +kernel
theorem dX0_lineUp_11 : decode cX0_lineUp 11 = .ok (.ifCond .le 73, 3) := by decide +kernel
theorem dX0_lineUp_14 : decode cX0_lineUp 14 = .ok (.iload_n 2, 1) := by decide +kernel
theorem dX0_lineUp_15 : decode cX0_lineUp 15 = .ok (.sipush 256, 3) := by decide +kernel
theorem dX0_lineUp_18 : decode cX0_lineUp 18 = .ok (.if_icmp .ge 66, 3) := by decide +kernel
theorem dX0_lineUp_21 : decode cX0_lineUp 21 = .ok (.aload_n 0, 1) := by decide +kernel
theorem dX0_lineUp_22 : decode cX0_lineUp 22 = .ok (.getfield 24, 3) := by decide +kernel
theorem dX0_lineUp_25 : decode cX0_lineUp 25 = .ok (.iload_n 2, 1) := by decide +kernel
theorem dX0_lineUp_26 : decode cX0_lineUp 26 = .ok (.iaload, 1) := by decide +kernel
theorem dX0_lineUp_27 : decode cX0_lineUp 27 = .ok (.sipush 255, 3) := by decide +kernel
theorem dX0_lineUp_30 : decode cX0_lineUp 30 = .ok (.iand, 1) := by decide +kernel
theorem dX0_lineUp_31 : decode cX0_lineUp 31 = .ok (.istore 4, 2) := by decide +kernel
theorem dX0_lineUp_33 : decode cX0_lineUp 33 = .ok (.aload_n 0, 1) := by decide +kernel
theorem dX0_lineUp_34 : decode cX0_lineUp 34 = .ok (.getfield 30, 3) := by decide +kernel
theorem dX0_lineUp_37 : decode cX0_lineUp 37 = .ok (.iload_n 3, 1) := by decide +kernel
theorem dX0_lineUp_38 : decode cX0_lineUp 38 = .ok (.aload_n 0, 1) := by decide +kernel
theorem dX0_lineUp_39 : decode cX0_lineUp 39 = .ok (.getfield 9, 3) := by decide +kernel
theorem dX0_lineUp_42 : decode cX0_lineUp 42 = .ok (.iload 4, 2) := by decide +kernel
theorem dX0_lineUp_44 : decode cX0_lineUp 44 = .ok (.iaload, 1) := by decide +kernel
theorem dX0_lineUp_45 : decode cX0_lineUp 45 = .ok (.iconst 1, 1) := by decide +kernel
theorem dX0_lineUp_46 : decode cX0_lineUp 46 = .ok (.if_icmp .ne 12, 3) := by decide +kernel
theorem dX0_lineUp_49 : decode cX0_lineUp 49 = .ok (.iload 4, 2) := by decide +kernel
theorem dX0_lineUp_51 : decode cX0_lineUp 51 = .ok (.sipush 256, 3) := by decide +kernel
theorem dX0_lineUp_54 : decode cX0_lineUp 54 = .ok (.iadd, 1) := by decide +kernel
theorem dX0_lineUp_55 : decode cX0_lineUp 55 = .ok (.goto 5, 3) := by decide +kernel
theorem dX0_lineUp_58 : decode cX0_lineUp 58 = .ok (.iload 4, 2) := by decide +kernel
theorem dX0_lineUp_60 : decode cX0_lineUp 60 = .ok (.iastore, 1) := by decide +kernel
theorem dX0_lineUp_61 : decode cX0_lineUp 61 = .ok (.iload_n 2, 1) := by decide +kernel
theorem dX0_lineUp_62 : decode cX0_lineUp 62 = .ok (.iload 4, 2) := by decide +kernel
theorem dX0_lineUp_64 : decode cX0_lineUp 64 = .ok (.iconst (-1), 1) := by decide +kernel
theorem dX0_lineUp_65 : decode cX0_lineUp 65 = .ok (.ixor, 1) := by decide +kernel
theorem dX0_lineUp_66 : decode cX0_lineUp 66 = .ok (.iand, 1) := by decide +kernel
theorem dX0_lineUp_67 : decode cX0_lineUp 67 = .ok (.istore_n 2, 1) := by decide +kernel
theorem dX0_lineUp_68 : decode cX0_lineUp 68 = .ok (.aload_n 0, 1) := by decide +kernel
theorem dX0_lineUp_69 : decode cX0_lineUp 69 = .ok (.dup, 1) := by decide +kernel
theorem dX0_lineUp_70 : decode cX0_lineUp 70 = .ok (.getfield 70, 3) := by decide +kernel
theorem dX0_lineUp_73 : decode cX0_lineUp 73 = .ok (.iconst 1, 1) := by decide +kernel
theorem dX0_lineUp_74 : decode cX0_lineUp 74 = .ok (.iadd, 1) := by decide +kernel
theorem dX0_lineUp_75 : decode cX0_lineUp 75 = .ok (.putfield 70, 3) := by decide +kernel
theorem dX0_lineUp_78 : decode cX0_lineUp 78 = .ok (.iinc 3 1, 3) := by decide +kernel
theorem dX0_lineUp_81 : decode cX0_lineUp 81 = .ok (.goto (-77), 3) := by decide +kernel
theorem dX0_lineUp_84 : decode cX0_lineUp 84 = .ok (.return_, 1) := by decide +kernel
theorem dX1_init_0 : decode cX1_init 0 = .ok (.aload_n 0, 1) := by decide +kernel
theorem dX1_init_1 : decode cX1_init 1 = .ok (.invokespecial 3, 3) := by decide +kernel
theorem dX1_init_4 : decode cX1_init 4 = .ok (.aload_n 0, 1) := by decide +kernel
theorem dX1_init_5 : decode cX1_init 5 = .ok (.sipush 200, 3) := by decide +kernel
theorem dX1_init_8 : decode cX1_init 8 = .ok (.newarray .int, 2) := by decide +kernel
theorem dX1_init_10 : decode cX1_init 10 = .ok (.putfield 9, 3) := by decide +kernel
theorem dX1_init_13 : decode cX1_init 13 = .ok (.aload_n 0, 1) := by decide +kernel
theorem dX1_init_14 : decode cX1_init 14 = .ok (.bipush 8, 2) := by decide +kernel
theorem dX1_init_16 : decode cX1_init 16 = .ok (.newarray .int, 2) := by decide +kernel
theorem dX1_init_18 : decode cX1_init 18 = .ok (.putfield 15, 3) := by decide +kernel
theorem dX1_init_21 : decode cX1_init 21 = .ok (.aload_n 0, 1) := by decide +kernel
theorem dX1_init_22 : decode cX1_init 22 = .ok (.bipush 8, 2) := by decide +kernel
theorem dX1_init_24 : decode cX1_init 24 = .ok (.newarray .int, 2) := by decide +kernel
theorem dX1_init_26 : decode cX1_init 26 = .ok (.putfield 18, 3) := by decide +kernel
theorem dX1_init_29 : decode cX1_init 29 = .ok (.aload_n 0, 1) := by decide +kernel
theorem dX1_init_30 : decode cX1_init 30 = .ok (.iconst 0, 1) := by decide +kernel
theorem dX1_init_31 : decode cX1_init 31 = .ok (.putfield 21, 3) := by decide +kernel
theorem dX1_init_34 : decode cX1_init 34 = .ok (.aload_n 0, 1) := by decide +kernel
theorem dX1_init_35 : decode cX1_init 35 = .ok (.aload_n 1, 1) := by decide +kernel
theorem dX1_init_36 : decode cX1_init 36 = .ok (.putfield 25, 3) := by decide +kernel
theorem dX1_init_39 : decode cX1_init 39 = .ok (.aload_n 0, 1) := by decide +kernel
theorem dX1_init_40 : decode cX1_init 40 = .ok (.aload_n 2, 1) := by decide +kernel
theorem dX1_init_41 : decode cX1_init 41 = .ok (.putfield 29, 3) := by decide +kernel
theorem dX1_init_44 : decode cX1_init 44 = .ok (.return_, 1) := by decide +kernel
theorem dX1_goThrough_0 : decode cX1_goThrough 0 = .ok (.aload_n 0, 1) := by decide +kernel
theorem dX1_goThrough_1 : decode cX1_goThrough 1 = .ok (.getfield 21, 3) := by decide +kernel
theorem dX1_goThrough_4 : decode cX1_goThrough 4 = .ok (.ifCond .eq 4, 3) := by decide +kernel
theorem dX1_goThrough_7 : decode cX1_goThrough 7 = .ok (.return_, 1) := by decide +kernel
theorem dX1_goThrough_8 : decode cX1_goThrough 8 = .ok (.aload_n 0, 1) := by decide +kernel
theorem dX1_goThrough_9 : decode cX1_goThrough 9 = .ok (.iconst 1, 1) := by decide +kernel
theorem dX1_goThrough_10 : decode cX1_goThrough 10 = .ok (.putfield 21, 3) := by decide +kernel
theorem dX1_goThrough_13 : decode cX1_goThrough 13 = .ok (.aload_n 0, 1) := by decide +kernel
theorem dX1_goThrough_14 : decode cX1_goThrough 14 = .ok (.iconst 0, 1) := by decide +kernel
theorem dX1_goThrough_15 : decode cX1_goThrough 15 = .ok (.putfield 33, 3) := by decide +kernel
theorem dX1_goThrough_18 : decode cX1_goThrough 18 = .ok (.aload_n 0, 1) := by decide +kernel
theorem dX1_goThrough_19 : decode cX1_goThrough 19 = .ok (.iconst 0, 1) := by decide +kernel
theorem dX1_goThrough_20 : decode cX1_goThrough 20 = .ok (.putfield 37, 3) := by decide +kernel
theorem dX1_goThrough_23 : decode cX1_goThrough 23 = .ok (.aload_n 0, 1) := by decide +kernel
theorem dX1_goThrough_24 : decode cX1_goThrough 24 = .ok (.iconst (-1), 1) := by decide +kernel
theorem dX1_goThrough_25 : decode cX1_goThrough 25 = .ok (.putfield 40, 3) := by decide +kernel
theorem dX1_goThrough_28 : decode cX1_goThrough 28 = .ok (.aload_n 0, 1) := by decide +kernel
theorem dX1_goThrough_29 : decode cX1_goThrough 29 = .ok (.getfield 15, 3) := by decide +kernel
theorem dX1_goThrough_32 : decode cX1_goThrough 32 = .ok (.iconst (-1), 1) := by decide +kernel
theorem dX1_goThrough_33 : decode cX1_goThrough 33 = .ok (.invokestatic 43, 3) := by decide +kernel
theorem dX1_goThrough_36 : decode cX1_goThrough 36 = .ok (.aload_n 0, 1) := by decide +kernel
theorem dX1_goThrough_37 : decode cX1_goThrough 37 = .ok (.getfield 18, 3) := by decide +kernel
theorem dX1_goThrough_40 : decode cX1_goThrough 40 = .ok (.iconst (-1), 1) := by decide +kernel
theorem dX1_goThrough_41 : decode cX1_goThrough 41 = .ok (.invokestatic 43, 3) := by decide +kernel
theorem dX1_goThrough_44 : decode cX1_goThrough 44 = .ok (.iconst 0, 1) := by decide +kernel
theorem dX1_goThrough_45 : decode cX1_goThrough 45 = .ok (.istore_n 1, 1) := by decide +kernel
theorem dX1_goThrough_46 : decode cX1_goThrough 46 = .ok (.iload_n 1, 1) := by decide +kernel
theorem dX1_goThrough_47 : decode cX1_goThrough 47 = .ok (.sipush 200, 3) := by decide +kernel
theorem dX1_goThrough_50 : decode cX1_goThrough 50 = .ok (.if_icmp .ge 68, 3) := by decide +kernel
theorem dX1_goThrough_53 : decode cX1_goThrough 53 = .ok (.aload_n 0, 1) := by decide +kernel
theorem dX1_goThrough_54 : decode cX1_goThrough 54 = .ok (.iload_n 1, 1) := by decide +kernel
theorem dX1_goThrough_55 : decode cX1_goThrough 55 = .ok (.invokevirtual 49, 3) := by decide +kernel
theorem dX1_goThrough_58 : decode cX1_goThrough 58 = .ok (.istore_n 2, 1) := by decide +kernel
theorem dX1_goThrough_59 : decode cX1_goThrough 59 = .ok (.iload_n 2, 1) := by decide +kernel
theorem dX1_goThrough_60 : decode cX1_goThrough 60 = .ok (.iconst (-1), 1) := by decide +kernel
theorem dX1_goThrough_61 : decode cX1_goThrough 61 = .ok (.if_icmp .ne 35, 3) := by decide +kernel
theorem dX1_goThrough_64 : decode cX1_goThrough 64 = .ok (.aload_n 0, 1) := by decide +kernel
theorem dX1_goThrough_65 : decode cX1_goThrough 65 = .ok (.aload_n 0, 1) := by decide +kernel
theorem dX1_goThrough_66 : decode cX1_goThrough 66 = .ok (.getfield 37, 3) := by decide +kernel
theorem dX1_goThrough_69 : decode cX1_goThrough 69 = .ok (.ifCond .ne 7, 3) := by decide +kernel
theorem dX1_goThrough_72 : decode cX1_goThrough 72 = .ok (.iload_n 1, 1) := by decide +kernel
theorem dX1_goThrough_73 : decode cX1_goThrough 73 = .ok (.goto 7, 3) := by decide +kernel
theorem dX1_goThrough_76 : decode cX1_goThrough 76 = .ok (.aload_n 0, 1) := by decide +kernel
theorem dX1_goThrough_77 : decode cX1_goThrough 77 = .ok (.getfield 40, 3) := by decide +kernel
theorem dX1_goThrough_80 : decode cX1_goThrough 80 = .ok (.putfield 40, 3) := by decide +kernel
theorem dX1_goThrough_83 : decode cX1_goThrough 83 = .ok (.aload_n 0, 1) := by decide +kernel
theorem dX1_goThrough_84 : decode cX1_goThrough 84 = .ok (.dup, 1) := by decide +kernel
theorem dX1_goThrough_85 : decode cX1_goThrough 85 = .ok (.getfield 37, 3) := by decide +kernel
theorem dX1_goThrough_88 : decode cX1_goThrough 88 = .ok (.iconst 1, 1) := by decide +kernel
theorem dX1_goThrough_89 : decode cX1_goThrough 89 = .ok (.iadd, 1) := by decide +kernel
theorem dX1_goThrough_90 : decode cX1_goThrough 90 = .ok (.putfield 37, 3) := by decide +kernel
theorem dX1_goThrough_93 : decode cX1_goThrough 93 = .ok (.goto 9, 3) := by decide +kernel
theorem dX1_goThrough_96 : decode cX1_goThrough 96 = .ok (.aload_n 0, 1) := by decide +kernel
theorem dX1_goThrough_97 : decode cX1_goThrough 97 = .ok (.iload_n 2, 1) := by decide +kernel
theorem dX1_goThrough_98 : decode cX1_goThrough 98 = .ok (.iload_n 1, 1) := by decide +kernel
theorem dX1_goThrough_99 : decode cX1_goThrough 99 = .ok (.invokevirtual 53, 3) := by decide +kernel
theorem dX1_goThrough_102 : decode cX1_goThrough 102 = .ok (.aload_n 0, 1) := by decide +kernel
theorem dX1_goThrough_103 : decode cX1_goThrough 103 = .ok (.getfield 9, 3) := by decide +kernel
theorem dX1_goThrough_106 : decode cX1_goThrough 106 = .ok (.iload_n 1, 1) := by decide +kernel
theorem dX1_goThrough_107 : decode cX1_goThrough 107 = .ok (.aload_n 0, 1) := by decide +kernel
theorem dX1_goThrough_108 : decode cX1_goThrough 108 = .ok (.getfield 33, 3) := by decide +kernel
theorem dX1_goThrough_111 : decode cX1_goThrough 111 = .ok (.iastore, 1) := by decide +kernel
theorem dX1_goThrough_112 : decode cX1_goThrough 112 = .ok (.iinc 1 1, 3) := by decide +kernel
theorem dX1_goThrough_115 : decode cX1_goThrough 115 = .ok (.goto (-69), 3) := by decide +kernel
theorem dX1_goThrough_118 : decode cX1_goThrough 118 = .ok (.return_, 1) := by decide +kernel
theorem dX1_bestSteps_0 : decode cX1_bestSteps 0 = .ok (.aload_n 0, 1) := by decide +kernel
theorem dX1_bestSteps_1 : decode cX1_bestSteps 1 = .ok (.iload_n 1, 1) := by decide +kernel
theorem dX1_bestSteps_2 : decode cX1_bestSteps 2 = .ok (.invokevirtual 57, 3) := by decide +kernel
theorem dX1_bestSteps_5 : decode cX1_bestSteps 5 = .ok (.istore_n 2, 1) := by decide +kernel
theorem dX1_bestSteps_6 : decode cX1_bestSteps 6 = .ok (.aload_n 0, 1) := by decide +kernel
theorem dX1_bestSteps_7 : decode cX1_bestSteps 7 = .ok (.iload_n 1, 1) := by decide +kernel
theorem dX1_bestSteps_8 : decode cX1_bestSteps 8 = .ok (.invokevirtual 60, 3) := by decide +kernel
theorem dX1_bestSteps_11 : decode cX1_bestSteps 11 = .ok (.istore_n 3, 1) := by decide +kernel
theorem dX1_bestSteps_12 : decode cX1_bestSteps 12 = .ok (.iconst (-1), 1) := by decide +kernel
theorem dX1_bestSteps_13 : decode cX1_bestSteps 13 = .ok (.istore 4, 2) := by decide +kernel
theorem dX1_bestSteps_15 : decode cX1_bestSteps 15 = .ok (.iconst 0, 1) := by decide +kernel
theorem dX1_bestSteps_16 : decode cX1_bestSteps 16 = .ok (.istore 5, 2) := by decide +kernel
theorem dX1_bestSteps_18 : decode cX1_bestSteps 18 = .ok (.iload 5, 2) := by decide +kernel
theorem dX1_bestSteps_20 : decode cX1_bestSteps 20 = .ok (.iload_n 2, 1) := by decide +kernel
theorem dX1_bestSteps_21 : decode cX1_bestSteps 21 = .ok (.if_icmp .gt 108, 3) := by decide +kernel
theorem dX1_bestSteps_24 : decode cX1_bestSteps 24 = .ok (.iload 4, 2) := by decide +kernel
theorem dX1_bestSteps_26 : decode cX1_bestSteps 26 = .ok (.iconst (-1), 1) := by decide +kernel
theorem dX1_bestSteps_27 : decode cX1_bestSteps 27 = .ok (.if_icmp .eq 16, 3) := by decide +kernel
theorem dX1_bestSteps_30 : decode cX1_bestSteps 30 = .ok (.iload 5, 2) := by decide +kernel
theorem dX1_bestSteps_32 : decode cX1_bestSteps 32 = .ok (.invokestatic 63, 3) := by decide +kernel
theorem dX1_bestSteps_35 : decode cX1_bestSteps 35 = .ok (.iload 4, 2) := by decide +kernel
theorem dX1_bestSteps_37 : decode cX1_bestSteps 37 = .ok (.invokestatic 63, 3) := by decide +kernel
theorem dX1_bestSteps_40 : decode cX1_bestSteps 40 = .ok (.if_icmp .le 7, 3) := by decide +kernel
theorem dX1_bestSteps_43 : decode cX1_bestSteps 43 = .ok (.iconst 1, 1) := by decide +kernel
theorem dX1_bestSteps_44 : decode cX1_bestSteps 44 = .ok (.goto 4, 3) := by decide +kernel
theorem dX1_bestSteps_47 : decode cX1_bestSteps 47 = .ok (.iconst 0, 1) := by decide +kernel
theorem dX1_bestSteps_48 : decode cX1_bestSteps 48 = .ok (.istore 6, 2) := by decide +kernel
theorem dX1_bestSteps_50 : decode cX1_bestSteps 50 = .ok (.iload 6, 2) := by decide +kernel
theorem dX1_bestSteps_52 : decode cX1_bestSteps 52 = .ok (.ifCond .eq 71, 3) := by decide +kernel
theorem dX1_bestSteps_55 : decode cX1_bestSteps 55 = .ok (.iload 5, 2) := by decide +kernel
theorem dX1_bestSteps_57 : decode cX1_bestSteps 57 = .ok (.iload_n 2, 1) := by decide +kernel
theorem dX1_bestSteps_58 : decode cX1_bestSteps 58 = .ok (.iconst (-1), 1) := by decide +kernel
theorem dX1_bestSteps_59 : decode cX1_bestSteps 59 = .ok (.ixor, 1) := by decide +kernel
theorem dX1_bestSteps_60 : decode cX1_bestSteps 60 = .ok (.iand, 1) := by decide +kernel
theorem dX1_bestSteps_61 : decode cX1_bestSteps 61 = .ok (.ifCond .ne 62, 3) := by decide +kernel
theorem dX1_bestSteps_64 : decode cX1_bestSteps 64 = .ok (.aload_n 0, 1) := by decide +kernel
theorem dX1_bestSteps_65 : decode cX1_bestSteps 65 = .ok (.getfield 33, 3) := by decide +kernel
theorem dX1_bestSteps_68 : decode cX1_bestSteps 68 = .ok (.iload 5, 2) := by decide +kernel
theorem dX1_bestSteps_70 : decode cX1_bestSteps 70 = .ok (.ixor, 1) := by decide +kernel
theorem dX1_bestSteps_71 : decode cX1_bestSteps 71 = .ok (.iload_n 3, 1) := by decide +kernel
theorem dX1_bestSteps_72 : decode cX1_bestSteps 72 = .ok (.iand, 1) := by decide +kernel
theorem dX1_bestSteps_73 : decode cX1_bestSteps 73 = .ok (.istore 7, 2) := by decide +kernel
theorem dX1_bestSteps_75 : decode cX1_bestSteps 75 = .ok (.aload_n 0, 1) := by decide +kernel
theorem dX1_bestSteps_76 : decode cX1_bestSteps 76 = .ok (.getfield 33, 3) := by decide +kernel
theorem dX1_bestSteps_79 : decode cX1_bestSteps 79 = .ok (.iload 5, 2) := by decide +kernel
theorem dX1_bestSteps_81 : decode cX1_bestSteps 81 = .ok (.ixor, 1) := by decide +kernel
theorem dX1_bestSteps_82 : decode cX1_bestSteps 82 = .ok (.iload_n 3, 1) := by decide +kernel
theorem dX1_bestSteps_83 : decode cX1_bestSteps 83 = .ok (.iconst (-1), 1) := by decide +kernel
theorem dX1_bestSteps_84 : decode cX1_bestSteps 84 = .ok (.ixor, 1) := by decide +kernel
theorem dX1_bestSteps_85 : decode cX1_bestSteps 85 = .ok (.iand, 1) := by decide +kernel
theorem dX1_bestSteps_86 : decode cX1_bestSteps 86 = .ok (.istore 8, 2) := by decide +kernel
theorem dX1_bestSteps_88 : decode cX1_bestSteps 88 = .ok (.aload_n 0, 1) := by decide +kernel
theorem dX1_bestSteps_89 : decode cX1_bestSteps 89 = .ok (.getfield 29, 3) := by decide +kernel
theorem dX1_bestSteps_92 : decode cX1_bestSteps 92 = .ok (.iload 7, 2) := by decide +kernel
theorem dX1_bestSteps_94 : decode cX1_bestSteps 94 = .ok (.iload_n 1, 1) := by decide +kernel
theorem dX1_bestSteps_95 : decode cX1_bestSteps 95 = .ok (.invokevirtual 68, 3) := by decide +kernel
theorem dX1_bestSteps_98 : decode cX1_bestSteps 98 = .ok (.ifCond .eq 21, 3) := by decide +kernel
theorem dX1_bestSteps_101 : decode cX1_bestSteps 101 = .ok (.aload_n 0, 1) := by decide +kernel
theorem dX1_bestSteps_102 : decode cX1_bestSteps 102 = .ok (.getfield 29, 3) := by decide +kernel
theorem dX1_bestSteps_105 : decode cX1_bestSteps 105 = .ok (.iload 8, 2) := by decide +kernel
theorem dX1_bestSteps_107 : decode cX1_bestSteps 107 = .ok (.iload_n 1, 1) := by decide +kernel
theorem dX1_bestSteps_108 : decode cX1_bestSteps 108 = .ok (.invokevirtual 68, 3) := by decide +kernel
theorem dX1_bestSteps_111 : decode cX1_bestSteps 111 = .ok (.ifCond .eq 8, 3) := by decide +kernel
theorem dX1_bestSteps_114 : decode cX1_bestSteps 114 = .ok (.iload 5, 2) := by decide +kernel
theorem dX1_bestSteps_116 : decode cX1_bestSteps 116 = .ok (.goto 5, 3) := by decide +kernel
theorem dX1_bestSteps_119 : decode cX1_bestSteps 119 = .ok (.iload 4, 2) := by decide +kernel
theorem dX1_bestSteps_121 : decode cX1_bestSteps 121 = .ok (.istore 4, 2) := by decide +kernel
theorem dX1_bestSteps_123 : decode cX1_bestSteps 123 = .ok (.iinc 5 1, 3) := by decide +kernel
theorem dX1_bestSteps_126 : decode cX1_bestSteps 126 = .ok (.goto (-108), 3) := by decide +kernel
theorem dX1_bestSteps_129 : decode cX1_bestSteps 129 = .ok (.iload 4, 2) := by decide +kernel
theorem dX1_bestSteps_131 : decode cX1_bestSteps 131 = .ok (.ireturn, 1) := by decide +kernel
theorem dX1_mayStep_0 : decode cX1_mayStep 0 = .ok (.iconst 0, 1) := by decide +kernel
theorem dX1_mayStep_1 : decode cX1_mayStep 1 = .ok (.istore_n 2, 1) := by decide +kernel
theorem dX1_mayStep_2 : decode cX1_mayStep 2 = .ok (.iconst 0, 1) := by decide +kernel
theorem dX1_mayStep_3 : decode cX1_mayStep 3 = .ok (.istore_n 3, 1) := by decide +kernel
theorem dX1_mayStep_4 : decode cX1_mayStep 4 = .ok (.iload_n 3, 1) := by decide +kernel
theorem dX1_mayStep_5 : decode cX1_mayStep 5 = .ok (.aload_n 0, 1) := by decide +kernel
theorem dX1_mayStep_6 : decode cX1_mayStep 6 = .ok (.getfield 25, 3) := by decide +kernel
theorem dX1_mayStep_9 : decode cX1_mayStep 9 = .ok (.getfield 74, 3) := by decide +kernel
theorem dX1_mayStep_12 : decode cX1_mayStep 12 = .ok (.if_icmp .ge 99, 3) := by decide +kernel
theorem dX1_mayStep_15 : decode cX1_mayStep 15 = .ok (.iload_n 3, 1) := by decide +kernel
theorem dX1_mayStep_16 : decode cX1_mayStep 16 = .ok (.bipush 8, 2) := by decide +kernel
theorem dX1_mayStep_18 : decode cX1_mayStep 18 = .ok (.if_icmp .ge 93, 3) := by decide +kernel
theorem dX1_mayStep_21 : decode cX1_mayStep 21 = .ok (.aload_n 0, 1) := by decide +kernel
theorem dX1_mayStep_22 : decode cX1_mayStep 22 = .ok (.getfield 33, 3) := by decide +kernel
theorem dX1_mayStep_25 : decode cX1_mayStep 25 = .ok (.iload_n 3, 1) := by decide +kernel
theorem dX1_mayStep_26 : decode cX1_mayStep 26 = .ok (.invokestatic 79, 3) := by decide +kernel
theorem dX1_mayStep_29 : decode cX1_mayStep 29 = .ok (.ifCond .eq 27, 3) := by decide +kernel
theorem dX1_mayStep_32 : decode cX1_mayStep 32 = .ok (.iload_n 1, 1) := by decide +kernel
theorem dX1_mayStep_33 : decode cX1_mayStep 33 = .ok (.aload_n 0, 1) := by decide +kernel
theorem dX1_mayStep_34 : decode cX1_mayStep 34 = .ok (.getfield 15, 3) := by decide +kernel
theorem dX1_mayStep_37 : decode cX1_mayStep 37 = .ok (.iload_n 3, 1) := by decide +kernel
theorem dX1_mayStep_38 : decode cX1_mayStep 38 = .ok (.iaload, 1) := by decide +kernel
theorem dX1_mayStep_39 : decode cX1_mayStep 39 = .ok (.isub, 1) := by decide +kernel
theorem dX1_mayStep_40 : decode cX1_mayStep 40 = .ok (.aload_n 0, 1) := by decide +kernel
theorem dX1_mayStep_41 : decode cX1_mayStep 41 = .ok (.getfield 25, 3) := by decide +kernel
theorem dX1_mayStep_44 : decode cX1_mayStep 44 = .ok (.getfield 82, 3) := by decide +kernel
theorem dX1_mayStep_47 : decode cX1_mayStep 47 = .ok (.iload_n 3, 1) := by decide +kernel
theorem dX1_mayStep_48 : decode cX1_mayStep 48 = .ok (.iaload, 1) := by decide +kernel
theorem dX1_mayStep_49 : decode cX1_mayStep 49 = .ok (.if_icmp .lt 7, 3) := by decide +kernel
theorem dX1_mayStep_52 : decode cX1_mayStep 52 = .ok (.iconst 1, 1) := by decide +kernel
theorem dX1_mayStep_53 : decode cX1_mayStep 53 = .ok (.goto 4, 3) := by decide +kernel
theorem dX1_mayStep_56 : decode cX1_mayStep 56 = .ok (.iconst 0, 1) := by decide +kernel
theorem dX1_mayStep_57 : decode cX1_mayStep 57 = .ok (.istore 4, 2) := by decide +kernel
theorem dX1_mayStep_59 : decode cX1_mayStep 59 = .ok (.aload_n 0, 1) := by decide +kernel
theorem dX1_mayStep_60 : decode cX1_mayStep 60 = .ok (.getfield 15, 3) := by decide +kernel
theorem dX1_mayStep_63 : decode cX1_mayStep 63 = .ok (.iload_n 3, 1) := by decide +kernel
theorem dX1_mayStep_64 : decode cX1_mayStep 64 = .ok (.iaload, 1) := by decide +kernel
theorem dX1_mayStep_65 : decode cX1_mayStep 65 = .ok (.iconst (-1), 1) := by decide +kernel
theorem dX1_mayStep_66 : decode cX1_mayStep 66 = .ok (.if_icmp .ne 20, 3) := by decide +kernel
theorem dX1_mayStep_69 : decode cX1_mayStep 69 = .ok (.aload_n 0, 1) := by decide +kernel
theorem dX1_mayStep_70 : decode cX1_mayStep 70 = .ok (.getfield 25, 3) := by decide +kernel
theorem dX1_mayStep_73 : decode cX1_mayStep 73 = .ok (.getfield 85, 3) := by decide +kernel
theorem dX1_mayStep_76 : decode cX1_mayStep 76 = .ok (.iload_n 3, 1) := by decide +kernel
theorem dX1_mayStep_77 : decode cX1_mayStep 77 = .ok (.iaload, 1) := by decide +kernel
theorem dX1_mayStep_78 : decode cX1_mayStep 78 = .ok (.iload_n 1, 1) := by decide +kernel
theorem dX1_mayStep_79 : decode cX1_mayStep 79 = .ok (.if_icmp .gt 7, 3) := by decide +kernel
theorem dX1_mayStep_82 : decode cX1_mayStep 82 = .ok (.iconst 1, 1) := by decide +kernel
theorem dX1_mayStep_83 : decode cX1_mayStep 83 = .ok (.goto 4, 3) := by decide +kernel
theorem dX1_mayStep_86 : decode cX1_mayStep 86 = .ok (.iconst 0, 1) := by decide +kernel
theorem dX1_mayStep_87 : decode cX1_mayStep 87 = .ok (.istore 5, 2) := by decide +kernel
theorem dX1_mayStep_89 : decode cX1_mayStep 89 = .ok (.iload 4, 2) := by decide +kernel
theorem dX1_mayStep_91 : decode cX1_mayStep 91 = .ok (.ifCond .ne 8, 3) := by decide +kernel
theorem dX1_mayStep_94 : decode cX1_mayStep 94 = .ok (.iload 5, 2) := by decide +kernel
theorem dX1_mayStep_96 : decode cX1_mayStep 96 = .ok (.ifCond .eq 9, 3) := by decide +kernel
theorem dX1_mayStep_99 : decode cX1_mayStep 99 = .ok (.iload_n 2, 1) := by decide +kernel
theorem dX1_mayStep_100 : decode cX1_mayStep 100 = .ok (.iconst 1, 1) := by decide +kernel
theorem dX1_mayStep_101 : decode cX1_mayStep 101 = .ok (.iload_n 3, 1) := by decide +kernel
theorem dX1_mayStep_102 : decode cX1_mayStep 102 = .ok (.ishl, 1) := by decide +kernel
theorem dX1_mayStep_103 : decode cX1_mayStep 103 = .ok (.ior, 1) := by decide +kernel
theorem dX1_mayStep_104 : decode cX1_mayStep 104 = .ok (.istore_n 2, 1) := by decide +kernel
theorem dX1_mayStep_105 : decode cX1_mayStep 105 = .ok (.iinc 3 1, 3) := by decide +kernel
theorem dX1_mayStep_108 : decode cX1_mayStep 108 = .ok (.goto (-104), 3) := by decide +kernel
theorem dX1_mayStep_111 : decode cX1_mayStep 111 = .ok (.iload_n 2, 1) := by decide +kernel
theorem dX1_mayStep_112 : decode cX1_mayStep 112 = .ok (.ireturn, 1) := by decide +kernel
theorem dX1_aheadOfWall_0 : decode cX1_aheadOfWall 0 = .ok (.sipush 255, 3) := by decide +kernel
theorem dX1_aheadOfWall_3 : decode cX1_aheadOfWall 3 = .ok (.istore_n 2, 1) := by decide +kernel
theorem dX1_aheadOfWall_4 : decode cX1_aheadOfWall 4 = .ok (.iconst 0, 1) := by decide +kernel
theorem dX1_aheadOfWall_5 : decode cX1_aheadOfWall 5 = .ok (.istore_n 3, 1) := by decide +kernel
theorem dX1_aheadOfWall_6 : decode cX1_aheadOfWall 6 = .ok (.iload_n 3, 1) := by decide +kernel
theorem dX1_aheadOfWall_7 : decode cX1_aheadOfWall 7 = .ok (.bipush 8, 2) := by decide +kernel
theorem dX1_aheadOfWall_9 : decode cX1_aheadOfWall 9 = .ok (.if_icmp .ge 56, 3) := by decide +kernel
theorem dX1_aheadOfWall_12 : decode cX1_aheadOfWall 12 = .ok (.aload_n 0, 1) := by decide +kernel
theorem dX1_aheadOfWall_13 : decode cX1_aheadOfWall 13 = .ok (.getfield 25, 3) := by decide +kernel
theorem dX1_aheadOfWall_16 : decode cX1_aheadOfWall 16 = .ok (.getfield 88, 3) := by decide +kernel
theorem dX1_aheadOfWall_19 : decode cX1_aheadOfWall 19 = .ok (.ifCond .le 40, 3) := by decide +kernel
theorem dX1_aheadOfWall_22 : decode cX1_aheadOfWall 22 = .ok (.aload_n 0, 1) := by decide +kernel
theorem dX1_aheadOfWall_23 : decode cX1_aheadOfWall 23 = .ok (.getfield 33, 3) := by decide +kernel
theorem dX1_aheadOfWall_26 : decode cX1_aheadOfWall 26 = .ok (.iload_n 3, 1) := by decide +kernel
theorem dX1_aheadOfWall_27 : decode cX1_aheadOfWall 27 = .ok (.invokestatic 79, 3) := by decide +kernel
theorem dX1_aheadOfWall_30 : decode cX1_aheadOfWall 30 = .ok (.ifCond .eq 29, 3) := by decide +kernel
theorem dX1_aheadOfWall_33 : decode cX1_aheadOfWall 33 = .ok (.iload_n 1, 1) := by decide +kernel
theorem dX1_aheadOfWall_34 : decode cX1_aheadOfWall 34 = .ok (.aload_n 0, 1) := by decide +kernel
theorem dX1_aheadOfWall_35 : decode cX1_aheadOfWall 35 = .ok (.getfield 15, 3) := by decide +kernel
theorem dX1_aheadOfWall_38 : decode cX1_aheadOfWall 38 = .ok (.iload_n 3, 1) := by decide +kernel
theorem dX1_aheadOfWall_39 : decode cX1_aheadOfWall 39 = .ok (.iaload, 1) := by decide +kernel
theorem dX1_aheadOfWall_40 : decode cX1_aheadOfWall 40 = .ok (.isub, 1) := by decide +kernel
theorem dX1_aheadOfWall_41 : decode cX1_aheadOfWall 41 = .ok (.aload_n 0, 1) := by decide +kernel
theorem dX1_aheadOfWall_42 : decode cX1_aheadOfWall 42 = .ok (.getfield 25, 3) := by decide +kernel
theorem dX1_aheadOfWall_45 : decode cX1_aheadOfWall 45 = .ok (.getfield 88, 3) := by decide +kernel
theorem dX1_aheadOfWall_48 : decode cX1_aheadOfWall 48 = .ok (.if_icmp .lt 11, 3) := by decide +kernel
theorem dX1_aheadOfWall_51 : decode cX1_aheadOfWall 51 = .ok (.iload_n 2, 1) := by decide +kernel
theorem dX1_aheadOfWall_52 : decode cX1_aheadOfWall 52 = .ok (.iconst 1, 1) := by decide +kernel
theorem dX1_aheadOfWall_53 : decode cX1_aheadOfWall 53 = .ok (.iload_n 3, 1) := by decide +kernel
theorem dX1_aheadOfWall_54 : decode cX1_aheadOfWall 54 = .ok (.ishl, 1) := by decide +kernel
theorem dX1_aheadOfWall_55 : decode cX1_aheadOfWall 55 = .ok (.iconst (-1), 1) := by decide +kernel
theorem dX1_aheadOfWall_56 : decode cX1_aheadOfWall 56 = .ok (.ixor, 1) := by decide +kernel
theorem dX1_aheadOfWall_57 : decode cX1_aheadOfWall 57 = .ok (.iand, 1) := by decide +kernel
theorem dX1_aheadOfWall_58 : decode cX1_aheadOfWall 58 = .ok (.istore_n 2, 1) := by decide +kernel
theorem dX1_aheadOfWall_59 : decode cX1_aheadOfWall 59 = .ok (.iinc 3 1, 3) := by decide +kernel
theorem dX1_aheadOfWall_62 : decode cX1_aheadOfWall 62 = .ok (.goto (-56), 3) := by decide +kernel
theorem dX1_aheadOfWall_65 : decode cX1_aheadOfWall 65 = .ok (.iload_n 2, 1) := by decide +kernel
theorem dX1_aheadOfWall_66 : decode cX1_aheadOfWall 66 = .ok (.ireturn, 1) := by decide +kernel
theorem dX1_step_0 : decode cX1_step 0 = .ok (.iconst 0, 1) := by decide +kernel
theorem dX1_step_1 : decode cX1_step 1 = .ok (.istore_n 3, 1) := by decide +kernel
theorem dX1_step_2 : decode cX1_step 2 = .ok (.iload_n 3, 1) := by decide +kernel
theorem dX1_step_3 : decode cX1_step 3 = .ok (.bipush 8, 2) := by decide +kernel
theorem dX1_step_5 : decode cX1_step 5 = .ok (.if_icmp .ge 53, 3) := by decide +kernel
theorem dX1_step_8 : decode cX1_step 8 = .ok (.iload_n 1, 1) := by decide +kernel
theorem dX1_step_9 : decode cX1_step 9 = .ok (.iload_n 3, 1) := by decide +kernel
theorem dX1_step_10 : decode cX1_step 10 = .ok (.invokestatic 79, 3) := by decide +kernel
theorem dX1_step_13 : decode cX1_step 13 = .ok (.ifCond .eq 24, 3) := by decide +kernel
theorem dX1_step_16 : decode cX1_step 16 = .ok (.aload_n 0, 1) := by decide +kernel
theorem dX1_step_17 : decode cX1_step 17 = .ok (.getfield 33, 3) := by decide +kernel
theorem dX1_step_20 : decode cX1_step 20 = .ok (.iload_n 3, 1) := by decide +kernel
theorem dX1_step_21 : decode cX1_step 21 = .ok (.invokestatic 79, 3) := by decide +kernel
theorem dX1_step_24 : decode cX1_step 24 = .ok (.ifCond .eq 13, 3) := by decide +kernel
theorem dX1_step_27 : decode cX1_step 27 = .ok (.aload_n 0, 1) := by decide +kernel
theorem dX1_step_28 : decode cX1_step 28 = .ok (.getfield 18, 3) := by decide +kernel
theorem dX1_step_31 : decode cX1_step 31 = .ok (.iload_n 3, 1) := by decide +kernel
theorem dX1_step_32 : decode cX1_step 32 = .ok (.iload_n 2, 1) := by decide +kernel
theorem dX1_step_33 : decode cX1_step 33 = .ok (.iastore, 1) := by decide +kernel
theorem dX1_step_34 : decode cX1_step 34 = .ok (.goto 18, 3) := by decide +kernel
theorem dX1_step_37 : decode cX1_step 37 = .ok (.iload_n 1, 1) := by decide +kernel
theorem dX1_step_38 : decode cX1_step 38 = .ok (.iload_n 3, 1) := by decide +kernel
theorem dX1_step_39 : decode cX1_step 39 = .ok (.invokestatic 79, 3) := by decide +kernel
theorem dX1_step_42 : decode cX1_step 42 = .ok (.ifCond .eq 10, 3) := by decide +kernel
theorem dX1_step_45 : decode cX1_step 45 = .ok (.aload_n 0, 1) := by decide +kernel
theorem dX1_step_46 : decode cX1_step 46 = .ok (.getfield 15, 3) := by decide +kernel
theorem dX1_step_49 : decode cX1_step 49 = .ok (.iload_n 3, 1) := by decide +kernel
theorem dX1_step_50 : decode cX1_step 50 = .ok (.iload_n 2, 1) := by decide +kernel
theorem dX1_step_51 : decode cX1_step 51 = .ok (.iastore, 1) := by decide +kernel
theorem dX1_step_52 : decode cX1_step 52 = .ok (.iinc 3 1, 3) := by decide +kernel
theorem dX1_step_55 : decode cX1_step 55 = .ok (.goto (-53), 3) := by decide +kernel
theorem dX1_step_58 : decode cX1_step 58 = .ok (.aload_n 0, 1) := by decide +kernel
theorem dX1_step_59 : decode cX1_step 59 = .ok (.dup, 1) := by decide +kernel
theorem dX1_step_60 : decode cX1_step 60 = .ok (.getfield 33, 3) := by decide +kernel
theorem dX1_step_63 : decode cX1_step 63 = .ok (.iload_n 1, 1) := by decide +kernel
theorem dX1_step_64 : decode cX1_step 64 = .ok (.ixor, 1) := by decide +kernel
theorem dX1_step_65 : decode cX1_step 65 = .ok (.putfield 33, 3) := by decide +kernel
theorem dX1_step_68 : decode cX1_step 68 = .ok (.return_, 1) := by decide +kernel
theorem dX2_init_0 : decode cX2_init 0 = .ok (.aload_n 0, 1) := by decide +kernel
theorem dX2_init_1 : decode cX2_init 1 = .ok (.invokespecial 1, 3) := by decide +kernel
theorem dX2_init_4 : decode cX2_init 4 = .ok (.aload_n 0, 1) := by decide +kernel
theorem dX2_init_5 : decode cX2_init 5 = .ok (.lconst 0, 1) := by decide +kernel
theorem dX2_init_6 : decode cX2_init 6 = .ok (.putfield 7, 3) := by decide +kernel
theorem dX2_init_9 : decode cX2_init 9 = .ok (.aload_n 0, 1) := by decide +kernel
theorem dX2_init_10 : decode cX2_init 10 = .ok (.lconst 1, 1) := by decide +kernel
theorem dX2_init_11 : decode cX2_init 11 = .ok (.putfield 13, 3) := by decide +kernel
theorem dX2_init_14 : decode cX2_init 14 = .ok (.return_, 1) := by decide +kernel
theorem dX2_become_0 : decode cX2_become 0 = .ok (.lload_n 1, 1) := by decide +kernel
theorem dX2_become_1 : decode cX2_become 1 = .ok (.lload_n 3, 1) := by decide +kernel
theorem dX2_become_2 : decode cX2_become 2 = .ok (.invokestatic 16, 3) := by decide +kernel
theorem dX2_become_5 : decode cX2_become 5 = .ok (.lstore 5, 2) := by decide +kernel
theorem dX2_become_7 : decode cX2_become 7 = .ok (.lload 5, 2) := by decide +kernel
theorem dX2_become_9 : decode cX2_become 9 = .ok (.lconst 0, 1) := by decide +kernel
theorem dX2_become_10 : decode cX2_become 10 = .ok (.lcmp, 1) := by decide +kernel
theorem dX2_become_11 : decode cX2_become 11 = .ok (.ifCond .le 19, 3) := by decide +kernel
theorem dX2_become_14 : decode cX2_become 14 = .ok (.aload_n 0, 1) := by decide +kernel
theorem dX2_become_15 : decode cX2_become 15 = .ok (.lload_n 1, 1) := by decide +kernel
theorem dX2_become_16 : decode cX2_become 16 = .ok (.lload 5, 2) := by decide +kernel
theorem dX2_become_18 : decode cX2_become 18 = .ok (.ldiv, 1) := by decide +kernel
theorem dX2_become_19 : decode cX2_become 19 = .ok (.putfield 7, 3) := by decide +kernel
theorem dX2_become_22 : decode cX2_become 22 = .ok (.aload_n 0, 1) := by decide +kernel
theorem dX2_become_23 : decode cX2_become 23 = .ok (.lload_n 3, 1) := by decide +kernel
theorem dX2_become_24 : decode cX2_become 24 = .ok (.lload 5, 2) := by decide +kernel
theorem dX2_become_26 : decode cX2_become 26 = .ok (.ldiv, 1) := by decide +kernel
theorem dX2_become_27 : decode cX2_become 27 = .ok (.putfield 13, 3) := by decide +kernel
theorem dX2_become_30 : decode cX2_become 30 = .ok (.return_, 1) := by decide +kernel
theorem dX2_commonDivisor_0 : decode cX2_commonDivisor 0 = .ok (.lload_n 0, 1) := by decide +kernel
theorem dX2_commonDivisor_1 : decode cX2_commonDivisor 1 = .ok (.lstore 4, 2) := by decide +kernel
theorem dX2_commonDivisor_3 : decode cX2_commonDivisor 3 = .ok (.lload_n 2, 1) := by decide +kernel
theorem dX2_commonDivisor_4 : decode cX2_commonDivisor 4 = .ok (.lstore 6, 2) := by decide +kernel
theorem dX2_commonDivisor_6 : decode cX2_commonDivisor 6 = .ok (.iconst 0, 1) := by decide +kernel
theorem dX2_commonDivisor_7 : decode cX2_commonDivisor 7 = .ok (.istore 8, 2) := by decide +kernel
theorem dX2_commonDivisor_9 : decode cX2_commonDivisor 9 = .ok (.iload 8, 2) := by decide +kernel
theorem dX2_commonDivisor_11 : decode cX2_commonDivisor 11 = .ok (.bipush 100, 2) := by decide +kernel
theorem dX2_commonDivisor_13 : decode cX2_commonDivisor 13 = .ok (.if_icmp .ge 31, 3) := by decide +kernel
theorem dX2_commonDivisor_16 : decode cX2_commonDivisor 16 = .ok (.lload 6, 2) := by decide +kernel
theorem dX2_commonDivisor_18 : decode cX2_commonDivisor 18 = .ok (.lconst 0, 1) := by decide +kernel
theorem dX2_commonDivisor_19 : decode cX2_commonDivisor 19 = .ok (.lcmp, 1) := by decide +kernel
theorem dX2_commonDivisor_20 : decode cX2_commonDivisor 20 = .ok (.ifCond .eq 24, 3) := by decide +kernel
theorem dX2_commonDivisor_23 : decode cX2_commonDivisor 23 = .ok (.lload 4, 2) := by decide +kernel
theorem dX2_commonDivisor_25 : decode cX2_commonDivisor 25 = .ok (.lload 6, 2) := by decide +kernel
theorem dX2_commonDivisor_27 : decode cX2_commonDivisor 27 = .ok (.lrem, 1) := by decide +kernel
theorem dX2_commonDivisor_28 : decode cX2_commonDivisor 28 = .ok (.lstore 9, 2) := by decide +kernel
theorem dX2_commonDivisor_30 : decode cX2_commonDivisor 30 = .ok (.lload 6, 2) := by decide +kernel
theorem dX2_commonDivisor_32 : decode cX2_commonDivisor 32 = .ok (.lstore 4, 2) := by decide +kernel
theorem dX2_commonDivisor_34 : decode cX2_commonDivisor 34 = .ok (.lload 9, 2) := by decide +kernel
theorem dX2_commonDivisor_36 : decode cX2_commonDivisor 36 = .ok (.lstore 6, 2) := by decide +kernel
theorem dX2_commonDivisor_38 : decode cX2_commonDivisor 38 = .ok (.iinc 8 1, 3) := by decide +kernel
theorem dX2_commonDivisor_41 : decode cX2_commonDivisor 41 = .ok (.goto (-32), 3) := by decide +kernel
theorem dX2_commonDivisor_44 : decode cX2_commonDivisor 44 = .ok (.lload 4, 2) := by decide +kernel
theorem dX2_commonDivisor_46 : decode cX2_commonDivisor 46 = .ok (.lreturn, 1) := by decide +kernel
theorem dX3_init_0 : decode cX3_init 0 = .ok (.aload_n 0, 1) := by decide +kernel
theorem dX3_init_1 : decode cX3_init 1 = .ok (.invokespecial 3, 3) := by decide +kernel
theorem dX3_init_4 : decode cX3_init 4 = .ok (.aload_n 0, 1) := by decide +kernel
theorem dX3_init_5 : decode cX3_init 5 = .ok (.aload_n 1, 1) := by decide +kernel
theorem dX3_init_6 : decode cX3_init 6 = .ok (.putfield 9, 3) := by decide +kernel
theorem dX3_init_9 : decode cX3_init 9 = .ok (.aload_n 0, 1) := by decide +kernel
theorem dX3_init_10 : decode cX3_init 10 = .ok (.aload_n 2, 1) := by decide +kernel
theorem dX3_init_11 : decode cX3_init 11 = .ok (.putfield 15, 3) := by decide +kernel
theorem dX3_init_14 : decode cX3_init 14 = .ok (.return_, 1) := by decide +kernel
theorem dX3_onBut_0 : decode cX3_onBut 0 = .ok (.iconst 0, 1) := by decide +kernel
theorem dX3_onBut_1 : decode cX3_onBut 1 = .ok (.istore_n 3, 1) := by decide +kernel
theorem dX3_onBut_2 : decode cX3_onBut 2 = .ok (.iconst 0, 1) := by decide +kernel
theorem dX3_onBut_3 : decode cX3_onBut 3 = .ok (.istore 4, 2) := by decide +kernel
theorem dX3_onBut_5 : decode cX3_onBut 5 = .ok (.iload 4, 2) := by decide +kernel
theorem dX3_onBut_7 : decode cX3_onBut 7 = .ok (.aload_n 0, 1) := by decide +kernel
theorem dX3_onBut_8 : decode cX3_onBut 8 = .ok (.getfield 9, 3) := by decide +kernel
theorem dX3_onBut_11 : decode cX3_onBut 11 = .ok (.getfield 19, 3) := by decide +kernel
theorem dX3_onBut_14 : decode cX3_onBut 14 = .ok (.if_icmp .ge 68, 3) := by decide +kernel
theorem dX3_onBut_17 : decode cX3_onBut 17 = .ok (.iload 4, 2) := by decide +kernel
theorem dX3_onBut_19 : decode cX3_onBut 19 = .ok (.bipush 8, 2) := by decide +kernel
theorem dX3_onBut_21 : decode cX3_onBut 21 = .ok (.if_icmp .ge 61, 3) := by decide +kernel
theorem dX3_onBut_24 : decode cX3_onBut 24 = .ok (.iload_n 1, 1) := by decide +kernel
theorem dX3_onBut_25 : decode cX3_onBut 25 = .ok (.iload 4, 2) := by decide +kernel
theorem dX3_onBut_27 : decode cX3_onBut 27 = .ok (.invokestatic 25, 3) := by decide +kernel
theorem dX3_onBut_30 : decode cX3_onBut 30 = .ok (.ifCond .ne 46, 3) := by decide +kernel
theorem dX3_onBut_33 : decode cX3_onBut 33 = .ok (.aload_n 0, 1) := by decide +kernel
theorem dX3_onBut_34 : decode cX3_onBut 34 = .ok (.getfield 9, 3) := by decide +kernel
theorem dX3_onBut_37 : decode cX3_onBut 37 = .ok (.getfield 29, 3) := by decide +kernel
theorem dX3_onBut_40 : decode cX3_onBut 40 = .ok (.iload 4, 2) := by decide +kernel
theorem dX3_onBut_42 : decode cX3_onBut 42 = .ok (.iaload, 1) := by decide +kernel
theorem dX3_onBut_43 : decode cX3_onBut 43 = .ok (.iload_n 2, 1) := by decide +kernel
theorem dX3_onBut_44 : decode cX3_onBut 44 = .ok (.if_icmp .gt 32, 3) := by decide +kernel
theorem dX3_onBut_47 : decode cX3_onBut 47 = .ok (.iload_n 2, 1) := by decide +kernel
theorem dX3_onBut_48 : decode cX3_onBut 48 = .ok (.aload_n 0, 1) := by decide +kernel
theorem dX3_onBut_49 : decode cX3_onBut 49 = .ok (.getfield 9, 3) := by decide +kernel
theorem dX3_onBut_52 : decode cX3_onBut 52 = .ok (.getfield 33, 3) := by decide +kernel
theorem dX3_onBut_55 : decode cX3_onBut 55 = .ok (.iload 4, 2) := by decide +kernel
theorem dX3_onBut_57 : decode cX3_onBut 57 = .ok (.iaload, 1) := by decide +kernel
theorem dX3_onBut_58 : decode cX3_onBut 58 = .ok (.if_icmp .gt 18, 3) := by decide +kernel
theorem dX3_onBut_61 : decode cX3_onBut 61 = .ok (.iload_n 3, 1) := by decide +kernel
theorem dX3_onBut_62 : decode cX3_onBut 62 = .ok (.iconst 1, 1) := by decide +kernel
theorem dX3_onBut_63 : decode cX3_onBut 63 = .ok (.aload_n 0, 1) := by decide +kernel
theorem dX3_onBut_64 : decode cX3_onBut 64 = .ok (.getfield 9, 3) := by decide +kernel
theorem dX3_onBut_67 : decode cX3_onBut 67 = .ok (.getfield 36, 3) := by decide +kernel
theorem dX3_onBut_70 : decode cX3_onBut 70 = .ok (.iload 4, 2) := by decide +kernel
theorem dX3_onBut_72 : decode cX3_onBut 72 = .ok (.iaload, 1) := by decide +kernel
theorem dX3_onBut_73 : decode cX3_onBut 73 = .ok (.ishl, 1) := by decide +kernel
theorem dX3_onBut_74 : decode cX3_onBut 74 = .ok (.ior, 1) := by decide +kernel
theorem dX3_onBut_75 : decode cX3_onBut 75 = .ok (.istore_n 3, 1) := by decide +kernel
theorem dX3_onBut_76 : decode cX3_onBut 76 = .ok (.iinc 4 1, 3) := by decide +kernel
theorem dX3_onBut_79 : decode cX3_onBut 79 = .ok (.goto (-74), 3) := by decide +kernel
theorem dX3_onBut_82 : decode cX3_onBut 82 = .ok (.iload_n 3, 1) := by decide +kernel
theorem dX3_onBut_83 : decode cX3_onBut 83 = .ok (.ireturn, 1) := by decide +kernel
theorem dX3_minutesUnwell_0 : decode cX3_minutesUnwell 0 = .ok (.lconst 0, 1) := by decide +kernel
theorem dX3_minutesUnwell_1 : decode cX3_minutesUnwell 1 = .ok (.lstore_n 2, 1) := by decide +kernel
theorem dX3_minutesUnwell_2 : decode cX3_minutesUnwell 2 = .ok (.iconst 0, 1) := by decide +kernel
theorem dX3_minutesUnwell_3 : decode cX3_minutesUnwell 3 = .ok (.istore 4, 2) := by decide +kernel
theorem dX3_minutesUnwell_5 : decode cX3_minutesUnwell 5 = .ok (.iload 4, 2) := by decide +kernel
theorem dX3_minutesUnwell_7 : decode cX3_minutesUnwell 7 = .ok (.bipush 63, 2) := by decide +kernel
theorem dX3_minutesUnwell_9 : decode cX3_minutesUnwell 9 = .ok (.if_icmp .ge 35, 3) := by decide +kernel
theorem dX3_minutesUnwell_12 : decode cX3_minutesUnwell 12 = .ok (.aload_n 0, 1) := by decide +kernel
theorem dX3_minutesUnwell_13 : decode cX3_minutesUnwell 13 = .ok (.getfield 15, 3) := by decide +kernel
theorem dX3_minutesUnwell_16 : decode cX3_minutesUnwell 16 = .ok (.aload_n 0, 1) := by decide +kernel
theorem dX3_minutesUnwell_17 : decode cX3_minutesUnwell 17 = .ok (.iload_n 1, 1) := by decide +kernel
theorem dX3_minutesUnwell_18 : decode cX3_minutesUnwell 18 = .ok (.iload 4, 2) := by decide +kernel
theorem dX3_minutesUnwell_20 : decode cX3_minutesUnwell 20 = .ok (.invokevirtual 39, 3) := by decide +kernel
theorem dX3_minutesUnwell_23 : decode cX3_minutesUnwell 23 = .ok (.iload 4, 2) := by decide +kernel
theorem dX3_minutesUnwell_25 : decode cX3_minutesUnwell 25 = .ok (.invokevirtual 43, 3) := by decide +kernel
theorem dX3_minutesUnwell_28 : decode cX3_minutesUnwell 28 = .ok (.ifCond .ne 10, 3) := by decide +kernel
theorem dX3_minutesUnwell_31 : decode cX3_minutesUnwell 31 = .ok (.lload_n 2, 1) := by decide +kernel
theorem dX3_minutesUnwell_32 : decode cX3_minutesUnwell 32 = .ok (.lconst 1, 1) := by decide +kernel
theorem dX3_minutesUnwell_33 : decode cX3_minutesUnwell 33 = .ok (.iload 4, 2) := by decide +kernel
theorem dX3_minutesUnwell_35 : decode cX3_minutesUnwell 35 = .ok (.lshl, 1) := by decide +kernel
theorem dX3_minutesUnwell_36 : decode cX3_minutesUnwell 36 = .ok (.lor, 1) := by decide +kernel
theorem dX3_minutesUnwell_37 : decode cX3_minutesUnwell 37 = .ok (.lstore_n 2, 1) := by decide +kernel
theorem dX3_minutesUnwell_38 : decode cX3_minutesUnwell 38 = .ok (.iinc 4 1, 3) := by decide +kernel
theorem dX3_minutesUnwell_41 : decode cX3_minutesUnwell 41 = .ok (.goto (-36), 3) := by decide +kernel
theorem dX3_minutesUnwell_44 : decode cX3_minutesUnwell 44 = .ok (.lload_n 2, 1) := by decide +kernel
theorem dX3_minutesUnwell_45 : decode cX3_minutesUnwell 45 = .ok (.lreturn, 1) := by decide +kernel
theorem dX3_allWellBut_0 : decode cX3_allWellBut 0 = .ok (.iconst 0, 1) := by decide +kernel
theorem dX3_allWellBut_1 : decode cX3_allWellBut 1 = .ok (.istore_n 2, 1) := by decide +kernel
theorem dX3_allWellBut_2 : decode cX3_allWellBut 2 = .ok (.iload_n 2, 1) := by decide +kernel
theorem dX3_allWellBut_3 : decode cX3_allWellBut 3 = .ok (.bipush 63, 2) := by decide +kernel
theorem dX3_allWellBut_5 : decode cX3_allWellBut 5 = .ok (.if_icmp .ge 28, 3) := by decide +kernel
theorem dX3_allWellBut_8 : decode cX3_allWellBut 8 = .ok (.aload_n 0, 1) := by decide +kernel
theorem dX3_allWellBut_9 : decode cX3_allWellBut 9 = .ok (.getfield 15, 3) := by decide +kernel
theorem dX3_allWellBut_12 : decode cX3_allWellBut 12 = .ok (.aload_n 0, 1) := by decide +kernel
theorem dX3_allWellBut_13 : decode cX3_allWellBut 13 = .ok (.iload_n 1, 1) := by decide +kernel
theorem dX3_allWellBut_14 : decode cX3_allWellBut 14 = .ok (.iload_n 2, 1) := by decide +kernel
theorem dX3_allWellBut_15 : decode cX3_allWellBut 15 = .ok (.invokevirtual 39, 3) := by decide +kernel
theorem dX3_allWellBut_18 : decode cX3_allWellBut 18 = .ok (.iload_n 2, 1) := by decide +kernel
theorem dX3_allWellBut_19 : decode cX3_allWellBut 19 = .ok (.invokevirtual 43, 3) := by decide +kernel
theorem dX3_allWellBut_22 : decode cX3_allWellBut 22 = .ok (.ifCond .ne 5, 3) := by decide +kernel
theorem dX3_allWellBut_25 : decode cX3_allWellBut 25 = .ok (.iconst 0, 1) := by decide +kernel
theorem dX3_allWellBut_26 : decode cX3_allWellBut 26 = .ok (.ireturn, 1) := by decide +kernel
theorem dX3_allWellBut_27 : decode cX3_allWellBut 27 = .ok (.iinc 2 1, 3) := by decide +kernel
theorem dX3_allWellBut_30 : decode cX3_allWellBut 30 = .ok (.goto (-28), 3) := by decide +kernel
theorem dX3_allWellBut_33 : decode cX3_allWellBut 33 = .ok (.iconst 1, 1) := by decide +kernel
theorem dX3_allWellBut_34 : decode cX3_allWellBut 34 = .ok (.ireturn, 1) := by decide +kernel
theorem dX3_eachAlone_0 : decode cX3_eachAlone 0 = .ok (.iconst 0, 1) := by decide +kernel
theorem dX3_eachAlone_1 : decode cX3_eachAlone 1 = .ok (.istore_n 1, 1) := by decide +kernel
theorem dX3_eachAlone_2 : decode cX3_eachAlone 2 = .ok (.iconst 0, 1) := by decide +kernel
theorem dX3_eachAlone_3 : decode cX3_eachAlone 3 = .ok (.istore_n 2, 1) := by decide +kernel
theorem dX3_eachAlone_4 : decode cX3_eachAlone 4 = .ok (.iload_n 2, 1) := by decide +kernel
theorem dX3_eachAlone_5 : decode cX3_eachAlone 5 = .ok (.aload_n 0, 1) := by decide +kernel
theorem dX3_eachAlone_6 : decode cX3_eachAlone 6 = .ok (.getfield 9, 3) := by decide +kernel
theorem dX3_eachAlone_9 : decode cX3_eachAlone 9 = .ok (.getfield 19, 3) := by decide +kernel
theorem dX3_eachAlone_12 : decode cX3_eachAlone 12 = .ok (.if_icmp .ge 31, 3) := by decide +kernel
theorem dX3_eachAlone_15 : decode cX3_eachAlone 15 = .ok (.iload_n 2, 1) := by decide +kernel
theorem dX3_eachAlone_16 : decode cX3_eachAlone 16 = .ok (.bipush 8, 2) := by decide +kernel
theorem dX3_eachAlone_18 : decode cX3_eachAlone 18 = .ok (.if_icmp .ge 25, 3) := by decide +kernel
theorem dX3_eachAlone_21 : decode cX3_eachAlone 21 = .ok (.aload_n 0, 1) := by decide +kernel
theorem dX3_eachAlone_22 : decode cX3_eachAlone 22 = .ok (.iconst 1, 1) := by decide +kernel
theorem dX3_eachAlone_23 : decode cX3_eachAlone 23 = .ok (.iload_n 2, 1) := by decide +kernel
theorem dX3_eachAlone_24 : decode cX3_eachAlone 24 = .ok (.ishl, 1) := by decide +kernel
theorem dX3_eachAlone_25 : decode cX3_eachAlone 25 = .ok (.invokevirtual 48, 3) := by decide +kernel
theorem dX3_eachAlone_28 : decode cX3_eachAlone 28 = .ok (.ifCond .eq 9, 3) := by decide +kernel
theorem dX3_eachAlone_31 : decode cX3_eachAlone 31 = .ok (.iload_n 1, 1) := by decide +kernel
theorem dX3_eachAlone_32 : decode cX3_eachAlone 32 = .ok (.iconst 1, 1) := by decide +kernel
theorem dX3_eachAlone_33 : decode cX3_eachAlone 33 = .ok (.iload_n 2, 1) := by decide +kernel
theorem dX3_eachAlone_34 : decode cX3_eachAlone 34 = .ok (.ishl, 1) := by decide +kernel
theorem dX3_eachAlone_35 : decode cX3_eachAlone 35 = .ok (.ior, 1) := by decide +kernel
theorem dX3_eachAlone_36 : decode cX3_eachAlone 36 = .ok (.istore_n 1, 1) := by decide +kernel
theorem dX3_eachAlone_37 : decode cX3_eachAlone 37 = .ok (.iinc 2 1, 3) := by decide +kernel
theorem dX3_eachAlone_40 : decode cX3_eachAlone 40 = .ok (.goto (-36), 3) := by decide +kernel
theorem dX3_eachAlone_43 : decode cX3_eachAlone 43 = .ok (.iload_n 1, 1) := by decide +kernel
theorem dX3_eachAlone_44 : decode cX3_eachAlone 44 = .ok (.ireturn, 1) := by decide +kernel
theorem dX3_fewestLiars_0 : decode cX3_fewestLiars 0 = .ok (.iconst 1, 1) := by decide +kernel
theorem dX3_fewestLiars_1 : decode cX3_fewestLiars 1 = .ok (.aload_n 0, 1) := by decide +kernel
theorem dX3_fewestLiars_2 : decode cX3_fewestLiars 2 = .ok (.getfield 9, 3) := by decide +kernel
theorem dX3_fewestLiars_5 : decode cX3_fewestLiars 5 = .ok (.getfield 19, 3) := by decide +kernel
theorem dX3_fewestLiars_8 : decode cX3_fewestLiars 8 = .ok (.ishl, 1) := by decide +kernel
theorem dX3_fewestLiars_9 : decode cX3_fewestLiars 9 = .ok (.iconst 1, 1) := by decide +kernel
theorem dX3_fewestLiars_10 : decode cX3_fewestLiars 10 = .ok (.isub, 1) := by decide +kernel
theorem dX3_fewestLiars_11 : decode cX3_fewestLiars 11 = .ok (.istore_n 1, 1) := by decide +kernel
theorem dX3_fewestLiars_12 : decode cX3_fewestLiars 12 = .ok (.iconst 0, 1) := by decide +kernel
theorem dX3_fewestLiars_13 : decode cX3_fewestLiars 13 = .ok (.istore_n 2, 1) := by decide +kernel
theorem dX3_fewestLiars_14 : decode cX3_fewestLiars 14 = .ok (.iload_n 2, 1) := by decide +kernel
theorem dX3_fewestLiars_15 : decode cX3_fewestLiars 15 = .ok (.iconst 1, 1) := by decide +kernel
theorem dX3_fewestLiars_16 : decode cX3_fewestLiars 16 = .ok (.aload_n 0, 1) := by decide +kernel
theorem dX3_fewestLiars_17 : decode cX3_fewestLiars 17 = .ok (.getfield 9, 3) := by decide +kernel
theorem dX3_fewestLiars_20 : decode cX3_fewestLiars 20 = .ok (.getfield 19, 3) := by decide +kernel
theorem dX3_fewestLiars_23 : decode cX3_fewestLiars 23 = .ok (.ishl, 1) := by decide +kernel
theorem dX3_fewestLiars_24 : decode cX3_fewestLiars 24 = .ok (.if_icmp .ge 37, 3) := by decide +kernel
theorem dX3_fewestLiars_27 : decode cX3_fewestLiars 27 = .ok (.iload_n 2, 1) := by decide +kernel
theorem dX3_fewestLiars_28 : decode cX3_fewestLiars 28 = .ok (.sipush 256, 3) := by decide +kernel
theorem dX3_fewestLiars_31 : decode cX3_fewestLiars 31 = .ok (.if_icmp .ge 30, 3) := by decide +kernel
theorem dX3_fewestLiars_34 : decode cX3_fewestLiars 34 = .ok (.iload_n 2, 1) := by decide +kernel
theorem dX3_fewestLiars_35 : decode cX3_fewestLiars 35 = .ok (.invokestatic 52, 3) := by decide +kernel
theorem dX3_fewestLiars_38 : decode cX3_fewestLiars 38 = .ok (.iload_n 1, 1) := by decide +kernel
theorem dX3_fewestLiars_39 : decode cX3_fewestLiars 39 = .ok (.invokestatic 52, 3) := by decide +kernel
theorem dX3_fewestLiars_42 : decode cX3_fewestLiars 42 = .ok (.if_icmp .ge 13, 3) := by decide +kernel
theorem dX3_fewestLiars_45 : decode cX3_fewestLiars 45 = .ok (.aload_n 0, 1) := by decide +kernel
theorem dX3_fewestLiars_46 : decode cX3_fewestLiars 46 = .ok (.iload_n 2, 1) := by decide +kernel
theorem dX3_fewestLiars_47 : decode cX3_fewestLiars 47 = .ok (.invokevirtual 48, 3) := by decide +kernel
theorem dX3_fewestLiars_50 : decode cX3_fewestLiars 50 = .ok (.ifCond .eq 5, 3) := by decide +kernel
theorem dX3_fewestLiars_53 : decode cX3_fewestLiars 53 = .ok (.iload_n 2, 1) := by decide +kernel
theorem dX3_fewestLiars_54 : decode cX3_fewestLiars 54 = .ok (.istore_n 1, 1) := by decide +kernel
theorem dX3_fewestLiars_55 : decode cX3_fewestLiars 55 = .ok (.iinc 2 1, 3) := by decide +kernel
theorem dX3_fewestLiars_58 : decode cX3_fewestLiars 58 = .ok (.goto (-44), 3) := by decide +kernel
theorem dX3_fewestLiars_61 : decode cX3_fewestLiars 61 = .ok (.iload_n 1, 1) := by decide +kernel
theorem dX3_fewestLiars_62 : decode cX3_fewestLiars 62 = .ok (.ireturn, 1) := by decide +kernel
theorem dX4_init_0 : decode cX4_init 0 = .ok (.aload_n 0, 1) := by decide +kernel
theorem dX4_init_1 : decode cX4_init 1 = .ok (.invokespecial 3, 3) := by decide +kernel
theorem dX4_init_4 : decode cX4_init 4 = .ok (.aload_n 0, 1) := by decide +kernel
theorem dX4_init_5 : decode cX4_init 5 = .ok (.iconst 5, 1) := by decide +kernel
theorem dX4_init_6 : decode cX4_init 6 = .ok (.newarray .int, 2) := by decide +kernel
theorem dX4_init_8 : decode cX4_init 8 = .ok (.putfield 9, 3) := by decide +kernel
theorem dX4_init_11 : decode cX4_init 11 = .ok (.aload_n 0, 1) := by decide +kernel
theorem dX4_init_12 : decode cX4_init 12 = .ok (.sipush 800, 3) := by decide +kernel
theorem dX4_init_15 : decode cX4_init 15 = .ok (.newarray .long, 2) := by decide +kernel
theorem dX4_init_17 : decode cX4_init 17 = .ok (.putfield 15, 3) := by decide +kernel
theorem dX4_init_20 : decode cX4_init 20 = .ok (.aload_n 0, 1) := by decide +kernel
theorem dX4_init_21 : decode cX4_init 21 = .ok (.sipush 800, 3) := by decide +kernel
theorem dX4_init_24 : decode cX4_init 24 = .ok (.newarray .long, 2) := by decide +kernel
theorem dX4_init_26 : decode cX4_init 26 = .ok (.putfield 19, 3) := by decide +kernel
theorem dX4_init_29 : decode cX4_init 29 = .ok (.aload_n 0, 1) := by decide +kernel
theorem dX4_init_30 : decode cX4_init 30 = .ok (.iconst 1, 1) := by decide +kernel
theorem dX4_init_31 : decode cX4_init 31 = .ok (.putfield 22, 3) := by decide +kernel
theorem dX4_init_34 : decode cX4_init 34 = .ok (.aload_n 0, 1) := by decide +kernel
theorem dX4_init_35 : decode cX4_init 35 = .ok (.aload_n 1, 1) := by decide +kernel
theorem dX4_init_36 : decode cX4_init 36 = .ok (.putfield 26, 3) := by decide +kernel
theorem dX4_init_39 : decode cX4_init 39 = .ok (.aload_n 0, 1) := by decide +kernel
theorem dX4_init_40 : decode cX4_init 40 = .ok (.aload_n 2, 1) := by decide +kernel
theorem dX4_init_41 : decode cX4_init 41 = .ok (.putfield 30, 3) := by decide +kernel
theorem dX4_init_44 : decode cX4_init 44 = .ok (.return_, 1) := by decide +kernel
theorem dX4_isWell_0 : decode cX4_isWell 0 = .ok (.iload_n 1, 1) := by decide +kernel
theorem dX4_isWell_1 : decode cX4_isWell 1 = .ok (.ifCond .ne 5, 3) := by decide +kernel
theorem dX4_isWell_4 : decode cX4_isWell 4 = .ok (.iconst 1, 1) := by decide +kernel
theorem dX4_isWell_5 : decode cX4_isWell 5 = .ok (.ireturn, 1) := by decide +kernel
theorem dX4_isWell_6 : decode cX4_isWell 6 = .ok (.aload_n 0, 1) := by decide +kernel
theorem dX4_isWell_7 : decode cX4_isWell 7 = .ok (.getfield 22, 3) := by decide +kernel
theorem dX4_isWell_10 : decode cX4_isWell 10 = .ok (.ifCond .eq 16, 3) := by decide +kernel
theorem dX4_isWell_13 : decode cX4_isWell 13 = .ok (.aload_n 0, 1) := by decide +kernel
theorem dX4_isWell_14 : decode cX4_isWell 14 = .ok (.getfield 15, 3) := by decide +kernel
theorem dX4_isWell_17 : decode cX4_isWell 17 = .ok (.lconst 0, 1) := by decide +kernel
theorem dX4_isWell_18 : decode cX4_isWell 18 = .ok (.invokestatic 34, 3) := by decide +kernel
theorem dX4_isWell_21 : decode cX4_isWell 21 = .ok (.aload_n 0, 1) := by decide +kernel
theorem dX4_isWell_22 : decode cX4_isWell 22 = .ok (.iconst 0, 1) := by decide +kernel
theorem dX4_isWell_23 : decode cX4_isWell 23 = .ok (.putfield 22, 3) := by decide +kernel
theorem dX4_isWell_26 : decode cX4_isWell 26 = .ok (.aload_n 0, 1) := by decide +kernel
theorem dX4_isWell_27 : decode cX4_isWell 27 = .ok (.getfield 30, 3) := by decide +kernel
theorem dX4_isWell_30 : decode cX4_isWell 30 = .ok (.getfield 40, 3) := by decide +kernel
theorem dX4_isWell_33 : decode cX4_isWell 33 = .ok (.ifCond .eq 7, 3) := by decide +kernel
theorem dX4_isWell_36 : decode cX4_isWell 36 = .ok (.iload_n 2, 1) := by decide +kernel
theorem dX4_isWell_37 : decode cX4_isWell 37 = .ok (.goto 4, 3) := by decide +kernel
theorem dX4_isWell_40 : decode cX4_isWell 40 = .ok (.iconst 0, 1) := by decide +kernel
theorem dX4_isWell_41 : decode cX4_isWell 41 = .ok (.sipush 256, 3) := by decide +kernel
theorem dX4_isWell_44 : decode cX4_isWell 44 = .ok (.imul, 1) := by decide +kernel
theorem dX4_isWell_45 : decode cX4_isWell 45 = .ok (.iload_n 1, 1) := by decide +kernel
theorem dX4_isWell_46 : decode cX4_isWell 46 = .ok (.iadd, 1) := by decide +kernel
theorem dX4_isWell_47 : decode cX4_isWell 47 = .ok (.istore_n 3, 1) := by decide +kernel
theorem dX4_isWell_48 : decode cX4_isWell 48 = .ok (.iload_n 3, 1) := by decide +kernel
theorem dX4_isWell_49 : decode cX4_isWell 49 = .ok (.bipush 6, 2) := by decide +kernel
theorem dX4_isWell_51 : decode cX4_isWell 51 = .ok (.ishr, 1) := by decide +kernel
theorem dX4_isWell_52 : decode cX4_isWell 52 = .ok (.istore 4, 2) := by decide +kernel
theorem dX4_isWell_54 : decode cX4_isWell 54 = .ok (.iload 4, 2) := by decide +kernel
theorem dX4_isWell_56 : decode cX4_isWell 56 = .ok (.ifCond .lt 11, 3) := by decide +kernel
theorem dX4_isWell_59 : decode cX4_isWell 59 = .ok (.iload 4, 2) := by decide +kernel
theorem dX4_isWell_61 : decode cX4_isWell 61 = .ok (.sipush 800, 3) := by decide +kernel
theorem dX4_isWell_64 : decode cX4_isWell 64 = .ok (.if_icmp .lt 5, 3) := by decide +kernel
theorem dX4_isWell_67 : decode cX4_isWell 67 = .ok (.iconst 0, 1) := by decide +kernel
theorem dX4_isWell_68 : decode cX4_isWell 68 = .ok (.ireturn, 1) := by decide +kernel
theorem dX4_isWell_69 : decode cX4_isWell 69 = .ok (.lconst 1, 1) := by decide +kernel
theorem dX4_isWell_70 : decode cX4_isWell 70 = .ok (.iload_n 3, 1) := by decide +kernel
theorem dX4_isWell_71 : decode cX4_isWell 71 = .ok (.bipush 63, 2) := by decide +kernel
theorem dX4_isWell_73 : decode cX4_isWell 73 = .ok (.iand, 1) := by decide +kernel
theorem dX4_isWell_74 : decode cX4_isWell 74 = .ok (.lshl, 1) := by decide +kernel
theorem dX4_isWell_75 : decode cX4_isWell 75 = .ok (.lstore 5, 2) := by decide +kernel
theorem dX4_isWell_77 : decode cX4_isWell 77 = .ok (.aload_n 0, 1) := by decide +kernel
theorem dX4_isWell_78 : decode cX4_isWell 78 = .ok (.getfield 15, 3) := by decide +kernel
theorem dX4_isWell_81 : decode cX4_isWell 81 = .ok (.iload 4, 2) := by decide +kernel
theorem dX4_isWell_83 : decode cX4_isWell 83 = .ok (.laload, 1) := by decide +kernel
theorem dX4_isWell_84 : decode cX4_isWell 84 = .ok (.lload 5, 2) := by decide +kernel
theorem dX4_isWell_86 : decode cX4_isWell 86 = .ok (.land, 1) := by decide +kernel
theorem dX4_isWell_87 : decode cX4_isWell 87 = .ok (.lconst 0, 1) := by decide +kernel
theorem dX4_isWell_88 : decode cX4_isWell 88 = .ok (.lcmp, 1) := by decide +kernel
theorem dX4_isWell_89 : decode cX4_isWell 89 = .ok (.ifCond .ne 59, 3) := by decide +kernel
theorem dX4_isWell_92 : decode cX4_isWell 92 = .ok (.aload_n 0, 1) := by decide +kernel
theorem dX4_isWell_93 : decode cX4_isWell 93 = .ok (.getfield 15, 3) := by decide +kernel
theorem dX4_isWell_96 : decode cX4_isWell 96 = .ok (.iload 4, 2) := by decide +kernel
theorem dX4_isWell_98 : decode cX4_isWell 98 = .ok (.dup2, 1) := by decide +kernel
theorem dX4_isWell_99 : decode cX4_isWell 99 = .ok (.laload, 1) := by decide +kernel
theorem dX4_isWell_100 : decode cX4_isWell 100 = .ok (.lload 5, 2) := by decide +kernel
theorem dX4_isWell_102 : decode cX4_isWell 102 = .ok (.lor, 1) := by decide +kernel
theorem dX4_isWell_103 : decode cX4_isWell 103 = .ok (.lastore, 1) := by decide +kernel
theorem dX4_isWell_104 : decode cX4_isWell 104 = .ok (.aload_n 0, 1) := by decide +kernel
theorem dX4_isWell_105 : decode cX4_isWell 105 = .ok (.getfield 19, 3) := by decide +kernel
theorem dX4_isWell_108 : decode cX4_isWell 108 = .ok (.iload 4, 2) := by decide +kernel
theorem dX4_isWell_110 : decode cX4_isWell 110 = .ok (.aload_n 0, 1) := by decide +kernel
theorem dX4_isWell_111 : decode cX4_isWell 111 = .ok (.iload_n 1, 1) := by decide +kernel
theorem dX4_isWell_112 : decode cX4_isWell 112 = .ok (.iconst 0, 1) := by decide +kernel
theorem dX4_isWell_113 : decode cX4_isWell 113 = .ok (.iload_n 2, 1) := by decide +kernel
theorem dX4_isWell_114 : decode cX4_isWell 114 = .ok (.invokevirtual 45, 3) := by decide +kernel
theorem dX4_isWell_117 : decode cX4_isWell 117 = .ok (.ifCond .eq 16, 3) := by decide +kernel
theorem dX4_isWell_120 : decode cX4_isWell 120 = .ok (.aload_n 0, 1) := by decide +kernel
theorem dX4_isWell_121 : decode cX4_isWell 121 = .ok (.getfield 19, 3) := by decide +kernel
theorem dX4_isWell_124 : decode cX4_isWell 124 = .ok (.iload 4, 2) := by decide +kernel
theorem dX4_isWell_126 : decode cX4_isWell 126 = .ok (.laload, 1) := by decide +kernel
theorem dX4_isWell_127 : decode cX4_isWell 127 = .ok (.lload 5, 2) := by decide +kernel

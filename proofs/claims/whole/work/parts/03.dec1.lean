theorem dX4_isWell_129 : decode cX4_isWell 129 = .ok (.lor, 1) := by decide +kernel
theorem dX4_isWell_130 : decode cX4_isWell 130 = .ok (.goto 17, 3) := by decide +kernel
theorem dX4_isWell_133 : decode cX4_isWell 133 = .ok (.aload_n 0, 1) := by decide +kernel
theorem dX4_isWell_134 : decode cX4_isWell 134 = .ok (.getfield 19, 3) := by decide +kernel
theorem dX4_isWell_137 : decode cX4_isWell 137 = .ok (.iload 4, 2) := by decide +kernel
theorem dX4_isWell_139 : decode cX4_isWell 139 = .ok (.laload, 1) := by decide +kernel
theorem dX4_isWell_140 : decode cX4_isWell 140 = .ok (.lload 5, 2) := by decide +kernel
theorem dX4_isWell_142 : decode cX4_isWell 142 = .ok (.ldc2_w 49, 3) := by decide +kernel
theorem dX4_isWell_145 : decode cX4_isWell 145 = .ok (.lxor, 1) := by decide +kernel
theorem dX4_isWell_146 : decode cX4_isWell 146 = .ok (.land, 1) := by decide +kernel
theorem dX4_isWell_147 : decode cX4_isWell 147 = .ok (.lastore, 1) := by decide +kernel
theorem dX4_isWell_148 : decode cX4_isWell 148 = .ok (.aload_n 0, 1) := by decide +kernel
theorem dX4_isWell_149 : decode cX4_isWell 149 = .ok (.getfield 19, 3) := by decide +kernel
theorem dX4_isWell_152 : decode cX4_isWell 152 = .ok (.iload 4, 2) := by decide +kernel
theorem dX4_isWell_154 : decode cX4_isWell 154 = .ok (.laload, 1) := by decide +kernel
theorem dX4_isWell_155 : decode cX4_isWell 155 = .ok (.lload 5, 2) := by decide +kernel
theorem dX4_isWell_157 : decode cX4_isWell 157 = .ok (.land, 1) := by decide +kernel
theorem dX4_isWell_158 : decode cX4_isWell 158 = .ok (.lconst 0, 1) := by decide +kernel
theorem dX4_isWell_159 : decode cX4_isWell 159 = .ok (.lcmp, 1) := by decide +kernel
theorem dX4_isWell_160 : decode cX4_isWell 160 = .ok (.ifCond .eq 7, 3) := by decide +kernel
theorem dX4_isWell_163 : decode cX4_isWell 163 = .ok (.iconst 1, 1) := by decide +kernel
theorem dX4_isWell_164 : decode cX4_isWell 164 = .ok (.goto 4, 3) := by decide +kernel
theorem dX4_isWell_167 : decode cX4_isWell 167 = .ok (.iconst 0, 1) := by decide +kernel
theorem dX4_isWell_168 : decode cX4_isWell 168 = .ok (.ireturn, 1) := by decide +kernel
theorem dX4_isOdd_0 : decode cX4_isOdd 0 = .ok (.iconst 0, 1) := by decide +kernel
theorem dX4_isOdd_1 : decode cX4_isOdd 1 = .ok (.istore 4, 2) := by decide +kernel
theorem dX4_isOdd_3 : decode cX4_isOdd 3 = .ok (.iload 4, 2) := by decide +kernel
theorem dX4_isOdd_5 : decode cX4_isOdd 5 = .ok (.iconst 5, 1) := by decide +kernel
theorem dX4_isOdd_6 : decode cX4_isOdd 6 = .ok (.if_icmp .ge 26, 3) := by decide +kernel
theorem dX4_isOdd_9 : decode cX4_isOdd 9 = .ok (.aload_n 0, 1) := by decide +kernel
theorem dX4_isOdd_10 : decode cX4_isOdd 10 = .ok (.getfield 9, 3) := by decide +kernel
theorem dX4_isOdd_13 : decode cX4_isOdd 13 = .ok (.iload 4, 2) := by decide +kernel
theorem dX4_isOdd_15 : decode cX4_isOdd 15 = .ok (.aload_n 0, 1) := by decide +kernel
theorem dX4_isOdd_16 : decode cX4_isOdd 16 = .ok (.getfield 26, 3) := by decide +kernel
theorem dX4_isOdd_19 : decode cX4_isOdd 19 = .ok (.iload_n 1, 1) := by decide +kernel
theorem dX4_isOdd_20 : decode cX4_isOdd 20 = .ok (.iload 4, 2) := by decide +kernel
theorem dX4_isOdd_22 : decode cX4_isOdd 22 = .ok (.invokevirtual 51, 3) := by decide +kernel
theorem dX4_isOdd_25 : decode cX4_isOdd 25 = .ok (.iastore, 1) := by decide +kernel
theorem dX4_isOdd_26 : decode cX4_isOdd 26 = .ok (.iinc 4 1, 3) := by decide +kernel
theorem dX4_isOdd_29 : decode cX4_isOdd 29 = .ok (.goto (-26), 3) := by decide +kernel
theorem dX4_isOdd_32 : decode cX4_isOdd 32 = .ok (.aload_n 0, 1) := by decide +kernel
theorem dX4_isOdd_33 : decode cX4_isOdd 33 = .ok (.getfield 9, 3) := by decide +kernel
theorem dX4_isOdd_36 : decode cX4_isOdd 36 = .ok (.iconst 0, 1) := by decide +kernel
theorem dX4_isOdd_37 : decode cX4_isOdd 37 = .ok (.dup2, 1) := by decide +kernel
theorem dX4_isOdd_38 : decode cX4_isOdd 38 = .ok (.iaload, 1) := by decide +kernel
theorem dX4_isOdd_39 : decode cX4_isOdd 39 = .ok (.iload_n 2, 1) := by decide +kernel
theorem dX4_isOdd_40 : decode cX4_isOdd 40 = .ok (.iadd, 1) := by decide +kernel
theorem dX4_isOdd_41 : decode cX4_isOdd 41 = .ok (.iastore, 1) := by decide +kernel
theorem dX4_isOdd_42 : decode cX4_isOdd 42 = .ok (.aload_n 0, 1) := by decide +kernel
theorem dX4_isOdd_43 : decode cX4_isOdd 43 = .ok (.getfield 30, 3) := by decide +kernel
theorem dX4_isOdd_46 : decode cX4_isOdd 46 = .ok (.aload_n 0, 1) := by decide +kernel
theorem dX4_isOdd_47 : decode cX4_isOdd 47 = .ok (.getfield 9, 3) := by decide +kernel
theorem dX4_isOdd_50 : decode cX4_isOdd 50 = .ok (.iload_n 3, 1) := by decide +kernel
theorem dX4_isOdd_51 : decode cX4_isOdd 51 = .ok (.invokevirtual 57, 3) := by decide +kernel
theorem dX4_isOdd_54 : decode cX4_isOdd 54 = .ok (.lconst 1, 1) := by decide +kernel
theorem dX4_isOdd_55 : decode cX4_isOdd 55 = .ok (.land, 1) := by decide +kernel
theorem dX4_isOdd_56 : decode cX4_isOdd 56 = .ok (.lconst 0, 1) := by decide +kernel
theorem dX4_isOdd_57 : decode cX4_isOdd 57 = .ok (.lcmp, 1) := by decide +kernel
theorem dX4_isOdd_58 : decode cX4_isOdd 58 = .ok (.ifCond .eq 7, 3) := by decide +kernel
theorem dX4_isOdd_61 : decode cX4_isOdd 61 = .ok (.iconst 1, 1) := by decide +kernel
theorem dX4_isOdd_62 : decode cX4_isOdd 62 = .ok (.goto 4, 3) := by decide +kernel
theorem dX4_isOdd_65 : decode cX4_isOdd 65 = .ok (.iconst 0, 1) := by decide +kernel
theorem dX4_isOdd_66 : decode cX4_isOdd 66 = .ok (.ireturn, 1) := by decide +kernel
theorem dX5_init_0 : decode cX5_init 0 = .ok (.aload_n 0, 1) := by decide +kernel
theorem dX5_init_1 : decode cX5_init 1 = .ok (.invokespecial 3, 3) := by decide +kernel
theorem dX5_init_4 : decode cX5_init 4 = .ok (.aload_n 0, 1) := by decide +kernel
theorem dX5_init_5 : decode cX5_init 5 = .ok (.bipush 8, 2) := by decide +kernel
theorem dX5_init_7 : decode cX5_init 7 = .ok (.newarray .int, 2) := by decide +kernel
theorem dX5_init_9 : decode cX5_init 9 = .ok (.putfield 9, 3) := by decide +kernel
theorem dX5_init_12 : decode cX5_init 12 = .ok (.aload_n 0, 1) := by decide +kernel
theorem dX5_init_13 : decode cX5_init 13 = .ok (.bipush 8, 2) := by decide +kernel
theorem dX5_init_15 : decode cX5_init 15 = .ok (.newarray .int, 2) := by decide +kernel
theorem dX5_init_17 : decode cX5_init 17 = .ok (.putfield 15, 3) := by decide +kernel
theorem dX5_init_20 : decode cX5_init 20 = .ok (.aload_n 0, 1) := by decide +kernel
theorem dX5_init_21 : decode cX5_init 21 = .ok (.bipush 8, 2) := by decide +kernel
theorem dX5_init_23 : decode cX5_init 23 = .ok (.newarray .int, 2) := by decide +kernel
theorem dX5_init_25 : decode cX5_init 25 = .ok (.putfield 18, 3) := by decide +kernel
theorem dX5_init_28 : decode cX5_init 28 = .ok (.aload_n 0, 1) := by decide +kernel
theorem dX5_init_29 : decode cX5_init 29 = .ok (.bipush 8, 2) := by decide +kernel
theorem dX5_init_31 : decode cX5_init 31 = .ok (.newarray .int, 2) := by decide +kernel
theorem dX5_init_33 : decode cX5_init 33 = .ok (.putfield 21, 3) := by decide +kernel
theorem dX5_init_36 : decode cX5_init 36 = .ok (.aload_n 0, 1) := by decide +kernel
theorem dX5_init_37 : decode cX5_init 37 = .ok (.iconst 0, 1) := by decide +kernel
theorem dX5_init_38 : decode cX5_init 38 = .ok (.putfield 24, 3) := by decide +kernel
theorem dX5_init_41 : decode cX5_init 41 = .ok (.aload_n 0, 1) := by decide +kernel
theorem dX5_init_42 : decode cX5_init 42 = .ok (.iconst 0, 1) := by decide +kernel
theorem dX5_init_43 : decode cX5_init 43 = .ok (.putfield 28, 3) := by decide +kernel
theorem dX5_init_46 : decode cX5_init 46 = .ok (.aload_n 0, 1) := by decide +kernel
theorem dX5_init_47 : decode cX5_init 47 = .ok (.iconst 3, 1) := by decide +kernel
theorem dX5_init_48 : decode cX5_init 48 = .ok (.putfield 31, 3) := by decide +kernel
theorem dX5_init_51 : decode cX5_init 51 = .ok (.aload_n 0, 1) := by decide +kernel
theorem dX5_init_52 : decode cX5_init 52 = .ok (.bipush 40, 2) := by decide +kernel
theorem dX5_init_54 : decode cX5_init 54 = .ok (.newarray .char, 2) := by decide +kernel
theorem dX5_init_56 : decode cX5_init 56 = .ok (.putfield 34, 3) := by decide +kernel
theorem dX5_init_59 : decode cX5_init 59 = .ok (.aload_n 0, 1) := by decide +kernel
theorem dX5_init_60 : decode cX5_init 60 = .ok (.iconst 0, 1) := by decide +kernel
theorem dX5_init_61 : decode cX5_init 61 = .ok (.putfield 38, 3) := by decide +kernel
theorem dX5_init_64 : decode cX5_init 64 = .ok (.aload_n 0, 1) := by decide +kernel
theorem dX5_init_65 : decode cX5_init 65 = .ok (.bipush 8, 2) := by decide +kernel
theorem dX5_init_67 : decode cX5_init 67 = .ok (.newarray .int, 2) := by decide +kernel
theorem dX5_init_69 : decode cX5_init 69 = .ok (.putfield 41, 3) := by decide +kernel
theorem dX5_init_72 : decode cX5_init 72 = .ok (.aload_n 0, 1) := by decide +kernel
theorem dX5_init_73 : decode cX5_init 73 = .ok (.bipush 8, 2) := by decide +kernel
theorem dX5_init_75 : decode cX5_init 75 = .ok (.newarray .int, 2) := by decide +kernel
theorem dX5_init_77 : decode cX5_init 77 = .ok (.putfield 44, 3) := by decide +kernel
theorem dX5_init_80 : decode cX5_init 80 = .ok (.aload_n 0, 1) := by decide +kernel
theorem dX5_init_81 : decode cX5_init 81 = .ok (.bipush 8, 2) := by decide +kernel
theorem dX5_init_83 : decode cX5_init 83 = .ok (.newarray .int, 2) := by decide +kernel
theorem dX5_init_85 : decode cX5_init 85 = .ok (.putfield 47, 3) := by decide +kernel
theorem dX5_init_88 : decode cX5_init 88 = .ok (.aload_n 0, 1) := by decide +kernel
theorem dX5_init_89 : decode cX5_init 89 = .ok (.iconst 0, 1) := by decide +kernel
theorem dX5_init_90 : decode cX5_init 90 = .ok (.putfield 50, 3) := by decide +kernel
theorem dX5_init_93 : decode cX5_init 93 = .ok (.return_, 1) := by decide +kernel
theorem dX5_addWalker_0 : decode cX5_addWalker 0 = .ok (.aload_n 0, 1) := by decide +kernel
theorem dX5_addWalker_1 : decode cX5_addWalker 1 = .ok (.getfield 24, 3) := by decide +kernel
theorem dX5_addWalker_4 : decode cX5_addWalker 4 = .ok (.bipush 8, 2) := by decide +kernel
theorem dX5_addWalker_6 : decode cX5_addWalker 6 = .ok (.if_icmp .ge 54, 3) := by decide +kernel
theorem dX5_addWalker_9 : decode cX5_addWalker 9 = .ok (.aload_n 0, 1) := by decide +kernel
theorem dX5_addWalker_10 : decode cX5_addWalker 10 = .ok (.getfield 9, 3) := by decide +kernel
theorem dX5_addWalker_13 : decode cX5_addWalker 13 = .ok (.aload_n 0, 1) := by decide +kernel
theorem dX5_addWalker_14 : decode cX5_addWalker 14 = .ok (.getfield 24, 3) := by decide +kernel
theorem dX5_addWalker_17 : decode cX5_addWalker 17 = .ok (.iload_n 1, 1) := by decide +kernel
theorem dX5_addWalker_18 : decode cX5_addWalker 18 = .ok (.iastore, 1) := by decide +kernel
theorem dX5_addWalker_19 : decode cX5_addWalker 19 = .ok (.aload_n 0, 1) := by decide +kernel
theorem dX5_addWalker_20 : decode cX5_addWalker 20 = .ok (.getfield 15, 3) := by decide +kernel
theorem dX5_addWalker_23 : decode cX5_addWalker 23 = .ok (.aload_n 0, 1) := by decide +kernel
theorem dX5_addWalker_24 : decode cX5_addWalker 24 = .ok (.getfield 24, 3) := by decide +kernel
theorem dX5_addWalker_27 : decode cX5_addWalker 27 = .ok (.iload_n 2, 1) := by decide +kernel
theorem dX5_addWalker_28 : decode cX5_addWalker 28 = .ok (.iastore, 1) := by decide +kernel
theorem dX5_addWalker_29 : decode cX5_addWalker 29 = .ok (.aload_n 0, 1) := by decide +kernel
theorem dX5_addWalker_30 : decode cX5_addWalker 30 = .ok (.getfield 18, 3) := by decide +kernel
theorem dX5_addWalker_33 : decode cX5_addWalker 33 = .ok (.aload_n 0, 1) := by decide +kernel
theorem dX5_addWalker_34 : decode cX5_addWalker 34 = .ok (.getfield 24, 3) := by decide +kernel
theorem dX5_addWalker_37 : decode cX5_addWalker 37 = .ok (.iload_n 3, 1) := by decide +kernel
theorem dX5_addWalker_38 : decode cX5_addWalker 38 = .ok (.iastore, 1) := by decide +kernel
theorem dX5_addWalker_39 : decode cX5_addWalker 39 = .ok (.aload_n 0, 1) := by decide +kernel
theorem dX5_addWalker_40 : decode cX5_addWalker 40 = .ok (.getfield 21, 3) := by decide +kernel
theorem dX5_addWalker_43 : decode cX5_addWalker 43 = .ok (.aload_n 0, 1) := by decide +kernel
theorem dX5_addWalker_44 : decode cX5_addWalker 44 = .ok (.getfield 24, 3) := by decide +kernel
theorem dX5_addWalker_47 : decode cX5_addWalker 47 = .ok (.bipush 10, 2) := by decide +kernel
theorem dX5_addWalker_49 : decode cX5_addWalker 49 = .ok (.iastore, 1) := by decide +kernel
theorem dX5_addWalker_50 : decode cX5_addWalker 50 = .ok (.aload_n 0, 1) := by decide +kernel
theorem dX5_addWalker_51 : decode cX5_addWalker 51 = .ok (.dup, 1) := by decide +kernel
theorem dX5_addWalker_52 : decode cX5_addWalker 52 = .ok (.getfield 24, 3) := by decide +kernel
theorem dX5_addWalker_55 : decode cX5_addWalker 55 = .ok (.iconst 1, 1) := by decide +kernel
theorem dX5_addWalker_56 : decode cX5_addWalker 56 = .ok (.iadd, 1) := by decide +kernel
theorem dX5_addWalker_57 : decode cX5_addWalker 57 = .ok (.putfield 24, 3) := by decide +kernel
theorem dX5_addWalker_60 : decode cX5_addWalker 60 = .ok (.return_, 1) := by decide +kernel
theorem dX5_addLetter_0 : decode cX5_addLetter 0 = .ok (.aload_n 0, 1) := by decide +kernel
theorem dX5_addLetter_1 : decode cX5_addLetter 1 = .ok (.getfield 38, 3) := by decide +kernel
theorem dX5_addLetter_4 : decode cX5_addLetter 4 = .ok (.bipush 40, 2) := by decide +kernel
theorem dX5_addLetter_6 : decode cX5_addLetter 6 = .ok (.if_icmp .ge 23, 3) := by decide +kernel
theorem dX5_addLetter_9 : decode cX5_addLetter 9 = .ok (.aload_n 0, 1) := by decide +kernel
theorem dX5_addLetter_10 : decode cX5_addLetter 10 = .ok (.getfield 34, 3) := by decide +kernel
theorem dX5_addLetter_13 : decode cX5_addLetter 13 = .ok (.aload_n 0, 1) := by decide +kernel
theorem dX5_addLetter_14 : decode cX5_addLetter 14 = .ok (.getfield 38, 3) := by decide +kernel
theorem dX5_addLetter_17 : decode cX5_addLetter 17 = .ok (.iload_n 1, 1) := by decide +kernel
theorem dX5_addLetter_18 : decode cX5_addLetter 18 = .ok (.castore, 1) := by decide +kernel
theorem dX5_addLetter_19 : decode cX5_addLetter 19 = .ok (.aload_n 0, 1) := by decide +kernel
theorem dX5_addLetter_20 : decode cX5_addLetter 20 = .ok (.dup, 1) := by decide +kernel
theorem dX5_addLetter_21 : decode cX5_addLetter 21 = .ok (.getfield 38, 3) := by decide +kernel
theorem dX5_addLetter_24 : decode cX5_addLetter 24 = .ok (.iconst 1, 1) := by decide +kernel
theorem dX5_addLetter_25 : decode cX5_addLetter 25 = .ok (.iadd, 1) := by decide +kernel
theorem dX5_addLetter_26 : decode cX5_addLetter 26 = .ok (.putfield 38, 3) := by decide +kernel
theorem dX5_addLetter_29 : decode cX5_addLetter 29 = .ok (.return_, 1) := by decide +kernel
theorem dX5_addSaid_0 : decode cX5_addSaid 0 = .ok (.aload_n 0, 1) := by decide +kernel
theorem dX5_addSaid_1 : decode cX5_addSaid 1 = .ok (.getfield 50, 3) := by decide +kernel
theorem dX5_addSaid_4 : decode cX5_addSaid 4 = .ok (.bipush 8, 2) := by decide +kernel
theorem dX5_addSaid_6 : decode cX5_addSaid 6 = .ok (.if_icmp .ge 43, 3) := by decide +kernel
theorem dX5_addSaid_9 : decode cX5_addSaid 9 = .ok (.aload_n 0, 1) := by decide +kernel
theorem dX5_addSaid_10 : decode cX5_addSaid 10 = .ok (.getfield 41, 3) := by decide +kernel
theorem dX5_addSaid_13 : decode cX5_addSaid 13 = .ok (.aload_n 0, 1) := by decide +kernel
theorem dX5_addSaid_14 : decode cX5_addSaid 14 = .ok (.getfield 50, 3) := by decide +kernel
theorem dX5_addSaid_17 : decode cX5_addSaid 17 = .ok (.iload_n 1, 1) := by decide +kernel
theorem dX5_addSaid_18 : decode cX5_addSaid 18 = .ok (.iastore, 1) := by decide +kernel
theorem dX5_addSaid_19 : decode cX5_addSaid 19 = .ok (.aload_n 0, 1) := by decide +kernel
theorem dX5_addSaid_20 : decode cX5_addSaid 20 = .ok (.getfield 44, 3) := by decide +kernel
theorem dX5_addSaid_23 : decode cX5_addSaid 23 = .ok (.aload_n 0, 1) := by decide +kernel
theorem dX5_addSaid_24 : decode cX5_addSaid 24 = .ok (.getfield 50, 3) := by decide +kernel
theorem dX5_addSaid_27 : decode cX5_addSaid 27 = .ok (.iload_n 2, 1) := by decide +kernel
theorem dX5_addSaid_28 : decode cX5_addSaid 28 = .ok (.iastore, 1) := by decide +kernel
theorem dX5_addSaid_29 : decode cX5_addSaid 29 = .ok (.aload_n 0, 1) := by decide +kernel
theorem dX5_addSaid_30 : decode cX5_addSaid 30 = .ok (.getfield 47, 3) := by decide +kernel
theorem dX5_addSaid_33 : decode cX5_addSaid 33 = .ok (.aload_n 0, 1) := by decide +kernel
theorem dX5_addSaid_34 : decode cX5_addSaid 34 = .ok (.getfield 50, 3) := by decide +kernel
theorem dX5_addSaid_37 : decode cX5_addSaid 37 = .ok (.iload_n 3, 1) := by decide +kernel
theorem dX5_addSaid_38 : decode cX5_addSaid 38 = .ok (.iastore, 1) := by decide +kernel
theorem dX5_addSaid_39 : decode cX5_addSaid 39 = .ok (.aload_n 0, 1) := by decide +kernel
theorem dX5_addSaid_40 : decode cX5_addSaid 40 = .ok (.dup, 1) := by decide +kernel
theorem dX5_addSaid_41 : decode cX5_addSaid 41 = .ok (.getfield 50, 3) := by decide +kernel
theorem dX5_addSaid_44 : decode cX5_addSaid 44 = .ok (.iconst 1, 1) := by decide +kernel
theorem dX5_addSaid_45 : decode cX5_addSaid 45 = .ok (.iadd, 1) := by decide +kernel
theorem dX5_addSaid_46 : decode cX5_addSaid 46 = .ok (.putfield 50, 3) := by decide +kernel
theorem dX5_addSaid_49 : decode cX5_addSaid 49 = .ok (.return_, 1) := by decide +kernel
theorem dX5_become_0 : decode cX5_become 0 = .ok (.aload_n 1, 1) := by decide +kernel
theorem dX5_become_1 : decode cX5_become 1 = .ok (.getfield 9, 3) := by decide +kernel
theorem dX5_become_4 : decode cX5_become 4 = .ok (.iconst 0, 1) := by decide +kernel
theorem dX5_become_5 : decode cX5_become 5 = .ok (.aload_n 0, 1) := by decide +kernel
theorem dX5_become_6 : decode cX5_become 6 = .ok (.getfield 9, 3) := by decide +kernel
theorem dX5_become_9 : decode cX5_become 9 = .ok (.iconst 0, 1) := by decide +kernel
theorem dX5_become_10 : decode cX5_become 10 = .ok (.bipush 8, 2) := by decide +kernel
theorem dX5_become_12 : decode cX5_become 12 = .ok (.invokestatic 53, 3) := by decide +kernel
theorem dX5_become_15 : decode cX5_become 15 = .ok (.aload_n 1, 1) := by decide +kernel
theorem dX5_become_16 : decode cX5_become 16 = .ok (.getfield 15, 3) := by decide +kernel
theorem dX5_become_19 : decode cX5_become 19 = .ok (.iconst 0, 1) := by decide +kernel
theorem dX5_become_20 : decode cX5_become 20 = .ok (.aload_n 0, 1) := by decide +kernel
theorem dX5_become_21 : decode cX5_become 21 = .ok (.getfield 15, 3) := by decide +kernel
theorem dX5_become_24 : decode cX5_become 24 = .ok (.iconst 0, 1) := by decide +kernel
theorem dX5_become_25 : decode cX5_become 25 = .ok (.bipush 8, 2) := by decide +kernel
theorem dX5_become_27 : decode cX5_become 27 = .ok (.invokestatic 53, 3) := by decide +kernel
theorem dX5_become_30 : decode cX5_become 30 = .ok (.aload_n 1, 1) := by decide +kernel
theorem dX5_become_31 : decode cX5_become 31 = .ok (.getfield 18, 3) := by decide +kernel
theorem dX5_become_34 : decode cX5_become 34 = .ok (.iconst 0, 1) := by decide +kernel
theorem dX5_become_35 : decode cX5_become 35 = .ok (.aload_n 0, 1) := by decide +kernel
theorem dX5_become_36 : decode cX5_become 36 = .ok (.getfield 18, 3) := by decide +kernel
theorem dX5_become_39 : decode cX5_become 39 = .ok (.iconst 0, 1) := by decide +kernel
theorem dX5_become_40 : decode cX5_become 40 = .ok (.bipush 8, 2) := by decide +kernel
theorem dX5_become_42 : decode cX5_become 42 = .ok (.invokestatic 53, 3) := by decide +kernel
theorem dX5_become_45 : decode cX5_become 45 = .ok (.aload_n 1, 1) := by decide +kernel
theorem dX5_become_46 : decode cX5_become 46 = .ok (.getfield 21, 3) := by decide +kernel
theorem dX5_become_49 : decode cX5_become 49 = .ok (.iconst 0, 1) := by decide +kernel
theorem dX5_become_50 : decode cX5_become 50 = .ok (.aload_n 0, 1) := by decide +kernel
theorem dX5_become_51 : decode cX5_become 51 = .ok (.getfield 21, 3) := by decide +kernel
theorem dX5_become_54 : decode cX5_become 54 = .ok (.iconst 0, 1) := by decide +kernel
theorem dX5_become_55 : decode cX5_become 55 = .ok (.bipush 8, 2) := by decide +kernel
theorem dX5_become_57 : decode cX5_become 57 = .ok (.invokestatic 53, 3) := by decide +kernel
theorem dX5_become_60 : decode cX5_become 60 = .ok (.aload_n 0, 1) := by decide +kernel
theorem dX5_become_61 : decode cX5_become 61 = .ok (.aload_n 1, 1) := by decide +kernel
theorem dX5_become_62 : decode cX5_become 62 = .ok (.getfield 24, 3) := by decide +kernel
theorem dX5_become_65 : decode cX5_become 65 = .ok (.putfield 24, 3) := by decide +kernel
theorem dX5_become_68 : decode cX5_become 68 = .ok (.aload_n 0, 1) := by decide +kernel
theorem dX5_become_69 : decode cX5_become 69 = .ok (.aload_n 1, 1) := by decide +kernel
theorem dX5_become_70 : decode cX5_become 70 = .ok (.getfield 28, 3) := by decide +kernel
theorem dX5_become_73 : decode cX5_become 73 = .ok (.putfield 28, 3) := by decide +kernel
theorem dX5_become_76 : decode cX5_become 76 = .ok (.aload_n 0, 1) := by decide +kernel
theorem dX5_become_77 : decode cX5_become 77 = .ok (.aload_n 1, 1) := by decide +kernel
theorem dX5_become_78 : decode cX5_become 78 = .ok (.getfield 31, 3) := by decide +kernel
theorem dX5_become_81 : decode cX5_become 81 = .ok (.putfield 31, 3) := by decide +kernel
theorem dX5_become_84 : decode cX5_become 84 = .ok (.aload_n 1, 1) := by decide +kernel
theorem dX5_become_85 : decode cX5_become 85 = .ok (.getfield 34, 3) := by decide +kernel
theorem dX5_become_88 : decode cX5_become 88 = .ok (.iconst 0, 1) := by decide +kernel
theorem dX5_become_89 : decode cX5_become 89 = .ok (.aload_n 0, 1) := by decide +kernel
theorem dX5_become_90 : decode cX5_become 90 = .ok (.getfield 34, 3) := by decide +kernel
theorem dX5_become_93 : decode cX5_become 93 = .ok (.iconst 0, 1) := by decide +kernel
theorem dX5_become_94 : decode cX5_become 94 = .ok (.bipush 40, 2) := by decide +kernel
theorem dX5_become_96 : decode cX5_become 96 = .ok (.invokestatic 53, 3) := by decide +kernel
theorem dX5_become_99 : decode cX5_become 99 = .ok (.aload_n 0, 1) := by decide +kernel
theorem dX5_become_100 : decode cX5_become 100 = .ok (.aload_n 1, 1) := by decide +kernel
theorem dX5_become_101 : decode cX5_become 101 = .ok (.getfield 38, 3) := by decide +kernel
theorem dX5_become_104 : decode cX5_become 104 = .ok (.putfield 38, 3) := by decide +kernel
theorem dX5_become_107 : decode cX5_become 107 = .ok (.aload_n 1, 1) := by decide +kernel
theorem dX5_become_108 : decode cX5_become 108 = .ok (.getfield 41, 3) := by decide +kernel
theorem dX5_become_111 : decode cX5_become 111 = .ok (.iconst 0, 1) := by decide +kernel
theorem dX5_become_112 : decode cX5_become 112 = .ok (.aload_n 0, 1) := by decide +kernel
theorem dX5_become_113 : decode cX5_become 113 = .ok (.getfield 41, 3) := by decide +kernel
theorem dX5_become_116 : decode cX5_become 116 = .ok (.iconst 0, 1) := by decide +kernel
theorem dX5_become_117 : decode cX5_become 117 = .ok (.bipush 8, 2) := by decide +kernel
theorem dX5_become_119 : decode cX5_become 119 = .ok (.invokestatic 53, 3) := by decide +kernel
theorem dX5_become_122 : decode cX5_become 122 = .ok (.aload_n 1, 1) := by decide +kernel
theorem dX5_become_123 : decode cX5_become 123 = .ok (.getfield 44, 3) := by decide +kernel
theorem dX5_become_126 : decode cX5_become 126 = .ok (.iconst 0, 1) := by decide +kernel
theorem dX5_become_127 : decode cX5_become 127 = .ok (.aload_n 0, 1) := by decide +kernel
theorem dX5_become_128 : decode cX5_become 128 = .ok (.getfield 44, 3) := by decide +kernel
theorem dX5_become_131 : decode cX5_become 131 = .ok (.iconst 0, 1) := by decide +kernel
theorem dX5_become_132 : decode cX5_become 132 = .ok (.bipush 8, 2) := by decide +kernel
theorem dX5_become_134 : decode cX5_become 134 = .ok (.invokestatic 53, 3) := by decide +kernel
theorem dX5_become_137 : decode cX5_become 137 = .ok (.aload_n 1, 1) := by decide +kernel
theorem dX5_become_138 : decode cX5_become 138 = .ok (.getfield 47, 3) := by decide +kernel
theorem dX5_become_141 : decode cX5_become 141 = .ok (.iconst 0, 1) := by decide +kernel
theorem dX5_become_142 : decode cX5_become 142 = .ok (.aload_n 0, 1) := by decide +kernel
theorem dX5_become_143 : decode cX5_become 143 = .ok (.getfield 47, 3) := by decide +kernel
theorem dX5_become_146 : decode cX5_become 146 = .ok (.iconst 0, 1) := by decide +kernel
theorem dX5_become_147 : decode cX5_become 147 = .ok (.bipush 8, 2) := by decide +kernel
theorem dX5_become_149 : decode cX5_become 149 = .ok (.invokestatic 53, 3) := by decide +kernel
theorem dX5_become_152 : decode cX5_become 152 = .ok (.aload_n 0, 1) := by decide +kernel
theorem dX5_become_153 : decode cX5_become 153 = .ok (.aload_n 1, 1) := by decide +kernel
theorem dX5_become_154 : decode cX5_become 154 = .ok (.getfield 50, 3) := by decide +kernel
theorem dX5_become_157 : decode cX5_become 157 = .ok (.putfield 50, 3) := by decide +kernel
theorem dX5_become_160 : decode cX5_become 160 = .ok (.return_, 1) := by decide +kernel
theorem dX5_sumBrought_0 : decode cX5_sumBrought 0 = .ok (.iconst 0, 1) := by decide +kernel
theorem dX5_sumBrought_1 : decode cX5_sumBrought 1 = .ok (.istore_n 3, 1) := by decide +kernel
theorem dX5_sumBrought_2 : decode cX5_sumBrought 2 = .ok (.iconst 0, 1) := by decide +kernel
theorem dX5_sumBrought_3 : decode cX5_sumBrought 3 = .ok (.istore 4, 2) := by decide +kernel
theorem dX5_sumBrought_5 : decode cX5_sumBrought 5 = .ok (.iload 4, 2) := by decide +kernel
theorem dX5_sumBrought_7 : decode cX5_sumBrought 7 = .ok (.aload_n 0, 1) := by decide +kernel
theorem dX5_sumBrought_8 : decode cX5_sumBrought 8 = .ok (.getfield 24, 3) := by decide +kernel
theorem dX5_sumBrought_11 : decode cX5_sumBrought 11 = .ok (.if_icmp .ge 61, 3) := by decide +kernel
theorem dX5_sumBrought_14 : decode cX5_sumBrought 14 = .ok (.iload 4, 2) := by decide +kernel
theorem dX5_sumBrought_16 : decode cX5_sumBrought 16 = .ok (.bipush 8, 2) := by decide +kernel
theorem dX5_sumBrought_18 : decode cX5_sumBrought 18 = .ok (.if_icmp .ge 54, 3) := by decide +kernel
theorem dX5_sumBrought_21 : decode cX5_sumBrought 21 = .ok (.aload_n 0, 1) := by decide +kernel
theorem dX5_sumBrought_22 : decode cX5_sumBrought 22 = .ok (.getfield 9, 3) := by decide +kernel
theorem dX5_sumBrought_25 : decode cX5_sumBrought 25 = .ok (.iload 4, 2) := by decide +kernel
theorem dX5_sumBrought_27 : decode cX5_sumBrought 27 = .ok (.iaload, 1) := by decide +kernel
theorem dX5_sumBrought_28 : decode cX5_sumBrought 28 = .ok (.iconst 5, 1) := by decide +kernel
theorem dX5_sumBrought_29 : decode cX5_sumBrought 29 = .ok (.imul, 1) := by decide +kernel
theorem dX5_sumBrought_30 : decode cX5_sumBrought 30 = .ok (.iload_n 2, 1) := by decide +kernel
theorem dX5_sumBrought_31 : decode cX5_sumBrought 31 = .ok (.iadd, 1) := by decide +kernel
theorem dX5_sumBrought_32 : decode cX5_sumBrought 32 = .ok (.istore 5, 2) := by decide +kernel
theorem dX5_sumBrought_34 : decode cX5_sumBrought 34 = .ok (.iload_n 1, 1) := by decide +kernel
theorem dX5_sumBrought_35 : decode cX5_sumBrought 35 = .ok (.iload 4, 2) := by decide +kernel
theorem dX5_sumBrought_37 : decode cX5_sumBrought 37 = .ok (.invokestatic 59, 3) := by decide +kernel
theorem dX5_sumBrought_40 : decode cX5_sumBrought 40 = .ok (.ifCond .eq 26, 3) := by decide +kernel
theorem dX5_sumBrought_43 : decode cX5_sumBrought 43 = .ok (.iload 5, 2) := by decide +kernel
theorem dX5_sumBrought_45 : decode cX5_sumBrought 45 = .ok (.ifCond .lt 21, 3) := by decide +kernel
theorem dX5_sumBrought_48 : decode cX5_sumBrought 48 = .ok (.iload 5, 2) := by decide +kernel
theorem dX5_sumBrought_50 : decode cX5_sumBrought 50 = .ok (.getstatic 63, 3) := by decide +kernel
theorem dX5_sumBrought_53 : decode cX5_sumBrought 53 = .ok (.arraylength, 1) := by decide +kernel
theorem dX5_sumBrought_54 : decode cX5_sumBrought 54 = .ok (.if_icmp .ge 12, 3) := by decide +kernel
theorem dX5_sumBrought_57 : decode cX5_sumBrought 57 = .ok (.iload_n 3, 1) := by decide +kernel
theorem dX5_sumBrought_58 : decode cX5_sumBrought 58 = .ok (.getstatic 63, 3) := by decide +kernel
theorem dX5_sumBrought_61 : decode cX5_sumBrought 61 = .ok (.iload 5, 2) := by decide +kernel
theorem dX5_sumBrought_63 : decode cX5_sumBrought 63 = .ok (.iaload, 1) := by decide +kernel
theorem dX5_sumBrought_64 : decode cX5_sumBrought 64 = .ok (.iadd, 1) := by decide +kernel
theorem dX5_sumBrought_65 : decode cX5_sumBrought 65 = .ok (.istore_n 3, 1) := by decide +kernel
theorem dX5_sumBrought_66 : decode cX5_sumBrought 66 = .ok (.iinc 4 1, 3) := by decide +kernel
theorem dX5_sumBrought_69 : decode cX5_sumBrought 69 = .ok (.goto (-64), 3) := by decide +kernel
theorem dX5_sumBrought_72 : decode cX5_sumBrought 72 = .ok (.iload_n 3, 1) := by decide +kernel
theorem dX5_sumBrought_73 : decode cX5_sumBrought 73 = .ok (.ireturn, 1) := by decide +kernel
theorem dX5_addedTo_0 : decode cX5_addedTo 0 = .ok (.ldc2_w 66, 3) := by decide +kernel
theorem dX5_addedTo_3 : decode cX5_addedTo 3 = .ok (.lload_n 1, 1) := by decide +kernel
theorem dX5_addedTo_4 : decode cX5_addedTo 4 = .ok (.lmul, 1) := by decide +kernel
theorem dX5_addedTo_5 : decode cX5_addedTo 5 = .ok (.aload_n 0, 1) := by decide +kernel
theorem dX5_addedTo_6 : decode cX5_addedTo 6 = .ok (.getfield 24, 3) := by decide +kernel
theorem dX5_addedTo_9 : decode cX5_addedTo 9 = .ok (.i2l, 1) := by decide +kernel
theorem dX5_addedTo_10 : decode cX5_addedTo 10 = .ok (.ladd, 1) := by decide +kernel
theorem dX5_addedTo_11 : decode cX5_addedTo 11 = .ok (.lstore_n 3, 1) := by decide +kernel
theorem dX5_addedTo_12 : decode cX5_addedTo 12 = .ok (.ldc2_w 66, 3) := by decide +kernel
theorem dX5_addedTo_15 : decode cX5_addedTo 15 = .ok (.lload_n 3, 1) := by decide +kernel
theorem dX5_addedTo_16 : decode cX5_addedTo 16 = .ok (.lmul, 1) := by decide +kernel
theorem dX5_addedTo_17 : decode cX5_addedTo 17 = .ok (.aload_n 0, 1) := by decide +kernel
theorem dX5_addedTo_18 : decode cX5_addedTo 18 = .ok (.getfield 38, 3) := by decide +kernel
theorem dX5_addedTo_21 : decode cX5_addedTo 21 = .ok (.i2l, 1) := by decide +kernel
theorem dX5_addedTo_22 : decode cX5_addedTo 22 = .ok (.ladd, 1) := by decide +kernel
theorem dX5_addedTo_23 : decode cX5_addedTo 23 = .ok (.lstore_n 3, 1) := by decide +kernel
theorem dX5_addedTo_24 : decode cX5_addedTo 24 = .ok (.ldc2_w 66, 3) := by decide +kernel
theorem dX5_addedTo_27 : decode cX5_addedTo 27 = .ok (.lload_n 3, 1) := by decide +kernel
theorem dX5_addedTo_28 : decode cX5_addedTo 28 = .ok (.lmul, 1) := by decide +kernel
theorem dX5_addedTo_29 : decode cX5_addedTo 29 = .ok (.aload_n 0, 1) := by decide +kernel
theorem dX5_addedTo_30 : decode cX5_addedTo 30 = .ok (.getfield 50, 3) := by decide +kernel
theorem dX5_addedTo_33 : decode cX5_addedTo 33 = .ok (.i2l, 1) := by decide +kernel
theorem dX5_addedTo_34 : decode cX5_addedTo 34 = .ok (.ladd, 1) := by decide +kernel
theorem dX5_addedTo_35 : decode cX5_addedTo 35 = .ok (.lstore_n 3, 1) := by decide +kernel
theorem dX5_addedTo_36 : decode cX5_addedTo 36 = .ok (.iconst 0, 1) := by decide +kernel
theorem dX5_addedTo_37 : decode cX5_addedTo 37 = .ok (.istore 5, 2) := by decide +kernel
theorem dX5_addedTo_39 : decode cX5_addedTo 39 = .ok (.iload 5, 2) := by decide +kernel
theorem dX5_addedTo_41 : decode cX5_addedTo 41 = .ok (.aload_n 0, 1) := by decide +kernel
theorem dX5_addedTo_42 : decode cX5_addedTo 42 = .ok (.getfield 24, 3) := by decide +kernel
theorem dX5_addedTo_45 : decode cX5_addedTo 45 = .ok (.if_icmp .ge 76, 3) := by decide +kernel
theorem dX5_addedTo_48 : decode cX5_addedTo 48 = .ok (.iload 5, 2) := by decide +kernel
theorem dX5_addedTo_50 : decode cX5_addedTo 50 = .ok (.bipush 8, 2) := by decide +kernel
theorem dX5_addedTo_52 : decode cX5_addedTo 52 = .ok (.if_icmp .ge 69, 3) := by decide +kernel
theorem dX5_addedTo_55 : decode cX5_addedTo 55 = .ok (.ldc2_w 66, 3) := by decide +kernel
theorem dX5_addedTo_58 : decode cX5_addedTo 58 = .ok (.lload_n 3, 1) := by decide +kernel
theorem dX5_addedTo_59 : decode cX5_addedTo 59 = .ok (.lmul, 1) := by decide +kernel
theorem dX5_addedTo_60 : decode cX5_addedTo 60 = .ok (.aload_n 0, 1) := by decide +kernel
theorem dX5_addedTo_61 : decode cX5_addedTo 61 = .ok (.getfield 9, 3) := by decide +kernel
theorem dX5_addedTo_64 : decode cX5_addedTo 64 = .ok (.iload 5, 2) := by decide +kernel
theorem dX5_addedTo_66 : decode cX5_addedTo 66 = .ok (.iaload, 1) := by decide +kernel
theorem dX5_addedTo_67 : decode cX5_addedTo 67 = .ok (.i2l, 1) := by decide +kernel
theorem dX5_addedTo_68 : decode cX5_addedTo 68 = .ok (.ladd, 1) := by decide +kernel
theorem dX5_addedTo_69 : decode cX5_addedTo 69 = .ok (.lstore_n 3, 1) := by decide +kernel
theorem dX5_addedTo_70 : decode cX5_addedTo 70 = .ok (.ldc2_w 66, 3) := by decide +kernel
theorem dX5_addedTo_73 : decode cX5_addedTo 73 = .ok (.lload_n 3, 1) := by decide +kernel
theorem dX5_addedTo_74 : decode cX5_addedTo 74 = .ok (.lmul, 1) := by decide +kernel
theorem dX5_addedTo_75 : decode cX5_addedTo 75 = .ok (.aload_n 0, 1) := by decide +kernel
theorem dX5_addedTo_76 : decode cX5_addedTo 76 = .ok (.getfield 15, 3) := by decide +kernel
theorem dX5_addedTo_79 : decode cX5_addedTo 79 = .ok (.iload 5, 2) := by decide +kernel
theorem dX5_addedTo_81 : decode cX5_addedTo 81 = .ok (.iaload, 1) := by decide +kernel
theorem dX5_addedTo_82 : decode cX5_addedTo 82 = .ok (.i2l, 1) := by decide +kernel
theorem dX5_addedTo_83 : decode cX5_addedTo 83 = .ok (.ladd, 1) := by decide +kernel
theorem dX5_addedTo_84 : decode cX5_addedTo 84 = .ok (.lstore_n 3, 1) := by decide +kernel
theorem dX5_addedTo_85 : decode cX5_addedTo 85 = .ok (.ldc2_w 66, 3) := by decide +kernel
theorem dX5_addedTo_88 : decode cX5_addedTo 88 = .ok (.lload_n 3, 1) := by decide +kernel
theorem dX5_addedTo_89 : decode cX5_addedTo 89 = .ok (.lmul, 1) := by decide +kernel
theorem dX5_addedTo_90 : decode cX5_addedTo 90 = .ok (.aload_n 0, 1) := by decide +kernel
theorem dX5_addedTo_91 : decode cX5_addedTo 91 = .ok (.getfield 18, 3) := by decide +kernel
theorem dX5_addedTo_94 : decode cX5_addedTo 94 = .ok (.iload 5, 2) := by decide +kernel
theorem dX5_addedTo_96 : decode cX5_addedTo 96 = .ok (.iaload, 1) := by decide +kernel
theorem dX5_addedTo_97 : decode cX5_addedTo 97 = .ok (.i2l, 1) := by decide +kernel
theorem dX5_addedTo_98 : decode cX5_addedTo 98 = .ok (.ladd, 1) := by decide +kernel
theorem dX5_addedTo_99 : decode cX5_addedTo 99 = .ok (.lstore_n 3, 1) := by decide +kernel
theorem dX5_addedTo_100 : decode cX5_addedTo 100 = .ok (.ldc2_w 66, 3) := by decide +kernel
theorem dX5_addedTo_103 : decode cX5_addedTo 103 = .ok (.lload_n 3, 1) := by decide +kernel
theorem dX5_addedTo_104 : decode cX5_addedTo 104 = .ok (.lmul, 1) := by decide +kernel
theorem dX5_addedTo_105 : decode cX5_addedTo 105 = .ok (.aload_n 0, 1) := by decide +kernel
theorem dX5_addedTo_106 : decode cX5_addedTo 106 = .ok (.getfield 21, 3) := by decide +kernel
theorem dX5_addedTo_109 : decode cX5_addedTo 109 = .ok (.iload 5, 2) := by decide +kernel
theorem dX5_addedTo_111 : decode cX5_addedTo 111 = .ok (.iaload, 1) := by decide +kernel
theorem dX5_addedTo_112 : decode cX5_addedTo 112 = .ok (.i2l, 1) := by decide +kernel
theorem dX5_addedTo_113 : decode cX5_addedTo 113 = .ok (.ladd, 1) := by decide +kernel
theorem dX5_addedTo_114 : decode cX5_addedTo 114 = .ok (.lstore_n 3, 1) := by decide +kernel
theorem dX5_addedTo_115 : decode cX5_addedTo 115 = .ok (.iinc 5 1, 3) := by decide +kernel
theorem dX5_addedTo_118 : decode cX5_addedTo 118 = .ok (.goto (-79), 3) := by decide +kernel
theorem dX5_addedTo_121 : decode cX5_addedTo 121 = .ok (.ldc2_w 66, 3) := by decide +kernel
theorem dX5_addedTo_124 : decode cX5_addedTo 124 = .ok (.lload_n 3, 1) := by decide +kernel
theorem dX5_addedTo_125 : decode cX5_addedTo 125 = .ok (.lmul, 1) := by decide +kernel
theorem dX5_addedTo_126 : decode cX5_addedTo 126 = .ok (.aload_n 0, 1) := by decide +kernel
theorem dX5_addedTo_127 : decode cX5_addedTo 127 = .ok (.getfield 28, 3) := by decide +kernel
theorem dX5_addedTo_130 : decode cX5_addedTo 130 = .ok (.i2l, 1) := by decide +kernel
theorem dX5_addedTo_131 : decode cX5_addedTo 131 = .ok (.ladd, 1) := by decide +kernel
theorem dX5_addedTo_132 : decode cX5_addedTo 132 = .ok (.lstore_n 3, 1) := by decide +kernel
theorem dX5_addedTo_133 : decode cX5_addedTo 133 = .ok (.ldc2_w 66, 3) := by decide +kernel
theorem dX5_addedTo_136 : decode cX5_addedTo 136 = .ok (.lload_n 3, 1) := by decide +kernel
theorem dX5_addedTo_137 : decode cX5_addedTo 137 = .ok (.lmul, 1) := by decide +kernel
theorem dX5_addedTo_138 : decode cX5_addedTo 138 = .ok (.aload_n 0, 1) := by decide +kernel
theorem dX5_addedTo_139 : decode cX5_addedTo 139 = .ok (.getfield 31, 3) := by decide +kernel
theorem dX5_addedTo_142 : decode cX5_addedTo 142 = .ok (.i2l, 1) := by decide +kernel
theorem dX5_addedTo_143 : decode cX5_addedTo 143 = .ok (.ladd, 1) := by decide +kernel
theorem dX5_addedTo_144 : decode cX5_addedTo 144 = .ok (.lstore_n 3, 1) := by decide +kernel
theorem dX5_addedTo_145 : decode cX5_addedTo 145 = .ok (.iconst 0, 1) := by decide +kernel
theorem dX5_addedTo_146 : decode cX5_addedTo 146 = .ok (.istore 5, 2) := by decide +kernel
theorem dX5_addedTo_148 : decode cX5_addedTo 148 = .ok (.iload 5, 2) := by decide +kernel
theorem dX5_addedTo_150 : decode cX5_addedTo 150 = .ok (.aload_n 0, 1) := by decide +kernel
theorem dX5_addedTo_151 : decode cX5_addedTo 151 = .ok (.getfield 38, 3) := by decide +kernel
theorem dX5_addedTo_154 : decode cX5_addedTo 154 = .ok (.if_icmp .ge 31, 3) := by decide +kernel
theorem dX5_addedTo_157 : decode cX5_addedTo 157 = .ok (.iload 5, 2) := by decide +kernel
theorem dX5_addedTo_159 : decode cX5_addedTo 159 = .ok (.bipush 40, 2) := by decide +kernel
theorem dX5_addedTo_161 : decode cX5_addedTo 161 = .ok (.if_icmp .ge 24, 3) := by decide +kernel
theorem dX5_addedTo_164 : decode cX5_addedTo 164 = .ok (.ldc2_w 66, 3) := by decide +kernel
theorem dX5_addedTo_167 : decode cX5_addedTo 167 = .ok (.lload_n 3, 1) := by decide +kernel
theorem dX5_addedTo_168 : decode cX5_addedTo 168 = .ok (.lmul, 1) := by decide +kernel
theorem dX5_addedTo_169 : decode cX5_addedTo 169 = .ok (.aload_n 0, 1) := by decide +kernel
theorem dX5_addedTo_170 : decode cX5_addedTo 170 = .ok (.getfield 34, 3) := by decide +kernel
theorem dX5_addedTo_173 : decode cX5_addedTo 173 = .ok (.iload 5, 2) := by decide +kernel
theorem dX5_addedTo_175 : decode cX5_addedTo 175 = .ok (.caload, 1) := by decide +kernel
theorem dX5_addedTo_176 : decode cX5_addedTo 176 = .ok (.i2l, 1) := by decide +kernel
theorem dX5_addedTo_177 : decode cX5_addedTo 177 = .ok (.ladd, 1) := by decide +kernel
theorem dX5_addedTo_178 : decode cX5_addedTo 178 = .ok (.lstore_n 3, 1) := by decide +kernel
theorem dX5_addedTo_179 : decode cX5_addedTo 179 = .ok (.iinc 5 1, 3) := by decide +kernel
theorem dX5_addedTo_182 : decode cX5_addedTo 182 = .ok (.goto (-34), 3) := by decide +kernel
theorem dX5_addedTo_185 : decode cX5_addedTo 185 = .ok (.iconst 0, 1) := by decide +kernel
theorem dX5_addedTo_186 : decode cX5_addedTo 186 = .ok (.istore 5, 2) := by decide +kernel
theorem dX5_addedTo_188 : decode cX5_addedTo 188 = .ok (.iload 5, 2) := by decide +kernel
theorem dX5_addedTo_190 : decode cX5_addedTo 190 = .ok (.aload_n 0, 1) := by decide +kernel
theorem dX5_addedTo_191 : decode cX5_addedTo 191 = .ok (.getfield 50, 3) := by decide +kernel
theorem dX5_addedTo_194 : decode cX5_addedTo 194 = .ok (.if_icmp .ge 61, 3) := by decide +kernel
theorem dX5_addedTo_197 : decode cX5_addedTo 197 = .ok (.iload 5, 2) := by decide +kernel
theorem dX5_addedTo_199 : decode cX5_addedTo 199 = .ok (.bipush 8, 2) := by decide +kernel
theorem dX5_addedTo_201 : decode cX5_addedTo 201 = .ok (.if_icmp .ge 54, 3) := by decide +kernel
theorem dX5_addedTo_204 : decode cX5_addedTo 204 = .ok (.ldc2_w 66, 3) := by decide +kernel
theorem dX5_addedTo_207 : decode cX5_addedTo 207 = .ok (.lload_n 3, 1) := by decide +kernel
theorem dX5_addedTo_208 : decode cX5_addedTo 208 = .ok (.lmul, 1) := by decide +kernel
theorem dX5_addedTo_209 : decode cX5_addedTo 209 = .ok (.aload_n 0, 1) := by decide +kernel
theorem dX5_addedTo_210 : decode cX5_addedTo 210 = .ok (.getfield 41, 3) := by decide +kernel
theorem dX5_addedTo_213 : decode cX5_addedTo 213 = .ok (.iload 5, 2) := by decide +kernel
theorem dX5_addedTo_215 : decode cX5_addedTo 215 = .ok (.iaload, 1) := by decide +kernel
theorem dX5_addedTo_216 : decode cX5_addedTo 216 = .ok (.i2l, 1) := by decide +kernel
theorem dX5_addedTo_217 : decode cX5_addedTo 217 = .ok (.ladd, 1) := by decide +kernel
theorem dX5_addedTo_218 : decode cX5_addedTo 218 = .ok (.lstore_n 3, 1) := by decide +kernel
theorem dX5_addedTo_219 : decode cX5_addedTo 219 = .ok (.ldc2_w 66, 3) := by decide +kernel
theorem dX5_addedTo_222 : decode cX5_addedTo 222 = .ok (.lload_n 3, 1) := by decide +kernel
theorem dX5_addedTo_223 : decode cX5_addedTo 223 = .ok (.lmul, 1) := by decide +kernel
theorem dX5_addedTo_224 : decode cX5_addedTo 224 = .ok (.aload_n 0, 1) := by decide +kernel
theorem dX5_addedTo_225 : decode cX5_addedTo 225 = .ok (.getfield 44, 3) := by decide +kernel
theorem dX5_addedTo_228 : decode cX5_addedTo 228 = .ok (.iload 5, 2) := by decide +kernel
theorem dX5_addedTo_230 : decode cX5_addedTo 230 = .ok (.iaload, 1) := by decide +kernel
theorem dX5_addedTo_231 : decode cX5_addedTo 231 = .ok (.i2l, 1) := by decide +kernel
theorem dX5_addedTo_232 : decode cX5_addedTo 232 = .ok (.ladd, 1) := by decide +kernel
theorem dX5_addedTo_233 : decode cX5_addedTo 233 = .ok (.lstore_n 3, 1) := by decide +kernel
theorem dX5_addedTo_234 : decode cX5_addedTo 234 = .ok (.ldc2_w 66, 3) := by decide +kernel
theorem dX5_addedTo_237 : decode cX5_addedTo 237 = .ok (.lload_n 3, 1) := by decide +kernel
theorem dX5_addedTo_238 : decode cX5_addedTo 238 = .ok (.lmul, 1) := by decide +kernel
theorem dX5_addedTo_239 : decode cX5_addedTo 239 = .ok (.aload_n 0, 1) := by decide +kernel
theorem dX5_addedTo_240 : decode cX5_addedTo 240 = .ok (.getfield 47, 3) := by decide +kernel
theorem dX5_addedTo_243 : decode cX5_addedTo 243 = .ok (.iload 5, 2) := by decide +kernel
theorem dX5_addedTo_245 : decode cX5_addedTo 245 = .ok (.iaload, 1) := by decide +kernel
theorem dX5_addedTo_246 : decode cX5_addedTo 246 = .ok (.i2l, 1) := by decide +kernel
theorem dX5_addedTo_247 : decode cX5_addedTo 247 = .ok (.ladd, 1) := by decide +kernel
theorem dX5_addedTo_248 : decode cX5_addedTo 248 = .ok (.lstore_n 3, 1) := by decide +kernel
theorem dX5_addedTo_249 : decode cX5_addedTo 249 = .ok (.iinc 5 1, 3) := by decide +kernel
theorem dX5_addedTo_252 : decode cX5_addedTo 252 = .ok (.goto (-64), 3) := by decide +kernel
theorem dX5_addedTo_255 : decode cX5_addedTo 255 = .ok (.lload_n 3, 1) := by decide +kernel
theorem dX5_addedTo_256 : decode cX5_addedTo 256 = .ok (.lreturn, 1) := by decide +kernel
theorem dX6_init_0 : decode cX6_init 0 = .ok (.aload_n 0, 1) := by decide +kernel
theorem dX6_init_1 : decode cX6_init 1 = .ok (.invokespecial 3, 3) := by decide +kernel
theorem dX6_init_4 : decode cX6_init 4 = .ok (.aload_n 0, 1) := by decide +kernel
theorem dX6_init_5 : decode cX6_init 5 = .ok (.bipush 40, 2) := by decide +kernel
theorem dX6_init_7 : decode cX6_init 7 = .ok (.newarray .char, 2) := by decide +kernel
theorem dX6_init_9 : decode cX6_init 9 = .ok (.putfield 9, 3) := by decide +kernel
theorem dX6_init_12 : decode cX6_init 12 = .ok (.aload_n 0, 1) := by decide +kernel
theorem dX6_init_13 : decode cX6_init 13 = .ok (.bipush 40, 2) := by decide +kernel
theorem dX6_init_15 : decode cX6_init 15 = .ok (.newarray .int, 2) := by decide +kernel
theorem dX6_init_17 : decode cX6_init 17 = .ok (.putfield 15, 3) := by decide +kernel
theorem dX6_init_20 : decode cX6_init 20 = .ok (.aload_n 0, 1) := by decide +kernel
theorem dX6_init_21 : decode cX6_init 21 = .ok (.bipush 40, 2) := by decide +kernel
theorem dX6_init_23 : decode cX6_init 23 = .ok (.newarray .long, 2) := by decide +kernel
theorem dX6_init_25 : decode cX6_init 25 = .ok (.putfield 19, 3) := by decide +kernel
theorem dX6_init_28 : decode cX6_init 28 = .ok (.aload_n 0, 1) := by decide +kernel
theorem dX6_init_29 : decode cX6_init 29 = .ok (.aload_n 1, 1) := by decide +kernel
theorem dX6_init_30 : decode cX6_init 30 = .ok (.putfield 23, 3) := by decide +kernel
theorem dX6_init_33 : decode cX6_init 33 = .ok (.aload_n 0, 1) := by decide +kernel
theorem dX6_init_34 : decode cX6_init 34 = .ok (.invokevirtual 27, 3) := by decide +kernel
theorem dX6_init_37 : decode cX6_init 37 = .ok (.return_, 1) := by decide +kernel
theorem dX6_read_0 : decode cX6_read 0 = .ok (.aload_n 0, 1) := by decide +kernel
theorem dX6_read_1 : decode cX6_read 1 = .ok (.iconst 0, 1) := by decide +kernel
theorem dX6_read_2 : decode cX6_read 2 = .ok (.putfield 30, 3) := by decide +kernel
theorem dX6_read_5 : decode cX6_read 5 = .ok (.aload_n 0, 1) := by decide +kernel
theorem dX6_read_6 : decode cX6_read 6 = .ok (.iconst 0, 1) := by decide +kernel
theorem dX6_read_7 : decode cX6_read 7 = .ok (.putfield 34, 3) := by decide +kernel
theorem dX6_read_10 : decode cX6_read 10 = .ok (.aload_n 0, 1) := by decide +kernel
theorem dX6_read_11 : decode cX6_read 11 = .ok (.iconst (-1), 1) := by decide +kernel
theorem dX6_read_12 : decode cX6_read 12 = .ok (.putfield 37, 3) := by decide +kernel
theorem dX6_read_15 : decode cX6_read 15 = .ok (.aload_n 0, 1) := by decide +kernel
theorem dX6_read_16 : decode cX6_read 16 = .ok (.iconst 0, 1) := by decide +kernel
theorem dX6_read_17 : decode cX6_read 17 = .ok (.putfield 40, 3) := by decide +kernel
theorem dX6_read_20 : decode cX6_read 20 = .ok (.aload_n 0, 1) := by decide +kernel
theorem dX6_read_21 : decode cX6_read 21 = .ok (.iconst 0, 1) := by decide +kernel
theorem dX6_read_22 : decode cX6_read 22 = .ok (.invokevirtual 44, 3) := by decide +kernel
theorem dX6_read_25 : decode cX6_read 25 = .ok (.aload_n 0, 1) := by decide +kernel
theorem dX6_read_26 : decode cX6_read 26 = .ok (.invokevirtual 48, 3) := by decide +kernel
theorem dX6_read_29 : decode cX6_read 29 = .ok (.iconst (-1), 1) := by decide +kernel
theorem dX6_read_30 : decode cX6_read 30 = .ok (.if_icmp .eq 12, 3) := by decide +kernel
theorem dX6_read_33 : decode cX6_read 33 = .ok (.aload_n 0, 1) := by decide +kernel
theorem dX6_read_34 : decode cX6_read 34 = .ok (.aload_n 0, 1) := by decide +kernel
theorem dX6_read_35 : decode cX6_read 35 = .ok (.getfield 30, 3) := by decide +kernel
theorem dX6_read_38 : decode cX6_read 38 = .ok (.iconst 1, 1) := by decide +kernel
theorem dX6_read_39 : decode cX6_read 39 = .ok (.invokevirtual 52, 3) := by decide +kernel
theorem dX6_read_42 : decode cX6_read 42 = .ok (.return_, 1) := by decide +kernel
theorem dX6_readValue_0 : decode cX6_readValue 0 = .ok (.aload_n 0, 1) := by decide +kernel
theorem dX6_readValue_1 : decode cX6_readValue 1 = .ok (.iload_n 1, 1) := by decide +kernel
theorem dX6_readValue_2 : decode cX6_readValue 2 = .ok (.invokevirtual 56, 3) := by decide +kernel
theorem dX6_readValue_5 : decode cX6_readValue 5 = .ok (.iconst 0, 1) := by decide +kernel
theorem dX6_readValue_6 : decode cX6_readValue 6 = .ok (.istore_n 2, 1) := by decide +kernel
theorem dX6_readValue_7 : decode cX6_readValue 7 = .ok (.iload_n 2, 1) := by decide +kernel
theorem dX6_readValue_8 : decode cX6_readValue 8 = .ok (.bipush 40, 2) := by decide +kernel
theorem dX6_readValue_10 : decode cX6_readValue 10 = .ok (.if_icmp .ge 31, 3) := by decide +kernel
theorem dX6_readValue_13 : decode cX6_readValue 13 = .ok (.aload_n 0, 1) := by decide +kernel
theorem dX6_readValue_14 : decode cX6_readValue 14 = .ok (.ldc 59, 2) := by decide +kernel
theorem dX6_readValue_16 : decode cX6_readValue 16 = .ok (.invokevirtual 61, 3) := by decide +kernel
theorem dX6_readValue_19 : decode cX6_readValue 19 = .ok (.iconst (-1), 1) := by decide +kernel
theorem dX6_readValue_20 : decode cX6_readValue 20 = .ok (.if_icmp .eq 21, 3) := by decide +kernel
theorem dX6_readValue_23 : decode cX6_readValue 23 = .ok (.aload_n 0, 1) := by decide +kernel
theorem dX6_readValue_24 : decode cX6_readValue 24 = .ok (.iload_n 1, 1) := by decide +kernel
theorem dX6_readValue_25 : decode cX6_readValue 25 = .ok (.invokevirtual 56, 3) := by decide +kernel
theorem dX6_readValue_28 : decode cX6_readValue 28 = .ok (.aload_n 0, 1) := by decide +kernel
theorem dX6_readValue_29 : decode cX6_readValue 29 = .ok (.bipush 124, 2) := by decide +kernel
theorem dX6_readValue_31 : decode cX6_readValue 31 = .ok (.iconst 0, 1) := by decide +kernel
theorem dX6_readValue_32 : decode cX6_readValue 32 = .ok (.invokevirtual 65, 3) := by decide +kernel
theorem dX6_readValue_35 : decode cX6_readValue 35 = .ok (.iinc 2 1, 3) := by decide +kernel
theorem dX6_readValue_38 : decode cX6_readValue 38 = .ok (.goto (-31), 3) := by decide +kernel
theorem dX6_readValue_41 : decode cX6_readValue 41 = .ok (.return_, 1) := by decide +kernel
theorem dX6_readBoth_0 : decode cX6_readBoth 0 = .ok (.aload_n 0, 1) := by decide +kernel
theorem dX6_readBoth_1 : decode cX6_readBoth 1 = .ok (.iload_n 1, 1) := by decide +kernel
theorem dX6_readBoth_2 : decode cX6_readBoth 2 = .ok (.invokevirtual 69, 3) := by decide +kernel
theorem dX6_readBoth_5 : decode cX6_readBoth 5 = .ok (.iconst 0, 1) := by decide +kernel
theorem dX6_readBoth_6 : decode cX6_readBoth 6 = .ok (.istore_n 2, 1) := by decide +kernel
theorem dX6_readBoth_7 : decode cX6_readBoth 7 = .ok (.iload_n 2, 1) := by decide +kernel
theorem dX6_readBoth_8 : decode cX6_readBoth 8 = .ok (.bipush 40, 2) := by decide +kernel
theorem dX6_readBoth_10 : decode cX6_readBoth 10 = .ok (.if_icmp .ge 31, 3) := by decide +kernel
theorem dX6_readBoth_13 : decode cX6_readBoth 13 = .ok (.aload_n 0, 1) := by decide +kernel
theorem dX6_readBoth_14 : decode cX6_readBoth 14 = .ok (.ldc 72, 2) := by decide +kernel
theorem dX6_readBoth_16 : decode cX6_readBoth 16 = .ok (.invokevirtual 61, 3) := by decide +kernel
theorem dX6_readBoth_19 : decode cX6_readBoth 19 = .ok (.iconst (-1), 1) := by decide +kernel
theorem dX6_readBoth_20 : decode cX6_readBoth 20 = .ok (.if_icmp .eq 21, 3) := by decide +kernel
theorem dX6_readBoth_23 : decode cX6_readBoth 23 = .ok (.aload_n 0, 1) := by decide +kernel
theorem dX6_readBoth_24 : decode cX6_readBoth 24 = .ok (.iload_n 1, 1) := by decide +kernel
theorem dX6_readBoth_25 : decode cX6_readBoth 25 = .ok (.invokevirtual 69, 3) := by decide +kernel
theorem dX6_readBoth_28 : decode cX6_readBoth 28 = .ok (.aload_n 0, 1) := by decide +kernel
theorem dX6_readBoth_29 : decode cX6_readBoth 29 = .ok (.bipush 38, 2) := by decide +kernel
theorem dX6_readBoth_31 : decode cX6_readBoth 31 = .ok (.iconst 0, 1) := by decide +kernel
theorem dX6_readBoth_32 : decode cX6_readBoth 32 = .ok (.invokevirtual 65, 3) := by decide +kernel
theorem dX6_readBoth_35 : decode cX6_readBoth 35 = .ok (.iinc 2 1, 3) := by decide +kernel
theorem dX6_readBoth_38 : decode cX6_readBoth 38 = .ok (.goto (-31), 3) := by decide +kernel
theorem dX6_readBoth_41 : decode cX6_readBoth 41 = .ok (.return_, 1) := by decide +kernel
theorem dX6_readHeld_0 : decode cX6_readHeld 0 = .ok (.aload_n 0, 1) := by decide +kernel
theorem dX6_readHeld_1 : decode cX6_readHeld 1 = .ok (.iload_n 1, 1) := by decide +kernel
theorem dX6_readHeld_2 : decode cX6_readHeld 2 = .ok (.invokevirtual 74, 3) := by decide +kernel
theorem dX6_readHeld_5 : decode cX6_readHeld 5 = .ok (.aload_n 0, 1) := by decide +kernel
theorem dX6_readHeld_6 : decode cX6_readHeld 6 = .ok (.ldc 77, 2) := by decide +kernel
theorem dX6_readHeld_8 : decode cX6_readHeld 8 = .ok (.invokevirtual 61, 3) := by decide +kernel
theorem dX6_readHeld_11 : decode cX6_readHeld 11 = .ok (.istore_n 2, 1) := by decide +kernel
theorem dX6_readHeld_12 : decode cX6_readHeld 12 = .ok (.iload_n 2, 1) := by decide +kernel
theorem dX6_readHeld_13 : decode cX6_readHeld 13 = .ok (.iconst (-1), 1) := by decide +kernel
theorem dX6_readHeld_14 : decode cX6_readHeld 14 = .ok (.if_icmp .eq 15, 3) := by decide +kernel
theorem dX6_readHeld_17 : decode cX6_readHeld 17 = .ok (.aload_n 0, 1) := by decide +kernel
theorem dX6_readHeld_18 : decode cX6_readHeld 18 = .ok (.iload_n 1, 1) := by decide +kernel
theorem dX6_readHeld_19 : decode cX6_readHeld 19 = .ok (.invokevirtual 74, 3) := by decide +kernel
theorem dX6_readHeld_22 : decode cX6_readHeld 22 = .ok (.aload_n 0, 1) := by decide +kernel
theorem dX6_readHeld_23 : decode cX6_readHeld 23 = .ok (.iload_n 2, 1) := by decide +kernel
theorem dX6_readHeld_24 : decode cX6_readHeld 24 = .ok (.i2c, 1) := by decide +kernel
theorem dX6_readHeld_25 : decode cX6_readHeld 25 = .ok (.iconst 0, 1) := by decide +kernel
theorem dX6_readHeld_26 : decode cX6_readHeld 26 = .ok (.invokevirtual 65, 3) := by decide +kernel
theorem dX6_readHeld_29 : decode cX6_readHeld 29 = .ok (.return_, 1) := by decide +kernel
theorem dX6_readSum_0 : decode cX6_readSum 0 = .ok (.aload_n 0, 1) := by decide +kernel
theorem dX6_readSum_1 : decode cX6_readSum 1 = .ok (.iload_n 1, 1) := by decide +kernel
theorem dX6_readSum_2 : decode cX6_readSum 2 = .ok (.invokevirtual 79, 3) := by decide +kernel
theorem dX6_readSum_5 : decode cX6_readSum 5 = .ok (.aload_n 0, 1) := by decide +kernel
theorem dX6_readSum_6 : decode cX6_readSum 6 = .ok (.ldc 82, 2) := by decide +kernel
theorem dX6_readSum_8 : decode cX6_readSum 8 = .ok (.invokevirtual 61, 3) := by decide +kernel
theorem dX6_readSum_11 : decode cX6_readSum 11 = .ok (.istore_n 2, 1) := by decide +kernel
theorem dX6_readSum_12 : decode cX6_readSum 12 = .ok (.iconst 0, 1) := by decide +kernel
theorem dX6_readSum_13 : decode cX6_readSum 13 = .ok (.istore_n 3, 1) := by decide +kernel
theorem dX6_readSum_14 : decode cX6_readSum 14 = .ok (.iload_n 3, 1) := by decide +kernel
theorem dX6_readSum_15 : decode cX6_readSum 15 = .ok (.bipush 40, 2) := by decide +kernel
theorem dX6_readSum_17 : decode cX6_readSum 17 = .ok (.if_icmp .ge 33, 3) := by decide +kernel
theorem dX6_readSum_20 : decode cX6_readSum 20 = .ok (.iload_n 2, 1) := by decide +kernel
theorem dX6_readSum_21 : decode cX6_readSum 21 = .ok (.iconst (-1), 1) := by decide +kernel
theorem dX6_readSum_22 : decode cX6_readSum 22 = .ok (.if_icmp .eq 28, 3) := by decide +kernel
theorem dX6_readSum_25 : decode cX6_readSum 25 = .ok (.aload_n 0, 1) := by decide +kernel
theorem dX6_readSum_26 : decode cX6_readSum 26 = .ok (.iload_n 1, 1) := by decide +kernel
theorem dX6_readSum_27 : decode cX6_readSum 27 = .ok (.invokevirtual 79, 3) := by decide +kernel
theorem dX6_readSum_30 : decode cX6_readSum 30 = .ok (.aload_n 0, 1) := by decide +kernel
theorem dX6_readSum_31 : decode cX6_readSum 31 = .ok (.iload_n 2, 1) := by decide +kernel
theorem dX6_readSum_32 : decode cX6_readSum 32 = .ok (.i2c, 1) := by decide +kernel
theorem dX6_readSum_33 : decode cX6_readSum 33 = .ok (.iconst 0, 1) := by decide +kernel
theorem dX6_readSum_34 : decode cX6_readSum 34 = .ok (.invokevirtual 65, 3) := by decide +kernel
theorem dX6_readSum_37 : decode cX6_readSum 37 = .ok (.aload_n 0, 1) := by decide +kernel
theorem dX6_readSum_38 : decode cX6_readSum 38 = .ok (.ldc 82, 2) := by decide +kernel
theorem dX6_readSum_40 : decode cX6_readSum 40 = .ok (.invokevirtual 61, 3) := by decide +kernel
theorem dX6_readSum_43 : decode cX6_readSum 43 = .ok (.istore_n 2, 1) := by decide +kernel
theorem dX6_readSum_44 : decode cX6_readSum 44 = .ok (.iinc 3 1, 3) := by decide +kernel
theorem dX6_readSum_47 : decode cX6_readSum 47 = .ok (.goto (-33), 3) := by decide +kernel
theorem dX6_readSum_50 : decode cX6_readSum 50 = .ok (.return_, 1) := by decide +kernel
theorem dX6_readTerm_0 : decode cX6_readTerm 0 = .ok (.aload_n 0, 1) := by decide +kernel
theorem dX6_readTerm_1 : decode cX6_readTerm 1 = .ok (.iload_n 1, 1) := by decide +kernel
theorem dX6_readTerm_2 : decode cX6_readTerm 2 = .ok (.invokevirtual 84, 3) := by decide +kernel
theorem dX6_readTerm_5 : decode cX6_readTerm 5 = .ok (.aload_n 0, 1) := by decide +kernel
theorem dX6_readTerm_6 : decode cX6_readTerm 6 = .ok (.ldc 87, 2) := by decide +kernel
theorem dX6_readTerm_8 : decode cX6_readTerm 8 = .ok (.invokevirtual 61, 3) := by decide +kernel
theorem dX6_readTerm_11 : decode cX6_readTerm 11 = .ok (.istore_n 2, 1) := by decide +kernel
theorem dX6_readTerm_12 : decode cX6_readTerm 12 = .ok (.iconst 0, 1) := by decide +kernel
theorem dX6_readTerm_13 : decode cX6_readTerm 13 = .ok (.istore_n 3, 1) := by decide +kernel
theorem dX6_readTerm_14 : decode cX6_readTerm 14 = .ok (.iload_n 3, 1) := by decide +kernel
theorem dX6_readTerm_15 : decode cX6_readTerm 15 = .ok (.bipush 40, 2) := by decide +kernel
theorem dX6_readTerm_17 : decode cX6_readTerm 17 = .ok (.if_icmp .ge 33, 3) := by decide +kernel
theorem dX6_readTerm_20 : decode cX6_readTerm 20 = .ok (.iload_n 2, 1) := by decide +kernel
theorem dX6_readTerm_21 : decode cX6_readTerm 21 = .ok (.iconst (-1), 1) := by decide +kernel
theorem dX6_readTerm_22 : decode cX6_readTerm 22 = .ok (.if_icmp .eq 28, 3) := by decide +kernel
theorem dX6_readTerm_25 : decode cX6_readTerm 25 = .ok (.aload_n 0, 1) := by decide +kernel
theorem dX6_readTerm_26 : decode cX6_readTerm 26 = .ok (.iload_n 1, 1) := by decide +kernel
theorem dX6_readTerm_27 : decode cX6_readTerm 27 = .ok (.invokevirtual 84, 3) := by decide +kernel
theorem dX6_readTerm_30 : decode cX6_readTerm 30 = .ok (.aload_n 0, 1) := by decide +kernel
theorem dX6_readTerm_31 : decode cX6_readTerm 31 = .ok (.iload_n 2, 1) := by decide +kernel
theorem dX6_readTerm_32 : decode cX6_readTerm 32 = .ok (.i2c, 1) := by decide +kernel
theorem dX6_readTerm_33 : decode cX6_readTerm 33 = .ok (.iconst 0, 1) := by decide +kernel
theorem dX6_readTerm_34 : decode cX6_readTerm 34 = .ok (.invokevirtual 65, 3) := by decide +kernel
theorem dX6_readTerm_37 : decode cX6_readTerm 37 = .ok (.aload_n 0, 1) := by decide +kernel
theorem dX6_readTerm_38 : decode cX6_readTerm 38 = .ok (.ldc 87, 2) := by decide +kernel
theorem dX6_readTerm_40 : decode cX6_readTerm 40 = .ok (.invokevirtual 61, 3) := by decide +kernel
theorem dX6_readTerm_43 : decode cX6_readTerm 43 = .ok (.istore_n 2, 1) := by decide +kernel
theorem dX6_readTerm_44 : decode cX6_readTerm 44 = .ok (.iinc 3 1, 3) := by decide +kernel
theorem dX6_readTerm_47 : decode cX6_readTerm 47 = .ok (.goto (-33), 3) := by decide +kernel
theorem dX6_readTerm_50 : decode cX6_readTerm 50 = .ok (.return_, 1) := by decide +kernel
theorem dX6_readUnit_0 : decode cX6_readUnit 0 = .ok (.aload_n 0, 1) := by decide +kernel
theorem dX6_readUnit_1 : decode cX6_readUnit 1 = .ok (.getfield 30, 3) := by decide +kernel
theorem dX6_readUnit_4 : decode cX6_readUnit 4 = .ok (.istore_n 2, 1) := by decide +kernel
theorem dX6_readUnit_5 : decode cX6_readUnit 5 = .ok (.aload_n 0, 1) := by decide +kernel
theorem dX6_readUnit_6 : decode cX6_readUnit 6 = .ok (.ldc 89, 2) := by decide +kernel
theorem dX6_readUnit_8 : decode cX6_readUnit 8 = .ok (.invokevirtual 61, 3) := by decide +kernel
theorem dX6_readUnit_11 : decode cX6_readUnit 11 = .ok (.istore_n 3, 1) := by decide +kernel
theorem dX6_readUnit_12 : decode cX6_readUnit 12 = .ok (.iconst 0, 1) := by decide +kernel
theorem dX6_readUnit_13 : decode cX6_readUnit 13 = .ok (.istore 4, 2) := by decide +kernel
theorem dX6_readUnit_15 : decode cX6_readUnit 15 = .ok (.iload 4, 2) := by decide +kernel
theorem dX6_readUnit_17 : decode cX6_readUnit 17 = .ok (.bipush 40, 2) := by decide +kernel
theorem dX6_readUnit_19 : decode cX6_readUnit 19 = .ok (.if_icmp .ge 21, 3) := by decide +kernel
theorem dX6_readUnit_22 : decode cX6_readUnit 22 = .ok (.iload_n 3, 1) := by decide +kernel
theorem dX6_readUnit_23 : decode cX6_readUnit 23 = .ok (.iconst (-1), 1) := by decide +kernel
theorem dX6_readUnit_24 : decode cX6_readUnit 24 = .ok (.if_icmp .eq 16, 3) := by decide +kernel
theorem dX6_readUnit_27 : decode cX6_readUnit 27 = .ok (.aload_n 0, 1) := by decide +kernel
theorem dX6_readUnit_28 : decode cX6_readUnit 28 = .ok (.ldc 89, 2) := by decide +kernel
theorem dX6_readUnit_30 : decode cX6_readUnit 30 = .ok (.invokevirtual 61, 3) := by decide +kernel
theorem dX6_readUnit_33 : decode cX6_readUnit 33 = .ok (.istore_n 3, 1) := by decide +kernel
theorem dX6_readUnit_34 : decode cX6_readUnit 34 = .ok (.iinc 4 1, 3) := by decide +kernel
theorem dX6_readUnit_37 : decode cX6_readUnit 37 = .ok (.goto (-22), 3) := by decide +kernel
theorem dX6_readUnit_40 : decode cX6_readUnit 40 = .ok (.aload_n 0, 1) := by decide +kernel
theorem dX6_readUnit_41 : decode cX6_readUnit 41 = .ok (.getfield 30, 3) := by decide +kernel
theorem dX6_readUnit_44 : decode cX6_readUnit 44 = .ok (.istore 4, 2) := by decide +kernel
theorem dX6_readUnit_46 : decode cX6_readUnit 46 = .ok (.aload_n 0, 1) := by decide +kernel
theorem dX6_readUnit_47 : decode cX6_readUnit 47 = .ok (.iload_n 1, 1) := by decide +kernel
theorem dX6_readUnit_48 : decode cX6_readUnit 48 = .ok (.invokevirtual 91, 3) := by decide +kernel
theorem dX6_readUnit_51 : decode cX6_readUnit 51 = .ok (.iload 4, 2) := by decide +kernel
theorem dX6_readUnit_53 : decode cX6_readUnit 53 = .ok (.iconst 1, 1) := by decide +kernel
theorem dX6_readUnit_54 : decode cX6_readUnit 54 = .ok (.isub, 1) := by decide +kernel
theorem dX6_readUnit_55 : decode cX6_readUnit 55 = .ok (.istore 5, 2) := by decide +kernel
theorem dX6_readUnit_57 : decode cX6_readUnit 57 = .ok (.iload 5, 2) := by decide +kernel
theorem dX6_readUnit_59 : decode cX6_readUnit 59 = .ok (.iload_n 2, 1) := by decide +kernel
theorem dX6_readUnit_60 : decode cX6_readUnit 60 = .ok (.if_icmp .lt 68, 3) := by decide +kernel
theorem dX6_readUnit_63 : decode cX6_readUnit 63 = .ok (.iload 5, 2) := by decide +kernel
theorem dX6_readUnit_65 : decode cX6_readUnit 65 = .ok (.ifCond .lt 63, 3) := by decide +kernel
theorem dX6_readUnit_68 : decode cX6_readUnit 68 = .ok (.iload 5, 2) := by decide +kernel
theorem dX6_readUnit_70 : decode cX6_readUnit 70 = .ok (.bipush 40, 2) := by decide +kernel
theorem dX6_readUnit_72 : decode cX6_readUnit 72 = .ok (.if_icmp .ge 56, 3) := by decide +kernel
theorem dX6_readUnit_75 : decode cX6_readUnit 75 = .ok (.aload_n 0, 1) := by decide +kernel
theorem dX6_readUnit_76 : decode cX6_readUnit 76 = .ok (.getfield 23, 3) := by decide +kernel
theorem dX6_readUnit_79 : decode cX6_readUnit 79 = .ok (.getfield 94, 3) := by decide +kernel
theorem dX6_readUnit_82 : decode cX6_readUnit 82 = .ok (.iload 5, 2) := by decide +kernel
theorem dX6_readUnit_84 : decode cX6_readUnit 84 = .ok (.caload, 1) := by decide +kernel
theorem dX6_readUnit_85 : decode cX6_readUnit 85 = .ok (.bipush 33, 2) := by decide +kernel
theorem dX6_readUnit_87 : decode cX6_readUnit 87 = .ok (.if_icmp .ne 13, 3) := by decide +kernel
theorem dX6_readUnit_90 : decode cX6_readUnit 90 = .ok (.aload_n 0, 1) := by decide +kernel
theorem dX6_readUnit_91 : decode cX6_readUnit 91 = .ok (.bipush 33, 2) := by decide +kernel
theorem dX6_readUnit_93 : decode cX6_readUnit 93 = .ok (.iconst 0, 1) := by decide +kernel
theorem dX6_readUnit_94 : decode cX6_readUnit 94 = .ok (.invokevirtual 65, 3) := by decide +kernel
theorem dX6_readUnit_97 : decode cX6_readUnit 97 = .ok (.goto 25, 3) := by decide +kernel
theorem dX6_readUnit_100 : decode cX6_readUnit 100 = .ok (.aload_n 0, 1) := by decide +kernel
theorem dX6_readUnit_101 : decode cX6_readUnit 101 = .ok (.getfield 23, 3) := by decide +kernel
theorem dX6_readUnit_104 : decode cX6_readUnit 104 = .ok (.getfield 94, 3) := by decide +kernel
theorem dX6_readUnit_107 : decode cX6_readUnit 107 = .ok (.iload 5, 2) := by decide +kernel
theorem dX6_readUnit_109 : decode cX6_readUnit 109 = .ok (.caload, 1) := by decide +kernel
theorem dX6_readUnit_110 : decode cX6_readUnit 110 = .ok (.bipush 45, 2) := by decide +kernel
theorem dX6_readUnit_112 : decode cX6_readUnit 112 = .ok (.if_icmp .ne 10, 3) := by decide +kernel
theorem dX6_readUnit_115 : decode cX6_readUnit 115 = .ok (.aload_n 0, 1) := by decide +kernel
theorem dX6_readUnit_116 : decode cX6_readUnit 116 = .ok (.bipush 126, 2) := by decide +kernel
theorem dX6_readUnit_118 : decode cX6_readUnit 118 = .ok (.iconst 0, 1) := by decide +kernel
theorem dX6_readUnit_119 : decode cX6_readUnit 119 = .ok (.invokevirtual 65, 3) := by decide +kernel
theorem dX6_readUnit_122 : decode cX6_readUnit 122 = .ok (.iinc 5 (-1), 3) := by decide +kernel
theorem dX6_readUnit_125 : decode cX6_readUnit 125 = .ok (.goto (-68), 3) := by decide +kernel
theorem dX6_readUnit_128 : decode cX6_readUnit 128 = .ok (.return_, 1) := by decide +kernel
theorem dX6_readBareUnit_0 : decode cX6_readBareUnit 0 = .ok (.aload_n 0, 1) := by decide +kernel
theorem dX6_readBareUnit_1 : decode cX6_readBareUnit 1 = .ok (.invokevirtual 48, 3) := by decide +kernel
theorem dX6_readBareUnit_4 : decode cX6_readBareUnit 4 = .ok (.istore_n 2, 1) := by decide +kernel
theorem dX6_readBareUnit_5 : decode cX6_readBareUnit 5 = .ok (.iload_n 2, 1) := by decide +kernel
theorem dX6_readBareUnit_6 : decode cX6_readBareUnit 6 = .ok (.invokestatic 99, 3) := by decide +kernel
theorem dX6_readBareUnit_9 : decode cX6_readBareUnit 9 = .ok (.ifCond .eq 10, 3) := by decide +kernel
theorem dX6_readBareUnit_12 : decode cX6_readBareUnit 12 = .ok (.aload_n 0, 1) := by decide +kernel
theorem dX6_readBareUnit_13 : decode cX6_readBareUnit 13 = .ok (.invokevirtual 103, 3) := by decide +kernel
theorem dX6_readBareUnit_16 : decode cX6_readBareUnit 16 = .ok (.goto 92, 3) := by decide +kernel
theorem dX6_readBareUnit_19 : decode cX6_readBareUnit 19 = .ok (.iload_n 2, 1) := by decide +kernel
theorem dX6_readBareUnit_20 : decode cX6_readBareUnit 20 = .ok (.bipush 40, 2) := by decide +kernel
theorem dX6_readBareUnit_22 : decode cX6_readBareUnit 22 = .ok (.if_icmp .ne 11, 3) := by decide +kernel
theorem dX6_readBareUnit_25 : decode cX6_readBareUnit 25 = .ok (.aload_n 0, 1) := by decide +kernel
theorem dX6_readBareUnit_26 : decode cX6_readBareUnit 26 = .ok (.iload_n 1, 1) := by decide +kernel
theorem dX6_readBareUnit_27 : decode cX6_readBareUnit 27 = .ok (.invokevirtual 106, 3) := by decide +kernel
theorem dX6_readBareUnit_30 : decode cX6_readBareUnit 30 = .ok (.goto 78, 3) := by decide +kernel
theorem dX6_readBareUnit_33 : decode cX6_readBareUnit 33 = .ok (.iload_n 2, 1) := by decide +kernel
theorem dX6_readBareUnit_34 : decode cX6_readBareUnit 34 = .ok (.bipush 109, 2) := by decide +kernel
theorem dX6_readBareUnit_36 : decode cX6_readBareUnit 36 = .ok (.if_icmp .ne 28, 3) := by decide +kernel
theorem dX6_readBareUnit_39 : decode cX6_readBareUnit 39 = .ok (.aload_n 0, 1) := by decide +kernel
theorem dX6_readBareUnit_40 : decode cX6_readBareUnit 40 = .ok (.iconst 1, 1) := by decide +kernel
theorem dX6_readBareUnit_41 : decode cX6_readBareUnit 41 = .ok (.putfield 40, 3) := by decide +kernel
theorem dX6_readBareUnit_44 : decode cX6_readBareUnit 44 = .ok (.aload_n 0, 1) := by decide +kernel
theorem dX6_readBareUnit_45 : decode cX6_readBareUnit 45 = .ok (.dup, 1) := by decide +kernel
theorem dX6_readBareUnit_46 : decode cX6_readBareUnit 46 = .ok (.getfield 30, 3) := by decide +kernel
theorem dX6_readBareUnit_49 : decode cX6_readBareUnit 49 = .ok (.iconst 1, 1) := by decide +kernel
theorem dX6_readBareUnit_50 : decode cX6_readBareUnit 50 = .ok (.iadd, 1) := by decide +kernel
theorem dX6_readBareUnit_51 : decode cX6_readBareUnit 51 = .ok (.putfield 30, 3) := by decide +kernel
theorem dX6_readBareUnit_54 : decode cX6_readBareUnit 54 = .ok (.aload_n 0, 1) := by decide +kernel
theorem dX6_readBareUnit_55 : decode cX6_readBareUnit 55 = .ok (.bipush 109, 2) := by decide +kernel
theorem dX6_readBareUnit_57 : decode cX6_readBareUnit 57 = .ok (.iconst 0, 1) := by decide +kernel
theorem dX6_readBareUnit_58 : decode cX6_readBareUnit 58 = .ok (.invokevirtual 65, 3) := by decide +kernel
theorem dX6_readBareUnit_61 : decode cX6_readBareUnit 61 = .ok (.goto 47, 3) := by decide +kernel
theorem dX6_readBareUnit_64 : decode cX6_readBareUnit 64 = .ok (.iload_n 2, 1) := by decide +kernel
theorem dX6_readBareUnit_65 : decode cX6_readBareUnit 65 = .ok (.iconst (-1), 1) := by decide +kernel
theorem dX6_readBareUnit_66 : decode cX6_readBareUnit 66 = .ok (.if_icmp .eq 33, 3) := by decide +kernel
theorem dX6_readBareUnit_69 : decode cX6_readBareUnit 69 = .ok (.ldc 109, 2) := by decide +kernel
theorem dX6_readBareUnit_71 : decode cX6_readBareUnit 71 = .ok (.iload_n 2, 1) := by decide +kernel
theorem dX6_readBareUnit_72 : decode cX6_readBareUnit 72 = .ok (.i2c, 1) := by decide +kernel
theorem dX6_readBareUnit_73 : decode cX6_readBareUnit 73 = .ok (.invokevirtual 111, 3) := by decide +kernel
theorem dX6_readBareUnit_76 : decode cX6_readBareUnit 76 = .ok (.ifCond .lt 23, 3) := by decide +kernel
theorem dX6_readBareUnit_79 : decode cX6_readBareUnit 79 = .ok (.aload_n 0, 1) := by decide +kernel
theorem dX6_readBareUnit_80 : decode cX6_readBareUnit 80 = .ok (.dup, 1) := by decide +kernel
theorem dX6_readBareUnit_81 : decode cX6_readBareUnit 81 = .ok (.getfield 30, 3) := by decide +kernel
theorem dX6_readBareUnit_84 : decode cX6_readBareUnit 84 = .ok (.iconst 1, 1) := by decide +kernel
theorem dX6_readBareUnit_85 : decode cX6_readBareUnit 85 = .ok (.iadd, 1) := by decide +kernel
theorem dX6_readBareUnit_86 : decode cX6_readBareUnit 86 = .ok (.putfield 30, 3) := by decide +kernel
theorem dX6_readBareUnit_89 : decode cX6_readBareUnit 89 = .ok (.aload_n 0, 1) := by decide +kernel
theorem dX6_readBareUnit_90 : decode cX6_readBareUnit 90 = .ok (.iload_n 2, 1) := by decide +kernel
theorem dX6_readBareUnit_91 : decode cX6_readBareUnit 91 = .ok (.i2c, 1) := by decide +kernel
theorem dX6_readBareUnit_92 : decode cX6_readBareUnit 92 = .ok (.iconst 0, 1) := by decide +kernel
theorem dX6_readBareUnit_93 : decode cX6_readBareUnit 93 = .ok (.invokevirtual 65, 3) := by decide +kernel
theorem dX6_readBareUnit_96 : decode cX6_readBareUnit 96 = .ok (.goto 12, 3) := by decide +kernel
theorem dX6_readBareUnit_99 : decode cX6_readBareUnit 99 = .ok (.aload_n 0, 1) := by decide +kernel
theorem dX6_readBareUnit_100 : decode cX6_readBareUnit 100 = .ok (.aload_n 0, 1) := by decide +kernel
theorem dX6_readBareUnit_101 : decode cX6_readBareUnit 101 = .ok (.getfield 30, 3) := by decide +kernel
theorem dX6_readBareUnit_104 : decode cX6_readBareUnit 104 = .ok (.iconst 1, 1) := by decide +kernel
theorem dX6_readBareUnit_105 : decode cX6_readBareUnit 105 = .ok (.invokevirtual 52, 3) := by decide +kernel
theorem dX6_readBareUnit_108 : decode cX6_readBareUnit 108 = .ok (.return_, 1) := by decide +kernel
theorem dX6_readDigits_0 : decode cX6_readDigits 0 = .ok (.aload_n 0, 1) := by decide +kernel
theorem dX6_readDigits_1 : decode cX6_readDigits 1 = .ok (.getfield 30, 3) := by decide +kernel
theorem dX6_readDigits_4 : decode cX6_readDigits 4 = .ok (.istore_n 1, 1) := by decide +kernel
theorem dX6_readDigits_5 : decode cX6_readDigits 5 = .ok (.iconst 0, 1) := by decide +kernel
theorem dX6_readDigits_6 : decode cX6_readDigits 6 = .ok (.istore_n 2, 1) := by decide +kernel
theorem dX6_readDigits_7 : decode cX6_readDigits 7 = .ok (.aload_n 0, 1) := by decide +kernel
theorem dX6_readDigits_8 : decode cX6_readDigits 8 = .ok (.getfield 30, 3) := by decide +kernel
theorem dX6_readDigits_11 : decode cX6_readDigits 11 = .ok (.bipush 40, 2) := by decide +kernel
theorem dX6_readDigits_13 : decode cX6_readDigits 13 = .ok (.if_icmp .ge 65, 3) := by decide +kernel
theorem dX6_readDigits_16 : decode cX6_readDigits 16 = .ok (.aload_n 0, 1) := by decide +kernel
theorem dX6_readDigits_17 : decode cX6_readDigits 17 = .ok (.aload_n 0, 1) := by decide +kernel
theorem dX6_readDigits_18 : decode cX6_readDigits 18 = .ok (.getfield 30, 3) := by decide +kernel
theorem dX6_readDigits_21 : decode cX6_readDigits 21 = .ok (.invokevirtual 117, 3) := by decide +kernel
theorem dX6_readDigits_24 : decode cX6_readDigits 24 = .ok (.invokestatic 99, 3) := by decide +kernel
theorem dX6_readDigits_27 : decode cX6_readDigits 27 = .ok (.ifCond .eq 51, 3) := by decide +kernel
theorem dX6_readDigits_30 : decode cX6_readDigits 30 = .ok (.aload_n 0, 1) := by decide +kernel
theorem dX6_readDigits_31 : decode cX6_readDigits 31 = .ok (.getfield 30, 3) := by decide +kernel
theorem dX6_readDigits_34 : decode cX6_readDigits 34 = .ok (.iload_n 1, 1) := by decide +kernel
theorem dX6_readDigits_35 : decode cX6_readDigits 35 = .ok (.isub, 1) := by decide +kernel
theorem dX6_readDigits_36 : decode cX6_readDigits 36 = .ok (.bipush 6, 2) := by decide +kernel
theorem dX6_readDigits_38 : decode cX6_readDigits 38 = .ok (.if_icmp .lt 10, 3) := by decide +kernel
theorem dX6_readDigits_41 : decode cX6_readDigits 41 = .ok (.aload_n 0, 1) := by decide +kernel
theorem dX6_readDigits_42 : decode cX6_readDigits 42 = .ok (.iload_n 1, 1) := by decide +kernel
theorem dX6_readDigits_43 : decode cX6_readDigits 43 = .ok (.iconst 2, 1) := by decide +kernel
theorem dX6_readDigits_44 : decode cX6_readDigits 44 = .ok (.invokevirtual 52, 3) := by decide +kernel
theorem dX6_readDigits_47 : decode cX6_readDigits 47 = .ok (.return_, 1) := by decide +kernel
theorem dX6_readDigits_48 : decode cX6_readDigits 48 = .ok (.bipush 10, 2) := by decide +kernel
theorem dX6_readDigits_50 : decode cX6_readDigits 50 = .ok (.iload_n 2, 1) := by decide +kernel
theorem dX6_readDigits_51 : decode cX6_readDigits 51 = .ok (.imul, 1) := by decide +kernel
theorem dX6_readDigits_52 : decode cX6_readDigits 52 = .ok (.aload_n 0, 1) := by decide +kernel
theorem dX6_readDigits_53 : decode cX6_readDigits 53 = .ok (.aload_n 0, 1) := by decide +kernel
theorem dX6_readDigits_54 : decode cX6_readDigits 54 = .ok (.getfield 30, 3) := by decide +kernel
theorem dX6_readDigits_57 : decode cX6_readDigits 57 = .ok (.invokevirtual 117, 3) := by decide +kernel
theorem dX6_readDigits_60 : decode cX6_readDigits 60 = .ok (.iadd, 1) := by decide +kernel
theorem dX6_readDigits_61 : decode cX6_readDigits 61 = .ok (.bipush 48, 2) := by decide +kernel
theorem dX6_readDigits_63 : decode cX6_readDigits 63 = .ok (.isub, 1) := by decide +kernel
theorem dX6_readDigits_64 : decode cX6_readDigits 64 = .ok (.istore_n 2, 1) := by decide +kernel
theorem dX6_readDigits_65 : decode cX6_readDigits 65 = .ok (.aload_n 0, 1) := by decide +kernel
theorem dX6_readDigits_66 : decode cX6_readDigits 66 = .ok (.dup, 1) := by decide +kernel
theorem dX6_readDigits_67 : decode cX6_readDigits 67 = .ok (.getfield 30, 3) := by decide +kernel
theorem dX6_readDigits_70 : decode cX6_readDigits 70 = .ok (.iconst 1, 1) := by decide +kernel
theorem dX6_readDigits_71 : decode cX6_readDigits 71 = .ok (.iadd, 1) := by decide +kernel
theorem dX6_readDigits_72 : decode cX6_readDigits 72 = .ok (.putfield 30, 3) := by decide +kernel
theorem dX6_readDigits_75 : decode cX6_readDigits 75 = .ok (.goto (-68), 3) := by decide +kernel
theorem dX6_readDigits_78 : decode cX6_readDigits 78 = .ok (.aload_n 0, 1) := by decide +kernel
theorem dX6_readDigits_79 : decode cX6_readDigits 79 = .ok (.bipush 35, 2) := by decide +kernel
theorem dX6_readDigits_81 : decode cX6_readDigits 81 = .ok (.iload_n 2, 1) := by decide +kernel
theorem dX6_readDigits_82 : decode cX6_readDigits 82 = .ok (.invokevirtual 65, 3) := by decide +kernel
theorem dX6_readDigits_85 : decode cX6_readDigits 85 = .ok (.return_, 1) := by decide +kernel
theorem dX6_readOpened_0 : decode cX6_readOpened 0 = .ok (.iload_n 1, 1) := by decide +kernel
theorem dX6_readOpened_1 : decode cX6_readOpened 1 = .ok (.bipush 8, 2) := by decide +kernel
theorem dX6_readOpened_3 : decode cX6_readOpened 3 = .ok (.if_icmp .lt 13, 3) := by decide +kernel
theorem dX6_readOpened_6 : decode cX6_readOpened 6 = .ok (.aload_n 0, 1) := by decide +kernel
theorem dX6_readOpened_7 : decode cX6_readOpened 7 = .ok (.aload_n 0, 1) := by decide +kernel
theorem dX6_readOpened_8 : decode cX6_readOpened 8 = .ok (.getfield 30, 3) := by decide +kernel
theorem dX6_readOpened_11 : decode cX6_readOpened 11 = .ok (.iconst 3, 1) := by decide +kernel
theorem dX6_readOpened_12 : decode cX6_readOpened 12 = .ok (.invokevirtual 52, 3) := by decide +kernel
theorem dX6_readOpened_15 : decode cX6_readOpened 15 = .ok (.return_, 1) := by decide +kernel
theorem dX6_readOpened_16 : decode cX6_readOpened 16 = .ok (.aload_n 0, 1) := by decide +kernel
theorem dX6_readOpened_17 : decode cX6_readOpened 17 = .ok (.dup, 1) := by decide +kernel
theorem dX6_readOpened_18 : decode cX6_readOpened 18 = .ok (.getfield 30, 3) := by decide +kernel
theorem dX6_readOpened_21 : decode cX6_readOpened 21 = .ok (.iconst 1, 1) := by decide +kernel
theorem dX6_readOpened_22 : decode cX6_readOpened 22 = .ok (.iadd, 1) := by decide +kernel
theorem dX6_readOpened_23 : decode cX6_readOpened 23 = .ok (.putfield 30, 3) := by decide +kernel
theorem dX6_readOpened_26 : decode cX6_readOpened 26 = .ok (.aload_n 0, 1) := by decide +kernel
theorem dX6_readOpened_27 : decode cX6_readOpened 27 = .ok (.iload_n 1, 1) := by decide +kernel
theorem dX6_readOpened_28 : decode cX6_readOpened 28 = .ok (.iconst 1, 1) := by decide +kernel
theorem dX6_readOpened_29 : decode cX6_readOpened 29 = .ok (.iadd, 1) := by decide +kernel
theorem dX6_readOpened_30 : decode cX6_readOpened 30 = .ok (.invokevirtual 44, 3) := by decide +kernel
theorem dX6_readOpened_33 : decode cX6_readOpened 33 = .ok (.aload_n 0, 1) := by decide +kernel
theorem dX6_readOpened_34 : decode cX6_readOpened 34 = .ok (.ldc 120, 2) := by decide +kernel
theorem dX6_readOpened_36 : decode cX6_readOpened 36 = .ok (.invokevirtual 61, 3) := by decide +kernel
theorem dX6_readOpened_39 : decode cX6_readOpened 39 = .ok (.iconst (-1), 1) := by decide +kernel
theorem dX6_readOpened_40 : decode cX6_readOpened 40 = .ok (.if_icmp .ne 12, 3) := by decide +kernel
theorem dX6_readOpened_43 : decode cX6_readOpened 43 = .ok (.aload_n 0, 1) := by decide +kernel
theorem dX6_readOpened_44 : decode cX6_readOpened 44 = .ok (.aload_n 0, 1) := by decide +kernel
theorem dX6_readOpened_45 : decode cX6_readOpened 45 = .ok (.getfield 30, 3) := by decide +kernel
theorem dX6_readOpened_48 : decode cX6_readOpened 48 = .ok (.iconst 1, 1) := by decide +kernel
theorem dX6_readOpened_49 : decode cX6_readOpened 49 = .ok (.invokevirtual 52, 3) := by decide +kernel
theorem dX6_readOpened_52 : decode cX6_readOpened 52 = .ok (.return_, 1) := by decide +kernel
theorem dX6_isDigit_0 : decode cX6_isDigit 0 = .ok (.iload_n 0, 1) := by decide +kernel
theorem dX6_isDigit_1 : decode cX6_isDigit 1 = .ok (.bipush 48, 2) := by decide +kernel
theorem dX6_isDigit_3 : decode cX6_isDigit 3 = .ok (.if_icmp .lt 13, 3) := by decide +kernel
theorem dX6_isDigit_6 : decode cX6_isDigit 6 = .ok (.iload_n 0, 1) := by decide +kernel
theorem dX6_isDigit_7 : decode cX6_isDigit 7 = .ok (.bipush 57, 2) := by decide +kernel
theorem dX6_isDigit_9 : decode cX6_isDigit 9 = .ok (.if_icmp .gt 7, 3) := by decide +kernel
theorem dX6_isDigit_12 : decode cX6_isDigit 12 = .ok (.iconst 1, 1) := by decide +kernel
theorem dX6_isDigit_13 : decode cX6_isDigit 13 = .ok (.goto 4, 3) := by decide +kernel
theorem dX6_isDigit_16 : decode cX6_isDigit 16 = .ok (.iconst 0, 1) := by decide +kernel
theorem dX6_isDigit_17 : decode cX6_isDigit 17 = .ok (.ireturn, 1) := by decide +kernel
theorem dX6_signAt_0 : decode cX6_signAt 0 = .ok (.iload_n 1, 1) := by decide +kernel
theorem dX6_signAt_1 : decode cX6_signAt 1 = .ok (.ifCond .lt 32, 3) := by decide +kernel
theorem dX6_signAt_4 : decode cX6_signAt 4 = .ok (.iload_n 1, 1) := by decide +kernel
theorem dX6_signAt_5 : decode cX6_signAt 5 = .ok (.aload_n 0, 1) := by decide +kernel
theorem dX6_signAt_6 : decode cX6_signAt 6 = .ok (.getfield 23, 3) := by decide +kernel
theorem dX6_signAt_9 : decode cX6_signAt 9 = .ok (.getfield 122, 3) := by decide +kernel
theorem dX6_signAt_12 : decode cX6_signAt 12 = .ok (.if_icmp .ge 21, 3) := by decide +kernel
theorem dX6_signAt_15 : decode cX6_signAt 15 = .ok (.iload_n 1, 1) := by decide +kernel
theorem dX6_signAt_16 : decode cX6_signAt 16 = .ok (.bipush 40, 2) := by decide +kernel
theorem dX6_signAt_18 : decode cX6_signAt 18 = .ok (.if_icmp .ge 15, 3) := by decide +kernel
theorem dX6_signAt_21 : decode cX6_signAt 21 = .ok (.aload_n 0, 1) := by decide +kernel
theorem dX6_signAt_22 : decode cX6_signAt 22 = .ok (.getfield 23, 3) := by decide +kernel
theorem dX6_signAt_25 : decode cX6_signAt 25 = .ok (.getfield 94, 3) := by decide +kernel
theorem dX6_signAt_28 : decode cX6_signAt 28 = .ok (.iload_n 1, 1) := by decide +kernel
theorem dX6_signAt_29 : decode cX6_signAt 29 = .ok (.caload, 1) := by decide +kernel
theorem dX6_signAt_30 : decode cX6_signAt 30 = .ok (.goto 4, 3) := by decide +kernel
theorem dX6_signAt_33 : decode cX6_signAt 33 = .ok (.iconst (-1), 1) := by decide +kernel
theorem dX6_signAt_34 : decode cX6_signAt 34 = .ok (.ireturn, 1) := by decide +kernel
theorem dX6_nextSign_0 : decode cX6_nextSign 0 = .ok (.aload_n 0, 1) := by decide +kernel
theorem dX6_nextSign_1 : decode cX6_nextSign 1 = .ok (.getfield 37, 3) := by decide +kernel
theorem dX6_nextSign_4 : decode cX6_nextSign 4 = .ok (.iconst (-1), 1) := by decide +kernel
theorem dX6_nextSign_5 : decode cX6_nextSign 5 = .ok (.if_icmp .eq 5, 3) := by decide +kernel
theorem dX6_nextSign_8 : decode cX6_nextSign 8 = .ok (.iconst (-1), 1) := by decide +kernel
theorem dX6_nextSign_9 : decode cX6_nextSign 9 = .ok (.ireturn, 1) := by decide +kernel
theorem dX6_nextSign_10 : decode cX6_nextSign 10 = .ok (.aload_n 0, 1) := by decide +kernel
theorem dX6_nextSign_11 : decode cX6_nextSign 11 = .ok (.getfield 30, 3) := by decide +kernel
theorem dX6_nextSign_14 : decode cX6_nextSign 14 = .ok (.bipush 40, 2) := by decide +kernel
theorem dX6_nextSign_16 : decode cX6_nextSign 16 = .ok (.if_icmp .ge 29, 3) := by decide +kernel
theorem dX6_nextSign_19 : decode cX6_nextSign 19 = .ok (.aload_n 0, 1) := by decide +kernel
theorem dX6_nextSign_20 : decode cX6_nextSign 20 = .ok (.aload_n 0, 1) := by decide +kernel
theorem dX6_nextSign_21 : decode cX6_nextSign 21 = .ok (.getfield 30, 3) := by decide +kernel
theorem dX6_nextSign_24 : decode cX6_nextSign 24 = .ok (.invokevirtual 117, 3) := by decide +kernel
theorem dX6_nextSign_27 : decode cX6_nextSign 27 = .ok (.bipush 32, 2) := by decide +kernel
theorem dX6_nextSign_29 : decode cX6_nextSign 29 = .ok (.if_icmp .ne 16, 3) := by decide +kernel
theorem dX6_nextSign_32 : decode cX6_nextSign 32 = .ok (.aload_n 0, 1) := by decide +kernel
theorem dX6_nextSign_33 : decode cX6_nextSign 33 = .ok (.dup, 1) := by decide +kernel
theorem dX6_nextSign_34 : decode cX6_nextSign 34 = .ok (.getfield 30, 3) := by decide +kernel
theorem dX6_nextSign_37 : decode cX6_nextSign 37 = .ok (.iconst 1, 1) := by decide +kernel
theorem dX6_nextSign_38 : decode cX6_nextSign 38 = .ok (.iadd, 1) := by decide +kernel
theorem dX6_nextSign_39 : decode cX6_nextSign 39 = .ok (.putfield 30, 3) := by decide +kernel
theorem dX6_nextSign_42 : decode cX6_nextSign 42 = .ok (.goto (-32), 3) := by decide +kernel
theorem dX6_nextSign_45 : decode cX6_nextSign 45 = .ok (.aload_n 0, 1) := by decide +kernel
theorem dX6_nextSign_46 : decode cX6_nextSign 46 = .ok (.aload_n 0, 1) := by decide +kernel
theorem dX6_nextSign_47 : decode cX6_nextSign 47 = .ok (.getfield 30, 3) := by decide +kernel
theorem dX6_nextSign_50 : decode cX6_nextSign 50 = .ok (.invokevirtual 117, 3) := by decide +kernel
theorem dX6_nextSign_53 : decode cX6_nextSign 53 = .ok (.ireturn, 1) := by decide +kernel
theorem dX6_take_0 : decode cX6_take 0 = .ok (.aload_n 0, 1) := by decide +kernel
theorem dX6_take_1 : decode cX6_take 1 = .ok (.invokevirtual 48, 3) := by decide +kernel
theorem dX6_take_4 : decode cX6_take 4 = .ok (.istore_n 2, 1) := by decide +kernel
theorem dX6_take_5 : decode cX6_take 5 = .ok (.iload_n 2, 1) := by decide +kernel
theorem dX6_take_6 : decode cX6_take 6 = .ok (.iconst (-1), 1) := by decide +kernel
theorem dX6_take_7 : decode cX6_take 7 = .ok (.if_icmp .eq 12, 3) := by decide +kernel
theorem dX6_take_10 : decode cX6_take 10 = .ok (.aload_n 1, 1) := by decide +kernel
theorem dX6_take_11 : decode cX6_take 11 = .ok (.iload_n 2, 1) := by decide +kernel
theorem dX6_take_12 : decode cX6_take 12 = .ok (.i2c, 1) := by decide +kernel
theorem dX6_take_13 : decode cX6_take 13 = .ok (.invokevirtual 111, 3) := by decide +kernel
theorem dX6_take_16 : decode cX6_take 16 = .ok (.ifCond .ge 5, 3) := by decide +kernel
theorem dX6_take_19 : decode cX6_take 19 = .ok (.iconst (-1), 1) := by decide +kernel
theorem dX6_take_20 : decode cX6_take 20 = .ok (.ireturn, 1) := by decide +kernel
theorem dX6_take_21 : decode cX6_take 21 = .ok (.aload_n 0, 1) := by decide +kernel
theorem dX6_take_22 : decode cX6_take 22 = .ok (.dup, 1) := by decide +kernel
theorem dX6_take_23 : decode cX6_take 23 = .ok (.getfield 30, 3) := by decide +kernel
theorem dX6_take_26 : decode cX6_take 26 = .ok (.iconst 1, 1) := by decide +kernel
theorem dX6_take_27 : decode cX6_take 27 = .ok (.iadd, 1) := by decide +kernel
theorem dX6_take_28 : decode cX6_take 28 = .ok (.putfield 30, 3) := by decide +kernel
theorem dX6_take_31 : decode cX6_take 31 = .ok (.iload_n 2, 1) := by decide +kernel
theorem dX6_take_32 : decode cX6_take 32 = .ok (.ireturn, 1) := by decide +kernel
theorem dX6_setFlaw_0 : decode cX6_setFlaw 0 = .ok (.aload_n 0, 1) := by decide +kernel
theorem dX6_setFlaw_1 : decode cX6_setFlaw 1 = .ok (.getfield 37, 3) := by decide +kernel
theorem dX6_setFlaw_4 : decode cX6_setFlaw 4 = .ok (.iconst (-1), 1) := by decide +kernel
theorem dX6_setFlaw_5 : decode cX6_setFlaw 5 = .ok (.if_icmp .ne 13, 3) := by decide +kernel
theorem dX6_setFlaw_8 : decode cX6_setFlaw 8 = .ok (.aload_n 0, 1) := by decide +kernel
theorem dX6_setFlaw_9 : decode cX6_setFlaw 9 = .ok (.bipush 10, 2) := by decide +kernel
theorem dX6_setFlaw_11 : decode cX6_setFlaw 11 = .ok (.iload_n 1, 1) := by decide +kernel
theorem dX6_setFlaw_12 : decode cX6_setFlaw 12 = .ok (.imul, 1) := by decide +kernel
theorem dX6_setFlaw_13 : decode cX6_setFlaw 13 = .ok (.iload_n 2, 1) := by decide +kernel
theorem dX6_setFlaw_14 : decode cX6_setFlaw 14 = .ok (.iadd, 1) := by decide +kernel
theorem dX6_setFlaw_15 : decode cX6_setFlaw 15 = .ok (.putfield 37, 3) := by decide +kernel
theorem dX6_setFlaw_18 : decode cX6_setFlaw 18 = .ok (.return_, 1) := by decide +kernel
theorem dX6_addSign_0 : decode cX6_addSign 0 = .ok (.aload_n 0, 1) := by decide +kernel
theorem dX6_addSign_1 : decode cX6_addSign 1 = .ok (.getfield 34, 3) := by decide +kernel
theorem dX6_addSign_4 : decode cX6_addSign 4 = .ok (.bipush 40, 2) := by decide +kernel
theorem dX6_addSign_6 : decode cX6_addSign 6 = .ok (.if_icmp .ge 33, 3) := by decide +kernel
theorem dX6_addSign_9 : decode cX6_addSign 9 = .ok (.aload_n 0, 1) := by decide +kernel
theorem dX6_addSign_10 : decode cX6_addSign 10 = .ok (.getfield 9, 3) := by decide +kernel
theorem dX6_addSign_13 : decode cX6_addSign 13 = .ok (.aload_n 0, 1) := by decide +kernel
theorem dX6_addSign_14 : decode cX6_addSign 14 = .ok (.getfield 34, 3) := by decide +kernel
theorem dX6_addSign_17 : decode cX6_addSign 17 = .ok (.iload_n 1, 1) := by decide +kernel
theorem dX6_addSign_18 : decode cX6_addSign 18 = .ok (.castore, 1) := by decide +kernel
theorem dX6_addSign_19 : decode cX6_addSign 19 = .ok (.aload_n 0, 1) := by decide +kernel
theorem dX6_addSign_20 : decode cX6_addSign 20 = .ok (.getfield 15, 3) := by decide +kernel
theorem dX6_addSign_23 : decode cX6_addSign 23 = .ok (.aload_n 0, 1) := by decide +kernel
theorem dX6_addSign_24 : decode cX6_addSign 24 = .ok (.getfield 34, 3) := by decide +kernel
theorem dX6_addSign_27 : decode cX6_addSign 27 = .ok (.iload_n 2, 1) := by decide +kernel
theorem dX6_addSign_28 : decode cX6_addSign 28 = .ok (.iastore, 1) := by decide +kernel
theorem dX6_addSign_29 : decode cX6_addSign 29 = .ok (.aload_n 0, 1) := by decide +kernel
theorem dX6_addSign_30 : decode cX6_addSign 30 = .ok (.dup, 1) := by decide +kernel
theorem dX6_addSign_31 : decode cX6_addSign 31 = .ok (.getfield 34, 3) := by decide +kernel
theorem dX6_addSign_34 : decode cX6_addSign 34 = .ok (.iconst 1, 1) := by decide +kernel
theorem dX6_addSign_35 : decode cX6_addSign 35 = .ok (.iadd, 1) := by decide +kernel
theorem dX6_addSign_36 : decode cX6_addSign 36 = .ok (.putfield 34, 3) := by decide +kernel
theorem dX6_addSign_39 : decode cX6_addSign 39 = .ok (.return_, 1) := by decide +kernel
theorem dX6_value_0 : decode cX6_value 0 = .ok (.aload_n 0, 1) := by decide +kernel
theorem dX6_value_1 : decode cX6_value 1 = .ok (.getfield 37, 3) := by decide +kernel
theorem dX6_value_4 : decode cX6_value 4 = .ok (.iconst (-1), 1) := by decide +kernel
theorem dX6_value_5 : decode cX6_value 5 = .ok (.if_icmp .eq 8, 3) := by decide +kernel
theorem dX6_value_8 : decode cX6_value 8 = .ok (.aload_n 1, 1) := by decide +kernel
theorem dX6_value_9 : decode cX6_value 9 = .ok (.iconst 0, 1) := by decide +kernel
theorem dX6_value_10 : decode cX6_value 10 = .ok (.iaload, 1) := by decide +kernel
theorem dX6_value_11 : decode cX6_value 11 = .ok (.i2l, 1) := by decide +kernel
theorem dX6_value_12 : decode cX6_value 12 = .ok (.lreturn, 1) := by decide +kernel
theorem dX6_value_13 : decode cX6_value 13 = .ok (.aload_n 0, 1) := by decide +kernel
theorem dX6_value_14 : decode cX6_value 14 = .ok (.iconst 0, 1) := by decide +kernel
theorem dX6_value_15 : decode cX6_value 15 = .ok (.putfield 125, 3) := by decide +kernel
theorem dX6_value_18 : decode cX6_value 18 = .ok (.iconst 0, 1) := by decide +kernel
theorem dX6_value_19 : decode cX6_value 19 = .ok (.istore_n 3, 1) := by decide +kernel
theorem dX6_value_20 : decode cX6_value 20 = .ok (.iload_n 3, 1) := by decide +kernel
theorem dX6_value_21 : decode cX6_value 21 = .ok (.aload_n 0, 1) := by decide +kernel
theorem dX6_value_22 : decode cX6_value 22 = .ok (.getfield 34, 3) := by decide +kernel
theorem dX6_value_25 : decode cX6_value 25 = .ok (.if_icmp .ge 160, 3) := by decide +kernel
theorem dX6_value_28 : decode cX6_value 28 = .ok (.iload_n 3, 1) := by decide +kernel
theorem dX6_value_29 : decode cX6_value 29 = .ok (.bipush 40, 2) := by decide +kernel
theorem dX6_value_31 : decode cX6_value 31 = .ok (.if_icmp .ge 154, 3) := by decide +kernel
theorem dX6_value_34 : decode cX6_value 34 = .ok (.aload_n 0, 1) := by decide +kernel
theorem dX6_value_35 : decode cX6_value 35 = .ok (.getfield 9, 3) := by decide +kernel
theorem dX6_value_38 : decode cX6_value 38 = .ok (.iload_n 3, 1) := by decide +kernel
theorem dX6_value_39 : decode cX6_value 39 = .ok (.caload, 1) := by decide +kernel
theorem dX6_value_40 : decode cX6_value 40 = .ok (.istore 4, 2) := by decide +kernel
theorem dX6_value_42 : decode cX6_value 42 = .ok (.ldc 109, 2) := by decide +kernel
theorem dX6_value_44 : decode cX6_value 44 = .ok (.iload 4, 2) := by decide +kernel
theorem dX6_value_46 : decode cX6_value 46 = .ok (.invokevirtual 111, 3) := by decide +kernel
theorem dX6_value_49 : decode cX6_value 49 = .ok (.istore 5, 2) := by decide +kernel
theorem dX6_value_51 : decode cX6_value 51 = .ok (.iload 5, 2) := by decide +kernel
theorem dX6_value_53 : decode cX6_value 53 = .ok (.ifCond .lt 21, 3) := by decide +kernel
theorem dX6_value_56 : decode cX6_value 56 = .ok (.iload 5, 2) := by decide +kernel
theorem dX6_value_58 : decode cX6_value 58 = .ok (.iconst 5, 1) := by decide +kernel
theorem dX6_value_59 : decode cX6_value 59 = .ok (.if_icmp .ge 15, 3) := by decide +kernel
theorem dX6_value_62 : decode cX6_value 62 = .ok (.aload_n 0, 1) := by decide +kernel
theorem dX6_value_63 : decode cX6_value 63 = .ok (.aload_n 1, 1) := by decide +kernel
theorem dX6_value_64 : decode cX6_value 64 = .ok (.iload 5, 2) := by decide +kernel
theorem dX6_value_66 : decode cX6_value 66 = .ok (.iaload, 1) := by decide +kernel
theorem dX6_value_67 : decode cX6_value 67 = .ok (.i2l, 1) := by decide +kernel

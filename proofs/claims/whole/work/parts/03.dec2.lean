theorem dX6_value_68 : decode cX6_value 68 = .ok (.invokevirtual 128, 3) := by decide +kernel
theorem dX6_value_71 : decode cX6_value 71 = .ok (.goto 108, 3) := by decide +kernel
theorem dX6_value_74 : decode cX6_value 74 = .ok (.iload 4, 2) := by decide +kernel
theorem dX6_value_76 : decode cX6_value 76 = .ok (.bipush 35, 2) := by decide +kernel
theorem dX6_value_78 : decode cX6_value 78 = .ok (.if_icmp .ne 17, 3) := by decide +kernel
theorem dX6_value_81 : decode cX6_value 81 = .ok (.aload_n 0, 1) := by decide +kernel
theorem dX6_value_82 : decode cX6_value 82 = .ok (.aload_n 0, 1) := by decide +kernel
theorem dX6_value_83 : decode cX6_value 83 = .ok (.getfield 15, 3) := by decide +kernel
theorem dX6_value_86 : decode cX6_value 86 = .ok (.iload_n 3, 1) := by decide +kernel
theorem dX6_value_87 : decode cX6_value 87 = .ok (.iaload, 1) := by decide +kernel
theorem dX6_value_88 : decode cX6_value 88 = .ok (.i2l, 1) := by decide +kernel
theorem dX6_value_89 : decode cX6_value 89 = .ok (.invokevirtual 128, 3) := by decide +kernel
theorem dX6_value_92 : decode cX6_value 92 = .ok (.goto 87, 3) := by decide +kernel
theorem dX6_value_95 : decode cX6_value 95 = .ok (.iload 4, 2) := by decide +kernel
theorem dX6_value_97 : decode cX6_value 97 = .ok (.bipush 109, 2) := by decide +kernel
theorem dX6_value_99 : decode cX6_value 99 = .ok (.if_icmp .ne 12, 3) := by decide +kernel
theorem dX6_value_102 : decode cX6_value 102 = .ok (.aload_n 0, 1) := by decide +kernel
theorem dX6_value_103 : decode cX6_value 103 = .ok (.iload_n 2, 1) := by decide +kernel
theorem dX6_value_104 : decode cX6_value 104 = .ok (.i2l, 1) := by decide +kernel
theorem dX6_value_105 : decode cX6_value 105 = .ok (.invokevirtual 128, 3) := by decide +kernel
theorem dX6_value_108 : decode cX6_value 108 = .ok (.goto 71, 3) := by decide +kernel
theorem dX6_value_111 : decode cX6_value 111 = .ok (.iload 4, 2) := by decide +kernel
theorem dX6_value_113 : decode cX6_value 113 = .ok (.bipush 33, 2) := by decide +kernel
theorem dX6_value_115 : decode cX6_value 115 = .ok (.if_icmp .ne 24, 3) := by decide +kernel
theorem dX6_value_118 : decode cX6_value 118 = .ok (.aload_n 0, 1) := by decide +kernel
theorem dX6_value_119 : decode cX6_value 119 = .ok (.aload_n 0, 1) := by decide +kernel
theorem dX6_value_120 : decode cX6_value 120 = .ok (.invokevirtual 132, 3) := by decide +kernel
theorem dX6_value_123 : decode cX6_value 123 = .ok (.lconst 0, 1) := by decide +kernel
theorem dX6_value_124 : decode cX6_value 124 = .ok (.lcmp, 1) := by decide +kernel
theorem dX6_value_125 : decode cX6_value 125 = .ok (.ifCond .ne 7, 3) := by decide +kernel
theorem dX6_value_128 : decode cX6_value 128 = .ok (.lconst 1, 1) := by decide +kernel
theorem dX6_value_129 : decode cX6_value 129 = .ok (.goto 4, 3) := by decide +kernel
theorem dX6_value_132 : decode cX6_value 132 = .ok (.lconst 0, 1) := by decide +kernel
theorem dX6_value_133 : decode cX6_value 133 = .ok (.invokevirtual 128, 3) := by decide +kernel
theorem dX6_value_136 : decode cX6_value 136 = .ok (.goto 43, 3) := by decide +kernel
theorem dX6_value_139 : decode cX6_value 139 = .ok (.iload 4, 2) := by decide +kernel
theorem dX6_value_141 : decode cX6_value 141 = .ok (.bipush 126, 2) := by decide +kernel
theorem dX6_value_143 : decode cX6_value 143 = .ok (.if_icmp .ne 15, 3) := by decide +kernel
theorem dX6_value_146 : decode cX6_value 146 = .ok (.aload_n 0, 1) := by decide +kernel
theorem dX6_value_147 : decode cX6_value 147 = .ok (.aload_n 0, 1) := by decide +kernel
theorem dX6_value_148 : decode cX6_value 148 = .ok (.invokevirtual 132, 3) := by decide +kernel
theorem dX6_value_151 : decode cX6_value 151 = .ok (.lneg, 1) := by decide +kernel
theorem dX6_value_152 : decode cX6_value 152 = .ok (.invokevirtual 128, 3) := by decide +kernel
theorem dX6_value_155 : decode cX6_value 155 = .ok (.goto 24, 3) := by decide +kernel
theorem dX6_value_158 : decode cX6_value 158 = .ok (.aload_n 0, 1) := by decide +kernel
theorem dX6_value_159 : decode cX6_value 159 = .ok (.invokevirtual 132, 3) := by decide +kernel
theorem dX6_value_162 : decode cX6_value 162 = .ok (.lstore 6, 2) := by decide +kernel
theorem dX6_value_164 : decode cX6_value 164 = .ok (.aload_n 0, 1) := by decide +kernel
theorem dX6_value_165 : decode cX6_value 165 = .ok (.iload 4, 2) := by decide +kernel
theorem dX6_value_167 : decode cX6_value 167 = .ok (.aload_n 0, 1) := by decide +kernel
theorem dX6_value_168 : decode cX6_value 168 = .ok (.invokevirtual 132, 3) := by decide +kernel
theorem dX6_value_171 : decode cX6_value 171 = .ok (.lload 6, 2) := by decide +kernel
theorem dX6_value_173 : decode cX6_value 173 = .ok (.invokestatic 136, 3) := by decide +kernel
theorem dX6_value_176 : decode cX6_value 176 = .ok (.invokevirtual 128, 3) := by decide +kernel
theorem dX6_value_179 : decode cX6_value 179 = .ok (.iinc 3 1, 3) := by decide +kernel
theorem dX6_value_182 : decode cX6_value 182 = .ok (.goto (-162), 3) := by decide +kernel
theorem dX6_value_185 : decode cX6_value 185 = .ok (.aload_n 0, 1) := by decide +kernel
theorem dX6_value_186 : decode cX6_value 186 = .ok (.invokevirtual 132, 3) := by decide +kernel
theorem dX6_value_189 : decode cX6_value 189 = .ok (.lreturn, 1) := by decide +kernel
theorem dX6_push_0 : decode cX6_push 0 = .ok (.aload_n 0, 1) := by decide +kernel
theorem dX6_push_1 : decode cX6_push 1 = .ok (.getfield 125, 3) := by decide +kernel
theorem dX6_push_4 : decode cX6_push 4 = .ok (.ifCond .lt 32, 3) := by decide +kernel
theorem dX6_push_7 : decode cX6_push 7 = .ok (.aload_n 0, 1) := by decide +kernel
theorem dX6_push_8 : decode cX6_push 8 = .ok (.getfield 125, 3) := by decide +kernel
theorem dX6_push_11 : decode cX6_push 11 = .ok (.bipush 40, 2) := by decide +kernel
theorem dX6_push_13 : decode cX6_push 13 = .ok (.if_icmp .ge 23, 3) := by decide +kernel
theorem dX6_push_16 : decode cX6_push 16 = .ok (.aload_n 0, 1) := by decide +kernel
theorem dX6_push_17 : decode cX6_push 17 = .ok (.getfield 19, 3) := by decide +kernel
theorem dX6_push_20 : decode cX6_push 20 = .ok (.aload_n 0, 1) := by decide +kernel
theorem dX6_push_21 : decode cX6_push 21 = .ok (.getfield 125, 3) := by decide +kernel
theorem dX6_push_24 : decode cX6_push 24 = .ok (.lload_n 1, 1) := by decide +kernel
theorem dX6_push_25 : decode cX6_push 25 = .ok (.lastore, 1) := by decide +kernel
theorem dX6_push_26 : decode cX6_push 26 = .ok (.aload_n 0, 1) := by decide +kernel
theorem dX6_push_27 : decode cX6_push 27 = .ok (.dup, 1) := by decide +kernel
theorem dX6_push_28 : decode cX6_push 28 = .ok (.getfield 125, 3) := by decide +kernel
theorem dX6_push_31 : decode cX6_push 31 = .ok (.iconst 1, 1) := by decide +kernel
theorem dX6_push_32 : decode cX6_push 32 = .ok (.iadd, 1) := by decide +kernel
theorem dX6_push_33 : decode cX6_push 33 = .ok (.putfield 125, 3) := by decide +kernel
theorem dX6_push_36 : decode cX6_push 36 = .ok (.return_, 1) := by decide +kernel
theorem dX6_pop_0 : decode cX6_pop 0 = .ok (.aload_n 0, 1) := by decide +kernel
theorem dX6_pop_1 : decode cX6_pop 1 = .ok (.getfield 125, 3) := by decide +kernel
theorem dX6_pop_4 : decode cX6_pop 4 = .ok (.ifCond .le 12, 3) := by decide +kernel
theorem dX6_pop_7 : decode cX6_pop 7 = .ok (.aload_n 0, 1) := by decide +kernel
theorem dX6_pop_8 : decode cX6_pop 8 = .ok (.getfield 125, 3) := by decide +kernel
theorem dX6_pop_11 : decode cX6_pop 11 = .ok (.bipush 40, 2) := by decide +kernel
theorem dX6_pop_13 : decode cX6_pop 13 = .ok (.if_icmp .le 5, 3) := by decide +kernel
theorem dX6_pop_16 : decode cX6_pop 16 = .ok (.lconst 0, 1) := by decide +kernel
theorem dX6_pop_17 : decode cX6_pop 17 = .ok (.lreturn, 1) := by decide +kernel
theorem dX6_pop_18 : decode cX6_pop 18 = .ok (.aload_n 0, 1) := by decide +kernel
theorem dX6_pop_19 : decode cX6_pop 19 = .ok (.dup, 1) := by decide +kernel
theorem dX6_pop_20 : decode cX6_pop 20 = .ok (.getfield 125, 3) := by decide +kernel
theorem dX6_pop_23 : decode cX6_pop 23 = .ok (.iconst 1, 1) := by decide +kernel
theorem dX6_pop_24 : decode cX6_pop 24 = .ok (.isub, 1) := by decide +kernel
theorem dX6_pop_25 : decode cX6_pop 25 = .ok (.putfield 125, 3) := by decide +kernel
theorem dX6_pop_28 : decode cX6_pop 28 = .ok (.aload_n 0, 1) := by decide +kernel
theorem dX6_pop_29 : decode cX6_pop 29 = .ok (.getfield 19, 3) := by decide +kernel
theorem dX6_pop_32 : decode cX6_pop 32 = .ok (.aload_n 0, 1) := by decide +kernel
theorem dX6_pop_33 : decode cX6_pop 33 = .ok (.getfield 125, 3) := by decide +kernel
theorem dX6_pop_36 : decode cX6_pop 36 = .ok (.laload, 1) := by decide +kernel
theorem dX6_pop_37 : decode cX6_pop 37 = .ok (.lreturn, 1) := by decide +kernel
theorem dX6_work_0 : decode cX6_work 0 = .ok (.iload_n 0, 1) := by decide +kernel
theorem dX6_work_1 : decode cX6_work 1 = .ok (.lookupswitch 159 #[(38, 93), (42, 155), (43, 147), (45, 151), (60, 111), (61, 135), (62, 123), (124, 75)], 75) := by decide +kernel
theorem dX6_work_76 : decode cX6_work 76 = .ok (.lload_n 1, 1) := by decide +kernel
theorem dX6_work_77 : decode cX6_work 77 = .ok (.lconst 0, 1) := by decide +kernel
theorem dX6_work_78 : decode cX6_work 78 = .ok (.lcmp, 1) := by decide +kernel
theorem dX6_work_79 : decode cX6_work 79 = .ok (.ifCond .ne 9, 3) := by decide +kernel
theorem dX6_work_82 : decode cX6_work 82 = .ok (.lload_n 3, 1) := by decide +kernel
theorem dX6_work_83 : decode cX6_work 83 = .ok (.lconst 0, 1) := by decide +kernel
theorem dX6_work_84 : decode cX6_work 84 = .ok (.lcmp, 1) := by decide +kernel
theorem dX6_work_85 : decode cX6_work 85 = .ok (.ifCond .eq 7, 3) := by decide +kernel
theorem dX6_work_88 : decode cX6_work 88 = .ok (.lconst 1, 1) := by decide +kernel
theorem dX6_work_89 : decode cX6_work 89 = .ok (.goto 4, 3) := by decide +kernel
theorem dX6_work_92 : decode cX6_work 92 = .ok (.lconst 0, 1) := by decide +kernel
theorem dX6_work_93 : decode cX6_work 93 = .ok (.lreturn, 1) := by decide +kernel
theorem dX6_work_94 : decode cX6_work 94 = .ok (.lload_n 1, 1) := by decide +kernel
theorem dX6_work_95 : decode cX6_work 95 = .ok (.lconst 0, 1) := by decide +kernel
theorem dX6_work_96 : decode cX6_work 96 = .ok (.lcmp, 1) := by decide +kernel
theorem dX6_work_97 : decode cX6_work 97 = .ok (.ifCond .eq 13, 3) := by decide +kernel
theorem dX6_work_100 : decode cX6_work 100 = .ok (.lload_n 3, 1) := by decide +kernel
theorem dX6_work_101 : decode cX6_work 101 = .ok (.lconst 0, 1) := by decide +kernel
theorem dX6_work_102 : decode cX6_work 102 = .ok (.lcmp, 1) := by decide +kernel
theorem dX6_work_103 : decode cX6_work 103 = .ok (.ifCond .eq 7, 3) := by decide +kernel
theorem dX6_work_106 : decode cX6_work 106 = .ok (.lconst 1, 1) := by decide +kernel
theorem dX6_work_107 : decode cX6_work 107 = .ok (.goto 4, 3) := by decide +kernel
theorem dX6_work_110 : decode cX6_work 110 = .ok (.lconst 0, 1) := by decide +kernel
theorem dX6_work_111 : decode cX6_work 111 = .ok (.lreturn, 1) := by decide +kernel
theorem dX6_work_112 : decode cX6_work 112 = .ok (.lload_n 1, 1) := by decide +kernel
theorem dX6_work_113 : decode cX6_work 113 = .ok (.lload_n 3, 1) := by decide +kernel
theorem dX6_work_114 : decode cX6_work 114 = .ok (.lcmp, 1) := by decide +kernel
theorem dX6_work_115 : decode cX6_work 115 = .ok (.ifCond .ge 7, 3) := by decide +kernel
theorem dX6_work_118 : decode cX6_work 118 = .ok (.lconst 1, 1) := by decide +kernel
theorem dX6_work_119 : decode cX6_work 119 = .ok (.goto 4, 3) := by decide +kernel
theorem dX6_work_122 : decode cX6_work 122 = .ok (.lconst 0, 1) := by decide +kernel
theorem dX6_work_123 : decode cX6_work 123 = .ok (.lreturn, 1) := by decide +kernel
theorem dX6_work_124 : decode cX6_work 124 = .ok (.lload_n 1, 1) := by decide +kernel
theorem dX6_work_125 : decode cX6_work 125 = .ok (.lload_n 3, 1) := by decide +kernel
theorem dX6_work_126 : decode cX6_work 126 = .ok (.lcmp, 1) := by decide +kernel
theorem dX6_work_127 : decode cX6_work 127 = .ok (.ifCond .le 7, 3) := by decide +kernel
theorem dX6_work_130 : decode cX6_work 130 = .ok (.lconst 1, 1) := by decide +kernel
theorem dX6_work_131 : decode cX6_work 131 = .ok (.goto 4, 3) := by decide +kernel
theorem dX6_work_134 : decode cX6_work 134 = .ok (.lconst 0, 1) := by decide +kernel
theorem dX6_work_135 : decode cX6_work 135 = .ok (.lreturn, 1) := by decide +kernel
theorem dX6_work_136 : decode cX6_work 136 = .ok (.lload_n 1, 1) := by decide +kernel
theorem dX6_work_137 : decode cX6_work 137 = .ok (.lload_n 3, 1) := by decide +kernel
theorem dX6_work_138 : decode cX6_work 138 = .ok (.lcmp, 1) := by decide +kernel
theorem dX6_work_139 : decode cX6_work 139 = .ok (.ifCond .ne 7, 3) := by decide +kernel
theorem dX6_work_142 : decode cX6_work 142 = .ok (.lconst 1, 1) := by decide +kernel
theorem dX6_work_143 : decode cX6_work 143 = .ok (.goto 4, 3) := by decide +kernel
theorem dX6_work_146 : decode cX6_work 146 = .ok (.lconst 0, 1) := by decide +kernel
theorem dX6_work_147 : decode cX6_work 147 = .ok (.lreturn, 1) := by decide +kernel
theorem dX6_work_148 : decode cX6_work 148 = .ok (.lload_n 1, 1) := by decide +kernel
theorem dX6_work_149 : decode cX6_work 149 = .ok (.lload_n 3, 1) := by decide +kernel
theorem dX6_work_150 : decode cX6_work 150 = .ok (.ladd, 1) := by decide +kernel
theorem dX6_work_151 : decode cX6_work 151 = .ok (.lreturn, 1) := by decide +kernel
theorem dX6_work_152 : decode cX6_work 152 = .ok (.lload_n 1, 1) := by decide +kernel
theorem dX6_work_153 : decode cX6_work 153 = .ok (.lload_n 3, 1) := by decide +kernel
theorem dX6_work_154 : decode cX6_work 154 = .ok (.lsub, 1) := by decide +kernel
theorem dX6_work_155 : decode cX6_work 155 = .ok (.lreturn, 1) := by decide +kernel
theorem dX6_work_156 : decode cX6_work 156 = .ok (.lload_n 1, 1) := by decide +kernel
theorem dX6_work_157 : decode cX6_work 157 = .ok (.lload_n 3, 1) := by decide +kernel
theorem dX6_work_158 : decode cX6_work 158 = .ok (.lmul, 1) := by decide +kernel
theorem dX6_work_159 : decode cX6_work 159 = .ok (.lreturn, 1) := by decide +kernel
theorem dX6_work_160 : decode cX6_work 160 = .ok (.lload_n 3, 1) := by decide +kernel
theorem dX6_work_161 : decode cX6_work 161 = .ok (.lconst 0, 1) := by decide +kernel
theorem dX6_work_162 : decode cX6_work 162 = .ok (.lcmp, 1) := by decide +kernel
theorem dX6_work_163 : decode cX6_work 163 = .ok (.ifCond .ne 7, 3) := by decide +kernel
theorem dX6_work_166 : decode cX6_work 166 = .ok (.lconst 0, 1) := by decide +kernel
theorem dX6_work_167 : decode cX6_work 167 = .ok (.goto 6, 3) := by decide +kernel
theorem dX6_work_170 : decode cX6_work 170 = .ok (.lload_n 1, 1) := by decide +kernel
theorem dX6_work_171 : decode cX6_work 171 = .ok (.lload_n 3, 1) := by decide +kernel
theorem dX6_work_172 : decode cX6_work 172 = .ok (.ldiv, 1) := by decide +kernel
theorem dX6_work_173 : decode cX6_work 173 = .ok (.lreturn, 1) := by decide +kernel
theorem dX7_init_0 : decode cX7_init 0 = .ok (.aload_n 0, 1) := by decide +kernel
theorem dX7_init_1 : decode cX7_init 1 = .ok (.invokespecial 1, 3) := by decide +kernel
theorem dX7_init_4 : decode cX7_init 4 = .ok (.aload_n 0, 1) := by decide +kernel
theorem dX7_init_5 : decode cX7_init 5 = .ok (.new 7, 3) := by decide +kernel
theorem dX7_init_8 : decode cX7_init 8 = .ok (.dup, 1) := by decide +kernel
theorem dX7_init_9 : decode cX7_init 9 = .ok (.invokespecial 9, 3) := by decide +kernel
theorem dX7_init_12 : decode cX7_init 12 = .ok (.putfield 10, 3) := by decide +kernel
theorem dX7_init_15 : decode cX7_init 15 = .ok (.aload_n 0, 1) := by decide +kernel
theorem dX7_init_16 : decode cX7_init 16 = .ok (.new 7, 3) := by decide +kernel
theorem dX7_init_19 : decode cX7_init 19 = .ok (.dup, 1) := by decide +kernel
theorem dX7_init_20 : decode cX7_init 20 = .ok (.invokespecial 9, 3) := by decide +kernel
theorem dX7_init_23 : decode cX7_init 23 = .ok (.putfield 16, 3) := by decide +kernel
theorem dX7_init_26 : decode cX7_init 26 = .ok (.aload_n 0, 1) := by decide +kernel
theorem dX7_init_27 : decode cX7_init 27 = .ok (.new 7, 3) := by decide +kernel
theorem dX7_init_30 : decode cX7_init 30 = .ok (.dup, 1) := by decide +kernel
theorem dX7_init_31 : decode cX7_init 31 = .ok (.invokespecial 9, 3) := by decide +kernel
theorem dX7_init_34 : decode cX7_init 34 = .ok (.putfield 19, 3) := by decide +kernel
theorem dX7_init_37 : decode cX7_init 37 = .ok (.aload_n 0, 1) := by decide +kernel
theorem dX7_init_38 : decode cX7_init 38 = .ok (.iconst 2, 1) := by decide +kernel
theorem dX7_init_39 : decode cX7_init 39 = .ok (.newarray .boolean, 2) := by decide +kernel
theorem dX7_init_41 : decode cX7_init 41 = .ok (.putfield 22, 3) := by decide +kernel
theorem dX7_init_44 : decode cX7_init 44 = .ok (.aload_n 0, 1) := by decide +kernel
theorem dX7_init_45 : decode cX7_init 45 = .ok (.new 26, 3) := by decide +kernel
theorem dX7_init_48 : decode cX7_init 48 = .ok (.dup, 1) := by decide +kernel
theorem dX7_init_49 : decode cX7_init 49 = .ok (.aload_n 0, 1) := by decide +kernel
theorem dX7_init_50 : decode cX7_init 50 = .ok (.getfield 10, 3) := by decide +kernel
theorem dX7_init_53 : decode cX7_init 53 = .ok (.invokespecial 28, 3) := by decide +kernel
theorem dX7_init_56 : decode cX7_init 56 = .ok (.putfield 31, 3) := by decide +kernel
theorem dX7_init_59 : decode cX7_init 59 = .ok (.aload_n 0, 1) := by decide +kernel
theorem dX7_init_60 : decode cX7_init 60 = .ok (.new 35, 3) := by decide +kernel
theorem dX7_init_63 : decode cX7_init 63 = .ok (.dup, 1) := by decide +kernel
theorem dX7_init_64 : decode cX7_init 64 = .ok (.aload_n 0, 1) := by decide +kernel
theorem dX7_init_65 : decode cX7_init 65 = .ok (.getfield 10, 3) := by decide +kernel
theorem dX7_init_68 : decode cX7_init 68 = .ok (.aload_n 0, 1) := by decide +kernel
theorem dX7_init_69 : decode cX7_init 69 = .ok (.getfield 31, 3) := by decide +kernel
theorem dX7_init_72 : decode cX7_init 72 = .ok (.invokespecial 37, 3) := by decide +kernel
theorem dX7_init_75 : decode cX7_init 75 = .ok (.putfield 40, 3) := by decide +kernel
theorem dX7_init_78 : decode cX7_init 78 = .ok (.aload_n 0, 1) := by decide +kernel
theorem dX7_init_79 : decode cX7_init 79 = .ok (.new 44, 3) := by decide +kernel
theorem dX7_init_82 : decode cX7_init 82 = .ok (.dup, 1) := by decide +kernel
theorem dX7_init_83 : decode cX7_init 83 = .ok (.aload_n 0, 1) := by decide +kernel
theorem dX7_init_84 : decode cX7_init 84 = .ok (.getfield 10, 3) := by decide +kernel
theorem dX7_init_87 : decode cX7_init 87 = .ok (.aload_n 0, 1) := by decide +kernel
theorem dX7_init_88 : decode cX7_init 88 = .ok (.getfield 40, 3) := by decide +kernel
theorem dX7_init_91 : decode cX7_init 91 = .ok (.invokespecial 46, 3) := by decide +kernel
theorem dX7_init_94 : decode cX7_init 94 = .ok (.putfield 49, 3) := by decide +kernel
theorem dX7_init_97 : decode cX7_init 97 = .ok (.aload_n 0, 1) := by decide +kernel
theorem dX7_init_98 : decode cX7_init 98 = .ok (.new 53, 3) := by decide +kernel
theorem dX7_init_101 : decode cX7_init 101 = .ok (.dup, 1) := by decide +kernel
theorem dX7_init_102 : decode cX7_init 102 = .ok (.aload_n 0, 1) := by decide +kernel
theorem dX7_init_103 : decode cX7_init 103 = .ok (.getfield 10, 3) := by decide +kernel
theorem dX7_init_106 : decode cX7_init 106 = .ok (.aload_n 0, 1) := by decide +kernel
theorem dX7_init_107 : decode cX7_init 107 = .ok (.getfield 40, 3) := by decide +kernel
theorem dX7_init_110 : decode cX7_init 110 = .ok (.invokespecial 55, 3) := by decide +kernel
theorem dX7_init_113 : decode cX7_init 113 = .ok (.putfield 56, 3) := by decide +kernel
theorem dX7_init_116 : decode cX7_init 116 = .ok (.aload_n 0, 1) := by decide +kernel
theorem dX7_init_117 : decode cX7_init 117 = .ok (.new 60, 3) := by decide +kernel
theorem dX7_init_120 : decode cX7_init 120 = .ok (.dup, 1) := by decide +kernel
theorem dX7_init_121 : decode cX7_init 121 = .ok (.aload_n 0, 1) := by decide +kernel
theorem dX7_init_122 : decode cX7_init 122 = .ok (.getfield 10, 3) := by decide +kernel
theorem dX7_init_125 : decode cX7_init 125 = .ok (.aload_n 0, 1) := by decide +kernel
theorem dX7_init_126 : decode cX7_init 126 = .ok (.getfield 40, 3) := by decide +kernel
theorem dX7_init_129 : decode cX7_init 129 = .ok (.invokespecial 62, 3) := by decide +kernel
theorem dX7_init_132 : decode cX7_init 132 = .ok (.putfield 63, 3) := by decide +kernel
theorem dX7_init_135 : decode cX7_init 135 = .ok (.aload_n 0, 1) := by decide +kernel
theorem dX7_init_136 : decode cX7_init 136 = .ok (.new 67, 3) := by decide +kernel
theorem dX7_init_139 : decode cX7_init 139 = .ok (.dup, 1) := by decide +kernel
theorem dX7_init_140 : decode cX7_init 140 = .ok (.invokespecial 69, 3) := by decide +kernel
theorem dX7_init_143 : decode cX7_init 143 = .ok (.putfield 70, 3) := by decide +kernel
theorem dX7_init_146 : decode cX7_init 146 = .ok (.aload_n 0, 1) := by decide +kernel
theorem dX7_init_147 : decode cX7_init 147 = .ok (.bipush 9, 2) := by decide +kernel
theorem dX7_init_149 : decode cX7_init 149 = .ok (.newarray .long, 2) := by decide +kernel
theorem dX7_init_151 : decode cX7_init 151 = .ok (.putfield 74, 3) := by decide +kernel
theorem dX7_init_154 : decode cX7_init 154 = .ok (.aload_n 0, 1) := by decide +kernel
theorem dX7_init_155 : decode cX7_init 155 = .ok (.bipush 40, 2) := by decide +kernel
theorem dX7_init_157 : decode cX7_init 157 = .ok (.newarray .int, 2) := by decide +kernel
theorem dX7_init_159 : decode cX7_init 159 = .ok (.putfield 78, 3) := by decide +kernel
theorem dX7_init_162 : decode cX7_init 162 = .ok (.return_, 1) := by decide +kernel
theorem dX7_walker_0 : decode cX7_walker 0 = .ok (.iload_n 1, 1) := by decide +kernel
theorem dX7_walker_1 : decode cX7_walker 1 = .ok (.iconst 0, 1) := by decide +kernel
theorem dX7_walker_2 : decode cX7_walker 2 = .ok (.bipush 7, 2) := by decide +kernel
theorem dX7_walker_4 : decode cX7_walker 4 = .ok (.invokestatic 82, 3) := by decide +kernel
theorem dX7_walker_7 : decode cX7_walker 7 = .ok (.ifCond .eq 23, 3) := by decide +kernel
theorem dX7_walker_10 : decode cX7_walker 10 = .ok (.iload_n 2, 1) := by decide +kernel
theorem dX7_walker_11 : decode cX7_walker 11 = .ok (.iconst 1, 1) := by decide +kernel
theorem dX7_walker_12 : decode cX7_walker 12 = .ok (.bipush 20, 2) := by decide +kernel
theorem dX7_walker_14 : decode cX7_walker 14 = .ok (.invokestatic 82, 3) := by decide +kernel
theorem dX7_walker_17 : decode cX7_walker 17 = .ok (.ifCond .eq 13, 3) := by decide +kernel
theorem dX7_walker_20 : decode cX7_walker 20 = .ok (.iload_n 3, 1) := by decide +kernel
theorem dX7_walker_21 : decode cX7_walker 21 = .ok (.iconst 0, 1) := by decide +kernel
theorem dX7_walker_22 : decode cX7_walker 22 = .ok (.bipush 99, 2) := by decide +kernel
theorem dX7_walker_24 : decode cX7_walker 24 = .ok (.invokestatic 82, 3) := by decide +kernel
theorem dX7_walker_27 : decode cX7_walker 27 = .ok (.ifCond .ne 8, 3) := by decide +kernel
theorem dX7_walker_30 : decode cX7_walker 30 = .ok (.aload_n 0, 1) := by decide +kernel
theorem dX7_walker_31 : decode cX7_walker 31 = .ok (.invokevirtual 86, 3) := by decide +kernel
theorem dX7_walker_34 : decode cX7_walker 34 = .ok (.ireturn, 1) := by decide +kernel
theorem dX7_walker_35 : decode cX7_walker 35 = .ok (.aload_n 0, 1) := by decide +kernel
theorem dX7_walker_36 : decode cX7_walker 36 = .ok (.getfield 10, 3) := by decide +kernel
theorem dX7_walker_39 : decode cX7_walker 39 = .ok (.getfield 90, 3) := by decide +kernel
theorem dX7_walker_42 : decode cX7_walker 42 = .ok (.bipush 8, 2) := by decide +kernel
theorem dX7_walker_44 : decode cX7_walker 44 = .ok (.if_icmp .lt 8, 3) := by decide +kernel
theorem dX7_walker_47 : decode cX7_walker 47 = .ok (.aload_n 0, 1) := by decide +kernel
theorem dX7_walker_48 : decode cX7_walker 48 = .ok (.invokevirtual 94, 3) := by decide +kernel
theorem dX7_walker_51 : decode cX7_walker 51 = .ok (.ireturn, 1) := by decide +kernel
theorem dX7_walker_52 : decode cX7_walker 52 = .ok (.aload_n 0, 1) := by decide +kernel
theorem dX7_walker_53 : decode cX7_walker 53 = .ok (.getfield 10, 3) := by decide +kernel
theorem dX7_walker_56 : decode cX7_walker 56 = .ok (.getfield 90, 3) := by decide +kernel
theorem dX7_walker_59 : decode cX7_walker 59 = .ok (.istore 4, 2) := by decide +kernel
theorem dX7_walker_61 : decode cX7_walker 61 = .ok (.aload_n 0, 1) := by decide +kernel
theorem dX7_walker_62 : decode cX7_walker 62 = .ok (.getfield 10, 3) := by decide +kernel
theorem dX7_walker_65 : decode cX7_walker 65 = .ok (.iload_n 1, 1) := by decide +kernel
theorem dX7_walker_66 : decode cX7_walker 66 = .ok (.iload_n 2, 1) := by decide +kernel
theorem dX7_walker_67 : decode cX7_walker 67 = .ok (.iload_n 3, 1) := by decide +kernel
theorem dX7_walker_68 : decode cX7_walker 68 = .ok (.invokevirtual 97, 3) := by decide +kernel
theorem dX7_walker_71 : decode cX7_walker 71 = .ok (.aload_n 0, 1) := by decide +kernel
theorem dX7_walker_72 : decode cX7_walker 72 = .ok (.invokevirtual 101, 3) := by decide +kernel
theorem dX7_walker_75 : decode cX7_walker 75 = .ok (.iload 4, 2) := by decide +kernel
theorem dX7_walker_77 : decode cX7_walker 77 = .ok (.ireturn, 1) := by decide +kernel
theorem dX7_put_0 : decode cX7_put 0 = .ok (.iload_n 1, 1) := by decide +kernel
theorem dX7_put_1 : decode cX7_put 1 = .ok (.ifCond .ne 39, 3) := by decide +kernel
theorem dX7_put_4 : decode cX7_put 4 = .ok (.iload_n 2, 1) := by decide +kernel
theorem dX7_put_5 : decode cX7_put 5 = .ok (.iconst 0, 1) := by decide +kernel
theorem dX7_put_6 : decode cX7_put 6 = .ok (.bipush 19, 2) := by decide +kernel
theorem dX7_put_8 : decode cX7_put 8 = .ok (.invokestatic 82, 3) := by decide +kernel
theorem dX7_put_11 : decode cX7_put 11 = .ok (.ifCond .eq 29, 3) := by decide +kernel
theorem dX7_put_14 : decode cX7_put 14 = .ok (.aload_n 0, 1) := by decide +kernel
theorem dX7_put_15 : decode cX7_put 15 = .ok (.getfield 10, 3) := by decide +kernel
theorem dX7_put_18 : decode cX7_put 18 = .ok (.getfield 104, 3) := by decide +kernel
theorem dX7_put_21 : decode cX7_put 21 = .ok (.istore_n 3, 1) := by decide +kernel
theorem dX7_put_22 : decode cX7_put 22 = .ok (.aload_n 0, 1) := by decide +kernel
theorem dX7_put_23 : decode cX7_put 23 = .ok (.getfield 10, 3) := by decide +kernel
theorem dX7_put_26 : decode cX7_put 26 = .ok (.iload_n 2, 1) := by decide +kernel
theorem dX7_put_27 : decode cX7_put 27 = .ok (.putfield 104, 3) := by decide +kernel
theorem dX7_put_30 : decode cX7_put 30 = .ok (.aload_n 0, 1) := by decide +kernel
theorem dX7_put_31 : decode cX7_put 31 = .ok (.getfield 49, 3) := by decide +kernel
theorem dX7_put_34 : decode cX7_put 34 = .ok (.iconst 0, 1) := by decide +kernel
theorem dX7_put_35 : decode cX7_put 35 = .ok (.putfield 107, 3) := by decide +kernel
theorem dX7_put_38 : decode cX7_put 38 = .ok (.iload_n 3, 1) := by decide +kernel
theorem dX7_put_39 : decode cX7_put 39 = .ok (.ireturn, 1) := by decide +kernel
theorem dX7_put_40 : decode cX7_put 40 = .ok (.iload_n 1, 1) := by decide +kernel
theorem dX7_put_41 : decode cX7_put 41 = .ok (.iconst 1, 1) := by decide +kernel
theorem dX7_put_42 : decode cX7_put 42 = .ok (.if_icmp .ne 39, 3) := by decide +kernel
theorem dX7_put_45 : decode cX7_put 45 = .ok (.iload_n 2, 1) := by decide +kernel
theorem dX7_put_46 : decode cX7_put 46 = .ok (.iconst 0, 1) := by decide +kernel
theorem dX7_put_47 : decode cX7_put 47 = .ok (.bipush 99, 2) := by decide +kernel
theorem dX7_put_49 : decode cX7_put 49 = .ok (.invokestatic 82, 3) := by decide +kernel
theorem dX7_put_52 : decode cX7_put 52 = .ok (.ifCond .eq 29, 3) := by decide +kernel
theorem dX7_put_55 : decode cX7_put 55 = .ok (.aload_n 0, 1) := by decide +kernel
theorem dX7_put_56 : decode cX7_put 56 = .ok (.getfield 10, 3) := by decide +kernel
theorem dX7_put_59 : decode cX7_put 59 = .ok (.getfield 111, 3) := by decide +kernel
theorem dX7_put_62 : decode cX7_put 62 = .ok (.istore_n 3, 1) := by decide +kernel
theorem dX7_put_63 : decode cX7_put 63 = .ok (.aload_n 0, 1) := by decide +kernel
theorem dX7_put_64 : decode cX7_put 64 = .ok (.getfield 10, 3) := by decide +kernel
theorem dX7_put_67 : decode cX7_put 67 = .ok (.iload_n 2, 1) := by decide +kernel
theorem dX7_put_68 : decode cX7_put 68 = .ok (.putfield 111, 3) := by decide +kernel
theorem dX7_put_71 : decode cX7_put 71 = .ok (.aload_n 0, 1) := by decide +kernel
theorem dX7_put_72 : decode cX7_put 72 = .ok (.getfield 56, 3) := by decide +kernel
theorem dX7_put_75 : decode cX7_put 75 = .ok (.iconst 0, 1) := by decide +kernel
theorem dX7_put_76 : decode cX7_put 76 = .ok (.putfield 114, 3) := by decide +kernel
theorem dX7_put_79 : decode cX7_put 79 = .ok (.iload_n 3, 1) := by decide +kernel
theorem dX7_put_80 : decode cX7_put 80 = .ok (.ireturn, 1) := by decide +kernel
theorem dX7_put_81 : decode cX7_put 81 = .ok (.aload_n 0, 1) := by decide +kernel
theorem dX7_put_82 : decode cX7_put 82 = .ok (.invokevirtual 86, 3) := by decide +kernel
theorem dX7_put_85 : decode cX7_put 85 = .ok (.ireturn, 1) := by decide +kernel
theorem dX7_write_0 : decode cX7_write 0 = .ok (.iload_n 1, 1) := by decide +kernel
theorem dX7_write_1 : decode cX7_write 1 = .ok (.iconst 0, 1) := by decide +kernel
theorem dX7_write_2 : decode cX7_write 2 = .ok (.bipush 127, 2) := by decide +kernel
theorem dX7_write_4 : decode cX7_write 4 = .ok (.invokestatic 82, 3) := by decide +kernel
theorem dX7_write_7 : decode cX7_write 7 = .ok (.ifCond .ne 8, 3) := by decide +kernel
theorem dX7_write_10 : decode cX7_write 10 = .ok (.aload_n 0, 1) := by decide +kernel
theorem dX7_write_11 : decode cX7_write 11 = .ok (.invokevirtual 86, 3) := by decide +kernel
theorem dX7_write_14 : decode cX7_write 14 = .ok (.ireturn, 1) := by decide +kernel
theorem dX7_write_15 : decode cX7_write 15 = .ok (.aload_n 0, 1) := by decide +kernel
theorem dX7_write_16 : decode cX7_write 16 = .ok (.getfield 10, 3) := by decide +kernel
theorem dX7_write_19 : decode cX7_write 19 = .ok (.getfield 115, 3) := by decide +kernel
theorem dX7_write_22 : decode cX7_write 22 = .ok (.bipush 40, 2) := by decide +kernel
theorem dX7_write_24 : decode cX7_write 24 = .ok (.if_icmp .lt 8, 3) := by decide +kernel
theorem dX7_write_27 : decode cX7_write 27 = .ok (.aload_n 0, 1) := by decide +kernel
theorem dX7_write_28 : decode cX7_write 28 = .ok (.invokevirtual 94, 3) := by decide +kernel
theorem dX7_write_31 : decode cX7_write 31 = .ok (.ireturn, 1) := by decide +kernel
theorem dX7_write_32 : decode cX7_write 32 = .ok (.aload_n 0, 1) := by decide +kernel
theorem dX7_write_33 : decode cX7_write 33 = .ok (.getfield 10, 3) := by decide +kernel
theorem dX7_write_36 : decode cX7_write 36 = .ok (.iload_n 1, 1) := by decide +kernel
theorem dX7_write_37 : decode cX7_write 37 = .ok (.i2c, 1) := by decide +kernel
theorem dX7_write_38 : decode cX7_write 38 = .ok (.invokevirtual 118, 3) := by decide +kernel
theorem dX7_write_41 : decode cX7_write 41 = .ok (.aload_n 0, 1) := by decide +kernel
theorem dX7_write_42 : decode cX7_write 42 = .ok (.getfield 31, 3) := by decide +kernel
theorem dX7_write_45 : decode cX7_write 45 = .ok (.invokevirtual 122, 3) := by decide +kernel
theorem dX7_write_48 : decode cX7_write 48 = .ok (.aload_n 0, 1) := by decide +kernel
theorem dX7_write_49 : decode cX7_write 49 = .ok (.invokevirtual 101, 3) := by decide +kernel
theorem dX7_write_52 : decode cX7_write 52 = .ok (.aload_n 0, 1) := by decide +kernel
theorem dX7_write_53 : decode cX7_write 53 = .ok (.getfield 10, 3) := by decide +kernel
theorem dX7_write_56 : decode cX7_write 56 = .ok (.getfield 115, 3) := by decide +kernel
theorem dX7_write_59 : decode cX7_write 59 = .ok (.ireturn, 1) := by decide +kernel
theorem dX7_erase_0 : decode cX7_erase 0 = .ok (.aload_n 0, 1) := by decide +kernel
theorem dX7_erase_1 : decode cX7_erase 1 = .ok (.getfield 10, 3) := by decide +kernel
theorem dX7_erase_4 : decode cX7_erase 4 = .ok (.getfield 115, 3) := by decide +kernel
theorem dX7_erase_7 : decode cX7_erase 7 = .ok (.istore_n 1, 1) := by decide +kernel
theorem dX7_erase_8 : decode cX7_erase 8 = .ok (.aload_n 0, 1) := by decide +kernel
theorem dX7_erase_9 : decode cX7_erase 9 = .ok (.getfield 10, 3) := by decide +kernel
theorem dX7_erase_12 : decode cX7_erase 12 = .ok (.iconst 0, 1) := by decide +kernel
theorem dX7_erase_13 : decode cX7_erase 13 = .ok (.putfield 115, 3) := by decide +kernel
theorem dX7_erase_16 : decode cX7_erase 16 = .ok (.aload_n 0, 1) := by decide +kernel
theorem dX7_erase_17 : decode cX7_erase 17 = .ok (.getfield 31, 3) := by decide +kernel
theorem dX7_erase_20 : decode cX7_erase 20 = .ok (.invokevirtual 122, 3) := by decide +kernel
theorem dX7_erase_23 : decode cX7_erase 23 = .ok (.aload_n 0, 1) := by decide +kernel
theorem dX7_erase_24 : decode cX7_erase 24 = .ok (.invokevirtual 101, 3) := by decide +kernel
theorem dX7_erase_27 : decode cX7_erase 27 = .ok (.iload_n 1, 1) := by decide +kernel
theorem dX7_erase_28 : decode cX7_erase 28 = .ok (.ireturn, 1) := by decide +kernel
theorem dX7_fault_0 : decode cX7_fault 0 = .ok (.aload_n 0, 1) := by decide +kernel
theorem dX7_fault_1 : decode cX7_fault 1 = .ok (.getfield 31, 3) := by decide +kernel
theorem dX7_fault_4 : decode cX7_fault 4 = .ok (.getfield 125, 3) := by decide +kernel
theorem dX7_fault_7 : decode cX7_fault 7 = .ok (.ireturn, 1) := by decide +kernel
theorem dX7_brings_0 : decode cX7_brings 0 = .ok (.iload_n 1, 1) := by decide +kernel
theorem dX7_brings_1 : decode cX7_brings 1 = .ok (.aload_n 0, 1) := by decide +kernel
theorem dX7_brings_2 : decode cX7_brings 2 = .ok (.getfield 10, 3) := by decide +kernel
theorem dX7_brings_5 : decode cX7_brings 5 = .ok (.getfield 90, 3) := by decide +kernel
theorem dX7_brings_8 : decode cX7_brings 8 = .ok (.invokestatic 128, 3) := by decide +kernel
theorem dX7_brings_11 : decode cX7_brings 11 = .ok (.ifCond .eq 12, 3) := by decide +kernel
theorem dX7_brings_14 : decode cX7_brings 14 = .ok (.iload_n 2, 1) := by decide +kernel
theorem dX7_brings_15 : decode cX7_brings 15 = .ok (.iconst 0, 1) := by decide +kernel
theorem dX7_brings_16 : decode cX7_brings 16 = .ok (.iconst 4, 1) := by decide +kernel
theorem dX7_brings_17 : decode cX7_brings 17 = .ok (.invokestatic 82, 3) := by decide +kernel
theorem dX7_brings_20 : decode cX7_brings 20 = .ok (.ifCond .ne 8, 3) := by decide +kernel
theorem dX7_brings_23 : decode cX7_brings 23 = .ok (.aload_n 0, 1) := by decide +kernel
theorem dX7_brings_24 : decode cX7_brings 24 = .ok (.invokevirtual 86, 3) := by decide +kernel
theorem dX7_brings_27 : decode cX7_brings 27 = .ok (.ireturn, 1) := by decide +kernel
theorem dX7_brings_28 : decode cX7_brings 28 = .ok (.aload_n 0, 1) := by decide +kernel
theorem dX7_brings_29 : decode cX7_brings 29 = .ok (.getfield 10, 3) := by decide +kernel
theorem dX7_brings_32 : decode cX7_brings 32 = .ok (.iload_n 1, 1) := by decide +kernel
theorem dX7_brings_33 : decode cX7_brings 33 = .ok (.iload_n 2, 1) := by decide +kernel
theorem dX7_brings_34 : decode cX7_brings 34 = .ok (.invokevirtual 132, 3) := by decide +kernel
theorem dX7_brings_37 : decode cX7_brings 37 = .ok (.ireturn, 1) := by decide +kernel
theorem dX7_well_0 : decode cX7_well 0 = .ok (.iload_n 1, 1) := by decide +kernel
theorem dX7_well_1 : decode cX7_well 1 = .ok (.aload_n 0, 1) := by decide +kernel
theorem dX7_well_2 : decode cX7_well 2 = .ok (.getfield 10, 3) := by decide +kernel
theorem dX7_well_5 : decode cX7_well 5 = .ok (.getfield 90, 3) := by decide +kernel
theorem dX7_well_8 : decode cX7_well 8 = .ok (.invokestatic 128, 3) := by decide +kernel
theorem dX7_well_11 : decode cX7_well 11 = .ok (.ifCond .eq 14, 3) := by decide +kernel
theorem dX7_well_14 : decode cX7_well 14 = .ok (.iload_n 2, 1) := by decide +kernel
theorem dX7_well_15 : decode cX7_well 15 = .ok (.iconst 0, 1) := by decide +kernel
theorem dX7_well_16 : decode cX7_well 16 = .ok (.sipush 199, 3) := by decide +kernel
theorem dX7_well_19 : decode cX7_well 19 = .ok (.invokestatic 82, 3) := by decide +kernel
theorem dX7_well_22 : decode cX7_well 22 = .ok (.ifCond .ne 8, 3) := by decide +kernel
theorem dX7_well_25 : decode cX7_well 25 = .ok (.aload_n 0, 1) := by decide +kernel
theorem dX7_well_26 : decode cX7_well 26 = .ok (.invokevirtual 86, 3) := by decide +kernel
theorem dX7_well_29 : decode cX7_well 29 = .ok (.ireturn, 1) := by decide +kernel
theorem dX7_well_30 : decode cX7_well 30 = .ok (.aload_n 0, 1) := by decide +kernel
theorem dX7_well_31 : decode cX7_well 31 = .ok (.getfield 40, 3) := by decide +kernel
theorem dX7_well_34 : decode cX7_well 34 = .ok (.iload_n 1, 1) := by decide +kernel
theorem dX7_well_35 : decode cX7_well 35 = .ok (.iload_n 2, 1) := by decide +kernel
theorem dX7_well_36 : decode cX7_well 36 = .ok (.invokevirtual 136, 3) := by decide +kernel
theorem dX7_well_39 : decode cX7_well 39 = .ok (.ifCond .eq 7, 3) := by decide +kernel
theorem dX7_well_42 : decode cX7_well 42 = .ok (.iconst 1, 1) := by decide +kernel
theorem dX7_well_43 : decode cX7_well 43 = .ok (.goto 4, 3) := by decide +kernel
theorem dX7_well_46 : decode cX7_well 46 = .ok (.iconst 0, 1) := by decide +kernel
theorem dX7_well_47 : decode cX7_well 47 = .ok (.ireturn, 1) := by decide +kernel
theorem dX7_on_0 : decode cX7_on 0 = .ok (.iload_n 1, 1) := by decide +kernel
theorem dX7_on_1 : decode cX7_on 1 = .ok (.iconst 0, 1) := by decide +kernel
theorem dX7_on_2 : decode cX7_on 2 = .ok (.sipush 199, 3) := by decide +kernel
theorem dX7_on_5 : decode cX7_on 5 = .ok (.invokestatic 82, 3) := by decide +kernel
theorem dX7_on_8 : decode cX7_on 8 = .ok (.ifCond .ne 8, 3) := by decide +kernel
theorem dX7_on_11 : decode cX7_on 11 = .ok (.aload_n 0, 1) := by decide +kernel
theorem dX7_on_12 : decode cX7_on 12 = .ok (.invokevirtual 86, 3) := by decide +kernel
theorem dX7_on_15 : decode cX7_on 15 = .ok (.ireturn, 1) := by decide +kernel
theorem dX7_on_16 : decode cX7_on 16 = .ok (.aload_n 0, 1) := by decide +kernel
theorem dX7_on_17 : decode cX7_on 17 = .ok (.getfield 49, 3) := by decide +kernel
theorem dX7_on_20 : decode cX7_on 20 = .ok (.invokevirtual 139, 3) := by decide +kernel
theorem dX7_on_23 : decode cX7_on 23 = .ok (.aload_n 0, 1) := by decide +kernel
theorem dX7_on_24 : decode cX7_on 24 = .ok (.getfield 49, 3) := by decide +kernel
theorem dX7_on_27 : decode cX7_on 27 = .ok (.getfield 142, 3) := by decide +kernel
theorem dX7_on_30 : decode cX7_on 30 = .ok (.iload_n 1, 1) := by decide +kernel
theorem dX7_on_31 : decode cX7_on 31 = .ok (.iaload, 1) := by decide +kernel
theorem dX7_on_32 : decode cX7_on 32 = .ok (.ireturn, 1) := by decide +kernel
theorem dX7_stepped_0 : decode cX7_stepped 0 = .ok (.aload_n 0, 1) := by decide +kernel
theorem dX7_stepped_1 : decode cX7_stepped 1 = .ok (.iload_n 1, 1) := by decide +kernel
theorem dX7_stepped_2 : decode cX7_stepped 2 = .ok (.invokevirtual 145, 3) := by decide +kernel
theorem dX7_stepped_5 : decode cX7_stepped 5 = .ok (.ifCond .eq 12, 3) := by decide +kernel
theorem dX7_stepped_8 : decode cX7_stepped 8 = .ok (.iload_n 2, 1) := by decide +kernel
theorem dX7_stepped_9 : decode cX7_stepped 9 = .ok (.iconst 0, 1) := by decide +kernel
theorem dX7_stepped_10 : decode cX7_stepped 10 = .ok (.iconst 1, 1) := by decide +kernel
theorem dX7_stepped_11 : decode cX7_stepped 11 = .ok (.invokestatic 82, 3) := by decide +kernel
theorem dX7_stepped_14 : decode cX7_stepped 14 = .ok (.ifCond .ne 8, 3) := by decide +kernel
theorem dX7_stepped_17 : decode cX7_stepped 17 = .ok (.aload_n 0, 1) := by decide +kernel
theorem dX7_stepped_18 : decode cX7_stepped 18 = .ok (.invokevirtual 86, 3) := by decide +kernel
theorem dX7_stepped_21 : decode cX7_stepped 21 = .ok (.ireturn, 1) := by decide +kernel
theorem dX7_stepped_22 : decode cX7_stepped 22 = .ok (.aload_n 0, 1) := by decide +kernel
theorem dX7_stepped_23 : decode cX7_stepped 23 = .ok (.getfield 49, 3) := by decide +kernel
theorem dX7_stepped_26 : decode cX7_stepped 26 = .ok (.invokevirtual 139, 3) := by decide +kernel
theorem dX7_stepped_29 : decode cX7_stepped 29 = .ok (.iload_n 2, 1) := by decide +kernel
theorem dX7_stepped_30 : decode cX7_stepped 30 = .ok (.ifCond .ne 15, 3) := by decide +kernel
theorem dX7_stepped_33 : decode cX7_stepped 33 = .ok (.aload_n 0, 1) := by decide +kernel
theorem dX7_stepped_34 : decode cX7_stepped 34 = .ok (.getfield 49, 3) := by decide +kernel
theorem dX7_stepped_37 : decode cX7_stepped 37 = .ok (.getfield 149, 3) := by decide +kernel
theorem dX7_stepped_40 : decode cX7_stepped 40 = .ok (.iload_n 1, 1) := by decide +kernel
theorem dX7_stepped_41 : decode cX7_stepped 41 = .ok (.iaload, 1) := by decide +kernel
theorem dX7_stepped_42 : decode cX7_stepped 42 = .ok (.goto 12, 3) := by decide +kernel
theorem dX7_stepped_45 : decode cX7_stepped 45 = .ok (.aload_n 0, 1) := by decide +kernel
theorem dX7_stepped_46 : decode cX7_stepped 46 = .ok (.getfield 49, 3) := by decide +kernel
theorem dX7_stepped_49 : decode cX7_stepped 49 = .ok (.getfield 152, 3) := by decide +kernel
theorem dX7_stepped_52 : decode cX7_stepped 52 = .ok (.iload_n 1, 1) := by decide +kernel
theorem dX7_stepped_53 : decode cX7_stepped 53 = .ok (.iaload, 1) := by decide +kernel
theorem dX7_stepped_54 : decode cX7_stepped 54 = .ok (.ireturn, 1) := by decide +kernel
theorem dX7_faulty_0 : decode cX7_faulty 0 = .ok (.iload_n 1, 1) := by decide +kernel
theorem dX7_faulty_1 : decode cX7_faulty 1 = .ok (.iconst 0, 1) := by decide +kernel
theorem dX7_faulty_2 : decode cX7_faulty 2 = .ok (.iconst 1, 1) := by decide +kernel
theorem dX7_faulty_3 : decode cX7_faulty 3 = .ok (.invokestatic 82, 3) := by decide +kernel
theorem dX7_faulty_6 : decode cX7_faulty 6 = .ok (.ifCond .ne 8, 3) := by decide +kernel
theorem dX7_faulty_9 : decode cX7_faulty 9 = .ok (.aload_n 0, 1) := by decide +kernel
theorem dX7_faulty_10 : decode cX7_faulty 10 = .ok (.invokevirtual 86, 3) := by decide +kernel
theorem dX7_faulty_13 : decode cX7_faulty 13 = .ok (.ireturn, 1) := by decide +kernel
theorem dX7_faulty_14 : decode cX7_faulty 14 = .ok (.aload_n 0, 1) := by decide +kernel
theorem dX7_faulty_15 : decode cX7_faulty 15 = .ok (.getfield 49, 3) := by decide +kernel
theorem dX7_faulty_18 : decode cX7_faulty 18 = .ok (.invokevirtual 139, 3) := by decide +kernel
theorem dX7_faulty_21 : decode cX7_faulty 21 = .ok (.iload_n 1, 1) := by decide +kernel
theorem dX7_faulty_22 : decode cX7_faulty 22 = .ok (.ifCond .ne 13, 3) := by decide +kernel
theorem dX7_faulty_25 : decode cX7_faulty 25 = .ok (.aload_n 0, 1) := by decide +kernel
theorem dX7_faulty_26 : decode cX7_faulty 26 = .ok (.getfield 49, 3) := by decide +kernel
theorem dX7_faulty_29 : decode cX7_faulty 29 = .ok (.getfield 155, 3) := by decide +kernel
theorem dX7_faulty_32 : decode cX7_faulty 32 = .ok (.goto 10, 3) := by decide +kernel
theorem dX7_faulty_35 : decode cX7_faulty 35 = .ok (.aload_n 0, 1) := by decide +kernel
theorem dX7_faulty_36 : decode cX7_faulty 36 = .ok (.getfield 49, 3) := by decide +kernel
theorem dX7_faulty_39 : decode cX7_faulty 39 = .ok (.getfield 158, 3) := by decide +kernel
theorem dX7_faulty_42 : decode cX7_faulty 42 = .ok (.ireturn, 1) := by decide +kernel
theorem dX7_least_0 : decode cX7_least 0 = .ok (.iload_n 1, 1) := by decide +kernel
theorem dX7_least_1 : decode cX7_least 1 = .ok (.iconst 0, 1) := by decide +kernel
theorem dX7_least_2 : decode cX7_least 2 = .ok (.iconst 3, 1) := by decide +kernel
theorem dX7_least_3 : decode cX7_least 3 = .ok (.invokestatic 82, 3) := by decide +kernel
theorem dX7_least_6 : decode cX7_least 6 = .ok (.ifCond .ne 8, 3) := by decide +kernel
theorem dX7_least_9 : decode cX7_least 9 = .ok (.aload_n 0, 1) := by decide +kernel
theorem dX7_least_10 : decode cX7_least 10 = .ok (.invokevirtual 86, 3) := by decide +kernel
theorem dX7_least_13 : decode cX7_least 13 = .ok (.ireturn, 1) := by decide +kernel
theorem dX7_least_14 : decode cX7_least 14 = .ok (.aload_n 0, 1) := by decide +kernel
theorem dX7_least_15 : decode cX7_least 15 = .ok (.getfield 56, 3) := by decide +kernel
theorem dX7_least_18 : decode cX7_least 18 = .ok (.invokevirtual 161, 3) := by decide +kernel
theorem dX7_least_21 : decode cX7_least 21 = .ok (.iload_n 1, 1) := by decide +kernel
theorem dX7_least_22 : decode cX7_least 22 = .ok (.tableswitch 64 0 2 #[26, 34, 42], 26) := by decide +kernel
theorem dX7_least_48 : decode cX7_least 48 = .ok (.aload_n 0, 1) := by decide +kernel
theorem dX7_least_49 : decode cX7_least 49 = .ok (.getfield 56, 3) := by decide +kernel
theorem dX7_least_52 : decode cX7_least 52 = .ok (.getfield 164, 3) := by decide +kernel
theorem dX7_least_55 : decode cX7_least 55 = .ok (.ireturn, 1) := by decide +kernel
theorem dX7_least_56 : decode cX7_least 56 = .ok (.aload_n 0, 1) := by decide +kernel
theorem dX7_least_57 : decode cX7_least 57 = .ok (.getfield 56, 3) := by decide +kernel
theorem dX7_least_60 : decode cX7_least 60 = .ok (.getfield 167, 3) := by decide +kernel
theorem dX7_least_63 : decode cX7_least 63 = .ok (.ireturn, 1) := by decide +kernel
theorem dX7_least_64 : decode cX7_least 64 = .ok (.aload_n 0, 1) := by decide +kernel
theorem dX7_least_65 : decode cX7_least 65 = .ok (.getfield 56, 3) := by decide +kernel
theorem dX7_least_68 : decode cX7_least 68 = .ok (.getfield 170, 3) := by decide +kernel
theorem dX7_least_71 : decode cX7_least 71 = .ok (.ifCond .eq 13, 3) := by decide +kernel
theorem dX7_least_74 : decode cX7_least 74 = .ok (.aload_n 0, 1) := by decide +kernel
theorem dX7_least_75 : decode cX7_least 75 = .ok (.getfield 56, 3) := by decide +kernel
theorem dX7_least_78 : decode cX7_least 78 = .ok (.getfield 173, 3) := by decide +kernel
theorem dX7_least_81 : decode cX7_least 81 = .ok (.goto 4, 3) := by decide +kernel
theorem dX7_least_84 : decode cX7_least 84 = .ok (.iconst (-1), 1) := by decide +kernel
theorem dX7_least_85 : decode cX7_least 85 = .ok (.ireturn, 1) := by decide +kernel
theorem dX7_least_86 : decode cX7_least 86 = .ok (.aload_n 0, 1) := by decide +kernel
theorem dX7_least_87 : decode cX7_least 87 = .ok (.getfield 56, 3) := by decide +kernel
theorem dX7_least_90 : decode cX7_least 90 = .ok (.getfield 176, 3) := by decide +kernel
theorem dX7_least_93 : decode cX7_least 93 = .ok (.ireturn, 1) := by decide +kernel
theorem dX7_row_0 : decode cX7_row 0 = .ok (.iload_n 1, 1) := by decide +kernel
theorem dX7_row_1 : decode cX7_row 1 = .ok (.ifCond .ge 16, 3) := by decide +kernel
theorem dX7_row_4 : decode cX7_row 4 = .ok (.aload_n 0, 1) := by decide +kernel
theorem dX7_row_5 : decode cX7_row 5 = .ok (.dup, 1) := by decide +kernel
theorem dX7_row_6 : decode cX7_row 6 = .ok (.getfield 179, 3) := by decide +kernel
theorem dX7_row_9 : decode cX7_row 9 = .ok (.iconst 1, 1) := by decide +kernel
theorem dX7_row_10 : decode cX7_row 10 = .ok (.iadd, 1) := by decide +kernel
theorem dX7_row_11 : decode cX7_row 11 = .ok (.putfield 179, 3) := by decide +kernel
theorem dX7_row_14 : decode cX7_row 14 = .ok (.bipush (-10), 2) := by decide +kernel
theorem dX7_row_16 : decode cX7_row 16 = .ok (.ireturn, 1) := by decide +kernel
theorem dX7_row_17 : decode cX7_row 17 = .ok (.aload_n 0, 1) := by decide +kernel
theorem dX7_row_18 : decode cX7_row 18 = .ok (.getfield 56, 3) := by decide +kernel
theorem dX7_row_21 : decode cX7_row 21 = .ok (.invokevirtual 161, 3) := by decide +kernel
theorem dX7_row_24 : decode cX7_row 24 = .ok (.iload_n 1, 1) := by decide +kernel
theorem dX7_row_25 : decode cX7_row 25 = .ok (.aload_n 0, 1) := by decide +kernel
theorem dX7_row_26 : decode cX7_row 26 = .ok (.getfield 56, 3) := by decide +kernel
theorem dX7_row_29 : decode cX7_row 29 = .ok (.getfield 173, 3) := by decide +kernel
theorem dX7_row_32 : decode cX7_row 32 = .ok (.if_icmp .ge 21, 3) := by decide +kernel
theorem dX7_row_35 : decode cX7_row 35 = .ok (.iload_n 1, 1) := by decide +kernel
theorem dX7_row_36 : decode cX7_row 36 = .ok (.bipush 8, 2) := by decide +kernel
theorem dX7_row_38 : decode cX7_row 38 = .ok (.if_icmp .ge 15, 3) := by decide +kernel
theorem dX7_row_41 : decode cX7_row 41 = .ok (.aload_n 0, 1) := by decide +kernel
theorem dX7_row_42 : decode cX7_row 42 = .ok (.getfield 56, 3) := by decide +kernel
theorem dX7_row_45 : decode cX7_row 45 = .ok (.getfield 182, 3) := by decide +kernel
theorem dX7_row_48 : decode cX7_row 48 = .ok (.iload_n 1, 1) := by decide +kernel
theorem dX7_row_49 : decode cX7_row 49 = .ok (.iaload, 1) := by decide +kernel
theorem dX7_row_50 : decode cX7_row 50 = .ok (.goto 5, 3) := by decide +kernel
theorem dX7_row_53 : decode cX7_row 53 = .ok (.bipush (-5), 2) := by decide +kernel
theorem dX7_row_55 : decode cX7_row 55 = .ok (.ireturn, 1) := by decide +kernel
theorem dX7_toll_0 : decode cX7_toll 0 = .ok (.iload_n 1, 1) := by decide +kernel
theorem dX7_toll_1 : decode cX7_toll 1 = .ok (.iconst 0, 1) := by decide +kernel
theorem dX7_toll_2 : decode cX7_toll 2 = .ok (.bipush 20, 2) := by decide +kernel
theorem dX7_toll_4 : decode cX7_toll 4 = .ok (.invokestatic 82, 3) := by decide +kernel
theorem dX7_toll_7 : decode cX7_toll 7 = .ok (.ifCond .eq 13, 3) := by decide +kernel
theorem dX7_toll_10 : decode cX7_toll 10 = .ok (.iload_n 2, 1) := by decide +kernel
theorem dX7_toll_11 : decode cX7_toll 11 = .ok (.iconst 0, 1) := by decide +kernel
theorem dX7_toll_12 : decode cX7_toll 12 = .ok (.bipush 8, 2) := by decide +kernel
theorem dX7_toll_14 : decode cX7_toll 14 = .ok (.invokestatic 82, 3) := by decide +kernel
theorem dX7_toll_17 : decode cX7_toll 17 = .ok (.ifCond .ne 8, 3) := by decide +kernel
theorem dX7_toll_20 : decode cX7_toll 20 = .ok (.aload_n 0, 1) := by decide +kernel
theorem dX7_toll_21 : decode cX7_toll 21 = .ok (.invokevirtual 86, 3) := by decide +kernel
theorem dX7_toll_24 : decode cX7_toll 24 = .ok (.ireturn, 1) := by decide +kernel
theorem dX7_toll_25 : decode cX7_toll 25 = .ok (.aload_n 0, 1) := by decide +kernel
theorem dX7_toll_26 : decode cX7_toll 26 = .ok (.getfield 56, 3) := by decide +kernel
theorem dX7_toll_29 : decode cX7_toll 29 = .ok (.invokevirtual 161, 3) := by decide +kernel
theorem dX7_toll_32 : decode cX7_toll 32 = .ok (.aload_n 0, 1) := by decide +kernel
theorem dX7_toll_33 : decode cX7_toll 33 = .ok (.getfield 56, 3) := by decide +kernel
theorem dX7_toll_36 : decode cX7_toll 36 = .ok (.getfield 170, 3) := by decide +kernel
theorem dX7_toll_39 : decode cX7_toll 39 = .ok (.ifCond .ne 8, 3) := by decide +kernel
theorem dX7_toll_42 : decode cX7_toll 42 = .ok (.aload_n 0, 1) := by decide +kernel
theorem dX7_toll_43 : decode cX7_toll 43 = .ok (.invokevirtual 185, 3) := by decide +kernel
theorem dX7_toll_46 : decode cX7_toll 46 = .ok (.ireturn, 1) := by decide +kernel
theorem dX7_toll_47 : decode cX7_toll 47 = .ok (.aload_n 0, 1) := by decide +kernel
theorem dX7_toll_48 : decode cX7_toll 48 = .ok (.iload_n 1, 1) := by decide +kernel
theorem dX7_toll_49 : decode cX7_toll 49 = .ok (.aload_n 0, 1) := by decide +kernel
theorem dX7_toll_50 : decode cX7_toll 50 = .ok (.getfield 56, 3) := by decide +kernel
theorem dX7_toll_53 : decode cX7_toll 53 = .ok (.getfield 173, 3) := by decide +kernel
theorem dX7_toll_56 : decode cX7_toll 56 = .ok (.invokevirtual 188, 3) := by decide +kernel
theorem dX7_toll_59 : decode cX7_toll 59 = .ok (.lstore_n 3, 1) := by decide +kernel
theorem dX7_toll_60 : decode cX7_toll 60 = .ok (.lconst 0, 1) := by decide +kernel
theorem dX7_toll_61 : decode cX7_toll 61 = .ok (.lstore 5, 2) := by decide +kernel
theorem dX7_toll_63 : decode cX7_toll 63 = .ok (.iconst 0, 1) := by decide +kernel
theorem dX7_toll_64 : decode cX7_toll 64 = .ok (.istore 7, 2) := by decide +kernel
theorem dX7_toll_66 : decode cX7_toll 66 = .ok (.iload 7, 2) := by decide +kernel
theorem dX7_toll_68 : decode cX7_toll 68 = .ok (.iload_n 2, 1) := by decide +kernel
theorem dX7_toll_69 : decode cX7_toll 69 = .ok (.if_icmp .gt 21, 3) := by decide +kernel
theorem dX7_toll_72 : decode cX7_toll 72 = .ok (.lload 5, 2) := by decide +kernel
theorem dX7_toll_74 : decode cX7_toll 74 = .ok (.aload_n 0, 1) := by decide +kernel
theorem dX7_toll_75 : decode cX7_toll 75 = .ok (.getfield 74, 3) := by decide +kernel
theorem dX7_toll_78 : decode cX7_toll 78 = .ok (.iload 7, 2) := by decide +kernel
theorem dX7_toll_80 : decode cX7_toll 80 = .ok (.laload, 1) := by decide +kernel
theorem dX7_toll_81 : decode cX7_toll 81 = .ok (.ladd, 1) := by decide +kernel
theorem dX7_toll_82 : decode cX7_toll 82 = .ok (.lstore 5, 2) := by decide +kernel
theorem dX7_toll_84 : decode cX7_toll 84 = .ok (.iinc 7 1, 3) := by decide +kernel
theorem dX7_toll_87 : decode cX7_toll 87 = .ok (.goto (-21), 3) := by decide +kernel
theorem dX7_toll_90 : decode cX7_toll 90 = .ok (.aload_n 0, 1) := by decide +kernel
theorem dX7_toll_91 : decode cX7_toll 91 = .ok (.getfield 70, 3) := by decide +kernel
theorem dX7_toll_94 : decode cX7_toll 94 = .ok (.lload 5, 2) := by decide +kernel
theorem dX7_toll_96 : decode cX7_toll 96 = .ok (.lload_n 3, 1) := by decide +kernel
theorem dX7_toll_97 : decode cX7_toll 97 = .ok (.invokevirtual 192, 3) := by decide +kernel
theorem dX7_toll_100 : decode cX7_toll 100 = .ok (.iconst 1, 1) := by decide +kernel
theorem dX7_toll_101 : decode cX7_toll 101 = .ok (.ireturn, 1) := by decide +kernel
theorem dX7_doubt_0 : decode cX7_doubt 0 = .ok (.aload_n 0, 1) := by decide +kernel
theorem dX7_doubt_1 : decode cX7_doubt 1 = .ok (.iload_n 1, 1) := by decide +kernel
theorem dX7_doubt_2 : decode cX7_doubt 2 = .ok (.invokevirtual 145, 3) := by decide +kernel
theorem dX7_doubt_5 : decode cX7_doubt 5 = .ok (.ifCond .eq 13, 3) := by decide +kernel
theorem dX7_doubt_8 : decode cX7_doubt 8 = .ok (.iload_n 2, 1) := by decide +kernel
theorem dX7_doubt_9 : decode cX7_doubt 9 = .ok (.iconst 0, 1) := by decide +kernel
theorem dX7_doubt_10 : decode cX7_doubt 10 = .ok (.bipush 10, 2) := by decide +kernel
theorem dX7_doubt_12 : decode cX7_doubt 12 = .ok (.invokestatic 82, 3) := by decide +kernel
theorem dX7_doubt_15 : decode cX7_doubt 15 = .ok (.ifCond .ne 8, 3) := by decide +kernel
theorem dX7_doubt_18 : decode cX7_doubt 18 = .ok (.aload_n 0, 1) := by decide +kernel
theorem dX7_doubt_19 : decode cX7_doubt 19 = .ok (.invokevirtual 86, 3) := by decide +kernel
theorem dX7_doubt_22 : decode cX7_doubt 22 = .ok (.ireturn, 1) := by decide +kernel
theorem dX7_doubt_23 : decode cX7_doubt 23 = .ok (.aload_n 0, 1) := by decide +kernel
theorem dX7_doubt_24 : decode cX7_doubt 24 = .ok (.getfield 10, 3) := by decide +kernel
theorem dX7_doubt_27 : decode cX7_doubt 27 = .ok (.getfield 196, 3) := by decide +kernel
theorem dX7_doubt_30 : decode cX7_doubt 30 = .ok (.iload_n 1, 1) := by decide +kernel
theorem dX7_doubt_31 : decode cX7_doubt 31 = .ok (.iaload, 1) := by decide +kernel
theorem dX7_doubt_32 : decode cX7_doubt 32 = .ok (.istore_n 3, 1) := by decide +kernel
theorem dX7_doubt_33 : decode cX7_doubt 33 = .ok (.aload_n 0, 1) := by decide +kernel
theorem dX7_doubt_34 : decode cX7_doubt 34 = .ok (.getfield 10, 3) := by decide +kernel
theorem dX7_doubt_37 : decode cX7_doubt 37 = .ok (.getfield 196, 3) := by decide +kernel
theorem dX7_doubt_40 : decode cX7_doubt 40 = .ok (.iload_n 1, 1) := by decide +kernel
theorem dX7_doubt_41 : decode cX7_doubt 41 = .ok (.iload_n 2, 1) := by decide +kernel
theorem dX7_doubt_42 : decode cX7_doubt 42 = .ok (.iastore, 1) := by decide +kernel
theorem dX7_doubt_43 : decode cX7_doubt 43 = .ok (.iload_n 3, 1) := by decide +kernel
theorem dX7_doubt_44 : decode cX7_doubt 44 = .ok (.ireturn, 1) := by decide +kernel
theorem dX7_odd_0 : decode cX7_odd 0 = .ok (.iload_n 1, 1) := by decide +kernel
theorem dX7_odd_1 : decode cX7_odd 1 = .ok (.aload_n 0, 1) := by decide +kernel
theorem dX7_odd_2 : decode cX7_odd 2 = .ok (.getfield 10, 3) := by decide +kernel
theorem dX7_odd_5 : decode cX7_odd 5 = .ok (.getfield 90, 3) := by decide +kernel
theorem dX7_odd_8 : decode cX7_odd 8 = .ok (.invokestatic 128, 3) := by decide +kernel
theorem dX7_odd_11 : decode cX7_odd 11 = .ok (.ifCond .ne 8, 3) := by decide +kernel
theorem dX7_odd_14 : decode cX7_odd 14 = .ok (.aload_n 0, 1) := by decide +kernel
theorem dX7_odd_15 : decode cX7_odd 15 = .ok (.invokevirtual 86, 3) := by decide +kernel
theorem dX7_odd_18 : decode cX7_odd 18 = .ok (.ireturn, 1) := by decide +kernel
theorem dX7_odd_19 : decode cX7_odd 19 = .ok (.lconst 0, 1) := by decide +kernel
theorem dX7_odd_20 : decode cX7_odd 20 = .ok (.lstore_n 2, 1) := by decide +kernel
theorem dX7_odd_21 : decode cX7_odd 21 = .ok (.lconst 1, 1) := by decide +kernel
theorem dX7_odd_22 : decode cX7_odd 22 = .ok (.lstore 4, 2) := by decide +kernel
theorem dX7_odd_24 : decode cX7_odd 24 = .ok (.iconst 0, 1) := by decide +kernel
theorem dX7_odd_25 : decode cX7_odd 25 = .ok (.istore 6, 2) := by decide +kernel
theorem dX7_odd_27 : decode cX7_odd 27 = .ok (.iload 6, 2) := by decide +kernel
theorem dX7_odd_29 : decode cX7_odd 29 = .ok (.bipush 8, 2) := by decide +kernel
theorem dX7_odd_31 : decode cX7_odd 31 = .ok (.if_icmp .ge 66, 3) := by decide +kernel
theorem dX7_odd_34 : decode cX7_odd 34 = .ok (.iload_n 1, 1) := by decide +kernel
theorem dX7_odd_35 : decode cX7_odd 35 = .ok (.iload 6, 2) := by decide +kernel
theorem dX7_odd_37 : decode cX7_odd 37 = .ok (.invokestatic 199, 3) := by decide +kernel
theorem dX7_odd_40 : decode cX7_odd 40 = .ok (.ifCond .eq 51, 3) := by decide +kernel
theorem dX7_odd_43 : decode cX7_odd 43 = .ok (.aload_n 0, 1) := by decide +kernel
theorem dX7_odd_44 : decode cX7_odd 44 = .ok (.getfield 10, 3) := by decide +kernel
theorem dX7_odd_47 : decode cX7_odd 47 = .ok (.getfield 196, 3) := by decide +kernel
theorem dX7_odd_50 : decode cX7_odd 50 = .ok (.iload 6, 2) := by decide +kernel
theorem dX7_odd_52 : decode cX7_odd 52 = .ok (.iaload, 1) := by decide +kernel
theorem dX7_odd_53 : decode cX7_odd 53 = .ok (.i2l, 1) := by decide +kernel
theorem dX7_odd_54 : decode cX7_odd 54 = .ok (.lstore 7, 2) := by decide +kernel
theorem dX7_odd_56 : decode cX7_odd 56 = .ok (.ldc2_w 202, 3) := by decide +kernel
theorem dX7_odd_59 : decode cX7_odd 59 = .ok (.lload 7, 2) := by decide +kernel
theorem dX7_odd_61 : decode cX7_odd 61 = .ok (.lsub, 1) := by decide +kernel
theorem dX7_odd_62 : decode cX7_odd 62 = .ok (.lstore 9, 2) := by decide +kernel
theorem dX7_odd_64 : decode cX7_odd 64 = .ok (.lload_n 2, 1) := by decide +kernel
theorem dX7_odd_65 : decode cX7_odd 65 = .ok (.lload 9, 2) := by decide +kernel
theorem dX7_odd_67 : decode cX7_odd 67 = .ok (.lmul, 1) := by decide +kernel
theorem dX7_odd_68 : decode cX7_odd 68 = .ok (.lload 4, 2) := by decide +kernel
theorem dX7_odd_70 : decode cX7_odd 70 = .ok (.lload 7, 2) := by decide +kernel
theorem dX7_odd_72 : decode cX7_odd 72 = .ok (.lmul, 1) := by decide +kernel
theorem dX7_odd_73 : decode cX7_odd 73 = .ok (.ladd, 1) := by decide +kernel
theorem dX7_odd_74 : decode cX7_odd 74 = .ok (.lstore 11, 2) := by decide +kernel
theorem dX7_odd_76 : decode cX7_odd 76 = .ok (.lload 4, 2) := by decide +kernel
theorem dX7_odd_78 : decode cX7_odd 78 = .ok (.lload 9, 2) := by decide +kernel
theorem dX7_odd_80 : decode cX7_odd 80 = .ok (.lmul, 1) := by decide +kernel
theorem dX7_odd_81 : decode cX7_odd 81 = .ok (.lload_n 2, 1) := by decide +kernel
theorem dX7_odd_82 : decode cX7_odd 82 = .ok (.lload 7, 2) := by decide +kernel
theorem dX7_odd_84 : decode cX7_odd 84 = .ok (.lmul, 1) := by decide +kernel
theorem dX7_odd_85 : decode cX7_odd 85 = .ok (.ladd, 1) := by decide +kernel
theorem dX7_odd_86 : decode cX7_odd 86 = .ok (.lstore 4, 2) := by decide +kernel
theorem dX7_odd_88 : decode cX7_odd 88 = .ok (.lload 11, 2) := by decide +kernel
theorem dX7_odd_90 : decode cX7_odd 90 = .ok (.lstore_n 2, 1) := by decide +kernel
theorem dX7_odd_91 : decode cX7_odd 91 = .ok (.iinc 6 1, 3) := by decide +kernel
theorem dX7_odd_94 : decode cX7_odd 94 = .ok (.goto (-67), 3) := by decide +kernel
theorem dX7_odd_97 : decode cX7_odd 97 = .ok (.aload_n 0, 1) := by decide +kernel
theorem dX7_odd_98 : decode cX7_odd 98 = .ok (.getfield 70, 3) := by decide +kernel
theorem dX7_odd_101 : decode cX7_odd 101 = .ok (.lload_n 2, 1) := by decide +kernel
theorem dX7_odd_102 : decode cX7_odd 102 = .ok (.lload_n 2, 1) := by decide +kernel
theorem dX7_odd_103 : decode cX7_odd 103 = .ok (.lload 4, 2) := by decide +kernel
theorem dX7_odd_105 : decode cX7_odd 105 = .ok (.ladd, 1) := by decide +kernel
theorem dX7_odd_106 : decode cX7_odd 106 = .ok (.invokevirtual 192, 3) := by decide +kernel
theorem dX7_odd_109 : decode cX7_odd 109 = .ok (.iconst 1, 1) := by decide +kernel
theorem dX7_odd_110 : decode cX7_odd 110 = .ok (.ireturn, 1) := by decide +kernel
theorem dX7_home_0 : decode cX7_home 0 = .ok (.iload_n 1, 1) := by decide +kernel
theorem dX7_home_1 : decode cX7_home 1 = .ok (.iconst 1, 1) := by decide +kernel
theorem dX7_home_2 : decode cX7_home 2 = .ok (.bipush 40, 2) := by decide +kernel
theorem dX7_home_4 : decode cX7_home 4 = .ok (.invokestatic 82, 3) := by decide +kernel
theorem dX7_home_7 : decode cX7_home 7 = .ok (.ifCond .eq 22, 3) := by decide +kernel
theorem dX7_home_10 : decode cX7_home 10 = .ok (.iload_n 2, 1) := by decide +kernel
theorem dX7_home_11 : decode cX7_home 11 = .ok (.iconst 1, 1) := by decide +kernel
theorem dX7_home_12 : decode cX7_home 12 = .ok (.bipush 20, 2) := by decide +kernel
theorem dX7_home_14 : decode cX7_home 14 = .ok (.invokestatic 82, 3) := by decide +kernel
theorem dX7_home_17 : decode cX7_home 17 = .ok (.ifCond .eq 12, 3) := by decide +kernel
theorem dX7_home_20 : decode cX7_home 20 = .ok (.iload_n 3, 1) := by decide +kernel
theorem dX7_home_21 : decode cX7_home 21 = .ok (.iconst 0, 1) := by decide +kernel
theorem dX7_home_22 : decode cX7_home 22 = .ok (.iconst 1, 1) := by decide +kernel
theorem dX7_home_23 : decode cX7_home 23 = .ok (.invokestatic 82, 3) := by decide +kernel
theorem dX7_home_26 : decode cX7_home 26 = .ok (.ifCond .ne 8, 3) := by decide +kernel
theorem dX7_home_29 : decode cX7_home 29 = .ok (.aload_n 0, 1) := by decide +kernel
theorem dX7_home_30 : decode cX7_home 30 = .ok (.invokevirtual 86, 3) := by decide +kernel
theorem dX7_home_33 : decode cX7_home 33 = .ok (.ireturn, 1) := by decide +kernel
theorem dX7_home_34 : decode cX7_home 34 = .ok (.iload_n 3, 1) := by decide +kernel
theorem dX7_home_35 : decode cX7_home 35 = .ok (.ifCond .ne 14, 3) := by decide +kernel
theorem dX7_home_38 : decode cX7_home 38 = .ok (.aload_n 0, 1) := by decide +kernel
theorem dX7_home_39 : decode cX7_home 39 = .ok (.iload_n 1, 1) := by decide +kernel
theorem dX7_home_40 : decode cX7_home 40 = .ok (.iconst 1, 1) := by decide +kernel
theorem dX7_home_41 : decode cX7_home 41 = .ok (.isub, 1) := by decide +kernel
theorem dX7_home_42 : decode cX7_home 42 = .ok (.iload_n 2, 1) := by decide +kernel
theorem dX7_home_43 : decode cX7_home 43 = .ok (.invokevirtual 204, 3) := by decide +kernel
theorem dX7_home_46 : decode cX7_home 46 = .ok (.goto 10, 3) := by decide +kernel
theorem dX7_home_49 : decode cX7_home 49 = .ok (.iload_n 1, 1) := by decide +kernel
theorem dX7_home_50 : decode cX7_home 50 = .ok (.iconst 1, 1) := by decide +kernel
theorem dX7_home_51 : decode cX7_home 51 = .ok (.isub, 1) := by decide +kernel
theorem dX7_home_52 : decode cX7_home 52 = .ok (.iload_n 2, 1) := by decide +kernel
theorem dX7_home_53 : decode cX7_home 53 = .ok (.invokestatic 207, 3) := by decide +kernel
theorem dX7_home_56 : decode cX7_home 56 = .ok (.ireturn, 1) := by decide +kernel
theorem dX7_say_0 : decode cX7_say 0 = .ok (.aload_n 0, 1) := by decide +kernel
theorem dX7_say_1 : decode cX7_say 1 = .ok (.iload_n 1, 1) := by decide +kernel
theorem dX7_say_2 : decode cX7_say 2 = .ok (.invokevirtual 145, 3) := by decide +kernel
theorem dX7_say_5 : decode cX7_say 5 = .ok (.ifCond .eq 23, 3) := by decide +kernel
theorem dX7_say_8 : decode cX7_say 8 = .ok (.iload_n 2, 1) := by decide +kernel
theorem dX7_say_9 : decode cX7_say 9 = .ok (.iconst 0, 1) := by decide +kernel
theorem dX7_say_10 : decode cX7_say 10 = .ok (.bipush 62, 2) := by decide +kernel
theorem dX7_say_12 : decode cX7_say 12 = .ok (.invokestatic 82, 3) := by decide +kernel
theorem dX7_say_15 : decode cX7_say 15 = .ok (.ifCond .eq 13, 3) := by decide +kernel
theorem dX7_say_18 : decode cX7_say 18 = .ok (.iload_n 3, 1) := by decide +kernel
theorem dX7_say_19 : decode cX7_say 19 = .ok (.iload_n 2, 1) := by decide +kernel
theorem dX7_say_20 : decode cX7_say 20 = .ok (.bipush 62, 2) := by decide +kernel
theorem dX7_say_22 : decode cX7_say 22 = .ok (.invokestatic 82, 3) := by decide +kernel
theorem dX7_say_25 : decode cX7_say 25 = .ok (.ifCond .ne 8, 3) := by decide +kernel
theorem dX7_say_28 : decode cX7_say 28 = .ok (.aload_n 0, 1) := by decide +kernel
theorem dX7_say_29 : decode cX7_say 29 = .ok (.invokevirtual 86, 3) := by decide +kernel
theorem dX7_say_32 : decode cX7_say 32 = .ok (.ireturn, 1) := by decide +kernel
theorem dX7_say_33 : decode cX7_say 33 = .ok (.aload_n 0, 1) := by decide +kernel
theorem dX7_say_34 : decode cX7_say 34 = .ok (.getfield 10, 3) := by decide +kernel
theorem dX7_say_37 : decode cX7_say 37 = .ok (.getfield 210, 3) := by decide +kernel
theorem dX7_say_40 : decode cX7_say 40 = .ok (.bipush 8, 2) := by decide +kernel
theorem dX7_say_42 : decode cX7_say 42 = .ok (.if_icmp .lt 8, 3) := by decide +kernel
theorem dX7_say_45 : decode cX7_say 45 = .ok (.aload_n 0, 1) := by decide +kernel
theorem dX7_say_46 : decode cX7_say 46 = .ok (.invokevirtual 94, 3) := by decide +kernel
theorem dX7_say_49 : decode cX7_say 49 = .ok (.ireturn, 1) := by decide +kernel
theorem dX7_say_50 : decode cX7_say 50 = .ok (.aload_n 0, 1) := by decide +kernel
theorem dX7_say_51 : decode cX7_say 51 = .ok (.getfield 10, 3) := by decide +kernel
theorem dX7_say_54 : decode cX7_say 54 = .ok (.getfield 210, 3) := by decide +kernel
theorem dX7_say_57 : decode cX7_say 57 = .ok (.istore 4, 2) := by decide +kernel
theorem dX7_say_59 : decode cX7_say 59 = .ok (.aload_n 0, 1) := by decide +kernel
theorem dX7_say_60 : decode cX7_say 60 = .ok (.getfield 10, 3) := by decide +kernel
theorem dX7_say_63 : decode cX7_say 63 = .ok (.iload_n 1, 1) := by decide +kernel
theorem dX7_say_64 : decode cX7_say 64 = .ok (.iload_n 2, 1) := by decide +kernel
theorem dX7_say_65 : decode cX7_say 65 = .ok (.iload_n 3, 1) := by decide +kernel
theorem dX7_say_66 : decode cX7_say 66 = .ok (.invokevirtual 213, 3) := by decide +kernel
theorem dX7_say_69 : decode cX7_say 69 = .ok (.iload 4, 2) := by decide +kernel
theorem dX7_say_71 : decode cX7_say 71 = .ok (.ireturn, 1) := by decide +kernel
theorem dX7_hush_0 : decode cX7_hush 0 = .ok (.aload_n 0, 1) := by decide +kernel
theorem dX7_hush_1 : decode cX7_hush 1 = .ok (.getfield 10, 3) := by decide +kernel
theorem dX7_hush_4 : decode cX7_hush 4 = .ok (.getfield 210, 3) := by decide +kernel
theorem dX7_hush_7 : decode cX7_hush 7 = .ok (.istore_n 1, 1) := by decide +kernel
theorem dX7_hush_8 : decode cX7_hush 8 = .ok (.aload_n 0, 1) := by decide +kernel
theorem dX7_hush_9 : decode cX7_hush 9 = .ok (.getfield 10, 3) := by decide +kernel
theorem dX7_hush_12 : decode cX7_hush 12 = .ok (.iconst 0, 1) := by decide +kernel
theorem dX7_hush_13 : decode cX7_hush 13 = .ok (.putfield 210, 3) := by decide +kernel
theorem dX7_hush_16 : decode cX7_hush 16 = .ok (.iload_n 1, 1) := by decide +kernel
theorem dX7_hush_17 : decode cX7_hush 17 = .ok (.ireturn, 1) := by decide +kernel
theorem dX7_dispute_0 : decode cX7_dispute 0 = .ok (.iload_n 1, 1) := by decide +kernel
theorem dX7_dispute_1 : decode cX7_dispute 1 = .ok (.aload_n 0, 1) := by decide +kernel
theorem dX7_dispute_2 : decode cX7_dispute 2 = .ok (.getfield 10, 3) := by decide +kernel
theorem dX7_dispute_5 : decode cX7_dispute 5 = .ok (.getfield 210, 3) := by decide +kernel
theorem dX7_dispute_8 : decode cX7_dispute 8 = .ok (.invokestatic 128, 3) := by decide +kernel
theorem dX7_dispute_11 : decode cX7_dispute 11 = .ok (.ifCond .ne 9, 3) := by decide +kernel
theorem dX7_dispute_14 : decode cX7_dispute 14 = .ok (.aload_n 0, 1) := by decide +kernel
theorem dX7_dispute_15 : decode cX7_dispute 15 = .ok (.invokevirtual 86, 3) := by decide +kernel
theorem dX7_dispute_18 : decode cX7_dispute 18 = .ok (.i2l, 1) := by decide +kernel
theorem dX7_dispute_19 : decode cX7_dispute 19 = .ok (.lreturn, 1) := by decide +kernel
theorem dX7_dispute_20 : decode cX7_dispute 20 = .ok (.aload_n 0, 1) := by decide +kernel
theorem dX7_dispute_21 : decode cX7_dispute 21 = .ok (.getfield 63, 3) := by decide +kernel
theorem dX7_dispute_24 : decode cX7_dispute 24 = .ok (.iload_n 1, 1) := by decide +kernel
theorem dX7_dispute_25 : decode cX7_dispute 25 = .ok (.invokevirtual 216, 3) := by decide +kernel
theorem dX7_dispute_28 : decode cX7_dispute 28 = .ok (.lreturn, 1) := by decide +kernel
theorem dX7_lied_0 : decode cX7_lied 0 = .ok (.iload_n 1, 1) := by decide +kernel
theorem dX7_lied_1 : decode cX7_lied 1 = .ok (.iconst 0, 1) := by decide +kernel
theorem dX7_lied_2 : decode cX7_lied 2 = .ok (.iconst 1, 1) := by decide +kernel
theorem dX7_lied_3 : decode cX7_lied 3 = .ok (.invokestatic 82, 3) := by decide +kernel
theorem dX7_lied_6 : decode cX7_lied 6 = .ok (.ifCond .ne 8, 3) := by decide +kernel
theorem dX7_lied_9 : decode cX7_lied 9 = .ok (.aload_n 0, 1) := by decide +kernel
theorem dX7_lied_10 : decode cX7_lied 10 = .ok (.invokevirtual 86, 3) := by decide +kernel
theorem dX7_lied_13 : decode cX7_lied 13 = .ok (.ireturn, 1) := by decide +kernel
theorem dX7_lied_14 : decode cX7_lied 14 = .ok (.iload_n 1, 1) := by decide +kernel
theorem dX7_lied_15 : decode cX7_lied 15 = .ok (.ifCond .ne 13, 3) := by decide +kernel
theorem dX7_lied_18 : decode cX7_lied 18 = .ok (.aload_n 0, 1) := by decide +kernel
theorem dX7_lied_19 : decode cX7_lied 19 = .ok (.getfield 63, 3) := by decide +kernel
theorem dX7_lied_22 : decode cX7_lied 22 = .ok (.invokevirtual 220, 3) := by decide +kernel
theorem dX7_lied_25 : decode cX7_lied 25 = .ok (.goto 10, 3) := by decide +kernel
theorem dX7_lied_28 : decode cX7_lied 28 = .ok (.aload_n 0, 1) := by decide +kernel
theorem dX7_lied_29 : decode cX7_lied 29 = .ok (.getfield 63, 3) := by decide +kernel
theorem dX7_lied_32 : decode cX7_lied 32 = .ok (.invokevirtual 223, 3) := by decide +kernel
theorem dX7_lied_35 : decode cX7_lied 35 = .ok (.ireturn, 1) := by decide +kernel
theorem dX7_part_0 : decode cX7_part 0 = .ok (.iload_n 1, 1) := by decide +kernel
theorem dX7_part_1 : decode cX7_part 1 = .ok (.iconst 0, 1) := by decide +kernel
theorem dX7_part_2 : decode cX7_part 2 = .ok (.iconst 1, 1) := by decide +kernel
theorem dX7_part_3 : decode cX7_part 3 = .ok (.invokestatic 82, 3) := by decide +kernel
theorem dX7_part_6 : decode cX7_part 6 = .ok (.ifCond .ne 9, 3) := by decide +kernel
theorem dX7_part_9 : decode cX7_part 9 = .ok (.aload_n 0, 1) := by decide +kernel
theorem dX7_part_10 : decode cX7_part 10 = .ok (.invokevirtual 86, 3) := by decide +kernel
theorem dX7_part_13 : decode cX7_part 13 = .ok (.i2l, 1) := by decide +kernel
theorem dX7_part_14 : decode cX7_part 14 = .ok (.lreturn, 1) := by decide +kernel
theorem dX7_part_15 : decode cX7_part 15 = .ok (.iload_n 1, 1) := by decide +kernel
theorem dX7_part_16 : decode cX7_part 16 = .ok (.ifCond .ne 13, 3) := by decide +kernel
theorem dX7_part_19 : decode cX7_part 19 = .ok (.aload_n 0, 1) := by decide +kernel
theorem dX7_part_20 : decode cX7_part 20 = .ok (.getfield 70, 3) := by decide +kernel
theorem dX7_part_23 : decode cX7_part 23 = .ok (.getfield 226, 3) := by decide +kernel
theorem dX7_part_26 : decode cX7_part 26 = .ok (.goto 10, 3) := by decide +kernel
theorem dX7_part_29 : decode cX7_part 29 = .ok (.aload_n 0, 1) := by decide +kernel
theorem dX7_part_30 : decode cX7_part 30 = .ok (.getfield 70, 3) := by decide +kernel
theorem dX7_part_33 : decode cX7_part 33 = .ok (.getfield 230, 3) := by decide +kernel
theorem dX7_part_36 : decode cX7_part 36 = .ok (.lreturn, 1) := by decide +kernel
theorem dX7_image_0 : decode cX7_image 0 = .ok (.iload_n 1, 1) := by decide +kernel
theorem dX7_image_1 : decode cX7_image 1 = .ok (.iconst 0, 1) := by decide +kernel
theorem dX7_image_2 : decode cX7_image 2 = .ok (.iconst 1, 1) := by decide +kernel
theorem dX7_image_3 : decode cX7_image 3 = .ok (.invokestatic 82, 3) := by decide +kernel
theorem dX7_image_6 : decode cX7_image 6 = .ok (.ifCond .ne 8, 3) := by decide +kernel
theorem dX7_image_9 : decode cX7_image 9 = .ok (.aload_n 0, 1) := by decide +kernel
theorem dX7_image_10 : decode cX7_image 10 = .ok (.invokevirtual 86, 3) := by decide +kernel
theorem dX7_image_13 : decode cX7_image 13 = .ok (.ireturn, 1) := by decide +kernel
theorem dX7_image_14 : decode cX7_image 14 = .ok (.aload_n 0, 1) := by decide +kernel
theorem dX7_image_15 : decode cX7_image 15 = .ok (.iload_n 1, 1) := by decide +kernel
theorem dX7_image_16 : decode cX7_image 16 = .ok (.invokevirtual 233, 3) := by decide +kernel
theorem dX7_image_19 : decode cX7_image 19 = .ok (.aload_n 0, 1) := by decide +kernel
theorem dX7_image_20 : decode cX7_image 20 = .ok (.getfield 10, 3) := by decide +kernel
theorem dX7_image_23 : decode cX7_image 23 = .ok (.invokevirtual 237, 3) := by decide +kernel
theorem dX7_image_26 : decode cX7_image 26 = .ok (.aload_n 0, 1) := by decide +kernel
theorem dX7_image_27 : decode cX7_image 27 = .ok (.getfield 22, 3) := by decide +kernel
theorem dX7_image_30 : decode cX7_image 30 = .ok (.iload_n 1, 1) := by decide +kernel
theorem dX7_image_31 : decode cX7_image 31 = .ok (.iconst 1, 1) := by decide +kernel
theorem dX7_image_32 : decode cX7_image 32 = .ok (.bastore, 1) := by decide +kernel
theorem dX7_image_33 : decode cX7_image 33 = .ok (.iconst 1, 1) := by decide +kernel
theorem dX7_image_34 : decode cX7_image 34 = .ok (.ireturn, 1) := by decide +kernel
theorem dX7_from_0 : decode cX7_from 0 = .ok (.iload_n 1, 1) := by decide +kernel
theorem dX7_from_1 : decode cX7_from 1 = .ok (.iconst 0, 1) := by decide +kernel
theorem dX7_from_2 : decode cX7_from 2 = .ok (.iconst 1, 1) := by decide +kernel
theorem dX7_from_3 : decode cX7_from 3 = .ok (.invokestatic 82, 3) := by decide +kernel
theorem dX7_from_6 : decode cX7_from 6 = .ok (.ifCond .ne 8, 3) := by decide +kernel
theorem dX7_from_9 : decode cX7_from 9 = .ok (.aload_n 0, 1) := by decide +kernel
theorem dX7_from_10 : decode cX7_from 10 = .ok (.invokevirtual 86, 3) := by decide +kernel
theorem dX7_from_13 : decode cX7_from 13 = .ok (.ireturn, 1) := by decide +kernel
theorem dX7_from_14 : decode cX7_from 14 = .ok (.aload_n 0, 1) := by decide +kernel
theorem dX7_from_15 : decode cX7_from 15 = .ok (.getfield 22, 3) := by decide +kernel
theorem dX7_from_18 : decode cX7_from 18 = .ok (.iload_n 1, 1) := by decide +kernel
theorem dX7_from_19 : decode cX7_from 19 = .ok (.baload, 1) := by decide +kernel
theorem dX7_from_20 : decode cX7_from 20 = .ok (.ifCond .ne 8, 3) := by decide +kernel
theorem dX7_from_23 : decode cX7_from 23 = .ok (.aload_n 0, 1) := by decide +kernel
theorem dX7_from_24 : decode cX7_from 24 = .ok (.invokevirtual 185, 3) := by decide +kernel
theorem dX7_from_27 : decode cX7_from 27 = .ok (.ireturn, 1) := by decide +kernel
theorem dX7_from_28 : decode cX7_from 28 = .ok (.aload_n 0, 1) := by decide +kernel
theorem dX7_from_29 : decode cX7_from 29 = .ok (.getfield 10, 3) := by decide +kernel
theorem dX7_from_32 : decode cX7_from 32 = .ok (.aload_n 0, 1) := by decide +kernel
theorem dX7_from_33 : decode cX7_from 33 = .ok (.iload_n 1, 1) := by decide +kernel
theorem dX7_from_34 : decode cX7_from 34 = .ok (.invokevirtual 233, 3) := by decide +kernel
theorem dX7_from_37 : decode cX7_from 37 = .ok (.invokevirtual 237, 3) := by decide +kernel
theorem dX7_from_40 : decode cX7_from 40 = .ok (.aload_n 0, 1) := by decide +kernel
theorem dX7_from_41 : decode cX7_from 41 = .ok (.getfield 31, 3) := by decide +kernel
theorem dX7_from_44 : decode cX7_from 44 = .ok (.invokevirtual 122, 3) := by decide +kernel
theorem dX7_from_47 : decode cX7_from 47 = .ok (.aload_n 0, 1) := by decide +kernel
theorem dX7_from_48 : decode cX7_from 48 = .ok (.invokevirtual 101, 3) := by decide +kernel
theorem dX7_from_51 : decode cX7_from 51 = .ok (.iconst 1, 1) := by decide +kernel
theorem dX7_from_52 : decode cX7_from 52 = .ok (.ireturn, 1) := by decide +kernel
theorem dX7_status_0 : decode cX7_status 0 = .ok (.iload_n 1, 1) := by decide +kernel
theorem dX7_status_1 : decode cX7_status 1 = .ok (.tableswitch 42 0 2 #[27, 32, 37], 27) := by decide +kernel
theorem dX7_status_28 : decode cX7_status 28 = .ok (.aload_n 0, 1) := by decide +kernel
theorem dX7_status_29 : decode cX7_status 29 = .ok (.getfield 179, 3) := by decide +kernel
theorem dX7_status_32 : decode cX7_status 32 = .ok (.ireturn, 1) := by decide +kernel
theorem dX7_status_33 : decode cX7_status 33 = .ok (.aload_n 0, 1) := by decide +kernel
theorem dX7_status_34 : decode cX7_status 34 = .ok (.getfield 239, 3) := by decide +kernel
theorem dX7_status_37 : decode cX7_status 37 = .ok (.ireturn, 1) := by decide +kernel
theorem dX7_status_38 : decode cX7_status 38 = .ok (.aload_n 0, 1) := by decide +kernel
theorem dX7_status_39 : decode cX7_status 39 = .ok (.getfield 242, 3) := by decide +kernel
theorem dX7_status_42 : decode cX7_status 42 = .ok (.ireturn, 1) := by decide +kernel
theorem dX7_status_43 : decode cX7_status 43 = .ok (.aload_n 0, 1) := by decide +kernel
theorem dX7_status_44 : decode cX7_status 44 = .ok (.dup, 1) := by decide +kernel
theorem dX7_status_45 : decode cX7_status 45 = .ok (.getfield 179, 3) := by decide +kernel
theorem dX7_status_48 : decode cX7_status 48 = .ok (.iconst 1, 1) := by decide +kernel
theorem dX7_status_49 : decode cX7_status 49 = .ok (.iadd, 1) := by decide +kernel
theorem dX7_status_50 : decode cX7_status 50 = .ok (.putfield 179, 3) := by decide +kernel
theorem dX7_status_53 : decode cX7_status 53 = .ok (.iconst (-1), 1) := by decide +kernel
theorem dX7_status_54 : decode cX7_status 54 = .ok (.ireturn, 1) := by decide +kernel
theorem dX7_count_0 : decode cX7_count 0 = .ok (.iload_n 1, 1) := by decide +kernel
theorem dX7_count_1 : decode cX7_count 1 = .ok (.tableswitch 51 0 2 #[27, 35, 43], 27) := by decide +kernel
theorem dX7_count_28 : decode cX7_count 28 = .ok (.aload_n 0, 1) := by decide +kernel
theorem dX7_count_29 : decode cX7_count 29 = .ok (.getfield 10, 3) := by decide +kernel
theorem dX7_count_32 : decode cX7_count 32 = .ok (.getfield 90, 3) := by decide +kernel
theorem dX7_count_35 : decode cX7_count 35 = .ok (.ireturn, 1) := by decide +kernel
theorem dX7_count_36 : decode cX7_count 36 = .ok (.aload_n 0, 1) := by decide +kernel
theorem dX7_count_37 : decode cX7_count 37 = .ok (.getfield 10, 3) := by decide +kernel
theorem dX7_count_40 : decode cX7_count 40 = .ok (.getfield 115, 3) := by decide +kernel
theorem dX7_count_43 : decode cX7_count 43 = .ok (.ireturn, 1) := by decide +kernel
theorem dX7_count_44 : decode cX7_count 44 = .ok (.aload_n 0, 1) := by decide +kernel
theorem dX7_count_45 : decode cX7_count 45 = .ok (.getfield 10, 3) := by decide +kernel
theorem dX7_count_48 : decode cX7_count 48 = .ok (.getfield 210, 3) := by decide +kernel
theorem dX7_count_51 : decode cX7_count 51 = .ok (.ireturn, 1) := by decide +kernel
theorem dX7_count_52 : decode cX7_count 52 = .ok (.aload_n 0, 1) := by decide +kernel
theorem dX7_count_53 : decode cX7_count 53 = .ok (.invokevirtual 86, 3) := by decide +kernel
theorem dX7_count_56 : decode cX7_count 56 = .ok (.ireturn, 1) := by decide +kernel
theorem dX7_digest_0 : decode cX7_digest 0 = .ok (.aload_n 0, 1) := by decide +kernel
theorem dX7_digest_1 : decode cX7_digest 1 = .ok (.getfield 10, 3) := by decide +kernel
theorem dX7_digest_4 : decode cX7_digest 4 = .ok (.ldc2_w 245, 3) := by decide +kernel
theorem dX7_digest_7 : decode cX7_digest 7 = .ok (.invokevirtual 247, 3) := by decide +kernel
theorem dX7_digest_10 : decode cX7_digest 10 = .ok (.lstore_n 1, 1) := by decide +kernel
theorem dX7_digest_11 : decode cX7_digest 11 = .ok (.ldc2_w 251, 3) := by decide +kernel
theorem dX7_digest_14 : decode cX7_digest 14 = .ok (.lload_n 1, 1) := by decide +kernel
theorem dX7_digest_15 : decode cX7_digest 15 = .ok (.lmul, 1) := by decide +kernel
theorem dX7_digest_16 : decode cX7_digest 16 = .ok (.aload_n 0, 1) := by decide +kernel
theorem dX7_digest_17 : decode cX7_digest 17 = .ok (.getfield 70, 3) := by decide +kernel
theorem dX7_digest_20 : decode cX7_digest 20 = .ok (.getfield 226, 3) := by decide +kernel
theorem dX7_digest_23 : decode cX7_digest 23 = .ok (.ladd, 1) := by decide +kernel
theorem dX7_digest_24 : decode cX7_digest 24 = .ok (.lstore_n 1, 1) := by decide +kernel
theorem dX7_digest_25 : decode cX7_digest 25 = .ok (.ldc2_w 251, 3) := by decide +kernel
theorem dX7_digest_28 : decode cX7_digest 28 = .ok (.lload_n 1, 1) := by decide +kernel
theorem dX7_digest_29 : decode cX7_digest 29 = .ok (.lmul, 1) := by decide +kernel
theorem dX7_digest_30 : decode cX7_digest 30 = .ok (.aload_n 0, 1) := by decide +kernel
theorem dX7_digest_31 : decode cX7_digest 31 = .ok (.getfield 70, 3) := by decide +kernel
theorem dX7_digest_34 : decode cX7_digest 34 = .ok (.getfield 230, 3) := by decide +kernel
theorem dX7_digest_37 : decode cX7_digest 37 = .ok (.ladd, 1) := by decide +kernel
theorem dX7_digest_38 : decode cX7_digest 38 = .ok (.lreturn, 1) := by decide +kernel
theorem dX7_refuseAsBad_0 : decode cX7_refuseAsBad 0 = .ok (.aload_n 0, 1) := by decide +kernel
theorem dX7_refuseAsBad_1 : decode cX7_refuseAsBad 1 = .ok (.dup, 1) := by decide +kernel
theorem dX7_refuseAsBad_2 : decode cX7_refuseAsBad 2 = .ok (.getfield 179, 3) := by decide +kernel
theorem dX7_refuseAsBad_5 : decode cX7_refuseAsBad 5 = .ok (.iconst 1, 1) := by decide +kernel
theorem dX7_refuseAsBad_6 : decode cX7_refuseAsBad 6 = .ok (.iadd, 1) := by decide +kernel
theorem dX7_refuseAsBad_7 : decode cX7_refuseAsBad 7 = .ok (.putfield 179, 3) := by decide +kernel
theorem dX7_refuseAsBad_10 : decode cX7_refuseAsBad 10 = .ok (.bipush (-2), 2) := by decide +kernel
theorem dX7_refuseAsBad_12 : decode cX7_refuseAsBad 12 = .ok (.ireturn, 1) := by decide +kernel
theorem dX7_refuseAsNo_0 : decode cX7_refuseAsNo 0 = .ok (.aload_n 0, 1) := by decide +kernel
theorem dX7_refuseAsNo_1 : decode cX7_refuseAsNo 1 = .ok (.dup, 1) := by decide +kernel
theorem dX7_refuseAsNo_2 : decode cX7_refuseAsNo 2 = .ok (.getfield 239, 3) := by decide +kernel
theorem dX7_refuseAsNo_5 : decode cX7_refuseAsNo 5 = .ok (.iconst 1, 1) := by decide +kernel
theorem dX7_refuseAsNo_6 : decode cX7_refuseAsNo 6 = .ok (.iadd, 1) := by decide +kernel
theorem dX7_refuseAsNo_7 : decode cX7_refuseAsNo 7 = .ok (.putfield 239, 3) := by decide +kernel
theorem dX7_refuseAsNo_10 : decode cX7_refuseAsNo 10 = .ok (.bipush (-3), 2) := by decide +kernel
theorem dX7_refuseAsNo_12 : decode cX7_refuseAsNo 12 = .ok (.ireturn, 1) := by decide +kernel
theorem dX7_refuseAsFull_0 : decode cX7_refuseAsFull 0 = .ok (.aload_n 0, 1) := by decide +kernel
theorem dX7_refuseAsFull_1 : decode cX7_refuseAsFull 1 = .ok (.dup, 1) := by decide +kernel
theorem dX7_refuseAsFull_2 : decode cX7_refuseAsFull 2 = .ok (.getfield 242, 3) := by decide +kernel
theorem dX7_refuseAsFull_5 : decode cX7_refuseAsFull 5 = .ok (.iconst 1, 1) := by decide +kernel
theorem dX7_refuseAsFull_6 : decode cX7_refuseAsFull 6 = .ok (.iadd, 1) := by decide +kernel
theorem dX7_refuseAsFull_7 : decode cX7_refuseAsFull 7 = .ok (.putfield 242, 3) := by decide +kernel
theorem dX7_refuseAsFull_10 : decode cX7_refuseAsFull 10 = .ok (.bipush (-4), 2) := by decide +kernel
theorem dX7_refuseAsFull_12 : decode cX7_refuseAsFull 12 = .ok (.ireturn, 1) := by decide +kernel
theorem dX7_isWithin_0 : decode cX7_isWithin 0 = .ok (.iload_n 0, 1) := by decide +kernel
theorem dX7_isWithin_1 : decode cX7_isWithin 1 = .ok (.iload_n 1, 1) := by decide +kernel
theorem dX7_isWithin_2 : decode cX7_isWithin 2 = .ok (.if_icmp .lt 12, 3) := by decide +kernel
theorem dX7_isWithin_5 : decode cX7_isWithin 5 = .ok (.iload_n 0, 1) := by decide +kernel
theorem dX7_isWithin_6 : decode cX7_isWithin 6 = .ok (.iload_n 2, 1) := by decide +kernel
theorem dX7_isWithin_7 : decode cX7_isWithin 7 = .ok (.if_icmp .gt 7, 3) := by decide +kernel
theorem dX7_isWithin_10 : decode cX7_isWithin 10 = .ok (.iconst 1, 1) := by decide +kernel
theorem dX7_isWithin_11 : decode cX7_isWithin 11 = .ok (.goto 4, 3) := by decide +kernel
theorem dX7_isWithin_14 : decode cX7_isWithin 14 = .ok (.iconst 0, 1) := by decide +kernel
theorem dX7_isWithin_15 : decode cX7_isWithin 15 = .ok (.ireturn, 1) := by decide +kernel
theorem dX7_isSetOf_0 : decode cX7_isSetOf 0 = .ok (.iload_n 0, 1) := by decide +kernel
theorem dX7_isSetOf_1 : decode cX7_isSetOf 1 = .ok (.ifCond .lt 14, 3) := by decide +kernel
theorem dX7_isSetOf_4 : decode cX7_isSetOf 4 = .ok (.iload_n 0, 1) := by decide +kernel
theorem dX7_isSetOf_5 : decode cX7_isSetOf 5 = .ok (.iconst 1, 1) := by decide +kernel
theorem dX7_isSetOf_6 : decode cX7_isSetOf 6 = .ok (.iload_n 1, 1) := by decide +kernel
theorem dX7_isSetOf_7 : decode cX7_isSetOf 7 = .ok (.ishl, 1) := by decide +kernel
theorem dX7_isSetOf_8 : decode cX7_isSetOf 8 = .ok (.if_icmp .ge 7, 3) := by decide +kernel
theorem dX7_isSetOf_11 : decode cX7_isSetOf 11 = .ok (.iconst 1, 1) := by decide +kernel
theorem dX7_isSetOf_12 : decode cX7_isSetOf 12 = .ok (.goto 4, 3) := by decide +kernel
theorem dX7_isSetOf_15 : decode cX7_isSetOf 15 = .ok (.iconst 0, 1) := by decide +kernel
theorem dX7_isSetOf_16 : decode cX7_isSetOf 16 = .ok (.ireturn, 1) := by decide +kernel
theorem dX7_holds_0 : decode cX7_holds 0 = .ok (.iload_n 0, 1) := by decide +kernel
theorem dX7_holds_1 : decode cX7_holds 1 = .ok (.iload_n 1, 1) := by decide +kernel
theorem dX7_holds_2 : decode cX7_holds 2 = .ok (.ishr, 1) := by decide +kernel
theorem dX7_holds_3 : decode cX7_holds 3 = .ok (.iconst 1, 1) := by decide +kernel
theorem dX7_holds_4 : decode cX7_holds 4 = .ok (.iand, 1) := by decide +kernel
theorem dX7_holds_5 : decode cX7_holds 5 = .ok (.ifCond .eq 7, 3) := by decide +kernel
theorem dX7_holds_8 : decode cX7_holds 8 = .ok (.iconst 1, 1) := by decide +kernel
theorem dX7_holds_9 : decode cX7_holds 9 = .ok (.goto 4, 3) := by decide +kernel
theorem dX7_holds_12 : decode cX7_holds 12 = .ok (.iconst 0, 1) := by decide +kernel
theorem dX7_holds_13 : decode cX7_holds 13 = .ok (.ireturn, 1) := by decide +kernel
theorem dX7_isWalker_0 : decode cX7_isWalker 0 = .ok (.iload_n 1, 1) := by decide +kernel
theorem dX7_isWalker_1 : decode cX7_isWalker 1 = .ok (.ifCond .lt 24, 3) := by decide +kernel
theorem dX7_isWalker_4 : decode cX7_isWalker 4 = .ok (.iload_n 1, 1) := by decide +kernel
theorem dX7_isWalker_5 : decode cX7_isWalker 5 = .ok (.aload_n 0, 1) := by decide +kernel
theorem dX7_isWalker_6 : decode cX7_isWalker 6 = .ok (.getfield 10, 3) := by decide +kernel

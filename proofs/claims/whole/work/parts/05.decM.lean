theorem dX12_init_0 : decode cX12_init 0 = .ok (.aload_n 0, 1) := by decide +kernel
theorem dX12_init_1 : decode cX12_init 1 = .ok (.invokespecial 1, 3) := by decide +kernel
theorem dX12_init_4 : decode cX12_init 4 = .ok (.aload_n 0, 1) := by decide +kernel
theorem dX12_init_5 : decode cX12_init 5 = .ok (.sipush 581, 3) := by decide +kernel
theorem dX12_init_8 : decode cX12_init 8 = .ok (.newarray .int, 2) := by decide +kernel
theorem dX12_init_10 : decode cX12_init 10 = .ok (.putfield 7, 3) := by decide +kernel
theorem dX12_init_13 : decode cX12_init 13 = .ok (.aload_n 0, 1) := by decide +kernel
theorem dX12_init_14 : decode cX12_init 14 = .ok (.sipush 581, 3) := by decide +kernel
theorem dX12_init_17 : decode cX12_init 17 = .ok (.newarray .int, 2) := by decide +kernel
theorem dX12_init_19 : decode cX12_init 19 = .ok (.putfield 13, 3) := by decide +kernel
theorem dX12_init_22 : decode cX12_init 22 = .ok (.aload_n 0, 1) := by decide +kernel
theorem dX12_init_23 : decode cX12_init 23 = .ok (.sipush 581, 3) := by decide +kernel
theorem dX12_init_26 : decode cX12_init 26 = .ok (.newarray .int, 2) := by decide +kernel
theorem dX12_init_28 : decode cX12_init 28 = .ok (.putfield 16, 3) := by decide +kernel
theorem dX12_init_31 : decode cX12_init 31 = .ok (.aload_n 0, 1) := by decide +kernel
theorem dX12_init_32 : decode cX12_init 32 = .ok (.sipush 5810, 3) := by decide +kernel
theorem dX12_init_35 : decode cX12_init 35 = .ok (.newarray .int, 2) := by decide +kernel
theorem dX12_init_37 : decode cX12_init 37 = .ok (.putfield 19, 3) := by decide +kernel
theorem dX12_init_40 : decode cX12_init 40 = .ok (.aload_n 0, 1) := by decide +kernel
theorem dX12_init_41 : decode cX12_init 41 = .ok (.bipush 64, 2) := by decide +kernel
theorem dX12_init_43 : decode cX12_init 43 = .ok (.newarray .int, 2) := by decide +kernel
theorem dX12_init_45 : decode cX12_init 45 = .ok (.putfield 22, 3) := by decide +kernel
theorem dX12_init_48 : decode cX12_init 48 = .ok (.aload_n 0, 1) := by decide +kernel
theorem dX12_init_49 : decode cX12_init 49 = .ok (.iconst 4, 1) := by decide +kernel
theorem dX12_init_50 : decode cX12_init 50 = .ok (.newarray .int, 2) := by decide +kernel
theorem dX12_init_52 : decode cX12_init 52 = .ok (.putfield 25, 3) := by decide +kernel
theorem dX12_init_55 : decode cX12_init 55 = .ok (.aload_n 0, 1) := by decide +kernel
theorem dX12_init_56 : decode cX12_init 56 = .ok (.iconst 4, 1) := by decide +kernel
theorem dX12_init_57 : decode cX12_init 57 = .ok (.newarray .int, 2) := by decide +kernel
theorem dX12_init_59 : decode cX12_init 59 = .ok (.putfield 28, 3) := by decide +kernel
theorem dX12_init_62 : decode cX12_init 62 = .ok (.aload_n 0, 1) := by decide +kernel
theorem dX12_init_63 : decode cX12_init 63 = .ok (.iconst 4, 1) := by decide +kernel
theorem dX12_init_64 : decode cX12_init 64 = .ok (.newarray .int, 2) := by decide +kernel
theorem dX12_init_66 : decode cX12_init 66 = .ok (.putfield 31, 3) := by decide +kernel
theorem dX12_init_69 : decode cX12_init 69 = .ok (.aload_n 0, 1) := by decide +kernel
theorem dX12_init_70 : decode cX12_init 70 = .ok (.bipush 64, 2) := by decide +kernel
theorem dX12_init_72 : decode cX12_init 72 = .ok (.newarray .int, 2) := by decide +kernel
theorem dX12_init_74 : decode cX12_init 74 = .ok (.putfield 34, 3) := by decide +kernel
theorem dX12_init_77 : decode cX12_init 77 = .ok (.aload_n 0, 1) := by decide +kernel
theorem dX12_init_78 : decode cX12_init 78 = .ok (.iconst 4, 1) := by decide +kernel
theorem dX12_init_79 : decode cX12_init 79 = .ok (.newarray .int, 2) := by decide +kernel
theorem dX12_init_81 : decode cX12_init 81 = .ok (.putfield 37, 3) := by decide +kernel
theorem dX12_init_84 : decode cX12_init 84 = .ok (.aload_n 0, 1) := by decide +kernel
theorem dX12_init_85 : decode cX12_init 85 = .ok (.iconst 4, 1) := by decide +kernel
theorem dX12_init_86 : decode cX12_init 86 = .ok (.newarray .int, 2) := by decide +kernel
theorem dX12_init_88 : decode cX12_init 88 = .ok (.putfield 40, 3) := by decide +kernel
theorem dX12_init_91 : decode cX12_init 91 = .ok (.aload_n 0, 1) := by decide +kernel
theorem dX12_init_92 : decode cX12_init 92 = .ok (.sipush 800, 3) := by decide +kernel
theorem dX12_init_95 : decode cX12_init 95 = .ok (.newarray .int, 2) := by decide +kernel
theorem dX12_init_97 : decode cX12_init 97 = .ok (.putfield 43, 3) := by decide +kernel
theorem dX12_init_100 : decode cX12_init 100 = .ok (.aload_n 0, 1) := by decide +kernel
theorem dX12_init_101 : decode cX12_init 101 = .ok (.iconst (-1), 1) := by decide +kernel
theorem dX12_init_102 : decode cX12_init 102 = .ok (.putfield 46, 3) := by decide +kernel
theorem dX12_init_105 : decode cX12_init 105 = .ok (.aload_n 0, 1) := by decide +kernel
theorem dX12_init_106 : decode cX12_init 106 = .ok (.bipush 14, 2) := by decide +kernel
theorem dX12_init_108 : decode cX12_init 108 = .ok (.newarray .int, 2) := by decide +kernel
theorem dX12_init_110 : decode cX12_init 110 = .ok (.putfield 50, 3) := by decide +kernel
theorem dX12_init_113 : decode cX12_init 113 = .ok (.aload_n 0, 1) := by decide +kernel
theorem dX12_init_114 : decode cX12_init 114 = .ok (.bipush 14, 2) := by decide +kernel
theorem dX12_init_116 : decode cX12_init 116 = .ok (.newarray .int, 2) := by decide +kernel
theorem dX12_init_118 : decode cX12_init 118 = .ok (.putfield 53, 3) := by decide +kernel
theorem dX12_init_121 : decode cX12_init 121 = .ok (.aload_n 0, 1) := by decide +kernel
theorem dX12_init_122 : decode cX12_init 122 = .ok (.bipush 14, 2) := by decide +kernel
theorem dX12_init_124 : decode cX12_init 124 = .ok (.newarray .int, 2) := by decide +kernel
theorem dX12_init_126 : decode cX12_init 126 = .ok (.putfield 56, 3) := by decide +kernel
theorem dX12_init_129 : decode cX12_init 129 = .ok (.aload_n 0, 1) := by decide +kernel
theorem dX12_init_130 : decode cX12_init 130 = .ok (.bipush 14, 2) := by decide +kernel
theorem dX12_init_132 : decode cX12_init 132 = .ok (.newarray .int, 2) := by decide +kernel
theorem dX12_init_134 : decode cX12_init 134 = .ok (.putfield 59, 3) := by decide +kernel
theorem dX12_init_137 : decode cX12_init 137 = .ok (.aload_n 0, 1) := by decide +kernel
theorem dX12_init_138 : decode cX12_init 138 = .ok (.bipush 14, 2) := by decide +kernel
theorem dX12_init_140 : decode cX12_init 140 = .ok (.newarray .int, 2) := by decide +kernel
theorem dX12_init_142 : decode cX12_init 142 = .ok (.putfield 62, 3) := by decide +kernel
theorem dX12_init_145 : decode cX12_init 145 = .ok (.aload_n 0, 1) := by decide +kernel
theorem dX12_init_146 : decode cX12_init 146 = .ok (.bipush 14, 2) := by decide +kernel
theorem dX12_init_148 : decode cX12_init 148 = .ok (.newarray .int, 2) := by decide +kernel
theorem dX12_init_150 : decode cX12_init 150 = .ok (.putfield 65, 3) := by decide +kernel
theorem dX12_init_153 : decode cX12_init 153 = .ok (.aload_n 0, 1) := by decide +kernel
theorem dX12_init_154 : decode cX12_init 154 = .ok (.bipush 24, 2) := by decide +kernel
theorem dX12_init_156 : decode cX12_init 156 = .ok (.newarray .int, 2) := by decide +kernel
theorem dX12_init_158 : decode cX12_init 158 = .ok (.putfield 68, 3) := by decide +kernel
theorem dX12_init_161 : decode cX12_init 161 = .ok (.aload_n 0, 1) := by decide +kernel
theorem dX12_init_162 : decode cX12_init 162 = .ok (.bipush 40, 2) := by decide +kernel
theorem dX12_init_164 : decode cX12_init 164 = .ok (.newarray .int, 2) := by decide +kernel
theorem dX12_init_166 : decode cX12_init 166 = .ok (.putfield 71, 3) := by decide +kernel
theorem dX12_init_169 : decode cX12_init 169 = .ok (.aload_n 0, 1) := by decide +kernel
theorem dX12_init_170 : decode cX12_init 170 = .ok (.bipush 120, 2) := by decide +kernel
theorem dX12_init_172 : decode cX12_init 172 = .ok (.newarray .byte, 2) := by decide +kernel
theorem dX12_init_174 : decode cX12_init 174 = .ok (.putfield 74, 3) := by decide +kernel
theorem dX12_init_177 : decode cX12_init 177 = .ok (.aload_n 0, 1) := by decide +kernel
theorem dX12_init_178 : decode cX12_init 178 = .ok (.sipush 200, 3) := by decide +kernel
theorem dX12_init_181 : decode cX12_init 181 = .ok (.newarray .int, 2) := by decide +kernel
theorem dX12_init_183 : decode cX12_init 183 = .ok (.putfield 78, 3) := by decide +kernel
theorem dX12_init_186 : decode cX12_init 186 = .ok (.aload_n 0, 1) := by decide +kernel
theorem dX12_init_187 : decode cX12_init 187 = .ok (.sipush 200, 3) := by decide +kernel
theorem dX12_init_190 : decode cX12_init 190 = .ok (.newarray .int, 2) := by decide +kernel
theorem dX12_init_192 : decode cX12_init 192 = .ok (.putfield 81, 3) := by decide +kernel
theorem dX12_init_195 : decode cX12_init 195 = .ok (.aload_n 0, 1) := by decide +kernel
theorem dX12_init_196 : decode cX12_init 196 = .ok (.sipush 200, 3) := by decide +kernel
theorem dX12_init_199 : decode cX12_init 199 = .ok (.newarray .int, 2) := by decide +kernel
theorem dX12_init_201 : decode cX12_init 201 = .ok (.putfield 84, 3) := by decide +kernel
theorem dX12_init_204 : decode cX12_init 204 = .ok (.aload_n 0, 1) := by decide +kernel
theorem dX12_init_205 : decode cX12_init 205 = .ok (.iconst 2, 1) := by decide +kernel
theorem dX12_init_206 : decode cX12_init 206 = .ok (.invokevirtual 87, 3) := by decide +kernel
theorem dX12_init_209 : decode cX12_init 209 = .ok (.aload_n 0, 1) := by decide +kernel
theorem dX12_init_210 : decode cX12_init 210 = .ok (.invokevirtual 90, 3) := by decide +kernel
theorem dX12_init_213 : decode cX12_init 213 = .ok (.return_, 1) := by decide +kernel
theorem dX12_thrown_0 : decode cX12_thrown 0 = .ok (.aload_n 0, 1) := by decide +kernel
theorem dX12_thrown_1 : decode cX12_thrown 1 = .ok (.getfield 93, 3) := by decide +kernel
theorem dX12_thrown_4 : decode cX12_thrown 4 = .ok (.ireturn, 1) := by decide +kernel
theorem dX12_in_0 : decode cX12_in 0 = .ok (.lload_n 0, 1) := by decide +kernel
theorem dX12_in_1 : decode cX12_in 1 = .ok (.lload_n 2, 1) := by decide +kernel
theorem dX12_in_2 : decode cX12_in 2 = .ok (.lcmp, 1) := by decide +kernel
theorem dX12_in_3 : decode cX12_in 3 = .ok (.ifCond .lt 14, 3) := by decide +kernel
theorem dX12_in_6 : decode cX12_in 6 = .ok (.lload_n 0, 1) := by decide +kernel
theorem dX12_in_7 : decode cX12_in 7 = .ok (.lload 4, 2) := by decide +kernel
theorem dX12_in_9 : decode cX12_in 9 = .ok (.lcmp, 1) := by decide +kernel
theorem dX12_in_10 : decode cX12_in 10 = .ok (.ifCond .gt 7, 3) := by decide +kernel
theorem dX12_in_13 : decode cX12_in 13 = .ok (.iconst 1, 1) := by decide +kernel
theorem dX12_in_14 : decode cX12_in 14 = .ok (.goto 4, 3) := by decide +kernel
theorem dX12_in_17 : decode cX12_in 17 = .ok (.iconst 0, 1) := by decide +kernel
theorem dX12_in_18 : decode cX12_in 18 = .ok (.ireturn, 1) := by decide +kernel
theorem dX12_fails_0 : decode cX12_fails 0 = .ok (.iload_n 1, 1) := by decide +kernel
theorem dX12_fails_1 : decode cX12_fails 1 = .ok (.ifCond .eq 5, 3) := by decide +kernel
theorem dX12_fails_4 : decode cX12_fails 4 = .ok (.iconst 0, 1) := by decide +kernel
theorem dX12_fails_5 : decode cX12_fails 5 = .ok (.ireturn, 1) := by decide +kernel
theorem dX12_fails_6 : decode cX12_fails 6 = .ok (.aload_n 0, 1) := by decide +kernel
theorem dX12_fails_7 : decode cX12_fails 7 = .ok (.iload_n 2, 1) := by decide +kernel
theorem dX12_fails_8 : decode cX12_fails 8 = .ok (.putfield 93, 3) := by decide +kernel
theorem dX12_fails_11 : decode cX12_fails 11 = .ok (.iconst 1, 1) := by decide +kernel
theorem dX12_fails_12 : decode cX12_fails 12 = .ok (.ireturn, 1) := by decide +kernel
theorem dX12_greater_0 : decode cX12_greater 0 = .ok (.iload_n 0, 1) := by decide +kernel
theorem dX12_greater_1 : decode cX12_greater 1 = .ok (.iload_n 1, 1) := by decide +kernel
theorem dX12_greater_2 : decode cX12_greater 2 = .ok (.if_icmp .le 7, 3) := by decide +kernel
theorem dX12_greater_5 : decode cX12_greater 5 = .ok (.iload_n 0, 1) := by decide +kernel
theorem dX12_greater_6 : decode cX12_greater 6 = .ok (.goto 4, 3) := by decide +kernel
theorem dX12_greater_9 : decode cX12_greater 9 = .ok (.iload_n 1, 1) := by decide +kernel
theorem dX12_greater_10 : decode cX12_greater 10 = .ok (.ireturn, 1) := by decide +kernel
theorem dX12_lesser_0 : decode cX12_lesser 0 = .ok (.iload_n 0, 1) := by decide +kernel
theorem dX12_lesser_1 : decode cX12_lesser 1 = .ok (.iload_n 1, 1) := by decide +kernel
theorem dX12_lesser_2 : decode cX12_lesser 2 = .ok (.if_icmp .ge 7, 3) := by decide +kernel
theorem dX12_lesser_5 : decode cX12_lesser 5 = .ok (.iload_n 0, 1) := by decide +kernel
theorem dX12_lesser_6 : decode cX12_lesser 6 = .ok (.goto 4, 3) := by decide +kernel
theorem dX12_lesser_9 : decode cX12_lesser 9 = .ok (.iload_n 1, 1) := by decide +kernel
theorem dX12_lesser_10 : decode cX12_lesser 10 = .ok (.ireturn, 1) := by decide +kernel
theorem dX12_begins_0 : decode cX12_begins 0 = .ok (.aload_n 0, 1) := by decide +kernel
theorem dX12_begins_1 : decode cX12_begins 1 = .ok (.iload_n 1, 1) := by decide +kernel
theorem dX12_begins_2 : decode cX12_begins 2 = .ok (.putfield 96, 3) := by decide +kernel
theorem dX12_begins_5 : decode cX12_begins 5 = .ok (.aload_n 0, 1) := by decide +kernel
theorem dX12_begins_6 : decode cX12_begins 6 = .ok (.iconst 0, 1) := by decide +kernel
theorem dX12_begins_7 : decode cX12_begins 7 = .ok (.putfield 99, 3) := by decide +kernel
theorem dX12_begins_10 : decode cX12_begins 10 = .ok (.aload_n 0, 1) := by decide +kernel
theorem dX12_begins_11 : decode cX12_begins 11 = .ok (.iconst 0, 1) := by decide +kernel
theorem dX12_begins_12 : decode cX12_begins 12 = .ok (.putfield 102, 3) := by decide +kernel
theorem dX12_begins_15 : decode cX12_begins 15 = .ok (.aload_n 0, 1) := by decide +kernel
theorem dX12_begins_16 : decode cX12_begins 16 = .ok (.iconst 0, 1) := by decide +kernel
theorem dX12_begins_17 : decode cX12_begins 17 = .ok (.putfield 105, 3) := by decide +kernel
theorem dX12_begins_20 : decode cX12_begins 20 = .ok (.iconst 0, 1) := by decide +kernel
theorem dX12_begins_21 : decode cX12_begins 21 = .ok (.istore_n 2, 1) := by decide +kernel
theorem dX12_begins_22 : decode cX12_begins 22 = .ok (.iload_n 2, 1) := by decide +kernel
theorem dX12_begins_23 : decode cX12_begins 23 = .ok (.bipush 64, 2) := by decide +kernel
theorem dX12_begins_25 : decode cX12_begins 25 = .ok (.if_icmp .ge 16, 3) := by decide +kernel
theorem dX12_begins_28 : decode cX12_begins 28 = .ok (.aload_n 0, 1) := by decide +kernel
theorem dX12_begins_29 : decode cX12_begins 29 = .ok (.getfield 22, 3) := by decide +kernel
theorem dX12_begins_32 : decode cX12_begins 32 = .ok (.iload_n 2, 1) := by decide +kernel
theorem dX12_begins_33 : decode cX12_begins 33 = .ok (.iconst (-1), 1) := by decide +kernel
theorem dX12_begins_34 : decode cX12_begins 34 = .ok (.iastore, 1) := by decide +kernel
theorem dX12_begins_35 : decode cX12_begins 35 = .ok (.iinc 2 1, 3) := by decide +kernel
theorem dX12_begins_38 : decode cX12_begins 38 = .ok (.goto (-16), 3) := by decide +kernel
theorem dX12_begins_41 : decode cX12_begins 41 = .ok (.iconst 0, 1) := by decide +kernel
theorem dX12_begins_42 : decode cX12_begins 42 = .ok (.istore_n 2, 1) := by decide +kernel
theorem dX12_begins_43 : decode cX12_begins 43 = .ok (.iload_n 2, 1) := by decide +kernel
theorem dX12_begins_44 : decode cX12_begins 44 = .ok (.sipush 581, 3) := by decide +kernel
theorem dX12_begins_47 : decode cX12_begins 47 = .ok (.if_icmp .ge 16, 3) := by decide +kernel
theorem dX12_begins_50 : decode cX12_begins 50 = .ok (.aload_n 0, 1) := by decide +kernel
theorem dX12_begins_51 : decode cX12_begins 51 = .ok (.getfield 13, 3) := by decide +kernel
theorem dX12_begins_54 : decode cX12_begins 54 = .ok (.iload_n 2, 1) := by decide +kernel
theorem dX12_begins_55 : decode cX12_begins 55 = .ok (.iconst 0, 1) := by decide +kernel
theorem dX12_begins_56 : decode cX12_begins 56 = .ok (.iastore, 1) := by decide +kernel
theorem dX12_begins_57 : decode cX12_begins 57 = .ok (.iinc 2 1, 3) := by decide +kernel
theorem dX12_begins_60 : decode cX12_begins 60 = .ok (.goto (-17), 3) := by decide +kernel
theorem dX12_begins_63 : decode cX12_begins 63 = .ok (.aload_n 0, 1) := by decide +kernel
theorem dX12_begins_64 : decode cX12_begins 64 = .ok (.getfield 13, 3) := by decide +kernel
theorem dX12_begins_67 : decode cX12_begins 67 = .ok (.iconst 3, 1) := by decide +kernel
theorem dX12_begins_68 : decode cX12_begins 68 = .ok (.bipush 15, 2) := by decide +kernel
theorem dX12_begins_70 : decode cX12_begins 70 = .ok (.iastore, 1) := by decide +kernel
theorem dX12_begins_71 : decode cX12_begins 71 = .ok (.aload_n 0, 1) := by decide +kernel
theorem dX12_begins_72 : decode cX12_begins 72 = .ok (.getfield 13, 3) := by decide +kernel
theorem dX12_begins_75 : decode cX12_begins 75 = .ok (.iconst 4, 1) := by decide +kernel
theorem dX12_begins_76 : decode cX12_begins 76 = .ok (.iconst 1, 1) := by decide +kernel
theorem dX12_begins_77 : decode cX12_begins 77 = .ok (.iastore, 1) := by decide +kernel
theorem dX12_begins_78 : decode cX12_begins 78 = .ok (.aload_n 0, 1) := by decide +kernel
theorem dX12_begins_79 : decode cX12_begins 79 = .ok (.getfield 13, 3) := by decide +kernel
theorem dX12_begins_82 : decode cX12_begins 82 = .ok (.iconst 5, 1) := by decide +kernel
theorem dX12_begins_83 : decode cX12_begins 83 = .ok (.iconst 5, 1) := by decide +kernel
theorem dX12_begins_84 : decode cX12_begins 84 = .ok (.iastore, 1) := by decide +kernel
theorem dX12_begins_85 : decode cX12_begins 85 = .ok (.aload_n 0, 1) := by decide +kernel
theorem dX12_begins_86 : decode cX12_begins 86 = .ok (.getfield 13, 3) := by decide +kernel
theorem dX12_begins_89 : decode cX12_begins 89 = .ok (.bipush 6, 2) := by decide +kernel
theorem dX12_begins_91 : decode cX12_begins 91 = .ok (.iconst 3, 1) := by decide +kernel
theorem dX12_begins_92 : decode cX12_begins 92 = .ok (.iastore, 1) := by decide +kernel
theorem dX12_begins_93 : decode cX12_begins 93 = .ok (.aload_n 0, 1) := by decide +kernel
theorem dX12_begins_94 : decode cX12_begins 94 = .ok (.getfield 13, 3) := by decide +kernel
theorem dX12_begins_97 : decode cX12_begins 97 = .ok (.bipush 8, 2) := by decide +kernel
theorem dX12_begins_99 : decode cX12_begins 99 = .ok (.sipush 240, 3) := by decide +kernel
theorem dX12_begins_102 : decode cX12_begins 102 = .ok (.iastore, 1) := by decide +kernel
theorem dX12_begins_103 : decode cX12_begins 103 = .ok (.aload_n 0, 1) := by decide +kernel
theorem dX12_begins_104 : decode cX12_begins 104 = .ok (.getfield 13, 3) := by decide +kernel
theorem dX12_begins_107 : decode cX12_begins 107 = .ok (.bipush 9, 2) := by decide +kernel
theorem dX12_begins_109 : decode cX12_begins 109 = .ok (.bipush 30, 2) := by decide +kernel
theorem dX12_begins_111 : decode cX12_begins 111 = .ok (.iastore, 1) := by decide +kernel
theorem dX12_begins_112 : decode cX12_begins 112 = .ok (.return_, 1) := by decide +kernel
theorem dX12_becomes_0 : decode cX12_becomes 0 = .ok (.aload_n 0, 1) := by decide +kernel
theorem dX12_becomes_1 : decode cX12_becomes 1 = .ok (.aload_n 0, 1) := by decide +kernel
theorem dX12_becomes_2 : decode cX12_becomes 2 = .ok (.getfield 96, 3) := by decide +kernel
theorem dX12_becomes_5 : decode cX12_becomes 5 = .ok (.putfield 108, 3) := by decide +kernel
theorem dX12_becomes_8 : decode cX12_becomes 8 = .ok (.aload_n 0, 1) := by decide +kernel
theorem dX12_becomes_9 : decode cX12_becomes 9 = .ok (.aload_n 0, 1) := by decide +kernel
theorem dX12_becomes_10 : decode cX12_becomes 10 = .ok (.getfield 99, 3) := by decide +kernel
theorem dX12_becomes_13 : decode cX12_becomes 13 = .ok (.putfield 111, 3) := by decide +kernel
theorem dX12_becomes_16 : decode cX12_becomes 16 = .ok (.aload_n 0, 1) := by decide +kernel
theorem dX12_becomes_17 : decode cX12_becomes 17 = .ok (.aload_n 0, 1) := by decide +kernel
theorem dX12_becomes_18 : decode cX12_becomes 18 = .ok (.getfield 102, 3) := by decide +kernel
theorem dX12_becomes_21 : decode cX12_becomes 21 = .ok (.putfield 114, 3) := by decide +kernel
theorem dX12_becomes_24 : decode cX12_becomes 24 = .ok (.aload_n 0, 1) := by decide +kernel
theorem dX12_becomes_25 : decode cX12_becomes 25 = .ok (.aload_n 0, 1) := by decide +kernel
theorem dX12_becomes_26 : decode cX12_becomes 26 = .ok (.getfield 105, 3) := by decide +kernel
theorem dX12_becomes_29 : decode cX12_becomes 29 = .ok (.putfield 117, 3) := by decide +kernel
theorem dX12_becomes_32 : decode cX12_becomes 32 = .ok (.iconst 0, 1) := by decide +kernel
theorem dX12_becomes_33 : decode cX12_becomes 33 = .ok (.istore_n 1, 1) := by decide +kernel
theorem dX12_becomes_34 : decode cX12_becomes 34 = .ok (.iload_n 1, 1) := by decide +kernel
theorem dX12_becomes_35 : decode cX12_becomes 35 = .ok (.bipush 64, 2) := by decide +kernel
theorem dX12_becomes_37 : decode cX12_becomes 37 = .ok (.if_icmp .ge 36, 3) := by decide +kernel
theorem dX12_becomes_40 : decode cX12_becomes 40 = .ok (.aload_n 0, 1) := by decide +kernel
theorem dX12_becomes_41 : decode cX12_becomes 41 = .ok (.getfield 34, 3) := by decide +kernel
theorem dX12_becomes_44 : decode cX12_becomes 44 = .ok (.iload_n 1, 1) := by decide +kernel
theorem dX12_becomes_45 : decode cX12_becomes 45 = .ok (.iload_n 1, 1) := by decide +kernel
theorem dX12_becomes_46 : decode cX12_becomes 46 = .ok (.bipush 8, 2) := by decide +kernel
theorem dX12_becomes_48 : decode cX12_becomes 48 = .ok (.idiv, 1) := by decide +kernel
theorem dX12_becomes_49 : decode cX12_becomes 49 = .ok (.iload_n 1, 1) := by decide +kernel
theorem dX12_becomes_50 : decode cX12_becomes 50 = .ok (.bipush 8, 2) := by decide +kernel
theorem dX12_becomes_52 : decode cX12_becomes 52 = .ok (.irem, 1) := by decide +kernel
theorem dX12_becomes_53 : decode cX12_becomes 53 = .ok (.if_icmp .ne 7, 3) := by decide +kernel
theorem dX12_becomes_56 : decode cX12_becomes 56 = .ok (.iconst 0, 1) := by decide +kernel
theorem dX12_becomes_57 : decode cX12_becomes 57 = .ok (.goto 9, 3) := by decide +kernel
theorem dX12_becomes_60 : decode cX12_becomes 60 = .ok (.aload_n 0, 1) := by decide +kernel
theorem dX12_becomes_61 : decode cX12_becomes 61 = .ok (.getfield 22, 3) := by decide +kernel
theorem dX12_becomes_64 : decode cX12_becomes 64 = .ok (.iload_n 1, 1) := by decide +kernel
theorem dX12_becomes_65 : decode cX12_becomes 65 = .ok (.iaload, 1) := by decide +kernel
theorem dX12_becomes_66 : decode cX12_becomes 66 = .ok (.iastore, 1) := by decide +kernel
theorem dX12_becomes_67 : decode cX12_becomes 67 = .ok (.iinc 1 1, 3) := by decide +kernel
theorem dX12_becomes_70 : decode cX12_becomes 70 = .ok (.goto (-36), 3) := by decide +kernel
theorem dX12_becomes_73 : decode cX12_becomes 73 = .ok (.iconst 0, 1) := by decide +kernel
theorem dX12_becomes_74 : decode cX12_becomes 74 = .ok (.istore_n 1, 1) := by decide +kernel
theorem dX12_becomes_75 : decode cX12_becomes 75 = .ok (.iload_n 1, 1) := by decide +kernel
theorem dX12_becomes_76 : decode cX12_becomes 76 = .ok (.iconst 4, 1) := by decide +kernel
theorem dX12_becomes_77 : decode cX12_becomes 77 = .ok (.if_icmp .ge 33, 3) := by decide +kernel
theorem dX12_becomes_80 : decode cX12_becomes 80 = .ok (.aload_n 0, 1) := by decide +kernel
theorem dX12_becomes_81 : decode cX12_becomes 81 = .ok (.getfield 37, 3) := by decide +kernel
theorem dX12_becomes_84 : decode cX12_becomes 84 = .ok (.iload_n 1, 1) := by decide +kernel
theorem dX12_becomes_85 : decode cX12_becomes 85 = .ok (.aload_n 0, 1) := by decide +kernel
theorem dX12_becomes_86 : decode cX12_becomes 86 = .ok (.getfield 25, 3) := by decide +kernel
theorem dX12_becomes_89 : decode cX12_becomes 89 = .ok (.iload_n 1, 1) := by decide +kernel
theorem dX12_becomes_90 : decode cX12_becomes 90 = .ok (.iaload, 1) := by decide +kernel
theorem dX12_becomes_91 : decode cX12_becomes 91 = .ok (.iastore, 1) := by decide +kernel
theorem dX12_becomes_92 : decode cX12_becomes 92 = .ok (.aload_n 0, 1) := by decide +kernel
theorem dX12_becomes_93 : decode cX12_becomes 93 = .ok (.getfield 40, 3) := by decide +kernel
theorem dX12_becomes_96 : decode cX12_becomes 96 = .ok (.iload_n 1, 1) := by decide +kernel
theorem dX12_becomes_97 : decode cX12_becomes 97 = .ok (.aload_n 0, 1) := by decide +kernel
theorem dX12_becomes_98 : decode cX12_becomes 98 = .ok (.getfield 28, 3) := by decide +kernel
theorem dX12_becomes_101 : decode cX12_becomes 101 = .ok (.iload_n 1, 1) := by decide +kernel
theorem dX12_becomes_102 : decode cX12_becomes 102 = .ok (.iaload, 1) := by decide +kernel
theorem dX12_becomes_103 : decode cX12_becomes 103 = .ok (.iastore, 1) := by decide +kernel
theorem dX12_becomes_104 : decode cX12_becomes 104 = .ok (.iinc 1 1, 3) := by decide +kernel
theorem dX12_becomes_107 : decode cX12_becomes 107 = .ok (.goto (-32), 3) := by decide +kernel
theorem dX12_becomes_110 : decode cX12_becomes 110 = .ok (.iconst 0, 1) := by decide +kernel
theorem dX12_becomes_111 : decode cX12_becomes 111 = .ok (.istore_n 1, 1) := by decide +kernel
theorem dX12_becomes_112 : decode cX12_becomes 112 = .ok (.iload_n 1, 1) := by decide +kernel
theorem dX12_becomes_113 : decode cX12_becomes 113 = .ok (.sipush 581, 3) := by decide +kernel
theorem dX12_becomes_116 : decode cX12_becomes 116 = .ok (.if_icmp .ge 21, 3) := by decide +kernel
theorem dX12_becomes_119 : decode cX12_becomes 119 = .ok (.aload_n 0, 1) := by decide +kernel
theorem dX12_becomes_120 : decode cX12_becomes 120 = .ok (.getfield 7, 3) := by decide +kernel
theorem dX12_becomes_123 : decode cX12_becomes 123 = .ok (.iload_n 1, 1) := by decide +kernel
theorem dX12_becomes_124 : decode cX12_becomes 124 = .ok (.aload_n 0, 1) := by decide +kernel
theorem dX12_becomes_125 : decode cX12_becomes 125 = .ok (.getfield 13, 3) := by decide +kernel
theorem dX12_becomes_128 : decode cX12_becomes 128 = .ok (.iload_n 1, 1) := by decide +kernel
theorem dX12_becomes_129 : decode cX12_becomes 129 = .ok (.iaload, 1) := by decide +kernel
theorem dX12_becomes_130 : decode cX12_becomes 130 = .ok (.iastore, 1) := by decide +kernel
theorem dX12_becomes_131 : decode cX12_becomes 131 = .ok (.iinc 1 1, 3) := by decide +kernel
theorem dX12_becomes_134 : decode cX12_becomes 134 = .ok (.goto (-22), 3) := by decide +kernel
theorem dX12_becomes_137 : decode cX12_becomes 137 = .ok (.aload_n 0, 1) := by decide +kernel
theorem dX12_becomes_138 : decode cX12_becomes 138 = .ok (.invokevirtual 120, 3) := by decide +kernel
theorem dX12_becomes_141 : decode cX12_becomes 141 = .ok (.aload_n 0, 1) := by decide +kernel
theorem dX12_becomes_142 : decode cX12_becomes 142 = .ok (.iconst 0, 1) := by decide +kernel
theorem dX12_becomes_143 : decode cX12_becomes 143 = .ok (.putfield 123, 3) := by decide +kernel
theorem dX12_becomes_146 : decode cX12_becomes 146 = .ok (.aload_n 0, 1) := by decide +kernel
theorem dX12_becomes_147 : decode cX12_becomes 147 = .ok (.iconst 0, 1) := by decide +kernel
theorem dX12_becomes_148 : decode cX12_becomes 148 = .ok (.putfield 126, 3) := by decide +kernel
theorem dX12_becomes_151 : decode cX12_becomes 151 = .ok (.return_, 1) := by decide +kernel
theorem dX12_laysWays_0 : decode cX12_laysWays 0 = .ok (.iconst 0, 1) := by decide +kernel
theorem dX12_laysWays_1 : decode cX12_laysWays 1 = .ok (.istore_n 1, 1) := by decide +kernel
theorem dX12_laysWays_2 : decode cX12_laysWays 2 = .ok (.iload_n 1, 1) := by decide +kernel
theorem dX12_laysWays_3 : decode cX12_laysWays 3 = .ok (.aload_n 0, 1) := by decide +kernel
theorem dX12_laysWays_4 : decode cX12_laysWays 4 = .ok (.getfield 108, 3) := by decide +kernel
theorem dX12_laysWays_7 : decode cX12_laysWays 7 = .ok (.if_icmp .ge 121, 3) := by decide +kernel
theorem dX12_laysWays_10 : decode cX12_laysWays 10 = .ok (.iconst 0, 1) := by decide +kernel
theorem dX12_laysWays_11 : decode cX12_laysWays 11 = .ok (.istore_n 2, 1) := by decide +kernel
theorem dX12_laysWays_12 : decode cX12_laysWays 12 = .ok (.iload_n 2, 1) := by decide +kernel
theorem dX12_laysWays_13 : decode cX12_laysWays 13 = .ok (.aload_n 0, 1) := by decide +kernel
theorem dX12_laysWays_14 : decode cX12_laysWays 14 = .ok (.getfield 108, 3) := by decide +kernel
theorem dX12_laysWays_17 : decode cX12_laysWays 17 = .ok (.if_icmp .ge 105, 3) := by decide +kernel
theorem dX12_laysWays_20 : decode cX12_laysWays 20 = .ok (.iconst 0, 1) := by decide +kernel
theorem dX12_laysWays_21 : decode cX12_laysWays 21 = .ok (.istore_n 3, 1) := by decide +kernel
theorem dX12_laysWays_22 : decode cX12_laysWays 22 = .ok (.iload_n 3, 1) := by decide +kernel
theorem dX12_laysWays_23 : decode cX12_laysWays 23 = .ok (.aload_n 0, 1) := by decide +kernel
theorem dX12_laysWays_24 : decode cX12_laysWays 24 = .ok (.getfield 108, 3) := by decide +kernel
theorem dX12_laysWays_27 : decode cX12_laysWays 27 = .ok (.if_icmp .ge 89, 3) := by decide +kernel
theorem dX12_laysWays_30 : decode cX12_laysWays 30 = .ok (.aload_n 0, 1) := by decide +kernel
theorem dX12_laysWays_31 : decode cX12_laysWays 31 = .ok (.getfield 34, 3) := by decide +kernel
theorem dX12_laysWays_34 : decode cX12_laysWays 34 = .ok (.bipush 8, 2) := by decide +kernel
theorem dX12_laysWays_36 : decode cX12_laysWays 36 = .ok (.iload_n 2, 1) := by decide +kernel
theorem dX12_laysWays_37 : decode cX12_laysWays 37 = .ok (.imul, 1) := by decide +kernel
theorem dX12_laysWays_38 : decode cX12_laysWays 38 = .ok (.iload_n 1, 1) := by decide +kernel
theorem dX12_laysWays_39 : decode cX12_laysWays 39 = .ok (.iadd, 1) := by decide +kernel
theorem dX12_laysWays_40 : decode cX12_laysWays 40 = .ok (.iaload, 1) := by decide +kernel
theorem dX12_laysWays_41 : decode cX12_laysWays 41 = .ok (.istore 4, 2) := by decide +kernel
theorem dX12_laysWays_43 : decode cX12_laysWays 43 = .ok (.aload_n 0, 1) := by decide +kernel
theorem dX12_laysWays_44 : decode cX12_laysWays 44 = .ok (.getfield 34, 3) := by decide +kernel
theorem dX12_laysWays_47 : decode cX12_laysWays 47 = .ok (.bipush 8, 2) := by decide +kernel
theorem dX12_laysWays_49 : decode cX12_laysWays 49 = .ok (.iload_n 1, 1) := by decide +kernel
theorem dX12_laysWays_50 : decode cX12_laysWays 50 = .ok (.imul, 1) := by decide +kernel
theorem dX12_laysWays_51 : decode cX12_laysWays 51 = .ok (.iload_n 3, 1) := by decide +kernel
theorem dX12_laysWays_52 : decode cX12_laysWays 52 = .ok (.iadd, 1) := by decide +kernel
theorem dX12_laysWays_53 : decode cX12_laysWays 53 = .ok (.iaload, 1) := by decide +kernel
theorem dX12_laysWays_54 : decode cX12_laysWays 54 = .ok (.istore 5, 2) := by decide +kernel
theorem dX12_laysWays_56 : decode cX12_laysWays 56 = .ok (.aload_n 0, 1) := by decide +kernel
theorem dX12_laysWays_57 : decode cX12_laysWays 57 = .ok (.getfield 34, 3) := by decide +kernel
theorem dX12_laysWays_60 : decode cX12_laysWays 60 = .ok (.bipush 8, 2) := by decide +kernel
theorem dX12_laysWays_62 : decode cX12_laysWays 62 = .ok (.iload_n 2, 1) := by decide +kernel
theorem dX12_laysWays_63 : decode cX12_laysWays 63 = .ok (.imul, 1) := by decide +kernel
theorem dX12_laysWays_64 : decode cX12_laysWays 64 = .ok (.iload_n 3, 1) := by decide +kernel
theorem dX12_laysWays_65 : decode cX12_laysWays 65 = .ok (.iadd, 1) := by decide +kernel
theorem dX12_laysWays_66 : decode cX12_laysWays 66 = .ok (.iaload, 1) := by decide +kernel
theorem dX12_laysWays_67 : decode cX12_laysWays 67 = .ok (.istore 6, 2) := by decide +kernel
theorem dX12_laysWays_69 : decode cX12_laysWays 69 = .ok (.iload 4, 2) := by decide +kernel
theorem dX12_laysWays_71 : decode cX12_laysWays 71 = .ok (.ifCond .lt 39, 3) := by decide +kernel
theorem dX12_laysWays_74 : decode cX12_laysWays 74 = .ok (.iload 5, 2) := by decide +kernel
theorem dX12_laysWays_76 : decode cX12_laysWays 76 = .ok (.ifCond .lt 34, 3) := by decide +kernel
theorem dX12_laysWays_79 : decode cX12_laysWays 79 = .ok (.iload 6, 2) := by decide +kernel
theorem dX12_laysWays_81 : decode cX12_laysWays 81 = .ok (.ifCond .lt 13, 3) := by decide +kernel
theorem dX12_laysWays_84 : decode cX12_laysWays 84 = .ok (.iload 4, 2) := by decide +kernel
theorem dX12_laysWays_86 : decode cX12_laysWays 86 = .ok (.iload 5, 2) := by decide +kernel
theorem dX12_laysWays_88 : decode cX12_laysWays 88 = .ok (.iadd, 1) := by decide +kernel
theorem dX12_laysWays_89 : decode cX12_laysWays 89 = .ok (.iload 6, 2) := by decide +kernel
theorem dX12_laysWays_91 : decode cX12_laysWays 91 = .ok (.if_icmp .ge 19, 3) := by decide +kernel
theorem dX12_laysWays_94 : decode cX12_laysWays 94 = .ok (.aload_n 0, 1) := by decide +kernel
theorem dX12_laysWays_95 : decode cX12_laysWays 95 = .ok (.getfield 34, 3) := by decide +kernel
theorem dX12_laysWays_98 : decode cX12_laysWays 98 = .ok (.bipush 8, 2) := by decide +kernel
theorem dX12_laysWays_100 : decode cX12_laysWays 100 = .ok (.iload_n 2, 1) := by decide +kernel
theorem dX12_laysWays_101 : decode cX12_laysWays 101 = .ok (.imul, 1) := by decide +kernel
theorem dX12_laysWays_102 : decode cX12_laysWays 102 = .ok (.iload_n 3, 1) := by decide +kernel
theorem dX12_laysWays_103 : decode cX12_laysWays 103 = .ok (.iadd, 1) := by decide +kernel
theorem dX12_laysWays_104 : decode cX12_laysWays 104 = .ok (.iload 4, 2) := by decide +kernel
theorem dX12_laysWays_106 : decode cX12_laysWays 106 = .ok (.iload 5, 2) := by decide +kernel
theorem dX12_laysWays_108 : decode cX12_laysWays 108 = .ok (.iadd, 1) := by decide +kernel
theorem dX12_laysWays_109 : decode cX12_laysWays 109 = .ok (.iastore, 1) := by decide +kernel
theorem dX12_laysWays_110 : decode cX12_laysWays 110 = .ok (.iinc 3 1, 3) := by decide +kernel
theorem dX12_laysWays_113 : decode cX12_laysWays 113 = .ok (.goto (-91), 3) := by decide +kernel
theorem dX12_laysWays_116 : decode cX12_laysWays 116 = .ok (.iinc 2 1, 3) := by decide +kernel
theorem dX12_laysWays_119 : decode cX12_laysWays 119 = .ok (.goto (-107), 3) := by decide +kernel
theorem dX12_laysWays_122 : decode cX12_laysWays 122 = .ok (.iinc 1 1, 3) := by decide +kernel
theorem dX12_laysWays_125 : decode cX12_laysWays 125 = .ok (.goto (-123), 3) := by decide +kernel
theorem dX12_laysWays_128 : decode cX12_laysWays 128 = .ok (.return_, 1) := by decide +kernel
theorem dX12_of_0 : decode cX12_of 0 = .ok (.aload_n 0, 1) := by decide +kernel
theorem dX12_of_1 : decode cX12_of 1 = .ok (.getfield 7, 3) := by decide +kernel
theorem dX12_of_4 : decode cX12_of 4 = .ok (.sipush 173, 3) := by decide +kernel
theorem dX12_of_7 : decode cX12_of 7 = .ok (.bipush 17, 2) := by decide +kernel
theorem dX12_of_9 : decode cX12_of 9 = .ok (.iload_n 1, 1) := by decide +kernel
theorem dX12_of_10 : decode cX12_of 10 = .ok (.imul, 1) := by decide +kernel
theorem dX12_of_11 : decode cX12_of 11 = .ok (.iadd, 1) := by decide +kernel
theorem dX12_of_12 : decode cX12_of 12 = .ok (.iload_n 2, 1) := by decide +kernel
theorem dX12_of_13 : decode cX12_of 13 = .ok (.iadd, 1) := by decide +kernel
theorem dX12_of_14 : decode cX12_of 14 = .ok (.iaload, 1) := by decide +kernel
theorem dX12_of_15 : decode cX12_of 15 = .ok (.ireturn, 1) := by decide +kernel
theorem dX12_sets_0 : decode cX12_sets 0 = .ok (.aload_n 0, 1) := by decide +kernel
theorem dX12_sets_1 : decode cX12_sets 1 = .ok (.getfield 7, 3) := by decide +kernel
theorem dX12_sets_4 : decode cX12_sets 4 = .ok (.sipush 173, 3) := by decide +kernel
theorem dX12_sets_7 : decode cX12_sets 7 = .ok (.bipush 17, 2) := by decide +kernel
theorem dX12_sets_9 : decode cX12_sets 9 = .ok (.iload_n 1, 1) := by decide +kernel
theorem dX12_sets_10 : decode cX12_sets 10 = .ok (.imul, 1) := by decide +kernel
theorem dX12_sets_11 : decode cX12_sets 11 = .ok (.iadd, 1) := by decide +kernel
theorem dX12_sets_12 : decode cX12_sets 12 = .ok (.iload_n 2, 1) := by decide +kernel
theorem dX12_sets_13 : decode cX12_sets 13 = .ok (.iadd, 1) := by decide +kernel
theorem dX12_sets_14 : decode cX12_sets 14 = .ok (.iload_n 3, 1) := by decide +kernel
theorem dX12_sets_15 : decode cX12_sets 15 = .ok (.iastore, 1) := by decide +kernel
theorem dX12_sets_16 : decode cX12_sets 16 = .ok (.return_, 1) := by decide +kernel
theorem dX12_in2_0 : decode cX12_in2 0 = .ok (.aload_n 0, 1) := by decide +kernel
theorem dX12_in2_1 : decode cX12_in2 1 = .ok (.getfield 7, 3) := by decide +kernel
theorem dX12_in2_4 : decode cX12_in2 4 = .ok (.bipush 13, 2) := by decide +kernel
theorem dX12_in2_6 : decode cX12_in2 6 = .ok (.bipush 40, 2) := by decide +kernel
theorem dX12_in2_8 : decode cX12_in2 8 = .ok (.iload_n 1, 1) := by decide +kernel
theorem dX12_in2_9 : decode cX12_in2 9 = .ok (.imul, 1) := by decide +kernel
theorem dX12_in2_10 : decode cX12_in2 10 = .ok (.iadd, 1) := by decide +kernel
theorem dX12_in2_11 : decode cX12_in2 11 = .ok (.iload_n 2, 1) := by decide +kernel
theorem dX12_in2_12 : decode cX12_in2 12 = .ok (.iadd, 1) := by decide +kernel
theorem dX12_in2_13 : decode cX12_in2 13 = .ok (.iaload, 1) := by decide +kernel
theorem dX12_in2_14 : decode cX12_in2 14 = .ok (.ireturn, 1) := by decide +kernel
theorem dX12_lays2_0 : decode cX12_lays2 0 = .ok (.aload_n 0, 1) := by decide +kernel
theorem dX12_lays2_1 : decode cX12_lays2 1 = .ok (.getfield 7, 3) := by decide +kernel
theorem dX12_lays2_4 : decode cX12_lays2 4 = .ok (.bipush 13, 2) := by decide +kernel
theorem dX12_lays2_6 : decode cX12_lays2 6 = .ok (.bipush 40, 2) := by decide +kernel
theorem dX12_lays2_8 : decode cX12_lays2 8 = .ok (.iload_n 1, 1) := by decide +kernel
theorem dX12_lays2_9 : decode cX12_lays2 9 = .ok (.imul, 1) := by decide +kernel
theorem dX12_lays2_10 : decode cX12_lays2 10 = .ok (.iadd, 1) := by decide +kernel
theorem dX12_lays2_11 : decode cX12_lays2 11 = .ok (.iload_n 2, 1) := by decide +kernel
theorem dX12_lays2_12 : decode cX12_lays2 12 = .ok (.iadd, 1) := by decide +kernel
theorem dX12_lays2_13 : decode cX12_lays2 13 = .ok (.iload_n 3, 1) := by decide +kernel
theorem dX12_lays2_14 : decode cX12_lays2 14 = .ok (.iastore, 1) := by decide +kernel
theorem dX12_lays2_15 : decode cX12_lays2 15 = .ok (.return_, 1) := by decide +kernel
theorem dX12_grows_0 : decode cX12_grows 0 = .ok (.aload_n 0, 1) := by decide +kernel
theorem dX12_grows_1 : decode cX12_grows 1 = .ok (.getfield 7, 3) := by decide +kernel
theorem dX12_grows_4 : decode cX12_grows 4 = .ok (.bipush 13, 2) := by decide +kernel
theorem dX12_grows_6 : decode cX12_grows 6 = .ok (.bipush 40, 2) := by decide +kernel
theorem dX12_grows_8 : decode cX12_grows 8 = .ok (.iload_n 1, 1) := by decide +kernel
theorem dX12_grows_9 : decode cX12_grows 9 = .ok (.imul, 1) := by decide +kernel
theorem dX12_grows_10 : decode cX12_grows 10 = .ok (.iadd, 1) := by decide +kernel
theorem dX12_grows_11 : decode cX12_grows 11 = .ok (.iload_n 2, 1) := by decide +kernel
theorem dX12_grows_12 : decode cX12_grows 12 = .ok (.iadd, 1) := by decide +kernel
theorem dX12_grows_13 : decode cX12_grows 13 = .ok (.dup2, 1) := by decide +kernel
theorem dX12_grows_14 : decode cX12_grows 14 = .ok (.iaload, 1) := by decide +kernel
theorem dX12_grows_15 : decode cX12_grows 15 = .ok (.iload_n 3, 1) := by decide +kernel
theorem dX12_grows_16 : decode cX12_grows 16 = .ok (.iadd, 1) := by decide +kernel
theorem dX12_grows_17 : decode cX12_grows 17 = .ok (.iastore, 1) := by decide +kernel
theorem dX12_grows_18 : decode cX12_grows 18 = .ok (.return_, 1) := by decide +kernel
theorem dX12_ruled_0 : decode cX12_ruled 0 = .ok (.aload_n 0, 1) := by decide +kernel
theorem dX12_ruled_1 : decode cX12_ruled 1 = .ok (.getfield 7, 3) := by decide +kernel
theorem dX12_ruled_4 : decode cX12_ruled 4 = .ok (.iconst 3, 1) := by decide +kernel
theorem dX12_ruled_5 : decode cX12_ruled 5 = .ok (.iload_n 1, 1) := by decide +kernel
theorem dX12_ruled_6 : decode cX12_ruled 6 = .ok (.iadd, 1) := by decide +kernel
theorem dX12_ruled_7 : decode cX12_ruled 7 = .ok (.iaload, 1) := by decide +kernel
theorem dX12_ruled_8 : decode cX12_ruled 8 = .ok (.ireturn, 1) := by decide +kernel
theorem dX12_least_0 : decode cX12_least 0 = .ok (.iload_n 0, 1) := by decide +kernel
theorem dX12_least_1 : decode cX12_least 1 = .ok (.iconst 5, 1) := by decide +kernel
theorem dX12_least_2 : decode cX12_least 2 = .ok (.if_icmp .eq 9, 3) := by decide +kernel
theorem dX12_least_5 : decode cX12_least 5 = .ok (.iload_n 0, 1) := by decide +kernel
theorem dX12_least_6 : decode cX12_least 6 = .ok (.bipush 6, 2) := by decide +kernel
theorem dX12_least_8 : decode cX12_least 8 = .ok (.if_icmp .ne 7, 3) := by decide +kernel
theorem dX12_least_11 : decode cX12_least 11 = .ok (.iconst 1, 1) := by decide +kernel
theorem dX12_least_12 : decode cX12_least 12 = .ok (.goto 4, 3) := by decide +kernel
theorem dX12_least_15 : decode cX12_least 15 = .ok (.iconst 0, 1) := by decide +kernel
theorem dX12_least_16 : decode cX12_least 16 = .ok (.ireturn, 1) := by decide +kernel
theorem dX12_most_0 : decode cX12_most 0 = .ok (.iload_n 0, 1) := by decide +kernel
theorem dX12_most_1 : decode cX12_most 1 = .ok (.tableswitch 66 0 6 #[43, 46, 49, 52, 55, 59, 63], 43) := by decide +kernel
theorem dX12_most_44 : decode cX12_most 44 = .ok (.bipush 60, 2) := by decide +kernel
theorem dX12_most_46 : decode cX12_most 46 = .ok (.ireturn, 1) := by decide +kernel
theorem dX12_most_47 : decode cX12_most 47 = .ok (.bipush 9, 2) := by decide +kernel
theorem dX12_most_49 : decode cX12_most 49 = .ok (.ireturn, 1) := by decide +kernel
theorem dX12_most_50 : decode cX12_most 50 = .ok (.bipush 60, 2) := by decide +kernel
theorem dX12_most_52 : decode cX12_most 52 = .ok (.ireturn, 1) := by decide +kernel
theorem dX12_most_53 : decode cX12_most 53 = .ok (.bipush 30, 2) := by decide +kernel
theorem dX12_most_55 : decode cX12_most 55 = .ok (.ireturn, 1) := by decide +kernel
theorem dX12_most_56 : decode cX12_most 56 = .ok (.sipush 9999, 3) := by decide +kernel
theorem dX12_most_59 : decode cX12_most 59 = .ok (.ireturn, 1) := by decide +kernel
theorem dX12_most_60 : decode cX12_most 60 = .ok (.sipush 999, 3) := by decide +kernel
theorem dX12_most_63 : decode cX12_most 63 = .ok (.ireturn, 1) := by decide +kernel
theorem dX12_most_64 : decode cX12_most 64 = .ok (.bipush 99, 2) := by decide +kernel
theorem dX12_most_66 : decode cX12_most 66 = .ok (.ireturn, 1) := by decide +kernel
theorem dX12_most_67 : decode cX12_most 67 = .ok (.bipush 90, 2) := by decide +kernel
theorem dX12_most_69 : decode cX12_most 69 = .ok (.ireturn, 1) := by decide +kernel
theorem dX12_lays_0 : decode cX12_lays 0 = .ok (.bipush 24, 2) := by decide +kernel
theorem dX12_lays_2 : decode cX12_lays 2 = .ok (.istore_n 2, 1) := by decide +kernel
theorem dX12_lays_3 : decode cX12_lays 3 = .ok (.iload_n 2, 1) := by decide +kernel
theorem dX12_lays_4 : decode cX12_lays 4 = .ok (.ifCond .lt 35, 3) := by decide +kernel
theorem dX12_lays_7 : decode cX12_lays 7 = .ok (.aload_n 0, 1) := by decide +kernel
theorem dX12_lays_8 : decode cX12_lays 8 = .ok (.getfield 43, 3) := by decide +kernel
theorem dX12_lays_11 : decode cX12_lays 11 = .ok (.aload_n 0, 1) := by decide +kernel
theorem dX12_lays_12 : decode cX12_lays 12 = .ok (.getfield 130, 3) := by decide +kernel
theorem dX12_lays_15 : decode cX12_lays 15 = .ok (.iload_n 1, 1) := by decide +kernel
theorem dX12_lays_16 : decode cX12_lays 16 = .ok (.iload_n 2, 1) := by decide +kernel
theorem dX12_lays_17 : decode cX12_lays 17 = .ok (.ishr, 1) := by decide +kernel
theorem dX12_lays_18 : decode cX12_lays 18 = .ok (.sipush 255, 3) := by decide +kernel
theorem dX12_lays_21 : decode cX12_lays 21 = .ok (.iand, 1) := by decide +kernel
theorem dX12_lays_22 : decode cX12_lays 22 = .ok (.iastore, 1) := by decide +kernel
theorem dX12_lays_23 : decode cX12_lays 23 = .ok (.aload_n 0, 1) := by decide +kernel
theorem dX12_lays_24 : decode cX12_lays 24 = .ok (.dup, 1) := by decide +kernel
theorem dX12_lays_25 : decode cX12_lays 25 = .ok (.getfield 130, 3) := by decide +kernel
theorem dX12_lays_28 : decode cX12_lays 28 = .ok (.iconst 1, 1) := by decide +kernel
theorem dX12_lays_29 : decode cX12_lays 29 = .ok (.iadd, 1) := by decide +kernel
theorem dX12_lays_30 : decode cX12_lays 30 = .ok (.putfield 130, 3) := by decide +kernel
theorem dX12_lays_33 : decode cX12_lays 33 = .ok (.iinc 2 (-8), 3) := by decide +kernel
theorem dX12_lays_36 : decode cX12_lays 36 = .ok (.goto (-33), 3) := by decide +kernel
theorem dX12_lays_39 : decode cX12_lays 39 = .ok (.return_, 1) := by decide +kernel
theorem dX12_feed_0 : decode cX12_feed 0 = .ok (.aload_n 0, 1) := by decide +kernel
theorem dX12_feed_1 : decode cX12_feed 1 = .ok (.iconst 0, 1) := by decide +kernel
theorem dX12_feed_2 : decode cX12_feed 2 = .ok (.putfield 93, 3) := by decide +kernel
theorem dX12_feed_5 : decode cX12_feed 5 = .ok (.aload_n 0, 1) := by decide +kernel
theorem dX12_feed_6 : decode cX12_feed 6 = .ok (.getfield 130, 3) := by decide +kernel
theorem dX12_feed_9 : decode cX12_feed 9 = .ok (.bipush 20, 2) := by decide +kernel
theorem dX12_feed_11 : decode cX12_feed 11 = .ok (.iadd, 1) := by decide +kernel
theorem dX12_feed_12 : decode cX12_feed 12 = .ok (.sipush 800, 3) := by decide +kernel
theorem dX12_feed_15 : decode cX12_feed 15 = .ok (.if_icmp .le 5, 3) := by decide +kernel
theorem dX12_feed_18 : decode cX12_feed 18 = .ok (.iconst (-1), 1) := by decide +kernel
theorem dX12_feed_19 : decode cX12_feed 19 = .ok (.ireturn, 1) := by decide +kernel
theorem dX12_feed_20 : decode cX12_feed 20 = .ok (.aload_n 0, 1) := by decide +kernel
theorem dX12_feed_21 : decode cX12_feed 21 = .ok (.iload_n 1, 1) := by decide +kernel
theorem dX12_feed_22 : decode cX12_feed 22 = .ok (.invokevirtual 133, 3) := by decide +kernel
theorem dX12_feed_25 : decode cX12_feed 25 = .ok (.aload_n 0, 1) := by decide +kernel
theorem dX12_feed_26 : decode cX12_feed 26 = .ok (.iload_n 2, 1) := by decide +kernel
theorem dX12_feed_27 : decode cX12_feed 27 = .ok (.invokevirtual 133, 3) := by decide +kernel
theorem dX12_feed_30 : decode cX12_feed 30 = .ok (.aload_n 0, 1) := by decide +kernel
theorem dX12_feed_31 : decode cX12_feed 31 = .ok (.iload_n 3, 1) := by decide +kernel
theorem dX12_feed_32 : decode cX12_feed 32 = .ok (.invokevirtual 133, 3) := by decide +kernel
theorem dX12_feed_35 : decode cX12_feed 35 = .ok (.aload_n 0, 1) := by decide +kernel
theorem dX12_feed_36 : decode cX12_feed 36 = .ok (.iload 4, 2) := by decide +kernel
theorem dX12_feed_38 : decode cX12_feed 38 = .ok (.invokevirtual 133, 3) := by decide +kernel
theorem dX12_feed_41 : decode cX12_feed 41 = .ok (.aload_n 0, 1) := by decide +kernel
theorem dX12_feed_42 : decode cX12_feed 42 = .ok (.iload 5, 2) := by decide +kernel
theorem dX12_feed_44 : decode cX12_feed 44 = .ok (.invokevirtual 133, 3) := by decide +kernel
theorem dX12_feed_47 : decode cX12_feed 47 = .ok (.aload_n 0, 1) := by decide +kernel
theorem dX12_feed_48 : decode cX12_feed 48 = .ok (.getfield 130, 3) := by decide +kernel
theorem dX12_feed_51 : decode cX12_feed 51 = .ok (.ireturn, 1) := by decide +kernel
theorem dX12_errorPosition_0 : decode cX12_errorPosition 0 = .ok (.aload_n 0, 1) := by decide +kernel
theorem dX12_errorPosition_1 : decode cX12_errorPosition 1 = .ok (.iconst 0, 1) := by decide +kernel
theorem dX12_errorPosition_2 : decode cX12_errorPosition 2 = .ok (.putfield 93, 3) := by decide +kernel
theorem dX12_errorPosition_5 : decode cX12_errorPosition 5 = .ok (.aload_n 0, 1) := by decide +kernel
theorem dX12_errorPosition_6 : decode cX12_errorPosition 6 = .ok (.getfield 46, 3) := by decide +kernel
theorem dX12_errorPosition_9 : decode cX12_errorPosition 9 = .ok (.ireturn, 1) := by decide +kernel
theorem dX12_byteAt_0 : decode cX12_byteAt 0 = .ok (.iload_n 1, 1) := by decide +kernel
theorem dX12_byteAt_1 : decode cX12_byteAt 1 = .ok (.aload_n 0, 1) := by decide +kernel
theorem dX12_byteAt_2 : decode cX12_byteAt 2 = .ok (.getfield 136, 3) := by decide +kernel
theorem dX12_byteAt_5 : decode cX12_byteAt 5 = .ok (.if_icmp .ge 12, 3) := by decide +kernel
theorem dX12_byteAt_8 : decode cX12_byteAt 8 = .ok (.aload_n 0, 1) := by decide +kernel
theorem dX12_byteAt_9 : decode cX12_byteAt 9 = .ok (.getfield 43, 3) := by decide +kernel
theorem dX12_byteAt_12 : decode cX12_byteAt 12 = .ok (.iload_n 1, 1) := by decide +kernel
theorem dX12_byteAt_13 : decode cX12_byteAt 13 = .ok (.iaload, 1) := by decide +kernel
theorem dX12_byteAt_14 : decode cX12_byteAt 14 = .ok (.goto 4, 3) := by decide +kernel
theorem dX12_byteAt_17 : decode cX12_byteAt 17 = .ok (.iconst (-1), 1) := by decide +kernel
theorem dX12_byteAt_18 : decode cX12_byteAt 18 = .ok (.ireturn, 1) := by decide +kernel
theorem dX12_isLetter_0 : decode cX12_isLetter 0 = .ok (.iload_n 0, 1) := by decide +kernel
theorem dX12_isLetter_1 : decode cX12_isLetter 1 = .ok (.bipush 97, 2) := by decide +kernel
theorem dX12_isLetter_3 : decode cX12_isLetter 3 = .ok (.if_icmp .lt 13, 3) := by decide +kernel
theorem dX12_isLetter_6 : decode cX12_isLetter 6 = .ok (.iload_n 0, 1) := by decide +kernel
theorem dX12_isLetter_7 : decode cX12_isLetter 7 = .ok (.bipush 122, 2) := by decide +kernel
theorem dX12_isLetter_9 : decode cX12_isLetter 9 = .ok (.if_icmp .gt 7, 3) := by decide +kernel
theorem dX12_isLetter_12 : decode cX12_isLetter 12 = .ok (.iconst 1, 1) := by decide +kernel
theorem dX12_isLetter_13 : decode cX12_isLetter 13 = .ok (.goto 4, 3) := by decide +kernel
theorem dX12_isLetter_16 : decode cX12_isLetter 16 = .ok (.iconst 0, 1) := by decide +kernel
theorem dX12_isLetter_17 : decode cX12_isLetter 17 = .ok (.ireturn, 1) := by decide +kernel
theorem dX12_isFigure_0 : decode cX12_isFigure 0 = .ok (.iload_n 0, 1) := by decide +kernel
theorem dX12_isFigure_1 : decode cX12_isFigure 1 = .ok (.bipush 48, 2) := by decide +kernel
theorem dX12_isFigure_3 : decode cX12_isFigure 3 = .ok (.if_icmp .lt 13, 3) := by decide +kernel
theorem dX12_isFigure_6 : decode cX12_isFigure 6 = .ok (.iload_n 0, 1) := by decide +kernel
theorem dX12_isFigure_7 : decode cX12_isFigure 7 = .ok (.bipush 57, 2) := by decide +kernel
theorem dX12_isFigure_9 : decode cX12_isFigure 9 = .ok (.if_icmp .gt 7, 3) := by decide +kernel
theorem dX12_isFigure_12 : decode cX12_isFigure 12 = .ok (.iconst 1, 1) := by decide +kernel
theorem dX12_isFigure_13 : decode cX12_isFigure 13 = .ok (.goto 4, 3) := by decide +kernel
theorem dX12_isFigure_16 : decode cX12_isFigure 16 = .ok (.iconst 0, 1) := by decide +kernel
theorem dX12_isFigure_17 : decode cX12_isFigure 17 = .ok (.ireturn, 1) := by decide +kernel
theorem dX12_readsWord_0 : decode cX12_readsWord 0 = .ok (.aload_n 0, 1) := by decide +kernel
theorem dX12_readsWord_1 : decode cX12_readsWord 1 = .ok (.lconst 0, 1) := by decide +kernel
theorem dX12_readsWord_2 : decode cX12_readsWord 2 = .ok (.putfield 139, 3) := by decide +kernel
theorem dX12_readsWord_5 : decode cX12_readsWord 5 = .ok (.aload_n 0, 1) := by decide +kernel
theorem dX12_readsWord_6 : decode cX12_readsWord 6 = .ok (.aload_n 0, 1) := by decide +kernel
theorem dX12_readsWord_7 : decode cX12_readsWord 7 = .ok (.getfield 143, 3) := by decide +kernel
theorem dX12_readsWord_10 : decode cX12_readsWord 10 = .ok (.invokevirtual 146, 3) := by decide +kernel
theorem dX12_readsWord_13 : decode cX12_readsWord 13 = .ok (.invokestatic 150, 3) := by decide +kernel
theorem dX12_readsWord_16 : decode cX12_readsWord 16 = .ok (.ifCond .eq 57, 3) := by decide +kernel
theorem dX12_readsWord_19 : decode cX12_readsWord 19 = .ok (.aload_n 0, 1) := by decide +kernel
theorem dX12_readsWord_20 : decode cX12_readsWord 20 = .ok (.getfield 143, 3) := by decide +kernel
theorem dX12_readsWord_23 : decode cX12_readsWord 23 = .ok (.aload_n 0, 1) := by decide +kernel
theorem dX12_readsWord_24 : decode cX12_readsWord 24 = .ok (.getfield 154, 3) := by decide +kernel
theorem dX12_readsWord_27 : decode cX12_readsWord 27 = .ok (.isub, 1) := by decide +kernel
theorem dX12_readsWord_28 : decode cX12_readsWord 28 = .ok (.bipush 10, 2) := by decide +kernel
theorem dX12_readsWord_30 : decode cX12_readsWord 30 = .ok (.if_icmp .ge 30, 3) := by decide +kernel
theorem dX12_readsWord_33 : decode cX12_readsWord 33 = .ok (.aload_n 0, 1) := by decide +kernel
theorem dX12_readsWord_34 : decode cX12_readsWord 34 = .ok (.ldc2_w 157, 3) := by decide +kernel
theorem dX12_readsWord_37 : decode cX12_readsWord 37 = .ok (.aload_n 0, 1) := by decide +kernel
theorem dX12_readsWord_38 : decode cX12_readsWord 38 = .ok (.getfield 139, 3) := by decide +kernel
theorem dX12_readsWord_41 : decode cX12_readsWord 41 = .ok (.lmul, 1) := by decide +kernel
theorem dX12_readsWord_42 : decode cX12_readsWord 42 = .ok (.aload_n 0, 1) := by decide +kernel
theorem dX12_readsWord_43 : decode cX12_readsWord 43 = .ok (.getfield 43, 3) := by decide +kernel
theorem dX12_readsWord_46 : decode cX12_readsWord 46 = .ok (.aload_n 0, 1) := by decide +kernel
theorem dX12_readsWord_47 : decode cX12_readsWord 47 = .ok (.getfield 143, 3) := by decide +kernel
theorem dX12_readsWord_50 : decode cX12_readsWord 50 = .ok (.iaload, 1) := by decide +kernel
theorem dX12_readsWord_51 : decode cX12_readsWord 51 = .ok (.i2l, 1) := by decide +kernel
theorem dX12_readsWord_52 : decode cX12_readsWord 52 = .ok (.ladd, 1) := by decide +kernel
theorem dX12_readsWord_53 : decode cX12_readsWord 53 = .ok (.ldc2_w 159, 3) := by decide +kernel
theorem dX12_readsWord_56 : decode cX12_readsWord 56 = .ok (.lsub, 1) := by decide +kernel
theorem dX12_readsWord_57 : decode cX12_readsWord 57 = .ok (.putfield 139, 3) := by decide +kernel
theorem dX12_readsWord_60 : decode cX12_readsWord 60 = .ok (.aload_n 0, 1) := by decide +kernel
theorem dX12_readsWord_61 : decode cX12_readsWord 61 = .ok (.dup, 1) := by decide +kernel
theorem dX12_readsWord_62 : decode cX12_readsWord 62 = .ok (.getfield 143, 3) := by decide +kernel
theorem dX12_readsWord_65 : decode cX12_readsWord 65 = .ok (.iconst 1, 1) := by decide +kernel
theorem dX12_readsWord_66 : decode cX12_readsWord 66 = .ok (.iadd, 1) := by decide +kernel
theorem dX12_readsWord_67 : decode cX12_readsWord 67 = .ok (.putfield 143, 3) := by decide +kernel
theorem dX12_readsWord_70 : decode cX12_readsWord 70 = .ok (.goto (-65), 3) := by decide +kernel
theorem dX12_readsWord_73 : decode cX12_readsWord 73 = .ok (.aload_n 0, 1) := by decide +kernel
theorem dX12_readsWord_74 : decode cX12_readsWord 74 = .ok (.iconst 1, 1) := by decide +kernel
theorem dX12_readsWord_75 : decode cX12_readsWord 75 = .ok (.putfield 161, 3) := by decide +kernel
theorem dX12_readsWord_78 : decode cX12_readsWord 78 = .ok (.return_, 1) := by decide +kernel
theorem dX12_readsNumber_0 : decode cX12_readsNumber 0 = .ok (.aload_n 0, 1) := by decide +kernel
theorem dX12_readsNumber_1 : decode cX12_readsNumber 1 = .ok (.iconst 0, 1) := by decide +kernel
theorem dX12_readsNumber_2 : decode cX12_readsNumber 2 = .ok (.putfield 164, 3) := by decide +kernel
theorem dX12_readsNumber_5 : decode cX12_readsNumber 5 = .ok (.aload_n 0, 1) := by decide +kernel
theorem dX12_readsNumber_6 : decode cX12_readsNumber 6 = .ok (.aload_n 0, 1) := by decide +kernel
theorem dX12_readsNumber_7 : decode cX12_readsNumber 7 = .ok (.getfield 143, 3) := by decide +kernel
theorem dX12_readsNumber_10 : decode cX12_readsNumber 10 = .ok (.invokevirtual 146, 3) := by decide +kernel
theorem dX12_readsNumber_13 : decode cX12_readsNumber 13 = .ok (.invokestatic 167, 3) := by decide +kernel
theorem dX12_readsNumber_16 : decode cX12_readsNumber 16 = .ok (.ifCond .eq 56, 3) := by decide +kernel
theorem dX12_readsNumber_19 : decode cX12_readsNumber 19 = .ok (.aload_n 0, 1) := by decide +kernel
theorem dX12_readsNumber_20 : decode cX12_readsNumber 20 = .ok (.aload_n 0, 1) := by decide +kernel
theorem dX12_readsNumber_21 : decode cX12_readsNumber 21 = .ok (.getfield 164, 3) := by decide +kernel
theorem dX12_readsNumber_24 : decode cX12_readsNumber 24 = .ok (.ldc 170, 2) := by decide +kernel
theorem dX12_readsNumber_26 : decode cX12_readsNumber 26 = .ok (.if_icmp .le 10, 3) := by decide +kernel
theorem dX12_readsNumber_29 : decode cX12_readsNumber 29 = .ok (.aload_n 0, 1) := by decide +kernel
theorem dX12_readsNumber_30 : decode cX12_readsNumber 30 = .ok (.getfield 164, 3) := by decide +kernel
theorem dX12_readsNumber_33 : decode cX12_readsNumber 33 = .ok (.goto 23, 3) := by decide +kernel
theorem dX12_readsNumber_36 : decode cX12_readsNumber 36 = .ok (.bipush 10, 2) := by decide +kernel
theorem dX12_readsNumber_38 : decode cX12_readsNumber 38 = .ok (.aload_n 0, 1) := by decide +kernel
theorem dX12_readsNumber_39 : decode cX12_readsNumber 39 = .ok (.getfield 164, 3) := by decide +kernel
theorem dX12_readsNumber_42 : decode cX12_readsNumber 42 = .ok (.imul, 1) := by decide +kernel
theorem dX12_readsNumber_43 : decode cX12_readsNumber 43 = .ok (.aload_n 0, 1) := by decide +kernel
theorem dX12_readsNumber_44 : decode cX12_readsNumber 44 = .ok (.getfield 43, 3) := by decide +kernel
theorem dX12_readsNumber_47 : decode cX12_readsNumber 47 = .ok (.aload_n 0, 1) := by decide +kernel
theorem dX12_readsNumber_48 : decode cX12_readsNumber 48 = .ok (.getfield 143, 3) := by decide +kernel
theorem dX12_readsNumber_51 : decode cX12_readsNumber 51 = .ok (.iaload, 1) := by decide +kernel
theorem dX12_readsNumber_52 : decode cX12_readsNumber 52 = .ok (.iadd, 1) := by decide +kernel
theorem dX12_readsNumber_53 : decode cX12_readsNumber 53 = .ok (.bipush 48, 2) := by decide +kernel
theorem dX12_readsNumber_55 : decode cX12_readsNumber 55 = .ok (.isub, 1) := by decide +kernel
theorem dX12_readsNumber_56 : decode cX12_readsNumber 56 = .ok (.putfield 164, 3) := by decide +kernel
theorem dX12_readsNumber_59 : decode cX12_readsNumber 59 = .ok (.aload_n 0, 1) := by decide +kernel
theorem dX12_readsNumber_60 : decode cX12_readsNumber 60 = .ok (.dup, 1) := by decide +kernel
theorem dX12_readsNumber_61 : decode cX12_readsNumber 61 = .ok (.getfield 143, 3) := by decide +kernel
theorem dX12_readsNumber_64 : decode cX12_readsNumber 64 = .ok (.iconst 1, 1) := by decide +kernel
theorem dX12_readsNumber_65 : decode cX12_readsNumber 65 = .ok (.iadd, 1) := by decide +kernel
theorem dX12_readsNumber_66 : decode cX12_readsNumber 66 = .ok (.putfield 143, 3) := by decide +kernel
theorem dX12_readsNumber_69 : decode cX12_readsNumber 69 = .ok (.goto (-64), 3) := by decide +kernel
theorem dX12_readsNumber_72 : decode cX12_readsNumber 72 = .ok (.aload_n 0, 1) := by decide +kernel
theorem dX12_readsNumber_73 : decode cX12_readsNumber 73 = .ok (.iconst 2, 1) := by decide +kernel
theorem dX12_readsNumber_74 : decode cX12_readsNumber 74 = .ok (.putfield 161, 3) := by decide +kernel
theorem dX12_readsNumber_77 : decode cX12_readsNumber 77 = .ok (.return_, 1) := by decide +kernel
theorem dX12_next_0 : decode cX12_next 0 = .ok (.aload_n 0, 1) := by decide +kernel
theorem dX12_next_1 : decode cX12_next 1 = .ok (.aload_n 0, 1) := by decide +kernel
theorem dX12_next_2 : decode cX12_next 2 = .ok (.getfield 143, 3) := by decide +kernel
theorem dX12_next_5 : decode cX12_next 5 = .ok (.invokevirtual 146, 3) := by decide +kernel
theorem dX12_next_8 : decode cX12_next 8 = .ok (.bipush 32, 2) := by decide +kernel
theorem dX12_next_10 : decode cX12_next 10 = .ok (.if_icmp .eq 16, 3) := by decide +kernel
theorem dX12_next_13 : decode cX12_next 13 = .ok (.aload_n 0, 1) := by decide +kernel
theorem dX12_next_14 : decode cX12_next 14 = .ok (.aload_n 0, 1) := by decide +kernel
theorem dX12_next_15 : decode cX12_next 15 = .ok (.getfield 143, 3) := by decide +kernel
theorem dX12_next_18 : decode cX12_next 18 = .ok (.invokevirtual 146, 3) := by decide +kernel
theorem dX12_next_21 : decode cX12_next 21 = .ok (.bipush 10, 2) := by decide +kernel
theorem dX12_next_23 : decode cX12_next 23 = .ok (.if_icmp .ne 16, 3) := by decide +kernel
theorem dX12_next_26 : decode cX12_next 26 = .ok (.aload_n 0, 1) := by decide +kernel
theorem dX12_next_27 : decode cX12_next 27 = .ok (.dup, 1) := by decide +kernel
theorem dX12_next_28 : decode cX12_next 28 = .ok (.getfield 143, 3) := by decide +kernel
theorem dX12_next_31 : decode cX12_next 31 = .ok (.iconst 1, 1) := by decide +kernel
theorem dX12_next_32 : decode cX12_next 32 = .ok (.iadd, 1) := by decide +kernel
theorem dX12_next_33 : decode cX12_next 33 = .ok (.putfield 143, 3) := by decide +kernel
theorem dX12_next_36 : decode cX12_next 36 = .ok (.goto (-36), 3) := by decide +kernel
theorem dX12_next_39 : decode cX12_next 39 = .ok (.aload_n 0, 1) := by decide +kernel
theorem dX12_next_40 : decode cX12_next 40 = .ok (.aload_n 0, 1) := by decide +kernel
theorem dX12_next_41 : decode cX12_next 41 = .ok (.getfield 143, 3) := by decide +kernel
theorem dX12_next_44 : decode cX12_next 44 = .ok (.putfield 154, 3) := by decide +kernel
theorem dX12_next_47 : decode cX12_next 47 = .ok (.aload_n 0, 1) := by decide +kernel
theorem dX12_next_48 : decode cX12_next 48 = .ok (.getfield 143, 3) := by decide +kernel
theorem dX12_next_51 : decode cX12_next 51 = .ok (.aload_n 0, 1) := by decide +kernel
theorem dX12_next_52 : decode cX12_next 52 = .ok (.getfield 136, 3) := by decide +kernel
theorem dX12_next_55 : decode cX12_next 55 = .ok (.if_icmp .lt 11, 3) := by decide +kernel
theorem dX12_next_58 : decode cX12_next 58 = .ok (.aload_n 0, 1) := by decide +kernel
theorem dX12_next_59 : decode cX12_next 59 = .ok (.iconst 0, 1) := by decide +kernel
theorem dX12_next_60 : decode cX12_next 60 = .ok (.putfield 161, 3) := by decide +kernel
theorem dX12_next_63 : decode cX12_next 63 = .ok (.goto 62, 3) := by decide +kernel
theorem dX12_next_66 : decode cX12_next 66 = .ok (.aload_n 0, 1) := by decide +kernel
theorem dX12_next_67 : decode cX12_next 67 = .ok (.getfield 43, 3) := by decide +kernel
theorem dX12_next_70 : decode cX12_next 70 = .ok (.aload_n 0, 1) := by decide +kernel
theorem dX12_next_71 : decode cX12_next 71 = .ok (.getfield 143, 3) := by decide +kernel
theorem dX12_next_74 : decode cX12_next 74 = .ok (.iaload, 1) := by decide +kernel
theorem dX12_next_75 : decode cX12_next 75 = .ok (.invokestatic 150, 3) := by decide +kernel
theorem dX12_next_78 : decode cX12_next 78 = .ok (.ifCond .eq 10, 3) := by decide +kernel
theorem dX12_next_81 : decode cX12_next 81 = .ok (.aload_n 0, 1) := by decide +kernel
theorem dX12_next_82 : decode cX12_next 82 = .ok (.invokevirtual 171, 3) := by decide +kernel
theorem dX12_next_85 : decode cX12_next 85 = .ok (.goto 40, 3) := by decide +kernel
theorem dX12_next_88 : decode cX12_next 88 = .ok (.aload_n 0, 1) := by decide +kernel
theorem dX12_next_89 : decode cX12_next 89 = .ok (.getfield 43, 3) := by decide +kernel
theorem dX12_next_92 : decode cX12_next 92 = .ok (.aload_n 0, 1) := by decide +kernel
theorem dX12_next_93 : decode cX12_next 93 = .ok (.getfield 143, 3) := by decide +kernel
theorem dX12_next_96 : decode cX12_next 96 = .ok (.iaload, 1) := by decide +kernel
theorem dX12_next_97 : decode cX12_next 97 = .ok (.invokestatic 167, 3) := by decide +kernel
theorem dX12_next_100 : decode cX12_next 100 = .ok (.ifCond .eq 10, 3) := by decide +kernel
theorem dX12_next_103 : decode cX12_next 103 = .ok (.aload_n 0, 1) := by decide +kernel
theorem dX12_next_104 : decode cX12_next 104 = .ok (.invokevirtual 174, 3) := by decide +kernel
theorem dX12_next_107 : decode cX12_next 107 = .ok (.goto 18, 3) := by decide +kernel
theorem dX12_next_110 : decode cX12_next 110 = .ok (.aload_n 0, 1) := by decide +kernel
theorem dX12_next_111 : decode cX12_next 111 = .ok (.iconst 3, 1) := by decide +kernel
theorem dX12_next_112 : decode cX12_next 112 = .ok (.putfield 161, 3) := by decide +kernel
theorem dX12_next_115 : decode cX12_next 115 = .ok (.aload_n 0, 1) := by decide +kernel
theorem dX12_next_116 : decode cX12_next 116 = .ok (.dup, 1) := by decide +kernel
theorem dX12_next_117 : decode cX12_next 117 = .ok (.getfield 143, 3) := by decide +kernel
theorem dX12_next_120 : decode cX12_next 120 = .ok (.iconst 1, 1) := by decide +kernel
theorem dX12_next_121 : decode cX12_next 121 = .ok (.iadd, 1) := by decide +kernel
theorem dX12_next_122 : decode cX12_next 122 = .ok (.putfield 143, 3) := by decide +kernel
theorem dX12_next_125 : decode cX12_next 125 = .ok (.return_, 1) := by decide +kernel
theorem dX12_starts_0 : decode cX12_starts 0 = .ok (.aload_n 0, 1) := by decide +kernel
theorem dX12_starts_1 : decode cX12_starts 1 = .ok (.iload_n 1, 1) := by decide +kernel
theorem dX12_starts_2 : decode cX12_starts 2 = .ok (.putfield 136, 3) := by decide +kernel
theorem dX12_starts_5 : decode cX12_starts 5 = .ok (.aload_n 0, 1) := by decide +kernel
theorem dX12_starts_6 : decode cX12_starts 6 = .ok (.iconst 0, 1) := by decide +kernel
theorem dX12_starts_7 : decode cX12_starts 7 = .ok (.putfield 130, 3) := by decide +kernel
theorem dX12_starts_10 : decode cX12_starts 10 = .ok (.aload_n 0, 1) := by decide +kernel
theorem dX12_starts_11 : decode cX12_starts 11 = .ok (.iconst 0, 1) := by decide +kernel
theorem dX12_starts_12 : decode cX12_starts 12 = .ok (.putfield 143, 3) := by decide +kernel
theorem dX12_starts_15 : decode cX12_starts 15 = .ok (.aload_n 0, 1) := by decide +kernel
theorem dX12_starts_16 : decode cX12_starts 16 = .ok (.iconst 0, 1) := by decide +kernel
theorem dX12_starts_17 : decode cX12_starts 17 = .ok (.putfield 177, 3) := by decide +kernel
theorem dX12_starts_20 : decode cX12_starts 20 = .ok (.aload_n 0, 1) := by decide +kernel
theorem dX12_starts_21 : decode cX12_starts 21 = .ok (.iconst (-1), 1) := by decide +kernel
theorem dX12_starts_22 : decode cX12_starts 22 = .ok (.putfield 46, 3) := by decide +kernel
theorem dX12_starts_25 : decode cX12_starts 25 = .ok (.aload_n 0, 1) := by decide +kernel
theorem dX12_starts_26 : decode cX12_starts 26 = .ok (.invokevirtual 180, 3) := by decide +kernel
theorem dX12_starts_29 : decode cX12_starts 29 = .ok (.return_, 1) := by decide +kernel
theorem dX12_wrongs_0 : decode cX12_wrongs 0 = .ok (.aload_n 0, 1) := by decide +kernel
theorem dX12_wrongs_1 : decode cX12_wrongs 1 = .ok (.getfield 177, 3) := by decide +kernel
theorem dX12_wrongs_4 : decode cX12_wrongs 4 = .ok (.ifCond .ne 16, 3) := by decide +kernel
theorem dX12_wrongs_7 : decode cX12_wrongs 7 = .ok (.aload_n 0, 1) := by decide +kernel
theorem dX12_wrongs_8 : decode cX12_wrongs 8 = .ok (.iload_n 1, 1) := by decide +kernel
theorem dX12_wrongs_9 : decode cX12_wrongs 9 = .ok (.putfield 177, 3) := by decide +kernel
theorem dX12_wrongs_12 : decode cX12_wrongs 12 = .ok (.aload_n 0, 1) := by decide +kernel
theorem dX12_wrongs_13 : decode cX12_wrongs 13 = .ok (.aload_n 0, 1) := by decide +kernel
theorem dX12_wrongs_14 : decode cX12_wrongs 14 = .ok (.getfield 154, 3) := by decide +kernel
theorem dX12_wrongs_17 : decode cX12_wrongs 17 = .ok (.putfield 46, 3) := by decide +kernel
theorem dX12_wrongs_20 : decode cX12_wrongs 20 = .ok (.iconst 0, 1) := by decide +kernel
theorem dX12_wrongs_21 : decode cX12_wrongs 21 = .ok (.ireturn, 1) := by decide +kernel
theorem dX12_isGood_0 : decode cX12_isGood 0 = .ok (.aload_n 0, 1) := by decide +kernel
theorem dX12_isGood_1 : decode cX12_isGood 1 = .ok (.getfield 177, 3) := by decide +kernel
theorem dX12_isGood_4 : decode cX12_isGood 4 = .ok (.ifCond .ne 7, 3) := by decide +kernel
theorem dX12_isGood_7 : decode cX12_isGood 7 = .ok (.iconst 1, 1) := by decide +kernel
theorem dX12_isGood_8 : decode cX12_isGood 8 = .ok (.goto 4, 3) := by decide +kernel
theorem dX12_isGood_11 : decode cX12_isGood 11 = .ok (.iconst 0, 1) := by decide +kernel
theorem dX12_isGood_12 : decode cX12_isGood 12 = .ok (.ireturn, 1) := by decide +kernel
theorem dX12_isWord_0 : decode cX12_isWord 0 = .ok (.aload_n 0, 1) := by decide +kernel
theorem dX12_isWord_1 : decode cX12_isWord 1 = .ok (.invokevirtual 183, 3) := by decide +kernel
theorem dX12_isWord_4 : decode cX12_isWord 4 = .ok (.ifCond .eq 38, 3) := by decide +kernel
theorem dX12_isWord_7 : decode cX12_isWord 7 = .ok (.aload_n 0, 1) := by decide +kernel
theorem dX12_isWord_8 : decode cX12_isWord 8 = .ok (.getfield 161, 3) := by decide +kernel
theorem dX12_isWord_11 : decode cX12_isWord 11 = .ok (.iconst 1, 1) := by decide +kernel
theorem dX12_isWord_12 : decode cX12_isWord 12 = .ok (.if_icmp .ne 30, 3) := by decide +kernel
theorem dX12_isWord_15 : decode cX12_isWord 15 = .ok (.aload_n 0, 1) := by decide +kernel
theorem dX12_isWord_16 : decode cX12_isWord 16 = .ok (.getfield 143, 3) := by decide +kernel
theorem dX12_isWord_19 : decode cX12_isWord 19 = .ok (.aload_n 0, 1) := by decide +kernel
theorem dX12_isWord_20 : decode cX12_isWord 20 = .ok (.getfield 154, 3) := by decide +kernel
theorem dX12_isWord_23 : decode cX12_isWord 23 = .ok (.isub, 1) := by decide +kernel
theorem dX12_isWord_24 : decode cX12_isWord 24 = .ok (.bipush 10, 2) := by decide +kernel
theorem dX12_isWord_26 : decode cX12_isWord 26 = .ok (.if_icmp .gt 16, 3) := by decide +kernel
theorem dX12_isWord_29 : decode cX12_isWord 29 = .ok (.aload_n 0, 1) := by decide +kernel
theorem dX12_isWord_30 : decode cX12_isWord 30 = .ok (.getfield 139, 3) := by decide +kernel
theorem dX12_isWord_33 : decode cX12_isWord 33 = .ok (.lload_n 1, 1) := by decide +kernel
theorem dX12_isWord_34 : decode cX12_isWord 34 = .ok (.lcmp, 1) := by decide +kernel
theorem dX12_isWord_35 : decode cX12_isWord 35 = .ok (.ifCond .ne 7, 3) := by decide +kernel
theorem dX12_isWord_38 : decode cX12_isWord 38 = .ok (.iconst 1, 1) := by decide +kernel
theorem dX12_isWord_39 : decode cX12_isWord 39 = .ok (.goto 4, 3) := by decide +kernel
theorem dX12_isWord_42 : decode cX12_isWord 42 = .ok (.iconst 0, 1) := by decide +kernel
theorem dX12_isWord_43 : decode cX12_isWord 43 = .ok (.ireturn, 1) := by decide +kernel
theorem dX12_passes_0 : decode cX12_passes 0 = .ok (.aload_n 0, 1) := by decide +kernel
theorem dX12_passes_1 : decode cX12_passes 1 = .ok (.lload_n 1, 1) := by decide +kernel
theorem dX12_passes_2 : decode cX12_passes 2 = .ok (.invokevirtual 187, 3) := by decide +kernel
theorem dX12_passes_5 : decode cX12_passes 5 = .ok (.ifCond .ne 5, 3) := by decide +kernel
theorem dX12_passes_8 : decode cX12_passes 8 = .ok (.iconst 0, 1) := by decide +kernel
theorem dX12_passes_9 : decode cX12_passes 9 = .ok (.ireturn, 1) := by decide +kernel
theorem dX12_passes_10 : decode cX12_passes 10 = .ok (.aload_n 0, 1) := by decide +kernel
theorem dX12_passes_11 : decode cX12_passes 11 = .ok (.invokevirtual 180, 3) := by decide +kernel
theorem dX12_passes_14 : decode cX12_passes 14 = .ok (.iconst 1, 1) := by decide +kernel
theorem dX12_passes_15 : decode cX12_passes 15 = .ok (.ireturn, 1) := by decide +kernel
theorem dX12_isByte_0 : decode cX12_isByte 0 = .ok (.aload_n 0, 1) := by decide +kernel
theorem dX12_isByte_1 : decode cX12_isByte 1 = .ok (.invokevirtual 183, 3) := by decide +kernel
theorem dX12_isByte_4 : decode cX12_isByte 4 = .ok (.ifCond .eq 28, 3) := by decide +kernel
theorem dX12_isByte_7 : decode cX12_isByte 7 = .ok (.aload_n 0, 1) := by decide +kernel
theorem dX12_isByte_8 : decode cX12_isByte 8 = .ok (.getfield 161, 3) := by decide +kernel
theorem dX12_isByte_11 : decode cX12_isByte 11 = .ok (.iconst 3, 1) := by decide +kernel
theorem dX12_isByte_12 : decode cX12_isByte 12 = .ok (.if_icmp .ne 20, 3) := by decide +kernel
theorem dX12_isByte_15 : decode cX12_isByte 15 = .ok (.aload_n 0, 1) := by decide +kernel
theorem dX12_isByte_16 : decode cX12_isByte 16 = .ok (.getfield 43, 3) := by decide +kernel
theorem dX12_isByte_19 : decode cX12_isByte 19 = .ok (.aload_n 0, 1) := by decide +kernel
theorem dX12_isByte_20 : decode cX12_isByte 20 = .ok (.getfield 154, 3) := by decide +kernel
theorem dX12_isByte_23 : decode cX12_isByte 23 = .ok (.iaload, 1) := by decide +kernel
theorem dX12_isByte_24 : decode cX12_isByte 24 = .ok (.iload_n 1, 1) := by decide +kernel
theorem dX12_isByte_25 : decode cX12_isByte 25 = .ok (.if_icmp .ne 7, 3) := by decide +kernel
theorem dX12_isByte_28 : decode cX12_isByte 28 = .ok (.iconst 1, 1) := by decide +kernel
theorem dX12_isByte_29 : decode cX12_isByte 29 = .ok (.goto 4, 3) := by decide +kernel
theorem dX12_isByte_32 : decode cX12_isByte 32 = .ok (.iconst 0, 1) := by decide +kernel
theorem dX12_isByte_33 : decode cX12_isByte 33 = .ok (.ireturn, 1) := by decide +kernel
theorem dX12_must_0 : decode cX12_must 0 = .ok (.aload_n 0, 1) := by decide +kernel
theorem dX12_must_1 : decode cX12_must 1 = .ok (.invokevirtual 183, 3) := by decide +kernel
theorem dX12_must_4 : decode cX12_must 4 = .ok (.ifCond .ne 4, 3) := by decide +kernel
theorem dX12_must_7 : decode cX12_must 7 = .ok (.return_, 1) := by decide +kernel
theorem dX12_must_8 : decode cX12_must 8 = .ok (.aload_n 0, 1) := by decide +kernel
theorem dX12_must_9 : decode cX12_must 9 = .ok (.iload_n 1, 1) := by decide +kernel
theorem dX12_must_10 : decode cX12_must 10 = .ok (.invokevirtual 191, 3) := by decide +kernel
theorem dX12_must_13 : decode cX12_must 13 = .ok (.ifCond .eq 10, 3) := by decide +kernel
theorem dX12_must_16 : decode cX12_must 16 = .ok (.aload_n 0, 1) := by decide +kernel
theorem dX12_must_17 : decode cX12_must 17 = .ok (.invokevirtual 180, 3) := by decide +kernel
theorem dX12_must_20 : decode cX12_must 20 = .ok (.goto 9, 3) := by decide +kernel
theorem dX12_must_23 : decode cX12_must 23 = .ok (.aload_n 0, 1) := by decide +kernel
theorem dX12_must_24 : decode cX12_must 24 = .ok (.iconst 1, 1) := by decide +kernel
theorem dX12_must_25 : decode cX12_must 25 = .ok (.invokevirtual 194, 3) := by decide +kernel
theorem dX12_must_28 : decode cX12_must 28 = .ok (.pop, 1) := by decide +kernel
theorem dX12_must_29 : decode cX12_must 29 = .ok (.return_, 1) := by decide +kernel
theorem dX12_number_0 : decode cX12_number 0 = .ok (.aload_n 0, 1) := by decide +kernel
theorem dX12_number_1 : decode cX12_number 1 = .ok (.invokevirtual 183, 3) := by decide +kernel
theorem dX12_number_4 : decode cX12_number 4 = .ok (.ifCond .ne 5, 3) := by decide +kernel
theorem dX12_number_7 : decode cX12_number 7 = .ok (.iload_n 1, 1) := by decide +kernel
theorem dX12_number_8 : decode cX12_number 8 = .ok (.ireturn, 1) := by decide +kernel
theorem dX12_number_9 : decode cX12_number 9 = .ok (.aload_n 0, 1) := by decide +kernel
theorem dX12_number_10 : decode cX12_number 10 = .ok (.getfield 161, 3) := by decide +kernel
theorem dX12_number_13 : decode cX12_number 13 = .ok (.iconst 2, 1) := by decide +kernel
theorem dX12_number_14 : decode cX12_number 14 = .ok (.if_icmp .eq 12, 3) := by decide +kernel
theorem dX12_number_17 : decode cX12_number 17 = .ok (.aload_n 0, 1) := by decide +kernel
theorem dX12_number_18 : decode cX12_number 18 = .ok (.iconst 1, 1) := by decide +kernel
theorem dX12_number_19 : decode cX12_number 19 = .ok (.invokevirtual 194, 3) := by decide +kernel
theorem dX12_number_22 : decode cX12_number 22 = .ok (.pop, 1) := by decide +kernel
theorem dX12_number_23 : decode cX12_number 23 = .ok (.goto 24, 3) := by decide +kernel
theorem dX12_number_26 : decode cX12_number 26 = .ok (.aload_n 0, 1) := by decide +kernel
theorem dX12_number_27 : decode cX12_number 27 = .ok (.getfield 164, 3) := by decide +kernel
theorem dX12_number_30 : decode cX12_number 30 = .ok (.i2l, 1) := by decide +kernel
theorem dX12_number_31 : decode cX12_number 31 = .ok (.iload_n 1, 1) := by decide +kernel
theorem dX12_number_32 : decode cX12_number 32 = .ok (.i2l, 1) := by decide +kernel
theorem dX12_number_33 : decode cX12_number 33 = .ok (.iload_n 2, 1) := by decide +kernel
theorem dX12_number_34 : decode cX12_number 34 = .ok (.i2l, 1) := by decide +kernel
theorem dX12_number_35 : decode cX12_number 35 = .ok (.invokestatic 197, 3) := by decide +kernel
theorem dX12_number_38 : decode cX12_number 38 = .ok (.ifCond .ne 9, 3) := by decide +kernel
theorem dX12_number_41 : decode cX12_number 41 = .ok (.aload_n 0, 1) := by decide +kernel
theorem dX12_number_42 : decode cX12_number 42 = .ok (.iconst 2, 1) := by decide +kernel
theorem dX12_number_43 : decode cX12_number 43 = .ok (.invokevirtual 194, 3) := by decide +kernel
theorem dX12_number_46 : decode cX12_number 46 = .ok (.pop, 1) := by decide +kernel
theorem dX12_number_47 : decode cX12_number 47 = .ok (.aload_n 0, 1) := by decide +kernel
theorem dX12_number_48 : decode cX12_number 48 = .ok (.invokevirtual 183, 3) := by decide +kernel
theorem dX12_number_51 : decode cX12_number 51 = .ok (.ifCond .ne 5, 3) := by decide +kernel
theorem dX12_number_54 : decode cX12_number 54 = .ok (.iload_n 1, 1) := by decide +kernel
theorem dX12_number_55 : decode cX12_number 55 = .ok (.ireturn, 1) := by decide +kernel
theorem dX12_number_56 : decode cX12_number 56 = .ok (.aload_n 0, 1) := by decide +kernel
theorem dX12_number_57 : decode cX12_number 57 = .ok (.getfield 164, 3) := by decide +kernel
theorem dX12_number_60 : decode cX12_number 60 = .ok (.istore_n 3, 1) := by decide +kernel
theorem dX12_number_61 : decode cX12_number 61 = .ok (.aload_n 0, 1) := by decide +kernel
theorem dX12_number_62 : decode cX12_number 62 = .ok (.invokevirtual 180, 3) := by decide +kernel
theorem dX12_number_65 : decode cX12_number 65 = .ok (.iload_n 3, 1) := by decide +kernel
theorem dX12_number_66 : decode cX12_number 66 = .ok (.ireturn, 1) := by decide +kernel
theorem dX12_ruleHere_0 : decode cX12_ruleHere 0 = .ok (.aload_n 0, 1) := by decide +kernel
theorem dX12_ruleHere_1 : decode cX12_ruleHere 1 = .ok (.ldc2_w 201, 3) := by decide +kernel
theorem dX12_ruleHere_4 : decode cX12_ruleHere 4 = .ok (.invokevirtual 187, 3) := by decide +kernel
theorem dX12_ruleHere_7 : decode cX12_ruleHere 7 = .ok (.ifCond .eq 5, 3) := by decide +kernel
theorem dX12_ruleHere_10 : decode cX12_ruleHere 10 = .ok (.iconst 0, 1) := by decide +kernel
theorem dX12_ruleHere_11 : decode cX12_ruleHere 11 = .ok (.ireturn, 1) := by decide +kernel
theorem dX12_ruleHere_12 : decode cX12_ruleHere 12 = .ok (.aload_n 0, 1) := by decide +kernel
theorem dX12_ruleHere_13 : decode cX12_ruleHere 13 = .ok (.ldc2_w 203, 3) := by decide +kernel
theorem dX12_ruleHere_16 : decode cX12_ruleHere 16 = .ok (.invokevirtual 187, 3) := by decide +kernel
theorem dX12_ruleHere_19 : decode cX12_ruleHere 19 = .ok (.ifCond .eq 5, 3) := by decide +kernel
theorem dX12_ruleHere_22 : decode cX12_ruleHere 22 = .ok (.iconst 1, 1) := by decide +kernel
theorem dX12_ruleHere_23 : decode cX12_ruleHere 23 = .ok (.ireturn, 1) := by decide +kernel
theorem dX12_ruleHere_24 : decode cX12_ruleHere 24 = .ok (.aload_n 0, 1) := by decide +kernel
theorem dX12_ruleHere_25 : decode cX12_ruleHere 25 = .ok (.ldc2_w 205, 3) := by decide +kernel
theorem dX12_ruleHere_28 : decode cX12_ruleHere 28 = .ok (.invokevirtual 187, 3) := by decide +kernel
theorem dX12_ruleHere_31 : decode cX12_ruleHere 31 = .ok (.ifCond .eq 5, 3) := by decide +kernel
theorem dX12_ruleHere_34 : decode cX12_ruleHere 34 = .ok (.iconst 2, 1) := by decide +kernel
theorem dX12_ruleHere_35 : decode cX12_ruleHere 35 = .ok (.ireturn, 1) := by decide +kernel
theorem dX12_ruleHere_36 : decode cX12_ruleHere 36 = .ok (.aload_n 0, 1) := by decide +kernel
theorem dX12_ruleHere_37 : decode cX12_ruleHere 37 = .ok (.ldc2_w 207, 3) := by decide +kernel
theorem dX12_ruleHere_40 : decode cX12_ruleHere 40 = .ok (.invokevirtual 187, 3) := by decide +kernel
theorem dX12_ruleHere_43 : decode cX12_ruleHere 43 = .ok (.ifCond .eq 5, 3) := by decide +kernel
theorem dX12_ruleHere_46 : decode cX12_ruleHere 46 = .ok (.iconst 3, 1) := by decide +kernel
theorem dX12_ruleHere_47 : decode cX12_ruleHere 47 = .ok (.ireturn, 1) := by decide +kernel
theorem dX12_ruleHere_48 : decode cX12_ruleHere 48 = .ok (.aload_n 0, 1) := by decide +kernel
theorem dX12_ruleHere_49 : decode cX12_ruleHere 49 = .ok (.ldc2_w 209, 3) := by decide +kernel
theorem dX12_ruleHere_52 : decode cX12_ruleHere 52 = .ok (.invokevirtual 187, 3) := by decide +kernel
theorem dX12_ruleHere_55 : decode cX12_ruleHere 55 = .ok (.ifCond .eq 5, 3) := by decide +kernel
theorem dX12_ruleHere_58 : decode cX12_ruleHere 58 = .ok (.iconst 4, 1) := by decide +kernel
theorem dX12_ruleHere_59 : decode cX12_ruleHere 59 = .ok (.ireturn, 1) := by decide +kernel
theorem dX12_ruleHere_60 : decode cX12_ruleHere 60 = .ok (.aload_n 0, 1) := by decide +kernel
theorem dX12_ruleHere_61 : decode cX12_ruleHere 61 = .ok (.ldc2_w 211, 3) := by decide +kernel
theorem dX12_ruleHere_64 : decode cX12_ruleHere 64 = .ok (.invokevirtual 187, 3) := by decide +kernel
theorem dX12_ruleHere_67 : decode cX12_ruleHere 67 = .ok (.ifCond .eq 5, 3) := by decide +kernel
theorem dX12_ruleHere_70 : decode cX12_ruleHere 70 = .ok (.iconst 5, 1) := by decide +kernel
theorem dX12_ruleHere_71 : decode cX12_ruleHere 71 = .ok (.ireturn, 1) := by decide +kernel
theorem dX12_ruleHere_72 : decode cX12_ruleHere 72 = .ok (.aload_n 0, 1) := by decide +kernel
theorem dX12_ruleHere_73 : decode cX12_ruleHere 73 = .ok (.ldc2_w 213, 3) := by decide +kernel
theorem dX12_ruleHere_76 : decode cX12_ruleHere 76 = .ok (.invokevirtual 187, 3) := by decide +kernel
theorem dX12_ruleHere_79 : decode cX12_ruleHere 79 = .ok (.ifCond .eq 8, 3) := by decide +kernel
theorem dX12_ruleHere_82 : decode cX12_ruleHere 82 = .ok (.bipush 6, 2) := by decide +kernel
theorem dX12_ruleHere_84 : decode cX12_ruleHere 84 = .ok (.goto 4, 3) := by decide +kernel
theorem dX12_ruleHere_87 : decode cX12_ruleHere 87 = .ok (.iconst (-1), 1) := by decide +kernel
theorem dX12_ruleHere_88 : decode cX12_ruleHere 88 = .ok (.ireturn, 1) := by decide +kernel
theorem dX12_roadRead_0 : decode cX12_roadRead 0 = .ok (.aload_n 0, 1) := by decide +kernel
theorem dX12_roadRead_1 : decode cX12_roadRead 1 = .ok (.iconst 0, 1) := by decide +kernel
theorem dX12_roadRead_2 : decode cX12_roadRead 2 = .ok (.aload_n 0, 1) := by decide +kernel
theorem dX12_roadRead_3 : decode cX12_roadRead 3 = .ok (.getfield 96, 3) := by decide +kernel
theorem dX12_roadRead_6 : decode cX12_roadRead 6 = .ok (.iconst 1, 1) := by decide +kernel
theorem dX12_roadRead_7 : decode cX12_roadRead 7 = .ok (.isub, 1) := by decide +kernel
theorem dX12_roadRead_8 : decode cX12_roadRead 8 = .ok (.invokevirtual 215, 3) := by decide +kernel
theorem dX12_roadRead_11 : decode cX12_roadRead 11 = .ok (.istore_n 1, 1) := by decide +kernel
theorem dX12_roadRead_12 : decode cX12_roadRead 12 = .ok (.aload_n 0, 1) := by decide +kernel
theorem dX12_roadRead_13 : decode cX12_roadRead 13 = .ok (.invokevirtual 183, 3) := by decide +kernel
theorem dX12_roadRead_16 : decode cX12_roadRead 16 = .ok (.ifCond .eq 61, 3) := by decide +kernel
theorem dX12_roadRead_19 : decode cX12_roadRead 19 = .ok (.aload_n 0, 1) := by decide +kernel
theorem dX12_roadRead_20 : decode cX12_roadRead 20 = .ok (.getfield 161, 3) := by decide +kernel
theorem dX12_roadRead_23 : decode cX12_roadRead 23 = .ok (.iconst 2, 1) := by decide +kernel
theorem dX12_roadRead_24 : decode cX12_roadRead 24 = .ok (.if_icmp .ne 53, 3) := by decide +kernel
theorem dX12_roadRead_27 : decode cX12_roadRead 27 = .ok (.aload_n 0, 1) := by decide +kernel
theorem dX12_roadRead_28 : decode cX12_roadRead 28 = .ok (.getfield 164, 3) := by decide +kernel
theorem dX12_roadRead_31 : decode cX12_roadRead 31 = .ok (.i2l, 1) := by decide +kernel
theorem dX12_roadRead_32 : decode cX12_roadRead 32 = .ok (.lconst 0, 1) := by decide +kernel
theorem dX12_roadRead_33 : decode cX12_roadRead 33 = .ok (.aload_n 0, 1) := by decide +kernel
theorem dX12_roadRead_34 : decode cX12_roadRead 34 = .ok (.getfield 96, 3) := by decide +kernel
theorem dX12_roadRead_37 : decode cX12_roadRead 37 = .ok (.iconst 1, 1) := by decide +kernel
theorem dX12_roadRead_38 : decode cX12_roadRead 38 = .ok (.isub, 1) := by decide +kernel
theorem dX12_roadRead_39 : decode cX12_roadRead 39 = .ok (.i2l, 1) := by decide +kernel
theorem dX12_roadRead_40 : decode cX12_roadRead 40 = .ok (.invokestatic 197, 3) := by decide +kernel
theorem dX12_roadRead_43 : decode cX12_roadRead 43 = .ok (.ifCond .eq 34, 3) := by decide +kernel
theorem dX12_roadRead_46 : decode cX12_roadRead 46 = .ok (.aload_n 0, 1) := by decide +kernel
theorem dX12_roadRead_47 : decode cX12_roadRead 47 = .ok (.getfield 164, 3) := by decide +kernel
theorem dX12_roadRead_50 : decode cX12_roadRead 50 = .ok (.iload_n 1, 1) := by decide +kernel
theorem dX12_roadRead_51 : decode cX12_roadRead 51 = .ok (.if_icmp .eq 20, 3) := by decide +kernel
theorem dX12_roadRead_54 : decode cX12_roadRead 54 = .ok (.aload_n 0, 1) := by decide +kernel
theorem dX12_roadRead_55 : decode cX12_roadRead 55 = .ok (.getfield 22, 3) := by decide +kernel
theorem dX12_roadRead_58 : decode cX12_roadRead 58 = .ok (.bipush 8, 2) := by decide +kernel
theorem dX12_roadRead_60 : decode cX12_roadRead 60 = .ok (.iload_n 1, 1) := by decide +kernel
theorem dX12_roadRead_61 : decode cX12_roadRead 61 = .ok (.imul, 1) := by decide +kernel
theorem dX12_roadRead_62 : decode cX12_roadRead 62 = .ok (.aload_n 0, 1) := by decide +kernel
theorem dX12_roadRead_63 : decode cX12_roadRead 63 = .ok (.getfield 164, 3) := by decide +kernel
theorem dX12_roadRead_66 : decode cX12_roadRead 66 = .ok (.iadd, 1) := by decide +kernel
theorem dX12_roadRead_67 : decode cX12_roadRead 67 = .ok (.iaload, 1) := by decide +kernel
theorem dX12_roadRead_68 : decode cX12_roadRead 68 = .ok (.ifCond .lt 9, 3) := by decide +kernel
theorem dX12_roadRead_71 : decode cX12_roadRead 71 = .ok (.aload_n 0, 1) := by decide +kernel
theorem dX12_roadRead_72 : decode cX12_roadRead 72 = .ok (.iconst 4, 1) := by decide +kernel
theorem dX12_roadRead_73 : decode cX12_roadRead 73 = .ok (.invokevirtual 194, 3) := by decide +kernel
theorem dX12_roadRead_76 : decode cX12_roadRead 76 = .ok (.pop, 1) := by decide +kernel
theorem dX12_roadRead_77 : decode cX12_roadRead 77 = .ok (.aload_n 0, 1) := by decide +kernel
theorem dX12_roadRead_78 : decode cX12_roadRead 78 = .ok (.iconst 0, 1) := by decide +kernel
theorem dX12_roadRead_79 : decode cX12_roadRead 79 = .ok (.aload_n 0, 1) := by decide +kernel
theorem dX12_roadRead_80 : decode cX12_roadRead 80 = .ok (.getfield 96, 3) := by decide +kernel
theorem dX12_roadRead_83 : decode cX12_roadRead 83 = .ok (.iconst 1, 1) := by decide +kernel
theorem dX12_roadRead_84 : decode cX12_roadRead 84 = .ok (.isub, 1) := by decide +kernel
theorem dX12_roadRead_85 : decode cX12_roadRead 85 = .ok (.invokevirtual 215, 3) := by decide +kernel
theorem dX12_roadRead_88 : decode cX12_roadRead 88 = .ok (.istore_n 2, 1) := by decide +kernel
theorem dX12_roadRead_89 : decode cX12_roadRead 89 = .ok (.aload_n 0, 1) := by decide +kernel
theorem dX12_roadRead_90 : decode cX12_roadRead 90 = .ok (.iconst 1, 1) := by decide +kernel
theorem dX12_roadRead_91 : decode cX12_roadRead 91 = .ok (.bipush 99, 2) := by decide +kernel
theorem dX12_roadRead_93 : decode cX12_roadRead 93 = .ok (.invokevirtual 215, 3) := by decide +kernel
theorem dX12_roadRead_96 : decode cX12_roadRead 96 = .ok (.istore_n 3, 1) := by decide +kernel
theorem dX12_roadRead_97 : decode cX12_roadRead 97 = .ok (.aload_n 0, 1) := by decide +kernel
theorem dX12_roadRead_98 : decode cX12_roadRead 98 = .ok (.invokevirtual 183, 3) := by decide +kernel
theorem dX12_roadRead_101 : decode cX12_roadRead 101 = .ok (.ifCond .ne 4, 3) := by decide +kernel
theorem dX12_roadRead_104 : decode cX12_roadRead 104 = .ok (.return_, 1) := by decide +kernel
theorem dX12_roadRead_105 : decode cX12_roadRead 105 = .ok (.aload_n 0, 1) := by decide +kernel
theorem dX12_roadRead_106 : decode cX12_roadRead 106 = .ok (.getfield 22, 3) := by decide +kernel
theorem dX12_roadRead_109 : decode cX12_roadRead 109 = .ok (.bipush 8, 2) := by decide +kernel
theorem dX12_roadRead_111 : decode cX12_roadRead 111 = .ok (.iload_n 1, 1) := by decide +kernel
theorem dX12_roadRead_112 : decode cX12_roadRead 112 = .ok (.imul, 1) := by decide +kernel
theorem dX12_roadRead_113 : decode cX12_roadRead 113 = .ok (.iload_n 2, 1) := by decide +kernel
theorem dX12_roadRead_114 : decode cX12_roadRead 114 = .ok (.iadd, 1) := by decide +kernel
theorem dX12_roadRead_115 : decode cX12_roadRead 115 = .ok (.iload_n 3, 1) := by decide +kernel
theorem dX12_roadRead_116 : decode cX12_roadRead 116 = .ok (.iastore, 1) := by decide +kernel
theorem dX12_roadRead_117 : decode cX12_roadRead 117 = .ok (.aload_n 0, 1) := by decide +kernel
theorem dX12_roadRead_118 : decode cX12_roadRead 118 = .ok (.getfield 22, 3) := by decide +kernel
theorem dX12_roadRead_121 : decode cX12_roadRead 121 = .ok (.bipush 8, 2) := by decide +kernel
theorem dX12_roadRead_123 : decode cX12_roadRead 123 = .ok (.iload_n 2, 1) := by decide +kernel
theorem dX12_roadRead_124 : decode cX12_roadRead 124 = .ok (.imul, 1) := by decide +kernel
theorem dX12_roadRead_125 : decode cX12_roadRead 125 = .ok (.iload_n 1, 1) := by decide +kernel
theorem dX12_roadRead_126 : decode cX12_roadRead 126 = .ok (.iadd, 1) := by decide +kernel
theorem dX12_roadRead_127 : decode cX12_roadRead 127 = .ok (.iload_n 3, 1) := by decide +kernel
theorem dX12_roadRead_128 : decode cX12_roadRead 128 = .ok (.iastore, 1) := by decide +kernel
theorem dX12_roadRead_129 : decode cX12_roadRead 129 = .ok (.aload_n 0, 1) := by decide +kernel
theorem dX12_roadRead_130 : decode cX12_roadRead 130 = .ok (.dup, 1) := by decide +kernel
theorem dX12_roadRead_131 : decode cX12_roadRead 131 = .ok (.getfield 99, 3) := by decide +kernel
theorem dX12_roadRead_134 : decode cX12_roadRead 134 = .ok (.iconst 1, 1) := by decide +kernel
theorem dX12_roadRead_135 : decode cX12_roadRead 135 = .ok (.iadd, 1) := by decide +kernel
theorem dX12_roadRead_136 : decode cX12_roadRead 136 = .ok (.putfield 99, 3) := by decide +kernel
theorem dX12_roadRead_139 : decode cX12_roadRead 139 = .ok (.return_, 1) := by decide +kernel
theorem dX12_taxiRead_0 : decode cX12_taxiRead 0 = .ok (.aload_n 0, 1) := by decide +kernel
theorem dX12_taxiRead_1 : decode cX12_taxiRead 1 = .ok (.iconst 1, 1) := by decide +kernel
theorem dX12_taxiRead_2 : decode cX12_taxiRead 2 = .ok (.bipush 6, 2) := by decide +kernel
theorem dX12_taxiRead_4 : decode cX12_taxiRead 4 = .ok (.invokevirtual 215, 3) := by decide +kernel
theorem dX12_taxiRead_7 : decode cX12_taxiRead 7 = .ok (.istore_n 1, 1) := by decide +kernel
theorem dX12_taxiRead_8 : decode cX12_taxiRead 8 = .ok (.aload_n 0, 1) := by decide +kernel
theorem dX12_taxiRead_9 : decode cX12_taxiRead 9 = .ok (.iconst 0, 1) := by decide +kernel
theorem dX12_taxiRead_10 : decode cX12_taxiRead 10 = .ok (.aload_n 0, 1) := by decide +kernel
theorem dX12_taxiRead_11 : decode cX12_taxiRead 11 = .ok (.getfield 96, 3) := by decide +kernel
theorem dX12_taxiRead_14 : decode cX12_taxiRead 14 = .ok (.iconst 1, 1) := by decide +kernel
theorem dX12_taxiRead_15 : decode cX12_taxiRead 15 = .ok (.isub, 1) := by decide +kernel
theorem dX12_taxiRead_16 : decode cX12_taxiRead 16 = .ok (.invokevirtual 215, 3) := by decide +kernel
theorem dX12_taxiRead_19 : decode cX12_taxiRead 19 = .ok (.istore_n 2, 1) := by decide +kernel
theorem dX12_taxiRead_20 : decode cX12_taxiRead 20 = .ok (.aload_n 0, 1) := by decide +kernel
theorem dX12_taxiRead_21 : decode cX12_taxiRead 21 = .ok (.iconst 0, 1) := by decide +kernel
theorem dX12_taxiRead_22 : decode cX12_taxiRead 22 = .ok (.sipush 2879, 3) := by decide +kernel
theorem dX12_taxiRead_25 : decode cX12_taxiRead 25 = .ok (.invokevirtual 215, 3) := by decide +kernel
theorem dX12_taxiRead_28 : decode cX12_taxiRead 28 = .ok (.istore_n 3, 1) := by decide +kernel
theorem dX12_taxiRead_29 : decode cX12_taxiRead 29 = .ok (.aload_n 0, 1) := by decide +kernel
theorem dX12_taxiRead_30 : decode cX12_taxiRead 30 = .ok (.invokevirtual 183, 3) := by decide +kernel
theorem dX12_taxiRead_33 : decode cX12_taxiRead 33 = .ok (.ifCond .eq 40, 3) := by decide +kernel
theorem dX12_taxiRead_36 : decode cX12_taxiRead 36 = .ok (.aload_n 0, 1) := by decide +kernel
theorem dX12_taxiRead_37 : decode cX12_taxiRead 37 = .ok (.getfield 161, 3) := by decide +kernel
theorem dX12_taxiRead_40 : decode cX12_taxiRead 40 = .ok (.iconst 2, 1) := by decide +kernel
theorem dX12_taxiRead_41 : decode cX12_taxiRead 41 = .ok (.if_icmp .ne 32, 3) := by decide +kernel
theorem dX12_taxiRead_44 : decode cX12_taxiRead 44 = .ok (.aload_n 0, 1) := by decide +kernel
theorem dX12_taxiRead_45 : decode cX12_taxiRead 45 = .ok (.getfield 164, 3) := by decide +kernel
theorem dX12_taxiRead_48 : decode cX12_taxiRead 48 = .ok (.i2l, 1) := by decide +kernel
theorem dX12_taxiRead_49 : decode cX12_taxiRead 49 = .ok (.lconst 0, 1) := by decide +kernel
theorem dX12_taxiRead_50 : decode cX12_taxiRead 50 = .ok (.ldc2_w 219, 3) := by decide +kernel
theorem dX12_taxiRead_53 : decode cX12_taxiRead 53 = .ok (.invokestatic 197, 3) := by decide +kernel
theorem dX12_taxiRead_56 : decode cX12_taxiRead 56 = .ok (.ifCond .eq 17, 3) := by decide +kernel
theorem dX12_taxiRead_59 : decode cX12_taxiRead 59 = .ok (.aload_n 0, 1) := by decide +kernel
theorem dX12_taxiRead_60 : decode cX12_taxiRead 60 = .ok (.getfield 164, 3) := by decide +kernel
theorem dX12_taxiRead_63 : decode cX12_taxiRead 63 = .ok (.iload_n 3, 1) := by decide +kernel
theorem dX12_taxiRead_64 : decode cX12_taxiRead 64 = .ok (.if_icmp .gt 9, 3) := by decide +kernel
theorem dX12_taxiRead_67 : decode cX12_taxiRead 67 = .ok (.aload_n 0, 1) := by decide +kernel
theorem dX12_taxiRead_68 : decode cX12_taxiRead 68 = .ok (.iconst 4, 1) := by decide +kernel
theorem dX12_taxiRead_69 : decode cX12_taxiRead 69 = .ok (.invokevirtual 194, 3) := by decide +kernel
theorem dX12_taxiRead_72 : decode cX12_taxiRead 72 = .ok (.pop, 1) := by decide +kernel
theorem dX12_taxiRead_73 : decode cX12_taxiRead 73 = .ok (.aload_n 0, 1) := by decide +kernel
theorem dX12_taxiRead_74 : decode cX12_taxiRead 74 = .ok (.iconst 0, 1) := by decide +kernel
theorem dX12_taxiRead_75 : decode cX12_taxiRead 75 = .ok (.sipush 2879, 3) := by decide +kernel
theorem dX12_taxiRead_78 : decode cX12_taxiRead 78 = .ok (.invokevirtual 215, 3) := by decide +kernel
theorem dX12_taxiRead_81 : decode cX12_taxiRead 81 = .ok (.istore 4, 2) := by decide +kernel
theorem dX12_taxiRead_83 : decode cX12_taxiRead 83 = .ok (.aload_n 0, 1) := by decide +kernel
theorem dX12_taxiRead_84 : decode cX12_taxiRead 84 = .ok (.invokevirtual 183, 3) := by decide +kernel
theorem dX12_taxiRead_87 : decode cX12_taxiRead 87 = .ok (.ifCond .ne 4, 3) := by decide +kernel
theorem dX12_taxiRead_90 : decode cX12_taxiRead 90 = .ok (.return_, 1) := by decide +kernel
theorem dX12_taxiRead_91 : decode cX12_taxiRead 91 = .ok (.bipush 13, 2) := by decide +kernel
theorem dX12_taxiRead_93 : decode cX12_taxiRead 93 = .ok (.bipush 40, 2) := by decide +kernel
theorem dX12_taxiRead_95 : decode cX12_taxiRead 95 = .ok (.aload_n 0, 1) := by decide +kernel
theorem dX12_taxiRead_96 : decode cX12_taxiRead 96 = .ok (.getfield 102, 3) := by decide +kernel
theorem dX12_taxiRead_99 : decode cX12_taxiRead 99 = .ok (.imul, 1) := by decide +kernel
theorem dX12_taxiRead_100 : decode cX12_taxiRead 100 = .ok (.iadd, 1) := by decide +kernel
theorem dX12_taxiRead_101 : decode cX12_taxiRead 101 = .ok (.istore 5, 2) := by decide +kernel
theorem dX12_taxiRead_103 : decode cX12_taxiRead 103 = .ok (.aload_n 0, 1) := by decide +kernel
theorem dX12_taxiRead_104 : decode cX12_taxiRead 104 = .ok (.getfield 25, 3) := by decide +kernel
theorem dX12_taxiRead_107 : decode cX12_taxiRead 107 = .ok (.aload_n 0, 1) := by decide +kernel
theorem dX12_taxiRead_108 : decode cX12_taxiRead 108 = .ok (.getfield 102, 3) := by decide +kernel
theorem dX12_taxiRead_111 : decode cX12_taxiRead 111 = .ok (.iload_n 1, 1) := by decide +kernel
theorem dX12_taxiRead_112 : decode cX12_taxiRead 112 = .ok (.iastore, 1) := by decide +kernel
theorem dX12_taxiRead_113 : decode cX12_taxiRead 113 = .ok (.aload_n 0, 1) := by decide +kernel
theorem dX12_taxiRead_114 : decode cX12_taxiRead 114 = .ok (.getfield 28, 3) := by decide +kernel
theorem dX12_taxiRead_117 : decode cX12_taxiRead 117 = .ok (.aload_n 0, 1) := by decide +kernel
theorem dX12_taxiRead_118 : decode cX12_taxiRead 118 = .ok (.getfield 102, 3) := by decide +kernel
theorem dX12_taxiRead_121 : decode cX12_taxiRead 121 = .ok (.iload_n 3, 1) := by decide +kernel
theorem dX12_taxiRead_122 : decode cX12_taxiRead 122 = .ok (.iastore, 1) := by decide +kernel
theorem dX12_taxiRead_123 : decode cX12_taxiRead 123 = .ok (.aload_n 0, 1) := by decide +kernel
theorem dX12_taxiRead_124 : decode cX12_taxiRead 124 = .ok (.getfield 13, 3) := by decide +kernel
theorem dX12_taxiRead_127 : decode cX12_taxiRead 127 = .ok (.iload 5, 2) := by decide +kernel
theorem dX12_taxiRead_129 : decode cX12_taxiRead 129 = .ok (.iconst 0, 1) := by decide +kernel
theorem dX12_taxiRead_130 : decode cX12_taxiRead 130 = .ok (.iadd, 1) := by decide +kernel
theorem dX12_taxiRead_131 : decode cX12_taxiRead 131 = .ok (.iload_n 2, 1) := by decide +kernel
theorem dX12_taxiRead_132 : decode cX12_taxiRead 132 = .ok (.iastore, 1) := by decide +kernel
theorem dX12_taxiRead_133 : decode cX12_taxiRead 133 = .ok (.aload_n 0, 1) := by decide +kernel
theorem dX12_taxiRead_134 : decode cX12_taxiRead 134 = .ok (.getfield 13, 3) := by decide +kernel
theorem dX12_taxiRead_137 : decode cX12_taxiRead 137 = .ok (.iload 5, 2) := by decide +kernel
theorem dX12_taxiRead_139 : decode cX12_taxiRead 139 = .ok (.iconst 1, 1) := by decide +kernel
theorem dX12_taxiRead_140 : decode cX12_taxiRead 140 = .ok (.iadd, 1) := by decide +kernel
theorem dX12_taxiRead_141 : decode cX12_taxiRead 141 = .ok (.iload_n 3, 1) := by decide +kernel
theorem dX12_taxiRead_142 : decode cX12_taxiRead 142 = .ok (.iastore, 1) := by decide +kernel
theorem dX12_taxiRead_143 : decode cX12_taxiRead 143 = .ok (.aload_n 0, 1) := by decide +kernel
theorem dX12_taxiRead_144 : decode cX12_taxiRead 144 = .ok (.getfield 13, 3) := by decide +kernel
theorem dX12_taxiRead_147 : decode cX12_taxiRead 147 = .ok (.iload 5, 2) := by decide +kernel
theorem dX12_taxiRead_149 : decode cX12_taxiRead 149 = .ok (.iconst 3, 1) := by decide +kernel
theorem dX12_taxiRead_150 : decode cX12_taxiRead 150 = .ok (.iadd, 1) := by decide +kernel
theorem dX12_taxiRead_151 : decode cX12_taxiRead 151 = .ok (.iconst (-1), 1) := by decide +kernel
theorem dX12_taxiRead_152 : decode cX12_taxiRead 152 = .ok (.iastore, 1) := by decide +kernel
theorem dX12_taxiRead_153 : decode cX12_taxiRead 153 = .ok (.aload_n 0, 1) := by decide +kernel
theorem dX12_taxiRead_154 : decode cX12_taxiRead 154 = .ok (.getfield 13, 3) := by decide +kernel
theorem dX12_taxiRead_157 : decode cX12_taxiRead 157 = .ok (.iload 5, 2) := by decide +kernel
theorem dX12_taxiRead_159 : decode cX12_taxiRead 159 = .ok (.iconst 4, 1) := by decide +kernel
theorem dX12_taxiRead_160 : decode cX12_taxiRead 160 = .ok (.iadd, 1) := by decide +kernel
theorem dX12_taxiRead_161 : decode cX12_taxiRead 161 = .ok (.iload 4, 2) := by decide +kernel
theorem dX12_taxiRead_163 : decode cX12_taxiRead 163 = .ok (.iastore, 1) := by decide +kernel
theorem dX12_taxiRead_164 : decode cX12_taxiRead 164 = .ok (.aload_n 0, 1) := by decide +kernel
theorem dX12_taxiRead_165 : decode cX12_taxiRead 165 = .ok (.dup, 1) := by decide +kernel
theorem dX12_taxiRead_166 : decode cX12_taxiRead 166 = .ok (.getfield 102, 3) := by decide +kernel
theorem dX12_taxiRead_169 : decode cX12_taxiRead 169 = .ok (.iconst 1, 1) := by decide +kernel
theorem dX12_taxiRead_170 : decode cX12_taxiRead 170 = .ok (.iadd, 1) := by decide +kernel
theorem dX12_taxiRead_171 : decode cX12_taxiRead 171 = .ok (.putfield 102, 3) := by decide +kernel
theorem dX12_taxiRead_174 : decode cX12_taxiRead 174 = .ok (.return_, 1) := by decide +kernel
theorem dX12_ruleRead_0 : decode cX12_ruleRead 0 = .ok (.aload_n 0, 1) := by decide +kernel
theorem dX12_ruleRead_1 : decode cX12_ruleRead 1 = .ok (.invokevirtual 221, 3) := by decide +kernel
theorem dX12_ruleRead_4 : decode cX12_ruleRead 4 = .ok (.istore_n 1, 1) := by decide +kernel
theorem dX12_ruleRead_5 : decode cX12_ruleRead 5 = .ok (.iload_n 1, 1) := by decide +kernel
theorem dX12_ruleRead_6 : decode cX12_ruleRead 6 = .ok (.iconst (-1), 1) := by decide +kernel
theorem dX12_ruleRead_7 : decode cX12_ruleRead 7 = .ok (.if_icmp .ne 10, 3) := by decide +kernel
theorem dX12_ruleRead_10 : decode cX12_ruleRead 10 = .ok (.aload_n 0, 1) := by decide +kernel
theorem dX12_ruleRead_11 : decode cX12_ruleRead 11 = .ok (.iconst 1, 1) := by decide +kernel
theorem dX12_ruleRead_12 : decode cX12_ruleRead 12 = .ok (.invokevirtual 194, 3) := by decide +kernel
theorem dX12_ruleRead_15 : decode cX12_ruleRead 15 = .ok (.pop, 1) := by decide +kernel
theorem dX12_ruleRead_16 : decode cX12_ruleRead 16 = .ok (.return_, 1) := by decide +kernel
theorem dX12_ruleRead_17 : decode cX12_ruleRead 17 = .ok (.aload_n 0, 1) := by decide +kernel
theorem dX12_ruleRead_18 : decode cX12_ruleRead 18 = .ok (.invokevirtual 180, 3) := by decide +kernel
theorem dX12_ruleRead_21 : decode cX12_ruleRead 21 = .ok (.aload_n 0, 1) := by decide +kernel
theorem dX12_ruleRead_22 : decode cX12_ruleRead 22 = .ok (.iload_n 1, 1) := by decide +kernel
theorem dX12_ruleRead_23 : decode cX12_ruleRead 23 = .ok (.invokestatic 225, 3) := by decide +kernel
theorem dX12_ruleRead_26 : decode cX12_ruleRead 26 = .ok (.iload_n 1, 1) := by decide +kernel
theorem dX12_ruleRead_27 : decode cX12_ruleRead 27 = .ok (.invokestatic 228, 3) := by decide +kernel
theorem dX12_ruleRead_30 : decode cX12_ruleRead 30 = .ok (.invokevirtual 215, 3) := by decide +kernel
theorem dX12_ruleRead_33 : decode cX12_ruleRead 33 = .ok (.istore_n 2, 1) := by decide +kernel
theorem dX12_ruleRead_34 : decode cX12_ruleRead 34 = .ok (.aload_n 0, 1) := by decide +kernel
theorem dX12_ruleRead_35 : decode cX12_ruleRead 35 = .ok (.invokevirtual 183, 3) := by decide +kernel
theorem dX12_ruleRead_38 : decode cX12_ruleRead 38 = .ok (.ifCond .eq 12, 3) := by decide +kernel
theorem dX12_ruleRead_41 : decode cX12_ruleRead 41 = .ok (.aload_n 0, 1) := by decide +kernel
theorem dX12_ruleRead_42 : decode cX12_ruleRead 42 = .ok (.getfield 13, 3) := by decide +kernel
theorem dX12_ruleRead_45 : decode cX12_ruleRead 45 = .ok (.iconst 3, 1) := by decide +kernel
theorem dX12_ruleRead_46 : decode cX12_ruleRead 46 = .ok (.iload_n 1, 1) := by decide +kernel
theorem dX12_ruleRead_47 : decode cX12_ruleRead 47 = .ok (.iadd, 1) := by decide +kernel
theorem dX12_ruleRead_48 : decode cX12_ruleRead 48 = .ok (.iload_n 2, 1) := by decide +kernel
theorem dX12_ruleRead_49 : decode cX12_ruleRead 49 = .ok (.iastore, 1) := by decide +kernel
theorem dX12_ruleRead_50 : decode cX12_ruleRead 50 = .ok (.return_, 1) := by decide +kernel
theorem dX12_clauseRead_0 : decode cX12_clauseRead 0 = .ok (.aload_n 0, 1) := by decide +kernel
theorem dX12_clauseRead_1 : decode cX12_clauseRead 1 = .ok (.ldc2_w 231, 3) := by decide +kernel
theorem dX12_clauseRead_4 : decode cX12_clauseRead 4 = .ok (.invokevirtual 233, 3) := by decide +kernel
theorem dX12_clauseRead_7 : decode cX12_clauseRead 7 = .ok (.ifCond .eq 10, 3) := by decide +kernel
theorem dX12_clauseRead_10 : decode cX12_clauseRead 10 = .ok (.aload_n 0, 1) := by decide +kernel
theorem dX12_clauseRead_11 : decode cX12_clauseRead 11 = .ok (.invokevirtual 236, 3) := by decide +kernel
theorem dX12_clauseRead_14 : decode cX12_clauseRead 14 = .ok (.goto 171, 3) := by decide +kernel
theorem dX12_clauseRead_17 : decode cX12_clauseRead 17 = .ok (.aload_n 0, 1) := by decide +kernel
theorem dX12_clauseRead_18 : decode cX12_clauseRead 18 = .ok (.ldc2_w 239, 3) := by decide +kernel
theorem dX12_clauseRead_21 : decode cX12_clauseRead 21 = .ok (.invokevirtual 187, 3) := by decide +kernel
theorem dX12_clauseRead_24 : decode cX12_clauseRead 24 = .ok (.ifCond .eq 34, 3) := by decide +kernel
theorem dX12_clauseRead_27 : decode cX12_clauseRead 27 = .ok (.aload_n 0, 1) := by decide +kernel
theorem dX12_clauseRead_28 : decode cX12_clauseRead 28 = .ok (.getfield 102, 3) := by decide +kernel
theorem dX12_clauseRead_31 : decode cX12_clauseRead 31 = .ok (.iconst 4, 1) := by decide +kernel
theorem dX12_clauseRead_32 : decode cX12_clauseRead 32 = .ok (.if_icmp .ne 9, 3) := by decide +kernel
theorem dX12_clauseRead_35 : decode cX12_clauseRead 35 = .ok (.aload_n 0, 1) := by decide +kernel
theorem dX12_clauseRead_36 : decode cX12_clauseRead 36 = .ok (.iconst 3, 1) := by decide +kernel
theorem dX12_clauseRead_37 : decode cX12_clauseRead 37 = .ok (.invokevirtual 194, 3) := by decide +kernel
theorem dX12_clauseRead_40 : decode cX12_clauseRead 40 = .ok (.pop, 1) := by decide +kernel
theorem dX12_clauseRead_41 : decode cX12_clauseRead 41 = .ok (.aload_n 0, 1) := by decide +kernel
theorem dX12_clauseRead_42 : decode cX12_clauseRead 42 = .ok (.ldc2_w 239, 3) := by decide +kernel
theorem dX12_clauseRead_45 : decode cX12_clauseRead 45 = .ok (.invokevirtual 233, 3) := by decide +kernel
theorem dX12_clauseRead_48 : decode cX12_clauseRead 48 = .ok (.ifCond .eq 137, 3) := by decide +kernel
theorem dX12_clauseRead_51 : decode cX12_clauseRead 51 = .ok (.aload_n 0, 1) := by decide +kernel
theorem dX12_clauseRead_52 : decode cX12_clauseRead 52 = .ok (.invokevirtual 241, 3) := by decide +kernel
theorem dX12_clauseRead_55 : decode cX12_clauseRead 55 = .ok (.goto 130, 3) := by decide +kernel
theorem dX12_clauseRead_58 : decode cX12_clauseRead 58 = .ok (.aload_n 0, 1) := by decide +kernel
theorem dX12_clauseRead_59 : decode cX12_clauseRead 59 = .ok (.ldc2_w 244, 3) := by decide +kernel
theorem dX12_clauseRead_62 : decode cX12_clauseRead 62 = .ok (.invokevirtual 233, 3) := by decide +kernel
theorem dX12_clauseRead_65 : decode cX12_clauseRead 65 = .ok (.ifCond .eq 50, 3) := by decide +kernel
theorem dX12_clauseRead_68 : decode cX12_clauseRead 68 = .ok (.aload_n 0, 1) := by decide +kernel
theorem dX12_clauseRead_69 : decode cX12_clauseRead 69 = .ok (.iconst 0, 1) := by decide +kernel
theorem dX12_clauseRead_70 : decode cX12_clauseRead 70 = .ok (.sipush 9999, 3) := by decide +kernel
theorem dX12_clauseRead_73 : decode cX12_clauseRead 73 = .ok (.invokevirtual 215, 3) := by decide +kernel
theorem dX12_clauseRead_76 : decode cX12_clauseRead 76 = .ok (.istore_n 1, 1) := by decide +kernel
theorem dX12_clauseRead_77 : decode cX12_clauseRead 77 = .ok (.aload_n 0, 1) := by decide +kernel
theorem dX12_clauseRead_78 : decode cX12_clauseRead 78 = .ok (.iconst 0, 1) := by decide +kernel
theorem dX12_clauseRead_79 : decode cX12_clauseRead 79 = .ok (.sipush 999, 3) := by decide +kernel
theorem dX12_clauseRead_82 : decode cX12_clauseRead 82 = .ok (.invokevirtual 215, 3) := by decide +kernel
theorem dX12_clauseRead_85 : decode cX12_clauseRead 85 = .ok (.istore_n 2, 1) := by decide +kernel
theorem dX12_clauseRead_86 : decode cX12_clauseRead 86 = .ok (.aload_n 0, 1) := by decide +kernel
theorem dX12_clauseRead_87 : decode cX12_clauseRead 87 = .ok (.invokevirtual 183, 3) := by decide +kernel
theorem dX12_clauseRead_90 : decode cX12_clauseRead 90 = .ok (.ifCond .eq 8, 3) := by decide +kernel
theorem dX12_clauseRead_93 : decode cX12_clauseRead 93 = .ok (.aload_n 0, 1) := by decide +kernel
theorem dX12_clauseRead_94 : decode cX12_clauseRead 94 = .ok (.iload_n 1, 1) := by decide +kernel
theorem dX12_clauseRead_95 : decode cX12_clauseRead 95 = .ok (.putfield 105, 3) := by decide +kernel
theorem dX12_clauseRead_98 : decode cX12_clauseRead 98 = .ok (.aload_n 0, 1) := by decide +kernel
theorem dX12_clauseRead_99 : decode cX12_clauseRead 99 = .ok (.invokevirtual 183, 3) := by decide +kernel
theorem dX12_clauseRead_102 : decode cX12_clauseRead 102 = .ok (.ifCond .eq 10, 3) := by decide +kernel
theorem dX12_clauseRead_105 : decode cX12_clauseRead 105 = .ok (.aload_n 0, 1) := by decide +kernel
theorem dX12_clauseRead_106 : decode cX12_clauseRead 106 = .ok (.getfield 13, 3) := by decide +kernel
theorem dX12_clauseRead_109 : decode cX12_clauseRead 109 = .ok (.iconst 2, 1) := by decide +kernel
theorem dX12_clauseRead_110 : decode cX12_clauseRead 110 = .ok (.iload_n 2, 1) := by decide +kernel
theorem dX12_clauseRead_111 : decode cX12_clauseRead 111 = .ok (.iastore, 1) := by decide +kernel
theorem dX12_clauseRead_112 : decode cX12_clauseRead 112 = .ok (.goto 73, 3) := by decide +kernel
theorem dX12_clauseRead_115 : decode cX12_clauseRead 115 = .ok (.aload_n 0, 1) := by decide +kernel
theorem dX12_clauseRead_116 : decode cX12_clauseRead 116 = .ok (.ldc2_w 246, 3) := by decide +kernel
theorem dX12_clauseRead_119 : decode cX12_clauseRead 119 = .ok (.invokevirtual 233, 3) := by decide +kernel
theorem dX12_clauseRead_122 : decode cX12_clauseRead 122 = .ok (.ifCond .eq 40, 3) := by decide +kernel
theorem dX12_clauseRead_125 : decode cX12_clauseRead 125 = .ok (.aload_n 0, 1) := by decide +kernel
theorem dX12_clauseRead_126 : decode cX12_clauseRead 126 = .ok (.iconst 2, 1) := by decide +kernel
theorem dX12_clauseRead_127 : decode cX12_clauseRead 127 = .ok (.iconst 4, 1) := by decide +kernel
theorem dX12_clauseRead_128 : decode cX12_clauseRead 128 = .ok (.invokevirtual 215, 3) := by decide +kernel
theorem dX12_clauseRead_131 : decode cX12_clauseRead 131 = .ok (.istore_n 1, 1) := by decide +kernel
theorem dX12_clauseRead_132 : decode cX12_clauseRead 132 = .ok (.aload_n 0, 1) := by decide +kernel
theorem dX12_clauseRead_133 : decode cX12_clauseRead 133 = .ok (.iconst 0, 1) := by decide +kernel
theorem dX12_clauseRead_134 : decode cX12_clauseRead 134 = .ok (.bipush 90, 2) := by decide +kernel
theorem dX12_clauseRead_136 : decode cX12_clauseRead 136 = .ok (.invokevirtual 215, 3) := by decide +kernel
theorem dX12_clauseRead_139 : decode cX12_clauseRead 139 = .ok (.istore_n 2, 1) := by decide +kernel
theorem dX12_clauseRead_140 : decode cX12_clauseRead 140 = .ok (.aload_n 0, 1) := by decide +kernel
theorem dX12_clauseRead_141 : decode cX12_clauseRead 141 = .ok (.invokevirtual 183, 3) := by decide +kernel
theorem dX12_clauseRead_144 : decode cX12_clauseRead 144 = .ok (.ifCond .eq 15, 3) := by decide +kernel
theorem dX12_clauseRead_147 : decode cX12_clauseRead 147 = .ok (.aload_n 0, 1) := by decide +kernel
theorem dX12_clauseRead_148 : decode cX12_clauseRead 148 = .ok (.getfield 13, 3) := by decide +kernel
theorem dX12_clauseRead_151 : decode cX12_clauseRead 151 = .ok (.bipush 10, 2) := by decide +kernel
theorem dX12_clauseRead_153 : decode cX12_clauseRead 153 = .ok (.iload_n 1, 1) := by decide +kernel
theorem dX12_clauseRead_154 : decode cX12_clauseRead 154 = .ok (.iadd, 1) := by decide +kernel
theorem dX12_clauseRead_155 : decode cX12_clauseRead 155 = .ok (.iconst 2, 1) := by decide +kernel
theorem dX12_clauseRead_156 : decode cX12_clauseRead 156 = .ok (.isub, 1) := by decide +kernel
theorem dX12_clauseRead_157 : decode cX12_clauseRead 157 = .ok (.iload_n 2, 1) := by decide +kernel
theorem dX12_clauseRead_158 : decode cX12_clauseRead 158 = .ok (.iastore, 1) := by decide +kernel
theorem dX12_clauseRead_159 : decode cX12_clauseRead 159 = .ok (.goto 26, 3) := by decide +kernel
theorem dX12_clauseRead_162 : decode cX12_clauseRead 162 = .ok (.aload_n 0, 1) := by decide +kernel
theorem dX12_clauseRead_163 : decode cX12_clauseRead 163 = .ok (.ldc2_w 248, 3) := by decide +kernel
theorem dX12_clauseRead_166 : decode cX12_clauseRead 166 = .ok (.invokevirtual 233, 3) := by decide +kernel
theorem dX12_clauseRead_169 : decode cX12_clauseRead 169 = .ok (.ifCond .eq 10, 3) := by decide +kernel
theorem dX12_clauseRead_172 : decode cX12_clauseRead 172 = .ok (.aload_n 0, 1) := by decide +kernel
theorem dX12_clauseRead_173 : decode cX12_clauseRead 173 = .ok (.invokevirtual 250, 3) := by decide +kernel
theorem dX12_clauseRead_176 : decode cX12_clauseRead 176 = .ok (.goto 9, 3) := by decide +kernel
theorem dX12_clauseRead_179 : decode cX12_clauseRead 179 = .ok (.aload_n 0, 1) := by decide +kernel
theorem dX12_clauseRead_180 : decode cX12_clauseRead 180 = .ok (.iconst 1, 1) := by decide +kernel
theorem dX12_clauseRead_181 : decode cX12_clauseRead 181 = .ok (.invokevirtual 194, 3) := by decide +kernel
theorem dX12_clauseRead_184 : decode cX12_clauseRead 184 = .ok (.pop, 1) := by decide +kernel
theorem dX12_clauseRead_185 : decode cX12_clauseRead 185 = .ok (.aload_n 0, 1) := by decide +kernel
theorem dX12_clauseRead_186 : decode cX12_clauseRead 186 = .ok (.bipush 59, 2) := by decide +kernel
theorem dX12_clauseRead_188 : decode cX12_clauseRead 188 = .ok (.invokevirtual 253, 3) := by decide +kernel
theorem dX12_clauseRead_191 : decode cX12_clauseRead 191 = .ok (.return_, 1) := by decide +kernel
theorem dX12_load_0 : decode cX12_load 0 = .ok (.aload_n 0, 1) := by decide +kernel
theorem dX12_load_1 : decode cX12_load 1 = .ok (.iconst 0, 1) := by decide +kernel
theorem dX12_load_2 : decode cX12_load 2 = .ok (.putfield 93, 3) := by decide +kernel
theorem dX12_load_5 : decode cX12_load 5 = .ok (.aload_n 0, 1) := by decide +kernel
theorem dX12_load_6 : decode cX12_load 6 = .ok (.iload_n 1, 1) := by decide +kernel
theorem dX12_load_7 : decode cX12_load 7 = .ok (.i2l, 1) := by decide +kernel
theorem dX12_load_8 : decode cX12_load 8 = .ok (.lconst 0, 1) := by decide +kernel
theorem dX12_load_9 : decode cX12_load 9 = .ok (.aload_n 0, 1) := by decide +kernel
theorem dX12_load_10 : decode cX12_load 10 = .ok (.getfield 130, 3) := by decide +kernel
theorem dX12_load_13 : decode cX12_load 13 = .ok (.i2l, 1) := by decide +kernel
theorem dX12_load_14 : decode cX12_load 14 = .ok (.invokestatic 197, 3) := by decide +kernel
theorem dX12_load_17 : decode cX12_load 17 = .ok (.iconst 1, 1) := by decide +kernel
theorem dX12_load_18 : decode cX12_load 18 = .ok (.invokevirtual 256, 3) := by decide +kernel
theorem dX12_load_21 : decode cX12_load 21 = .ok (.ifCond .eq 5, 3) := by decide +kernel
theorem dX12_load_24 : decode cX12_load 24 = .ok (.iconst 0, 1) := by decide +kernel
theorem dX12_load_25 : decode cX12_load 25 = .ok (.ireturn, 1) := by decide +kernel
theorem dX12_load_26 : decode cX12_load 26 = .ok (.aload_n 0, 1) := by decide +kernel
theorem dX12_load_27 : decode cX12_load 27 = .ok (.iload_n 1, 1) := by decide +kernel
theorem dX12_load_28 : decode cX12_load 28 = .ok (.invokevirtual 260, 3) := by decide +kernel
theorem dX12_load_31 : decode cX12_load 31 = .ok (.aload_n 0, 1) := by decide +kernel
theorem dX12_load_32 : decode cX12_load 32 = .ok (.ldc2_w 263, 3) := by decide +kernel
theorem dX12_load_35 : decode cX12_load 35 = .ok (.invokevirtual 233, 3) := by decide +kernel
theorem dX12_load_38 : decode cX12_load 38 = .ok (.ifCond .ne 9, 3) := by decide +kernel
theorem dX12_load_41 : decode cX12_load 41 = .ok (.aload_n 0, 1) := by decide +kernel
theorem dX12_load_42 : decode cX12_load 42 = .ok (.iconst 1, 1) := by decide +kernel
theorem dX12_load_43 : decode cX12_load 43 = .ok (.invokevirtual 194, 3) := by decide +kernel
theorem dX12_load_46 : decode cX12_load 46 = .ok (.pop, 1) := by decide +kernel
theorem dX12_load_47 : decode cX12_load 47 = .ok (.aload_n 0, 1) := by decide +kernel
theorem dX12_load_48 : decode cX12_load 48 = .ok (.aload_n 0, 1) := by decide +kernel
theorem dX12_load_49 : decode cX12_load 49 = .ok (.iconst 2, 1) := by decide +kernel
theorem dX12_load_50 : decode cX12_load 50 = .ok (.bipush 8, 2) := by decide +kernel
theorem dX12_load_52 : decode cX12_load 52 = .ok (.invokevirtual 215, 3) := by decide +kernel
theorem dX12_load_55 : decode cX12_load 55 = .ok (.invokevirtual 87, 3) := by decide +kernel
theorem dX12_load_58 : decode cX12_load 58 = .ok (.aload_n 0, 1) := by decide +kernel
theorem dX12_load_59 : decode cX12_load 59 = .ok (.bipush 59, 2) := by decide +kernel
theorem dX12_load_61 : decode cX12_load 61 = .ok (.invokevirtual 253, 3) := by decide +kernel
theorem dX12_load_64 : decode cX12_load 64 = .ok (.aload_n 0, 1) := by decide +kernel
theorem dX12_load_65 : decode cX12_load 65 = .ok (.invokevirtual 183, 3) := by decide +kernel
theorem dX12_load_68 : decode cX12_load 68 = .ok (.ifCond .eq 17, 3) := by decide +kernel
theorem dX12_load_71 : decode cX12_load 71 = .ok (.aload_n 0, 1) := by decide +kernel
theorem dX12_load_72 : decode cX12_load 72 = .ok (.getfield 161, 3) := by decide +kernel
theorem dX12_load_75 : decode cX12_load 75 = .ok (.ifCond .eq 10, 3) := by decide +kernel
theorem dX12_load_78 : decode cX12_load 78 = .ok (.aload_n 0, 1) := by decide +kernel
theorem dX12_load_79 : decode cX12_load 79 = .ok (.invokevirtual 265, 3) := by decide +kernel
theorem dX12_load_82 : decode cX12_load 82 = .ok (.goto (-18), 3) := by decide +kernel
theorem dX12_load_85 : decode cX12_load 85 = .ok (.aload_n 0, 1) := by decide +kernel
theorem dX12_load_86 : decode cX12_load 86 = .ok (.invokevirtual 183, 3) := by decide +kernel
theorem dX12_load_89 : decode cX12_load 89 = .ok (.ifCond .ne 11, 3) := by decide +kernel
theorem dX12_load_92 : decode cX12_load 92 = .ok (.bipush (-10), 2) := by decide +kernel
theorem dX12_load_94 : decode cX12_load 94 = .ok (.aload_n 0, 1) := by decide +kernel
theorem dX12_load_95 : decode cX12_load 95 = .ok (.getfield 177, 3) := by decide +kernel
theorem dX12_load_98 : decode cX12_load 98 = .ok (.isub, 1) := by decide +kernel
theorem dX12_load_99 : decode cX12_load 99 = .ok (.ireturn, 1) := by decide +kernel
theorem dX12_load_100 : decode cX12_load 100 = .ok (.aload_n 0, 1) := by decide +kernel
theorem dX12_load_101 : decode cX12_load 101 = .ok (.invokevirtual 90, 3) := by decide +kernel
theorem dX12_load_104 : decode cX12_load 104 = .ok (.aload_n 0, 1) := by decide +kernel
theorem dX12_load_105 : decode cX12_load 105 = .ok (.getfield 114, 3) := by decide +kernel
theorem dX12_load_108 : decode cX12_load 108 = .ok (.ireturn, 1) := by decide +kernel
theorem dX12_lists_0 : decode cX12_lists 0 = .ok (.aload_n 0, 1) := by decide +kernel
theorem dX12_lists_1 : decode cX12_lists 1 = .ok (.aload_n 0, 1) := by decide +kernel
theorem dX12_lists_2 : decode cX12_lists 2 = .ok (.iload_n 1, 1) := by decide +kernel
theorem dX12_lists_3 : decode cX12_lists 3 = .ok (.bipush 11, 2) := by decide +kernel
theorem dX12_lists_5 : decode cX12_lists 5 = .ok (.invokevirtual 268, 3) := by decide +kernel
theorem dX12_lists_8 : decode cX12_lists 8 = .ok (.putfield 271, 3) := by decide +kernel
theorem dX12_lists_11 : decode cX12_lists 11 = .ok (.iconst 0, 1) := by decide +kernel
theorem dX12_lists_12 : decode cX12_lists 12 = .ok (.istore_n 2, 1) := by decide +kernel
theorem dX12_lists_13 : decode cX12_lists 13 = .ok (.iload_n 2, 1) := by decide +kernel
theorem dX12_lists_14 : decode cX12_lists 14 = .ok (.aload_n 0, 1) := by decide +kernel
theorem dX12_lists_15 : decode cX12_lists 15 = .ok (.getfield 271, 3) := by decide +kernel
theorem dX12_lists_18 : decode cX12_lists 18 = .ok (.if_icmp .ge 24, 3) := by decide +kernel
theorem dX12_lists_21 : decode cX12_lists 21 = .ok (.aload_n 0, 1) := by decide +kernel
theorem dX12_lists_22 : decode cX12_lists 22 = .ok (.getfield 50, 3) := by decide +kernel
theorem dX12_lists_25 : decode cX12_lists 25 = .ok (.iload_n 2, 1) := by decide +kernel
theorem dX12_lists_26 : decode cX12_lists 26 = .ok (.aload_n 0, 1) := by decide +kernel
theorem dX12_lists_27 : decode cX12_lists 27 = .ok (.iload_n 1, 1) := by decide +kernel
theorem dX12_lists_28 : decode cX12_lists 28 = .ok (.bipush 12, 2) := by decide +kernel
theorem dX12_lists_30 : decode cX12_lists 30 = .ok (.iload_n 2, 1) := by decide +kernel
theorem dX12_lists_31 : decode cX12_lists 31 = .ok (.iadd, 1) := by decide +kernel
theorem dX12_lists_32 : decode cX12_lists 32 = .ok (.invokevirtual 268, 3) := by decide +kernel
theorem dX12_lists_35 : decode cX12_lists 35 = .ok (.iastore, 1) := by decide +kernel
theorem dX12_lists_36 : decode cX12_lists 36 = .ok (.iinc 2 1, 3) := by decide +kernel
theorem dX12_lists_39 : decode cX12_lists 39 = .ok (.goto (-26), 3) := by decide +kernel
theorem dX12_lists_42 : decode cX12_lists 42 = .ok (.return_, 1) := by decide +kernel
theorem dX12_zoneOf_0 : decode cX12_zoneOf 0 = .ok (.aload_n 0, 1) := by decide +kernel
theorem dX12_zoneOf_1 : decode cX12_zoneOf 1 = .ok (.iload_n 1, 1) := by decide +kernel
theorem dX12_zoneOf_2 : decode cX12_zoneOf 2 = .ok (.iconst 2, 1) := by decide +kernel
theorem dX12_zoneOf_3 : decode cX12_zoneOf 3 = .ok (.idiv, 1) := by decide +kernel
theorem dX12_zoneOf_4 : decode cX12_zoneOf 4 = .ok (.iload_n 1, 1) := by decide +kernel
theorem dX12_zoneOf_5 : decode cX12_zoneOf 5 = .ok (.iconst 1, 1) := by decide +kernel
theorem dX12_zoneOf_6 : decode cX12_zoneOf 6 = .ok (.iand, 1) := by decide +kernel
theorem dX12_zoneOf_7 : decode cX12_zoneOf 7 = .ok (.iconst 1, 1) := by decide +kernel
theorem dX12_zoneOf_8 : decode cX12_zoneOf 8 = .ok (.if_icmp .ne 7, 3) := by decide +kernel
theorem dX12_zoneOf_11 : decode cX12_zoneOf 11 = .ok (.iconst 1, 1) := by decide +kernel
theorem dX12_zoneOf_12 : decode cX12_zoneOf 12 = .ok (.goto 4, 3) := by decide +kernel
theorem dX12_zoneOf_15 : decode cX12_zoneOf 15 = .ok (.iconst 2, 1) := by decide +kernel
theorem dX12_zoneOf_16 : decode cX12_zoneOf 16 = .ok (.invokevirtual 274, 3) := by decide +kernel
theorem dX12_zoneOf_19 : decode cX12_zoneOf 19 = .ok (.ireturn, 1) := by decide +kernel
theorem dX12_minutesOf_0 : decode cX12_minutesOf 0 = .ok (.aload_n 0, 1) := by decide +kernel
theorem dX12_minutesOf_1 : decode cX12_minutesOf 1 = .ok (.getfield 34, 3) := by decide +kernel
theorem dX12_minutesOf_4 : decode cX12_minutesOf 4 = .ok (.bipush 8, 2) := by decide +kernel
theorem dX12_minutesOf_6 : decode cX12_minutesOf 6 = .ok (.iload_n 1, 1) := by decide +kernel
theorem dX12_minutesOf_7 : decode cX12_minutesOf 7 = .ok (.imul, 1) := by decide +kernel
theorem dX12_minutesOf_8 : decode cX12_minutesOf 8 = .ok (.iload_n 2, 1) := by decide +kernel
theorem dX12_minutesOf_9 : decode cX12_minutesOf 9 = .ok (.iadd, 1) := by decide +kernel
theorem dX12_minutesOf_10 : decode cX12_minutesOf 10 = .ok (.iaload, 1) := by decide +kernel
theorem dX12_minutesOf_11 : decode cX12_minutesOf 11 = .ok (.ireturn, 1) := by decide +kernel
theorem dX12_directOf_0 : decode cX12_directOf 0 = .ok (.aload_n 0, 1) := by decide +kernel
theorem dX12_directOf_1 : decode cX12_directOf 1 = .ok (.aload_n 0, 1) := by decide +kernel
theorem dX12_directOf_2 : decode cX12_directOf 2 = .ok (.iload_n 1, 1) := by decide +kernel
theorem dX12_directOf_3 : decode cX12_directOf 3 = .ok (.iconst 1, 1) := by decide +kernel
theorem dX12_directOf_4 : decode cX12_directOf 4 = .ok (.invokevirtual 274, 3) := by decide +kernel
theorem dX12_directOf_7 : decode cX12_directOf 7 = .ok (.aload_n 0, 1) := by decide +kernel
theorem dX12_directOf_8 : decode cX12_directOf 8 = .ok (.iload_n 1, 1) := by decide +kernel
theorem dX12_directOf_9 : decode cX12_directOf 9 = .ok (.iconst 2, 1) := by decide +kernel
theorem dX12_directOf_10 : decode cX12_directOf 10 = .ok (.invokevirtual 274, 3) := by decide +kernel
theorem dX12_directOf_13 : decode cX12_directOf 13 = .ok (.invokevirtual 277, 3) := by decide +kernel
theorem dX12_directOf_16 : decode cX12_directOf 16 = .ok (.ireturn, 1) := by decide +kernel
theorem dX12_mostOf_0 : decode cX12_mostOf 0 = .ok (.aload_n 0, 1) := by decide +kernel
theorem dX12_mostOf_1 : decode cX12_mostOf 1 = .ok (.iload_n 1, 1) := by decide +kernel
theorem dX12_mostOf_2 : decode cX12_mostOf 2 = .ok (.invokevirtual 280, 3) := by decide +kernel
theorem dX12_mostOf_5 : decode cX12_mostOf 5 = .ok (.istore_n 2, 1) := by decide +kernel
theorem dX12_mostOf_6 : decode cX12_mostOf 6 = .ok (.iload_n 2, 1) := by decide +kernel
theorem dX12_mostOf_7 : decode cX12_mostOf 7 = .ok (.iconst (-1), 1) := by decide +kernel
theorem dX12_mostOf_8 : decode cX12_mostOf 8 = .ok (.if_icmp .ne 7, 3) := by decide +kernel
theorem dX12_mostOf_11 : decode cX12_mostOf 11 = .ok (.iconst (-1), 1) := by decide +kernel
theorem dX12_mostOf_12 : decode cX12_mostOf 12 = .ok (.goto 18, 3) := by decide +kernel
theorem dX12_mostOf_15 : decode cX12_mostOf 15 = .ok (.iload_n 2, 1) := by decide +kernel
theorem dX12_mostOf_16 : decode cX12_mostOf 16 = .ok (.bipush 100, 2) := by decide +kernel
theorem dX12_mostOf_18 : decode cX12_mostOf 18 = .ok (.aload_n 0, 1) := by decide +kernel
theorem dX12_mostOf_19 : decode cX12_mostOf 19 = .ok (.iload_n 1, 1) := by decide +kernel
theorem dX12_mostOf_20 : decode cX12_mostOf 20 = .ok (.bipush 6, 2) := by decide +kernel
theorem dX12_mostOf_22 : decode cX12_mostOf 22 = .ok (.invokevirtual 274, 3) := by decide +kernel
theorem dX12_mostOf_25 : decode cX12_mostOf 25 = .ok (.iadd, 1) := by decide +kernel
theorem dX12_mostOf_26 : decode cX12_mostOf 26 = .ok (.imul, 1) := by decide +kernel
theorem dX12_mostOf_27 : decode cX12_mostOf 27 = .ok (.bipush 100, 2) := by decide +kernel
theorem dX12_mostOf_29 : decode cX12_mostOf 29 = .ok (.idiv, 1) := by decide +kernel
theorem dX12_mostOf_30 : decode cX12_mostOf 30 = .ok (.ireturn, 1) := by decide +kernel
theorem dX12_personsAboard_0 : decode cX12_personsAboard 0 = .ok (.iconst 0, 1) := by decide +kernel
theorem dX12_personsAboard_1 : decode cX12_personsAboard 1 = .ok (.istore_n 2, 1) := by decide +kernel
theorem dX12_personsAboard_2 : decode cX12_personsAboard 2 = .ok (.iconst 0, 1) := by decide +kernel
theorem dX12_personsAboard_3 : decode cX12_personsAboard 3 = .ok (.istore_n 3, 1) := by decide +kernel
theorem dX12_personsAboard_4 : decode cX12_personsAboard 4 = .ok (.iload_n 3, 1) := by decide +kernel
theorem dX12_personsAboard_5 : decode cX12_personsAboard 5 = .ok (.aload_n 0, 1) := by decide +kernel
theorem dX12_personsAboard_6 : decode cX12_personsAboard 6 = .ok (.iload_n 1, 1) := by decide +kernel
theorem dX12_personsAboard_7 : decode cX12_personsAboard 7 = .ok (.bipush 24, 2) := by decide +kernel
theorem dX12_personsAboard_9 : decode cX12_personsAboard 9 = .ok (.invokevirtual 268, 3) := by decide +kernel
theorem dX12_personsAboard_12 : decode cX12_personsAboard 12 = .ok (.if_icmp .ge 26, 3) := by decide +kernel
theorem dX12_personsAboard_15 : decode cX12_personsAboard 15 = .ok (.iload_n 2, 1) := by decide +kernel
theorem dX12_personsAboard_16 : decode cX12_personsAboard 16 = .ok (.aload_n 0, 1) := by decide +kernel
theorem dX12_personsAboard_17 : decode cX12_personsAboard 17 = .ok (.aload_n 0, 1) := by decide +kernel
theorem dX12_personsAboard_18 : decode cX12_personsAboard 18 = .ok (.iload_n 1, 1) := by decide +kernel
theorem dX12_personsAboard_19 : decode cX12_personsAboard 19 = .ok (.bipush 25, 2) := by decide +kernel
theorem dX12_personsAboard_21 : decode cX12_personsAboard 21 = .ok (.iload_n 3, 1) := by decide +kernel
theorem dX12_personsAboard_22 : decode cX12_personsAboard 22 = .ok (.iadd, 1) := by decide +kernel
theorem dX12_personsAboard_23 : decode cX12_personsAboard 23 = .ok (.invokevirtual 268, 3) := by decide +kernel
theorem dX12_personsAboard_26 : decode cX12_personsAboard 26 = .ok (.iconst 3, 1) := by decide +kernel
theorem dX12_personsAboard_27 : decode cX12_personsAboard 27 = .ok (.invokevirtual 274, 3) := by decide +kernel
theorem dX12_personsAboard_30 : decode cX12_personsAboard 30 = .ok (.iadd, 1) := by decide +kernel
theorem dX12_personsAboard_31 : decode cX12_personsAboard 31 = .ok (.istore_n 2, 1) := by decide +kernel
theorem dX12_personsAboard_32 : decode cX12_personsAboard 32 = .ok (.iinc 3 1, 3) := by decide +kernel
theorem dX12_personsAboard_35 : decode cX12_personsAboard 35 = .ok (.goto (-31), 3) := by decide +kernel
theorem dX12_personsAboard_38 : decode cX12_personsAboard 38 = .ok (.iload_n 2, 1) := by decide +kernel
theorem dX12_personsAboard_39 : decode cX12_personsAboard 39 = .ok (.ireturn, 1) := by decide +kernel
theorem dX12_sumOfWays_0 : decode cX12_sumOfWays 0 = .ok (.iconst 0, 1) := by decide +kernel
theorem dX12_sumOfWays_1 : decode cX12_sumOfWays 1 = .ok (.istore_n 2, 1) := by decide +kernel
theorem dX12_sumOfWays_2 : decode cX12_sumOfWays 2 = .ok (.aload_n 0, 1) := by decide +kernel
theorem dX12_sumOfWays_3 : decode cX12_sumOfWays 3 = .ok (.iload_n 1, 1) := by decide +kernel
theorem dX12_sumOfWays_4 : decode cX12_sumOfWays 4 = .ok (.iconst 0, 1) := by decide +kernel
theorem dX12_sumOfWays_5 : decode cX12_sumOfWays 5 = .ok (.invokevirtual 268, 3) := by decide +kernel
theorem dX12_sumOfWays_8 : decode cX12_sumOfWays 8 = .ok (.istore_n 3, 1) := by decide +kernel
theorem dX12_sumOfWays_9 : decode cX12_sumOfWays 9 = .ok (.iconst 0, 1) := by decide +kernel
theorem dX12_sumOfWays_10 : decode cX12_sumOfWays 10 = .ok (.istore 4, 2) := by decide +kernel
theorem dX12_sumOfWays_12 : decode cX12_sumOfWays 12 = .ok (.iload 4, 2) := by decide +kernel
theorem dX12_sumOfWays_14 : decode cX12_sumOfWays 14 = .ok (.aload_n 0, 1) := by decide +kernel
theorem dX12_sumOfWays_15 : decode cX12_sumOfWays 15 = .ok (.getfield 271, 3) := by decide +kernel
theorem dX12_sumOfWays_18 : decode cX12_sumOfWays 18 = .ok (.if_icmp .ge 52, 3) := by decide +kernel
theorem dX12_sumOfWays_21 : decode cX12_sumOfWays 21 = .ok (.aload_n 0, 1) := by decide +kernel
theorem dX12_sumOfWays_22 : decode cX12_sumOfWays 22 = .ok (.iload_n 3, 1) := by decide +kernel
theorem dX12_sumOfWays_23 : decode cX12_sumOfWays 23 = .ok (.aload_n 0, 1) := by decide +kernel
theorem dX12_sumOfWays_24 : decode cX12_sumOfWays 24 = .ok (.aload_n 0, 1) := by decide +kernel
theorem dX12_sumOfWays_25 : decode cX12_sumOfWays 25 = .ok (.getfield 50, 3) := by decide +kernel
theorem dX12_sumOfWays_28 : decode cX12_sumOfWays 28 = .ok (.iload 4, 2) := by decide +kernel
theorem dX12_sumOfWays_30 : decode cX12_sumOfWays 30 = .ok (.iaload, 1) := by decide +kernel
theorem dX12_sumOfWays_31 : decode cX12_sumOfWays 31 = .ok (.invokevirtual 283, 3) := by decide +kernel
theorem dX12_sumOfWays_34 : decode cX12_sumOfWays 34 = .ok (.invokevirtual 277, 3) := by decide +kernel
theorem dX12_sumOfWays_37 : decode cX12_sumOfWays 37 = .ok (.istore 5, 2) := by decide +kernel
theorem dX12_sumOfWays_39 : decode cX12_sumOfWays 39 = .ok (.iload 5, 2) := by decide +kernel
theorem dX12_sumOfWays_41 : decode cX12_sumOfWays 41 = .ok (.iconst (-1), 1) := by decide +kernel
theorem dX12_sumOfWays_42 : decode cX12_sumOfWays 42 = .ok (.if_icmp .ne 5, 3) := by decide +kernel
theorem dX12_sumOfWays_45 : decode cX12_sumOfWays 45 = .ok (.iconst (-1), 1) := by decide +kernel
theorem dX12_sumOfWays_46 : decode cX12_sumOfWays 46 = .ok (.ireturn, 1) := by decide +kernel
theorem dX12_sumOfWays_47 : decode cX12_sumOfWays 47 = .ok (.iload_n 2, 1) := by decide +kernel
theorem dX12_sumOfWays_48 : decode cX12_sumOfWays 48 = .ok (.iload 5, 2) := by decide +kernel
theorem dX12_sumOfWays_50 : decode cX12_sumOfWays 50 = .ok (.iadd, 1) := by decide +kernel
theorem dX12_sumOfWays_51 : decode cX12_sumOfWays 51 = .ok (.istore_n 2, 1) := by decide +kernel
theorem dX12_sumOfWays_52 : decode cX12_sumOfWays 52 = .ok (.aload_n 0, 1) := by decide +kernel
theorem dX12_sumOfWays_53 : decode cX12_sumOfWays 53 = .ok (.aload_n 0, 1) := by decide +kernel
theorem dX12_sumOfWays_54 : decode cX12_sumOfWays 54 = .ok (.getfield 50, 3) := by decide +kernel
theorem dX12_sumOfWays_57 : decode cX12_sumOfWays 57 = .ok (.iload 4, 2) := by decide +kernel
theorem dX12_sumOfWays_59 : decode cX12_sumOfWays 59 = .ok (.iaload, 1) := by decide +kernel
theorem dX12_sumOfWays_60 : decode cX12_sumOfWays 60 = .ok (.invokevirtual 283, 3) := by decide +kernel
theorem dX12_sumOfWays_63 : decode cX12_sumOfWays 63 = .ok (.istore_n 3, 1) := by decide +kernel
theorem dX12_sumOfWays_64 : decode cX12_sumOfWays 64 = .ok (.iinc 4 1, 3) := by decide +kernel
theorem dX12_sumOfWays_67 : decode cX12_sumOfWays 67 = .ok (.goto (-55), 3) := by decide +kernel
theorem dX12_sumOfWays_70 : decode cX12_sumOfWays 70 = .ok (.iload_n 2, 1) := by decide +kernel
theorem dX12_sumOfWays_71 : decode cX12_sumOfWays 71 = .ok (.ireturn, 1) := by decide +kernel
theorem dX12_plans_0 : decode cX12_plans 0 = .ok (.aload_n 0, 1) := by decide +kernel
theorem dX12_plans_1 : decode cX12_plans 1 = .ok (.iload_n 1, 1) := by decide +kernel
theorem dX12_plans_2 : decode cX12_plans 2 = .ok (.iconst 0, 1) := by decide +kernel
theorem dX12_plans_3 : decode cX12_plans 3 = .ok (.invokevirtual 268, 3) := by decide +kernel
theorem dX12_plans_6 : decode cX12_plans 6 = .ok (.istore_n 2, 1) := by decide +kernel
theorem dX12_plans_7 : decode cX12_plans 7 = .ok (.aload_n 0, 1) := by decide +kernel
theorem dX12_plans_8 : decode cX12_plans 8 = .ok (.iload_n 1, 1) := by decide +kernel
theorem dX12_plans_9 : decode cX12_plans 9 = .ok (.iconst 1, 1) := by decide +kernel
theorem dX12_plans_10 : decode cX12_plans 10 = .ok (.invokevirtual 268, 3) := by decide +kernel
theorem dX12_plans_13 : decode cX12_plans 13 = .ok (.istore_n 3, 1) := by decide +kernel
theorem dX12_plans_14 : decode cX12_plans 14 = .ok (.aload_n 0, 1) := by decide +kernel
theorem dX12_plans_15 : decode cX12_plans 15 = .ok (.iload_n 1, 1) := by decide +kernel
theorem dX12_plans_16 : decode cX12_plans 16 = .ok (.iconst 2, 1) := by decide +kernel
theorem dX12_plans_17 : decode cX12_plans 17 = .ok (.invokevirtual 268, 3) := by decide +kernel
theorem dX12_plans_20 : decode cX12_plans 20 = .ok (.istore 4, 2) := by decide +kernel
theorem dX12_plans_22 : decode cX12_plans 22 = .ok (.aload_n 0, 1) := by decide +kernel
theorem dX12_plans_23 : decode cX12_plans 23 = .ok (.iload_n 1, 1) := by decide +kernel
theorem dX12_plans_24 : decode cX12_plans 24 = .ok (.invokevirtual 286, 3) := by decide +kernel
theorem dX12_plans_27 : decode cX12_plans 27 = .ok (.istore 5, 2) := by decide +kernel
theorem dX12_plans_29 : decode cX12_plans 29 = .ok (.iconst 1, 1) := by decide +kernel
theorem dX12_plans_30 : decode cX12_plans 30 = .ok (.istore 6, 2) := by decide +kernel
theorem dX12_plans_32 : decode cX12_plans 32 = .ok (.iconst 0, 1) := by decide +kernel
theorem dX12_plans_33 : decode cX12_plans 33 = .ok (.istore 7, 2) := by decide +kernel
theorem dX12_plans_35 : decode cX12_plans 35 = .ok (.iload 7, 2) := by decide +kernel
theorem dX12_plans_37 : decode cX12_plans 37 = .ok (.aload_n 0, 1) := by decide +kernel
theorem dX12_plans_38 : decode cX12_plans 38 = .ok (.getfield 271, 3) := by decide +kernel
theorem dX12_plans_41 : decode cX12_plans 41 = .ok (.if_icmp .ge 444, 3) := by decide +kernel
theorem dX12_plans_44 : decode cX12_plans 44 = .ok (.aload_n 0, 1) := by decide +kernel
theorem dX12_plans_45 : decode cX12_plans 45 = .ok (.getfield 50, 3) := by decide +kernel
theorem dX12_plans_48 : decode cX12_plans 48 = .ok (.iload 7, 2) := by decide +kernel
theorem dX12_plans_50 : decode cX12_plans 50 = .ok (.iaload, 1) := by decide +kernel
theorem dX12_plans_51 : decode cX12_plans 51 = .ok (.iconst 2, 1) := by decide +kernel
theorem dX12_plans_52 : decode cX12_plans 52 = .ok (.idiv, 1) := by decide +kernel
theorem dX12_plans_53 : decode cX12_plans 53 = .ok (.istore 8, 2) := by decide +kernel
theorem dX12_plans_55 : decode cX12_plans 55 = .ok (.aload_n 0, 1) := by decide +kernel
theorem dX12_plans_56 : decode cX12_plans 56 = .ok (.getfield 50, 3) := by decide +kernel
theorem dX12_plans_59 : decode cX12_plans 59 = .ok (.iload 7, 2) := by decide +kernel
theorem dX12_plans_61 : decode cX12_plans 61 = .ok (.iaload, 1) := by decide +kernel
theorem dX12_plans_62 : decode cX12_plans 62 = .ok (.iconst 1, 1) := by decide +kernel
theorem dX12_plans_63 : decode cX12_plans 63 = .ok (.iand, 1) := by decide +kernel
theorem dX12_plans_64 : decode cX12_plans 64 = .ok (.iconst 1, 1) := by decide +kernel
theorem dX12_plans_65 : decode cX12_plans 65 = .ok (.if_icmp .ne 7, 3) := by decide +kernel
theorem dX12_plans_68 : decode cX12_plans 68 = .ok (.iconst 1, 1) := by decide +kernel
theorem dX12_plans_69 : decode cX12_plans 69 = .ok (.goto 4, 3) := by decide +kernel
theorem dX12_plans_72 : decode cX12_plans 72 = .ok (.iconst 0, 1) := by decide +kernel
theorem dX12_plans_73 : decode cX12_plans 73 = .ok (.istore 9, 2) := by decide +kernel
theorem dX12_plans_75 : decode cX12_plans 75 = .ok (.aload_n 0, 1) := by decide +kernel
theorem dX12_plans_76 : decode cX12_plans 76 = .ok (.iload_n 2, 1) := by decide +kernel
theorem dX12_plans_77 : decode cX12_plans 77 = .ok (.aload_n 0, 1) := by decide +kernel
theorem dX12_plans_78 : decode cX12_plans 78 = .ok (.aload_n 0, 1) := by decide +kernel
theorem dX12_plans_79 : decode cX12_plans 79 = .ok (.getfield 50, 3) := by decide +kernel
theorem dX12_plans_82 : decode cX12_plans 82 = .ok (.iload 7, 2) := by decide +kernel
theorem dX12_plans_84 : decode cX12_plans 84 = .ok (.iaload, 1) := by decide +kernel
theorem dX12_plans_85 : decode cX12_plans 85 = .ok (.invokevirtual 283, 3) := by decide +kernel
theorem dX12_plans_88 : decode cX12_plans 88 = .ok (.invokevirtual 277, 3) := by decide +kernel
theorem dX12_plans_91 : decode cX12_plans 91 = .ok (.istore 10, 2) := by decide +kernel
theorem dX12_plans_93 : decode cX12_plans 93 = .ok (.iload 10, 2) := by decide +kernel
theorem dX12_plans_95 : decode cX12_plans 95 = .ok (.iconst (-1), 1) := by decide +kernel
theorem dX12_plans_96 : decode cX12_plans 96 = .ok (.if_icmp .ne 5, 3) := by decide +kernel
theorem dX12_plans_99 : decode cX12_plans 99 = .ok (.iconst 0, 1) := by decide +kernel
theorem dX12_plans_100 : decode cX12_plans 100 = .ok (.ireturn, 1) := by decide +kernel
theorem dX12_plans_101 : decode cX12_plans 101 = .ok (.iload 9, 2) := by decide +kernel
theorem dX12_plans_103 : decode cX12_plans 103 = .ok (.ifCond .eq 20, 3) := by decide +kernel
theorem dX12_plans_106 : decode cX12_plans 106 = .ok (.iload_n 3, 1) := by decide +kernel
theorem dX12_plans_107 : decode cX12_plans 107 = .ok (.aload_n 0, 1) := by decide +kernel
theorem dX12_plans_108 : decode cX12_plans 108 = .ok (.iload 8, 2) := by decide +kernel
theorem dX12_plans_110 : decode cX12_plans 110 = .ok (.iconst 4, 1) := by decide +kernel
theorem dX12_plans_111 : decode cX12_plans 111 = .ok (.invokevirtual 274, 3) := by decide +kernel
theorem dX12_plans_114 : decode cX12_plans 114 = .ok (.iload 10, 2) := by decide +kernel
theorem dX12_plans_116 : decode cX12_plans 116 = .ok (.isub, 1) := by decide +kernel
theorem dX12_plans_117 : decode cX12_plans 117 = .ok (.invokestatic 289, 3) := by decide +kernel
theorem dX12_plans_120 : decode cX12_plans 120 = .ok (.goto 4, 3) := by decide +kernel
theorem dX12_plans_123 : decode cX12_plans 123 = .ok (.iload_n 3, 1) := by decide +kernel
theorem dX12_plans_124 : decode cX12_plans 124 = .ok (.istore 11, 2) := by decide +kernel
theorem dX12_plans_126 : decode cX12_plans 126 = .ok (.iload 7, 2) := by decide +kernel
theorem dX12_plans_128 : decode cX12_plans 128 = .ok (.ifCond .ne 35, 3) := by decide +kernel
theorem dX12_plans_131 : decode cX12_plans 131 = .ok (.aload_n 0, 1) := by decide +kernel
theorem dX12_plans_132 : decode cX12_plans 132 = .ok (.iload_n 1, 1) := by decide +kernel
theorem dX12_plans_133 : decode cX12_plans 133 = .ok (.iconst 3, 1) := by decide +kernel
theorem dX12_plans_134 : decode cX12_plans 134 = .ok (.invokevirtual 268, 3) := by decide +kernel
theorem dX12_plans_137 : decode cX12_plans 137 = .ok (.iconst (-1), 1) := by decide +kernel
theorem dX12_plans_138 : decode cX12_plans 138 = .ok (.if_icmp .ne 17, 3) := by decide +kernel
theorem dX12_plans_141 : decode cX12_plans 141 = .ok (.iload 11, 2) := by decide +kernel
theorem dX12_plans_143 : decode cX12_plans 143 = .ok (.aload_n 0, 1) := by decide +kernel
theorem dX12_plans_144 : decode cX12_plans 144 = .ok (.getfield 7, 3) := by decide +kernel
theorem dX12_plans_147 : decode cX12_plans 147 = .ok (.iconst 0, 1) := by decide +kernel
theorem dX12_plans_148 : decode cX12_plans 148 = .ok (.iaload, 1) := by decide +kernel
theorem dX12_plans_149 : decode cX12_plans 149 = .ok (.invokestatic 289, 3) := by decide +kernel
theorem dX12_plans_152 : decode cX12_plans 152 = .ok (.goto 9, 3) := by decide +kernel
theorem dX12_plans_155 : decode cX12_plans 155 = .ok (.aload_n 0, 1) := by decide +kernel
theorem dX12_plans_156 : decode cX12_plans 156 = .ok (.iload_n 1, 1) := by decide +kernel
theorem dX12_plans_157 : decode cX12_plans 157 = .ok (.iconst 3, 1) := by decide +kernel
theorem dX12_plans_158 : decode cX12_plans 158 = .ok (.invokevirtual 268, 3) := by decide +kernel
theorem dX12_plans_161 : decode cX12_plans 161 = .ok (.istore 11, 2) := by decide +kernel
theorem dX12_plans_163 : decode cX12_plans 163 = .ok (.iload 11, 2) := by decide +kernel
theorem dX12_plans_165 : decode cX12_plans 165 = .ok (.iload_n 3, 1) := by decide +kernel
theorem dX12_plans_166 : decode cX12_plans 166 = .ok (.isub, 1) := by decide +kernel
theorem dX12_plans_167 : decode cX12_plans 167 = .ok (.aload_n 0, 1) := by decide +kernel
theorem dX12_plans_168 : decode cX12_plans 168 = .ok (.bipush 6, 2) := by decide +kernel
theorem dX12_plans_170 : decode cX12_plans 170 = .ok (.invokevirtual 292, 3) := by decide +kernel
theorem dX12_plans_173 : decode cX12_plans 173 = .ok (.if_icmp .lt 8, 3) := by decide +kernel
theorem dX12_plans_176 : decode cX12_plans 176 = .ok (.iload 10, 2) := by decide +kernel
theorem dX12_plans_178 : decode cX12_plans 178 = .ok (.goto 8, 3) := by decide +kernel
theorem dX12_plans_181 : decode cX12_plans 181 = .ok (.iload 4, 2) := by decide +kernel
theorem dX12_plans_183 : decode cX12_plans 183 = .ok (.iload 10, 2) := by decide +kernel
theorem dX12_plans_185 : decode cX12_plans 185 = .ok (.iadd, 1) := by decide +kernel
theorem dX12_plans_186 : decode cX12_plans 186 = .ok (.istore 4, 2) := by decide +kernel
theorem dX12_plans_188 : decode cX12_plans 188 = .ok (.iload 9, 2) := by decide +kernel
theorem dX12_plans_190 : decode cX12_plans 190 = .ok (.ifCond .eq 19, 3) := by decide +kernel
theorem dX12_plans_193 : decode cX12_plans 193 = .ok (.aload_n 0, 1) := by decide +kernel
theorem dX12_plans_194 : decode cX12_plans 194 = .ok (.iload 8, 2) := by decide +kernel
theorem dX12_plans_196 : decode cX12_plans 196 = .ok (.bipush 11, 2) := by decide +kernel
theorem dX12_plans_198 : decode cX12_plans 198 = .ok (.invokevirtual 274, 3) := by decide +kernel
theorem dX12_plans_201 : decode cX12_plans 201 = .ok (.iconst 1, 1) := by decide +kernel
theorem dX12_plans_202 : decode cX12_plans 202 = .ok (.if_icmp .ne 7, 3) := by decide +kernel
theorem dX12_plans_205 : decode cX12_plans 205 = .ok (.iconst 1, 1) := by decide +kernel
theorem dX12_plans_206 : decode cX12_plans 206 = .ok (.goto 4, 3) := by decide +kernel
theorem dX12_plans_209 : decode cX12_plans 209 = .ok (.iconst 0, 1) := by decide +kernel
theorem dX12_plans_210 : decode cX12_plans 210 = .ok (.istore 12, 2) := by decide +kernel
theorem dX12_plans_212 : decode cX12_plans 212 = .ok (.aload_n 0, 1) := by decide +kernel
theorem dX12_plans_213 : decode cX12_plans 213 = .ok (.getfield 53, 3) := by decide +kernel
theorem dX12_plans_216 : decode cX12_plans 216 = .ok (.iload 7, 2) := by decide +kernel
theorem dX12_plans_218 : decode cX12_plans 218 = .ok (.iload 11, 2) := by decide +kernel
theorem dX12_plans_220 : decode cX12_plans 220 = .ok (.iastore, 1) := by decide +kernel
theorem dX12_plans_221 : decode cX12_plans 221 = .ok (.aload_n 0, 1) := by decide +kernel
theorem dX12_plans_222 : decode cX12_plans 222 = .ok (.getfield 56, 3) := by decide +kernel
theorem dX12_plans_225 : decode cX12_plans 225 = .ok (.iload 7, 2) := by decide +kernel
theorem dX12_plans_227 : decode cX12_plans 227 = .ok (.iload 11, 2) := by decide +kernel
theorem dX12_plans_229 : decode cX12_plans 229 = .ok (.iload 10, 2) := by decide +kernel
theorem dX12_plans_231 : decode cX12_plans 231 = .ok (.iadd, 1) := by decide +kernel
theorem dX12_plans_232 : decode cX12_plans 232 = .ok (.iastore, 1) := by decide +kernel
theorem dX12_plans_233 : decode cX12_plans 233 = .ok (.aload_n 0, 1) := by decide +kernel
theorem dX12_plans_234 : decode cX12_plans 234 = .ok (.getfield 59, 3) := by decide +kernel
theorem dX12_plans_237 : decode cX12_plans 237 = .ok (.iload 7, 2) := by decide +kernel
theorem dX12_plans_239 : decode cX12_plans 239 = .ok (.aload_n 0, 1) := by decide +kernel
theorem dX12_plans_240 : decode cX12_plans 240 = .ok (.getfield 56, 3) := by decide +kernel
theorem dX12_plans_243 : decode cX12_plans 243 = .ok (.iload 7, 2) := by decide +kernel
theorem dX12_plans_245 : decode cX12_plans 245 = .ok (.iaload, 1) := by decide +kernel
theorem dX12_plans_246 : decode cX12_plans 246 = .ok (.aload_n 0, 1) := by decide +kernel
theorem dX12_plans_247 : decode cX12_plans 247 = .ok (.iload 12, 2) := by decide +kernel
theorem dX12_plans_249 : decode cX12_plans 249 = .ok (.ifCond .eq 7, 3) := by decide +kernel
theorem dX12_plans_252 : decode cX12_plans 252 = .ok (.iconst 3, 1) := by decide +kernel
theorem dX12_plans_253 : decode cX12_plans 253 = .ok (.goto 4, 3) := by decide +kernel
theorem dX12_plans_256 : decode cX12_plans 256 = .ok (.iconst 1, 1) := by decide +kernel
theorem dX12_plans_257 : decode cX12_plans 257 = .ok (.invokevirtual 292, 3) := by decide +kernel
theorem dX12_plans_260 : decode cX12_plans 260 = .ok (.iadd, 1) := by decide +kernel
theorem dX12_plans_261 : decode cX12_plans 261 = .ok (.iastore, 1) := by decide +kernel
theorem dX12_plans_262 : decode cX12_plans 262 = .ok (.aload_n 0, 1) := by decide +kernel
theorem dX12_plans_263 : decode cX12_plans 263 = .ok (.getfield 62, 3) := by decide +kernel
theorem dX12_plans_266 : decode cX12_plans 266 = .ok (.iload 7, 2) := by decide +kernel
theorem dX12_plans_268 : decode cX12_plans 268 = .ok (.iload 4, 2) := by decide +kernel
theorem dX12_plans_270 : decode cX12_plans 270 = .ok (.iastore, 1) := by decide +kernel
theorem dX12_plans_271 : decode cX12_plans 271 = .ok (.aload_n 0, 1) := by decide +kernel
theorem dX12_plans_272 : decode cX12_plans 272 = .ok (.getfield 65, 3) := by decide +kernel
theorem dX12_plans_275 : decode cX12_plans 275 = .ok (.iload 7, 2) := by decide +kernel
theorem dX12_plans_277 : decode cX12_plans 277 = .ok (.iload 10, 2) := by decide +kernel
theorem dX12_plans_279 : decode cX12_plans 279 = .ok (.iastore, 1) := by decide +kernel
theorem dX12_plans_280 : decode cX12_plans 280 = .ok (.iload 6, 2) := by decide +kernel
theorem dX12_plans_282 : decode cX12_plans 282 = .ok (.ifCond .eq 28, 3) := by decide +kernel
theorem dX12_plans_285 : decode cX12_plans 285 = .ok (.iload 5, 2) := by decide +kernel
theorem dX12_plans_287 : decode cX12_plans 287 = .ok (.aload_n 0, 1) := by decide +kernel
theorem dX12_plans_288 : decode cX12_plans 288 = .ok (.getfield 37, 3) := by decide +kernel
theorem dX12_plans_291 : decode cX12_plans 291 = .ok (.iload_n 1, 1) := by decide +kernel
theorem dX12_plans_292 : decode cX12_plans 292 = .ok (.iaload, 1) := by decide +kernel
theorem dX12_plans_293 : decode cX12_plans 293 = .ok (.if_icmp .gt 17, 3) := by decide +kernel
theorem dX12_plans_296 : decode cX12_plans 296 = .ok (.iload 4, 2) := by decide +kernel
theorem dX12_plans_298 : decode cX12_plans 298 = .ok (.aload_n 0, 1) := by decide +kernel
theorem dX12_plans_299 : decode cX12_plans 299 = .ok (.iconst 5, 1) := by decide +kernel
theorem dX12_plans_300 : decode cX12_plans 300 = .ok (.invokevirtual 292, 3) := by decide +kernel
theorem dX12_plans_303 : decode cX12_plans 303 = .ok (.if_icmp .gt 7, 3) := by decide +kernel
theorem dX12_plans_306 : decode cX12_plans 306 = .ok (.iconst 1, 1) := by decide +kernel
theorem dX12_plans_307 : decode cX12_plans 307 = .ok (.goto 4, 3) := by decide +kernel
theorem dX12_plans_310 : decode cX12_plans 310 = .ok (.iconst 0, 1) := by decide +kernel
theorem dX12_plans_311 : decode cX12_plans 311 = .ok (.istore 6, 2) := by decide +kernel
theorem dX12_plans_313 : decode cX12_plans 313 = .ok (.iload 9, 2) := by decide +kernel
theorem dX12_plans_315 : decode cX12_plans 315 = .ok (.ifCond .eq 70, 3) := by decide +kernel
theorem dX12_plans_318 : decode cX12_plans 318 = .ok (.iload 6, 2) := by decide +kernel
theorem dX12_plans_320 : decode cX12_plans 320 = .ok (.ifCond .eq 24, 3) := by decide +kernel
theorem dX12_plans_323 : decode cX12_plans 323 = .ok (.aload_n 0, 1) := by decide +kernel
theorem dX12_plans_324 : decode cX12_plans 324 = .ok (.getfield 56, 3) := by decide +kernel
theorem dX12_plans_327 : decode cX12_plans 327 = .ok (.iload 7, 2) := by decide +kernel
theorem dX12_plans_329 : decode cX12_plans 329 = .ok (.iaload, 1) := by decide +kernel
theorem dX12_plans_330 : decode cX12_plans 330 = .ok (.aload_n 0, 1) := by decide +kernel
theorem dX12_plans_331 : decode cX12_plans 331 = .ok (.iload 8, 2) := by decide +kernel
theorem dX12_plans_333 : decode cX12_plans 333 = .ok (.iconst 5, 1) := by decide +kernel
theorem dX12_plans_334 : decode cX12_plans 334 = .ok (.invokevirtual 274, 3) := by decide +kernel
theorem dX12_plans_337 : decode cX12_plans 337 = .ok (.if_icmp .gt 7, 3) := by decide +kernel
theorem dX12_plans_340 : decode cX12_plans 340 = .ok (.iconst 1, 1) := by decide +kernel
theorem dX12_plans_341 : decode cX12_plans 341 = .ok (.goto 4, 3) := by decide +kernel
theorem dX12_plans_344 : decode cX12_plans 344 = .ok (.iconst 0, 1) := by decide +kernel
theorem dX12_plans_345 : decode cX12_plans 345 = .ok (.istore 6, 2) := by decide +kernel
theorem dX12_plans_347 : decode cX12_plans 347 = .ok (.aload_n 0, 1) := by decide +kernel
theorem dX12_plans_348 : decode cX12_plans 348 = .ok (.getfield 68, 3) := by decide +kernel
theorem dX12_plans_351 : decode cX12_plans 351 = .ok (.iload 8, 2) := by decide +kernel
theorem dX12_plans_353 : decode cX12_plans 353 = .ok (.aload_n 0, 1) := by decide +kernel
theorem dX12_plans_354 : decode cX12_plans 354 = .ok (.getfield 59, 3) := by decide +kernel
theorem dX12_plans_357 : decode cX12_plans 357 = .ok (.iload 7, 2) := by decide +kernel
theorem dX12_plans_359 : decode cX12_plans 359 = .ok (.iaload, 1) := by decide +kernel
theorem dX12_plans_360 : decode cX12_plans 360 = .ok (.iastore, 1) := by decide +kernel
theorem dX12_plans_361 : decode cX12_plans 361 = .ok (.iload 5, 2) := by decide +kernel
theorem dX12_plans_363 : decode cX12_plans 363 = .ok (.iload 12, 2) := by decide +kernel
theorem dX12_plans_365 : decode cX12_plans 365 = .ok (.ifCond .eq 7, 3) := by decide +kernel
theorem dX12_plans_368 : decode cX12_plans 368 = .ok (.iconst 0, 1) := by decide +kernel
theorem dX12_plans_369 : decode cX12_plans 369 = .ok (.goto 10, 3) := by decide +kernel
theorem dX12_plans_372 : decode cX12_plans 372 = .ok (.aload_n 0, 1) := by decide +kernel
theorem dX12_plans_373 : decode cX12_plans 373 = .ok (.iload 8, 2) := by decide +kernel
theorem dX12_plans_375 : decode cX12_plans 375 = .ok (.iconst 3, 1) := by decide +kernel
theorem dX12_plans_376 : decode cX12_plans 376 = .ok (.invokevirtual 274, 3) := by decide +kernel
theorem dX12_plans_379 : decode cX12_plans 379 = .ok (.iadd, 1) := by decide +kernel
theorem dX12_plans_380 : decode cX12_plans 380 = .ok (.istore 5, 2) := by decide +kernel
theorem dX12_plans_382 : decode cX12_plans 382 = .ok (.goto 77, 3) := by decide +kernel
theorem dX12_plans_385 : decode cX12_plans 385 = .ok (.aload_n 0, 1) := by decide +kernel
theorem dX12_plans_386 : decode cX12_plans 386 = .ok (.iload 8, 2) := by decide +kernel
theorem dX12_plans_388 : decode cX12_plans 388 = .ok (.iconst 0, 1) := by decide +kernel
theorem dX12_plans_389 : decode cX12_plans 389 = .ok (.invokevirtual 274, 3) := by decide +kernel
theorem dX12_plans_392 : decode cX12_plans 392 = .ok (.iconst 2, 1) := by decide +kernel
theorem dX12_plans_393 : decode cX12_plans 393 = .ok (.if_icmp .ne 14, 3) := by decide +kernel
theorem dX12_plans_396 : decode cX12_plans 396 = .ok (.aload_n 0, 1) := by decide +kernel
theorem dX12_plans_397 : decode cX12_plans 397 = .ok (.iload 8, 2) := by decide +kernel
theorem dX12_plans_399 : decode cX12_plans 399 = .ok (.bipush 8, 2) := by decide +kernel
theorem dX12_plans_401 : decode cX12_plans 401 = .ok (.invokevirtual 274, 3) := by decide +kernel
theorem dX12_plans_404 : decode cX12_plans 404 = .ok (.goto 10, 3) := by decide +kernel
theorem dX12_plans_407 : decode cX12_plans 407 = .ok (.aload_n 0, 1) := by decide +kernel
theorem dX12_plans_408 : decode cX12_plans 408 = .ok (.getfield 68, 3) := by decide +kernel
theorem dX12_plans_411 : decode cX12_plans 411 = .ok (.iload 8, 2) := by decide +kernel
theorem dX12_plans_413 : decode cX12_plans 413 = .ok (.iaload, 1) := by decide +kernel
theorem dX12_plans_414 : decode cX12_plans 414 = .ok (.istore 13, 2) := by decide +kernel
theorem dX12_plans_416 : decode cX12_plans 416 = .ok (.iload 6, 2) := by decide +kernel
theorem dX12_plans_418 : decode cX12_plans 418 = .ok (.ifCond .eq 26, 3) := by decide +kernel
theorem dX12_plans_421 : decode cX12_plans 421 = .ok (.aload_n 0, 1) := by decide +kernel
theorem dX12_plans_422 : decode cX12_plans 422 = .ok (.getfield 56, 3) := by decide +kernel
theorem dX12_plans_425 : decode cX12_plans 425 = .ok (.iload 7, 2) := by decide +kernel
theorem dX12_plans_427 : decode cX12_plans 427 = .ok (.iaload, 1) := by decide +kernel
theorem dX12_plans_428 : decode cX12_plans 428 = .ok (.iload 13, 2) := by decide +kernel
theorem dX12_plans_430 : decode cX12_plans 430 = .ok (.aload_n 0, 1) := by decide +kernel
theorem dX12_plans_431 : decode cX12_plans 431 = .ok (.iload 8, 2) := by decide +kernel
theorem dX12_plans_433 : decode cX12_plans 433 = .ok (.invokevirtual 295, 3) := by decide +kernel
theorem dX12_plans_436 : decode cX12_plans 436 = .ok (.iadd, 1) := by decide +kernel
theorem dX12_plans_437 : decode cX12_plans 437 = .ok (.if_icmp .gt 7, 3) := by decide +kernel
theorem dX12_plans_440 : decode cX12_plans 440 = .ok (.iconst 1, 1) := by decide +kernel
theorem dX12_plans_441 : decode cX12_plans 441 = .ok (.goto 4, 3) := by decide +kernel
theorem dX12_plans_444 : decode cX12_plans 444 = .ok (.iconst 0, 1) := by decide +kernel
theorem dX12_plans_445 : decode cX12_plans 445 = .ok (.istore 6, 2) := by decide +kernel
theorem dX12_plans_447 : decode cX12_plans 447 = .ok (.iload 5, 2) := by decide +kernel
theorem dX12_plans_449 : decode cX12_plans 449 = .ok (.aload_n 0, 1) := by decide +kernel
theorem dX12_plans_450 : decode cX12_plans 450 = .ok (.iload 8, 2) := by decide +kernel
theorem dX12_plans_452 : decode cX12_plans 452 = .ok (.iconst 3, 1) := by decide +kernel
theorem dX12_plans_453 : decode cX12_plans 453 = .ok (.invokevirtual 274, 3) := by decide +kernel
theorem dX12_plans_456 : decode cX12_plans 456 = .ok (.isub, 1) := by decide +kernel
theorem dX12_plans_457 : decode cX12_plans 457 = .ok (.istore 5, 2) := by decide +kernel
theorem dX12_plans_459 : decode cX12_plans 459 = .ok (.aload_n 0, 1) := by decide +kernel
theorem dX12_plans_460 : decode cX12_plans 460 = .ok (.getfield 59, 3) := by decide +kernel
theorem dX12_plans_463 : decode cX12_plans 463 = .ok (.iload 7, 2) := by decide +kernel
theorem dX12_plans_465 : decode cX12_plans 465 = .ok (.iaload, 1) := by decide +kernel
theorem dX12_plans_466 : decode cX12_plans 466 = .ok (.istore_n 3, 1) := by decide +kernel
theorem dX12_plans_467 : decode cX12_plans 467 = .ok (.aload_n 0, 1) := by decide +kernel
theorem dX12_plans_468 : decode cX12_plans 468 = .ok (.aload_n 0, 1) := by decide +kernel
theorem dX12_plans_469 : decode cX12_plans 469 = .ok (.getfield 50, 3) := by decide +kernel
theorem dX12_plans_472 : decode cX12_plans 472 = .ok (.iload 7, 2) := by decide +kernel
theorem dX12_plans_474 : decode cX12_plans 474 = .ok (.iaload, 1) := by decide +kernel
theorem dX12_plans_475 : decode cX12_plans 475 = .ok (.invokevirtual 283, 3) := by decide +kernel
theorem dX12_plans_478 : decode cX12_plans 478 = .ok (.istore_n 2, 1) := by decide +kernel
theorem dX12_plans_479 : decode cX12_plans 479 = .ok (.iinc 7 1, 3) := by decide +kernel
theorem dX12_plans_482 : decode cX12_plans 482 = .ok (.goto (-447), 3) := by decide +kernel
theorem dX12_plans_485 : decode cX12_plans 485 = .ok (.iload 6, 2) := by decide +kernel
theorem dX12_plans_487 : decode cX12_plans 487 = .ok (.ifCond .eq 34, 3) := by decide +kernel
theorem dX12_plans_490 : decode cX12_plans 490 = .ok (.aload_n 0, 1) := by decide +kernel
theorem dX12_plans_491 : decode cX12_plans 491 = .ok (.getfield 271, 3) := by decide +kernel
theorem dX12_plans_494 : decode cX12_plans 494 = .ok (.ifCond .eq 23, 3) := by decide +kernel
theorem dX12_plans_497 : decode cX12_plans 497 = .ok (.aload_n 0, 1) := by decide +kernel
theorem dX12_plans_498 : decode cX12_plans 498 = .ok (.getfield 59, 3) := by decide +kernel
theorem dX12_plans_501 : decode cX12_plans 501 = .ok (.aload_n 0, 1) := by decide +kernel
theorem dX12_plans_502 : decode cX12_plans 502 = .ok (.getfield 271, 3) := by decide +kernel
theorem dX12_plans_505 : decode cX12_plans 505 = .ok (.iconst 1, 1) := by decide +kernel
theorem dX12_plans_506 : decode cX12_plans 506 = .ok (.isub, 1) := by decide +kernel
theorem dX12_plans_507 : decode cX12_plans 507 = .ok (.iaload, 1) := by decide +kernel
theorem dX12_plans_508 : decode cX12_plans 508 = .ok (.aload_n 0, 1) := by decide +kernel
theorem dX12_plans_509 : decode cX12_plans 509 = .ok (.iload_n 1, 1) := by decide +kernel
theorem dX12_plans_510 : decode cX12_plans 510 = .ok (.iconst 4, 1) := by decide +kernel
theorem dX12_plans_511 : decode cX12_plans 511 = .ok (.invokevirtual 268, 3) := by decide +kernel
theorem dX12_plans_514 : decode cX12_plans 514 = .ok (.if_icmp .gt 7, 3) := by decide +kernel
theorem dX12_plans_517 : decode cX12_plans 517 = .ok (.iconst 1, 1) := by decide +kernel
theorem dX12_plans_518 : decode cX12_plans 518 = .ok (.goto 4, 3) := by decide +kernel
theorem dX12_plans_521 : decode cX12_plans 521 = .ok (.iconst 0, 1) := by decide +kernel
theorem dX12_plans_522 : decode cX12_plans 522 = .ok (.ireturn, 1) := by decide +kernel
theorem dX12_insertsAt_0 : decode cX12_insertsAt 0 = .ok (.aload_n 0, 1) := by decide +kernel
theorem dX12_insertsAt_1 : decode cX12_insertsAt 1 = .ok (.iload_n 1, 1) := by decide +kernel
theorem dX12_insertsAt_2 : decode cX12_insertsAt 2 = .ok (.bipush 11, 2) := by decide +kernel
theorem dX12_insertsAt_4 : decode cX12_insertsAt 4 = .ok (.invokevirtual 268, 3) := by decide +kernel
theorem dX12_insertsAt_7 : decode cX12_insertsAt 7 = .ok (.istore 5, 2) := by decide +kernel
theorem dX12_insertsAt_9 : decode cX12_insertsAt 9 = .ok (.iconst 0, 1) := by decide +kernel
theorem dX12_insertsAt_10 : decode cX12_insertsAt 10 = .ok (.istore 6, 2) := by decide +kernel
theorem dX12_insertsAt_12 : decode cX12_insertsAt 12 = .ok (.aload_n 0, 1) := by decide +kernel
theorem dX12_insertsAt_13 : decode cX12_insertsAt 13 = .ok (.iload 5, 2) := by decide +kernel
theorem dX12_insertsAt_15 : decode cX12_insertsAt 15 = .ok (.iconst 2, 1) := by decide +kernel
theorem dX12_insertsAt_16 : decode cX12_insertsAt 16 = .ok (.iadd, 1) := by decide +kernel
theorem dX12_insertsAt_17 : decode cX12_insertsAt 17 = .ok (.putfield 271, 3) := by decide +kernel
theorem dX12_insertsAt_20 : decode cX12_insertsAt 20 = .ok (.iconst 0, 1) := by decide +kernel
theorem dX12_insertsAt_21 : decode cX12_insertsAt 21 = .ok (.istore 7, 2) := by decide +kernel
theorem dX12_insertsAt_23 : decode cX12_insertsAt 23 = .ok (.iload 7, 2) := by decide +kernel
theorem dX12_insertsAt_25 : decode cX12_insertsAt 25 = .ok (.aload_n 0, 1) := by decide +kernel
theorem dX12_insertsAt_26 : decode cX12_insertsAt 26 = .ok (.getfield 271, 3) := by decide +kernel
theorem dX12_insertsAt_29 : decode cX12_insertsAt 29 = .ok (.if_icmp .ge 70, 3) := by decide +kernel
theorem dX12_insertsAt_32 : decode cX12_insertsAt 32 = .ok (.iload 7, 2) := by decide +kernel
theorem dX12_insertsAt_34 : decode cX12_insertsAt 34 = .ok (.iload_n 3, 1) := by decide +kernel
theorem dX12_insertsAt_35 : decode cX12_insertsAt 35 = .ok (.if_icmp .ne 18, 3) := by decide +kernel
theorem dX12_insertsAt_38 : decode cX12_insertsAt 38 = .ok (.aload_n 0, 1) := by decide +kernel
theorem dX12_insertsAt_39 : decode cX12_insertsAt 39 = .ok (.getfield 50, 3) := by decide +kernel
theorem dX12_insertsAt_42 : decode cX12_insertsAt 42 = .ok (.iload 7, 2) := by decide +kernel
theorem dX12_insertsAt_44 : decode cX12_insertsAt 44 = .ok (.iconst 2, 1) := by decide +kernel
theorem dX12_insertsAt_45 : decode cX12_insertsAt 45 = .ok (.iload_n 2, 1) := by decide +kernel
theorem dX12_insertsAt_46 : decode cX12_insertsAt 46 = .ok (.imul, 1) := by decide +kernel
theorem dX12_insertsAt_47 : decode cX12_insertsAt 47 = .ok (.iconst 1, 1) := by decide +kernel
theorem dX12_insertsAt_48 : decode cX12_insertsAt 48 = .ok (.iadd, 1) := by decide +kernel
theorem dX12_insertsAt_49 : decode cX12_insertsAt 49 = .ok (.iastore, 1) := by decide +kernel
theorem dX12_insertsAt_50 : decode cX12_insertsAt 50 = .ok (.goto 43, 3) := by decide +kernel
theorem dX12_insertsAt_53 : decode cX12_insertsAt 53 = .ok (.iload 7, 2) := by decide +kernel
theorem dX12_insertsAt_55 : decode cX12_insertsAt 55 = .ok (.iload 4, 2) := by decide +kernel
theorem dX12_insertsAt_57 : decode cX12_insertsAt 57 = .ok (.if_icmp .ne 16, 3) := by decide +kernel
theorem dX12_insertsAt_60 : decode cX12_insertsAt 60 = .ok (.aload_n 0, 1) := by decide +kernel
theorem dX12_insertsAt_61 : decode cX12_insertsAt 61 = .ok (.getfield 50, 3) := by decide +kernel
theorem dX12_insertsAt_64 : decode cX12_insertsAt 64 = .ok (.iload 7, 2) := by decide +kernel
theorem dX12_insertsAt_66 : decode cX12_insertsAt 66 = .ok (.iconst 2, 1) := by decide +kernel
theorem dX12_insertsAt_67 : decode cX12_insertsAt 67 = .ok (.iload_n 2, 1) := by decide +kernel
theorem dX12_insertsAt_68 : decode cX12_insertsAt 68 = .ok (.imul, 1) := by decide +kernel
theorem dX12_insertsAt_69 : decode cX12_insertsAt 69 = .ok (.iastore, 1) := by decide +kernel
theorem dX12_insertsAt_70 : decode cX12_insertsAt 70 = .ok (.goto 23, 3) := by decide +kernel
theorem dX12_insertsAt_73 : decode cX12_insertsAt 73 = .ok (.aload_n 0, 1) := by decide +kernel
theorem dX12_insertsAt_74 : decode cX12_insertsAt 74 = .ok (.getfield 50, 3) := by decide +kernel
theorem dX12_insertsAt_77 : decode cX12_insertsAt 77 = .ok (.iload 7, 2) := by decide +kernel
theorem dX12_insertsAt_79 : decode cX12_insertsAt 79 = .ok (.aload_n 0, 1) := by decide +kernel
theorem dX12_insertsAt_80 : decode cX12_insertsAt 80 = .ok (.iload_n 1, 1) := by decide +kernel
theorem dX12_insertsAt_81 : decode cX12_insertsAt 81 = .ok (.bipush 12, 2) := by decide +kernel
theorem dX12_insertsAt_83 : decode cX12_insertsAt 83 = .ok (.iload 6, 2) := by decide +kernel
theorem dX12_insertsAt_85 : decode cX12_insertsAt 85 = .ok (.iadd, 1) := by decide +kernel
theorem dX12_insertsAt_86 : decode cX12_insertsAt 86 = .ok (.invokevirtual 268, 3) := by decide +kernel
theorem dX12_insertsAt_89 : decode cX12_insertsAt 89 = .ok (.iastore, 1) := by decide +kernel
theorem dX12_insertsAt_90 : decode cX12_insertsAt 90 = .ok (.iinc 6 1, 3) := by decide +kernel
theorem dX12_insertsAt_93 : decode cX12_insertsAt 93 = .ok (.iinc 7 1, 3) := by decide +kernel
theorem dX12_insertsAt_96 : decode cX12_insertsAt 96 = .ok (.goto (-73), 3) := by decide +kernel
theorem dX12_insertsAt_99 : decode cX12_insertsAt 99 = .ok (.return_, 1) := by decide +kernel
theorem dX12_findsBest_0 : decode cX12_findsBest 0 = .ok (.aload_n 0, 1) := by decide +kernel
theorem dX12_findsBest_1 : decode cX12_findsBest 1 = .ok (.iconst (-1), 1) := by decide +kernel
theorem dX12_findsBest_2 : decode cX12_findsBest 2 = .ok (.putfield 298, 3) := by decide +kernel
theorem dX12_findsBest_5 : decode cX12_findsBest 5 = .ok (.aload_n 0, 1) := by decide +kernel
theorem dX12_findsBest_6 : decode cX12_findsBest 6 = .ok (.iload_n 1, 1) := by decide +kernel
theorem dX12_findsBest_7 : decode cX12_findsBest 7 = .ok (.bipush 11, 2) := by decide +kernel
theorem dX12_findsBest_9 : decode cX12_findsBest 9 = .ok (.invokevirtual 268, 3) := by decide +kernel
theorem dX12_findsBest_12 : decode cX12_findsBest 12 = .ok (.istore_n 3, 1) := by decide +kernel
theorem dX12_findsBest_13 : decode cX12_findsBest 13 = .ok (.iload_n 3, 1) := by decide +kernel
theorem dX12_findsBest_14 : decode cX12_findsBest 14 = .ok (.iconst 2, 1) := by decide +kernel
theorem dX12_findsBest_15 : decode cX12_findsBest 15 = .ok (.iadd, 1) := by decide +kernel
theorem dX12_findsBest_16 : decode cX12_findsBest 16 = .ok (.bipush 12, 2) := by decide +kernel
theorem dX12_findsBest_18 : decode cX12_findsBest 18 = .ok (.if_icmp .le 5, 3) := by decide +kernel
theorem dX12_findsBest_21 : decode cX12_findsBest 21 = .ok (.iconst 0, 1) := by decide +kernel
theorem dX12_findsBest_22 : decode cX12_findsBest 22 = .ok (.ireturn, 1) := by decide +kernel
theorem dX12_findsBest_23 : decode cX12_findsBest 23 = .ok (.aload_n 0, 1) := by decide +kernel
theorem dX12_findsBest_24 : decode cX12_findsBest 24 = .ok (.iload_n 1, 1) := by decide +kernel
theorem dX12_findsBest_25 : decode cX12_findsBest 25 = .ok (.invokevirtual 301, 3) := by decide +kernel
theorem dX12_findsBest_28 : decode cX12_findsBest 28 = .ok (.aload_n 0, 1) := by decide +kernel
theorem dX12_findsBest_29 : decode cX12_findsBest 29 = .ok (.iload_n 1, 1) := by decide +kernel
theorem dX12_findsBest_30 : decode cX12_findsBest 30 = .ok (.invokevirtual 304, 3) := by decide +kernel
theorem dX12_findsBest_33 : decode cX12_findsBest 33 = .ok (.istore 4, 2) := by decide +kernel
theorem dX12_findsBest_35 : decode cX12_findsBest 35 = .ok (.aload_n 0, 1) := by decide +kernel
theorem dX12_findsBest_36 : decode cX12_findsBest 36 = .ok (.iload_n 1, 1) := by decide +kernel
theorem dX12_findsBest_37 : decode cX12_findsBest 37 = .ok (.iconst 3, 1) := by decide +kernel
theorem dX12_findsBest_38 : decode cX12_findsBest 38 = .ok (.invokevirtual 268, 3) := by decide +kernel
theorem dX12_findsBest_41 : decode cX12_findsBest 41 = .ok (.iconst (-1), 1) := by decide +kernel
theorem dX12_findsBest_42 : decode cX12_findsBest 42 = .ok (.if_icmp .ne 7, 3) := by decide +kernel
theorem dX12_findsBest_45 : decode cX12_findsBest 45 = .ok (.iconst 0, 1) := by decide +kernel
theorem dX12_findsBest_46 : decode cX12_findsBest 46 = .ok (.goto 4, 3) := by decide +kernel
theorem dX12_findsBest_49 : decode cX12_findsBest 49 = .ok (.iconst 1, 1) := by decide +kernel
theorem dX12_findsBest_50 : decode cX12_findsBest 50 = .ok (.istore 5, 2) := by decide +kernel
theorem dX12_findsBest_52 : decode cX12_findsBest 52 = .ok (.iload 5, 2) := by decide +kernel
theorem dX12_findsBest_54 : decode cX12_findsBest 54 = .ok (.iload_n 3, 1) := by decide +kernel
theorem dX12_findsBest_55 : decode cX12_findsBest 55 = .ok (.if_icmp .gt 143, 3) := by decide +kernel
theorem dX12_findsBest_58 : decode cX12_findsBest 58 = .ok (.iload 5, 2) := by decide +kernel
theorem dX12_findsBest_60 : decode cX12_findsBest 60 = .ok (.iconst 1, 1) := by decide +kernel
theorem dX12_findsBest_61 : decode cX12_findsBest 61 = .ok (.iadd, 1) := by decide +kernel
theorem dX12_findsBest_62 : decode cX12_findsBest 62 = .ok (.istore 6, 2) := by decide +kernel
theorem dX12_findsBest_64 : decode cX12_findsBest 64 = .ok (.iload 6, 2) := by decide +kernel
theorem dX12_findsBest_66 : decode cX12_findsBest 66 = .ok (.iload_n 3, 1) := by decide +kernel
theorem dX12_findsBest_67 : decode cX12_findsBest 67 = .ok (.iconst 1, 1) := by decide +kernel
theorem dX12_findsBest_68 : decode cX12_findsBest 68 = .ok (.iadd, 1) := by decide +kernel
theorem dX12_findsBest_69 : decode cX12_findsBest 69 = .ok (.if_icmp .gt 123, 3) := by decide +kernel
theorem dX12_findsBest_72 : decode cX12_findsBest 72 = .ok (.aload_n 0, 1) := by decide +kernel
theorem dX12_findsBest_73 : decode cX12_findsBest 73 = .ok (.iload_n 1, 1) := by decide +kernel
theorem dX12_findsBest_74 : decode cX12_findsBest 74 = .ok (.iload_n 2, 1) := by decide +kernel
theorem dX12_findsBest_75 : decode cX12_findsBest 75 = .ok (.iload 5, 2) := by decide +kernel
theorem dX12_findsBest_77 : decode cX12_findsBest 77 = .ok (.iload 6, 2) := by decide +kernel
theorem dX12_findsBest_79 : decode cX12_findsBest 79 = .ok (.invokevirtual 307, 3) := by decide +kernel
theorem dX12_findsBest_82 : decode cX12_findsBest 82 = .ok (.aload_n 0, 1) := by decide +kernel
theorem dX12_findsBest_83 : decode cX12_findsBest 83 = .ok (.iload_n 1, 1) := by decide +kernel
theorem dX12_findsBest_84 : decode cX12_findsBest 84 = .ok (.invokevirtual 311, 3) := by decide +kernel
theorem dX12_findsBest_87 : decode cX12_findsBest 87 = .ok (.ifCond .ne 6, 3) := by decide +kernel
theorem dX12_findsBest_90 : decode cX12_findsBest 90 = .ok (.goto 96, 3) := by decide +kernel
theorem dX12_findsBest_93 : decode cX12_findsBest 93 = .ok (.aload_n 0, 1) := by decide +kernel
theorem dX12_findsBest_94 : decode cX12_findsBest 94 = .ok (.iload_n 1, 1) := by decide +kernel
theorem dX12_findsBest_95 : decode cX12_findsBest 95 = .ok (.invokevirtual 304, 3) := by decide +kernel
theorem dX12_findsBest_98 : decode cX12_findsBest 98 = .ok (.iload 4, 2) := by decide +kernel
theorem dX12_findsBest_100 : decode cX12_findsBest 100 = .ok (.isub, 1) := by decide +kernel
theorem dX12_findsBest_101 : decode cX12_findsBest 101 = .ok (.istore 7, 2) := by decide +kernel
theorem dX12_findsBest_103 : decode cX12_findsBest 103 = .ok (.aload_n 0, 1) := by decide +kernel
theorem dX12_findsBest_104 : decode cX12_findsBest 104 = .ok (.getfield 298, 3) := by decide +kernel
theorem dX12_findsBest_107 : decode cX12_findsBest 107 = .ok (.iconst (-1), 1) := by decide +kernel
theorem dX12_findsBest_108 : decode cX12_findsBest 108 = .ok (.if_icmp .eq 38, 3) := by decide +kernel
theorem dX12_findsBest_111 : decode cX12_findsBest 111 = .ok (.iload 7, 2) := by decide +kernel
theorem dX12_findsBest_113 : decode cX12_findsBest 113 = .ok (.aload_n 0, 1) := by decide +kernel
theorem dX12_findsBest_114 : decode cX12_findsBest 114 = .ok (.getfield 298, 3) := by decide +kernel
theorem dX12_findsBest_117 : decode cX12_findsBest 117 = .ok (.if_icmp .gt 69, 3) := by decide +kernel
theorem dX12_findsBest_120 : decode cX12_findsBest 120 = .ok (.iload 7, 2) := by decide +kernel
theorem dX12_findsBest_122 : decode cX12_findsBest 122 = .ok (.aload_n 0, 1) := by decide +kernel
theorem dX12_findsBest_123 : decode cX12_findsBest 123 = .ok (.getfield 298, 3) := by decide +kernel
theorem dX12_findsBest_126 : decode cX12_findsBest 126 = .ok (.if_icmp .ne 20, 3) := by decide +kernel
theorem dX12_findsBest_129 : decode cX12_findsBest 129 = .ok (.aload_n 0, 1) := by decide +kernel
theorem dX12_findsBest_130 : decode cX12_findsBest 130 = .ok (.getfield 56, 3) := by decide +kernel
theorem dX12_findsBest_133 : decode cX12_findsBest 133 = .ok (.iload 5, 2) := by decide +kernel
theorem dX12_findsBest_135 : decode cX12_findsBest 135 = .ok (.iaload, 1) := by decide +kernel
theorem dX12_findsBest_136 : decode cX12_findsBest 136 = .ok (.aload_n 0, 1) := by decide +kernel
theorem dX12_findsBest_137 : decode cX12_findsBest 137 = .ok (.getfield 314, 3) := by decide +kernel
theorem dX12_findsBest_140 : decode cX12_findsBest 140 = .ok (.if_icmp .lt 6, 3) := by decide +kernel
theorem dX12_findsBest_143 : decode cX12_findsBest 143 = .ok (.goto 43, 3) := by decide +kernel
theorem dX12_findsBest_146 : decode cX12_findsBest 146 = .ok (.aload_n 0, 1) := by decide +kernel
theorem dX12_findsBest_147 : decode cX12_findsBest 147 = .ok (.iload 7, 2) := by decide +kernel
theorem dX12_findsBest_149 : decode cX12_findsBest 149 = .ok (.putfield 298, 3) := by decide +kernel
theorem dX12_findsBest_152 : decode cX12_findsBest 152 = .ok (.aload_n 0, 1) := by decide +kernel
theorem dX12_findsBest_153 : decode cX12_findsBest 153 = .ok (.aload_n 0, 1) := by decide +kernel
theorem dX12_findsBest_154 : decode cX12_findsBest 154 = .ok (.getfield 56, 3) := by decide +kernel
theorem dX12_findsBest_157 : decode cX12_findsBest 157 = .ok (.iload 5, 2) := by decide +kernel
theorem dX12_findsBest_159 : decode cX12_findsBest 159 = .ok (.iaload, 1) := by decide +kernel
theorem dX12_findsBest_160 : decode cX12_findsBest 160 = .ok (.putfield 314, 3) := by decide +kernel
theorem dX12_findsBest_163 : decode cX12_findsBest 163 = .ok (.aload_n 0, 1) := by decide +kernel
theorem dX12_findsBest_164 : decode cX12_findsBest 164 = .ok (.aload_n 0, 1) := by decide +kernel
theorem dX12_findsBest_165 : decode cX12_findsBest 165 = .ok (.getfield 56, 3) := by decide +kernel
theorem dX12_findsBest_168 : decode cX12_findsBest 168 = .ok (.iload 6, 2) := by decide +kernel
theorem dX12_findsBest_170 : decode cX12_findsBest 170 = .ok (.iaload, 1) := by decide +kernel
theorem dX12_findsBest_171 : decode cX12_findsBest 171 = .ok (.putfield 317, 3) := by decide +kernel
theorem dX12_findsBest_174 : decode cX12_findsBest 174 = .ok (.aload_n 0, 1) := by decide +kernel
theorem dX12_findsBest_175 : decode cX12_findsBest 175 = .ok (.iload 5, 2) := by decide +kernel
theorem dX12_findsBest_177 : decode cX12_findsBest 177 = .ok (.putfield 320, 3) := by decide +kernel
theorem dX12_findsBest_180 : decode cX12_findsBest 180 = .ok (.aload_n 0, 1) := by decide +kernel
theorem dX12_findsBest_181 : decode cX12_findsBest 181 = .ok (.iload 6, 2) := by decide +kernel
theorem dX12_findsBest_183 : decode cX12_findsBest 183 = .ok (.putfield 323, 3) := by decide +kernel
theorem dX12_findsBest_186 : decode cX12_findsBest 186 = .ok (.iinc 6 1, 3) := by decide +kernel
theorem dX12_findsBest_189 : decode cX12_findsBest 189 = .ok (.goto (-125), 3) := by decide +kernel
theorem dX12_findsBest_192 : decode cX12_findsBest 192 = .ok (.iinc 5 1, 3) := by decide +kernel
theorem dX12_findsBest_195 : decode cX12_findsBest 195 = .ok (.goto (-143), 3) := by decide +kernel
theorem dX12_findsBest_198 : decode cX12_findsBest 198 = .ok (.aload_n 0, 1) := by decide +kernel
theorem dX12_findsBest_199 : decode cX12_findsBest 199 = .ok (.getfield 298, 3) := by decide +kernel
theorem dX12_findsBest_202 : decode cX12_findsBest 202 = .ok (.iconst (-1), 1) := by decide +kernel
theorem dX12_findsBest_203 : decode cX12_findsBest 203 = .ok (.if_icmp .eq 7, 3) := by decide +kernel
theorem dX12_findsBest_206 : decode cX12_findsBest 206 = .ok (.iconst 1, 1) := by decide +kernel
theorem dX12_findsBest_207 : decode cX12_findsBest 207 = .ok (.goto 4, 3) := by decide +kernel
theorem dX12_findsBest_210 : decode cX12_findsBest 210 = .ok (.iconst 0, 1) := by decide +kernel
theorem dX12_findsBest_211 : decode cX12_findsBest 211 = .ok (.ireturn, 1) := by decide +kernel
theorem dX12_puts_0 : decode cX12_puts 0 = .ok (.iconst 0, 1) := by decide +kernel
theorem dX12_puts_1 : decode cX12_puts 1 = .ok (.istore_n 2, 1) := by decide +kernel
theorem dX12_puts_2 : decode cX12_puts 2 = .ok (.iload_n 2, 1) := by decide +kernel
theorem dX12_puts_3 : decode cX12_puts 3 = .ok (.aload_n 0, 1) := by decide +kernel
theorem dX12_puts_4 : decode cX12_puts 4 = .ok (.getfield 271, 3) := by decide +kernel
theorem dX12_puts_7 : decode cX12_puts 7 = .ok (.if_icmp .ge 24, 3) := by decide +kernel
theorem dX12_puts_10 : decode cX12_puts 10 = .ok (.aload_n 0, 1) := by decide +kernel
theorem dX12_puts_11 : decode cX12_puts 11 = .ok (.iload_n 1, 1) := by decide +kernel
theorem dX12_puts_12 : decode cX12_puts 12 = .ok (.bipush 12, 2) := by decide +kernel
theorem dX12_puts_14 : decode cX12_puts 14 = .ok (.iload_n 2, 1) := by decide +kernel
theorem dX12_puts_15 : decode cX12_puts 15 = .ok (.iadd, 1) := by decide +kernel
theorem dX12_puts_16 : decode cX12_puts 16 = .ok (.aload_n 0, 1) := by decide +kernel
theorem dX12_puts_17 : decode cX12_puts 17 = .ok (.getfield 50, 3) := by decide +kernel
theorem dX12_puts_20 : decode cX12_puts 20 = .ok (.iload_n 2, 1) := by decide +kernel
theorem dX12_puts_21 : decode cX12_puts 21 = .ok (.iaload, 1) := by decide +kernel
theorem dX12_puts_22 : decode cX12_puts 22 = .ok (.invokevirtual 326, 3) := by decide +kernel
theorem dX12_puts_25 : decode cX12_puts 25 = .ok (.iinc 2 1, 3) := by decide +kernel
theorem dX12_puts_28 : decode cX12_puts 28 = .ok (.goto (-26), 3) := by decide +kernel
theorem dX12_puts_31 : decode cX12_puts 31 = .ok (.aload_n 0, 1) := by decide +kernel
theorem dX12_puts_32 : decode cX12_puts 32 = .ok (.iload_n 1, 1) := by decide +kernel
theorem dX12_puts_33 : decode cX12_puts 33 = .ok (.bipush 11, 2) := by decide +kernel
theorem dX12_puts_35 : decode cX12_puts 35 = .ok (.aload_n 0, 1) := by decide +kernel
theorem dX12_puts_36 : decode cX12_puts 36 = .ok (.getfield 271, 3) := by decide +kernel
theorem dX12_puts_39 : decode cX12_puts 39 = .ok (.invokevirtual 326, 3) := by decide +kernel
theorem dX12_puts_42 : decode cX12_puts 42 = .ok (.return_, 1) := by decide +kernel
theorem dX12_drops_0 : decode cX12_drops 0 = .ok (.iconst 0, 1) := by decide +kernel
theorem dX12_drops_1 : decode cX12_drops 1 = .ok (.istore_n 3, 1) := by decide +kernel
theorem dX12_drops_2 : decode cX12_drops 2 = .ok (.iconst 0, 1) := by decide +kernel
theorem dX12_drops_3 : decode cX12_drops 3 = .ok (.istore 4, 2) := by decide +kernel
theorem dX12_drops_5 : decode cX12_drops 5 = .ok (.iload 4, 2) := by decide +kernel
theorem dX12_drops_7 : decode cX12_drops 7 = .ok (.aload_n 0, 1) := by decide +kernel
theorem dX12_drops_8 : decode cX12_drops 8 = .ok (.iload_n 1, 1) := by decide +kernel
theorem dX12_drops_9 : decode cX12_drops 9 = .ok (.bipush 11, 2) := by decide +kernel
theorem dX12_drops_11 : decode cX12_drops 11 = .ok (.invokevirtual 268, 3) := by decide +kernel
theorem dX12_drops_14 : decode cX12_drops 14 = .ok (.if_icmp .ge 44, 3) := by decide +kernel
theorem dX12_drops_17 : decode cX12_drops 17 = .ok (.aload_n 0, 1) := by decide +kernel
theorem dX12_drops_18 : decode cX12_drops 18 = .ok (.iload_n 1, 1) := by decide +kernel
theorem dX12_drops_19 : decode cX12_drops 19 = .ok (.bipush 12, 2) := by decide +kernel
theorem dX12_drops_21 : decode cX12_drops 21 = .ok (.iload 4, 2) := by decide +kernel
theorem dX12_drops_23 : decode cX12_drops 23 = .ok (.iadd, 1) := by decide +kernel
theorem dX12_drops_24 : decode cX12_drops 24 = .ok (.invokevirtual 268, 3) := by decide +kernel
theorem dX12_drops_27 : decode cX12_drops 27 = .ok (.istore 5, 2) := by decide +kernel
theorem dX12_drops_29 : decode cX12_drops 29 = .ok (.iload 5, 2) := by decide +kernel
theorem dX12_drops_31 : decode cX12_drops 31 = .ok (.iload_n 2, 1) := by decide +kernel
theorem dX12_drops_32 : decode cX12_drops 32 = .ok (.if_icmp .ne 6, 3) := by decide +kernel
theorem dX12_drops_35 : decode cX12_drops 35 = .ok (.goto 17, 3) := by decide +kernel
theorem dX12_drops_38 : decode cX12_drops 38 = .ok (.aload_n 0, 1) := by decide +kernel
theorem dX12_drops_39 : decode cX12_drops 39 = .ok (.iload_n 1, 1) := by decide +kernel
theorem dX12_drops_40 : decode cX12_drops 40 = .ok (.bipush 12, 2) := by decide +kernel
theorem dX12_drops_42 : decode cX12_drops 42 = .ok (.iload_n 3, 1) := by decide +kernel
theorem dX12_drops_43 : decode cX12_drops 43 = .ok (.iadd, 1) := by decide +kernel
theorem dX12_drops_44 : decode cX12_drops 44 = .ok (.iload 5, 2) := by decide +kernel
theorem dX12_drops_46 : decode cX12_drops 46 = .ok (.invokevirtual 326, 3) := by decide +kernel
theorem dX12_drops_49 : decode cX12_drops 49 = .ok (.iinc 3 1, 3) := by decide +kernel
theorem dX12_drops_52 : decode cX12_drops 52 = .ok (.iinc 4 1, 3) := by decide +kernel
theorem dX12_drops_55 : decode cX12_drops 55 = .ok (.goto (-50), 3) := by decide +kernel
theorem dX12_drops_58 : decode cX12_drops 58 = .ok (.aload_n 0, 1) := by decide +kernel
theorem dX12_drops_59 : decode cX12_drops 59 = .ok (.iload_n 1, 1) := by decide +kernel
theorem dX12_drops_60 : decode cX12_drops 60 = .ok (.bipush 11, 2) := by decide +kernel
theorem dX12_drops_62 : decode cX12_drops 62 = .ok (.iload_n 3, 1) := by decide +kernel
theorem dX12_drops_63 : decode cX12_drops 63 = .ok (.invokevirtual 326, 3) := by decide +kernel
theorem dX12_drops_66 : decode cX12_drops 66 = .ok (.return_, 1) := by decide +kernel
theorem dX12_discountFor_0 : decode cX12_discountFor 0 = .ok (.iload_n 1, 1) := by decide +kernel
theorem dX12_discountFor_1 : decode cX12_discountFor 1 = .ok (.iconst 2, 1) := by decide +kernel
theorem dX12_discountFor_2 : decode cX12_discountFor 2 = .ok (.if_icmp .ge 7, 3) := by decide +kernel
theorem dX12_discountFor_5 : decode cX12_discountFor 5 = .ok (.iconst 0, 1) := by decide +kernel
theorem dX12_discountFor_6 : decode cX12_discountFor 6 = .ok (.goto 17, 3) := by decide +kernel
theorem dX12_discountFor_9 : decode cX12_discountFor 9 = .ok (.aload_n 0, 1) := by decide +kernel
theorem dX12_discountFor_10 : decode cX12_discountFor 10 = .ok (.bipush 7, 2) := by decide +kernel
theorem dX12_discountFor_12 : decode cX12_discountFor 12 = .ok (.iload_n 1, 1) := by decide +kernel
theorem dX12_discountFor_13 : decode cX12_discountFor 13 = .ok (.iconst 4, 1) := by decide +kernel
theorem dX12_discountFor_14 : decode cX12_discountFor 14 = .ok (.invokestatic 330, 3) := by decide +kernel
theorem dX12_discountFor_17 : decode cX12_discountFor 17 = .ok (.iadd, 1) := by decide +kernel
theorem dX12_discountFor_18 : decode cX12_discountFor 18 = .ok (.iconst 2, 1) := by decide +kernel
theorem dX12_discountFor_19 : decode cX12_discountFor 19 = .ok (.isub, 1) := by decide +kernel
theorem dX12_discountFor_20 : decode cX12_discountFor 20 = .ok (.invokevirtual 292, 3) := by decide +kernel
theorem dX12_discountFor_23 : decode cX12_discountFor 23 = .ok (.ireturn, 1) := by decide +kernel
theorem dX12_amountFor_0 : decode cX12_amountFor 0 = .ok (.iload_n 1, 1) := by decide +kernel
theorem dX12_amountFor_1 : decode cX12_amountFor 1 = .ok (.aload_n 0, 1) := by decide +kernel
theorem dX12_amountFor_2 : decode cX12_amountFor 2 = .ok (.getfield 7, 3) := by decide +kernel
theorem dX12_amountFor_5 : decode cX12_amountFor 5 = .ok (.iconst 2, 1) := by decide +kernel
theorem dX12_amountFor_6 : decode cX12_amountFor 6 = .ok (.iaload, 1) := by decide +kernel
theorem dX12_amountFor_7 : decode cX12_amountFor 7 = .ok (.imul, 1) := by decide +kernel
theorem dX12_amountFor_8 : decode cX12_amountFor 8 = .ok (.istore_n 3, 1) := by decide +kernel
theorem dX12_amountFor_9 : decode cX12_amountFor 9 = .ok (.iload_n 3, 1) := by decide +kernel
theorem dX12_amountFor_10 : decode cX12_amountFor 10 = .ok (.iload_n 3, 1) := by decide +kernel
theorem dX12_amountFor_11 : decode cX12_amountFor 11 = .ok (.aload_n 0, 1) := by decide +kernel
theorem dX12_amountFor_12 : decode cX12_amountFor 12 = .ok (.iload_n 2, 1) := by decide +kernel
theorem dX12_amountFor_13 : decode cX12_amountFor 13 = .ok (.invokevirtual 333, 3) := by decide +kernel
theorem dX12_amountFor_16 : decode cX12_amountFor 16 = .ok (.imul, 1) := by decide +kernel
theorem dX12_amountFor_17 : decode cX12_amountFor 17 = .ok (.bipush 100, 2) := by decide +kernel
theorem dX12_amountFor_19 : decode cX12_amountFor 19 = .ok (.idiv, 1) := by decide +kernel
theorem dX12_amountFor_20 : decode cX12_amountFor 20 = .ok (.isub, 1) := by decide +kernel
theorem dX12_amountFor_21 : decode cX12_amountFor 21 = .ok (.ireturn, 1) := by decide +kernel
theorem dX12_partOf_0 : decode cX12_partOf 0 = .ok (.iload_n 0, 1) := by decide +kernel
theorem dX12_partOf_1 : decode cX12_partOf 1 = .ok (.iload_n 1, 1) := by decide +kernel
theorem dX12_partOf_2 : decode cX12_partOf 2 = .ok (.idiv, 1) := by decide +kernel
theorem dX12_partOf_3 : decode cX12_partOf 3 = .ok (.iload_n 2, 1) := by decide +kernel
theorem dX12_partOf_4 : decode cX12_partOf 4 = .ok (.iload_n 0, 1) := by decide +kernel
theorem dX12_partOf_5 : decode cX12_partOf 5 = .ok (.iload_n 1, 1) := by decide +kernel
theorem dX12_partOf_6 : decode cX12_partOf 6 = .ok (.irem, 1) := by decide +kernel
theorem dX12_partOf_7 : decode cX12_partOf 7 = .ok (.if_icmp .ge 7, 3) := by decide +kernel
theorem dX12_partOf_10 : decode cX12_partOf 10 = .ok (.iconst 1, 1) := by decide +kernel
theorem dX12_partOf_11 : decode cX12_partOf 11 = .ok (.goto 4, 3) := by decide +kernel
theorem dX12_partOf_14 : decode cX12_partOf 14 = .ok (.iconst 0, 1) := by decide +kernel
theorem dX12_partOf_15 : decode cX12_partOf 15 = .ok (.iadd, 1) := by decide +kernel
theorem dX12_partOf_16 : decode cX12_partOf 16 = .ok (.ireturn, 1) := by decide +kernel
theorem dX12_pays_0 : decode cX12_pays 0 = .ok (.aload_n 0, 1) := by decide +kernel
theorem dX12_pays_1 : decode cX12_pays 1 = .ok (.iload_n 1, 1) := by decide +kernel
theorem dX12_pays_2 : decode cX12_pays 2 = .ok (.bipush 24, 2) := by decide +kernel
theorem dX12_pays_4 : decode cX12_pays 4 = .ok (.invokevirtual 268, 3) := by decide +kernel
theorem dX12_pays_7 : decode cX12_pays 7 = .ok (.istore_n 3, 1) := by decide +kernel
theorem dX12_pays_8 : decode cX12_pays 8 = .ok (.aload_n 0, 1) := by decide +kernel
theorem dX12_pays_9 : decode cX12_pays 9 = .ok (.iload_n 1, 1) := by decide +kernel
theorem dX12_pays_10 : decode cX12_pays 10 = .ok (.bipush 7, 2) := by decide +kernel
theorem dX12_pays_12 : decode cX12_pays 12 = .ok (.iload_n 2, 1) := by decide +kernel
theorem dX12_pays_13 : decode cX12_pays 13 = .ok (.invokevirtual 336, 3) := by decide +kernel
theorem dX12_pays_16 : decode cX12_pays 16 = .ok (.iload_n 3, 1) := by decide +kernel
theorem dX12_pays_17 : decode cX12_pays 17 = .ok (.ifCond .ne 4, 3) := by decide +kernel
theorem dX12_pays_20 : decode cX12_pays 20 = .ok (.return_, 1) := by decide +kernel
theorem dX12_pays_21 : decode cX12_pays 21 = .ok (.aload_n 0, 1) := by decide +kernel
theorem dX12_pays_22 : decode cX12_pays 22 = .ok (.iload_n 1, 1) := by decide +kernel
theorem dX12_pays_23 : decode cX12_pays 23 = .ok (.bipush 8, 2) := by decide +kernel
theorem dX12_pays_25 : decode cX12_pays 25 = .ok (.iload_n 2, 1) := by decide +kernel
theorem dX12_pays_26 : decode cX12_pays 26 = .ok (.invokevirtual 336, 3) := by decide +kernel
theorem dX12_pays_29 : decode cX12_pays 29 = .ok (.iload_n 3, 1) := by decide +kernel
theorem dX12_pays_30 : decode cX12_pays 30 = .ok (.iconst 1, 1) := by decide +kernel
theorem dX12_pays_31 : decode cX12_pays 31 = .ok (.if_icmp .le 11, 3) := by decide +kernel
theorem dX12_pays_34 : decode cX12_pays 34 = .ok (.aload_n 0, 1) := by decide +kernel
theorem dX12_pays_35 : decode cX12_pays 35 = .ok (.iload_n 1, 1) := by decide +kernel
theorem dX12_pays_36 : decode cX12_pays 36 = .ok (.bipush 9, 2) := by decide +kernel
theorem dX12_pays_38 : decode cX12_pays 38 = .ok (.iload_n 2, 1) := by decide +kernel
theorem dX12_pays_39 : decode cX12_pays 39 = .ok (.invokevirtual 336, 3) := by decide +kernel
theorem dX12_pays_42 : decode cX12_pays 42 = .ok (.aload_n 0, 1) := by decide +kernel
theorem dX12_pays_43 : decode cX12_pays 43 = .ok (.iload_n 2, 1) := by decide +kernel
theorem dX12_pays_44 : decode cX12_pays 44 = .ok (.iload_n 3, 1) := by decide +kernel
theorem dX12_pays_45 : decode cX12_pays 45 = .ok (.invokevirtual 339, 3) := by decide +kernel
theorem dX12_pays_48 : decode cX12_pays 48 = .ok (.istore 4, 2) := by decide +kernel
theorem dX12_pays_50 : decode cX12_pays 50 = .ok (.aload_n 0, 1) := by decide +kernel
theorem dX12_pays_51 : decode cX12_pays 51 = .ok (.iload_n 1, 1) := by decide +kernel
theorem dX12_pays_52 : decode cX12_pays 52 = .ok (.bipush 10, 2) := by decide +kernel
theorem dX12_pays_54 : decode cX12_pays 54 = .ok (.iload 4, 2) := by decide +kernel
theorem dX12_pays_56 : decode cX12_pays 56 = .ok (.invokevirtual 336, 3) := by decide +kernel
theorem dX12_pays_59 : decode cX12_pays 59 = .ok (.aload_n 0, 1) := by decide +kernel
theorem dX12_pays_60 : decode cX12_pays 60 = .ok (.iload_n 1, 1) := by decide +kernel
theorem dX12_pays_61 : decode cX12_pays 61 = .ok (.iconst 5, 1) := by decide +kernel
theorem dX12_pays_62 : decode cX12_pays 62 = .ok (.iload 4, 2) := by decide +kernel
theorem dX12_pays_64 : decode cX12_pays 64 = .ok (.invokevirtual 336, 3) := by decide +kernel
theorem dX12_pays_67 : decode cX12_pays 67 = .ok (.iconst 0, 1) := by decide +kernel
theorem dX12_pays_68 : decode cX12_pays 68 = .ok (.istore 5, 2) := by decide +kernel
theorem dX12_pays_70 : decode cX12_pays 70 = .ok (.iload 5, 2) := by decide +kernel
theorem dX12_pays_72 : decode cX12_pays 72 = .ok (.iload_n 3, 1) := by decide +kernel
theorem dX12_pays_73 : decode cX12_pays 73 = .ok (.if_icmp .ge 46, 3) := by decide +kernel
theorem dX12_pays_76 : decode cX12_pays 76 = .ok (.aload_n 0, 1) := by decide +kernel
theorem dX12_pays_77 : decode cX12_pays 77 = .ok (.iload_n 1, 1) := by decide +kernel
theorem dX12_pays_78 : decode cX12_pays 78 = .ok (.bipush 25, 2) := by decide +kernel
theorem dX12_pays_80 : decode cX12_pays 80 = .ok (.iload 5, 2) := by decide +kernel
theorem dX12_pays_82 : decode cX12_pays 82 = .ok (.iadd, 1) := by decide +kernel
theorem dX12_pays_83 : decode cX12_pays 83 = .ok (.invokevirtual 268, 3) := by decide +kernel
theorem dX12_pays_86 : decode cX12_pays 86 = .ok (.istore 6, 2) := by decide +kernel
theorem dX12_pays_88 : decode cX12_pays 88 = .ok (.aload_n 0, 1) := by decide +kernel
theorem dX12_pays_89 : decode cX12_pays 89 = .ok (.iload 6, 2) := by decide +kernel
theorem dX12_pays_91 : decode cX12_pays 91 = .ok (.bipush 10, 2) := by decide +kernel
theorem dX12_pays_93 : decode cX12_pays 93 = .ok (.aload_n 0, 1) := by decide +kernel
theorem dX12_pays_94 : decode cX12_pays 94 = .ok (.iload 6, 2) := by decide +kernel
theorem dX12_pays_96 : decode cX12_pays 96 = .ok (.bipush 10, 2) := by decide +kernel
theorem dX12_pays_98 : decode cX12_pays 98 = .ok (.invokevirtual 274, 3) := by decide +kernel
theorem dX12_pays_101 : decode cX12_pays 101 = .ok (.iload 4, 2) := by decide +kernel
theorem dX12_pays_103 : decode cX12_pays 103 = .ok (.iload_n 3, 1) := by decide +kernel
theorem dX12_pays_104 : decode cX12_pays 104 = .ok (.iload 5, 2) := by decide +kernel
theorem dX12_pays_106 : decode cX12_pays 106 = .ok (.invokestatic 342, 3) := by decide +kernel
theorem dX12_pays_109 : decode cX12_pays 109 = .ok (.iadd, 1) := by decide +kernel
theorem dX12_pays_110 : decode cX12_pays 110 = .ok (.invokevirtual 346, 3) := by decide +kernel
theorem dX12_pays_113 : decode cX12_pays 113 = .ok (.iinc 5 1, 3) := by decide +kernel
theorem dX12_pays_116 : decode cX12_pays 116 = .ok (.goto (-46), 3) := by decide +kernel
theorem dX12_pays_119 : decode cX12_pays 119 = .ok (.return_, 1) := by decide +kernel
theorem dX12_charges_0 : decode cX12_charges 0 = .ok (.aload_n 0, 1) := by decide +kernel
theorem dX12_charges_1 : decode cX12_charges 1 = .ok (.iload_n 2, 1) := by decide +kernel
theorem dX12_charges_2 : decode cX12_charges 2 = .ok (.bipush 10, 2) := by decide +kernel
theorem dX12_charges_4 : decode cX12_charges 4 = .ok (.aload_n 0, 1) := by decide +kernel
theorem dX12_charges_5 : decode cX12_charges 5 = .ok (.iload_n 2, 1) := by decide +kernel
theorem dX12_charges_6 : decode cX12_charges 6 = .ok (.bipush 10, 2) := by decide +kernel
theorem dX12_charges_8 : decode cX12_charges 8 = .ok (.invokevirtual 274, 3) := by decide +kernel
theorem dX12_charges_11 : decode cX12_charges 11 = .ok (.iload_n 3, 1) := by decide +kernel
theorem dX12_charges_12 : decode cX12_charges 12 = .ok (.iadd, 1) := by decide +kernel
theorem dX12_charges_13 : decode cX12_charges 13 = .ok (.invokevirtual 346, 3) := by decide +kernel
theorem dX12_charges_16 : decode cX12_charges 16 = .ok (.aload_n 0, 1) := by decide +kernel
theorem dX12_charges_17 : decode cX12_charges 17 = .ok (.iload_n 1, 1) := by decide +kernel
theorem dX12_charges_18 : decode cX12_charges 18 = .ok (.iconst 5, 1) := by decide +kernel
theorem dX12_charges_19 : decode cX12_charges 19 = .ok (.iload_n 3, 1) := by decide +kernel
theorem dX12_charges_20 : decode cX12_charges 20 = .ok (.invokevirtual 336, 3) := by decide +kernel
theorem dX12_charges_23 : decode cX12_charges 23 = .ok (.return_, 1) := by decide +kernel
theorem dX12_getsOff_0 : decode cX12_getsOff 0 = .ok (.iconst 0, 1) := by decide +kernel
theorem dX12_getsOff_1 : decode cX12_getsOff 1 = .ok (.istore_n 3, 1) := by decide +kernel
theorem dX12_getsOff_2 : decode cX12_getsOff 2 = .ok (.iconst 0, 1) := by decide +kernel
theorem dX12_getsOff_3 : decode cX12_getsOff 3 = .ok (.istore 4, 2) := by decide +kernel
theorem dX12_getsOff_5 : decode cX12_getsOff 5 = .ok (.iload 4, 2) := by decide +kernel
theorem dX12_getsOff_7 : decode cX12_getsOff 7 = .ok (.aload_n 0, 1) := by decide +kernel
theorem dX12_getsOff_8 : decode cX12_getsOff 8 = .ok (.iload_n 1, 1) := by decide +kernel
theorem dX12_getsOff_9 : decode cX12_getsOff 9 = .ok (.bipush 24, 2) := by decide +kernel
theorem dX12_getsOff_11 : decode cX12_getsOff 11 = .ok (.invokevirtual 268, 3) := by decide +kernel
theorem dX12_getsOff_14 : decode cX12_getsOff 14 = .ok (.if_icmp .ge 44, 3) := by decide +kernel
theorem dX12_getsOff_17 : decode cX12_getsOff 17 = .ok (.aload_n 0, 1) := by decide +kernel
theorem dX12_getsOff_18 : decode cX12_getsOff 18 = .ok (.iload_n 1, 1) := by decide +kernel
theorem dX12_getsOff_19 : decode cX12_getsOff 19 = .ok (.bipush 25, 2) := by decide +kernel
theorem dX12_getsOff_21 : decode cX12_getsOff 21 = .ok (.iload 4, 2) := by decide +kernel
theorem dX12_getsOff_23 : decode cX12_getsOff 23 = .ok (.iadd, 1) := by decide +kernel
theorem dX12_getsOff_24 : decode cX12_getsOff 24 = .ok (.invokevirtual 268, 3) := by decide +kernel
theorem dX12_getsOff_27 : decode cX12_getsOff 27 = .ok (.istore 5, 2) := by decide +kernel
theorem dX12_getsOff_29 : decode cX12_getsOff 29 = .ok (.iload 5, 2) := by decide +kernel
theorem dX12_getsOff_31 : decode cX12_getsOff 31 = .ok (.iload_n 2, 1) := by decide +kernel
theorem dX12_getsOff_32 : decode cX12_getsOff 32 = .ok (.if_icmp .ne 6, 3) := by decide +kernel
theorem dX12_getsOff_35 : decode cX12_getsOff 35 = .ok (.goto 17, 3) := by decide +kernel
theorem dX12_getsOff_38 : decode cX12_getsOff 38 = .ok (.aload_n 0, 1) := by decide +kernel
theorem dX12_getsOff_39 : decode cX12_getsOff 39 = .ok (.iload_n 1, 1) := by decide +kernel
theorem dX12_getsOff_40 : decode cX12_getsOff 40 = .ok (.bipush 25, 2) := by decide +kernel
theorem dX12_getsOff_42 : decode cX12_getsOff 42 = .ok (.iload_n 3, 1) := by decide +kernel
theorem dX12_getsOff_43 : decode cX12_getsOff 43 = .ok (.iadd, 1) := by decide +kernel
theorem dX12_getsOff_44 : decode cX12_getsOff 44 = .ok (.iload 5, 2) := by decide +kernel
theorem dX12_getsOff_46 : decode cX12_getsOff 46 = .ok (.invokevirtual 326, 3) := by decide +kernel
theorem dX12_getsOff_49 : decode cX12_getsOff 49 = .ok (.iinc 3 1, 3) := by decide +kernel
theorem dX12_getsOff_52 : decode cX12_getsOff 52 = .ok (.iinc 4 1, 3) := by decide +kernel
theorem dX12_getsOff_55 : decode cX12_getsOff 55 = .ok (.goto (-50), 3) := by decide +kernel
theorem dX12_getsOff_58 : decode cX12_getsOff 58 = .ok (.aload_n 0, 1) := by decide +kernel
theorem dX12_getsOff_59 : decode cX12_getsOff 59 = .ok (.iload_n 1, 1) := by decide +kernel
theorem dX12_getsOff_60 : decode cX12_getsOff 60 = .ok (.bipush 24, 2) := by decide +kernel
theorem dX12_getsOff_62 : decode cX12_getsOff 62 = .ok (.iload_n 3, 1) := by decide +kernel
theorem dX12_getsOff_63 : decode cX12_getsOff 63 = .ok (.invokevirtual 326, 3) := by decide +kernel
theorem dX12_getsOff_66 : decode cX12_getsOff 66 = .ok (.return_, 1) := by decide +kernel
theorem dX12_happens_0 : decode cX12_happens 0 = .ok (.aload_n 0, 1) := by decide +kernel
theorem dX12_happens_1 : decode cX12_happens 1 = .ok (.getfield 50, 3) := by decide +kernel
theorem dX12_happens_4 : decode cX12_happens 4 = .ok (.iload_n 2, 1) := by decide +kernel
theorem dX12_happens_5 : decode cX12_happens 5 = .ok (.iaload, 1) := by decide +kernel
theorem dX12_happens_6 : decode cX12_happens 6 = .ok (.iconst 2, 1) := by decide +kernel
theorem dX12_happens_7 : decode cX12_happens 7 = .ok (.idiv, 1) := by decide +kernel
theorem dX12_happens_8 : decode cX12_happens 8 = .ok (.istore_n 3, 1) := by decide +kernel
theorem dX12_happens_9 : decode cX12_happens 9 = .ok (.aload_n 0, 1) := by decide +kernel
theorem dX12_happens_10 : decode cX12_happens 10 = .ok (.iload_n 1, 1) := by decide +kernel
theorem dX12_happens_11 : decode cX12_happens 11 = .ok (.aload_n 0, 1) := by decide +kernel
theorem dX12_happens_12 : decode cX12_happens 12 = .ok (.getfield 65, 3) := by decide +kernel
theorem dX12_happens_15 : decode cX12_happens 15 = .ok (.iload_n 2, 1) := by decide +kernel
theorem dX12_happens_16 : decode cX12_happens 16 = .ok (.iaload, 1) := by decide +kernel
theorem dX12_happens_17 : decode cX12_happens 17 = .ok (.invokevirtual 349, 3) := by decide +kernel
theorem dX12_happens_20 : decode cX12_happens 20 = .ok (.aload_n 0, 1) := by decide +kernel
theorem dX12_happens_21 : decode cX12_happens 21 = .ok (.getfield 50, 3) := by decide +kernel
theorem dX12_happens_24 : decode cX12_happens 24 = .ok (.iload_n 2, 1) := by decide +kernel
theorem dX12_happens_25 : decode cX12_happens 25 = .ok (.iaload, 1) := by decide +kernel
theorem dX12_happens_26 : decode cX12_happens 26 = .ok (.iconst 1, 1) := by decide +kernel
theorem dX12_happens_27 : decode cX12_happens 27 = .ok (.iand, 1) := by decide +kernel
theorem dX12_happens_28 : decode cX12_happens 28 = .ok (.ifCond .ne 32, 3) := by decide +kernel
theorem dX12_happens_31 : decode cX12_happens 31 = .ok (.aload_n 0, 1) := by decide +kernel
theorem dX12_happens_32 : decode cX12_happens 32 = .ok (.iload_n 1, 1) := by decide +kernel
theorem dX12_happens_33 : decode cX12_happens 33 = .ok (.iload_n 3, 1) := by decide +kernel
theorem dX12_happens_34 : decode cX12_happens 34 = .ok (.invokevirtual 353, 3) := by decide +kernel
theorem dX12_happens_37 : decode cX12_happens 37 = .ok (.aload_n 0, 1) := by decide +kernel
theorem dX12_happens_38 : decode cX12_happens 38 = .ok (.iload_n 3, 1) := by decide +kernel
theorem dX12_happens_39 : decode cX12_happens 39 = .ok (.iconst 0, 1) := by decide +kernel
theorem dX12_happens_40 : decode cX12_happens 40 = .ok (.iconst 3, 1) := by decide +kernel
theorem dX12_happens_41 : decode cX12_happens 41 = .ok (.invokevirtual 346, 3) := by decide +kernel
theorem dX12_happens_44 : decode cX12_happens 44 = .ok (.aload_n 0, 1) := by decide +kernel
theorem dX12_happens_45 : decode cX12_happens 45 = .ok (.iload_n 3, 1) := by decide +kernel
theorem dX12_happens_46 : decode cX12_happens 46 = .ok (.bipush 9, 2) := by decide +kernel
theorem dX12_happens_48 : decode cX12_happens 48 = .ok (.aload_n 0, 1) := by decide +kernel
theorem dX12_happens_49 : decode cX12_happens 49 = .ok (.getfield 56, 3) := by decide +kernel
theorem dX12_happens_52 : decode cX12_happens 52 = .ok (.iload_n 2, 1) := by decide +kernel
theorem dX12_happens_53 : decode cX12_happens 53 = .ok (.iaload, 1) := by decide +kernel
theorem dX12_happens_54 : decode cX12_happens 54 = .ok (.invokevirtual 346, 3) := by decide +kernel
theorem dX12_happens_57 : decode cX12_happens 57 = .ok (.goto 102, 3) := by decide +kernel
theorem dX12_happens_60 : decode cX12_happens 60 = .ok (.aload_n 0, 1) := by decide +kernel
theorem dX12_happens_61 : decode cX12_happens 61 = .ok (.iload_n 3, 1) := by decide +kernel
theorem dX12_happens_62 : decode cX12_happens 62 = .ok (.bipush 11, 2) := by decide +kernel
theorem dX12_happens_64 : decode cX12_happens 64 = .ok (.invokevirtual 274, 3) := by decide +kernel
theorem dX12_happens_67 : decode cX12_happens 67 = .ok (.iconst 1, 1) := by decide +kernel
theorem dX12_happens_68 : decode cX12_happens 68 = .ok (.if_icmp .ne 37, 3) := by decide +kernel
theorem dX12_happens_71 : decode cX12_happens 71 = .ok (.aload_n 0, 1) := by decide +kernel
theorem dX12_happens_72 : decode cX12_happens 72 = .ok (.iload_n 1, 1) := by decide +kernel
theorem dX12_happens_73 : decode cX12_happens 73 = .ok (.iload_n 3, 1) := by decide +kernel
theorem dX12_happens_74 : decode cX12_happens 74 = .ok (.aload_n 0, 1) := by decide +kernel
theorem dX12_happens_75 : decode cX12_happens 75 = .ok (.iconst 4, 1) := by decide +kernel
theorem dX12_happens_76 : decode cX12_happens 76 = .ok (.invokevirtual 292, 3) := by decide +kernel
theorem dX12_happens_79 : decode cX12_happens 79 = .ok (.invokevirtual 356, 3) := by decide +kernel
theorem dX12_happens_82 : decode cX12_happens 82 = .ok (.aload_n 0, 1) := by decide +kernel
theorem dX12_happens_83 : decode cX12_happens 83 = .ok (.iload_n 3, 1) := by decide +kernel
theorem dX12_happens_84 : decode cX12_happens 84 = .ok (.iconst 0, 1) := by decide +kernel
theorem dX12_happens_85 : decode cX12_happens 85 = .ok (.iconst 5, 1) := by decide +kernel
theorem dX12_happens_86 : decode cX12_happens 86 = .ok (.invokevirtual 346, 3) := by decide +kernel
theorem dX12_happens_89 : decode cX12_happens 89 = .ok (.aload_n 0, 1) := by decide +kernel
theorem dX12_happens_90 : decode cX12_happens 90 = .ok (.iload_n 3, 1) := by decide +kernel
theorem dX12_happens_91 : decode cX12_happens 91 = .ok (.bipush 8, 2) := by decide +kernel
theorem dX12_happens_93 : decode cX12_happens 93 = .ok (.aload_n 0, 1) := by decide +kernel
theorem dX12_happens_94 : decode cX12_happens 94 = .ok (.getfield 59, 3) := by decide +kernel
theorem dX12_happens_97 : decode cX12_happens 97 = .ok (.iload_n 2, 1) := by decide +kernel
theorem dX12_happens_98 : decode cX12_happens 98 = .ok (.iaload, 1) := by decide +kernel
theorem dX12_happens_99 : decode cX12_happens 99 = .ok (.invokevirtual 346, 3) := by decide +kernel
theorem dX12_happens_102 : decode cX12_happens 102 = .ok (.goto 57, 3) := by decide +kernel
theorem dX12_happens_105 : decode cX12_happens 105 = .ok (.aload_n 0, 1) := by decide +kernel
theorem dX12_happens_106 : decode cX12_happens 106 = .ok (.iload_n 1, 1) := by decide +kernel
theorem dX12_happens_107 : decode cX12_happens 107 = .ok (.iload_n 3, 1) := by decide +kernel
theorem dX12_happens_108 : decode cX12_happens 108 = .ok (.aload_n 0, 1) := by decide +kernel
theorem dX12_happens_109 : decode cX12_happens 109 = .ok (.getfield 117, 3) := by decide +kernel
theorem dX12_happens_112 : decode cX12_happens 112 = .ok (.invokevirtual 356, 3) := by decide +kernel
theorem dX12_happens_115 : decode cX12_happens 115 = .ok (.aload_n 0, 1) := by decide +kernel
theorem dX12_happens_116 : decode cX12_happens 116 = .ok (.iload_n 3, 1) := by decide +kernel
theorem dX12_happens_117 : decode cX12_happens 117 = .ok (.iconst 0, 1) := by decide +kernel
theorem dX12_happens_118 : decode cX12_happens 118 = .ok (.iconst 2, 1) := by decide +kernel
theorem dX12_happens_119 : decode cX12_happens 119 = .ok (.invokevirtual 346, 3) := by decide +kernel
theorem dX12_happens_122 : decode cX12_happens 122 = .ok (.aload_n 0, 1) := by decide +kernel
theorem dX12_happens_123 : decode cX12_happens 123 = .ok (.iload_n 3, 1) := by decide +kernel
theorem dX12_happens_124 : decode cX12_happens 124 = .ok (.bipush 8, 2) := by decide +kernel
theorem dX12_happens_126 : decode cX12_happens 126 = .ok (.aload_n 0, 1) := by decide +kernel
theorem dX12_happens_127 : decode cX12_happens 127 = .ok (.getfield 59, 3) := by decide +kernel
theorem dX12_happens_130 : decode cX12_happens 130 = .ok (.iload_n 2, 1) := by decide +kernel
theorem dX12_happens_131 : decode cX12_happens 131 = .ok (.iaload, 1) := by decide +kernel
theorem dX12_happens_132 : decode cX12_happens 132 = .ok (.invokevirtual 346, 3) := by decide +kernel
theorem dX12_happens_135 : decode cX12_happens 135 = .ok (.aload_n 0, 1) := by decide +kernel
theorem dX12_happens_136 : decode cX12_happens 136 = .ok (.iload_n 1, 1) := by decide +kernel
theorem dX12_happens_137 : decode cX12_happens 137 = .ok (.bipush 25, 2) := by decide +kernel
theorem dX12_happens_139 : decode cX12_happens 139 = .ok (.aload_n 0, 1) := by decide +kernel
theorem dX12_happens_140 : decode cX12_happens 140 = .ok (.iload_n 1, 1) := by decide +kernel
theorem dX12_happens_141 : decode cX12_happens 141 = .ok (.bipush 24, 2) := by decide +kernel
theorem dX12_happens_143 : decode cX12_happens 143 = .ok (.invokevirtual 268, 3) := by decide +kernel
theorem dX12_happens_146 : decode cX12_happens 146 = .ok (.iadd, 1) := by decide +kernel
theorem dX12_happens_147 : decode cX12_happens 147 = .ok (.iload_n 3, 1) := by decide +kernel
theorem dX12_happens_148 : decode cX12_happens 148 = .ok (.invokevirtual 326, 3) := by decide +kernel
theorem dX12_happens_151 : decode cX12_happens 151 = .ok (.aload_n 0, 1) := by decide +kernel
theorem dX12_happens_152 : decode cX12_happens 152 = .ok (.iload_n 1, 1) := by decide +kernel
theorem dX12_happens_153 : decode cX12_happens 153 = .ok (.bipush 24, 2) := by decide +kernel
theorem dX12_happens_155 : decode cX12_happens 155 = .ok (.iconst 1, 1) := by decide +kernel
theorem dX12_happens_156 : decode cX12_happens 156 = .ok (.invokevirtual 336, 3) := by decide +kernel
theorem dX12_happens_159 : decode cX12_happens 159 = .ok (.aload_n 0, 1) := by decide +kernel
theorem dX12_happens_160 : decode cX12_happens 160 = .ok (.iload_n 1, 1) := by decide +kernel
theorem dX12_happens_161 : decode cX12_happens 161 = .ok (.iconst 0, 1) := by decide +kernel
theorem dX12_happens_162 : decode cX12_happens 162 = .ok (.aload_n 0, 1) := by decide +kernel
theorem dX12_happens_163 : decode cX12_happens 163 = .ok (.aload_n 0, 1) := by decide +kernel
theorem dX12_happens_164 : decode cX12_happens 164 = .ok (.getfield 50, 3) := by decide +kernel
theorem dX12_happens_167 : decode cX12_happens 167 = .ok (.iload_n 2, 1) := by decide +kernel
theorem dX12_happens_168 : decode cX12_happens 168 = .ok (.iaload, 1) := by decide +kernel
theorem dX12_happens_169 : decode cX12_happens 169 = .ok (.invokevirtual 283, 3) := by decide +kernel
theorem dX12_happens_172 : decode cX12_happens 172 = .ok (.invokevirtual 326, 3) := by decide +kernel
theorem dX12_happens_175 : decode cX12_happens 175 = .ok (.aload_n 0, 1) := by decide +kernel
theorem dX12_happens_176 : decode cX12_happens 176 = .ok (.iload_n 1, 1) := by decide +kernel
theorem dX12_happens_177 : decode cX12_happens 177 = .ok (.iconst 1, 1) := by decide +kernel
theorem dX12_happens_178 : decode cX12_happens 178 = .ok (.aload_n 0, 1) := by decide +kernel
theorem dX12_happens_179 : decode cX12_happens 179 = .ok (.getfield 59, 3) := by decide +kernel
theorem dX12_happens_182 : decode cX12_happens 182 = .ok (.iload_n 2, 1) := by decide +kernel
theorem dX12_happens_183 : decode cX12_happens 183 = .ok (.iaload, 1) := by decide +kernel
theorem dX12_happens_184 : decode cX12_happens 184 = .ok (.invokevirtual 326, 3) := by decide +kernel
theorem dX12_happens_187 : decode cX12_happens 187 = .ok (.aload_n 0, 1) := by decide +kernel
theorem dX12_happens_188 : decode cX12_happens 188 = .ok (.iload_n 1, 1) := by decide +kernel
theorem dX12_happens_189 : decode cX12_happens 189 = .ok (.iconst 2, 1) := by decide +kernel
theorem dX12_happens_190 : decode cX12_happens 190 = .ok (.aload_n 0, 1) := by decide +kernel
theorem dX12_happens_191 : decode cX12_happens 191 = .ok (.getfield 62, 3) := by decide +kernel
theorem dX12_happens_194 : decode cX12_happens 194 = .ok (.iload_n 2, 1) := by decide +kernel
theorem dX12_happens_195 : decode cX12_happens 195 = .ok (.iaload, 1) := by decide +kernel
theorem dX12_happens_196 : decode cX12_happens 196 = .ok (.invokevirtual 326, 3) := by decide +kernel
theorem dX12_happens_199 : decode cX12_happens 199 = .ok (.return_, 1) := by decide +kernel
theorem dX12_goesOn_0 : decode cX12_goesOn 0 = .ok (.iconst 0, 1) := by decide +kernel
theorem dX12_goesOn_1 : decode cX12_goesOn 1 = .ok (.istore_n 3, 1) := by decide +kernel
theorem dX12_goesOn_2 : decode cX12_goesOn 2 = .ok (.iconst 1, 1) := by decide +kernel
theorem dX12_goesOn_3 : decode cX12_goesOn 3 = .ok (.istore 4, 2) := by decide +kernel
theorem dX12_goesOn_5 : decode cX12_goesOn 5 = .ok (.iload 4, 2) := by decide +kernel
theorem dX12_goesOn_7 : decode cX12_goesOn 7 = .ok (.ifCond .eq 116, 3) := by decide +kernel
theorem dX12_goesOn_10 : decode cX12_goesOn 10 = .ok (.aload_n 0, 1) := by decide +kernel
theorem dX12_goesOn_11 : decode cX12_goesOn 11 = .ok (.iload_n 1, 1) := by decide +kernel
theorem dX12_goesOn_12 : decode cX12_goesOn 12 = .ok (.invokevirtual 301, 3) := by decide +kernel
theorem dX12_goesOn_15 : decode cX12_goesOn 15 = .ok (.aload_n 0, 1) := by decide +kernel
theorem dX12_goesOn_16 : decode cX12_goesOn 16 = .ok (.iload_n 1, 1) := by decide +kernel
theorem dX12_goesOn_17 : decode cX12_goesOn 17 = .ok (.invokevirtual 311, 3) := by decide +kernel
theorem dX12_goesOn_20 : decode cX12_goesOn 20 = .ok (.istore 5, 2) := by decide +kernel
theorem dX12_goesOn_22 : decode cX12_goesOn 22 = .ok (.aload_n 0, 1) := by decide +kernel
theorem dX12_goesOn_23 : decode cX12_goesOn 23 = .ok (.getfield 271, 3) := by decide +kernel
theorem dX12_goesOn_26 : decode cX12_goesOn 26 = .ok (.ifCond .le 17, 3) := by decide +kernel
theorem dX12_goesOn_29 : decode cX12_goesOn 29 = .ok (.aload_n 0, 1) := by decide +kernel
theorem dX12_goesOn_30 : decode cX12_goesOn 30 = .ok (.getfield 59, 3) := by decide +kernel
theorem dX12_goesOn_33 : decode cX12_goesOn 33 = .ok (.iconst 0, 1) := by decide +kernel
theorem dX12_goesOn_34 : decode cX12_goesOn 34 = .ok (.iaload, 1) := by decide +kernel
theorem dX12_goesOn_35 : decode cX12_goesOn 35 = .ok (.iload_n 2, 1) := by decide +kernel
theorem dX12_goesOn_36 : decode cX12_goesOn 36 = .ok (.if_icmp .gt 7, 3) := by decide +kernel
theorem dX12_goesOn_39 : decode cX12_goesOn 39 = .ok (.iconst 1, 1) := by decide +kernel
theorem dX12_goesOn_40 : decode cX12_goesOn 40 = .ok (.goto 4, 3) := by decide +kernel
theorem dX12_goesOn_43 : decode cX12_goesOn 43 = .ok (.iconst 0, 1) := by decide +kernel
theorem dX12_goesOn_44 : decode cX12_goesOn 44 = .ok (.istore 4, 2) := by decide +kernel
theorem dX12_goesOn_46 : decode cX12_goesOn 46 = .ok (.iload 4, 2) := by decide +kernel
theorem dX12_goesOn_48 : decode cX12_goesOn 48 = .ok (.ifCond .ne 6, 3) := by decide +kernel
theorem dX12_goesOn_51 : decode cX12_goesOn 51 = .ok (.goto 72, 3) := by decide +kernel
theorem dX12_goesOn_54 : decode cX12_goesOn 54 = .ok (.aload_n 0, 1) := by decide +kernel
theorem dX12_goesOn_55 : decode cX12_goesOn 55 = .ok (.iload_n 1, 1) := by decide +kernel
theorem dX12_goesOn_56 : decode cX12_goesOn 56 = .ok (.iconst 0, 1) := by decide +kernel
theorem dX12_goesOn_57 : decode cX12_goesOn 57 = .ok (.invokevirtual 359, 3) := by decide +kernel
theorem dX12_goesOn_60 : decode cX12_goesOn 60 = .ok (.iconst 1, 1) := by decide +kernel
theorem dX12_goesOn_61 : decode cX12_goesOn 61 = .ok (.istore 6, 2) := by decide +kernel
theorem dX12_goesOn_63 : decode cX12_goesOn 63 = .ok (.iload 6, 2) := by decide +kernel
theorem dX12_goesOn_65 : decode cX12_goesOn 65 = .ok (.aload_n 0, 1) := by decide +kernel
theorem dX12_goesOn_66 : decode cX12_goesOn 66 = .ok (.getfield 271, 3) := by decide +kernel
theorem dX12_goesOn_69 : decode cX12_goesOn 69 = .ok (.if_icmp .ge 28, 3) := by decide +kernel
theorem dX12_goesOn_72 : decode cX12_goesOn 72 = .ok (.aload_n 0, 1) := by decide +kernel
theorem dX12_goesOn_73 : decode cX12_goesOn 73 = .ok (.iload_n 1, 1) := by decide +kernel
theorem dX12_goesOn_74 : decode cX12_goesOn 74 = .ok (.bipush 12, 2) := by decide +kernel
theorem dX12_goesOn_76 : decode cX12_goesOn 76 = .ok (.iload 6, 2) := by decide +kernel
theorem dX12_goesOn_78 : decode cX12_goesOn 78 = .ok (.iadd, 1) := by decide +kernel
theorem dX12_goesOn_79 : decode cX12_goesOn 79 = .ok (.iconst 1, 1) := by decide +kernel
theorem dX12_goesOn_80 : decode cX12_goesOn 80 = .ok (.isub, 1) := by decide +kernel
theorem dX12_goesOn_81 : decode cX12_goesOn 81 = .ok (.aload_n 0, 1) := by decide +kernel
theorem dX12_goesOn_82 : decode cX12_goesOn 82 = .ok (.getfield 50, 3) := by decide +kernel
theorem dX12_goesOn_85 : decode cX12_goesOn 85 = .ok (.iload 6, 2) := by decide +kernel
theorem dX12_goesOn_87 : decode cX12_goesOn 87 = .ok (.iaload, 1) := by decide +kernel
theorem dX12_goesOn_88 : decode cX12_goesOn 88 = .ok (.invokevirtual 326, 3) := by decide +kernel
theorem dX12_goesOn_91 : decode cX12_goesOn 91 = .ok (.iinc 6 1, 3) := by decide +kernel
theorem dX12_goesOn_94 : decode cX12_goesOn 94 = .ok (.goto (-31), 3) := by decide +kernel
theorem dX12_goesOn_97 : decode cX12_goesOn 97 = .ok (.aload_n 0, 1) := by decide +kernel
theorem dX12_goesOn_98 : decode cX12_goesOn 98 = .ok (.iload_n 1, 1) := by decide +kernel
theorem dX12_goesOn_99 : decode cX12_goesOn 99 = .ok (.bipush 11, 2) := by decide +kernel
theorem dX12_goesOn_101 : decode cX12_goesOn 101 = .ok (.aload_n 0, 1) := by decide +kernel
theorem dX12_goesOn_102 : decode cX12_goesOn 102 = .ok (.getfield 271, 3) := by decide +kernel
theorem dX12_goesOn_105 : decode cX12_goesOn 105 = .ok (.iconst 1, 1) := by decide +kernel
theorem dX12_goesOn_106 : decode cX12_goesOn 106 = .ok (.isub, 1) := by decide +kernel
theorem dX12_goesOn_107 : decode cX12_goesOn 107 = .ok (.invokevirtual 326, 3) := by decide +kernel
theorem dX12_goesOn_110 : decode cX12_goesOn 110 = .ok (.aload_n 0, 1) := by decide +kernel
theorem dX12_goesOn_111 : decode cX12_goesOn 111 = .ok (.iload_n 1, 1) := by decide +kernel
theorem dX12_goesOn_112 : decode cX12_goesOn 112 = .ok (.iconst 3, 1) := by decide +kernel
theorem dX12_goesOn_113 : decode cX12_goesOn 113 = .ok (.iconst (-1), 1) := by decide +kernel
theorem dX12_goesOn_114 : decode cX12_goesOn 114 = .ok (.invokevirtual 326, 3) := by decide +kernel
theorem dX12_goesOn_117 : decode cX12_goesOn 117 = .ok (.iinc 3 1, 3) := by decide +kernel
theorem dX12_goesOn_120 : decode cX12_goesOn 120 = .ok (.goto (-115), 3) := by decide +kernel
theorem dX12_goesOn_123 : decode cX12_goesOn 123 = .ok (.aload_n 0, 1) := by decide +kernel
theorem dX12_goesOn_124 : decode cX12_goesOn 124 = .ok (.iload_n 1, 1) := by decide +kernel
theorem dX12_goesOn_125 : decode cX12_goesOn 125 = .ok (.iconst 3, 1) := by decide +kernel
theorem dX12_goesOn_126 : decode cX12_goesOn 126 = .ok (.aload_n 0, 1) := by decide +kernel
theorem dX12_goesOn_127 : decode cX12_goesOn 127 = .ok (.getfield 271, 3) := by decide +kernel
theorem dX12_goesOn_130 : decode cX12_goesOn 130 = .ok (.ifCond .le 22, 3) := by decide +kernel
theorem dX12_goesOn_133 : decode cX12_goesOn 133 = .ok (.aload_n 0, 1) := by decide +kernel
theorem dX12_goesOn_134 : decode cX12_goesOn 134 = .ok (.getfield 53, 3) := by decide +kernel
theorem dX12_goesOn_137 : decode cX12_goesOn 137 = .ok (.iconst 0, 1) := by decide +kernel
theorem dX12_goesOn_138 : decode cX12_goesOn 138 = .ok (.iaload, 1) := by decide +kernel
theorem dX12_goesOn_139 : decode cX12_goesOn 139 = .ok (.iload_n 2, 1) := by decide +kernel
theorem dX12_goesOn_140 : decode cX12_goesOn 140 = .ok (.if_icmp .ge 12, 3) := by decide +kernel
theorem dX12_goesOn_143 : decode cX12_goesOn 143 = .ok (.aload_n 0, 1) := by decide +kernel
theorem dX12_goesOn_144 : decode cX12_goesOn 144 = .ok (.getfield 53, 3) := by decide +kernel
theorem dX12_goesOn_147 : decode cX12_goesOn 147 = .ok (.iconst 0, 1) := by decide +kernel
theorem dX12_goesOn_148 : decode cX12_goesOn 148 = .ok (.iaload, 1) := by decide +kernel
theorem dX12_goesOn_149 : decode cX12_goesOn 149 = .ok (.goto 4, 3) := by decide +kernel
theorem dX12_goesOn_152 : decode cX12_goesOn 152 = .ok (.iconst (-1), 1) := by decide +kernel
theorem dX12_goesOn_153 : decode cX12_goesOn 153 = .ok (.invokevirtual 326, 3) := by decide +kernel
theorem dX12_goesOn_156 : decode cX12_goesOn 156 = .ok (.iload_n 3, 1) := by decide +kernel
theorem dX12_goesOn_157 : decode cX12_goesOn 157 = .ok (.ireturn, 1) := by decide +kernel
theorem dX12_noZone_0 : decode cX12_noZone 0 = .ok (.aload_n 0, 1) := by decide +kernel
theorem dX12_noZone_1 : decode cX12_noZone 1 = .ok (.iload_n 1, 1) := by decide +kernel
theorem dX12_noZone_2 : decode cX12_noZone 2 = .ok (.i2l, 1) := by decide +kernel
theorem dX12_noZone_3 : decode cX12_noZone 3 = .ok (.lconst 0, 1) := by decide +kernel
theorem dX12_noZone_4 : decode cX12_noZone 4 = .ok (.aload_n 0, 1) := by decide +kernel
theorem dX12_noZone_5 : decode cX12_noZone 5 = .ok (.getfield 108, 3) := by decide +kernel
theorem dX12_noZone_8 : decode cX12_noZone 8 = .ok (.iconst 1, 1) := by decide +kernel
theorem dX12_noZone_9 : decode cX12_noZone 9 = .ok (.isub, 1) := by decide +kernel
theorem dX12_noZone_10 : decode cX12_noZone 10 = .ok (.i2l, 1) := by decide +kernel
theorem dX12_noZone_11 : decode cX12_noZone 11 = .ok (.invokestatic 197, 3) := by decide +kernel
theorem dX12_noZone_14 : decode cX12_noZone 14 = .ok (.iconst 1, 1) := by decide +kernel
theorem dX12_noZone_15 : decode cX12_noZone 15 = .ok (.invokevirtual 256, 3) := by decide +kernel
theorem dX12_noZone_18 : decode cX12_noZone 18 = .ok (.ireturn, 1) := by decide +kernel
theorem dX12_noTaxi_0 : decode cX12_noTaxi 0 = .ok (.aload_n 0, 1) := by decide +kernel
theorem dX12_noTaxi_1 : decode cX12_noTaxi 1 = .ok (.iload_n 1, 1) := by decide +kernel
theorem dX12_noTaxi_2 : decode cX12_noTaxi 2 = .ok (.i2l, 1) := by decide +kernel
theorem dX12_noTaxi_3 : decode cX12_noTaxi 3 = .ok (.lconst 0, 1) := by decide +kernel
theorem dX12_noTaxi_4 : decode cX12_noTaxi 4 = .ok (.aload_n 0, 1) := by decide +kernel
theorem dX12_noTaxi_5 : decode cX12_noTaxi 5 = .ok (.getfield 114, 3) := by decide +kernel
theorem dX12_noTaxi_8 : decode cX12_noTaxi 8 = .ok (.iconst 1, 1) := by decide +kernel
theorem dX12_noTaxi_9 : decode cX12_noTaxi 9 = .ok (.isub, 1) := by decide +kernel
theorem dX12_noTaxi_10 : decode cX12_noTaxi 10 = .ok (.i2l, 1) := by decide +kernel
theorem dX12_noTaxi_11 : decode cX12_noTaxi 11 = .ok (.invokestatic 197, 3) := by decide +kernel
theorem dX12_noTaxi_14 : decode cX12_noTaxi 14 = .ok (.iconst 1, 1) := by decide +kernel
theorem dX12_noTaxi_15 : decode cX12_noTaxi 15 = .ok (.invokevirtual 256, 3) := by decide +kernel
theorem dX12_noTaxi_18 : decode cX12_noTaxi 18 = .ok (.ireturn, 1) := by decide +kernel
theorem dX12_noRide_0 : decode cX12_noRide 0 = .ok (.aload_n 0, 1) := by decide +kernel
theorem dX12_noRide_1 : decode cX12_noRide 1 = .ok (.iload_n 1, 1) := by decide +kernel
theorem dX12_noRide_2 : decode cX12_noRide 2 = .ok (.i2l, 1) := by decide +kernel
theorem dX12_noRide_3 : decode cX12_noRide 3 = .ok (.lconst 0, 1) := by decide +kernel
theorem dX12_noRide_4 : decode cX12_noRide 4 = .ok (.aload_n 0, 1) := by decide +kernel
theorem dX12_noRide_5 : decode cX12_noRide 5 = .ok (.getfield 7, 3) := by decide +kernel
theorem dX12_noRide_8 : decode cX12_noRide 8 = .ok (.iconst 1, 1) := by decide +kernel
theorem dX12_noRide_9 : decode cX12_noRide 9 = .ok (.iaload, 1) := by decide +kernel
theorem dX12_noRide_10 : decode cX12_noRide 10 = .ok (.iconst 1, 1) := by decide +kernel
theorem dX12_noRide_11 : decode cX12_noRide 11 = .ok (.isub, 1) := by decide +kernel
theorem dX12_noRide_12 : decode cX12_noRide 12 = .ok (.i2l, 1) := by decide +kernel
theorem dX12_noRide_13 : decode cX12_noRide 13 = .ok (.invokestatic 197, 3) := by decide +kernel
theorem dX12_noRide_16 : decode cX12_noRide 16 = .ok (.iconst 1, 1) := by decide +kernel
theorem dX12_noRide_17 : decode cX12_noRide 17 = .ok (.invokevirtual 256, 3) := by decide +kernel
theorem dX12_noRide_20 : decode cX12_noRide 20 = .ok (.ireturn, 1) := by decide +kernel
theorem dX12_ridesIn_0 : decode cX12_ridesIn 0 = .ok (.iconst 0, 1) := by decide +kernel
theorem dX12_ridesIn_1 : decode cX12_ridesIn 1 = .ok (.istore_n 2, 1) := by decide +kernel
theorem dX12_ridesIn_2 : decode cX12_ridesIn 2 = .ok (.iconst 0, 1) := by decide +kernel
theorem dX12_ridesIn_3 : decode cX12_ridesIn 3 = .ok (.istore_n 3, 1) := by decide +kernel
theorem dX12_ridesIn_4 : decode cX12_ridesIn 4 = .ok (.iload_n 3, 1) := by decide +kernel
theorem dX12_ridesIn_5 : decode cX12_ridesIn 5 = .ok (.aload_n 0, 1) := by decide +kernel
theorem dX12_ridesIn_6 : decode cX12_ridesIn 6 = .ok (.getfield 7, 3) := by decide +kernel
theorem dX12_ridesIn_9 : decode cX12_ridesIn 9 = .ok (.iconst 1, 1) := by decide +kernel
theorem dX12_ridesIn_10 : decode cX12_ridesIn 10 = .ok (.iaload, 1) := by decide +kernel
theorem dX12_ridesIn_11 : decode cX12_ridesIn 11 = .ok (.if_icmp .ge 27, 3) := by decide +kernel
theorem dX12_ridesIn_14 : decode cX12_ridesIn 14 = .ok (.iload_n 2, 1) := by decide +kernel
theorem dX12_ridesIn_15 : decode cX12_ridesIn 15 = .ok (.aload_n 0, 1) := by decide +kernel
theorem dX12_ridesIn_16 : decode cX12_ridesIn 16 = .ok (.iload_n 3, 1) := by decide +kernel
theorem dX12_ridesIn_17 : decode cX12_ridesIn 17 = .ok (.iconst 0, 1) := by decide +kernel
theorem dX12_ridesIn_18 : decode cX12_ridesIn 18 = .ok (.invokevirtual 274, 3) := by decide +kernel
theorem dX12_ridesIn_21 : decode cX12_ridesIn 21 = .ok (.iload_n 1, 1) := by decide +kernel
theorem dX12_ridesIn_22 : decode cX12_ridesIn 22 = .ok (.if_icmp .ne 7, 3) := by decide +kernel
theorem dX12_ridesIn_25 : decode cX12_ridesIn 25 = .ok (.iconst 1, 1) := by decide +kernel
theorem dX12_ridesIn_26 : decode cX12_ridesIn 26 = .ok (.goto 4, 3) := by decide +kernel
theorem dX12_ridesIn_29 : decode cX12_ridesIn 29 = .ok (.iconst 0, 1) := by decide +kernel
theorem dX12_ridesIn_30 : decode cX12_ridesIn 30 = .ok (.iadd, 1) := by decide +kernel
theorem dX12_ridesIn_31 : decode cX12_ridesIn 31 = .ok (.istore_n 2, 1) := by decide +kernel
theorem dX12_ridesIn_32 : decode cX12_ridesIn 32 = .ok (.iinc 3 1, 3) := by decide +kernel
theorem dX12_ridesIn_35 : decode cX12_ridesIn 35 = .ok (.goto (-31), 3) := by decide +kernel
theorem dX12_ridesIn_38 : decode cX12_ridesIn 38 = .ok (.iload_n 2, 1) := by decide +kernel
theorem dX12_ridesIn_39 : decode cX12_ridesIn 39 = .ok (.ireturn, 1) := by decide +kernel
theorem dX12_sumOf_0 : decode cX12_sumOf 0 = .ok (.iconst 0, 1) := by decide +kernel
theorem dX12_sumOf_1 : decode cX12_sumOf 1 = .ok (.istore_n 2, 1) := by decide +kernel
theorem dX12_sumOf_2 : decode cX12_sumOf 2 = .ok (.iconst 0, 1) := by decide +kernel
theorem dX12_sumOf_3 : decode cX12_sumOf 3 = .ok (.istore_n 3, 1) := by decide +kernel
theorem dX12_sumOf_4 : decode cX12_sumOf 4 = .ok (.iload_n 3, 1) := by decide +kernel
theorem dX12_sumOf_5 : decode cX12_sumOf 5 = .ok (.aload_n 0, 1) := by decide +kernel
theorem dX12_sumOf_6 : decode cX12_sumOf 6 = .ok (.getfield 114, 3) := by decide +kernel
theorem dX12_sumOf_9 : decode cX12_sumOf 9 = .ok (.if_icmp .ge 18, 3) := by decide +kernel
theorem dX12_sumOf_12 : decode cX12_sumOf 12 = .ok (.iload_n 2, 1) := by decide +kernel
theorem dX12_sumOf_13 : decode cX12_sumOf 13 = .ok (.aload_n 0, 1) := by decide +kernel
theorem dX12_sumOf_14 : decode cX12_sumOf 14 = .ok (.iload_n 3, 1) := by decide +kernel
theorem dX12_sumOf_15 : decode cX12_sumOf 15 = .ok (.iload_n 1, 1) := by decide +kernel
theorem dX12_sumOf_16 : decode cX12_sumOf 16 = .ok (.invokevirtual 268, 3) := by decide +kernel
theorem dX12_sumOf_19 : decode cX12_sumOf 19 = .ok (.iadd, 1) := by decide +kernel
theorem dX12_sumOf_20 : decode cX12_sumOf 20 = .ok (.istore_n 2, 1) := by decide +kernel
theorem dX12_sumOf_21 : decode cX12_sumOf 21 = .ok (.iinc 3 1, 3) := by decide +kernel
theorem dX12_sumOf_24 : decode cX12_sumOf 24 = .ok (.goto (-20), 3) := by decide +kernel
theorem dX12_sumOf_27 : decode cX12_sumOf 27 = .ok (.iload_n 2, 1) := by decide +kernel
theorem dX12_sumOf_28 : decode cX12_sumOf 28 = .ok (.ireturn, 1) := by decide +kernel
theorem dX12_size_0 : decode cX12_size 0 = .ok (.aload_n 0, 1) := by decide +kernel
theorem dX12_size_1 : decode cX12_size 1 = .ok (.iconst 0, 1) := by decide +kernel
theorem dX12_size_2 : decode cX12_size 2 = .ok (.putfield 93, 3) := by decide +kernel
theorem dX12_size_5 : decode cX12_size 5 = .ok (.aload_n 0, 1) := by decide +kernel
theorem dX12_size_6 : decode cX12_size 6 = .ok (.iload_n 1, 1) := by decide +kernel
theorem dX12_size_7 : decode cX12_size 7 = .ok (.i2l, 1) := by decide +kernel
theorem dX12_size_8 : decode cX12_size 8 = .ok (.lconst 0, 1) := by decide +kernel
theorem dX12_size_9 : decode cX12_size 9 = .ok (.ldc2_w 362, 3) := by decide +kernel
theorem dX12_size_12 : decode cX12_size 12 = .ok (.invokestatic 197, 3) := by decide +kernel
theorem dX12_size_15 : decode cX12_size 15 = .ok (.iconst 1, 1) := by decide +kernel
theorem dX12_size_16 : decode cX12_size 16 = .ok (.invokevirtual 256, 3) := by decide +kernel
theorem dX12_size_19 : decode cX12_size 19 = .ok (.ifCond .eq 5, 3) := by decide +kernel
theorem dX12_size_22 : decode cX12_size 22 = .ok (.iconst 0, 1) := by decide +kernel
theorem dX12_size_23 : decode cX12_size 23 = .ok (.ireturn, 1) := by decide +kernel
theorem dX12_size_24 : decode cX12_size 24 = .ok (.iload_n 1, 1) := by decide +kernel
theorem dX12_size_25 : decode cX12_size 25 = .ok (.tableswitch 94 0 7 #[47, 52, 57, 62, 69, 76, 82, 89], 47) := by decide +kernel
theorem dX12_size_72 : decode cX12_size 72 = .ok (.aload_n 0, 1) := by decide +kernel
theorem dX12_size_73 : decode cX12_size 73 = .ok (.getfield 108, 3) := by decide +kernel
theorem dX12_size_76 : decode cX12_size 76 = .ok (.ireturn, 1) := by decide +kernel
theorem dX12_size_77 : decode cX12_size 77 = .ok (.aload_n 0, 1) := by decide +kernel
theorem dX12_size_78 : decode cX12_size 78 = .ok (.getfield 111, 3) := by decide +kernel
theorem dX12_size_81 : decode cX12_size 81 = .ok (.ireturn, 1) := by decide +kernel
theorem dX12_size_82 : decode cX12_size 82 = .ok (.aload_n 0, 1) := by decide +kernel
theorem dX12_size_83 : decode cX12_size 83 = .ok (.getfield 114, 3) := by decide +kernel
theorem dX12_size_86 : decode cX12_size 86 = .ok (.ireturn, 1) := by decide +kernel
theorem dX12_size_87 : decode cX12_size 87 = .ok (.aload_n 0, 1) := by decide +kernel
theorem dX12_size_88 : decode cX12_size 88 = .ok (.getfield 7, 3) := by decide +kernel
theorem dX12_size_91 : decode cX12_size 91 = .ok (.iconst 1, 1) := by decide +kernel
theorem dX12_size_92 : decode cX12_size 92 = .ok (.iaload, 1) := by decide +kernel
theorem dX12_size_93 : decode cX12_size 93 = .ok (.ireturn, 1) := by decide +kernel
theorem dX12_size_94 : decode cX12_size 94 = .ok (.aload_n 0, 1) := by decide +kernel
theorem dX12_size_95 : decode cX12_size 95 = .ok (.getfield 7, 3) := by decide +kernel
theorem dX12_size_98 : decode cX12_size 98 = .ok (.iconst 0, 1) := by decide +kernel
theorem dX12_size_99 : decode cX12_size 99 = .ok (.iaload, 1) := by decide +kernel
theorem dX12_size_100 : decode cX12_size 100 = .ok (.ireturn, 1) := by decide +kernel
theorem dX12_size_101 : decode cX12_size 101 = .ok (.aload_n 0, 1) := by decide +kernel
theorem dX12_size_102 : decode cX12_size 102 = .ok (.iconst 0, 1) := by decide +kernel
theorem dX12_size_103 : decode cX12_size 103 = .ok (.invokevirtual 364, 3) := by decide +kernel
theorem dX12_size_106 : decode cX12_size 106 = .ok (.ireturn, 1) := by decide +kernel
theorem dX12_size_107 : decode cX12_size 107 = .ok (.aload_n 0, 1) := by decide +kernel
theorem dX12_size_108 : decode cX12_size 108 = .ok (.bipush 11, 2) := by decide +kernel
theorem dX12_size_110 : decode cX12_size 110 = .ok (.invokevirtual 367, 3) := by decide +kernel
theorem dX12_size_113 : decode cX12_size 113 = .ok (.ireturn, 1) := by decide +kernel
theorem dX12_size_114 : decode cX12_size 114 = .ok (.aload_n 0, 1) := by decide +kernel
theorem dX12_size_115 : decode cX12_size 115 = .ok (.getfield 117, 3) := by decide +kernel
theorem dX12_size_118 : decode cX12_size 118 = .ok (.ireturn, 1) := by decide +kernel
theorem dX12_size_119 : decode cX12_size 119 = .ok (.aload_n 0, 1) := by decide +kernel
theorem dX12_size_120 : decode cX12_size 120 = .ok (.getfield 7, 3) := by decide +kernel
theorem dX12_size_123 : decode cX12_size 123 = .ok (.iconst 2, 1) := by decide +kernel
theorem dX12_size_124 : decode cX12_size 124 = .ok (.iaload, 1) := by decide +kernel
theorem dX12_size_125 : decode cX12_size 125 = .ok (.ireturn, 1) := by decide +kernel
theorem dX12_rule_0 : decode cX12_rule 0 = .ok (.aload_n 0, 1) := by decide +kernel
theorem dX12_rule_1 : decode cX12_rule 1 = .ok (.iconst 0, 1) := by decide +kernel
theorem dX12_rule_2 : decode cX12_rule 2 = .ok (.putfield 93, 3) := by decide +kernel
theorem dX12_rule_5 : decode cX12_rule 5 = .ok (.aload_n 0, 1) := by decide +kernel
theorem dX12_rule_6 : decode cX12_rule 6 = .ok (.iload_n 1, 1) := by decide +kernel
theorem dX12_rule_7 : decode cX12_rule 7 = .ok (.i2l, 1) := by decide +kernel
theorem dX12_rule_8 : decode cX12_rule 8 = .ok (.lconst 0, 1) := by decide +kernel
theorem dX12_rule_9 : decode cX12_rule 9 = .ok (.ldc2_w 370, 3) := by decide +kernel
theorem dX12_rule_12 : decode cX12_rule 12 = .ok (.invokestatic 197, 3) := by decide +kernel
theorem dX12_rule_15 : decode cX12_rule 15 = .ok (.iconst 1, 1) := by decide +kernel
theorem dX12_rule_16 : decode cX12_rule 16 = .ok (.invokevirtual 256, 3) := by decide +kernel
theorem dX12_rule_19 : decode cX12_rule 19 = .ok (.ifCond .eq 7, 3) := by decide +kernel
theorem dX12_rule_22 : decode cX12_rule 22 = .ok (.iconst 0, 1) := by decide +kernel
theorem dX12_rule_23 : decode cX12_rule 23 = .ok (.goto 8, 3) := by decide +kernel
theorem dX12_rule_26 : decode cX12_rule 26 = .ok (.aload_n 0, 1) := by decide +kernel
theorem dX12_rule_27 : decode cX12_rule 27 = .ok (.iload_n 1, 1) := by decide +kernel
theorem dX12_rule_28 : decode cX12_rule 28 = .ok (.invokevirtual 292, 3) := by decide +kernel
theorem dX12_rule_31 : decode cX12_rule 31 = .ok (.ireturn, 1) := by decide +kernel
theorem dX12_minutes_0 : decode cX12_minutes 0 = .ok (.aload_n 0, 1) := by decide +kernel
theorem dX12_minutes_1 : decode cX12_minutes 1 = .ok (.iconst 0, 1) := by decide +kernel
theorem dX12_minutes_2 : decode cX12_minutes 2 = .ok (.putfield 93, 3) := by decide +kernel
theorem dX12_minutes_5 : decode cX12_minutes 5 = .ok (.aload_n 0, 1) := by decide +kernel
theorem dX12_minutes_6 : decode cX12_minutes 6 = .ok (.iload_n 1, 1) := by decide +kernel
theorem dX12_minutes_7 : decode cX12_minutes 7 = .ok (.invokevirtual 372, 3) := by decide +kernel
theorem dX12_minutes_10 : decode cX12_minutes 10 = .ok (.ifCond .ne 11, 3) := by decide +kernel
theorem dX12_minutes_13 : decode cX12_minutes 13 = .ok (.aload_n 0, 1) := by decide +kernel
theorem dX12_minutes_14 : decode cX12_minutes 14 = .ok (.iload_n 2, 1) := by decide +kernel
theorem dX12_minutes_15 : decode cX12_minutes 15 = .ok (.invokevirtual 372, 3) := by decide +kernel
theorem dX12_minutes_18 : decode cX12_minutes 18 = .ok (.ifCond .eq 7, 3) := by decide +kernel
theorem dX12_minutes_21 : decode cX12_minutes 21 = .ok (.iconst 0, 1) := by decide +kernel
theorem dX12_minutes_22 : decode cX12_minutes 22 = .ok (.goto 9, 3) := by decide +kernel
theorem dX12_minutes_25 : decode cX12_minutes 25 = .ok (.aload_n 0, 1) := by decide +kernel
theorem dX12_minutes_26 : decode cX12_minutes 26 = .ok (.iload_n 1, 1) := by decide +kernel
theorem dX12_minutes_27 : decode cX12_minutes 27 = .ok (.iload_n 2, 1) := by decide +kernel
theorem dX12_minutes_28 : decode cX12_minutes 28 = .ok (.invokevirtual 277, 3) := by decide +kernel
theorem dX12_minutes_31 : decode cX12_minutes 31 = .ok (.ireturn, 1) := by decide +kernel
theorem dX12_taxi_0 : decode cX12_taxi 0 = .ok (.aload_n 0, 1) := by decide +kernel
theorem dX12_taxi_1 : decode cX12_taxi 1 = .ok (.iconst 0, 1) := by decide +kernel
theorem dX12_taxi_2 : decode cX12_taxi 2 = .ok (.putfield 93, 3) := by decide +kernel
theorem dX12_taxi_5 : decode cX12_taxi 5 = .ok (.aload_n 0, 1) := by decide +kernel
theorem dX12_taxi_6 : decode cX12_taxi 6 = .ok (.iload_n 1, 1) := by decide +kernel
theorem dX12_taxi_7 : decode cX12_taxi 7 = .ok (.invokevirtual 375, 3) := by decide +kernel
theorem dX12_taxi_10 : decode cX12_taxi 10 = .ok (.ifCond .ne 20, 3) := by decide +kernel
theorem dX12_taxi_13 : decode cX12_taxi 13 = .ok (.aload_n 0, 1) := by decide +kernel
theorem dX12_taxi_14 : decode cX12_taxi 14 = .ok (.iload_n 2, 1) := by decide +kernel
theorem dX12_taxi_15 : decode cX12_taxi 15 = .ok (.i2l, 1) := by decide +kernel
theorem dX12_taxi_16 : decode cX12_taxi 16 = .ok (.lconst 0, 1) := by decide +kernel
theorem dX12_taxi_17 : decode cX12_taxi 17 = .ok (.ldc2_w 370, 3) := by decide +kernel
theorem dX12_taxi_20 : decode cX12_taxi 20 = .ok (.invokestatic 197, 3) := by decide +kernel
theorem dX12_taxi_23 : decode cX12_taxi 23 = .ok (.iconst 1, 1) := by decide +kernel
theorem dX12_taxi_24 : decode cX12_taxi 24 = .ok (.invokevirtual 256, 3) := by decide +kernel
theorem dX12_taxi_27 : decode cX12_taxi 27 = .ok (.ifCond .eq 5, 3) := by decide +kernel
theorem dX12_taxi_30 : decode cX12_taxi 30 = .ok (.iconst 0, 1) := by decide +kernel
theorem dX12_taxi_31 : decode cX12_taxi 31 = .ok (.ireturn, 1) := by decide +kernel
theorem dX12_taxi_32 : decode cX12_taxi 32 = .ok (.iload_n 2, 1) := by decide +kernel
theorem dX12_taxi_33 : decode cX12_taxi 33 = .ok (.tableswitch 115 0 8 #[51, 58, 65, 72, 79, 86, 94, 100, 108], 51) := by decide +kernel
theorem dX12_taxi_84 : decode cX12_taxi 84 = .ok (.aload_n 0, 1) := by decide +kernel
theorem dX12_taxi_85 : decode cX12_taxi 85 = .ok (.getfield 37, 3) := by decide +kernel
theorem dX12_taxi_88 : decode cX12_taxi 88 = .ok (.iload_n 1, 1) := by decide +kernel
theorem dX12_taxi_89 : decode cX12_taxi 89 = .ok (.iaload, 1) := by decide +kernel
theorem dX12_taxi_90 : decode cX12_taxi 90 = .ok (.ireturn, 1) := by decide +kernel
theorem dX12_taxi_91 : decode cX12_taxi 91 = .ok (.aload_n 0, 1) := by decide +kernel
theorem dX12_taxi_92 : decode cX12_taxi 92 = .ok (.iload_n 1, 1) := by decide +kernel
theorem dX12_taxi_93 : decode cX12_taxi 93 = .ok (.iconst 0, 1) := by decide +kernel
theorem dX12_taxi_94 : decode cX12_taxi 94 = .ok (.invokevirtual 268, 3) := by decide +kernel
theorem dX12_taxi_97 : decode cX12_taxi 97 = .ok (.ireturn, 1) := by decide +kernel
theorem dX12_taxi_98 : decode cX12_taxi 98 = .ok (.aload_n 0, 1) := by decide +kernel
theorem dX12_taxi_99 : decode cX12_taxi 99 = .ok (.iload_n 1, 1) := by decide +kernel
theorem dX12_taxi_100 : decode cX12_taxi 100 = .ok (.iconst 1, 1) := by decide +kernel
theorem dX12_taxi_101 : decode cX12_taxi 101 = .ok (.invokevirtual 268, 3) := by decide +kernel
theorem dX12_taxi_104 : decode cX12_taxi 104 = .ok (.ireturn, 1) := by decide +kernel
theorem dX12_taxi_105 : decode cX12_taxi 105 = .ok (.aload_n 0, 1) := by decide +kernel
theorem dX12_taxi_106 : decode cX12_taxi 106 = .ok (.getfield 40, 3) := by decide +kernel
theorem dX12_taxi_109 : decode cX12_taxi 109 = .ok (.iload_n 1, 1) := by decide +kernel
theorem dX12_taxi_110 : decode cX12_taxi 110 = .ok (.iaload, 1) := by decide +kernel
theorem dX12_taxi_111 : decode cX12_taxi 111 = .ok (.ireturn, 1) := by decide +kernel
theorem dX12_taxi_112 : decode cX12_taxi 112 = .ok (.aload_n 0, 1) := by decide +kernel
theorem dX12_taxi_113 : decode cX12_taxi 113 = .ok (.iload_n 1, 1) := by decide +kernel
theorem dX12_taxi_114 : decode cX12_taxi 114 = .ok (.iconst 4, 1) := by decide +kernel
theorem dX12_taxi_115 : decode cX12_taxi 115 = .ok (.invokevirtual 268, 3) := by decide +kernel
theorem dX12_taxi_118 : decode cX12_taxi 118 = .ok (.ireturn, 1) := by decide +kernel
theorem dX12_taxi_119 : decode cX12_taxi 119 = .ok (.aload_n 0, 1) := by decide +kernel
theorem dX12_taxi_120 : decode cX12_taxi 120 = .ok (.iload_n 1, 1) := by decide +kernel
theorem dX12_taxi_121 : decode cX12_taxi 121 = .ok (.bipush 11, 2) := by decide +kernel
theorem dX12_taxi_123 : decode cX12_taxi 123 = .ok (.invokevirtual 268, 3) := by decide +kernel
theorem dX12_taxi_126 : decode cX12_taxi 126 = .ok (.ireturn, 1) := by decide +kernel
theorem dX12_taxi_127 : decode cX12_taxi 127 = .ok (.aload_n 0, 1) := by decide +kernel
theorem dX12_taxi_128 : decode cX12_taxi 128 = .ok (.iload_n 1, 1) := by decide +kernel
theorem dX12_taxi_129 : decode cX12_taxi 129 = .ok (.invokevirtual 286, 3) := by decide +kernel
theorem dX12_taxi_132 : decode cX12_taxi 132 = .ok (.ireturn, 1) := by decide +kernel
theorem dX12_taxi_133 : decode cX12_taxi 133 = .ok (.aload_n 0, 1) := by decide +kernel
theorem dX12_taxi_134 : decode cX12_taxi 134 = .ok (.iload_n 1, 1) := by decide +kernel
theorem dX12_taxi_135 : decode cX12_taxi 135 = .ok (.bipush 24, 2) := by decide +kernel
theorem dX12_taxi_137 : decode cX12_taxi 137 = .ok (.invokevirtual 268, 3) := by decide +kernel
theorem dX12_taxi_140 : decode cX12_taxi 140 = .ok (.ireturn, 1) := by decide +kernel
theorem dX12_taxi_141 : decode cX12_taxi 141 = .ok (.aload_n 0, 1) := by decide +kernel
theorem dX12_taxi_142 : decode cX12_taxi 142 = .ok (.iload_n 1, 1) := by decide +kernel
theorem dX12_taxi_143 : decode cX12_taxi 143 = .ok (.iconst 2, 1) := by decide +kernel
theorem dX12_taxi_144 : decode cX12_taxi 144 = .ok (.invokevirtual 268, 3) := by decide +kernel
theorem dX12_taxi_147 : decode cX12_taxi 147 = .ok (.ireturn, 1) := by decide +kernel
theorem dX12_taxi_148 : decode cX12_taxi 148 = .ok (.aload_n 0, 1) := by decide +kernel
theorem dX12_taxi_149 : decode cX12_taxi 149 = .ok (.iload_n 1, 1) := by decide +kernel
theorem dX12_taxi_150 : decode cX12_taxi 150 = .ok (.iconst 3, 1) := by decide +kernel
theorem dX12_taxi_151 : decode cX12_taxi 151 = .ok (.invokevirtual 268, 3) := by decide +kernel
theorem dX12_taxi_154 : decode cX12_taxi 154 = .ok (.ireturn, 1) := by decide +kernel
theorem dX12_account_0 : decode cX12_account 0 = .ok (.aload_n 0, 1) := by decide +kernel
theorem dX12_account_1 : decode cX12_account 1 = .ok (.iconst 0, 1) := by decide +kernel
theorem dX12_account_2 : decode cX12_account 2 = .ok (.putfield 93, 3) := by decide +kernel
theorem dX12_account_5 : decode cX12_account 5 = .ok (.aload_n 0, 1) := by decide +kernel
theorem dX12_account_6 : decode cX12_account 6 = .ok (.iload_n 1, 1) := by decide +kernel
theorem dX12_account_7 : decode cX12_account 7 = .ok (.invokevirtual 375, 3) := by decide +kernel
theorem dX12_account_10 : decode cX12_account 10 = .ok (.ifCond .ne 20, 3) := by decide +kernel
theorem dX12_account_13 : decode cX12_account 13 = .ok (.aload_n 0, 1) := by decide +kernel
theorem dX12_account_14 : decode cX12_account 14 = .ok (.iload_n 2, 1) := by decide +kernel
theorem dX12_account_15 : decode cX12_account 15 = .ok (.i2l, 1) := by decide +kernel
theorem dX12_account_16 : decode cX12_account 16 = .ok (.lconst 0, 1) := by decide +kernel
theorem dX12_account_17 : decode cX12_account 17 = .ok (.ldc2_w 378, 3) := by decide +kernel
theorem dX12_account_20 : decode cX12_account 20 = .ok (.invokestatic 197, 3) := by decide +kernel
theorem dX12_account_23 : decode cX12_account 23 = .ok (.iconst 1, 1) := by decide +kernel
theorem dX12_account_24 : decode cX12_account 24 = .ok (.invokevirtual 256, 3) := by decide +kernel
theorem dX12_account_27 : decode cX12_account 27 = .ok (.ifCond .eq 7, 3) := by decide +kernel
theorem dX12_account_30 : decode cX12_account 30 = .ok (.iconst 0, 1) := by decide +kernel
theorem dX12_account_31 : decode cX12_account 31 = .ok (.goto 11, 3) := by decide +kernel
theorem dX12_account_34 : decode cX12_account 34 = .ok (.aload_n 0, 1) := by decide +kernel
theorem dX12_account_35 : decode cX12_account 35 = .ok (.iload_n 1, 1) := by decide +kernel
theorem dX12_account_36 : decode cX12_account 36 = .ok (.iconst 5, 1) := by decide +kernel
theorem dX12_account_37 : decode cX12_account 37 = .ok (.iload_n 2, 1) := by decide +kernel
theorem dX12_account_38 : decode cX12_account 38 = .ok (.iadd, 1) := by decide +kernel
theorem dX12_account_39 : decode cX12_account 39 = .ok (.invokevirtual 268, 3) := by decide +kernel
theorem dX12_account_42 : decode cX12_account 42 = .ok (.ireturn, 1) := by decide +kernel
theorem dX12_stop_0 : decode cX12_stop 0 = .ok (.aload_n 0, 1) := by decide +kernel
theorem dX12_stop_1 : decode cX12_stop 1 = .ok (.iconst 0, 1) := by decide +kernel
theorem dX12_stop_2 : decode cX12_stop 2 = .ok (.putfield 93, 3) := by decide +kernel
theorem dX12_stop_5 : decode cX12_stop 5 = .ok (.aload_n 0, 1) := by decide +kernel
theorem dX12_stop_6 : decode cX12_stop 6 = .ok (.iload_n 1, 1) := by decide +kernel
theorem dX12_stop_7 : decode cX12_stop 7 = .ok (.invokevirtual 375, 3) := by decide +kernel
theorem dX12_stop_10 : decode cX12_stop 10 = .ok (.ifCond .ne 47, 3) := by decide +kernel
theorem dX12_stop_13 : decode cX12_stop 13 = .ok (.aload_n 0, 1) := by decide +kernel
theorem dX12_stop_14 : decode cX12_stop 14 = .ok (.iload_n 2, 1) := by decide +kernel
theorem dX12_stop_15 : decode cX12_stop 15 = .ok (.i2l, 1) := by decide +kernel
theorem dX12_stop_16 : decode cX12_stop 16 = .ok (.lconst 0, 1) := by decide +kernel
theorem dX12_stop_17 : decode cX12_stop 17 = .ok (.aload_n 0, 1) := by decide +kernel
theorem dX12_stop_18 : decode cX12_stop 18 = .ok (.iload_n 1, 1) := by decide +kernel
theorem dX12_stop_19 : decode cX12_stop 19 = .ok (.bipush 11, 2) := by decide +kernel
theorem dX12_stop_21 : decode cX12_stop 21 = .ok (.invokevirtual 268, 3) := by decide +kernel
theorem dX12_stop_24 : decode cX12_stop 24 = .ok (.iconst 1, 1) := by decide +kernel
theorem dX12_stop_25 : decode cX12_stop 25 = .ok (.isub, 1) := by decide +kernel
theorem dX12_stop_26 : decode cX12_stop 26 = .ok (.i2l, 1) := by decide +kernel
theorem dX12_stop_27 : decode cX12_stop 27 = .ok (.invokestatic 197, 3) := by decide +kernel
theorem dX12_stop_30 : decode cX12_stop 30 = .ok (.ifCond .eq 19, 3) := by decide +kernel
theorem dX12_stop_33 : decode cX12_stop 33 = .ok (.iload_n 3, 1) := by decide +kernel
theorem dX12_stop_34 : decode cX12_stop 34 = .ok (.i2l, 1) := by decide +kernel
theorem dX12_stop_35 : decode cX12_stop 35 = .ok (.lconst 0, 1) := by decide +kernel
theorem dX12_stop_36 : decode cX12_stop 36 = .ok (.ldc2_w 378, 3) := by decide +kernel
theorem dX12_stop_39 : decode cX12_stop 39 = .ok (.invokestatic 197, 3) := by decide +kernel
theorem dX12_stop_42 : decode cX12_stop 42 = .ok (.ifCond .eq 7, 3) := by decide +kernel
theorem dX12_stop_45 : decode cX12_stop 45 = .ok (.iconst 1, 1) := by decide +kernel
theorem dX12_stop_46 : decode cX12_stop 46 = .ok (.goto 4, 3) := by decide +kernel
theorem dX12_stop_49 : decode cX12_stop 49 = .ok (.iconst 0, 1) := by decide +kernel
theorem dX12_stop_50 : decode cX12_stop 50 = .ok (.iconst 1, 1) := by decide +kernel
theorem dX12_stop_51 : decode cX12_stop 51 = .ok (.invokevirtual 256, 3) := by decide +kernel
theorem dX12_stop_54 : decode cX12_stop 54 = .ok (.ifCond .eq 5, 3) := by decide +kernel
theorem dX12_stop_57 : decode cX12_stop 57 = .ok (.iconst 0, 1) := by decide +kernel
theorem dX12_stop_58 : decode cX12_stop 58 = .ok (.ireturn, 1) := by decide +kernel
theorem dX12_stop_59 : decode cX12_stop 59 = .ok (.aload_n 0, 1) := by decide +kernel
theorem dX12_stop_60 : decode cX12_stop 60 = .ok (.iload_n 1, 1) := by decide +kernel
theorem dX12_stop_61 : decode cX12_stop 61 = .ok (.invokevirtual 301, 3) := by decide +kernel
theorem dX12_stop_64 : decode cX12_stop 64 = .ok (.aload_n 0, 1) := by decide +kernel
theorem dX12_stop_65 : decode cX12_stop 65 = .ok (.iload_n 1, 1) := by decide +kernel
theorem dX12_stop_66 : decode cX12_stop 66 = .ok (.invokevirtual 311, 3) := by decide +kernel
theorem dX12_stop_69 : decode cX12_stop 69 = .ok (.istore 4, 2) := by decide +kernel
theorem dX12_stop_71 : decode cX12_stop 71 = .ok (.iload_n 3, 1) := by decide +kernel
theorem dX12_stop_72 : decode cX12_stop 72 = .ok (.tableswitch 79 0 4 #[36, 45, 54, 65, 72], 36) := by decide +kernel
theorem dX12_stop_108 : decode cX12_stop 108 = .ok (.aload_n 0, 1) := by decide +kernel
theorem dX12_stop_109 : decode cX12_stop 109 = .ok (.getfield 50, 3) := by decide +kernel
theorem dX12_stop_112 : decode cX12_stop 112 = .ok (.iload_n 2, 1) := by decide +kernel
theorem dX12_stop_113 : decode cX12_stop 113 = .ok (.iaload, 1) := by decide +kernel
theorem dX12_stop_114 : decode cX12_stop 114 = .ok (.iconst 2, 1) := by decide +kernel
theorem dX12_stop_115 : decode cX12_stop 115 = .ok (.idiv, 1) := by decide +kernel
theorem dX12_stop_116 : decode cX12_stop 116 = .ok (.ireturn, 1) := by decide +kernel
theorem dX12_stop_117 : decode cX12_stop 117 = .ok (.aload_n 0, 1) := by decide +kernel
theorem dX12_stop_118 : decode cX12_stop 118 = .ok (.getfield 50, 3) := by decide +kernel
theorem dX12_stop_121 : decode cX12_stop 121 = .ok (.iload_n 2, 1) := by decide +kernel
theorem dX12_stop_122 : decode cX12_stop 122 = .ok (.iaload, 1) := by decide +kernel
theorem dX12_stop_123 : decode cX12_stop 123 = .ok (.iconst 1, 1) := by decide +kernel
theorem dX12_stop_124 : decode cX12_stop 124 = .ok (.iand, 1) := by decide +kernel
theorem dX12_stop_125 : decode cX12_stop 125 = .ok (.ireturn, 1) := by decide +kernel
theorem dX12_stop_126 : decode cX12_stop 126 = .ok (.aload_n 0, 1) := by decide +kernel
theorem dX12_stop_127 : decode cX12_stop 127 = .ok (.aload_n 0, 1) := by decide +kernel
theorem dX12_stop_128 : decode cX12_stop 128 = .ok (.getfield 50, 3) := by decide +kernel
theorem dX12_stop_131 : decode cX12_stop 131 = .ok (.iload_n 2, 1) := by decide +kernel
theorem dX12_stop_132 : decode cX12_stop 132 = .ok (.iaload, 1) := by decide +kernel
theorem dX12_stop_133 : decode cX12_stop 133 = .ok (.invokevirtual 283, 3) := by decide +kernel
theorem dX12_stop_136 : decode cX12_stop 136 = .ok (.ireturn, 1) := by decide +kernel
theorem dX12_stop_137 : decode cX12_stop 137 = .ok (.aload_n 0, 1) := by decide +kernel
theorem dX12_stop_138 : decode cX12_stop 138 = .ok (.getfield 53, 3) := by decide +kernel
theorem dX12_stop_141 : decode cX12_stop 141 = .ok (.iload_n 2, 1) := by decide +kernel
theorem dX12_stop_142 : decode cX12_stop 142 = .ok (.iaload, 1) := by decide +kernel
theorem dX12_stop_143 : decode cX12_stop 143 = .ok (.ireturn, 1) := by decide +kernel
theorem dX12_stop_144 : decode cX12_stop 144 = .ok (.aload_n 0, 1) := by decide +kernel
theorem dX12_stop_145 : decode cX12_stop 145 = .ok (.getfield 56, 3) := by decide +kernel
theorem dX12_stop_148 : decode cX12_stop 148 = .ok (.iload_n 2, 1) := by decide +kernel
theorem dX12_stop_149 : decode cX12_stop 149 = .ok (.iaload, 1) := by decide +kernel
theorem dX12_stop_150 : decode cX12_stop 150 = .ok (.ireturn, 1) := by decide +kernel
theorem dX12_stop_151 : decode cX12_stop 151 = .ok (.aload_n 0, 1) := by decide +kernel
theorem dX12_stop_152 : decode cX12_stop 152 = .ok (.getfield 59, 3) := by decide +kernel
theorem dX12_stop_155 : decode cX12_stop 155 = .ok (.iload_n 2, 1) := by decide +kernel
theorem dX12_stop_156 : decode cX12_stop 156 = .ok (.iaload, 1) := by decide +kernel
theorem dX12_stop_157 : decode cX12_stop 157 = .ok (.ireturn, 1) := by decide +kernel
theorem dX12_ride_0 : decode cX12_ride 0 = .ok (.aload_n 0, 1) := by decide +kernel
theorem dX12_ride_1 : decode cX12_ride 1 = .ok (.iconst 0, 1) := by decide +kernel
theorem dX12_ride_2 : decode cX12_ride 2 = .ok (.putfield 93, 3) := by decide +kernel
theorem dX12_ride_5 : decode cX12_ride 5 = .ok (.aload_n 0, 1) := by decide +kernel
theorem dX12_ride_6 : decode cX12_ride 6 = .ok (.iload_n 1, 1) := by decide +kernel
theorem dX12_ride_7 : decode cX12_ride 7 = .ok (.invokevirtual 380, 3) := by decide +kernel
theorem dX12_ride_10 : decode cX12_ride 10 = .ok (.ifCond .ne 20, 3) := by decide +kernel
theorem dX12_ride_13 : decode cX12_ride 13 = .ok (.aload_n 0, 1) := by decide +kernel
theorem dX12_ride_14 : decode cX12_ride 14 = .ok (.iload_n 2, 1) := by decide +kernel
theorem dX12_ride_15 : decode cX12_ride 15 = .ok (.i2l, 1) := by decide +kernel
theorem dX12_ride_16 : decode cX12_ride 16 = .ok (.lconst 0, 1) := by decide +kernel
theorem dX12_ride_17 : decode cX12_ride 17 = .ok (.ldc2_w 383, 3) := by decide +kernel
theorem dX12_ride_20 : decode cX12_ride 20 = .ok (.invokestatic 197, 3) := by decide +kernel
theorem dX12_ride_23 : decode cX12_ride 23 = .ok (.iconst 1, 1) := by decide +kernel
theorem dX12_ride_24 : decode cX12_ride 24 = .ok (.invokevirtual 256, 3) := by decide +kernel
theorem dX12_ride_27 : decode cX12_ride 27 = .ok (.ifCond .eq 5, 3) := by decide +kernel
theorem dX12_ride_30 : decode cX12_ride 30 = .ok (.iconst 0, 1) := by decide +kernel
theorem dX12_ride_31 : decode cX12_ride 31 = .ok (.ireturn, 1) := by decide +kernel
theorem dX12_ride_32 : decode cX12_ride 32 = .ok (.iload_n 2, 1) := by decide +kernel
theorem dX12_ride_33 : decode cX12_ride 33 = .ok (.bipush 7, 2) := by decide +kernel
theorem dX12_ride_35 : decode cX12_ride 35 = .ok (.if_icmp .ge 10, 3) := by decide +kernel
theorem dX12_ride_38 : decode cX12_ride 38 = .ok (.aload_n 0, 1) := by decide +kernel
theorem dX12_ride_39 : decode cX12_ride 39 = .ok (.iload_n 1, 1) := by decide +kernel
theorem dX12_ride_40 : decode cX12_ride 40 = .ok (.iload_n 2, 1) := by decide +kernel
theorem dX12_ride_41 : decode cX12_ride 41 = .ok (.invokevirtual 274, 3) := by decide +kernel
theorem dX12_ride_44 : decode cX12_ride 44 = .ok (.ireturn, 1) := by decide +kernel
theorem dX12_ride_45 : decode cX12_ride 45 = .ok (.iload_n 2, 1) := by decide +kernel
theorem dX12_ride_46 : decode cX12_ride 46 = .ok (.tableswitch 82 7 12 #[38, 44, 50, 58, 66, 74], 38) := by decide +kernel
theorem dX12_ride_84 : decode cX12_ride 84 = .ok (.aload_n 0, 1) := by decide +kernel
theorem dX12_ride_85 : decode cX12_ride 85 = .ok (.iload_n 1, 1) := by decide +kernel
theorem dX12_ride_86 : decode cX12_ride 86 = .ok (.invokevirtual 280, 3) := by decide +kernel
theorem dX12_ride_89 : decode cX12_ride 89 = .ok (.ireturn, 1) := by decide +kernel
theorem dX12_ride_90 : decode cX12_ride 90 = .ok (.aload_n 0, 1) := by decide +kernel
theorem dX12_ride_91 : decode cX12_ride 91 = .ok (.iload_n 1, 1) := by decide +kernel
theorem dX12_ride_92 : decode cX12_ride 92 = .ok (.invokevirtual 295, 3) := by decide +kernel
theorem dX12_ride_95 : decode cX12_ride 95 = .ok (.ireturn, 1) := by decide +kernel
theorem dX12_ride_96 : decode cX12_ride 96 = .ok (.aload_n 0, 1) := by decide +kernel
theorem dX12_ride_97 : decode cX12_ride 97 = .ok (.iload_n 1, 1) := by decide +kernel
theorem dX12_ride_98 : decode cX12_ride 98 = .ok (.bipush 7, 2) := by decide +kernel
theorem dX12_ride_100 : decode cX12_ride 100 = .ok (.invokevirtual 274, 3) := by decide +kernel
theorem dX12_ride_103 : decode cX12_ride 103 = .ok (.ireturn, 1) := by decide +kernel
theorem dX12_ride_104 : decode cX12_ride 104 = .ok (.aload_n 0, 1) := by decide +kernel
theorem dX12_ride_105 : decode cX12_ride 105 = .ok (.iload_n 1, 1) := by decide +kernel
theorem dX12_ride_106 : decode cX12_ride 106 = .ok (.bipush 8, 2) := by decide +kernel
theorem dX12_ride_108 : decode cX12_ride 108 = .ok (.invokevirtual 274, 3) := by decide +kernel
theorem dX12_ride_111 : decode cX12_ride 111 = .ok (.ireturn, 1) := by decide +kernel
theorem dX12_ride_112 : decode cX12_ride 112 = .ok (.aload_n 0, 1) := by decide +kernel
theorem dX12_ride_113 : decode cX12_ride 113 = .ok (.iload_n 1, 1) := by decide +kernel
theorem dX12_ride_114 : decode cX12_ride 114 = .ok (.bipush 9, 2) := by decide +kernel
theorem dX12_ride_116 : decode cX12_ride 116 = .ok (.invokevirtual 274, 3) := by decide +kernel
theorem dX12_ride_119 : decode cX12_ride 119 = .ok (.ireturn, 1) := by decide +kernel
theorem dX12_ride_120 : decode cX12_ride 120 = .ok (.aload_n 0, 1) := by decide +kernel
theorem dX12_ride_121 : decode cX12_ride 121 = .ok (.iload_n 1, 1) := by decide +kernel
theorem dX12_ride_122 : decode cX12_ride 122 = .ok (.bipush 10, 2) := by decide +kernel
theorem dX12_ride_124 : decode cX12_ride 124 = .ok (.invokevirtual 274, 3) := by decide +kernel
theorem dX12_ride_127 : decode cX12_ride 127 = .ok (.ireturn, 1) := by decide +kernel
theorem dX12_ride_128 : decode cX12_ride 128 = .ok (.aload_n 0, 1) := by decide +kernel
theorem dX12_ride_129 : decode cX12_ride 129 = .ok (.iload_n 1, 1) := by decide +kernel
theorem dX12_ride_130 : decode cX12_ride 130 = .ok (.bipush 11, 2) := by decide +kernel
theorem dX12_ride_132 : decode cX12_ride 132 = .ok (.invokevirtual 274, 3) := by decide +kernel
theorem dX12_ride_135 : decode cX12_ride 135 = .ok (.ireturn, 1) := by decide +kernel
theorem dX12_offer_0 : decode cX12_offer 0 = .ok (.aload_n 0, 1) := by decide +kernel
theorem dX12_offer_1 : decode cX12_offer 1 = .ok (.iconst 0, 1) := by decide +kernel
theorem dX12_offer_2 : decode cX12_offer 2 = .ok (.putfield 93, 3) := by decide +kernel
theorem dX12_offer_5 : decode cX12_offer 5 = .ok (.aload_n 0, 1) := by decide +kernel
theorem dX12_offer_6 : decode cX12_offer 6 = .ok (.iload_n 1, 1) := by decide +kernel
theorem dX12_offer_7 : decode cX12_offer 7 = .ok (.invokevirtual 380, 3) := by decide +kernel
theorem dX12_offer_10 : decode cX12_offer 10 = .ok (.ifCond .ne 20, 3) := by decide +kernel
theorem dX12_offer_13 : decode cX12_offer 13 = .ok (.aload_n 0, 1) := by decide +kernel
theorem dX12_offer_14 : decode cX12_offer 14 = .ok (.iload_n 2, 1) := by decide +kernel
theorem dX12_offer_15 : decode cX12_offer 15 = .ok (.i2l, 1) := by decide +kernel
theorem dX12_offer_16 : decode cX12_offer 16 = .ok (.lconst 0, 1) := by decide +kernel
theorem dX12_offer_17 : decode cX12_offer 17 = .ok (.ldc2_w 385, 3) := by decide +kernel
theorem dX12_offer_20 : decode cX12_offer 20 = .ok (.invokestatic 197, 3) := by decide +kernel
theorem dX12_offer_23 : decode cX12_offer 23 = .ok (.iconst 1, 1) := by decide +kernel
theorem dX12_offer_24 : decode cX12_offer 24 = .ok (.invokevirtual 256, 3) := by decide +kernel
theorem dX12_offer_27 : decode cX12_offer 27 = .ok (.ifCond .eq 5, 3) := by decide +kernel
theorem dX12_offer_30 : decode cX12_offer 30 = .ok (.iconst 0, 1) := by decide +kernel
theorem dX12_offer_31 : decode cX12_offer 31 = .ok (.ireturn, 1) := by decide +kernel
theorem dX12_offer_32 : decode cX12_offer 32 = .ok (.aload_n 0, 1) := by decide +kernel
theorem dX12_offer_33 : decode cX12_offer 33 = .ok (.iload_n 1, 1) := by decide +kernel
theorem dX12_offer_34 : decode cX12_offer 34 = .ok (.iconst 0, 1) := by decide +kernel
theorem dX12_offer_35 : decode cX12_offer 35 = .ok (.invokevirtual 274, 3) := by decide +kernel
theorem dX12_offer_38 : decode cX12_offer 38 = .ok (.ifCond .ne 15, 3) := by decide +kernel
theorem dX12_offer_41 : decode cX12_offer 41 = .ok (.aload_n 0, 1) := by decide +kernel
theorem dX12_offer_42 : decode cX12_offer 42 = .ok (.iload_n 1, 1) := by decide +kernel
theorem dX12_offer_43 : decode cX12_offer 43 = .ok (.bipush 12, 2) := by decide +kernel
theorem dX12_offer_45 : decode cX12_offer 45 = .ok (.iload_n 2, 1) := by decide +kernel
theorem dX12_offer_46 : decode cX12_offer 46 = .ok (.iadd, 1) := by decide +kernel
theorem dX12_offer_47 : decode cX12_offer 47 = .ok (.invokevirtual 274, 3) := by decide +kernel
theorem dX12_offer_50 : decode cX12_offer 50 = .ok (.goto 4, 3) := by decide +kernel
theorem dX12_offer_53 : decode cX12_offer 53 = .ok (.iconst (-1), 1) := by decide +kernel
theorem dX12_offer_54 : decode cX12_offer 54 = .ok (.ireturn, 1) := by decide +kernel
theorem dX12_extra_0 : decode cX12_extra 0 = .ok (.aload_n 0, 1) := by decide +kernel
theorem dX12_extra_1 : decode cX12_extra 1 = .ok (.iconst 0, 1) := by decide +kernel
theorem dX12_extra_2 : decode cX12_extra 2 = .ok (.putfield 93, 3) := by decide +kernel
theorem dX12_extra_5 : decode cX12_extra 5 = .ok (.aload_n 0, 1) := by decide +kernel
theorem dX12_extra_6 : decode cX12_extra 6 = .ok (.iload_n 1, 1) := by decide +kernel
theorem dX12_extra_7 : decode cX12_extra 7 = .ok (.invokevirtual 380, 3) := by decide +kernel
theorem dX12_extra_10 : decode cX12_extra 10 = .ok (.ifCond .ne 11, 3) := by decide +kernel
theorem dX12_extra_13 : decode cX12_extra 13 = .ok (.aload_n 0, 1) := by decide +kernel
theorem dX12_extra_14 : decode cX12_extra 14 = .ok (.iload_n 2, 1) := by decide +kernel
theorem dX12_extra_15 : decode cX12_extra 15 = .ok (.invokevirtual 375, 3) := by decide +kernel
theorem dX12_extra_18 : decode cX12_extra 18 = .ok (.ifCond .eq 5, 3) := by decide +kernel
theorem dX12_extra_21 : decode cX12_extra 21 = .ok (.iconst 0, 1) := by decide +kernel
theorem dX12_extra_22 : decode cX12_extra 22 = .ok (.ireturn, 1) := by decide +kernel
theorem dX12_extra_23 : decode cX12_extra 23 = .ok (.aload_n 0, 1) := by decide +kernel
theorem dX12_extra_24 : decode cX12_extra 24 = .ok (.iload_n 1, 1) := by decide +kernel
theorem dX12_extra_25 : decode cX12_extra 25 = .ok (.iconst 0, 1) := by decide +kernel
theorem dX12_extra_26 : decode cX12_extra 26 = .ok (.invokevirtual 274, 3) := by decide +kernel
theorem dX12_extra_29 : decode cX12_extra 29 = .ok (.ifCond .ne 19, 3) := by decide +kernel
theorem dX12_extra_32 : decode cX12_extra 32 = .ok (.aload_n 0, 1) := by decide +kernel
theorem dX12_extra_33 : decode cX12_extra 33 = .ok (.iload_n 2, 1) := by decide +kernel
theorem dX12_extra_34 : decode cX12_extra 34 = .ok (.iload_n 1, 1) := by decide +kernel
theorem dX12_extra_35 : decode cX12_extra 35 = .ok (.invokevirtual 387, 3) := by decide +kernel
theorem dX12_extra_38 : decode cX12_extra 38 = .ok (.ifCond .eq 10, 3) := by decide +kernel
theorem dX12_extra_41 : decode cX12_extra 41 = .ok (.aload_n 0, 1) := by decide +kernel
theorem dX12_extra_42 : decode cX12_extra 42 = .ok (.getfield 298, 3) := by decide +kernel
theorem dX12_extra_45 : decode cX12_extra 45 = .ok (.goto 4, 3) := by decide +kernel
theorem dX12_extra_48 : decode cX12_extra 48 = .ok (.iconst (-1), 1) := by decide +kernel
theorem dX12_extra_49 : decode cX12_extra 49 = .ok (.ireturn, 1) := by decide +kernel
theorem dX12_willPay_0 : decode cX12_willPay 0 = .ok (.iconst 0, 1) := by decide +kernel
theorem dX12_willPay_1 : decode cX12_willPay 1 = .ok (.istore_n 3, 1) := by decide +kernel
theorem dX12_willPay_2 : decode cX12_willPay 2 = .ok (.aload_n 0, 1) := by decide +kernel
theorem dX12_willPay_3 : decode cX12_willPay 3 = .ok (.iload_n 1, 1) := by decide +kernel
theorem dX12_willPay_4 : decode cX12_willPay 4 = .ok (.bipush 24, 2) := by decide +kernel
theorem dX12_willPay_6 : decode cX12_willPay 6 = .ok (.invokevirtual 268, 3) := by decide +kernel
theorem dX12_willPay_9 : decode cX12_willPay 9 = .ok (.istore 4, 2) := by decide +kernel
theorem dX12_willPay_11 : decode cX12_willPay 11 = .ok (.iconst 0, 1) := by decide +kernel
theorem dX12_willPay_12 : decode cX12_willPay 12 = .ok (.istore 5, 2) := by decide +kernel
theorem dX12_willPay_14 : decode cX12_willPay 14 = .ok (.iload 5, 2) := by decide +kernel
theorem dX12_willPay_16 : decode cX12_willPay 16 = .ok (.iload 4, 2) := by decide +kernel
theorem dX12_willPay_18 : decode cX12_willPay 18 = .ok (.if_icmp .ge 26, 3) := by decide +kernel
theorem dX12_willPay_21 : decode cX12_willPay 21 = .ok (.aload_n 0, 1) := by decide +kernel
theorem dX12_willPay_22 : decode cX12_willPay 22 = .ok (.getfield 71, 3) := by decide +kernel
theorem dX12_willPay_25 : decode cX12_willPay 25 = .ok (.iload 5, 2) := by decide +kernel
theorem dX12_willPay_27 : decode cX12_willPay 27 = .ok (.aload_n 0, 1) := by decide +kernel
theorem dX12_willPay_28 : decode cX12_willPay 28 = .ok (.iload_n 1, 1) := by decide +kernel
theorem dX12_willPay_29 : decode cX12_willPay 29 = .ok (.bipush 25, 2) := by decide +kernel
theorem dX12_willPay_31 : decode cX12_willPay 31 = .ok (.iload 5, 2) := by decide +kernel
theorem dX12_willPay_33 : decode cX12_willPay 33 = .ok (.iadd, 1) := by decide +kernel
theorem dX12_willPay_34 : decode cX12_willPay 34 = .ok (.invokevirtual 268, 3) := by decide +kernel
theorem dX12_willPay_37 : decode cX12_willPay 37 = .ok (.iastore, 1) := by decide +kernel
theorem dX12_willPay_38 : decode cX12_willPay 38 = .ok (.iinc 5 1, 3) := by decide +kernel
theorem dX12_willPay_41 : decode cX12_willPay 41 = .ok (.goto (-27), 3) := by decide +kernel
theorem dX12_willPay_44 : decode cX12_willPay 44 = .ok (.iconst 0, 1) := by decide +kernel
theorem dX12_willPay_45 : decode cX12_willPay 45 = .ok (.istore 5, 2) := by decide +kernel
theorem dX12_willPay_47 : decode cX12_willPay 47 = .ok (.iload 5, 2) := by decide +kernel
theorem dX12_willPay_49 : decode cX12_willPay 49 = .ok (.aload_n 0, 1) := by decide +kernel
theorem dX12_willPay_50 : decode cX12_willPay 50 = .ok (.getfield 271, 3) := by decide +kernel
theorem dX12_willPay_53 : decode cX12_willPay 53 = .ok (.if_icmp .ge 203, 3) := by decide +kernel
theorem dX12_willPay_56 : decode cX12_willPay 56 = .ok (.aload_n 0, 1) := by decide +kernel
theorem dX12_willPay_57 : decode cX12_willPay 57 = .ok (.aload_n 0, 1) := by decide +kernel
theorem dX12_willPay_58 : decode cX12_willPay 58 = .ok (.getfield 65, 3) := by decide +kernel
theorem dX12_willPay_61 : decode cX12_willPay 61 = .ok (.iload 5, 2) := by decide +kernel
theorem dX12_willPay_63 : decode cX12_willPay 63 = .ok (.iaload, 1) := by decide +kernel
theorem dX12_willPay_64 : decode cX12_willPay 64 = .ok (.iload 4, 2) := by decide +kernel
theorem dX12_willPay_66 : decode cX12_willPay 66 = .ok (.invokevirtual 339, 3) := by decide +kernel
theorem dX12_willPay_69 : decode cX12_willPay 69 = .ok (.istore 6, 2) := by decide +kernel
theorem dX12_willPay_71 : decode cX12_willPay 71 = .ok (.aload_n 0, 1) := by decide +kernel
theorem dX12_willPay_72 : decode cX12_willPay 72 = .ok (.getfield 50, 3) := by decide +kernel
theorem dX12_willPay_75 : decode cX12_willPay 75 = .ok (.iload 5, 2) := by decide +kernel
theorem dX12_willPay_77 : decode cX12_willPay 77 = .ok (.iaload, 1) := by decide +kernel
theorem dX12_willPay_78 : decode cX12_willPay 78 = .ok (.iconst 2, 1) := by decide +kernel
theorem dX12_willPay_79 : decode cX12_willPay 79 = .ok (.idiv, 1) := by decide +kernel
theorem dX12_willPay_80 : decode cX12_willPay 80 = .ok (.istore 7, 2) := by decide +kernel
theorem dX12_willPay_82 : decode cX12_willPay 82 = .ok (.iconst 0, 1) := by decide +kernel
theorem dX12_willPay_83 : decode cX12_willPay 83 = .ok (.istore 8, 2) := by decide +kernel
theorem dX12_willPay_85 : decode cX12_willPay 85 = .ok (.iconst 0, 1) := by decide +kernel
theorem dX12_willPay_86 : decode cX12_willPay 86 = .ok (.istore 9, 2) := by decide +kernel
theorem dX12_willPay_88 : decode cX12_willPay 88 = .ok (.iload 9, 2) := by decide +kernel
theorem dX12_willPay_90 : decode cX12_willPay 90 = .ok (.iload 4, 2) := by decide +kernel
theorem dX12_willPay_92 : decode cX12_willPay 92 = .ok (.if_icmp .ge 98, 3) := by decide +kernel
theorem dX12_willPay_95 : decode cX12_willPay 95 = .ok (.aload_n 0, 1) := by decide +kernel
theorem dX12_willPay_96 : decode cX12_willPay 96 = .ok (.getfield 71, 3) := by decide +kernel
theorem dX12_willPay_99 : decode cX12_willPay 99 = .ok (.iload 9, 2) := by decide +kernel
theorem dX12_willPay_101 : decode cX12_willPay 101 = .ok (.iaload, 1) := by decide +kernel
theorem dX12_willPay_102 : decode cX12_willPay 102 = .ok (.iload_n 2, 1) := by decide +kernel
theorem dX12_willPay_103 : decode cX12_willPay 103 = .ok (.if_icmp .ne 15, 3) := by decide +kernel
theorem dX12_willPay_106 : decode cX12_willPay 106 = .ok (.iload_n 3, 1) := by decide +kernel
theorem dX12_willPay_107 : decode cX12_willPay 107 = .ok (.iload 6, 2) := by decide +kernel
theorem dX12_willPay_109 : decode cX12_willPay 109 = .ok (.iload 4, 2) := by decide +kernel
theorem dX12_willPay_111 : decode cX12_willPay 111 = .ok (.iload 9, 2) := by decide +kernel
theorem dX12_willPay_113 : decode cX12_willPay 113 = .ok (.invokestatic 342, 3) := by decide +kernel
theorem dX12_willPay_116 : decode cX12_willPay 116 = .ok (.iadd, 1) := by decide +kernel
theorem dX12_willPay_117 : decode cX12_willPay 117 = .ok (.istore_n 3, 1) := by decide +kernel
theorem dX12_willPay_118 : decode cX12_willPay 118 = .ok (.aload_n 0, 1) := by decide +kernel
theorem dX12_willPay_119 : decode cX12_willPay 119 = .ok (.getfield 50, 3) := by decide +kernel
theorem dX12_willPay_122 : decode cX12_willPay 122 = .ok (.iload 5, 2) := by decide +kernel
theorem dX12_willPay_124 : decode cX12_willPay 124 = .ok (.iaload, 1) := by decide +kernel
theorem dX12_willPay_125 : decode cX12_willPay 125 = .ok (.iconst 1, 1) := by decide +kernel
theorem dX12_willPay_126 : decode cX12_willPay 126 = .ok (.iand, 1) := by decide +kernel
theorem dX12_willPay_127 : decode cX12_willPay 127 = .ok (.iconst 1, 1) := by decide +kernel
theorem dX12_willPay_128 : decode cX12_willPay 128 = .ok (.if_icmp .eq 15, 3) := by decide +kernel
theorem dX12_willPay_131 : decode cX12_willPay 131 = .ok (.aload_n 0, 1) := by decide +kernel
theorem dX12_willPay_132 : decode cX12_willPay 132 = .ok (.getfield 71, 3) := by decide +kernel
theorem dX12_willPay_135 : decode cX12_willPay 135 = .ok (.iload 9, 2) := by decide +kernel
theorem dX12_willPay_137 : decode cX12_willPay 137 = .ok (.iaload, 1) := by decide +kernel
theorem dX12_willPay_138 : decode cX12_willPay 138 = .ok (.iload 7, 2) := by decide +kernel
theorem dX12_willPay_140 : decode cX12_willPay 140 = .ok (.if_icmp .eq 7, 3) := by decide +kernel
theorem dX12_willPay_143 : decode cX12_willPay 143 = .ok (.iconst 1, 1) := by decide +kernel
theorem dX12_willPay_144 : decode cX12_willPay 144 = .ok (.goto 4, 3) := by decide +kernel
theorem dX12_willPay_147 : decode cX12_willPay 147 = .ok (.iconst 0, 1) := by decide +kernel
theorem dX12_willPay_148 : decode cX12_willPay 148 = .ok (.istore 10, 2) := by decide +kernel
theorem dX12_willPay_150 : decode cX12_willPay 150 = .ok (.iload 10, 2) := by decide +kernel
theorem dX12_willPay_152 : decode cX12_willPay 152 = .ok (.ifCond .eq 17, 3) := by decide +kernel
theorem dX12_willPay_155 : decode cX12_willPay 155 = .ok (.aload_n 0, 1) := by decide +kernel
theorem dX12_willPay_156 : decode cX12_willPay 156 = .ok (.getfield 71, 3) := by decide +kernel
theorem dX12_willPay_159 : decode cX12_willPay 159 = .ok (.iload 8, 2) := by decide +kernel
theorem dX12_willPay_161 : decode cX12_willPay 161 = .ok (.aload_n 0, 1) := by decide +kernel
theorem dX12_willPay_162 : decode cX12_willPay 162 = .ok (.getfield 71, 3) := by decide +kernel
theorem dX12_willPay_165 : decode cX12_willPay 165 = .ok (.iload 9, 2) := by decide +kernel
theorem dX12_willPay_167 : decode cX12_willPay 167 = .ok (.iaload, 1) := by decide +kernel
theorem dX12_willPay_168 : decode cX12_willPay 168 = .ok (.iastore, 1) := by decide +kernel
theorem dX12_willPay_169 : decode cX12_willPay 169 = .ok (.iload 8, 2) := by decide +kernel
theorem dX12_willPay_171 : decode cX12_willPay 171 = .ok (.iload 10, 2) := by decide +kernel
theorem dX12_willPay_173 : decode cX12_willPay 173 = .ok (.ifCond .eq 7, 3) := by decide +kernel
theorem dX12_willPay_176 : decode cX12_willPay 176 = .ok (.iconst 1, 1) := by decide +kernel
theorem dX12_willPay_177 : decode cX12_willPay 177 = .ok (.goto 4, 3) := by decide +kernel
theorem dX12_willPay_180 : decode cX12_willPay 180 = .ok (.iconst 0, 1) := by decide +kernel
theorem dX12_willPay_181 : decode cX12_willPay 181 = .ok (.iadd, 1) := by decide +kernel
theorem dX12_willPay_182 : decode cX12_willPay 182 = .ok (.istore 8, 2) := by decide +kernel
theorem dX12_willPay_184 : decode cX12_willPay 184 = .ok (.iinc 9 1, 3) := by decide +kernel
theorem dX12_willPay_187 : decode cX12_willPay 187 = .ok (.goto (-99), 3) := by decide +kernel
theorem dX12_willPay_190 : decode cX12_willPay 190 = .ok (.iload 8, 2) := by decide +kernel
theorem dX12_willPay_192 : decode cX12_willPay 192 = .ok (.istore 4, 2) := by decide +kernel
theorem dX12_willPay_194 : decode cX12_willPay 194 = .ok (.aload_n 0, 1) := by decide +kernel
theorem dX12_willPay_195 : decode cX12_willPay 195 = .ok (.getfield 50, 3) := by decide +kernel
theorem dX12_willPay_198 : decode cX12_willPay 198 = .ok (.iload 5, 2) := by decide +kernel
theorem dX12_willPay_200 : decode cX12_willPay 200 = .ok (.iaload, 1) := by decide +kernel
theorem dX12_willPay_201 : decode cX12_willPay 201 = .ok (.iconst 1, 1) := by decide +kernel
theorem dX12_willPay_202 : decode cX12_willPay 202 = .ok (.iand, 1) := by decide +kernel
theorem dX12_willPay_203 : decode cX12_willPay 203 = .ok (.ifCond .eq 47, 3) := by decide +kernel
theorem dX12_willPay_206 : decode cX12_willPay 206 = .ok (.aload_n 0, 1) := by decide +kernel
theorem dX12_willPay_207 : decode cX12_willPay 207 = .ok (.iload 7, 2) := by decide +kernel
theorem dX12_willPay_209 : decode cX12_willPay 209 = .ok (.bipush 11, 2) := by decide +kernel
theorem dX12_willPay_211 : decode cX12_willPay 211 = .ok (.invokevirtual 274, 3) := by decide +kernel
theorem dX12_willPay_214 : decode cX12_willPay 214 = .ok (.iconst 1, 1) := by decide +kernel
theorem dX12_willPay_215 : decode cX12_willPay 215 = .ok (.if_icmp .ne 6, 3) := by decide +kernel
theorem dX12_willPay_218 : decode cX12_willPay 218 = .ok (.goto 32, 3) := by decide +kernel
theorem dX12_willPay_221 : decode cX12_willPay 221 = .ok (.aload_n 0, 1) := by decide +kernel
theorem dX12_willPay_222 : decode cX12_willPay 222 = .ok (.getfield 71, 3) := by decide +kernel
theorem dX12_willPay_225 : decode cX12_willPay 225 = .ok (.iload 4, 2) := by decide +kernel
theorem dX12_willPay_227 : decode cX12_willPay 227 = .ok (.iload 7, 2) := by decide +kernel
theorem dX12_willPay_229 : decode cX12_willPay 229 = .ok (.iastore, 1) := by decide +kernel
theorem dX12_willPay_230 : decode cX12_willPay 230 = .ok (.iinc 4 1, 3) := by decide +kernel
theorem dX12_willPay_233 : decode cX12_willPay 233 = .ok (.iload_n 3, 1) := by decide +kernel
theorem dX12_willPay_234 : decode cX12_willPay 234 = .ok (.iload 7, 2) := by decide +kernel
theorem dX12_willPay_236 : decode cX12_willPay 236 = .ok (.iload_n 2, 1) := by decide +kernel
theorem dX12_willPay_237 : decode cX12_willPay 237 = .ok (.if_icmp .ne 10, 3) := by decide +kernel
theorem dX12_willPay_240 : decode cX12_willPay 240 = .ok (.aload_n 0, 1) := by decide +kernel
theorem dX12_willPay_241 : decode cX12_willPay 241 = .ok (.getfield 117, 3) := by decide +kernel
theorem dX12_willPay_244 : decode cX12_willPay 244 = .ok (.goto 4, 3) := by decide +kernel
theorem dX12_willPay_247 : decode cX12_willPay 247 = .ok (.iconst 0, 1) := by decide +kernel
theorem dX12_willPay_248 : decode cX12_willPay 248 = .ok (.iadd, 1) := by decide +kernel
theorem dX12_willPay_249 : decode cX12_willPay 249 = .ok (.istore_n 3, 1) := by decide +kernel
theorem dX12_willPay_250 : decode cX12_willPay 250 = .ok (.iinc 5 1, 3) := by decide +kernel
theorem dX12_willPay_253 : decode cX12_willPay 253 = .ok (.goto (-206), 3) := by decide +kernel
theorem dX12_willPay_256 : decode cX12_willPay 256 = .ok (.iload_n 3, 1) := by decide +kernel
theorem dX12_willPay_257 : decode cX12_willPay 257 = .ok (.ireturn, 1) := by decide +kernel
theorem dX12_fare_0 : decode cX12_fare 0 = .ok (.aload_n 0, 1) := by decide +kernel
theorem dX12_fare_1 : decode cX12_fare 1 = .ok (.iconst 0, 1) := by decide +kernel
theorem dX12_fare_2 : decode cX12_fare 2 = .ok (.putfield 93, 3) := by decide +kernel
theorem dX12_fare_5 : decode cX12_fare 5 = .ok (.aload_n 0, 1) := by decide +kernel
theorem dX12_fare_6 : decode cX12_fare 6 = .ok (.iload_n 1, 1) := by decide +kernel
theorem dX12_fare_7 : decode cX12_fare 7 = .ok (.invokevirtual 380, 3) := by decide +kernel
theorem dX12_fare_10 : decode cX12_fare 10 = .ok (.ifCond .eq 5, 3) := by decide +kernel
theorem dX12_fare_13 : decode cX12_fare 13 = .ok (.iconst 0, 1) := by decide +kernel
theorem dX12_fare_14 : decode cX12_fare 14 = .ok (.ireturn, 1) := by decide +kernel
theorem dX12_fare_15 : decode cX12_fare 15 = .ok (.aload_n 0, 1) := by decide +kernel
theorem dX12_fare_16 : decode cX12_fare 16 = .ok (.iload_n 1, 1) := by decide +kernel
theorem dX12_fare_17 : decode cX12_fare 17 = .ok (.iconst 0, 1) := by decide +kernel
theorem dX12_fare_18 : decode cX12_fare 18 = .ok (.invokevirtual 274, 3) := by decide +kernel
theorem dX12_fare_21 : decode cX12_fare 21 = .ok (.i2l, 1) := by decide +kernel
theorem dX12_fare_22 : decode cX12_fare 22 = .ok (.lconst 1, 1) := by decide +kernel
theorem dX12_fare_23 : decode cX12_fare 23 = .ok (.ldc2_w 391, 3) := by decide +kernel
theorem dX12_fare_26 : decode cX12_fare 26 = .ok (.invokestatic 197, 3) := by decide +kernel
theorem dX12_fare_29 : decode cX12_fare 29 = .ok (.ifCond .eq 14, 3) := by decide +kernel
theorem dX12_fare_32 : decode cX12_fare 32 = .ok (.aload_n 0, 1) := by decide +kernel
theorem dX12_fare_33 : decode cX12_fare 33 = .ok (.iload_n 1, 1) := by decide +kernel
theorem dX12_fare_34 : decode cX12_fare 34 = .ok (.bipush 11, 2) := by decide +kernel
theorem dX12_fare_36 : decode cX12_fare 36 = .ok (.invokevirtual 274, 3) := by decide +kernel
theorem dX12_fare_39 : decode cX12_fare 39 = .ok (.iconst 1, 1) := by decide +kernel
theorem dX12_fare_40 : decode cX12_fare 40 = .ok (.if_icmp .ne 5, 3) := by decide +kernel
theorem dX12_fare_43 : decode cX12_fare 43 = .ok (.iconst (-1), 1) := by decide +kernel
theorem dX12_fare_44 : decode cX12_fare 44 = .ok (.ireturn, 1) := by decide +kernel
theorem dX12_fare_45 : decode cX12_fare 45 = .ok (.aload_n 0, 1) := by decide +kernel
theorem dX12_fare_46 : decode cX12_fare 46 = .ok (.aload_n 0, 1) := by decide +kernel
theorem dX12_fare_47 : decode cX12_fare 47 = .ok (.iload_n 1, 1) := by decide +kernel
theorem dX12_fare_48 : decode cX12_fare 48 = .ok (.bipush 7, 2) := by decide +kernel
theorem dX12_fare_50 : decode cX12_fare 50 = .ok (.invokevirtual 274, 3) := by decide +kernel
theorem dX12_fare_53 : decode cX12_fare 53 = .ok (.invokevirtual 301, 3) := by decide +kernel
theorem dX12_fare_56 : decode cX12_fare 56 = .ok (.aload_n 0, 1) := by decide +kernel
theorem dX12_fare_57 : decode cX12_fare 57 = .ok (.aload_n 0, 1) := by decide +kernel
theorem dX12_fare_58 : decode cX12_fare 58 = .ok (.iload_n 1, 1) := by decide +kernel
theorem dX12_fare_59 : decode cX12_fare 59 = .ok (.bipush 7, 2) := by decide +kernel
theorem dX12_fare_61 : decode cX12_fare 61 = .ok (.invokevirtual 274, 3) := by decide +kernel
theorem dX12_fare_64 : decode cX12_fare 64 = .ok (.invokevirtual 311, 3) := by decide +kernel
theorem dX12_fare_67 : decode cX12_fare 67 = .ok (.istore_n 2, 1) := by decide +kernel
theorem dX12_fare_68 : decode cX12_fare 68 = .ok (.aload_n 0, 1) := by decide +kernel
theorem dX12_fare_69 : decode cX12_fare 69 = .ok (.iload_n 1, 1) := by decide +kernel
theorem dX12_fare_70 : decode cX12_fare 70 = .ok (.bipush 10, 2) := by decide +kernel
theorem dX12_fare_72 : decode cX12_fare 72 = .ok (.invokevirtual 274, 3) := by decide +kernel
theorem dX12_fare_75 : decode cX12_fare 75 = .ok (.aload_n 0, 1) := by decide +kernel
theorem dX12_fare_76 : decode cX12_fare 76 = .ok (.aload_n 0, 1) := by decide +kernel
theorem dX12_fare_77 : decode cX12_fare 77 = .ok (.iload_n 1, 1) := by decide +kernel
theorem dX12_fare_78 : decode cX12_fare 78 = .ok (.bipush 7, 2) := by decide +kernel
theorem dX12_fare_80 : decode cX12_fare 80 = .ok (.invokevirtual 274, 3) := by decide +kernel
theorem dX12_fare_83 : decode cX12_fare 83 = .ok (.iload_n 1, 1) := by decide +kernel
theorem dX12_fare_84 : decode cX12_fare 84 = .ok (.invokevirtual 393, 3) := by decide +kernel
theorem dX12_fare_87 : decode cX12_fare 87 = .ok (.iadd, 1) := by decide +kernel
theorem dX12_fare_88 : decode cX12_fare 88 = .ok (.ireturn, 1) := by decide +kernel
theorem dX12_aloneFare_0 : decode cX12_aloneFare 0 = .ok (.aload_n 0, 1) := by decide +kernel
theorem dX12_aloneFare_1 : decode cX12_aloneFare 1 = .ok (.iconst 0, 1) := by decide +kernel
theorem dX12_aloneFare_2 : decode cX12_aloneFare 2 = .ok (.putfield 93, 3) := by decide +kernel
theorem dX12_aloneFare_5 : decode cX12_aloneFare 5 = .ok (.aload_n 0, 1) := by decide +kernel
theorem dX12_aloneFare_6 : decode cX12_aloneFare 6 = .ok (.iload_n 1, 1) := by decide +kernel
theorem dX12_aloneFare_7 : decode cX12_aloneFare 7 = .ok (.invokevirtual 372, 3) := by decide +kernel
theorem dX12_aloneFare_10 : decode cX12_aloneFare 10 = .ok (.ifCond .ne 11, 3) := by decide +kernel
theorem dX12_aloneFare_13 : decode cX12_aloneFare 13 = .ok (.aload_n 0, 1) := by decide +kernel
theorem dX12_aloneFare_14 : decode cX12_aloneFare 14 = .ok (.iload_n 2, 1) := by decide +kernel
theorem dX12_aloneFare_15 : decode cX12_aloneFare 15 = .ok (.invokevirtual 372, 3) := by decide +kernel
theorem dX12_aloneFare_18 : decode cX12_aloneFare 18 = .ok (.ifCond .eq 5, 3) := by decide +kernel
theorem dX12_aloneFare_21 : decode cX12_aloneFare 21 = .ok (.iconst 0, 1) := by decide +kernel
theorem dX12_aloneFare_22 : decode cX12_aloneFare 22 = .ok (.ireturn, 1) := by decide +kernel
theorem dX12_aloneFare_23 : decode cX12_aloneFare 23 = .ok (.aload_n 0, 1) := by decide +kernel
theorem dX12_aloneFare_24 : decode cX12_aloneFare 24 = .ok (.iload_n 1, 1) := by decide +kernel
theorem dX12_aloneFare_25 : decode cX12_aloneFare 25 = .ok (.iload_n 2, 1) := by decide +kernel
theorem dX12_aloneFare_26 : decode cX12_aloneFare 26 = .ok (.invokevirtual 277, 3) := by decide +kernel
theorem dX12_aloneFare_29 : decode cX12_aloneFare 29 = .ok (.iconst (-1), 1) := by decide +kernel
theorem dX12_aloneFare_30 : decode cX12_aloneFare 30 = .ok (.if_icmp .ne 7, 3) := by decide +kernel
theorem dX12_aloneFare_33 : decode cX12_aloneFare 33 = .ok (.iconst (-1), 1) := by decide +kernel
theorem dX12_aloneFare_34 : decode cX12_aloneFare 34 = .ok (.goto 21, 3) := by decide +kernel
theorem dX12_aloneFare_37 : decode cX12_aloneFare 37 = .ok (.aload_n 0, 1) := by decide +kernel
theorem dX12_aloneFare_38 : decode cX12_aloneFare 38 = .ok (.getfield 117, 3) := by decide +kernel
theorem dX12_aloneFare_41 : decode cX12_aloneFare 41 = .ok (.aload_n 0, 1) := by decide +kernel
theorem dX12_aloneFare_42 : decode cX12_aloneFare 42 = .ok (.iload_n 1, 1) := by decide +kernel
theorem dX12_aloneFare_43 : decode cX12_aloneFare 43 = .ok (.iload_n 2, 1) := by decide +kernel
theorem dX12_aloneFare_44 : decode cX12_aloneFare 44 = .ok (.invokevirtual 277, 3) := by decide +kernel
theorem dX12_aloneFare_47 : decode cX12_aloneFare 47 = .ok (.aload_n 0, 1) := by decide +kernel
theorem dX12_aloneFare_48 : decode cX12_aloneFare 48 = .ok (.getfield 7, 3) := by decide +kernel
theorem dX12_aloneFare_51 : decode cX12_aloneFare 51 = .ok (.iconst 2, 1) := by decide +kernel
theorem dX12_aloneFare_52 : decode cX12_aloneFare 52 = .ok (.iaload, 1) := by decide +kernel
theorem dX12_aloneFare_53 : decode cX12_aloneFare 53 = .ok (.imul, 1) := by decide +kernel
theorem dX12_aloneFare_54 : decode cX12_aloneFare 54 = .ok (.iadd, 1) := by decide +kernel
theorem dX12_aloneFare_55 : decode cX12_aloneFare 55 = .ok (.ireturn, 1) := by decide +kernel
theorem dX12_keeps_0 : decode cX12_keeps 0 = .ok (.aload_n 0, 1) := by decide +kernel
theorem dX12_keeps_1 : decode cX12_keeps 1 = .ok (.iconst 0, 1) := by decide +kernel
theorem dX12_keeps_2 : decode cX12_keeps 2 = .ok (.putfield 93, 3) := by decide +kernel
theorem dX12_keeps_5 : decode cX12_keeps 5 = .ok (.aload_n 0, 1) := by decide +kernel
theorem dX12_keeps_6 : decode cX12_keeps 6 = .ok (.iload_n 1, 1) := by decide +kernel
theorem dX12_keeps_7 : decode cX12_keeps 7 = .ok (.invokevirtual 375, 3) := by decide +kernel
theorem dX12_keeps_10 : decode cX12_keeps 10 = .ok (.ifCond .eq 5, 3) := by decide +kernel
theorem dX12_keeps_13 : decode cX12_keeps 13 = .ok (.iconst 0, 1) := by decide +kernel
theorem dX12_keeps_14 : decode cX12_keeps 14 = .ok (.ireturn, 1) := by decide +kernel
theorem dX12_keeps_15 : decode cX12_keeps 15 = .ok (.aload_n 0, 1) := by decide +kernel
theorem dX12_keeps_16 : decode cX12_keeps 16 = .ok (.iload_n 1, 1) := by decide +kernel
theorem dX12_keeps_17 : decode cX12_keeps 17 = .ok (.invokevirtual 301, 3) := by decide +kernel
theorem dX12_keeps_20 : decode cX12_keeps 20 = .ok (.aload_n 0, 1) := by decide +kernel
theorem dX12_keeps_21 : decode cX12_keeps 21 = .ok (.iload_n 1, 1) := by decide +kernel
theorem dX12_keeps_22 : decode cX12_keeps 22 = .ok (.invokevirtual 311, 3) := by decide +kernel
theorem dX12_keeps_25 : decode cX12_keeps 25 = .ok (.ireturn, 1) := by decide +kernel
theorem dX12_routeMinutes_0 : decode cX12_routeMinutes 0 = .ok (.aload_n 0, 1) := by decide +kernel
theorem dX12_routeMinutes_1 : decode cX12_routeMinutes 1 = .ok (.iconst 0, 1) := by decide +kernel
theorem dX12_routeMinutes_2 : decode cX12_routeMinutes 2 = .ok (.putfield 93, 3) := by decide +kernel
theorem dX12_routeMinutes_5 : decode cX12_routeMinutes 5 = .ok (.aload_n 0, 1) := by decide +kernel
theorem dX12_routeMinutes_6 : decode cX12_routeMinutes 6 = .ok (.iload_n 1, 1) := by decide +kernel
theorem dX12_routeMinutes_7 : decode cX12_routeMinutes 7 = .ok (.invokevirtual 375, 3) := by decide +kernel
theorem dX12_routeMinutes_10 : decode cX12_routeMinutes 10 = .ok (.ifCond .eq 5, 3) := by decide +kernel
theorem dX12_routeMinutes_13 : decode cX12_routeMinutes 13 = .ok (.iconst 0, 1) := by decide +kernel
theorem dX12_routeMinutes_14 : decode cX12_routeMinutes 14 = .ok (.ireturn, 1) := by decide +kernel
theorem dX12_routeMinutes_15 : decode cX12_routeMinutes 15 = .ok (.aload_n 0, 1) := by decide +kernel
theorem dX12_routeMinutes_16 : decode cX12_routeMinutes 16 = .ok (.iload_n 1, 1) := by decide +kernel
theorem dX12_routeMinutes_17 : decode cX12_routeMinutes 17 = .ok (.invokevirtual 301, 3) := by decide +kernel
theorem dX12_routeMinutes_20 : decode cX12_routeMinutes 20 = .ok (.aload_n 0, 1) := by decide +kernel
theorem dX12_routeMinutes_21 : decode cX12_routeMinutes 21 = .ok (.iload_n 1, 1) := by decide +kernel
theorem dX12_routeMinutes_22 : decode cX12_routeMinutes 22 = .ok (.invokevirtual 304, 3) := by decide +kernel
theorem dX12_routeMinutes_25 : decode cX12_routeMinutes 25 = .ok (.ireturn, 1) := by decide +kernel
theorem dX12_rides_0 : decode cX12_rides 0 = .ok (.aload_n 0, 1) := by decide +kernel
theorem dX12_rides_1 : decode cX12_rides 1 = .ok (.iconst 0, 1) := by decide +kernel
theorem dX12_rides_2 : decode cX12_rides 2 = .ok (.putfield 93, 3) := by decide +kernel
theorem dX12_rides_5 : decode cX12_rides 5 = .ok (.aload_n 0, 1) := by decide +kernel
theorem dX12_rides_6 : decode cX12_rides 6 = .ok (.iload_n 1, 1) := by decide +kernel
theorem dX12_rides_7 : decode cX12_rides 7 = .ok (.i2l, 1) := by decide +kernel
theorem dX12_rides_8 : decode cX12_rides 8 = .ok (.lconst 0, 1) := by decide +kernel
theorem dX12_rides_9 : decode cX12_rides 9 = .ok (.ldc2_w 396, 3) := by decide +kernel
theorem dX12_rides_12 : decode cX12_rides 12 = .ok (.invokestatic 197, 3) := by decide +kernel
theorem dX12_rides_15 : decode cX12_rides 15 = .ok (.iconst 1, 1) := by decide +kernel
theorem dX12_rides_16 : decode cX12_rides 16 = .ok (.invokevirtual 256, 3) := by decide +kernel
theorem dX12_rides_19 : decode cX12_rides 19 = .ok (.ifCond .eq 7, 3) := by decide +kernel
theorem dX12_rides_22 : decode cX12_rides 22 = .ok (.iconst 0, 1) := by decide +kernel
theorem dX12_rides_23 : decode cX12_rides 23 = .ok (.goto 8, 3) := by decide +kernel
theorem dX12_rides_26 : decode cX12_rides 26 = .ok (.aload_n 0, 1) := by decide +kernel
theorem dX12_rides_27 : decode cX12_rides 27 = .ok (.iload_n 1, 1) := by decide +kernel
theorem dX12_rides_28 : decode cX12_rides 28 = .ok (.invokevirtual 364, 3) := by decide +kernel
theorem dX12_rides_31 : decode cX12_rides 31 = .ok (.ireturn, 1) := by decide +kernel
theorem dX12_meanFare_0 : decode cX12_meanFare 0 = .ok (.aload_n 0, 1) := by decide +kernel
theorem dX12_meanFare_1 : decode cX12_meanFare 1 = .ok (.iconst 0, 1) := by decide +kernel
theorem dX12_meanFare_2 : decode cX12_meanFare 2 = .ok (.putfield 93, 3) := by decide +kernel
theorem dX12_meanFare_5 : decode cX12_meanFare 5 = .ok (.iconst 0, 1) := by decide +kernel
theorem dX12_meanFare_6 : decode cX12_meanFare 6 = .ok (.istore_n 1, 1) := by decide +kernel
theorem dX12_meanFare_7 : decode cX12_meanFare 7 = .ok (.iconst 0, 1) := by decide +kernel
theorem dX12_meanFare_8 : decode cX12_meanFare 8 = .ok (.istore_n 2, 1) := by decide +kernel
theorem dX12_meanFare_9 : decode cX12_meanFare 9 = .ok (.iconst 0, 1) := by decide +kernel
theorem dX12_meanFare_10 : decode cX12_meanFare 10 = .ok (.istore_n 3, 1) := by decide +kernel
theorem dX12_meanFare_11 : decode cX12_meanFare 11 = .ok (.iload_n 3, 1) := by decide +kernel
theorem dX12_meanFare_12 : decode cX12_meanFare 12 = .ok (.aload_n 0, 1) := by decide +kernel
theorem dX12_meanFare_13 : decode cX12_meanFare 13 = .ok (.getfield 7, 3) := by decide +kernel
theorem dX12_meanFare_16 : decode cX12_meanFare 16 = .ok (.iconst 1, 1) := by decide +kernel
theorem dX12_meanFare_17 : decode cX12_meanFare 17 = .ok (.iaload, 1) := by decide +kernel
theorem dX12_meanFare_18 : decode cX12_meanFare 18 = .ok (.if_icmp .ge 35, 3) := by decide +kernel
theorem dX12_meanFare_21 : decode cX12_meanFare 21 = .ok (.aload_n 0, 1) := by decide +kernel
theorem dX12_meanFare_22 : decode cX12_meanFare 22 = .ok (.iload_n 3, 1) := by decide +kernel
theorem dX12_meanFare_23 : decode cX12_meanFare 23 = .ok (.iconst 0, 1) := by decide +kernel
theorem dX12_meanFare_24 : decode cX12_meanFare 24 = .ok (.invokevirtual 274, 3) := by decide +kernel
theorem dX12_meanFare_27 : decode cX12_meanFare 27 = .ok (.iconst 3, 1) := by decide +kernel
theorem dX12_meanFare_28 : decode cX12_meanFare 28 = .ok (.if_icmp .eq 6, 3) := by decide +kernel
theorem dX12_meanFare_31 : decode cX12_meanFare 31 = .ok (.goto 16, 3) := by decide +kernel
theorem dX12_meanFare_34 : decode cX12_meanFare 34 = .ok (.iload_n 1, 1) := by decide +kernel
theorem dX12_meanFare_35 : decode cX12_meanFare 35 = .ok (.aload_n 0, 1) := by decide +kernel
theorem dX12_meanFare_36 : decode cX12_meanFare 36 = .ok (.iload_n 3, 1) := by decide +kernel
theorem dX12_meanFare_37 : decode cX12_meanFare 37 = .ok (.bipush 10, 2) := by decide +kernel
theorem dX12_meanFare_39 : decode cX12_meanFare 39 = .ok (.invokevirtual 274, 3) := by decide +kernel
theorem dX12_meanFare_42 : decode cX12_meanFare 42 = .ok (.iadd, 1) := by decide +kernel
theorem dX12_meanFare_43 : decode cX12_meanFare 43 = .ok (.istore_n 1, 1) := by decide +kernel
theorem dX12_meanFare_44 : decode cX12_meanFare 44 = .ok (.iinc 2 1, 3) := by decide +kernel
theorem dX12_meanFare_47 : decode cX12_meanFare 47 = .ok (.iinc 3 1, 3) := by decide +kernel
theorem dX12_meanFare_50 : decode cX12_meanFare 50 = .ok (.goto (-39), 3) := by decide +kernel
theorem dX12_meanFare_53 : decode cX12_meanFare 53 = .ok (.iload_n 2, 1) := by decide +kernel
theorem dX12_meanFare_54 : decode cX12_meanFare 54 = .ok (.ifCond .ne 7, 3) := by decide +kernel
theorem dX12_meanFare_57 : decode cX12_meanFare 57 = .ok (.dconst 0, 1) := by decide +kernel
theorem dX12_meanFare_58 : decode cX12_meanFare 58 = .ok (.goto 8, 3) := by decide +kernel
theorem dX12_meanFare_61 : decode cX12_meanFare 61 = .ok (.iload_n 1, 1) := by decide +kernel
theorem dX12_meanFare_62 : decode cX12_meanFare 62 = .ok (.i2d, 1) := by decide +kernel
theorem dX12_meanFare_63 : decode cX12_meanFare 63 = .ok (.iload_n 2, 1) := by decide +kernel
theorem dX12_meanFare_64 : decode cX12_meanFare 64 = .ok (.i2d, 1) := by decide +kernel
theorem dX12_meanFare_65 : decode cX12_meanFare 65 = .ok (.ddiv, 1) := by decide +kernel
theorem dX12_meanFare_66 : decode cX12_meanFare 66 = .ok (.dreturn, 1) := by decide +kernel
theorem dX12_sharedPart_0 : decode cX12_sharedPart 0 = .ok (.aload_n 0, 1) := by decide +kernel
theorem dX12_sharedPart_1 : decode cX12_sharedPart 1 = .ok (.iconst 0, 1) := by decide +kernel
theorem dX12_sharedPart_2 : decode cX12_sharedPart 2 = .ok (.putfield 93, 3) := by decide +kernel
theorem dX12_sharedPart_5 : decode cX12_sharedPart 5 = .ok (.aload_n 0, 1) := by decide +kernel
theorem dX12_sharedPart_6 : decode cX12_sharedPart 6 = .ok (.bipush 8, 2) := by decide +kernel
theorem dX12_sharedPart_8 : decode cX12_sharedPart 8 = .ok (.invokevirtual 367, 3) := by decide +kernel
theorem dX12_sharedPart_11 : decode cX12_sharedPart 11 = .ok (.ifCond .ne 7, 3) := by decide +kernel
theorem dX12_sharedPart_14 : decode cX12_sharedPart 14 = .ok (.fconst 0, 1) := by decide +kernel
theorem dX12_sharedPart_15 : decode cX12_sharedPart 15 = .ok (.goto 18, 3) := by decide +kernel
theorem dX12_sharedPart_18 : decode cX12_sharedPart 18 = .ok (.aload_n 0, 1) := by decide +kernel
theorem dX12_sharedPart_19 : decode cX12_sharedPart 19 = .ok (.bipush 9, 2) := by decide +kernel
theorem dX12_sharedPart_21 : decode cX12_sharedPart 21 = .ok (.invokevirtual 367, 3) := by decide +kernel
theorem dX12_sharedPart_24 : decode cX12_sharedPart 24 = .ok (.i2f, 1) := by decide +kernel
theorem dX12_sharedPart_25 : decode cX12_sharedPart 25 = .ok (.aload_n 0, 1) := by decide +kernel
theorem dX12_sharedPart_26 : decode cX12_sharedPart 26 = .ok (.bipush 8, 2) := by decide +kernel
theorem dX12_sharedPart_28 : decode cX12_sharedPart 28 = .ok (.invokevirtual 367, 3) := by decide +kernel
theorem dX12_sharedPart_31 : decode cX12_sharedPart 31 = .ok (.i2f, 1) := by decide +kernel
theorem dX12_sharedPart_32 : decode cX12_sharedPart 32 = .ok (.fdiv, 1) := by decide +kernel
theorem dX12_sharedPart_33 : decode cX12_sharedPart 33 = .ok (.freturn, 1) := by decide +kernel
theorem dX12_records_0 : decode cX12_records 0 = .ok (.aload_n 0, 1) := by decide +kernel
theorem dX12_records_1 : decode cX12_records 1 = .ok (.getfield 123, 3) := by decide +kernel
theorem dX12_records_4 : decode cX12_records 4 = .ok (.bipush 10, 2) := by decide +kernel
theorem dX12_records_6 : decode cX12_records 6 = .ok (.if_icmp .ne 46, 3) := by decide +kernel
theorem dX12_records_9 : decode cX12_records 9 = .ok (.sipush 581, 3) := by decide +kernel
theorem dX12_records_12 : decode cX12_records 12 = .ok (.istore_n 1, 1) := by decide +kernel
theorem dX12_records_13 : decode cX12_records 13 = .ok (.iload_n 1, 1) := by decide +kernel
theorem dX12_records_14 : decode cX12_records 14 = .ok (.sipush 5810, 3) := by decide +kernel
theorem dX12_records_17 : decode cX12_records 17 = .ok (.if_icmp .ge 25, 3) := by decide +kernel
theorem dX12_records_20 : decode cX12_records 20 = .ok (.aload_n 0, 1) := by decide +kernel
theorem dX12_records_21 : decode cX12_records 21 = .ok (.getfield 19, 3) := by decide +kernel
theorem dX12_records_24 : decode cX12_records 24 = .ok (.iload_n 1, 1) := by decide +kernel
theorem dX12_records_25 : decode cX12_records 25 = .ok (.sipush 581, 3) := by decide +kernel
theorem dX12_records_28 : decode cX12_records 28 = .ok (.isub, 1) := by decide +kernel
theorem dX12_records_29 : decode cX12_records 29 = .ok (.aload_n 0, 1) := by decide +kernel
theorem dX12_records_30 : decode cX12_records 30 = .ok (.getfield 19, 3) := by decide +kernel
theorem dX12_records_33 : decode cX12_records 33 = .ok (.iload_n 1, 1) := by decide +kernel
theorem dX12_records_34 : decode cX12_records 34 = .ok (.iaload, 1) := by decide +kernel
theorem dX12_records_35 : decode cX12_records 35 = .ok (.iastore, 1) := by decide +kernel
theorem dX12_records_36 : decode cX12_records 36 = .ok (.iinc 1 1, 3) := by decide +kernel
theorem dX12_records_39 : decode cX12_records 39 = .ok (.goto (-26), 3) := by decide +kernel
theorem dX12_records_42 : decode cX12_records 42 = .ok (.aload_n 0, 1) := by decide +kernel
theorem dX12_records_43 : decode cX12_records 43 = .ok (.dup, 1) := by decide +kernel
theorem dX12_records_44 : decode cX12_records 44 = .ok (.getfield 123, 3) := by decide +kernel
theorem dX12_records_47 : decode cX12_records 47 = .ok (.iconst 1, 1) := by decide +kernel
theorem dX12_records_48 : decode cX12_records 48 = .ok (.isub, 1) := by decide +kernel
theorem dX12_records_49 : decode cX12_records 49 = .ok (.putfield 123, 3) := by decide +kernel
theorem dX12_records_52 : decode cX12_records 52 = .ok (.iconst 0, 1) := by decide +kernel
theorem dX12_records_53 : decode cX12_records 53 = .ok (.istore_n 1, 1) := by decide +kernel
theorem dX12_records_54 : decode cX12_records 54 = .ok (.iload_n 1, 1) := by decide +kernel
theorem dX12_records_55 : decode cX12_records 55 = .ok (.sipush 581, 3) := by decide +kernel
theorem dX12_records_58 : decode cX12_records 58 = .ok (.if_icmp .ge 30, 3) := by decide +kernel
theorem dX12_records_61 : decode cX12_records 61 = .ok (.aload_n 0, 1) := by decide +kernel
theorem dX12_records_62 : decode cX12_records 62 = .ok (.getfield 19, 3) := by decide +kernel
theorem dX12_records_65 : decode cX12_records 65 = .ok (.sipush 581, 3) := by decide +kernel
theorem dX12_records_68 : decode cX12_records 68 = .ok (.aload_n 0, 1) := by decide +kernel
theorem dX12_records_69 : decode cX12_records 69 = .ok (.getfield 123, 3) := by decide +kernel
theorem dX12_records_72 : decode cX12_records 72 = .ok (.imul, 1) := by decide +kernel
theorem dX12_records_73 : decode cX12_records 73 = .ok (.iload_n 1, 1) := by decide +kernel
theorem dX12_records_74 : decode cX12_records 74 = .ok (.iadd, 1) := by decide +kernel
theorem dX12_records_75 : decode cX12_records 75 = .ok (.aload_n 0, 1) := by decide +kernel
theorem dX12_records_76 : decode cX12_records 76 = .ok (.getfield 7, 3) := by decide +kernel
theorem dX12_records_79 : decode cX12_records 79 = .ok (.iload_n 1, 1) := by decide +kernel
theorem dX12_records_80 : decode cX12_records 80 = .ok (.iaload, 1) := by decide +kernel
theorem dX12_records_81 : decode cX12_records 81 = .ok (.iastore, 1) := by decide +kernel
theorem dX12_records_82 : decode cX12_records 82 = .ok (.iinc 1 1, 3) := by decide +kernel
theorem dX12_records_85 : decode cX12_records 85 = .ok (.goto (-31), 3) := by decide +kernel
theorem dX12_records_88 : decode cX12_records 88 = .ok (.aload_n 0, 1) := by decide +kernel
theorem dX12_records_89 : decode cX12_records 89 = .ok (.dup, 1) := by decide +kernel
theorem dX12_records_90 : decode cX12_records 90 = .ok (.getfield 123, 3) := by decide +kernel
theorem dX12_records_93 : decode cX12_records 93 = .ok (.iconst 1, 1) := by decide +kernel
theorem dX12_records_94 : decode cX12_records 94 = .ok (.iadd, 1) := by decide +kernel
theorem dX12_records_95 : decode cX12_records 95 = .ok (.putfield 123, 3) := by decide +kernel
theorem dX12_records_98 : decode cX12_records 98 = .ok (.return_, 1) := by decide +kernel
theorem dX12_offers_0 : decode cX12_offers 0 = .ok (.aload_n 0, 1) := by decide +kernel
theorem dX12_offers_1 : decode cX12_offers 1 = .ok (.iload_n 1, 1) := by decide +kernel
theorem dX12_offers_2 : decode cX12_offers 2 = .ok (.iconst 0, 1) := by decide +kernel
theorem dX12_offers_3 : decode cX12_offers 3 = .ok (.iconst 4, 1) := by decide +kernel
theorem dX12_offers_4 : decode cX12_offers 4 = .ok (.invokevirtual 346, 3) := by decide +kernel
theorem dX12_offers_7 : decode cX12_offers 7 = .ok (.iconst 0, 1) := by decide +kernel
theorem dX12_offers_8 : decode cX12_offers 8 = .ok (.istore_n 2, 1) := by decide +kernel
theorem dX12_offers_9 : decode cX12_offers 9 = .ok (.iload_n 2, 1) := by decide +kernel
theorem dX12_offers_10 : decode cX12_offers 10 = .ok (.aload_n 0, 1) := by decide +kernel
theorem dX12_offers_11 : decode cX12_offers 11 = .ok (.getfield 114, 3) := by decide +kernel
theorem dX12_offers_14 : decode cX12_offers 14 = .ok (.if_icmp .ge 143, 3) := by decide +kernel
theorem dX12_offers_17 : decode cX12_offers 17 = .ok (.aload_n 0, 1) := by decide +kernel
theorem dX12_offers_18 : decode cX12_offers 18 = .ok (.iload_n 1, 1) := by decide +kernel
theorem dX12_offers_19 : decode cX12_offers 19 = .ok (.iconst 0, 1) := by decide +kernel
theorem dX12_offers_20 : decode cX12_offers 20 = .ok (.invokevirtual 274, 3) := by decide +kernel
theorem dX12_offers_23 : decode cX12_offers 23 = .ok (.iconst 4, 1) := by decide +kernel
theorem dX12_offers_24 : decode cX12_offers 24 = .ok (.if_icmp .ne 7, 3) := by decide +kernel
theorem dX12_offers_27 : decode cX12_offers 27 = .ok (.iconst 1, 1) := by decide +kernel
theorem dX12_offers_28 : decode cX12_offers 28 = .ok (.goto 4, 3) := by decide +kernel
theorem dX12_offers_31 : decode cX12_offers 31 = .ok (.iconst 0, 1) := by decide +kernel
theorem dX12_offers_32 : decode cX12_offers 32 = .ok (.istore_n 3, 1) := by decide +kernel
theorem dX12_offers_33 : decode cX12_offers 33 = .ok (.aload_n 0, 1) := by decide +kernel
theorem dX12_offers_34 : decode cX12_offers 34 = .ok (.iload_n 1, 1) := by decide +kernel
theorem dX12_offers_35 : decode cX12_offers 35 = .ok (.invokevirtual 280, 3) := by decide +kernel
theorem dX12_offers_38 : decode cX12_offers 38 = .ok (.iconst (-1), 1) := by decide +kernel
theorem dX12_offers_39 : decode cX12_offers 39 = .ok (.if_icmp .eq 112, 3) := by decide +kernel
theorem dX12_offers_42 : decode cX12_offers 42 = .ok (.aload_n 0, 1) := by decide +kernel
theorem dX12_offers_43 : decode cX12_offers 43 = .ok (.iload_n 2, 1) := by decide +kernel
theorem dX12_offers_44 : decode cX12_offers 44 = .ok (.iload_n 1, 1) := by decide +kernel
theorem dX12_offers_45 : decode cX12_offers 45 = .ok (.invokevirtual 387, 3) := by decide +kernel
theorem dX12_offers_48 : decode cX12_offers 48 = .ok (.ifCond .ne 6, 3) := by decide +kernel
theorem dX12_offers_51 : decode cX12_offers 51 = .ok (.goto 100, 3) := by decide +kernel
theorem dX12_offers_54 : decode cX12_offers 54 = .ok (.iload_n 3, 1) := by decide +kernel
theorem dX12_offers_55 : decode cX12_offers 55 = .ok (.ifCond .ne 48, 3) := by decide +kernel
theorem dX12_offers_58 : decode cX12_offers 58 = .ok (.aload_n 0, 1) := by decide +kernel
theorem dX12_offers_59 : decode cX12_offers 59 = .ok (.getfield 298, 3) := by decide +kernel
theorem dX12_offers_62 : decode cX12_offers 62 = .ok (.aload_n 0, 1) := by decide +kernel
theorem dX12_offers_63 : decode cX12_offers 63 = .ok (.iload_n 1, 1) := by decide +kernel
theorem dX12_offers_64 : decode cX12_offers 64 = .ok (.bipush 13, 2) := by decide +kernel
theorem dX12_offers_66 : decode cX12_offers 66 = .ok (.invokevirtual 274, 3) := by decide +kernel
theorem dX12_offers_69 : decode cX12_offers 69 = .ok (.if_icmp .gt 82, 3) := by decide +kernel
theorem dX12_offers_72 : decode cX12_offers 72 = .ok (.aload_n 0, 1) := by decide +kernel
theorem dX12_offers_73 : decode cX12_offers 73 = .ok (.getfield 298, 3) := by decide +kernel
theorem dX12_offers_76 : decode cX12_offers 76 = .ok (.aload_n 0, 1) := by decide +kernel
theorem dX12_offers_77 : decode cX12_offers 77 = .ok (.iload_n 1, 1) := by decide +kernel
theorem dX12_offers_78 : decode cX12_offers 78 = .ok (.bipush 13, 2) := by decide +kernel
theorem dX12_offers_80 : decode cX12_offers 80 = .ok (.invokevirtual 274, 3) := by decide +kernel
theorem dX12_offers_83 : decode cX12_offers 83 = .ok (.if_icmp .ne 20, 3) := by decide +kernel
theorem dX12_offers_86 : decode cX12_offers 86 = .ok (.aload_n 0, 1) := by decide +kernel
theorem dX12_offers_87 : decode cX12_offers 87 = .ok (.getfield 314, 3) := by decide +kernel
theorem dX12_offers_90 : decode cX12_offers 90 = .ok (.aload_n 0, 1) := by decide +kernel
theorem dX12_offers_91 : decode cX12_offers 91 = .ok (.iload_n 1, 1) := by decide +kernel
theorem dX12_offers_92 : decode cX12_offers 92 = .ok (.bipush 14, 2) := by decide +kernel
theorem dX12_offers_94 : decode cX12_offers 94 = .ok (.invokevirtual 274, 3) := by decide +kernel
theorem dX12_offers_97 : decode cX12_offers 97 = .ok (.if_icmp .lt 6, 3) := by decide +kernel
theorem dX12_offers_100 : decode cX12_offers 100 = .ok (.goto 51, 3) := by decide +kernel
theorem dX12_offers_103 : decode cX12_offers 103 = .ok (.aload_n 0, 1) := by decide +kernel
theorem dX12_offers_104 : decode cX12_offers 104 = .ok (.iload_n 1, 1) := by decide +kernel
theorem dX12_offers_105 : decode cX12_offers 105 = .ok (.iconst 0, 1) := by decide +kernel
theorem dX12_offers_106 : decode cX12_offers 106 = .ok (.iconst 0, 1) := by decide +kernel
theorem dX12_offers_107 : decode cX12_offers 107 = .ok (.invokevirtual 346, 3) := by decide +kernel
theorem dX12_offers_110 : decode cX12_offers 110 = .ok (.aload_n 0, 1) := by decide +kernel
theorem dX12_offers_111 : decode cX12_offers 111 = .ok (.iload_n 1, 1) := by decide +kernel
theorem dX12_offers_112 : decode cX12_offers 112 = .ok (.bipush 12, 2) := by decide +kernel
theorem dX12_offers_114 : decode cX12_offers 114 = .ok (.iload_n 2, 1) := by decide +kernel
theorem dX12_offers_115 : decode cX12_offers 115 = .ok (.invokevirtual 346, 3) := by decide +kernel
theorem dX12_offers_118 : decode cX12_offers 118 = .ok (.aload_n 0, 1) := by decide +kernel
theorem dX12_offers_119 : decode cX12_offers 119 = .ok (.iload_n 1, 1) := by decide +kernel
theorem dX12_offers_120 : decode cX12_offers 120 = .ok (.bipush 13, 2) := by decide +kernel
theorem dX12_offers_122 : decode cX12_offers 122 = .ok (.aload_n 0, 1) := by decide +kernel
theorem dX12_offers_123 : decode cX12_offers 123 = .ok (.getfield 298, 3) := by decide +kernel
theorem dX12_offers_126 : decode cX12_offers 126 = .ok (.invokevirtual 346, 3) := by decide +kernel
theorem dX12_offers_129 : decode cX12_offers 129 = .ok (.aload_n 0, 1) := by decide +kernel
theorem dX12_offers_130 : decode cX12_offers 130 = .ok (.iload_n 1, 1) := by decide +kernel
theorem dX12_offers_131 : decode cX12_offers 131 = .ok (.bipush 14, 2) := by decide +kernel
theorem dX12_offers_133 : decode cX12_offers 133 = .ok (.aload_n 0, 1) := by decide +kernel
theorem dX12_offers_134 : decode cX12_offers 134 = .ok (.getfield 314, 3) := by decide +kernel
theorem dX12_offers_137 : decode cX12_offers 137 = .ok (.invokevirtual 346, 3) := by decide +kernel
theorem dX12_offers_140 : decode cX12_offers 140 = .ok (.aload_n 0, 1) := by decide +kernel
theorem dX12_offers_141 : decode cX12_offers 141 = .ok (.iload_n 1, 1) := by decide +kernel
theorem dX12_offers_142 : decode cX12_offers 142 = .ok (.bipush 15, 2) := by decide +kernel
theorem dX12_offers_144 : decode cX12_offers 144 = .ok (.aload_n 0, 1) := by decide +kernel
theorem dX12_offers_145 : decode cX12_offers 145 = .ok (.getfield 317, 3) := by decide +kernel
theorem dX12_offers_148 : decode cX12_offers 148 = .ok (.invokevirtual 346, 3) := by decide +kernel
theorem dX12_offers_151 : decode cX12_offers 151 = .ok (.iinc 2 1, 3) := by decide +kernel
theorem dX12_offers_154 : decode cX12_offers 154 = .ok (.goto (-145), 3) := by decide +kernel
theorem dX12_offers_157 : decode cX12_offers 157 = .ok (.aload_n 0, 1) := by decide +kernel
theorem dX12_offers_158 : decode cX12_offers 158 = .ok (.iload_n 1, 1) := by decide +kernel
theorem dX12_offers_159 : decode cX12_offers 159 = .ok (.bipush 16, 2) := by decide +kernel
theorem dX12_offers_161 : decode cX12_offers 161 = .ok (.aload_n 0, 1) := by decide +kernel
theorem dX12_offers_162 : decode cX12_offers 162 = .ok (.getfield 7, 3) := by decide +kernel
theorem dX12_offers_165 : decode cX12_offers 165 = .ok (.iconst 0, 1) := by decide +kernel
theorem dX12_offers_166 : decode cX12_offers 166 = .ok (.iaload, 1) := by decide +kernel
theorem dX12_offers_167 : decode cX12_offers 167 = .ok (.aload_n 0, 1) := by decide +kernel
theorem dX12_offers_168 : decode cX12_offers 168 = .ok (.iconst 2, 1) := by decide +kernel
theorem dX12_offers_169 : decode cX12_offers 169 = .ok (.invokevirtual 292, 3) := by decide +kernel
theorem dX12_offers_172 : decode cX12_offers 172 = .ok (.iadd, 1) := by decide +kernel
theorem dX12_offers_173 : decode cX12_offers 173 = .ok (.invokevirtual 346, 3) := by decide +kernel
theorem dX12_offers_176 : decode cX12_offers 176 = .ok (.return_, 1) := by decide +kernel
theorem dX12_ask_0 : decode cX12_ask 0 = .ok (.aload_n 0, 1) := by decide +kernel
theorem dX12_ask_1 : decode cX12_ask 1 = .ok (.iconst 0, 1) := by decide +kernel
theorem dX12_ask_2 : decode cX12_ask 2 = .ok (.putfield 93, 3) := by decide +kernel
theorem dX12_ask_5 : decode cX12_ask 5 = .ok (.aload_n 0, 1) := by decide +kernel
theorem dX12_ask_6 : decode cX12_ask 6 = .ok (.iload_n 1, 1) := by decide +kernel
theorem dX12_ask_7 : decode cX12_ask 7 = .ok (.invokevirtual 372, 3) := by decide +kernel
theorem dX12_ask_10 : decode cX12_ask 10 = .ok (.ifCond .ne 11, 3) := by decide +kernel
theorem dX12_ask_13 : decode cX12_ask 13 = .ok (.aload_n 0, 1) := by decide +kernel
theorem dX12_ask_14 : decode cX12_ask 14 = .ok (.iload_n 2, 1) := by decide +kernel
theorem dX12_ask_15 : decode cX12_ask 15 = .ok (.invokevirtual 372, 3) := by decide +kernel
theorem dX12_ask_18 : decode cX12_ask 18 = .ok (.ifCond .eq 5, 3) := by decide +kernel
theorem dX12_ask_21 : decode cX12_ask 21 = .ok (.iconst 0, 1) := by decide +kernel
theorem dX12_ask_22 : decode cX12_ask 22 = .ok (.ireturn, 1) := by decide +kernel
theorem dX12_ask_23 : decode cX12_ask 23 = .ok (.aload_n 0, 1) := by decide +kernel
theorem dX12_ask_24 : decode cX12_ask 24 = .ok (.iload_n 3, 1) := by decide +kernel
theorem dX12_ask_25 : decode cX12_ask 25 = .ok (.i2l, 1) := by decide +kernel
theorem dX12_ask_26 : decode cX12_ask 26 = .ok (.lconst 1, 1) := by decide +kernel
theorem dX12_ask_27 : decode cX12_ask 27 = .ok (.ldc2_w 396, 3) := by decide +kernel
theorem dX12_ask_30 : decode cX12_ask 30 = .ok (.invokestatic 197, 3) := by decide +kernel
theorem dX12_ask_33 : decode cX12_ask 33 = .ok (.ifCond .eq 38, 3) := by decide +kernel
theorem dX12_ask_36 : decode cX12_ask 36 = .ok (.iload 4, 2) := by decide +kernel
theorem dX12_ask_38 : decode cX12_ask 38 = .ok (.i2l, 1) := by decide +kernel
theorem dX12_ask_39 : decode cX12_ask 39 = .ok (.lconst 0, 1) := by decide +kernel
theorem dX12_ask_40 : decode cX12_ask 40 = .ok (.ldc2_w 398, 3) := by decide +kernel
theorem dX12_ask_43 : decode cX12_ask 43 = .ok (.invokestatic 197, 3) := by decide +kernel
theorem dX12_ask_46 : decode cX12_ask 46 = .ok (.ifCond .eq 25, 3) := by decide +kernel
theorem dX12_ask_49 : decode cX12_ask 49 = .ok (.iload 5, 2) := by decide +kernel
theorem dX12_ask_51 : decode cX12_ask 51 = .ok (.i2l, 1) := by decide +kernel
theorem dX12_ask_52 : decode cX12_ask 52 = .ok (.lconst 0, 1) := by decide +kernel
theorem dX12_ask_53 : decode cX12_ask 53 = .ok (.ldc2_w 400, 3) := by decide +kernel
theorem dX12_ask_56 : decode cX12_ask 56 = .ok (.invokestatic 197, 3) := by decide +kernel
theorem dX12_ask_59 : decode cX12_ask 59 = .ok (.ifCond .eq 12, 3) := by decide +kernel
theorem dX12_ask_62 : decode cX12_ask 62 = .ok (.iload_n 1, 1) := by decide +kernel
theorem dX12_ask_63 : decode cX12_ask 63 = .ok (.iload_n 2, 1) := by decide +kernel
theorem dX12_ask_64 : decode cX12_ask 64 = .ok (.if_icmp .eq 7, 3) := by decide +kernel
theorem dX12_ask_67 : decode cX12_ask 67 = .ok (.iconst 1, 1) := by decide +kernel
theorem dX12_ask_68 : decode cX12_ask 68 = .ok (.goto 4, 3) := by decide +kernel
theorem dX12_ask_71 : decode cX12_ask 71 = .ok (.iconst 0, 1) := by decide +kernel
theorem dX12_ask_72 : decode cX12_ask 72 = .ok (.iconst 2, 1) := by decide +kernel
theorem dX12_ask_73 : decode cX12_ask 73 = .ok (.invokevirtual 256, 3) := by decide +kernel
theorem dX12_ask_76 : decode cX12_ask 76 = .ok (.ifCond .eq 5, 3) := by decide +kernel
theorem dX12_ask_79 : decode cX12_ask 79 = .ok (.iconst 0, 1) := by decide +kernel
theorem dX12_ask_80 : decode cX12_ask 80 = .ok (.ireturn, 1) := by decide +kernel
theorem dX12_ask_81 : decode cX12_ask 81 = .ok (.aload_n 0, 1) := by decide +kernel
theorem dX12_ask_82 : decode cX12_ask 82 = .ok (.getfield 7, 3) := by decide +kernel
theorem dX12_ask_85 : decode cX12_ask 85 = .ok (.iconst 1, 1) := by decide +kernel
theorem dX12_ask_86 : decode cX12_ask 86 = .ok (.iaload, 1) := by decide +kernel
theorem dX12_ask_87 : decode cX12_ask 87 = .ok (.bipush 24, 2) := by decide +kernel
theorem dX12_ask_89 : decode cX12_ask 89 = .ok (.if_icmp .ne 6, 3) := by decide +kernel
theorem dX12_ask_92 : decode cX12_ask 92 = .ok (.bipush (-2), 2) := by decide +kernel
theorem dX12_ask_94 : decode cX12_ask 94 = .ok (.ireturn, 1) := by decide +kernel
theorem dX12_ask_95 : decode cX12_ask 95 = .ok (.aload_n 0, 1) := by decide +kernel
theorem dX12_ask_96 : decode cX12_ask 96 = .ok (.invokevirtual 402, 3) := by decide +kernel
theorem dX12_ask_99 : decode cX12_ask 99 = .ok (.aload_n 0, 1) := by decide +kernel
theorem dX12_ask_100 : decode cX12_ask 100 = .ok (.getfield 7, 3) := by decide +kernel
theorem dX12_ask_103 : decode cX12_ask 103 = .ok (.iconst 1, 1) := by decide +kernel
theorem dX12_ask_104 : decode cX12_ask 104 = .ok (.iaload, 1) := by decide +kernel
theorem dX12_ask_105 : decode cX12_ask 105 = .ok (.istore 6, 2) := by decide +kernel
theorem dX12_ask_107 : decode cX12_ask 107 = .ok (.iconst 0, 1) := by decide +kernel
theorem dX12_ask_108 : decode cX12_ask 108 = .ok (.istore 7, 2) := by decide +kernel
theorem dX12_ask_110 : decode cX12_ask 110 = .ok (.iload 7, 2) := by decide +kernel
theorem dX12_ask_112 : decode cX12_ask 112 = .ok (.bipush 17, 2) := by decide +kernel
theorem dX12_ask_114 : decode cX12_ask 114 = .ok (.if_icmp .ge 18, 3) := by decide +kernel
theorem dX12_ask_117 : decode cX12_ask 117 = .ok (.aload_n 0, 1) := by decide +kernel
theorem dX12_ask_118 : decode cX12_ask 118 = .ok (.iload 6, 2) := by decide +kernel
theorem dX12_ask_120 : decode cX12_ask 120 = .ok (.iload 7, 2) := by decide +kernel
theorem dX12_ask_122 : decode cX12_ask 122 = .ok (.iconst 0, 1) := by decide +kernel
theorem dX12_ask_123 : decode cX12_ask 123 = .ok (.invokevirtual 346, 3) := by decide +kernel
theorem dX12_ask_126 : decode cX12_ask 126 = .ok (.iinc 7 1, 3) := by decide +kernel
theorem dX12_ask_129 : decode cX12_ask 129 = .ok (.goto (-19), 3) := by decide +kernel
theorem dX12_ask_132 : decode cX12_ask 132 = .ok (.aload_n 0, 1) := by decide +kernel
theorem dX12_ask_133 : decode cX12_ask 133 = .ok (.iload 6, 2) := by decide +kernel
theorem dX12_ask_135 : decode cX12_ask 135 = .ok (.iconst 1, 1) := by decide +kernel
theorem dX12_ask_136 : decode cX12_ask 136 = .ok (.iload_n 1, 1) := by decide +kernel
theorem dX12_ask_137 : decode cX12_ask 137 = .ok (.invokevirtual 346, 3) := by decide +kernel
theorem dX12_ask_140 : decode cX12_ask 140 = .ok (.aload_n 0, 1) := by decide +kernel
theorem dX12_ask_141 : decode cX12_ask 141 = .ok (.iload 6, 2) := by decide +kernel
theorem dX12_ask_143 : decode cX12_ask 143 = .ok (.iconst 2, 1) := by decide +kernel
theorem dX12_ask_144 : decode cX12_ask 144 = .ok (.iload_n 2, 1) := by decide +kernel
theorem dX12_ask_145 : decode cX12_ask 145 = .ok (.invokevirtual 346, 3) := by decide +kernel
theorem dX12_ask_148 : decode cX12_ask 148 = .ok (.aload_n 0, 1) := by decide +kernel
theorem dX12_ask_149 : decode cX12_ask 149 = .ok (.iload 6, 2) := by decide +kernel
theorem dX12_ask_151 : decode cX12_ask 151 = .ok (.iconst 3, 1) := by decide +kernel
theorem dX12_ask_152 : decode cX12_ask 152 = .ok (.iload_n 3, 1) := by decide +kernel
theorem dX12_ask_153 : decode cX12_ask 153 = .ok (.invokevirtual 346, 3) := by decide +kernel
theorem dX12_ask_156 : decode cX12_ask 156 = .ok (.aload_n 0, 1) := by decide +kernel
theorem dX12_ask_157 : decode cX12_ask 157 = .ok (.iload 6, 2) := by decide +kernel
theorem dX12_ask_159 : decode cX12_ask 159 = .ok (.iconst 4, 1) := by decide +kernel
theorem dX12_ask_160 : decode cX12_ask 160 = .ok (.aload_n 0, 1) := by decide +kernel
theorem dX12_ask_161 : decode cX12_ask 161 = .ok (.getfield 7, 3) := by decide +kernel
theorem dX12_ask_164 : decode cX12_ask 164 = .ok (.iconst 0, 1) := by decide +kernel
theorem dX12_ask_165 : decode cX12_ask 165 = .ok (.iaload, 1) := by decide +kernel
theorem dX12_ask_166 : decode cX12_ask 166 = .ok (.iload 4, 2) := by decide +kernel
theorem dX12_ask_168 : decode cX12_ask 168 = .ok (.iadd, 1) := by decide +kernel
theorem dX12_ask_169 : decode cX12_ask 169 = .ok (.invokevirtual 346, 3) := by decide +kernel
theorem dX12_ask_172 : decode cX12_ask 172 = .ok (.aload_n 0, 1) := by decide +kernel
theorem dX12_ask_173 : decode cX12_ask 173 = .ok (.iload 6, 2) := by decide +kernel
theorem dX12_ask_175 : decode cX12_ask 175 = .ok (.iconst 5, 1) := by decide +kernel
theorem dX12_ask_176 : decode cX12_ask 176 = .ok (.aload_n 0, 1) := by decide +kernel
theorem dX12_ask_177 : decode cX12_ask 177 = .ok (.getfield 7, 3) := by decide +kernel
theorem dX12_ask_180 : decode cX12_ask 180 = .ok (.iconst 0, 1) := by decide +kernel
theorem dX12_ask_181 : decode cX12_ask 181 = .ok (.iaload, 1) := by decide +kernel
theorem dX12_ask_182 : decode cX12_ask 182 = .ok (.iload 4, 2) := by decide +kernel
theorem dX12_ask_184 : decode cX12_ask 184 = .ok (.iadd, 1) := by decide +kernel
theorem dX12_ask_185 : decode cX12_ask 185 = .ok (.aload_n 0, 1) := by decide +kernel
theorem dX12_ask_186 : decode cX12_ask 186 = .ok (.iconst 0, 1) := by decide +kernel
theorem dX12_ask_187 : decode cX12_ask 187 = .ok (.invokevirtual 292, 3) := by decide +kernel
theorem dX12_ask_190 : decode cX12_ask 190 = .ok (.iadd, 1) := by decide +kernel
theorem dX12_ask_191 : decode cX12_ask 191 = .ok (.invokevirtual 346, 3) := by decide +kernel
theorem dX12_ask_194 : decode cX12_ask 194 = .ok (.aload_n 0, 1) := by decide +kernel
theorem dX12_ask_195 : decode cX12_ask 195 = .ok (.iload 6, 2) := by decide +kernel
theorem dX12_ask_197 : decode cX12_ask 197 = .ok (.bipush 6, 2) := by decide +kernel
theorem dX12_ask_199 : decode cX12_ask 199 = .ok (.iload 5, 2) := by decide +kernel
theorem dX12_ask_201 : decode cX12_ask 201 = .ok (.invokevirtual 346, 3) := by decide +kernel
theorem dX12_ask_204 : decode cX12_ask 204 = .ok (.aload_n 0, 1) := by decide +kernel
theorem dX12_ask_205 : decode cX12_ask 205 = .ok (.iload 6, 2) := by decide +kernel
theorem dX12_ask_207 : decode cX12_ask 207 = .ok (.bipush 7, 2) := by decide +kernel
theorem dX12_ask_209 : decode cX12_ask 209 = .ok (.iconst (-1), 1) := by decide +kernel
theorem dX12_ask_210 : decode cX12_ask 210 = .ok (.invokevirtual 346, 3) := by decide +kernel
theorem dX12_ask_213 : decode cX12_ask 213 = .ok (.aload_n 0, 1) := by decide +kernel
theorem dX12_ask_214 : decode cX12_ask 214 = .ok (.iload 6, 2) := by decide +kernel
theorem dX12_ask_216 : decode cX12_ask 216 = .ok (.bipush 8, 2) := by decide +kernel
theorem dX12_ask_218 : decode cX12_ask 218 = .ok (.iconst (-1), 1) := by decide +kernel
theorem dX12_ask_219 : decode cX12_ask 219 = .ok (.invokevirtual 346, 3) := by decide +kernel
theorem dX12_ask_222 : decode cX12_ask 222 = .ok (.aload_n 0, 1) := by decide +kernel
theorem dX12_ask_223 : decode cX12_ask 223 = .ok (.iload 6, 2) := by decide +kernel
theorem dX12_ask_225 : decode cX12_ask 225 = .ok (.bipush 9, 2) := by decide +kernel
theorem dX12_ask_227 : decode cX12_ask 227 = .ok (.iconst (-1), 1) := by decide +kernel
theorem dX12_ask_228 : decode cX12_ask 228 = .ok (.invokevirtual 346, 3) := by decide +kernel
theorem dX12_ask_231 : decode cX12_ask 231 = .ok (.aload_n 0, 1) := by decide +kernel
theorem dX12_ask_232 : decode cX12_ask 232 = .ok (.getfield 7, 3) := by decide +kernel
theorem dX12_ask_235 : decode cX12_ask 235 = .ok (.iconst 1, 1) := by decide +kernel
theorem dX12_ask_236 : decode cX12_ask 236 = .ok (.dup2, 1) := by decide +kernel
theorem dX12_ask_237 : decode cX12_ask 237 = .ok (.iaload, 1) := by decide +kernel
theorem dX12_ask_238 : decode cX12_ask 238 = .ok (.iconst 1, 1) := by decide +kernel
theorem dX12_ask_239 : decode cX12_ask 239 = .ok (.iadd, 1) := by decide +kernel
theorem dX12_ask_240 : decode cX12_ask 240 = .ok (.iastore, 1) := by decide +kernel
theorem dX12_ask_241 : decode cX12_ask 241 = .ok (.aload_n 0, 1) := by decide +kernel
theorem dX12_ask_242 : decode cX12_ask 242 = .ok (.iload 6, 2) := by decide +kernel
theorem dX12_ask_244 : decode cX12_ask 244 = .ok (.invokevirtual 405, 3) := by decide +kernel
theorem dX12_ask_247 : decode cX12_ask 247 = .ok (.iload 6, 2) := by decide +kernel
theorem dX12_ask_249 : decode cX12_ask 249 = .ok (.ireturn, 1) := by decide +kernel
theorem dX12_accept_0 : decode cX12_accept 0 = .ok (.aload_n 0, 1) := by decide +kernel
theorem dX12_accept_1 : decode cX12_accept 1 = .ok (.iconst 0, 1) := by decide +kernel
theorem dX12_accept_2 : decode cX12_accept 2 = .ok (.putfield 93, 3) := by decide +kernel
theorem dX12_accept_5 : decode cX12_accept 5 = .ok (.aload_n 0, 1) := by decide +kernel
theorem dX12_accept_6 : decode cX12_accept 6 = .ok (.iload_n 1, 1) := by decide +kernel
theorem dX12_accept_7 : decode cX12_accept 7 = .ok (.invokevirtual 380, 3) := by decide +kernel
theorem dX12_accept_10 : decode cX12_accept 10 = .ok (.ifCond .eq 5, 3) := by decide +kernel
theorem dX12_accept_13 : decode cX12_accept 13 = .ok (.iconst 0, 1) := by decide +kernel
theorem dX12_accept_14 : decode cX12_accept 14 = .ok (.ireturn, 1) := by decide +kernel
theorem dX12_accept_15 : decode cX12_accept 15 = .ok (.aload_n 0, 1) := by decide +kernel
theorem dX12_accept_16 : decode cX12_accept 16 = .ok (.iload_n 1, 1) := by decide +kernel
theorem dX12_accept_17 : decode cX12_accept 17 = .ok (.iconst 0, 1) := by decide +kernel
theorem dX12_accept_18 : decode cX12_accept 18 = .ok (.invokevirtual 274, 3) := by decide +kernel
theorem dX12_accept_21 : decode cX12_accept 21 = .ok (.ifCond .eq 6, 3) := by decide +kernel
theorem dX12_accept_24 : decode cX12_accept 24 = .ok (.bipush (-2), 2) := by decide +kernel
theorem dX12_accept_26 : decode cX12_accept 26 = .ok (.ireturn, 1) := by decide +kernel
theorem dX12_accept_27 : decode cX12_accept 27 = .ok (.aload_n 0, 1) := by decide +kernel
theorem dX12_accept_28 : decode cX12_accept 28 = .ok (.iload_n 1, 1) := by decide +kernel
theorem dX12_accept_29 : decode cX12_accept 29 = .ok (.bipush 12, 2) := by decide +kernel
theorem dX12_accept_31 : decode cX12_accept 31 = .ok (.invokevirtual 274, 3) := by decide +kernel
theorem dX12_accept_34 : decode cX12_accept 34 = .ok (.istore_n 2, 1) := by decide +kernel
theorem dX12_accept_35 : decode cX12_accept 35 = .ok (.aload_n 0, 1) := by decide +kernel
theorem dX12_accept_36 : decode cX12_accept 36 = .ok (.iload_n 2, 1) := by decide +kernel
theorem dX12_accept_37 : decode cX12_accept 37 = .ok (.iload_n 1, 1) := by decide +kernel
theorem dX12_accept_38 : decode cX12_accept 38 = .ok (.invokevirtual 387, 3) := by decide +kernel
theorem dX12_accept_41 : decode cX12_accept 41 = .ok (.ifCond .ne 6, 3) := by decide +kernel
theorem dX12_accept_44 : decode cX12_accept 44 = .ok (.bipush (-3), 2) := by decide +kernel
theorem dX12_accept_46 : decode cX12_accept 46 = .ok (.ireturn, 1) := by decide +kernel
theorem dX12_accept_47 : decode cX12_accept 47 = .ok (.aload_n 0, 1) := by decide +kernel
theorem dX12_accept_48 : decode cX12_accept 48 = .ok (.invokevirtual 402, 3) := by decide +kernel
theorem dX12_accept_51 : decode cX12_accept 51 = .ok (.aload_n 0, 1) := by decide +kernel
theorem dX12_accept_52 : decode cX12_accept 52 = .ok (.iload_n 2, 1) := by decide +kernel
theorem dX12_accept_53 : decode cX12_accept 53 = .ok (.iload_n 1, 1) := by decide +kernel
theorem dX12_accept_54 : decode cX12_accept 54 = .ok (.aload_n 0, 1) := by decide +kernel
theorem dX12_accept_55 : decode cX12_accept 55 = .ok (.getfield 320, 3) := by decide +kernel
theorem dX12_accept_58 : decode cX12_accept 58 = .ok (.aload_n 0, 1) := by decide +kernel
theorem dX12_accept_59 : decode cX12_accept 59 = .ok (.getfield 323, 3) := by decide +kernel
theorem dX12_accept_62 : decode cX12_accept 62 = .ok (.invokevirtual 307, 3) := by decide +kernel
theorem dX12_accept_65 : decode cX12_accept 65 = .ok (.aload_n 0, 1) := by decide +kernel
theorem dX12_accept_66 : decode cX12_accept 66 = .ok (.iload_n 2, 1) := by decide +kernel
theorem dX12_accept_67 : decode cX12_accept 67 = .ok (.invokevirtual 408, 3) := by decide +kernel
theorem dX12_accept_70 : decode cX12_accept 70 = .ok (.aload_n 0, 1) := by decide +kernel
theorem dX12_accept_71 : decode cX12_accept 71 = .ok (.iload_n 1, 1) := by decide +kernel
theorem dX12_accept_72 : decode cX12_accept 72 = .ok (.iconst 0, 1) := by decide +kernel
theorem dX12_accept_73 : decode cX12_accept 73 = .ok (.iconst 1, 1) := by decide +kernel
theorem dX12_accept_74 : decode cX12_accept 74 = .ok (.invokevirtual 346, 3) := by decide +kernel
theorem dX12_accept_77 : decode cX12_accept 77 = .ok (.aload_n 0, 1) := by decide +kernel
theorem dX12_accept_78 : decode cX12_accept 78 = .ok (.iload_n 1, 1) := by decide +kernel
theorem dX12_accept_79 : decode cX12_accept 79 = .ok (.bipush 7, 2) := by decide +kernel
theorem dX12_accept_81 : decode cX12_accept 81 = .ok (.iload_n 2, 1) := by decide +kernel
theorem dX12_accept_82 : decode cX12_accept 82 = .ok (.invokevirtual 346, 3) := by decide +kernel
theorem dX12_accept_85 : decode cX12_accept 85 = .ok (.aload_n 0, 1) := by decide +kernel
theorem dX12_accept_86 : decode cX12_accept 86 = .ok (.getfield 314, 3) := by decide +kernel
theorem dX12_accept_89 : decode cX12_accept 89 = .ok (.ireturn, 1) := by decide +kernel
theorem dX12_decline_0 : decode cX12_decline 0 = .ok (.aload_n 0, 1) := by decide +kernel
theorem dX12_decline_1 : decode cX12_decline 1 = .ok (.iconst 0, 1) := by decide +kernel
theorem dX12_decline_2 : decode cX12_decline 2 = .ok (.putfield 93, 3) := by decide +kernel
theorem dX12_decline_5 : decode cX12_decline 5 = .ok (.aload_n 0, 1) := by decide +kernel
theorem dX12_decline_6 : decode cX12_decline 6 = .ok (.iload_n 1, 1) := by decide +kernel
theorem dX12_decline_7 : decode cX12_decline 7 = .ok (.invokevirtual 380, 3) := by decide +kernel
theorem dX12_decline_10 : decode cX12_decline 10 = .ok (.ifCond .eq 5, 3) := by decide +kernel
theorem dX12_decline_13 : decode cX12_decline 13 = .ok (.iconst 0, 1) := by decide +kernel
theorem dX12_decline_14 : decode cX12_decline 14 = .ok (.ireturn, 1) := by decide +kernel
theorem dX12_decline_15 : decode cX12_decline 15 = .ok (.aload_n 0, 1) := by decide +kernel
theorem dX12_decline_16 : decode cX12_decline 16 = .ok (.iload_n 1, 1) := by decide +kernel
theorem dX12_decline_17 : decode cX12_decline 17 = .ok (.iconst 0, 1) := by decide +kernel
theorem dX12_decline_18 : decode cX12_decline 18 = .ok (.invokevirtual 274, 3) := by decide +kernel
theorem dX12_decline_21 : decode cX12_decline 21 = .ok (.ifCond .eq 6, 3) := by decide +kernel
theorem dX12_decline_24 : decode cX12_decline 24 = .ok (.bipush (-2), 2) := by decide +kernel
theorem dX12_decline_26 : decode cX12_decline 26 = .ok (.ireturn, 1) := by decide +kernel
theorem dX12_decline_27 : decode cX12_decline 27 = .ok (.aload_n 0, 1) := by decide +kernel
theorem dX12_decline_28 : decode cX12_decline 28 = .ok (.invokevirtual 402, 3) := by decide +kernel
theorem dX12_decline_31 : decode cX12_decline 31 = .ok (.aload_n 0, 1) := by decide +kernel
theorem dX12_decline_32 : decode cX12_decline 32 = .ok (.iload_n 1, 1) := by decide +kernel
theorem dX12_decline_33 : decode cX12_decline 33 = .ok (.iconst 0, 1) := by decide +kernel
theorem dX12_decline_34 : decode cX12_decline 34 = .ok (.iconst 4, 1) := by decide +kernel
theorem dX12_decline_35 : decode cX12_decline 35 = .ok (.invokevirtual 346, 3) := by decide +kernel
theorem dX12_decline_38 : decode cX12_decline 38 = .ok (.aload_n 0, 1) := by decide +kernel
theorem dX12_decline_39 : decode cX12_decline 39 = .ok (.iconst 0, 1) := by decide +kernel
theorem dX12_decline_40 : decode cX12_decline 40 = .ok (.invokevirtual 364, 3) := by decide +kernel
theorem dX12_decline_43 : decode cX12_decline 43 = .ok (.ireturn, 1) := by decide +kernel
theorem dX12_cancel_0 : decode cX12_cancel 0 = .ok (.aload_n 0, 1) := by decide +kernel
theorem dX12_cancel_1 : decode cX12_cancel 1 = .ok (.iconst 0, 1) := by decide +kernel
theorem dX12_cancel_2 : decode cX12_cancel 2 = .ok (.putfield 93, 3) := by decide +kernel
theorem dX12_cancel_5 : decode cX12_cancel 5 = .ok (.aload_n 0, 1) := by decide +kernel
theorem dX12_cancel_6 : decode cX12_cancel 6 = .ok (.iload_n 1, 1) := by decide +kernel
theorem dX12_cancel_7 : decode cX12_cancel 7 = .ok (.invokevirtual 380, 3) := by decide +kernel
theorem dX12_cancel_10 : decode cX12_cancel 10 = .ok (.ifCond .eq 5, 3) := by decide +kernel
theorem dX12_cancel_13 : decode cX12_cancel 13 = .ok (.iconst 0, 1) := by decide +kernel
theorem dX12_cancel_14 : decode cX12_cancel 14 = .ok (.ireturn, 1) := by decide +kernel
theorem dX12_cancel_15 : decode cX12_cancel 15 = .ok (.aload_n 0, 1) := by decide +kernel
theorem dX12_cancel_16 : decode cX12_cancel 16 = .ok (.iload_n 1, 1) := by decide +kernel
theorem dX12_cancel_17 : decode cX12_cancel 17 = .ok (.iconst 0, 1) := by decide +kernel
theorem dX12_cancel_18 : decode cX12_cancel 18 = .ok (.invokevirtual 274, 3) := by decide +kernel
theorem dX12_cancel_21 : decode cX12_cancel 21 = .ok (.iconst 1, 1) := by decide +kernel
theorem dX12_cancel_22 : decode cX12_cancel 22 = .ok (.if_icmp .eq 6, 3) := by decide +kernel
theorem dX12_cancel_25 : decode cX12_cancel 25 = .ok (.bipush (-2), 2) := by decide +kernel
theorem dX12_cancel_27 : decode cX12_cancel 27 = .ok (.ireturn, 1) := by decide +kernel
theorem dX12_cancel_28 : decode cX12_cancel 28 = .ok (.aload_n 0, 1) := by decide +kernel
theorem dX12_cancel_29 : decode cX12_cancel 29 = .ok (.iload_n 1, 1) := by decide +kernel
theorem dX12_cancel_30 : decode cX12_cancel 30 = .ok (.bipush 7, 2) := by decide +kernel
theorem dX12_cancel_32 : decode cX12_cancel 32 = .ok (.invokevirtual 274, 3) := by decide +kernel
theorem dX12_cancel_35 : decode cX12_cancel 35 = .ok (.istore_n 2, 1) := by decide +kernel
theorem dX12_cancel_36 : decode cX12_cancel 36 = .ok (.aload_n 0, 1) := by decide +kernel
theorem dX12_cancel_37 : decode cX12_cancel 37 = .ok (.iload_n 2, 1) := by decide +kernel
theorem dX12_cancel_38 : decode cX12_cancel 38 = .ok (.iconst 3, 1) := by decide +kernel
theorem dX12_cancel_39 : decode cX12_cancel 39 = .ok (.invokevirtual 268, 3) := by decide +kernel
theorem dX12_cancel_42 : decode cX12_cancel 42 = .ok (.iconst (-1), 1) := by decide +kernel
theorem dX12_cancel_43 : decode cX12_cancel 43 = .ok (.if_icmp .eq 21, 3) := by decide +kernel
theorem dX12_cancel_46 : decode cX12_cancel 46 = .ok (.aload_n 0, 1) := by decide +kernel
theorem dX12_cancel_47 : decode cX12_cancel 47 = .ok (.iload_n 2, 1) := by decide +kernel
theorem dX12_cancel_48 : decode cX12_cancel 48 = .ok (.bipush 12, 2) := by decide +kernel
theorem dX12_cancel_50 : decode cX12_cancel 50 = .ok (.invokevirtual 268, 3) := by decide +kernel
theorem dX12_cancel_53 : decode cX12_cancel 53 = .ok (.iconst 2, 1) := by decide +kernel
theorem dX12_cancel_54 : decode cX12_cancel 54 = .ok (.iload_n 1, 1) := by decide +kernel
theorem dX12_cancel_55 : decode cX12_cancel 55 = .ok (.imul, 1) := by decide +kernel
theorem dX12_cancel_56 : decode cX12_cancel 56 = .ok (.iconst 1, 1) := by decide +kernel
theorem dX12_cancel_57 : decode cX12_cancel 57 = .ok (.iadd, 1) := by decide +kernel
theorem dX12_cancel_58 : decode cX12_cancel 58 = .ok (.if_icmp .ne 6, 3) := by decide +kernel
theorem dX12_cancel_61 : decode cX12_cancel 61 = .ok (.bipush (-3), 2) := by decide +kernel
theorem dX12_cancel_63 : decode cX12_cancel 63 = .ok (.ireturn, 1) := by decide +kernel
theorem dX12_cancel_64 : decode cX12_cancel 64 = .ok (.aload_n 0, 1) := by decide +kernel
theorem dX12_cancel_65 : decode cX12_cancel 65 = .ok (.invokevirtual 402, 3) := by decide +kernel
theorem dX12_cancel_68 : decode cX12_cancel 68 = .ok (.aload_n 0, 1) := by decide +kernel
theorem dX12_cancel_69 : decode cX12_cancel 69 = .ok (.iload_n 2, 1) := by decide +kernel
theorem dX12_cancel_70 : decode cX12_cancel 70 = .ok (.iconst 2, 1) := by decide +kernel
theorem dX12_cancel_71 : decode cX12_cancel 71 = .ok (.iload_n 1, 1) := by decide +kernel
theorem dX12_cancel_72 : decode cX12_cancel 72 = .ok (.imul, 1) := by decide +kernel
theorem dX12_cancel_73 : decode cX12_cancel 73 = .ok (.iconst 1, 1) := by decide +kernel
theorem dX12_cancel_74 : decode cX12_cancel 74 = .ok (.iadd, 1) := by decide +kernel
theorem dX12_cancel_75 : decode cX12_cancel 75 = .ok (.invokevirtual 411, 3) := by decide +kernel
theorem dX12_cancel_78 : decode cX12_cancel 78 = .ok (.aload_n 0, 1) := by decide +kernel
theorem dX12_cancel_79 : decode cX12_cancel 79 = .ok (.iload_n 2, 1) := by decide +kernel
theorem dX12_cancel_80 : decode cX12_cancel 80 = .ok (.iconst 2, 1) := by decide +kernel
theorem dX12_cancel_81 : decode cX12_cancel 81 = .ok (.iload_n 1, 1) := by decide +kernel
theorem dX12_cancel_82 : decode cX12_cancel 82 = .ok (.imul, 1) := by decide +kernel
theorem dX12_cancel_83 : decode cX12_cancel 83 = .ok (.invokevirtual 411, 3) := by decide +kernel
theorem dX12_cancel_86 : decode cX12_cancel 86 = .ok (.aload_n 0, 1) := by decide +kernel
theorem dX12_cancel_87 : decode cX12_cancel 87 = .ok (.iload_n 1, 1) := by decide +kernel
theorem dX12_cancel_88 : decode cX12_cancel 88 = .ok (.iconst 0, 1) := by decide +kernel
theorem dX12_cancel_89 : decode cX12_cancel 89 = .ok (.bipush 6, 2) := by decide +kernel
theorem dX12_cancel_91 : decode cX12_cancel 91 = .ok (.invokevirtual 346, 3) := by decide +kernel
theorem dX12_cancel_94 : decode cX12_cancel 94 = .ok (.aload_n 0, 1) := by decide +kernel
theorem dX12_cancel_95 : decode cX12_cancel 95 = .ok (.iload_n 2, 1) := by decide +kernel
theorem dX12_cancel_96 : decode cX12_cancel 96 = .ok (.bipush 11, 2) := by decide +kernel
theorem dX12_cancel_98 : decode cX12_cancel 98 = .ok (.invokevirtual 268, 3) := by decide +kernel
theorem dX12_cancel_101 : decode cX12_cancel 101 = .ok (.ireturn, 1) := by decide +kernel
theorem dX12_absent_0 : decode cX12_absent 0 = .ok (.aload_n 0, 1) := by decide +kernel
theorem dX12_absent_1 : decode cX12_absent 1 = .ok (.iconst 0, 1) := by decide +kernel
theorem dX12_absent_2 : decode cX12_absent 2 = .ok (.putfield 93, 3) := by decide +kernel
theorem dX12_absent_5 : decode cX12_absent 5 = .ok (.aload_n 0, 1) := by decide +kernel
theorem dX12_absent_6 : decode cX12_absent 6 = .ok (.iload_n 1, 1) := by decide +kernel
theorem dX12_absent_7 : decode cX12_absent 7 = .ok (.invokevirtual 380, 3) := by decide +kernel
theorem dX12_absent_10 : decode cX12_absent 10 = .ok (.ifCond .eq 5, 3) := by decide +kernel
theorem dX12_absent_13 : decode cX12_absent 13 = .ok (.iconst 0, 1) := by decide +kernel
theorem dX12_absent_14 : decode cX12_absent 14 = .ok (.ireturn, 1) := by decide +kernel
theorem dX12_absent_15 : decode cX12_absent 15 = .ok (.aload_n 0, 1) := by decide +kernel
theorem dX12_absent_16 : decode cX12_absent 16 = .ok (.iload_n 1, 1) := by decide +kernel
theorem dX12_absent_17 : decode cX12_absent 17 = .ok (.iconst 0, 1) := by decide +kernel
theorem dX12_absent_18 : decode cX12_absent 18 = .ok (.invokevirtual 274, 3) := by decide +kernel
theorem dX12_absent_21 : decode cX12_absent 21 = .ok (.iconst 1, 1) := by decide +kernel
theorem dX12_absent_22 : decode cX12_absent 22 = .ok (.if_icmp .ne 14, 3) := by decide +kernel
theorem dX12_absent_25 : decode cX12_absent 25 = .ok (.aload_n 0, 1) := by decide +kernel
theorem dX12_absent_26 : decode cX12_absent 26 = .ok (.iload_n 1, 1) := by decide +kernel
theorem dX12_absent_27 : decode cX12_absent 27 = .ok (.bipush 11, 2) := by decide +kernel
theorem dX12_absent_29 : decode cX12_absent 29 = .ok (.invokevirtual 274, 3) := by decide +kernel
theorem dX12_absent_32 : decode cX12_absent 32 = .ok (.iconst 1, 1) := by decide +kernel
theorem dX12_absent_33 : decode cX12_absent 33 = .ok (.if_icmp .ne 6, 3) := by decide +kernel
theorem dX12_absent_36 : decode cX12_absent 36 = .ok (.bipush (-2), 2) := by decide +kernel
theorem dX12_absent_38 : decode cX12_absent 38 = .ok (.ireturn, 1) := by decide +kernel
theorem dX12_absent_39 : decode cX12_absent 39 = .ok (.aload_n 0, 1) := by decide +kernel
theorem dX12_absent_40 : decode cX12_absent 40 = .ok (.invokevirtual 402, 3) := by decide +kernel
theorem dX12_absent_43 : decode cX12_absent 43 = .ok (.aload_n 0, 1) := by decide +kernel
theorem dX12_absent_44 : decode cX12_absent 44 = .ok (.aload_n 0, 1) := by decide +kernel
theorem dX12_absent_45 : decode cX12_absent 45 = .ok (.iload_n 1, 1) := by decide +kernel
theorem dX12_absent_46 : decode cX12_absent 46 = .ok (.bipush 7, 2) := by decide +kernel
theorem dX12_absent_48 : decode cX12_absent 48 = .ok (.invokevirtual 274, 3) := by decide +kernel
theorem dX12_absent_51 : decode cX12_absent 51 = .ok (.iconst 2, 1) := by decide +kernel
theorem dX12_absent_52 : decode cX12_absent 52 = .ok (.iload_n 1, 1) := by decide +kernel
theorem dX12_absent_53 : decode cX12_absent 53 = .ok (.imul, 1) := by decide +kernel
theorem dX12_absent_54 : decode cX12_absent 54 = .ok (.invokevirtual 411, 3) := by decide +kernel
theorem dX12_absent_57 : decode cX12_absent 57 = .ok (.aload_n 0, 1) := by decide +kernel
theorem dX12_absent_58 : decode cX12_absent 58 = .ok (.iload_n 1, 1) := by decide +kernel
theorem dX12_absent_59 : decode cX12_absent 59 = .ok (.bipush 11, 2) := by decide +kernel
theorem dX12_absent_61 : decode cX12_absent 61 = .ok (.iconst 1, 1) := by decide +kernel
theorem dX12_absent_62 : decode cX12_absent 62 = .ok (.invokevirtual 346, 3) := by decide +kernel
theorem dX12_absent_65 : decode cX12_absent 65 = .ok (.aload_n 0, 1) := by decide +kernel
theorem dX12_absent_66 : decode cX12_absent 66 = .ok (.aload_n 0, 1) := by decide +kernel
theorem dX12_absent_67 : decode cX12_absent 67 = .ok (.iload_n 1, 1) := by decide +kernel
theorem dX12_absent_68 : decode cX12_absent 68 = .ok (.bipush 7, 2) := by decide +kernel
theorem dX12_absent_70 : decode cX12_absent 70 = .ok (.invokevirtual 274, 3) := by decide +kernel
theorem dX12_absent_73 : decode cX12_absent 73 = .ok (.bipush 11, 2) := by decide +kernel
theorem dX12_absent_75 : decode cX12_absent 75 = .ok (.invokevirtual 268, 3) := by decide +kernel
theorem dX12_absent_78 : decode cX12_absent 78 = .ok (.ireturn, 1) := by decide +kernel
theorem dX12_advance_0 : decode cX12_advance 0 = .ok (.aload_n 0, 1) := by decide +kernel
theorem dX12_advance_1 : decode cX12_advance 1 = .ok (.iconst 0, 1) := by decide +kernel
theorem dX12_advance_2 : decode cX12_advance 2 = .ok (.putfield 93, 3) := by decide +kernel
theorem dX12_advance_5 : decode cX12_advance 5 = .ok (.aload_n 0, 1) := by decide +kernel
theorem dX12_advance_6 : decode cX12_advance 6 = .ok (.iload_n 1, 1) := by decide +kernel
theorem dX12_advance_7 : decode cX12_advance 7 = .ok (.i2l, 1) := by decide +kernel
theorem dX12_advance_8 : decode cX12_advance 8 = .ok (.lconst 1, 1) := by decide +kernel
theorem dX12_advance_9 : decode cX12_advance 9 = .ok (.ldc2_w 414, 3) := by decide +kernel
theorem dX12_advance_12 : decode cX12_advance 12 = .ok (.invokestatic 197, 3) := by decide +kernel
theorem dX12_advance_15 : decode cX12_advance 15 = .ok (.iconst 1, 1) := by decide +kernel
theorem dX12_advance_16 : decode cX12_advance 16 = .ok (.invokevirtual 256, 3) := by decide +kernel
theorem dX12_advance_19 : decode cX12_advance 19 = .ok (.ifCond .eq 5, 3) := by decide +kernel
theorem dX12_advance_22 : decode cX12_advance 22 = .ok (.iconst 0, 1) := by decide +kernel
theorem dX12_advance_23 : decode cX12_advance 23 = .ok (.ireturn, 1) := by decide +kernel
theorem dX12_advance_24 : decode cX12_advance 24 = .ok (.aload_n 0, 1) := by decide +kernel
theorem dX12_advance_25 : decode cX12_advance 25 = .ok (.getfield 7, 3) := by decide +kernel
theorem dX12_advance_28 : decode cX12_advance 28 = .ok (.iconst 0, 1) := by decide +kernel
theorem dX12_advance_29 : decode cX12_advance 29 = .ok (.iaload, 1) := by decide +kernel
theorem dX12_advance_30 : decode cX12_advance 30 = .ok (.iload_n 1, 1) := by decide +kernel
theorem dX12_advance_31 : decode cX12_advance 31 = .ok (.iadd, 1) := by decide +kernel
theorem dX12_advance_32 : decode cX12_advance 32 = .ok (.istore_n 2, 1) := by decide +kernel
theorem dX12_advance_33 : decode cX12_advance 33 = .ok (.iload_n 2, 1) := by decide +kernel
theorem dX12_advance_34 : decode cX12_advance 34 = .ok (.sipush 9999, 3) := by decide +kernel
theorem dX12_advance_37 : decode cX12_advance 37 = .ok (.if_icmp .le 6, 3) := by decide +kernel
theorem dX12_advance_40 : decode cX12_advance 40 = .ok (.bipush (-2), 2) := by decide +kernel
theorem dX12_advance_42 : decode cX12_advance 42 = .ok (.ireturn, 1) := by decide +kernel
theorem dX12_advance_43 : decode cX12_advance 43 = .ok (.aload_n 0, 1) := by decide +kernel
theorem dX12_advance_44 : decode cX12_advance 44 = .ok (.invokevirtual 402, 3) := by decide +kernel
theorem dX12_advance_47 : decode cX12_advance 47 = .ok (.iconst 0, 1) := by decide +kernel
theorem dX12_advance_48 : decode cX12_advance 48 = .ok (.istore_n 3, 1) := by decide +kernel
theorem dX12_advance_49 : decode cX12_advance 49 = .ok (.iconst 0, 1) := by decide +kernel
theorem dX12_advance_50 : decode cX12_advance 50 = .ok (.istore 4, 2) := by decide +kernel
theorem dX12_advance_52 : decode cX12_advance 52 = .ok (.iload 4, 2) := by decide +kernel
theorem dX12_advance_54 : decode cX12_advance 54 = .ok (.aload_n 0, 1) := by decide +kernel
theorem dX12_advance_55 : decode cX12_advance 55 = .ok (.getfield 114, 3) := by decide +kernel
theorem dX12_advance_58 : decode cX12_advance 58 = .ok (.if_icmp .ge 19, 3) := by decide +kernel
theorem dX12_advance_61 : decode cX12_advance 61 = .ok (.iload_n 3, 1) := by decide +kernel
theorem dX12_advance_62 : decode cX12_advance 62 = .ok (.aload_n 0, 1) := by decide +kernel
theorem dX12_advance_63 : decode cX12_advance 63 = .ok (.iload 4, 2) := by decide +kernel
theorem dX12_advance_65 : decode cX12_advance 65 = .ok (.iload_n 2, 1) := by decide +kernel
theorem dX12_advance_66 : decode cX12_advance 66 = .ok (.invokevirtual 416, 3) := by decide +kernel
theorem dX12_advance_69 : decode cX12_advance 69 = .ok (.iadd, 1) := by decide +kernel
theorem dX12_advance_70 : decode cX12_advance 70 = .ok (.istore_n 3, 1) := by decide +kernel
theorem dX12_advance_71 : decode cX12_advance 71 = .ok (.iinc 4 1, 3) := by decide +kernel
theorem dX12_advance_74 : decode cX12_advance 74 = .ok (.goto (-22), 3) := by decide +kernel
theorem dX12_advance_77 : decode cX12_advance 77 = .ok (.aload_n 0, 1) := by decide +kernel
theorem dX12_advance_78 : decode cX12_advance 78 = .ok (.getfield 7, 3) := by decide +kernel
theorem dX12_advance_81 : decode cX12_advance 81 = .ok (.iconst 0, 1) := by decide +kernel
theorem dX12_advance_82 : decode cX12_advance 82 = .ok (.iload_n 2, 1) := by decide +kernel
theorem dX12_advance_83 : decode cX12_advance 83 = .ok (.iastore, 1) := by decide +kernel
theorem dX12_advance_84 : decode cX12_advance 84 = .ok (.iconst 0, 1) := by decide +kernel
theorem dX12_advance_85 : decode cX12_advance 85 = .ok (.istore 4, 2) := by decide +kernel
theorem dX12_advance_87 : decode cX12_advance 87 = .ok (.iload 4, 2) := by decide +kernel
theorem dX12_advance_89 : decode cX12_advance 89 = .ok (.aload_n 0, 1) := by decide +kernel
theorem dX12_advance_90 : decode cX12_advance 90 = .ok (.getfield 7, 3) := by decide +kernel
theorem dX12_advance_93 : decode cX12_advance 93 = .ok (.iconst 1, 1) := by decide +kernel
theorem dX12_advance_94 : decode cX12_advance 94 = .ok (.iaload, 1) := by decide +kernel
theorem dX12_advance_95 : decode cX12_advance 95 = .ok (.if_icmp .ge 39, 3) := by decide +kernel
theorem dX12_advance_98 : decode cX12_advance 98 = .ok (.aload_n 0, 1) := by decide +kernel
theorem dX12_advance_99 : decode cX12_advance 99 = .ok (.iload 4, 2) := by decide +kernel
theorem dX12_advance_101 : decode cX12_advance 101 = .ok (.iconst 0, 1) := by decide +kernel
theorem dX12_advance_102 : decode cX12_advance 102 = .ok (.invokevirtual 274, 3) := by decide +kernel
theorem dX12_advance_105 : decode cX12_advance 105 = .ok (.ifCond .ne 23, 3) := by decide +kernel
theorem dX12_advance_108 : decode cX12_advance 108 = .ok (.iload_n 2, 1) := by decide +kernel
theorem dX12_advance_109 : decode cX12_advance 109 = .ok (.aload_n 0, 1) := by decide +kernel
theorem dX12_advance_110 : decode cX12_advance 110 = .ok (.iload 4, 2) := by decide +kernel
theorem dX12_advance_112 : decode cX12_advance 112 = .ok (.bipush 16, 2) := by decide +kernel
theorem dX12_advance_114 : decode cX12_advance 114 = .ok (.invokevirtual 274, 3) := by decide +kernel
theorem dX12_advance_117 : decode cX12_advance 117 = .ok (.if_icmp .le 11, 3) := by decide +kernel
theorem dX12_advance_120 : decode cX12_advance 120 = .ok (.aload_n 0, 1) := by decide +kernel
theorem dX12_advance_121 : decode cX12_advance 121 = .ok (.iload 4, 2) := by decide +kernel
theorem dX12_advance_123 : decode cX12_advance 123 = .ok (.iconst 0, 1) := by decide +kernel
theorem dX12_advance_124 : decode cX12_advance 124 = .ok (.iconst 4, 1) := by decide +kernel
theorem dX12_advance_125 : decode cX12_advance 125 = .ok (.invokevirtual 346, 3) := by decide +kernel
theorem dX12_advance_128 : decode cX12_advance 128 = .ok (.iinc 4 1, 3) := by decide +kernel
theorem dX12_advance_131 : decode cX12_advance 131 = .ok (.goto (-44), 3) := by decide +kernel
theorem dX12_advance_134 : decode cX12_advance 134 = .ok (.iload_n 3, 1) := by decide +kernel
theorem dX12_advance_135 : decode cX12_advance 135 = .ok (.ireturn, 1) := by decide +kernel
theorem dX12_tip_0 : decode cX12_tip 0 = .ok (.aload_n 0, 1) := by decide +kernel
theorem dX12_tip_1 : decode cX12_tip 1 = .ok (.iconst 0, 1) := by decide +kernel
theorem dX12_tip_2 : decode cX12_tip 2 = .ok (.putfield 93, 3) := by decide +kernel
theorem dX12_tip_5 : decode cX12_tip 5 = .ok (.aload_n 0, 1) := by decide +kernel
theorem dX12_tip_6 : decode cX12_tip 6 = .ok (.iload_n 1, 1) := by decide +kernel
theorem dX12_tip_7 : decode cX12_tip 7 = .ok (.invokevirtual 375, 3) := by decide +kernel
theorem dX12_tip_10 : decode cX12_tip 10 = .ok (.ifCond .ne 20, 3) := by decide +kernel
theorem dX12_tip_13 : decode cX12_tip 13 = .ok (.aload_n 0, 1) := by decide +kernel
theorem dX12_tip_14 : decode cX12_tip 14 = .ok (.iload_n 2, 1) := by decide +kernel
theorem dX12_tip_15 : decode cX12_tip 15 = .ok (.i2l, 1) := by decide +kernel
theorem dX12_tip_16 : decode cX12_tip 16 = .ok (.lconst 1, 1) := by decide +kernel
theorem dX12_tip_17 : decode cX12_tip 17 = .ok (.ldc2_w 419, 3) := by decide +kernel
theorem dX12_tip_20 : decode cX12_tip 20 = .ok (.invokestatic 197, 3) := by decide +kernel
theorem dX12_tip_23 : decode cX12_tip 23 = .ok (.iconst 2, 1) := by decide +kernel
theorem dX12_tip_24 : decode cX12_tip 24 = .ok (.invokevirtual 256, 3) := by decide +kernel
theorem dX12_tip_27 : decode cX12_tip 27 = .ok (.ifCond .eq 5, 3) := by decide +kernel
theorem dX12_tip_30 : decode cX12_tip 30 = .ok (.iconst 0, 1) := by decide +kernel
theorem dX12_tip_31 : decode cX12_tip 31 = .ok (.ireturn, 1) := by decide +kernel
theorem dX12_tip_32 : decode cX12_tip 32 = .ok (.aload_n 0, 1) := by decide +kernel
theorem dX12_tip_33 : decode cX12_tip 33 = .ok (.iload_n 1, 1) := by decide +kernel
theorem dX12_tip_34 : decode cX12_tip 34 = .ok (.iconst 5, 1) := by decide +kernel
theorem dX12_tip_35 : decode cX12_tip 35 = .ok (.invokevirtual 268, 3) := by decide +kernel
theorem dX12_tip_38 : decode cX12_tip 38 = .ok (.i2l, 1) := by decide +kernel
theorem dX12_tip_39 : decode cX12_tip 39 = .ok (.iload_n 2, 1) := by decide +kernel
theorem dX12_tip_40 : decode cX12_tip 40 = .ok (.i2l, 1) := by decide +kernel
theorem dX12_tip_41 : decode cX12_tip 41 = .ok (.ladd, 1) := by decide +kernel
theorem dX12_tip_42 : decode cX12_tip 42 = .ok (.ldc2_w 419, 3) := by decide +kernel
theorem dX12_tip_45 : decode cX12_tip 45 = .ok (.lcmp, 1) := by decide +kernel
theorem dX12_tip_46 : decode cX12_tip 46 = .ok (.ifCond .le 6, 3) := by decide +kernel
theorem dX12_tip_49 : decode cX12_tip 49 = .ok (.bipush (-5), 2) := by decide +kernel
theorem dX12_tip_51 : decode cX12_tip 51 = .ok (.ireturn, 1) := by decide +kernel
theorem dX12_tip_52 : decode cX12_tip 52 = .ok (.aload_n 0, 1) := by decide +kernel
theorem dX12_tip_53 : decode cX12_tip 53 = .ok (.invokevirtual 402, 3) := by decide +kernel
theorem dX12_tip_56 : decode cX12_tip 56 = .ok (.aload_n 0, 1) := by decide +kernel
theorem dX12_tip_57 : decode cX12_tip 57 = .ok (.iload_n 1, 1) := by decide +kernel
theorem dX12_tip_58 : decode cX12_tip 58 = .ok (.iconst 5, 1) := by decide +kernel
theorem dX12_tip_59 : decode cX12_tip 59 = .ok (.iload_n 2, 1) := by decide +kernel
theorem dX12_tip_60 : decode cX12_tip 60 = .ok (.invokevirtual 336, 3) := by decide +kernel
theorem dX12_tip_63 : decode cX12_tip 63 = .ok (.aload_n 0, 1) := by decide +kernel
theorem dX12_tip_64 : decode cX12_tip 64 = .ok (.iload_n 1, 1) := by decide +kernel
theorem dX12_tip_65 : decode cX12_tip 65 = .ok (.bipush 6, 2) := by decide +kernel
theorem dX12_tip_67 : decode cX12_tip 67 = .ok (.iload_n 2, 1) := by decide +kernel
theorem dX12_tip_68 : decode cX12_tip 68 = .ok (.invokevirtual 336, 3) := by decide +kernel
theorem dX12_tip_71 : decode cX12_tip 71 = .ok (.aload_n 0, 1) := by decide +kernel
theorem dX12_tip_72 : decode cX12_tip 72 = .ok (.iload_n 1, 1) := by decide +kernel
theorem dX12_tip_73 : decode cX12_tip 73 = .ok (.iconst 5, 1) := by decide +kernel
theorem dX12_tip_74 : decode cX12_tip 74 = .ok (.invokevirtual 268, 3) := by decide +kernel
theorem dX12_tip_77 : decode cX12_tip 77 = .ok (.ireturn, 1) := by decide +kernel
theorem dX12_setRate_0 : decode cX12_setRate 0 = .ok (.aload_n 0, 1) := by decide +kernel
theorem dX12_setRate_1 : decode cX12_setRate 1 = .ok (.iconst 0, 1) := by decide +kernel
theorem dX12_setRate_2 : decode cX12_setRate 2 = .ok (.putfield 93, 3) := by decide +kernel
theorem dX12_setRate_5 : decode cX12_setRate 5 = .ok (.aload_n 0, 1) := by decide +kernel
theorem dX12_setRate_6 : decode cX12_setRate 6 = .ok (.iload_n 1, 1) := by decide +kernel
theorem dX12_setRate_7 : decode cX12_setRate 7 = .ok (.i2l, 1) := by decide +kernel
theorem dX12_setRate_8 : decode cX12_setRate 8 = .ok (.lconst 0, 1) := by decide +kernel
theorem dX12_setRate_9 : decode cX12_setRate 9 = .ok (.ldc2_w 421, 3) := by decide +kernel
theorem dX12_setRate_12 : decode cX12_setRate 12 = .ok (.invokestatic 197, 3) := by decide +kernel
theorem dX12_setRate_15 : decode cX12_setRate 15 = .ok (.iconst 1, 1) := by decide +kernel
theorem dX12_setRate_16 : decode cX12_setRate 16 = .ok (.invokevirtual 256, 3) := by decide +kernel
theorem dX12_setRate_19 : decode cX12_setRate 19 = .ok (.ifCond .eq 5, 3) := by decide +kernel
theorem dX12_setRate_22 : decode cX12_setRate 22 = .ok (.iconst 0, 1) := by decide +kernel
theorem dX12_setRate_23 : decode cX12_setRate 23 = .ok (.ireturn, 1) := by decide +kernel
theorem dX12_setRate_24 : decode cX12_setRate 24 = .ok (.aload_n 0, 1) := by decide +kernel
theorem dX12_setRate_25 : decode cX12_setRate 25 = .ok (.invokevirtual 402, 3) := by decide +kernel
theorem dX12_setRate_28 : decode cX12_setRate 28 = .ok (.aload_n 0, 1) := by decide +kernel
theorem dX12_setRate_29 : decode cX12_setRate 29 = .ok (.getfield 7, 3) := by decide +kernel
theorem dX12_setRate_32 : decode cX12_setRate 32 = .ok (.iconst 2, 1) := by decide +kernel
theorem dX12_setRate_33 : decode cX12_setRate 33 = .ok (.iaload, 1) := by decide +kernel
theorem dX12_setRate_34 : decode cX12_setRate 34 = .ok (.istore_n 2, 1) := by decide +kernel
theorem dX12_setRate_35 : decode cX12_setRate 35 = .ok (.aload_n 0, 1) := by decide +kernel
theorem dX12_setRate_36 : decode cX12_setRate 36 = .ok (.getfield 7, 3) := by decide +kernel
theorem dX12_setRate_39 : decode cX12_setRate 39 = .ok (.iconst 2, 1) := by decide +kernel
theorem dX12_setRate_40 : decode cX12_setRate 40 = .ok (.iload_n 1, 1) := by decide +kernel
theorem dX12_setRate_41 : decode cX12_setRate 41 = .ok (.iastore, 1) := by decide +kernel
theorem dX12_setRate_42 : decode cX12_setRate 42 = .ok (.iload_n 2, 1) := by decide +kernel
theorem dX12_setRate_43 : decode cX12_setRate 43 = .ok (.ireturn, 1) := by decide +kernel
theorem dX12_setEnd_0 : decode cX12_setEnd 0 = .ok (.aload_n 0, 1) := by decide +kernel
theorem dX12_setEnd_1 : decode cX12_setEnd 1 = .ok (.iconst 0, 1) := by decide +kernel
theorem dX12_setEnd_2 : decode cX12_setEnd 2 = .ok (.putfield 93, 3) := by decide +kernel
theorem dX12_setEnd_5 : decode cX12_setEnd 5 = .ok (.aload_n 0, 1) := by decide +kernel
theorem dX12_setEnd_6 : decode cX12_setEnd 6 = .ok (.iload_n 1, 1) := by decide +kernel
theorem dX12_setEnd_7 : decode cX12_setEnd 7 = .ok (.invokevirtual 375, 3) := by decide +kernel
theorem dX12_setEnd_10 : decode cX12_setEnd 10 = .ok (.ifCond .ne 28, 3) := by decide +kernel
theorem dX12_setEnd_13 : decode cX12_setEnd 13 = .ok (.aload_n 0, 1) := by decide +kernel
theorem dX12_setEnd_14 : decode cX12_setEnd 14 = .ok (.iload_n 2, 1) := by decide +kernel
theorem dX12_setEnd_15 : decode cX12_setEnd 15 = .ok (.i2l, 1) := by decide +kernel
theorem dX12_setEnd_16 : decode cX12_setEnd 16 = .ok (.aload_n 0, 1) := by decide +kernel
theorem dX12_setEnd_17 : decode cX12_setEnd 17 = .ok (.getfield 40, 3) := by decide +kernel
theorem dX12_setEnd_20 : decode cX12_setEnd 20 = .ok (.iload_n 1, 1) := by decide +kernel
theorem dX12_setEnd_21 : decode cX12_setEnd 21 = .ok (.iaload, 1) := by decide +kernel
theorem dX12_setEnd_22 : decode cX12_setEnd 22 = .ok (.iconst 1, 1) := by decide +kernel
theorem dX12_setEnd_23 : decode cX12_setEnd 23 = .ok (.iadd, 1) := by decide +kernel
theorem dX12_setEnd_24 : decode cX12_setEnd 24 = .ok (.i2l, 1) := by decide +kernel
theorem dX12_setEnd_25 : decode cX12_setEnd 25 = .ok (.ldc2_w 219, 3) := by decide +kernel
theorem dX12_setEnd_28 : decode cX12_setEnd 28 = .ok (.invokestatic 197, 3) := by decide +kernel
theorem dX12_setEnd_31 : decode cX12_setEnd 31 = .ok (.iconst 2, 1) := by decide +kernel
theorem dX12_setEnd_32 : decode cX12_setEnd 32 = .ok (.invokevirtual 256, 3) := by decide +kernel
theorem dX12_setEnd_35 : decode cX12_setEnd 35 = .ok (.ifCond .eq 5, 3) := by decide +kernel
theorem dX12_setEnd_38 : decode cX12_setEnd 38 = .ok (.iconst 0, 1) := by decide +kernel
theorem dX12_setEnd_39 : decode cX12_setEnd 39 = .ok (.ireturn, 1) := by decide +kernel
theorem dX12_setEnd_40 : decode cX12_setEnd 40 = .ok (.aload_n 0, 1) := by decide +kernel
theorem dX12_setEnd_41 : decode cX12_setEnd 41 = .ok (.invokevirtual 402, 3) := by decide +kernel
theorem dX12_setEnd_44 : decode cX12_setEnd 44 = .ok (.aload_n 0, 1) := by decide +kernel
theorem dX12_setEnd_45 : decode cX12_setEnd 45 = .ok (.iload_n 1, 1) := by decide +kernel
theorem dX12_setEnd_46 : decode cX12_setEnd 46 = .ok (.iconst 4, 1) := by decide +kernel
theorem dX12_setEnd_47 : decode cX12_setEnd 47 = .ok (.invokevirtual 268, 3) := by decide +kernel
theorem dX12_setEnd_50 : decode cX12_setEnd 50 = .ok (.istore_n 3, 1) := by decide +kernel
theorem dX12_setEnd_51 : decode cX12_setEnd 51 = .ok (.aload_n 0, 1) := by decide +kernel
theorem dX12_setEnd_52 : decode cX12_setEnd 52 = .ok (.iload_n 1, 1) := by decide +kernel
theorem dX12_setEnd_53 : decode cX12_setEnd 53 = .ok (.iconst 4, 1) := by decide +kernel
theorem dX12_setEnd_54 : decode cX12_setEnd 54 = .ok (.iload_n 2, 1) := by decide +kernel
theorem dX12_setEnd_55 : decode cX12_setEnd 55 = .ok (.invokevirtual 326, 3) := by decide +kernel
theorem dX12_setEnd_58 : decode cX12_setEnd 58 = .ok (.iload_n 3, 1) := by decide +kernel
theorem dX12_setEnd_59 : decode cX12_setEnd 59 = .ok (.ireturn, 1) := by decide +kernel
theorem dX12_setRule_0 : decode cX12_setRule 0 = .ok (.aload_n 0, 1) := by decide +kernel
theorem dX12_setRule_1 : decode cX12_setRule 1 = .ok (.iconst 0, 1) := by decide +kernel
theorem dX12_setRule_2 : decode cX12_setRule 2 = .ok (.putfield 93, 3) := by decide +kernel
theorem dX12_setRule_5 : decode cX12_setRule 5 = .ok (.aload_n 0, 1) := by decide +kernel
theorem dX12_setRule_6 : decode cX12_setRule 6 = .ok (.iload_n 1, 1) := by decide +kernel
theorem dX12_setRule_7 : decode cX12_setRule 7 = .ok (.i2l, 1) := by decide +kernel
theorem dX12_setRule_8 : decode cX12_setRule 8 = .ok (.lconst 0, 1) := by decide +kernel
theorem dX12_setRule_9 : decode cX12_setRule 9 = .ok (.ldc2_w 370, 3) := by decide +kernel
theorem dX12_setRule_12 : decode cX12_setRule 12 = .ok (.invokestatic 197, 3) := by decide +kernel
theorem dX12_setRule_15 : decode cX12_setRule 15 = .ok (.iconst 1, 1) := by decide +kernel
theorem dX12_setRule_16 : decode cX12_setRule 16 = .ok (.invokevirtual 256, 3) := by decide +kernel
theorem dX12_setRule_19 : decode cX12_setRule 19 = .ok (.ifCond .ne 26, 3) := by decide +kernel
theorem dX12_setRule_22 : decode cX12_setRule 22 = .ok (.aload_n 0, 1) := by decide +kernel
theorem dX12_setRule_23 : decode cX12_setRule 23 = .ok (.iload_n 2, 1) := by decide +kernel
theorem dX12_setRule_24 : decode cX12_setRule 24 = .ok (.i2l, 1) := by decide +kernel
theorem dX12_setRule_25 : decode cX12_setRule 25 = .ok (.iload_n 1, 1) := by decide +kernel
theorem dX12_setRule_26 : decode cX12_setRule 26 = .ok (.invokestatic 225, 3) := by decide +kernel
theorem dX12_setRule_29 : decode cX12_setRule 29 = .ok (.i2l, 1) := by decide +kernel
theorem dX12_setRule_30 : decode cX12_setRule 30 = .ok (.iload_n 1, 1) := by decide +kernel
theorem dX12_setRule_31 : decode cX12_setRule 31 = .ok (.invokestatic 228, 3) := by decide +kernel
theorem dX12_setRule_34 : decode cX12_setRule 34 = .ok (.i2l, 1) := by decide +kernel
theorem dX12_setRule_35 : decode cX12_setRule 35 = .ok (.invokestatic 197, 3) := by decide +kernel
theorem dX12_setRule_38 : decode cX12_setRule 38 = .ok (.iconst 2, 1) := by decide +kernel
theorem dX12_setRule_39 : decode cX12_setRule 39 = .ok (.invokevirtual 256, 3) := by decide +kernel
theorem dX12_setRule_42 : decode cX12_setRule 42 = .ok (.ifCond .eq 5, 3) := by decide +kernel
theorem dX12_setRule_45 : decode cX12_setRule 45 = .ok (.iconst 0, 1) := by decide +kernel
theorem dX12_setRule_46 : decode cX12_setRule 46 = .ok (.ireturn, 1) := by decide +kernel
theorem dX12_setRule_47 : decode cX12_setRule 47 = .ok (.aload_n 0, 1) := by decide +kernel
theorem dX12_setRule_48 : decode cX12_setRule 48 = .ok (.invokevirtual 402, 3) := by decide +kernel
theorem dX12_setRule_51 : decode cX12_setRule 51 = .ok (.aload_n 0, 1) := by decide +kernel
theorem dX12_setRule_52 : decode cX12_setRule 52 = .ok (.iload_n 1, 1) := by decide +kernel
theorem dX12_setRule_53 : decode cX12_setRule 53 = .ok (.invokevirtual 292, 3) := by decide +kernel
theorem dX12_setRule_56 : decode cX12_setRule 56 = .ok (.istore_n 3, 1) := by decide +kernel
theorem dX12_setRule_57 : decode cX12_setRule 57 = .ok (.aload_n 0, 1) := by decide +kernel
theorem dX12_setRule_58 : decode cX12_setRule 58 = .ok (.getfield 7, 3) := by decide +kernel
theorem dX12_setRule_61 : decode cX12_setRule 61 = .ok (.iconst 3, 1) := by decide +kernel
theorem dX12_setRule_62 : decode cX12_setRule 62 = .ok (.iload_n 1, 1) := by decide +kernel
theorem dX12_setRule_63 : decode cX12_setRule 63 = .ok (.iadd, 1) := by decide +kernel
theorem dX12_setRule_64 : decode cX12_setRule 64 = .ok (.iload_n 2, 1) := by decide +kernel
theorem dX12_setRule_65 : decode cX12_setRule 65 = .ok (.iastore, 1) := by decide +kernel
theorem dX12_setRule_66 : decode cX12_setRule 66 = .ok (.iload_n 3, 1) := by decide +kernel
theorem dX12_setRule_67 : decode cX12_setRule 67 = .ok (.ireturn, 1) := by decide +kernel
theorem dX12_undoCount_0 : decode cX12_undoCount 0 = .ok (.aload_n 0, 1) := by decide +kernel
theorem dX12_undoCount_1 : decode cX12_undoCount 1 = .ok (.iconst 0, 1) := by decide +kernel
theorem dX12_undoCount_2 : decode cX12_undoCount 2 = .ok (.putfield 93, 3) := by decide +kernel
theorem dX12_undoCount_5 : decode cX12_undoCount 5 = .ok (.aload_n 0, 1) := by decide +kernel
theorem dX12_undoCount_6 : decode cX12_undoCount 6 = .ok (.getfield 123, 3) := by decide +kernel
theorem dX12_undoCount_9 : decode cX12_undoCount 9 = .ok (.ireturn, 1) := by decide +kernel
theorem dX12_undo_0 : decode cX12_undo 0 = .ok (.aload_n 0, 1) := by decide +kernel
theorem dX12_undo_1 : decode cX12_undo 1 = .ok (.iconst 0, 1) := by decide +kernel
theorem dX12_undo_2 : decode cX12_undo 2 = .ok (.putfield 93, 3) := by decide +kernel
theorem dX12_undo_5 : decode cX12_undo 5 = .ok (.aload_n 0, 1) := by decide +kernel
theorem dX12_undo_6 : decode cX12_undo 6 = .ok (.getfield 123, 3) := by decide +kernel
theorem dX12_undo_9 : decode cX12_undo 9 = .ok (.ifCond .ne 5, 3) := by decide +kernel
theorem dX12_undo_12 : decode cX12_undo 12 = .ok (.iconst (-1), 1) := by decide +kernel
theorem dX12_undo_13 : decode cX12_undo 13 = .ok (.ireturn, 1) := by decide +kernel
theorem dX12_undo_14 : decode cX12_undo 14 = .ok (.aload_n 0, 1) := by decide +kernel
theorem dX12_undo_15 : decode cX12_undo 15 = .ok (.dup, 1) := by decide +kernel
theorem dX12_undo_16 : decode cX12_undo 16 = .ok (.getfield 123, 3) := by decide +kernel
theorem dX12_undo_19 : decode cX12_undo 19 = .ok (.iconst 1, 1) := by decide +kernel
theorem dX12_undo_20 : decode cX12_undo 20 = .ok (.isub, 1) := by decide +kernel
theorem dX12_undo_21 : decode cX12_undo 21 = .ok (.putfield 123, 3) := by decide +kernel
theorem dX12_undo_24 : decode cX12_undo 24 = .ok (.iconst 0, 1) := by decide +kernel
theorem dX12_undo_25 : decode cX12_undo 25 = .ok (.istore_n 1, 1) := by decide +kernel
theorem dX12_undo_26 : decode cX12_undo 26 = .ok (.iload_n 1, 1) := by decide +kernel
theorem dX12_undo_27 : decode cX12_undo 27 = .ok (.sipush 581, 3) := by decide +kernel
theorem dX12_undo_30 : decode cX12_undo 30 = .ok (.if_icmp .ge 30, 3) := by decide +kernel
theorem dX12_undo_33 : decode cX12_undo 33 = .ok (.aload_n 0, 1) := by decide +kernel
theorem dX12_undo_34 : decode cX12_undo 34 = .ok (.getfield 7, 3) := by decide +kernel
theorem dX12_undo_37 : decode cX12_undo 37 = .ok (.iload_n 1, 1) := by decide +kernel
theorem dX12_undo_38 : decode cX12_undo 38 = .ok (.aload_n 0, 1) := by decide +kernel
theorem dX12_undo_39 : decode cX12_undo 39 = .ok (.getfield 19, 3) := by decide +kernel
theorem dX12_undo_42 : decode cX12_undo 42 = .ok (.sipush 581, 3) := by decide +kernel
theorem dX12_undo_45 : decode cX12_undo 45 = .ok (.aload_n 0, 1) := by decide +kernel
theorem dX12_undo_46 : decode cX12_undo 46 = .ok (.getfield 123, 3) := by decide +kernel
theorem dX12_undo_49 : decode cX12_undo 49 = .ok (.imul, 1) := by decide +kernel
theorem dX12_undo_50 : decode cX12_undo 50 = .ok (.iload_n 1, 1) := by decide +kernel
theorem dX12_undo_51 : decode cX12_undo 51 = .ok (.iadd, 1) := by decide +kernel
theorem dX12_undo_52 : decode cX12_undo 52 = .ok (.iaload, 1) := by decide +kernel
theorem dX12_undo_53 : decode cX12_undo 53 = .ok (.iastore, 1) := by decide +kernel
theorem dX12_undo_54 : decode cX12_undo 54 = .ok (.iinc 1 1, 3) := by decide +kernel
theorem dX12_undo_57 : decode cX12_undo 57 = .ok (.goto (-31), 3) := by decide +kernel
theorem dX12_undo_60 : decode cX12_undo 60 = .ok (.aload_n 0, 1) := by decide +kernel
theorem dX12_undo_61 : decode cX12_undo 61 = .ok (.getfield 123, 3) := by decide +kernel
theorem dX12_undo_64 : decode cX12_undo 64 = .ok (.ireturn, 1) := by decide +kernel
theorem dX12_saveSnapshot_0 : decode cX12_saveSnapshot 0 = .ok (.aload_n 0, 1) := by decide +kernel
theorem dX12_saveSnapshot_1 : decode cX12_saveSnapshot 1 = .ok (.iconst 0, 1) := by decide +kernel
theorem dX12_saveSnapshot_2 : decode cX12_saveSnapshot 2 = .ok (.putfield 93, 3) := by decide +kernel
theorem dX12_saveSnapshot_5 : decode cX12_saveSnapshot 5 = .ok (.iconst 0, 1) := by decide +kernel
theorem dX12_saveSnapshot_6 : decode cX12_saveSnapshot 6 = .ok (.istore_n 1, 1) := by decide +kernel
theorem dX12_saveSnapshot_7 : decode cX12_saveSnapshot 7 = .ok (.iload_n 1, 1) := by decide +kernel
theorem dX12_saveSnapshot_8 : decode cX12_saveSnapshot 8 = .ok (.sipush 581, 3) := by decide +kernel
theorem dX12_saveSnapshot_11 : decode cX12_saveSnapshot 11 = .ok (.if_icmp .ge 21, 3) := by decide +kernel
theorem dX12_saveSnapshot_14 : decode cX12_saveSnapshot 14 = .ok (.aload_n 0, 1) := by decide +kernel
theorem dX12_saveSnapshot_15 : decode cX12_saveSnapshot 15 = .ok (.getfield 16, 3) := by decide +kernel
theorem dX12_saveSnapshot_18 : decode cX12_saveSnapshot 18 = .ok (.iload_n 1, 1) := by decide +kernel
theorem dX12_saveSnapshot_19 : decode cX12_saveSnapshot 19 = .ok (.aload_n 0, 1) := by decide +kernel
theorem dX12_saveSnapshot_20 : decode cX12_saveSnapshot 20 = .ok (.getfield 7, 3) := by decide +kernel
theorem dX12_saveSnapshot_23 : decode cX12_saveSnapshot 23 = .ok (.iload_n 1, 1) := by decide +kernel
theorem dX12_saveSnapshot_24 : decode cX12_saveSnapshot 24 = .ok (.iaload, 1) := by decide +kernel
theorem dX12_saveSnapshot_25 : decode cX12_saveSnapshot 25 = .ok (.iastore, 1) := by decide +kernel
theorem dX12_saveSnapshot_26 : decode cX12_saveSnapshot 26 = .ok (.iinc 1 1, 3) := by decide +kernel
theorem dX12_saveSnapshot_29 : decode cX12_saveSnapshot 29 = .ok (.goto (-22), 3) := by decide +kernel
theorem dX12_saveSnapshot_32 : decode cX12_saveSnapshot 32 = .ok (.aload_n 0, 1) := by decide +kernel
theorem dX12_saveSnapshot_33 : decode cX12_saveSnapshot 33 = .ok (.iconst 1, 1) := by decide +kernel
theorem dX12_saveSnapshot_34 : decode cX12_saveSnapshot 34 = .ok (.putfield 126, 3) := by decide +kernel
theorem dX12_saveSnapshot_37 : decode cX12_saveSnapshot 37 = .ok (.return_, 1) := by decide +kernel
theorem dX12_restoreSnapshot_0 : decode cX12_restoreSnapshot 0 = .ok (.aload_n 0, 1) := by decide +kernel
theorem dX12_restoreSnapshot_1 : decode cX12_restoreSnapshot 1 = .ok (.iconst 0, 1) := by decide +kernel
theorem dX12_restoreSnapshot_2 : decode cX12_restoreSnapshot 2 = .ok (.putfield 93, 3) := by decide +kernel
theorem dX12_restoreSnapshot_5 : decode cX12_restoreSnapshot 5 = .ok (.aload_n 0, 1) := by decide +kernel
theorem dX12_restoreSnapshot_6 : decode cX12_restoreSnapshot 6 = .ok (.getfield 126, 3) := by decide +kernel
theorem dX12_restoreSnapshot_9 : decode cX12_restoreSnapshot 9 = .ok (.ifCond .ne 5, 3) := by decide +kernel
theorem dX12_restoreSnapshot_12 : decode cX12_restoreSnapshot 12 = .ok (.iconst 0, 1) := by decide +kernel
theorem dX12_restoreSnapshot_13 : decode cX12_restoreSnapshot 13 = .ok (.ireturn, 1) := by decide +kernel
theorem dX12_restoreSnapshot_14 : decode cX12_restoreSnapshot 14 = .ok (.iconst 0, 1) := by decide +kernel
theorem dX12_restoreSnapshot_15 : decode cX12_restoreSnapshot 15 = .ok (.istore_n 1, 1) := by decide +kernel
theorem dX12_restoreSnapshot_16 : decode cX12_restoreSnapshot 16 = .ok (.iload_n 1, 1) := by decide +kernel
theorem dX12_restoreSnapshot_17 : decode cX12_restoreSnapshot 17 = .ok (.sipush 581, 3) := by decide +kernel
theorem dX12_restoreSnapshot_20 : decode cX12_restoreSnapshot 20 = .ok (.if_icmp .ge 21, 3) := by decide +kernel
theorem dX12_restoreSnapshot_23 : decode cX12_restoreSnapshot 23 = .ok (.aload_n 0, 1) := by decide +kernel
theorem dX12_restoreSnapshot_24 : decode cX12_restoreSnapshot 24 = .ok (.getfield 7, 3) := by decide +kernel
theorem dX12_restoreSnapshot_27 : decode cX12_restoreSnapshot 27 = .ok (.iload_n 1, 1) := by decide +kernel
theorem dX12_restoreSnapshot_28 : decode cX12_restoreSnapshot 28 = .ok (.aload_n 0, 1) := by decide +kernel
theorem dX12_restoreSnapshot_29 : decode cX12_restoreSnapshot 29 = .ok (.getfield 16, 3) := by decide +kernel
theorem dX12_restoreSnapshot_32 : decode cX12_restoreSnapshot 32 = .ok (.iload_n 1, 1) := by decide +kernel
theorem dX12_restoreSnapshot_33 : decode cX12_restoreSnapshot 33 = .ok (.iaload, 1) := by decide +kernel
theorem dX12_restoreSnapshot_34 : decode cX12_restoreSnapshot 34 = .ok (.iastore, 1) := by decide +kernel
theorem dX12_restoreSnapshot_35 : decode cX12_restoreSnapshot 35 = .ok (.iinc 1 1, 3) := by decide +kernel
theorem dX12_restoreSnapshot_38 : decode cX12_restoreSnapshot 38 = .ok (.goto (-22), 3) := by decide +kernel
theorem dX12_restoreSnapshot_41 : decode cX12_restoreSnapshot 41 = .ok (.aload_n 0, 1) := by decide +kernel
theorem dX12_restoreSnapshot_42 : decode cX12_restoreSnapshot 42 = .ok (.iconst 0, 1) := by decide +kernel
theorem dX12_restoreSnapshot_43 : decode cX12_restoreSnapshot 43 = .ok (.putfield 123, 3) := by decide +kernel
theorem dX12_restoreSnapshot_46 : decode cX12_restoreSnapshot 46 = .ok (.iconst 1, 1) := by decide +kernel
theorem dX12_restoreSnapshot_47 : decode cX12_restoreSnapshot 47 = .ok (.ireturn, 1) := by decide +kernel
theorem dX12_says_0 : decode cX12_says 0 = .ok (.aload_n 0, 1) := by decide +kernel
theorem dX12_says_1 : decode cX12_says 1 = .ok (.getfield 74, 3) := by decide +kernel
theorem dX12_says_4 : decode cX12_says 4 = .ok (.aload_n 0, 1) := by decide +kernel
theorem dX12_says_5 : decode cX12_says 5 = .ok (.getfield 423, 3) := by decide +kernel
theorem dX12_says_8 : decode cX12_says 8 = .ok (.iload_n 1, 1) := by decide +kernel
theorem dX12_says_9 : decode cX12_says 9 = .ok (.i2b, 1) := by decide +kernel
theorem dX12_says_10 : decode cX12_says 10 = .ok (.bastore, 1) := by decide +kernel
theorem dX12_says_11 : decode cX12_says 11 = .ok (.aload_n 0, 1) := by decide +kernel
theorem dX12_says_12 : decode cX12_says 12 = .ok (.dup, 1) := by decide +kernel
theorem dX12_says_13 : decode cX12_says 13 = .ok (.getfield 423, 3) := by decide +kernel
theorem dX12_says_16 : decode cX12_says 16 = .ok (.iconst 1, 1) := by decide +kernel
theorem dX12_says_17 : decode cX12_says 17 = .ok (.iadd, 1) := by decide +kernel
theorem dX12_says_18 : decode cX12_says 18 = .ok (.putfield 423, 3) := by decide +kernel
theorem dX12_says_21 : decode cX12_says 21 = .ok (.return_, 1) := by decide +kernel
theorem dX12_saysNumber_0 : decode cX12_saysNumber 0 = .ok (.iconst 1, 1) := by decide +kernel
theorem dX12_saysNumber_1 : decode cX12_saysNumber 1 = .ok (.istore_n 2, 1) := by decide +kernel
theorem dX12_saysNumber_2 : decode cX12_saysNumber 2 = .ok (.iload_n 1, 1) := by decide +kernel
theorem dX12_saysNumber_3 : decode cX12_saysNumber 3 = .ok (.iload_n 2, 1) := by decide +kernel
theorem dX12_saysNumber_4 : decode cX12_saysNumber 4 = .ok (.idiv, 1) := by decide +kernel
theorem dX12_saysNumber_5 : decode cX12_saysNumber 5 = .ok (.bipush 9, 2) := by decide +kernel
theorem dX12_saysNumber_7 : decode cX12_saysNumber 7 = .ok (.if_icmp .le 11, 3) := by decide +kernel
theorem dX12_saysNumber_10 : decode cX12_saysNumber 10 = .ok (.iload_n 2, 1) := by decide +kernel
theorem dX12_saysNumber_11 : decode cX12_saysNumber 11 = .ok (.bipush 10, 2) := by decide +kernel
theorem dX12_saysNumber_13 : decode cX12_saysNumber 13 = .ok (.imul, 1) := by decide +kernel
theorem dX12_saysNumber_14 : decode cX12_saysNumber 14 = .ok (.istore_n 2, 1) := by decide +kernel
theorem dX12_saysNumber_15 : decode cX12_saysNumber 15 = .ok (.goto (-13), 3) := by decide +kernel
theorem dX12_saysNumber_18 : decode cX12_saysNumber 18 = .ok (.iload_n 2, 1) := by decide +kernel
theorem dX12_saysNumber_19 : decode cX12_saysNumber 19 = .ok (.ifCond .le 24, 3) := by decide +kernel
theorem dX12_saysNumber_22 : decode cX12_saysNumber 22 = .ok (.aload_n 0, 1) := by decide +kernel
theorem dX12_saysNumber_23 : decode cX12_saysNumber 23 = .ok (.bipush 48, 2) := by decide +kernel
theorem dX12_saysNumber_25 : decode cX12_saysNumber 25 = .ok (.iload_n 1, 1) := by decide +kernel
theorem dX12_saysNumber_26 : decode cX12_saysNumber 26 = .ok (.iload_n 2, 1) := by decide +kernel
theorem dX12_saysNumber_27 : decode cX12_saysNumber 27 = .ok (.idiv, 1) := by decide +kernel
theorem dX12_saysNumber_28 : decode cX12_saysNumber 28 = .ok (.bipush 10, 2) := by decide +kernel
theorem dX12_saysNumber_30 : decode cX12_saysNumber 30 = .ok (.irem, 1) := by decide +kernel
theorem dX12_saysNumber_31 : decode cX12_saysNumber 31 = .ok (.iadd, 1) := by decide +kernel
theorem dX12_saysNumber_32 : decode cX12_saysNumber 32 = .ok (.invokevirtual 426, 3) := by decide +kernel
theorem dX12_saysNumber_35 : decode cX12_saysNumber 35 = .ok (.iload_n 2, 1) := by decide +kernel
theorem dX12_saysNumber_36 : decode cX12_saysNumber 36 = .ok (.bipush 10, 2) := by decide +kernel
theorem dX12_saysNumber_38 : decode cX12_saysNumber 38 = .ok (.idiv, 1) := by decide +kernel
theorem dX12_saysNumber_39 : decode cX12_saysNumber 39 = .ok (.istore_n 2, 1) := by decide +kernel
theorem dX12_saysNumber_40 : decode cX12_saysNumber 40 = .ok (.goto (-22), 3) := by decide +kernel
theorem dX12_saysNumber_43 : decode cX12_saysNumber 43 = .ok (.return_, 1) := by decide +kernel
theorem dX12_format_0 : decode cX12_format 0 = .ok (.aload_n 0, 1) := by decide +kernel
theorem dX12_format_1 : decode cX12_format 1 = .ok (.iconst 0, 1) := by decide +kernel
theorem dX12_format_2 : decode cX12_format 2 = .ok (.putfield 93, 3) := by decide +kernel
theorem dX12_format_5 : decode cX12_format 5 = .ok (.aload_n 0, 1) := by decide +kernel
theorem dX12_format_6 : decode cX12_format 6 = .ok (.iload_n 1, 1) := by decide +kernel
theorem dX12_format_7 : decode cX12_format 7 = .ok (.invokevirtual 375, 3) := by decide +kernel
theorem dX12_format_10 : decode cX12_format 10 = .ok (.ifCond .eq 5, 3) := by decide +kernel
theorem dX12_format_13 : decode cX12_format 13 = .ok (.iconst 0, 1) := by decide +kernel
theorem dX12_format_14 : decode cX12_format 14 = .ok (.ireturn, 1) := by decide +kernel
theorem dX12_format_15 : decode cX12_format 15 = .ok (.aload_n 0, 1) := by decide +kernel
theorem dX12_format_16 : decode cX12_format 16 = .ok (.iconst 0, 1) := by decide +kernel
theorem dX12_format_17 : decode cX12_format 17 = .ok (.putfield 423, 3) := by decide +kernel
theorem dX12_format_20 : decode cX12_format 20 = .ok (.aload_n 0, 1) := by decide +kernel
theorem dX12_format_21 : decode cX12_format 21 = .ok (.iload_n 1, 1) := by decide +kernel
theorem dX12_format_22 : decode cX12_format 22 = .ok (.invokevirtual 301, 3) := by decide +kernel
theorem dX12_format_25 : decode cX12_format 25 = .ok (.aload_n 0, 1) := by decide +kernel
theorem dX12_format_26 : decode cX12_format 26 = .ok (.getfield 271, 3) := by decide +kernel
theorem dX12_format_29 : decode cX12_format 29 = .ok (.ifCond .ne 9, 3) := by decide +kernel
theorem dX12_format_32 : decode cX12_format 32 = .ok (.aload_n 0, 1) := by decide +kernel
theorem dX12_format_33 : decode cX12_format 33 = .ok (.bipush 46, 2) := by decide +kernel
theorem dX12_format_35 : decode cX12_format 35 = .ok (.invokevirtual 426, 3) := by decide +kernel
theorem dX12_format_38 : decode cX12_format 38 = .ok (.iconst 0, 1) := by decide +kernel
theorem dX12_format_39 : decode cX12_format 39 = .ok (.istore_n 2, 1) := by decide +kernel
theorem dX12_format_40 : decode cX12_format 40 = .ok (.iload_n 2, 1) := by decide +kernel
theorem dX12_format_41 : decode cX12_format 41 = .ok (.aload_n 0, 1) := by decide +kernel
theorem dX12_format_42 : decode cX12_format 42 = .ok (.getfield 271, 3) := by decide +kernel
theorem dX12_format_45 : decode cX12_format 45 = .ok (.if_icmp .ge 74, 3) := by decide +kernel
theorem dX12_format_48 : decode cX12_format 48 = .ok (.iload_n 2, 1) := by decide +kernel
theorem dX12_format_49 : decode cX12_format 49 = .ok (.ifCond .le 9, 3) := by decide +kernel
theorem dX12_format_52 : decode cX12_format 52 = .ok (.aload_n 0, 1) := by decide +kernel
theorem dX12_format_53 : decode cX12_format 53 = .ok (.bipush 32, 2) := by decide +kernel
theorem dX12_format_55 : decode cX12_format 55 = .ok (.invokevirtual 426, 3) := by decide +kernel
theorem dX12_format_58 : decode cX12_format 58 = .ok (.aload_n 0, 1) := by decide +kernel
theorem dX12_format_59 : decode cX12_format 59 = .ok (.aload_n 0, 1) := by decide +kernel
theorem dX12_format_60 : decode cX12_format 60 = .ok (.getfield 50, 3) := by decide +kernel
theorem dX12_format_63 : decode cX12_format 63 = .ok (.iload_n 2, 1) := by decide +kernel
theorem dX12_format_64 : decode cX12_format 64 = .ok (.iaload, 1) := by decide +kernel
theorem dX12_format_65 : decode cX12_format 65 = .ok (.iconst 1, 1) := by decide +kernel
theorem dX12_format_66 : decode cX12_format 66 = .ok (.iand, 1) := by decide +kernel
theorem dX12_format_67 : decode cX12_format 67 = .ok (.iconst 1, 1) := by decide +kernel
theorem dX12_format_68 : decode cX12_format 68 = .ok (.if_icmp .ne 8, 3) := by decide +kernel
theorem dX12_format_71 : decode cX12_format 71 = .ok (.bipush 43, 2) := by decide +kernel
theorem dX12_format_73 : decode cX12_format 73 = .ok (.goto 5, 3) := by decide +kernel
theorem dX12_format_76 : decode cX12_format 76 = .ok (.bipush 45, 2) := by decide +kernel
theorem dX12_format_78 : decode cX12_format 78 = .ok (.invokevirtual 426, 3) := by decide +kernel
theorem dX12_format_81 : decode cX12_format 81 = .ok (.aload_n 0, 1) := by decide +kernel
theorem dX12_format_82 : decode cX12_format 82 = .ok (.aload_n 0, 1) := by decide +kernel
theorem dX12_format_83 : decode cX12_format 83 = .ok (.getfield 50, 3) := by decide +kernel
theorem dX12_format_86 : decode cX12_format 86 = .ok (.iload_n 2, 1) := by decide +kernel
theorem dX12_format_87 : decode cX12_format 87 = .ok (.iaload, 1) := by decide +kernel
theorem dX12_format_88 : decode cX12_format 88 = .ok (.iconst 2, 1) := by decide +kernel
theorem dX12_format_89 : decode cX12_format 89 = .ok (.idiv, 1) := by decide +kernel
theorem dX12_format_90 : decode cX12_format 90 = .ok (.invokevirtual 429, 3) := by decide +kernel
theorem dX12_format_93 : decode cX12_format 93 = .ok (.aload_n 0, 1) := by decide +kernel
theorem dX12_format_94 : decode cX12_format 94 = .ok (.bipush 64, 2) := by decide +kernel
theorem dX12_format_96 : decode cX12_format 96 = .ok (.invokevirtual 426, 3) := by decide +kernel
theorem dX12_format_99 : decode cX12_format 99 = .ok (.aload_n 0, 1) := by decide +kernel
theorem dX12_format_100 : decode cX12_format 100 = .ok (.aload_n 0, 1) := by decide +kernel
theorem dX12_format_101 : decode cX12_format 101 = .ok (.aload_n 0, 1) := by decide +kernel
theorem dX12_format_102 : decode cX12_format 102 = .ok (.getfield 50, 3) := by decide +kernel
theorem dX12_format_105 : decode cX12_format 105 = .ok (.iload_n 2, 1) := by decide +kernel
theorem dX12_format_106 : decode cX12_format 106 = .ok (.iaload, 1) := by decide +kernel
theorem dX12_format_107 : decode cX12_format 107 = .ok (.invokevirtual 283, 3) := by decide +kernel
theorem dX12_format_110 : decode cX12_format 110 = .ok (.invokevirtual 429, 3) := by decide +kernel
theorem dX12_format_113 : decode cX12_format 113 = .ok (.iinc 2 1, 3) := by decide +kernel
theorem dX12_format_116 : decode cX12_format 116 = .ok (.goto (-76), 3) := by decide +kernel
theorem dX12_format_119 : decode cX12_format 119 = .ok (.aload_n 0, 1) := by decide +kernel
theorem dX12_format_120 : decode cX12_format 120 = .ok (.getfield 423, 3) := by decide +kernel
theorem dX12_format_123 : decode cX12_format 123 = .ok (.ireturn, 1) := by decide +kernel
theorem dX12_formattedByte_0 : decode cX12_formattedByte 0 = .ok (.aload_n 0, 1) := by decide +kernel
theorem dX12_formattedByte_1 : decode cX12_formattedByte 1 = .ok (.iconst 0, 1) := by decide +kernel
theorem dX12_formattedByte_2 : decode cX12_formattedByte 2 = .ok (.putfield 93, 3) := by decide +kernel
theorem dX12_formattedByte_5 : decode cX12_formattedByte 5 = .ok (.iload_n 1, 1) := by decide +kernel
theorem dX12_formattedByte_6 : decode cX12_formattedByte 6 = .ok (.i2l, 1) := by decide +kernel
theorem dX12_formattedByte_7 : decode cX12_formattedByte 7 = .ok (.lconst 0, 1) := by decide +kernel
theorem dX12_formattedByte_8 : decode cX12_formattedByte 8 = .ok (.aload_n 0, 1) := by decide +kernel
theorem dX12_formattedByte_9 : decode cX12_formattedByte 9 = .ok (.getfield 423, 3) := by decide +kernel
theorem dX12_formattedByte_12 : decode cX12_formattedByte 12 = .ok (.iconst 1, 1) := by decide +kernel
theorem dX12_formattedByte_13 : decode cX12_formattedByte 13 = .ok (.isub, 1) := by decide +kernel
theorem dX12_formattedByte_14 : decode cX12_formattedByte 14 = .ok (.i2l, 1) := by decide +kernel
theorem dX12_formattedByte_15 : decode cX12_formattedByte 15 = .ok (.invokestatic 197, 3) := by decide +kernel
theorem dX12_formattedByte_18 : decode cX12_formattedByte 18 = .ok (.ifCond .eq 12, 3) := by decide +kernel
theorem dX12_formattedByte_21 : decode cX12_formattedByte 21 = .ok (.aload_n 0, 1) := by decide +kernel
theorem dX12_formattedByte_22 : decode cX12_formattedByte 22 = .ok (.getfield 74, 3) := by decide +kernel
theorem dX12_formattedByte_25 : decode cX12_formattedByte 25 = .ok (.iload_n 1, 1) := by decide +kernel
theorem dX12_formattedByte_26 : decode cX12_formattedByte 26 = .ok (.baload, 1) := by decide +kernel
theorem dX12_formattedByte_27 : decode cX12_formattedByte 27 = .ok (.goto 4, 3) := by decide +kernel
theorem dX12_formattedByte_30 : decode cX12_formattedByte 30 = .ok (.iconst (-1), 1) := by decide +kernel
theorem dX12_formattedByte_31 : decode cX12_formattedByte 31 = .ok (.ireturn, 1) := by decide +kernel
theorem dX12_adds_0 : decode cX12_adds 0 = .ok (.aload_n 0, 1) := by decide +kernel
theorem dX12_adds_1 : decode cX12_adds 1 = .ok (.getfield 78, 3) := by decide +kernel
theorem dX12_adds_4 : decode cX12_adds 4 = .ok (.aload_n 0, 1) := by decide +kernel
theorem dX12_adds_5 : decode cX12_adds 5 = .ok (.getfield 432, 3) := by decide +kernel
theorem dX12_adds_8 : decode cX12_adds 8 = .ok (.iload_n 1, 1) := by decide +kernel
theorem dX12_adds_9 : decode cX12_adds 9 = .ok (.iastore, 1) := by decide +kernel
theorem dX12_adds_10 : decode cX12_adds 10 = .ok (.aload_n 0, 1) := by decide +kernel
theorem dX12_adds_11 : decode cX12_adds 11 = .ok (.dup, 1) := by decide +kernel
theorem dX12_adds_12 : decode cX12_adds 12 = .ok (.getfield 432, 3) := by decide +kernel
theorem dX12_adds_15 : decode cX12_adds 15 = .ok (.iconst 1, 1) := by decide +kernel
theorem dX12_adds_16 : decode cX12_adds 16 = .ok (.iadd, 1) := by decide +kernel
theorem dX12_adds_17 : decode cX12_adds 17 = .ok (.putfield 432, 3) := by decide +kernel
theorem dX12_adds_20 : decode cX12_adds 20 = .ok (.return_, 1) := by decide +kernel
theorem dX12_propertyHere_0 : decode cX12_propertyHere 0 = .ok (.aload_n 0, 1) := by decide +kernel
theorem dX12_propertyHere_1 : decode cX12_propertyHere 1 = .ok (.ldc2_w 435, 3) := by decide +kernel
theorem dX12_propertyHere_4 : decode cX12_propertyHere 4 = .ok (.invokevirtual 187, 3) := by decide +kernel
theorem dX12_propertyHere_7 : decode cX12_propertyHere 7 = .ok (.ifCond .eq 5, 3) := by decide +kernel
theorem dX12_propertyHere_10 : decode cX12_propertyHere 10 = .ok (.iconst 0, 1) := by decide +kernel
theorem dX12_propertyHere_11 : decode cX12_propertyHere 11 = .ok (.ireturn, 1) := by decide +kernel
theorem dX12_propertyHere_12 : decode cX12_propertyHere 12 = .ok (.aload_n 0, 1) := by decide +kernel
theorem dX12_propertyHere_13 : decode cX12_propertyHere 13 = .ok (.ldc2_w 437, 3) := by decide +kernel
theorem dX12_propertyHere_16 : decode cX12_propertyHere 16 = .ok (.invokevirtual 187, 3) := by decide +kernel
theorem dX12_propertyHere_19 : decode cX12_propertyHere 19 = .ok (.ifCond .eq 5, 3) := by decide +kernel
theorem dX12_propertyHere_22 : decode cX12_propertyHere 22 = .ok (.iconst 1, 1) := by decide +kernel
theorem dX12_propertyHere_23 : decode cX12_propertyHere 23 = .ok (.ireturn, 1) := by decide +kernel
theorem dX12_propertyHere_24 : decode cX12_propertyHere 24 = .ok (.aload_n 0, 1) := by decide +kernel
theorem dX12_propertyHere_25 : decode cX12_propertyHere 25 = .ok (.ldc2_w 439, 3) := by decide +kernel
theorem dX12_propertyHere_28 : decode cX12_propertyHere 28 = .ok (.invokevirtual 187, 3) := by decide +kernel
theorem dX12_propertyHere_31 : decode cX12_propertyHere 31 = .ok (.ifCond .eq 5, 3) := by decide +kernel
theorem dX12_propertyHere_34 : decode cX12_propertyHere 34 = .ok (.iconst 2, 1) := by decide +kernel
theorem dX12_propertyHere_35 : decode cX12_propertyHere 35 = .ok (.ireturn, 1) := by decide +kernel
theorem dX12_propertyHere_36 : decode cX12_propertyHere 36 = .ok (.aload_n 0, 1) := by decide +kernel
theorem dX12_propertyHere_37 : decode cX12_propertyHere 37 = .ok (.ldc2_w 441, 3) := by decide +kernel
theorem dX12_propertyHere_40 : decode cX12_propertyHere 40 = .ok (.invokevirtual 187, 3) := by decide +kernel
theorem dX12_propertyHere_43 : decode cX12_propertyHere 43 = .ok (.ifCond .eq 5, 3) := by decide +kernel
theorem dX12_propertyHere_46 : decode cX12_propertyHere 46 = .ok (.iconst 3, 1) := by decide +kernel
theorem dX12_propertyHere_47 : decode cX12_propertyHere 47 = .ok (.ireturn, 1) := by decide +kernel
theorem dX12_propertyHere_48 : decode cX12_propertyHere 48 = .ok (.aload_n 0, 1) := by decide +kernel
theorem dX12_propertyHere_49 : decode cX12_propertyHere 49 = .ok (.ldc2_w 443, 3) := by decide +kernel
theorem dX12_propertyHere_52 : decode cX12_propertyHere 52 = .ok (.invokevirtual 187, 3) := by decide +kernel
theorem dX12_propertyHere_55 : decode cX12_propertyHere 55 = .ok (.ifCond .eq 5, 3) := by decide +kernel
theorem dX12_propertyHere_58 : decode cX12_propertyHere 58 = .ok (.iconst 4, 1) := by decide +kernel
theorem dX12_propertyHere_59 : decode cX12_propertyHere 59 = .ok (.ireturn, 1) := by decide +kernel
theorem dX12_propertyHere_60 : decode cX12_propertyHere 60 = .ok (.aload_n 0, 1) := by decide +kernel
theorem dX12_propertyHere_61 : decode cX12_propertyHere 61 = .ok (.ldc2_w 445, 3) := by decide +kernel
theorem dX12_propertyHere_64 : decode cX12_propertyHere 64 = .ok (.invokevirtual 187, 3) := by decide +kernel
theorem dX12_propertyHere_67 : decode cX12_propertyHere 67 = .ok (.ifCond .eq 5, 3) := by decide +kernel
theorem dX12_propertyHere_70 : decode cX12_propertyHere 70 = .ok (.iconst 5, 1) := by decide +kernel
theorem dX12_propertyHere_71 : decode cX12_propertyHere 71 = .ok (.ireturn, 1) := by decide +kernel
theorem dX12_propertyHere_72 : decode cX12_propertyHere 72 = .ok (.aload_n 0, 1) := by decide +kernel
theorem dX12_propertyHere_73 : decode cX12_propertyHere 73 = .ok (.ldc2_w 447, 3) := by decide +kernel
theorem dX12_propertyHere_76 : decode cX12_propertyHere 76 = .ok (.invokevirtual 187, 3) := by decide +kernel
theorem dX12_propertyHere_79 : decode cX12_propertyHere 79 = .ok (.ifCond .eq 6, 3) := by decide +kernel
theorem dX12_propertyHere_82 : decode cX12_propertyHere 82 = .ok (.bipush 6, 2) := by decide +kernel
theorem dX12_propertyHere_84 : decode cX12_propertyHere 84 = .ok (.ireturn, 1) := by decide +kernel
theorem dX12_propertyHere_85 : decode cX12_propertyHere 85 = .ok (.aload_n 0, 1) := by decide +kernel
theorem dX12_propertyHere_86 : decode cX12_propertyHere 86 = .ok (.ldc2_w 449, 3) := by decide +kernel
theorem dX12_propertyHere_89 : decode cX12_propertyHere 89 = .ok (.invokevirtual 187, 3) := by decide +kernel
theorem dX12_propertyHere_92 : decode cX12_propertyHere 92 = .ok (.ifCond .eq 6, 3) := by decide +kernel
theorem dX12_propertyHere_95 : decode cX12_propertyHere 95 = .ok (.bipush 7, 2) := by decide +kernel
theorem dX12_propertyHere_97 : decode cX12_propertyHere 97 = .ok (.ireturn, 1) := by decide +kernel
theorem dX12_propertyHere_98 : decode cX12_propertyHere 98 = .ok (.aload_n 0, 1) := by decide +kernel
theorem dX12_propertyHere_99 : decode cX12_propertyHere 99 = .ok (.ldc2_w 239, 3) := by decide +kernel
theorem dX12_propertyHere_102 : decode cX12_propertyHere 102 = .ok (.invokevirtual 187, 3) := by decide +kernel
theorem dX12_propertyHere_105 : decode cX12_propertyHere 105 = .ok (.ifCond .eq 8, 3) := by decide +kernel
theorem dX12_propertyHere_108 : decode cX12_propertyHere 108 = .ok (.bipush 8, 2) := by decide +kernel
theorem dX12_propertyHere_110 : decode cX12_propertyHere 110 = .ok (.goto 4, 3) := by decide +kernel
theorem dX12_propertyHere_113 : decode cX12_propertyHere 113 = .ok (.iconst (-1), 1) := by decide +kernel
theorem dX12_propertyHere_114 : decode cX12_propertyHere 114 = .ok (.ireturn, 1) := by decide +kernel
theorem dX12_valueRead_0 : decode cX12_valueRead 0 = .ok (.aload_n 0, 1) := by decide +kernel
theorem dX12_valueRead_1 : decode cX12_valueRead 1 = .ok (.invokevirtual 183, 3) := by decide +kernel
theorem dX12_valueRead_4 : decode cX12_valueRead 4 = .ok (.ifCond .ne 4, 3) := by decide +kernel
theorem dX12_valueRead_7 : decode cX12_valueRead 7 = .ok (.return_, 1) := by decide +kernel
theorem dX12_valueRead_8 : decode cX12_valueRead 8 = .ok (.aload_n 0, 1) := by decide +kernel
theorem dX12_valueRead_9 : decode cX12_valueRead 9 = .ok (.getfield 161, 3) := by decide +kernel
theorem dX12_valueRead_12 : decode cX12_valueRead 12 = .ok (.iconst 2, 1) := by decide +kernel
theorem dX12_valueRead_13 : decode cX12_valueRead 13 = .ok (.if_icmp .ne 21, 3) := by decide +kernel
theorem dX12_valueRead_16 : decode cX12_valueRead 16 = .ok (.aload_n 0, 1) := by decide +kernel
theorem dX12_valueRead_17 : decode cX12_valueRead 17 = .ok (.iconst 0, 1) := by decide +kernel
theorem dX12_valueRead_18 : decode cX12_valueRead 18 = .ok (.ldc_w 451, 3) := by decide +kernel
theorem dX12_valueRead_21 : decode cX12_valueRead 21 = .ok (.invokevirtual 215, 3) := by decide +kernel
theorem dX12_valueRead_24 : decode cX12_valueRead 24 = .ok (.istore_n 1, 1) := by decide +kernel
theorem dX12_valueRead_25 : decode cX12_valueRead 25 = .ok (.aload_n 0, 1) := by decide +kernel
theorem dX12_valueRead_26 : decode cX12_valueRead 26 = .ok (.bipush 100, 2) := by decide +kernel
theorem dX12_valueRead_28 : decode cX12_valueRead 28 = .ok (.iload_n 1, 1) := by decide +kernel
theorem dX12_valueRead_29 : decode cX12_valueRead 29 = .ok (.iadd, 1) := by decide +kernel
theorem dX12_valueRead_30 : decode cX12_valueRead 30 = .ok (.invokevirtual 452, 3) := by decide +kernel
theorem dX12_valueRead_33 : decode cX12_valueRead 33 = .ok (.return_, 1) := by decide +kernel
theorem dX12_valueRead_34 : decode cX12_valueRead 34 = .ok (.aload_n 0, 1) := by decide +kernel
theorem dX12_valueRead_35 : decode cX12_valueRead 35 = .ok (.invokevirtual 455, 3) := by decide +kernel
theorem dX12_valueRead_38 : decode cX12_valueRead 38 = .ok (.istore_n 1, 1) := by decide +kernel
theorem dX12_valueRead_39 : decode cX12_valueRead 39 = .ok (.iload_n 1, 1) := by decide +kernel
theorem dX12_valueRead_40 : decode cX12_valueRead 40 = .ok (.iconst (-1), 1) := by decide +kernel
theorem dX12_valueRead_41 : decode cX12_valueRead 41 = .ok (.if_icmp .ne 10, 3) := by decide +kernel
theorem dX12_valueRead_44 : decode cX12_valueRead 44 = .ok (.aload_n 0, 1) := by decide +kernel
theorem dX12_valueRead_45 : decode cX12_valueRead 45 = .ok (.iconst 1, 1) := by decide +kernel
theorem dX12_valueRead_46 : decode cX12_valueRead 46 = .ok (.invokevirtual 194, 3) := by decide +kernel
theorem dX12_valueRead_49 : decode cX12_valueRead 49 = .ok (.pop, 1) := by decide +kernel
theorem dX12_valueRead_50 : decode cX12_valueRead 50 = .ok (.return_, 1) := by decide +kernel
theorem dX12_valueRead_51 : decode cX12_valueRead 51 = .ok (.aload_n 0, 1) := by decide +kernel
theorem dX12_valueRead_52 : decode cX12_valueRead 52 = .ok (.iload_n 1, 1) := by decide +kernel
theorem dX12_valueRead_53 : decode cX12_valueRead 53 = .ok (.invokevirtual 452, 3) := by decide +kernel
theorem dX12_valueRead_56 : decode cX12_valueRead 56 = .ok (.aload_n 0, 1) := by decide +kernel
theorem dX12_valueRead_57 : decode cX12_valueRead 57 = .ok (.invokevirtual 180, 3) := by decide +kernel
theorem dX12_valueRead_60 : decode cX12_valueRead 60 = .ok (.return_, 1) := by decide +kernel
theorem dX12_goesIn_0 : decode cX12_goesIn 0 = .ok (.aload_n 0, 1) := by decide +kernel
theorem dX12_goesIn_1 : decode cX12_goesIn 1 = .ok (.getfield 458, 3) := by decide +kernel
theorem dX12_goesIn_4 : decode cX12_goesIn 4 = .ok (.bipush 6, 2) := by decide +kernel
theorem dX12_goesIn_6 : decode cX12_goesIn 6 = .ok (.if_icmp .ne 9, 3) := by decide +kernel
theorem dX12_goesIn_9 : decode cX12_goesIn 9 = .ok (.aload_n 0, 1) := by decide +kernel
theorem dX12_goesIn_10 : decode cX12_goesIn 10 = .ok (.iconst 3, 1) := by decide +kernel
theorem dX12_goesIn_11 : decode cX12_goesIn 11 = .ok (.invokevirtual 194, 3) := by decide +kernel
theorem dX12_goesIn_14 : decode cX12_goesIn 14 = .ok (.ireturn, 1) := by decide +kernel
theorem dX12_goesIn_15 : decode cX12_goesIn 15 = .ok (.aload_n 0, 1) := by decide +kernel
theorem dX12_goesIn_16 : decode cX12_goesIn 16 = .ok (.dup, 1) := by decide +kernel
theorem dX12_goesIn_17 : decode cX12_goesIn 17 = .ok (.getfield 458, 3) := by decide +kernel
theorem dX12_goesIn_20 : decode cX12_goesIn 20 = .ok (.iconst 1, 1) := by decide +kernel
theorem dX12_goesIn_21 : decode cX12_goesIn 21 = .ok (.iadd, 1) := by decide +kernel
theorem dX12_goesIn_22 : decode cX12_goesIn 22 = .ok (.putfield 458, 3) := by decide +kernel
theorem dX12_goesIn_25 : decode cX12_goesIn 25 = .ok (.aload_n 0, 1) := by decide +kernel
theorem dX12_goesIn_26 : decode cX12_goesIn 26 = .ok (.getfield 81, 3) := by decide +kernel
theorem dX12_goesIn_29 : decode cX12_goesIn 29 = .ok (.aload_n 0, 1) := by decide +kernel
theorem dX12_goesIn_30 : decode cX12_goesIn 30 = .ok (.getfield 461, 3) := by decide +kernel
theorem dX12_goesIn_33 : decode cX12_goesIn 33 = .ok (.iload_n 1, 1) := by decide +kernel
theorem dX12_goesIn_34 : decode cX12_goesIn 34 = .ok (.iastore, 1) := by decide +kernel
theorem dX12_goesIn_35 : decode cX12_goesIn 35 = .ok (.aload_n 0, 1) := by decide +kernel
theorem dX12_goesIn_36 : decode cX12_goesIn 36 = .ok (.dup, 1) := by decide +kernel
theorem dX12_goesIn_37 : decode cX12_goesIn 37 = .ok (.getfield 461, 3) := by decide +kernel
theorem dX12_goesIn_40 : decode cX12_goesIn 40 = .ok (.iconst 1, 1) := by decide +kernel
theorem dX12_goesIn_41 : decode cX12_goesIn 41 = .ok (.iadd, 1) := by decide +kernel
theorem dX12_goesIn_42 : decode cX12_goesIn 42 = .ok (.putfield 461, 3) := by decide +kernel
theorem dX12_goesIn_45 : decode cX12_goesIn 45 = .ok (.aload_n 0, 1) := by decide +kernel
theorem dX12_goesIn_46 : decode cX12_goesIn 46 = .ok (.invokevirtual 180, 3) := by decide +kernel
theorem dX12_goesIn_49 : decode cX12_goesIn 49 = .ok (.iconst 1, 1) := by decide +kernel
theorem dX12_goesIn_50 : decode cX12_goesIn 50 = .ok (.ireturn, 1) := by decide +kernel
theorem dX12_strength_0 : decode cX12_strength 0 = .ok (.iload_n 0, 1) := by decide +kernel
theorem dX12_strength_1 : decode cX12_strength 1 = .ok (.bipush 25, 2) := by decide +kernel
theorem dX12_strength_3 : decode cX12_strength 3 = .ok (.if_icmp .ne 7, 3) := by decide +kernel
theorem dX12_strength_6 : decode cX12_strength 6 = .ok (.iconst 1, 1) := by decide +kernel
theorem dX12_strength_7 : decode cX12_strength 7 = .ok (.goto 24, 3) := by decide +kernel
theorem dX12_strength_10 : decode cX12_strength 10 = .ok (.iload_n 0, 1) := by decide +kernel
theorem dX12_strength_11 : decode cX12_strength 11 = .ok (.bipush 24, 2) := by decide +kernel
theorem dX12_strength_13 : decode cX12_strength 13 = .ok (.if_icmp .ne 7, 3) := by decide +kernel
theorem dX12_strength_16 : decode cX12_strength 16 = .ok (.iconst 2, 1) := by decide +kernel
theorem dX12_strength_17 : decode cX12_strength 17 = .ok (.goto 14, 3) := by decide +kernel
theorem dX12_strength_20 : decode cX12_strength 20 = .ok (.iload_n 0, 1) := by decide +kernel
theorem dX12_strength_21 : decode cX12_strength 21 = .ok (.bipush 23, 2) := by decide +kernel
theorem dX12_strength_23 : decode cX12_strength 23 = .ok (.if_icmp .ne 7, 3) := by decide +kernel
theorem dX12_strength_26 : decode cX12_strength 26 = .ok (.iconst 3, 1) := by decide +kernel
theorem dX12_strength_27 : decode cX12_strength 27 = .ok (.goto 4, 3) := by decide +kernel
theorem dX12_strength_30 : decode cX12_strength 30 = .ok (.iconst 0, 1) := by decide +kernel
theorem dX12_strength_31 : decode cX12_strength 31 = .ok (.ireturn, 1) := by decide +kernel
theorem dX12_settles_0 : decode cX12_settles 0 = .ok (.aload_n 0, 1) := by decide +kernel
theorem dX12_settles_1 : decode cX12_settles 1 = .ok (.invokevirtual 183, 3) := by decide +kernel
theorem dX12_settles_4 : decode cX12_settles 4 = .ok (.ifCond .eq 78, 3) := by decide +kernel
theorem dX12_settles_7 : decode cX12_settles 7 = .ok (.aload_n 0, 1) := by decide +kernel
theorem dX12_settles_8 : decode cX12_settles 8 = .ok (.getfield 461, 3) := by decide +kernel
theorem dX12_settles_11 : decode cX12_settles 11 = .ok (.ifCond .le 71, 3) := by decide +kernel
theorem dX12_settles_14 : decode cX12_settles 14 = .ok (.aload_n 0, 1) := by decide +kernel
theorem dX12_settles_15 : decode cX12_settles 15 = .ok (.getfield 81, 3) := by decide +kernel
theorem dX12_settles_18 : decode cX12_settles 18 = .ok (.aload_n 0, 1) := by decide +kernel
theorem dX12_settles_19 : decode cX12_settles 19 = .ok (.getfield 461, 3) := by decide +kernel
theorem dX12_settles_22 : decode cX12_settles 22 = .ok (.iconst 1, 1) := by decide +kernel
theorem dX12_settles_23 : decode cX12_settles 23 = .ok (.isub, 1) := by decide +kernel
theorem dX12_settles_24 : decode cX12_settles 24 = .ok (.iaload, 1) := by decide +kernel
theorem dX12_settles_25 : decode cX12_settles 25 = .ok (.invokestatic 464, 3) := by decide +kernel
theorem dX12_settles_28 : decode cX12_settles 28 = .ok (.iload_n 1, 1) := by decide +kernel
theorem dX12_settles_29 : decode cX12_settles 29 = .ok (.if_icmp .lt 53, 3) := by decide +kernel
theorem dX12_settles_32 : decode cX12_settles 32 = .ok (.aload_n 0, 1) := by decide +kernel
theorem dX12_settles_33 : decode cX12_settles 33 = .ok (.dup, 1) := by decide +kernel
theorem dX12_settles_34 : decode cX12_settles 34 = .ok (.getfield 461, 3) := by decide +kernel
theorem dX12_settles_37 : decode cX12_settles 37 = .ok (.iconst 1, 1) := by decide +kernel
theorem dX12_settles_38 : decode cX12_settles 38 = .ok (.isub, 1) := by decide +kernel
theorem dX12_settles_39 : decode cX12_settles 39 = .ok (.putfield 461, 3) := by decide +kernel
theorem dX12_settles_42 : decode cX12_settles 42 = .ok (.aload_n 0, 1) := by decide +kernel
theorem dX12_settles_43 : decode cX12_settles 43 = .ok (.aload_n 0, 1) := by decide +kernel
theorem dX12_settles_44 : decode cX12_settles 44 = .ok (.getfield 81, 3) := by decide +kernel
theorem dX12_settles_47 : decode cX12_settles 47 = .ok (.aload_n 0, 1) := by decide +kernel
theorem dX12_settles_48 : decode cX12_settles 48 = .ok (.getfield 461, 3) := by decide +kernel
theorem dX12_settles_51 : decode cX12_settles 51 = .ok (.iaload, 1) := by decide +kernel
theorem dX12_settles_52 : decode cX12_settles 52 = .ok (.invokevirtual 452, 3) := by decide +kernel
theorem dX12_settles_55 : decode cX12_settles 55 = .ok (.aload_n 0, 1) := by decide +kernel
theorem dX12_settles_56 : decode cX12_settles 56 = .ok (.getfield 81, 3) := by decide +kernel
theorem dX12_settles_59 : decode cX12_settles 59 = .ok (.aload_n 0, 1) := by decide +kernel
theorem dX12_settles_60 : decode cX12_settles 60 = .ok (.getfield 461, 3) := by decide +kernel
theorem dX12_settles_63 : decode cX12_settles 63 = .ok (.iaload, 1) := by decide +kernel
theorem dX12_settles_64 : decode cX12_settles 64 = .ok (.bipush 23, 2) := by decide +kernel
theorem dX12_settles_66 : decode cX12_settles 66 = .ok (.if_icmp .ne (-66), 3) := by decide +kernel
theorem dX12_settles_69 : decode cX12_settles 69 = .ok (.aload_n 0, 1) := by decide +kernel
theorem dX12_settles_70 : decode cX12_settles 70 = .ok (.dup, 1) := by decide +kernel
theorem dX12_settles_71 : decode cX12_settles 71 = .ok (.getfield 458, 3) := by decide +kernel
theorem dX12_settles_74 : decode cX12_settles 74 = .ok (.iconst 1, 1) := by decide +kernel
theorem dX12_settles_75 : decode cX12_settles 75 = .ok (.isub, 1) := by decide +kernel
theorem dX12_settles_76 : decode cX12_settles 76 = .ok (.putfield 458, 3) := by decide +kernel
theorem dX12_settles_79 : decode cX12_settles 79 = .ok (.goto (-79), 3) := by decide +kernel
theorem dX12_settles_82 : decode cX12_settles 82 = .ok (.return_, 1) := by decide +kernel
theorem dX12_isInside_0 : decode cX12_isInside 0 = .ok (.iconst 0, 1) := by decide +kernel
theorem dX12_isInside_1 : decode cX12_isInside 1 = .ok (.istore_n 1, 1) := by decide +kernel
theorem dX12_isInside_2 : decode cX12_isInside 2 = .ok (.iload_n 1, 1) := by decide +kernel
theorem dX12_isInside_3 : decode cX12_isInside 3 = .ok (.aload_n 0, 1) := by decide +kernel
theorem dX12_isInside_4 : decode cX12_isInside 4 = .ok (.getfield 461, 3) := by decide +kernel
theorem dX12_isInside_7 : decode cX12_isInside 7 = .ok (.if_icmp .ge 21, 3) := by decide +kernel
theorem dX12_isInside_10 : decode cX12_isInside 10 = .ok (.aload_n 0, 1) := by decide +kernel
theorem dX12_isInside_11 : decode cX12_isInside 11 = .ok (.getfield 81, 3) := by decide +kernel
theorem dX12_isInside_14 : decode cX12_isInside 14 = .ok (.iload_n 1, 1) := by decide +kernel
theorem dX12_isInside_15 : decode cX12_isInside 15 = .ok (.iaload, 1) := by decide +kernel
theorem dX12_isInside_16 : decode cX12_isInside 16 = .ok (.iconst 1, 1) := by decide +kernel
theorem dX12_isInside_17 : decode cX12_isInside 17 = .ok (.if_icmp .ne 5, 3) := by decide +kernel
theorem dX12_isInside_20 : decode cX12_isInside 20 = .ok (.iconst 1, 1) := by decide +kernel
theorem dX12_isInside_21 : decode cX12_isInside 21 = .ok (.ireturn, 1) := by decide +kernel
theorem dX12_isInside_22 : decode cX12_isInside 22 = .ok (.iinc 1 1, 3) := by decide +kernel
theorem dX12_isInside_25 : decode cX12_isInside 25 = .ok (.goto (-23), 3) := by decide +kernel
theorem dX12_isInside_28 : decode cX12_isInside 28 = .ok (.iconst 0, 1) := by decide +kernel
theorem dX12_isInside_29 : decode cX12_isInside 29 = .ok (.ireturn, 1) := by decide +kernel
theorem dX12_comparisonRead_0 : decode cX12_comparisonRead 0 = .ok (.aload_n 0, 1) := by decide +kernel
theorem dX12_comparisonRead_1 : decode cX12_comparisonRead 1 = .ok (.ldc2_w 467, 3) := by decide +kernel
theorem dX12_comparisonRead_4 : decode cX12_comparisonRead 4 = .ok (.invokevirtual 187, 3) := by decide +kernel
theorem dX12_comparisonRead_7 : decode cX12_comparisonRead 7 = .ok (.ifCond .ne 12, 3) := by decide +kernel
theorem dX12_comparisonRead_10 : decode cX12_comparisonRead 10 = .ok (.aload_n 0, 1) := by decide +kernel
theorem dX12_comparisonRead_11 : decode cX12_comparisonRead 11 = .ok (.bipush 40, 2) := by decide +kernel
theorem dX12_comparisonRead_13 : decode cX12_comparisonRead 13 = .ok (.invokevirtual 191, 3) := by decide +kernel
theorem dX12_comparisonRead_16 : decode cX12_comparisonRead 16 = .ok (.ifCond .eq 27, 3) := by decide +kernel
theorem dX12_comparisonRead_19 : decode cX12_comparisonRead 19 = .ok (.aload_n 0, 1) := by decide +kernel
theorem dX12_comparisonRead_20 : decode cX12_comparisonRead 20 = .ok (.aload_n 0, 1) := by decide +kernel
theorem dX12_comparisonRead_21 : decode cX12_comparisonRead 21 = .ok (.ldc2_w 467, 3) := by decide +kernel
theorem dX12_comparisonRead_24 : decode cX12_comparisonRead 24 = .ok (.invokevirtual 187, 3) := by decide +kernel
theorem dX12_comparisonRead_27 : decode cX12_comparisonRead 27 = .ok (.ifCond .eq 8, 3) := by decide +kernel
theorem dX12_comparisonRead_30 : decode cX12_comparisonRead 30 = .ok (.bipush 23, 2) := by decide +kernel
theorem dX12_comparisonRead_32 : decode cX12_comparisonRead 32 = .ok (.goto 4, 3) := by decide +kernel
theorem dX12_comparisonRead_35 : decode cX12_comparisonRead 35 = .ok (.iconst 1, 1) := by decide +kernel
theorem dX12_comparisonRead_36 : decode cX12_comparisonRead 36 = .ok (.invokevirtual 469, 3) := by decide +kernel
theorem dX12_comparisonRead_39 : decode cX12_comparisonRead 39 = .ok (.ifCond .ne (-39), 3) := by decide +kernel
theorem dX12_comparisonRead_42 : decode cX12_comparisonRead 42 = .ok (.return_, 1) := by decide +kernel
theorem dX12_comparisonRead_43 : decode cX12_comparisonRead 43 = .ok (.aload_n 0, 1) := by decide +kernel
theorem dX12_comparisonRead_44 : decode cX12_comparisonRead 44 = .ok (.invokevirtual 472, 3) := by decide +kernel
theorem dX12_comparisonRead_47 : decode cX12_comparisonRead 47 = .ok (.aload_n 0, 1) := by decide +kernel
theorem dX12_comparisonRead_48 : decode cX12_comparisonRead 48 = .ok (.bipush 60, 2) := by decide +kernel
theorem dX12_comparisonRead_50 : decode cX12_comparisonRead 50 = .ok (.invokevirtual 191, 3) := by decide +kernel
theorem dX12_comparisonRead_53 : decode cX12_comparisonRead 53 = .ok (.ifCond .eq 8, 3) := by decide +kernel
theorem dX12_comparisonRead_56 : decode cX12_comparisonRead 56 = .ok (.bipush 20, 2) := by decide +kernel
theorem dX12_comparisonRead_58 : decode cX12_comparisonRead 58 = .ok (.goto 19, 3) := by decide +kernel
theorem dX12_comparisonRead_61 : decode cX12_comparisonRead 61 = .ok (.aload_n 0, 1) := by decide +kernel
theorem dX12_comparisonRead_62 : decode cX12_comparisonRead 62 = .ok (.bipush 62, 2) := by decide +kernel
theorem dX12_comparisonRead_64 : decode cX12_comparisonRead 64 = .ok (.invokevirtual 191, 3) := by decide +kernel
theorem dX12_comparisonRead_67 : decode cX12_comparisonRead 67 = .ok (.ifCond .eq 8, 3) := by decide +kernel
theorem dX12_comparisonRead_70 : decode cX12_comparisonRead 70 = .ok (.bipush 22, 2) := by decide +kernel
theorem dX12_comparisonRead_72 : decode cX12_comparisonRead 72 = .ok (.goto 5, 3) := by decide +kernel
theorem dX12_comparisonRead_75 : decode cX12_comparisonRead 75 = .ok (.bipush 21, 2) := by decide +kernel
theorem dX12_comparisonRead_77 : decode cX12_comparisonRead 77 = .ok (.istore_n 1, 1) := by decide +kernel
theorem dX12_comparisonRead_78 : decode cX12_comparisonRead 78 = .ok (.iload_n 1, 1) := by decide +kernel
theorem dX12_comparisonRead_79 : decode cX12_comparisonRead 79 = .ok (.bipush 21, 2) := by decide +kernel
theorem dX12_comparisonRead_81 : decode cX12_comparisonRead 81 = .ok (.if_icmp .ne 18, 3) := by decide +kernel
theorem dX12_comparisonRead_84 : decode cX12_comparisonRead 84 = .ok (.aload_n 0, 1) := by decide +kernel
theorem dX12_comparisonRead_85 : decode cX12_comparisonRead 85 = .ok (.bipush 61, 2) := by decide +kernel
theorem dX12_comparisonRead_87 : decode cX12_comparisonRead 87 = .ok (.invokevirtual 191, 3) := by decide +kernel
theorem dX12_comparisonRead_90 : decode cX12_comparisonRead 90 = .ok (.ifCond .ne 9, 3) := by decide +kernel
theorem dX12_comparisonRead_93 : decode cX12_comparisonRead 93 = .ok (.aload_n 0, 1) := by decide +kernel
theorem dX12_comparisonRead_94 : decode cX12_comparisonRead 94 = .ok (.iconst 1, 1) := by decide +kernel
theorem dX12_comparisonRead_95 : decode cX12_comparisonRead 95 = .ok (.invokevirtual 194, 3) := by decide +kernel
theorem dX12_comparisonRead_98 : decode cX12_comparisonRead 98 = .ok (.pop, 1) := by decide +kernel
theorem dX12_comparisonRead_99 : decode cX12_comparisonRead 99 = .ok (.aload_n 0, 1) := by decide +kernel
theorem dX12_comparisonRead_100 : decode cX12_comparisonRead 100 = .ok (.invokevirtual 183, 3) := by decide +kernel
theorem dX12_comparisonRead_103 : decode cX12_comparisonRead 103 = .ok (.ifCond .ne 4, 3) := by decide +kernel
theorem dX12_comparisonRead_106 : decode cX12_comparisonRead 106 = .ok (.return_, 1) := by decide +kernel
theorem dX12_comparisonRead_107 : decode cX12_comparisonRead 107 = .ok (.aload_n 0, 1) := by decide +kernel
theorem dX12_comparisonRead_108 : decode cX12_comparisonRead 108 = .ok (.invokevirtual 180, 3) := by decide +kernel
theorem dX12_comparisonRead_111 : decode cX12_comparisonRead 111 = .ok (.aload_n 0, 1) := by decide +kernel
theorem dX12_comparisonRead_112 : decode cX12_comparisonRead 112 = .ok (.invokevirtual 472, 3) := by decide +kernel
theorem dX12_comparisonRead_115 : decode cX12_comparisonRead 115 = .ok (.aload_n 0, 1) := by decide +kernel
theorem dX12_comparisonRead_116 : decode cX12_comparisonRead 116 = .ok (.invokevirtual 183, 3) := by decide +kernel
theorem dX12_comparisonRead_119 : decode cX12_comparisonRead 119 = .ok (.ifCond .eq 8, 3) := by decide +kernel
theorem dX12_comparisonRead_122 : decode cX12_comparisonRead 122 = .ok (.aload_n 0, 1) := by decide +kernel
theorem dX12_comparisonRead_123 : decode cX12_comparisonRead 123 = .ok (.iload_n 1, 1) := by decide +kernel
theorem dX12_comparisonRead_124 : decode cX12_comparisonRead 124 = .ok (.invokevirtual 452, 3) := by decide +kernel
theorem dX12_comparisonRead_127 : decode cX12_comparisonRead 127 = .ok (.return_, 1) := by decide +kernel
theorem dX12_closes_0 : decode cX12_closes 0 = .ok (.aload_n 0, 1) := by decide +kernel
theorem dX12_closes_1 : decode cX12_closes 1 = .ok (.iconst 3, 1) := by decide +kernel
theorem dX12_closes_2 : decode cX12_closes 2 = .ok (.invokevirtual 475, 3) := by decide +kernel
theorem dX12_closes_5 : decode cX12_closes 5 = .ok (.aload_n 0, 1) := by decide +kernel
theorem dX12_closes_6 : decode cX12_closes 6 = .ok (.bipush 41, 2) := by decide +kernel
theorem dX12_closes_8 : decode cX12_closes 8 = .ok (.invokevirtual 191, 3) := by decide +kernel
theorem dX12_closes_11 : decode cX12_closes 11 = .ok (.ifCond .eq 47, 3) := by decide +kernel
theorem dX12_closes_14 : decode cX12_closes 14 = .ok (.aload_n 0, 1) := by decide +kernel
theorem dX12_closes_15 : decode cX12_closes 15 = .ok (.invokevirtual 478, 3) := by decide +kernel
theorem dX12_closes_18 : decode cX12_closes 18 = .ok (.ifCond .eq 40, 3) := by decide +kernel
theorem dX12_closes_21 : decode cX12_closes 21 = .ok (.aload_n 0, 1) := by decide +kernel
theorem dX12_closes_22 : decode cX12_closes 22 = .ok (.iconst 1, 1) := by decide +kernel
theorem dX12_closes_23 : decode cX12_closes 23 = .ok (.invokevirtual 475, 3) := by decide +kernel
theorem dX12_closes_26 : decode cX12_closes 26 = .ok (.aload_n 0, 1) := by decide +kernel
theorem dX12_closes_27 : decode cX12_closes 27 = .ok (.dup, 1) := by decide +kernel
theorem dX12_closes_28 : decode cX12_closes 28 = .ok (.getfield 461, 3) := by decide +kernel
theorem dX12_closes_31 : decode cX12_closes 31 = .ok (.iconst 1, 1) := by decide +kernel
theorem dX12_closes_32 : decode cX12_closes 32 = .ok (.isub, 1) := by decide +kernel
theorem dX12_closes_33 : decode cX12_closes 33 = .ok (.putfield 461, 3) := by decide +kernel
theorem dX12_closes_36 : decode cX12_closes 36 = .ok (.aload_n 0, 1) := by decide +kernel
theorem dX12_closes_37 : decode cX12_closes 37 = .ok (.dup, 1) := by decide +kernel
theorem dX12_closes_38 : decode cX12_closes 38 = .ok (.getfield 458, 3) := by decide +kernel
theorem dX12_closes_41 : decode cX12_closes 41 = .ok (.iconst 1, 1) := by decide +kernel
theorem dX12_closes_42 : decode cX12_closes 42 = .ok (.isub, 1) := by decide +kernel
theorem dX12_closes_43 : decode cX12_closes 43 = .ok (.putfield 458, 3) := by decide +kernel
theorem dX12_closes_46 : decode cX12_closes 46 = .ok (.aload_n 0, 1) := by decide +kernel
theorem dX12_closes_47 : decode cX12_closes 47 = .ok (.invokevirtual 180, 3) := by decide +kernel
theorem dX12_closes_50 : decode cX12_closes 50 = .ok (.aload_n 0, 1) := by decide +kernel
theorem dX12_closes_51 : decode cX12_closes 51 = .ok (.iconst 3, 1) := by decide +kernel
theorem dX12_closes_52 : decode cX12_closes 52 = .ok (.invokevirtual 475, 3) := by decide +kernel
theorem dX12_closes_55 : decode cX12_closes 55 = .ok (.goto (-50), 3) := by decide +kernel
theorem dX12_closes_58 : decode cX12_closes 58 = .ok (.return_, 1) := by decide +kernel
theorem dX12_reads_0 : decode cX12_reads 0 = .ok (.aload_n 0, 1) := by decide +kernel
theorem dX12_reads_1 : decode cX12_reads 1 = .ok (.iconst 0, 1) := by decide +kernel
theorem dX12_reads_2 : decode cX12_reads 2 = .ok (.putfield 432, 3) := by decide +kernel
theorem dX12_reads_5 : decode cX12_reads 5 = .ok (.aload_n 0, 1) := by decide +kernel
theorem dX12_reads_6 : decode cX12_reads 6 = .ok (.iconst 0, 1) := by decide +kernel
theorem dX12_reads_7 : decode cX12_reads 7 = .ok (.putfield 458, 3) := by decide +kernel
theorem dX12_reads_10 : decode cX12_reads 10 = .ok (.aload_n 0, 1) := by decide +kernel
theorem dX12_reads_11 : decode cX12_reads 11 = .ok (.iconst 0, 1) := by decide +kernel
theorem dX12_reads_12 : decode cX12_reads 12 = .ok (.putfield 461, 3) := by decide +kernel
theorem dX12_reads_15 : decode cX12_reads 15 = .ok (.aload_n 0, 1) := by decide +kernel
theorem dX12_reads_16 : decode cX12_reads 16 = .ok (.invokevirtual 183, 3) := by decide +kernel
theorem dX12_reads_19 : decode cX12_reads 19 = .ok (.istore_n 1, 1) := by decide +kernel
theorem dX12_reads_20 : decode cX12_reads 20 = .ok (.iload_n 1, 1) := by decide +kernel
theorem dX12_reads_21 : decode cX12_reads 21 = .ok (.ifCond .eq 103, 3) := by decide +kernel
theorem dX12_reads_24 : decode cX12_reads 24 = .ok (.aload_n 0, 1) := by decide +kernel
theorem dX12_reads_25 : decode cX12_reads 25 = .ok (.invokevirtual 481, 3) := by decide +kernel
theorem dX12_reads_28 : decode cX12_reads 28 = .ok (.aload_n 0, 1) := by decide +kernel
theorem dX12_reads_29 : decode cX12_reads 29 = .ok (.invokevirtual 183, 3) := by decide +kernel
theorem dX12_reads_32 : decode cX12_reads 32 = .ok (.ifCond .ne 4, 3) := by decide +kernel
theorem dX12_reads_35 : decode cX12_reads 35 = .ok (.return_, 1) := by decide +kernel
theorem dX12_reads_36 : decode cX12_reads 36 = .ok (.aload_n 0, 1) := by decide +kernel
theorem dX12_reads_37 : decode cX12_reads 37 = .ok (.invokevirtual 484, 3) := by decide +kernel
theorem dX12_reads_40 : decode cX12_reads 40 = .ok (.aload_n 0, 1) := by decide +kernel
theorem dX12_reads_41 : decode cX12_reads 41 = .ok (.ldc2_w 487, 3) := by decide +kernel
theorem dX12_reads_44 : decode cX12_reads 44 = .ok (.invokevirtual 187, 3) := by decide +kernel
theorem dX12_reads_47 : decode cX12_reads 47 = .ok (.ifCond .eq 8, 3) := by decide +kernel
theorem dX12_reads_50 : decode cX12_reads 50 = .ok (.bipush 24, 2) := by decide +kernel
theorem dX12_reads_52 : decode cX12_reads 52 = .ok (.goto 19, 3) := by decide +kernel
theorem dX12_reads_55 : decode cX12_reads 55 = .ok (.aload_n 0, 1) := by decide +kernel
theorem dX12_reads_56 : decode cX12_reads 56 = .ok (.ldc2_w 489, 3) := by decide +kernel
theorem dX12_reads_59 : decode cX12_reads 59 = .ok (.invokevirtual 187, 3) := by decide +kernel
theorem dX12_reads_62 : decode cX12_reads 62 = .ok (.ifCond .eq 8, 3) := by decide +kernel
theorem dX12_reads_65 : decode cX12_reads 65 = .ok (.bipush 25, 2) := by decide +kernel
theorem dX12_reads_67 : decode cX12_reads 67 = .ok (.goto 4, 3) := by decide +kernel
theorem dX12_reads_70 : decode cX12_reads 70 = .ok (.iconst 0, 1) := by decide +kernel
theorem dX12_reads_71 : decode cX12_reads 71 = .ok (.istore_n 2, 1) := by decide +kernel
theorem dX12_reads_72 : decode cX12_reads 72 = .ok (.iload_n 2, 1) := by decide +kernel
theorem dX12_reads_73 : decode cX12_reads 73 = .ok (.ifCond .eq 7, 3) := by decide +kernel
theorem dX12_reads_76 : decode cX12_reads 76 = .ok (.iconst 1, 1) := by decide +kernel
theorem dX12_reads_77 : decode cX12_reads 77 = .ok (.goto 4, 3) := by decide +kernel
theorem dX12_reads_80 : decode cX12_reads 80 = .ok (.iconst 0, 1) := by decide +kernel
theorem dX12_reads_81 : decode cX12_reads 81 = .ok (.istore_n 1, 1) := by decide +kernel
theorem dX12_reads_82 : decode cX12_reads 82 = .ok (.iload_n 1, 1) := by decide +kernel
theorem dX12_reads_83 : decode cX12_reads 83 = .ok (.ifCond .ne 6, 3) := by decide +kernel
theorem dX12_reads_86 : decode cX12_reads 86 = .ok (.goto (-66), 3) := by decide +kernel
theorem dX12_reads_89 : decode cX12_reads 89 = .ok (.aload_n 0, 1) := by decide +kernel
theorem dX12_reads_90 : decode cX12_reads 90 = .ok (.iload_n 2, 1) := by decide +kernel
theorem dX12_reads_91 : decode cX12_reads 91 = .ok (.invokestatic 464, 3) := by decide +kernel
theorem dX12_reads_94 : decode cX12_reads 94 = .ok (.invokevirtual 475, 3) := by decide +kernel
theorem dX12_reads_97 : decode cX12_reads 97 = .ok (.aload_n 0, 1) := by decide +kernel
theorem dX12_reads_98 : decode cX12_reads 98 = .ok (.getfield 81, 3) := by decide +kernel
theorem dX12_reads_101 : decode cX12_reads 101 = .ok (.aload_n 0, 1) := by decide +kernel
theorem dX12_reads_102 : decode cX12_reads 102 = .ok (.getfield 461, 3) := by decide +kernel
theorem dX12_reads_105 : decode cX12_reads 105 = .ok (.iload_n 2, 1) := by decide +kernel
theorem dX12_reads_106 : decode cX12_reads 106 = .ok (.iastore, 1) := by decide +kernel
theorem dX12_reads_107 : decode cX12_reads 107 = .ok (.aload_n 0, 1) := by decide +kernel
theorem dX12_reads_108 : decode cX12_reads 108 = .ok (.dup, 1) := by decide +kernel
theorem dX12_reads_109 : decode cX12_reads 109 = .ok (.getfield 461, 3) := by decide +kernel
theorem dX12_reads_112 : decode cX12_reads 112 = .ok (.iconst 1, 1) := by decide +kernel
theorem dX12_reads_113 : decode cX12_reads 113 = .ok (.iadd, 1) := by decide +kernel
theorem dX12_reads_114 : decode cX12_reads 114 = .ok (.putfield 461, 3) := by decide +kernel
theorem dX12_reads_117 : decode cX12_reads 117 = .ok (.aload_n 0, 1) := by decide +kernel
theorem dX12_reads_118 : decode cX12_reads 118 = .ok (.invokevirtual 180, 3) := by decide +kernel
theorem dX12_reads_121 : decode cX12_reads 121 = .ok (.goto (-101), 3) := by decide +kernel
theorem dX12_reads_124 : decode cX12_reads 124 = .ok (.aload_n 0, 1) := by decide +kernel
theorem dX12_reads_125 : decode cX12_reads 125 = .ok (.invokevirtual 183, 3) := by decide +kernel
theorem dX12_reads_128 : decode cX12_reads 128 = .ok (.ifCond .eq 23, 3) := by decide +kernel
theorem dX12_reads_131 : decode cX12_reads 131 = .ok (.aload_n 0, 1) := by decide +kernel
theorem dX12_reads_132 : decode cX12_reads 132 = .ok (.invokevirtual 478, 3) := by decide +kernel
theorem dX12_reads_135 : decode cX12_reads 135 = .ok (.ifCond .ne 10, 3) := by decide +kernel
theorem dX12_reads_138 : decode cX12_reads 138 = .ok (.aload_n 0, 1) := by decide +kernel
theorem dX12_reads_139 : decode cX12_reads 139 = .ok (.getfield 161, 3) := by decide +kernel
theorem dX12_reads_142 : decode cX12_reads 142 = .ok (.ifCond .eq 9, 3) := by decide +kernel
theorem dX12_reads_145 : decode cX12_reads 145 = .ok (.aload_n 0, 1) := by decide +kernel
theorem dX12_reads_146 : decode cX12_reads 146 = .ok (.iconst 1, 1) := by decide +kernel
theorem dX12_reads_147 : decode cX12_reads 147 = .ok (.invokevirtual 194, 3) := by decide +kernel
theorem dX12_reads_150 : decode cX12_reads 150 = .ok (.pop, 1) := by decide +kernel
theorem dX12_reads_151 : decode cX12_reads 151 = .ok (.aload_n 0, 1) := by decide +kernel
theorem dX12_reads_152 : decode cX12_reads 152 = .ok (.iconst 1, 1) := by decide +kernel
theorem dX12_reads_153 : decode cX12_reads 153 = .ok (.invokevirtual 475, 3) := by decide +kernel
theorem dX12_reads_156 : decode cX12_reads 156 = .ok (.return_, 1) := by decide +kernel
theorem dX12_propertyOf_0 : decode cX12_propertyOf 0 = .ok (.iload_n 1, 1) := by decide +kernel
theorem dX12_propertyOf_1 : decode cX12_propertyOf 1 = .ok (.tableswitch 100 0 7 #[47, 49, 56, 63, 70, 77, 84, 92], 47) := by decide +kernel
theorem dX12_propertyOf_48 : decode cX12_propertyOf 48 = .ok (.iload_n 2, 1) := by decide +kernel
theorem dX12_propertyOf_49 : decode cX12_propertyOf 49 = .ok (.ireturn, 1) := by decide +kernel
theorem dX12_propertyOf_50 : decode cX12_propertyOf 50 = .ok (.aload_n 0, 1) := by decide +kernel
theorem dX12_propertyOf_51 : decode cX12_propertyOf 51 = .ok (.iload_n 2, 1) := by decide +kernel
theorem dX12_propertyOf_52 : decode cX12_propertyOf 52 = .ok (.iconst 0, 1) := by decide +kernel
theorem dX12_propertyOf_53 : decode cX12_propertyOf 53 = .ok (.invokevirtual 274, 3) := by decide +kernel
theorem dX12_propertyOf_56 : decode cX12_propertyOf 56 = .ok (.ireturn, 1) := by decide +kernel
theorem dX12_propertyOf_57 : decode cX12_propertyOf 57 = .ok (.aload_n 0, 1) := by decide +kernel
theorem dX12_propertyOf_58 : decode cX12_propertyOf 58 = .ok (.iload_n 2, 1) := by decide +kernel
theorem dX12_propertyOf_59 : decode cX12_propertyOf 59 = .ok (.iconst 1, 1) := by decide +kernel
theorem dX12_propertyOf_60 : decode cX12_propertyOf 60 = .ok (.invokevirtual 274, 3) := by decide +kernel
theorem dX12_propertyOf_63 : decode cX12_propertyOf 63 = .ok (.ireturn, 1) := by decide +kernel
theorem dX12_propertyOf_64 : decode cX12_propertyOf 64 = .ok (.aload_n 0, 1) := by decide +kernel
theorem dX12_propertyOf_65 : decode cX12_propertyOf 65 = .ok (.iload_n 2, 1) := by decide +kernel
theorem dX12_propertyOf_66 : decode cX12_propertyOf 66 = .ok (.iconst 2, 1) := by decide +kernel
theorem dX12_propertyOf_67 : decode cX12_propertyOf 67 = .ok (.invokevirtual 274, 3) := by decide +kernel
theorem dX12_propertyOf_70 : decode cX12_propertyOf 70 = .ok (.ireturn, 1) := by decide +kernel
theorem dX12_propertyOf_71 : decode cX12_propertyOf 71 = .ok (.aload_n 0, 1) := by decide +kernel
theorem dX12_propertyOf_72 : decode cX12_propertyOf 72 = .ok (.iload_n 2, 1) := by decide +kernel
theorem dX12_propertyOf_73 : decode cX12_propertyOf 73 = .ok (.iconst 3, 1) := by decide +kernel
theorem dX12_propertyOf_74 : decode cX12_propertyOf 74 = .ok (.invokevirtual 274, 3) := by decide +kernel
theorem dX12_propertyOf_77 : decode cX12_propertyOf 77 = .ok (.ireturn, 1) := by decide +kernel
theorem dX12_propertyOf_78 : decode cX12_propertyOf 78 = .ok (.aload_n 0, 1) := by decide +kernel
theorem dX12_propertyOf_79 : decode cX12_propertyOf 79 = .ok (.iload_n 2, 1) := by decide +kernel
theorem dX12_propertyOf_80 : decode cX12_propertyOf 80 = .ok (.iconst 4, 1) := by decide +kernel
theorem dX12_propertyOf_81 : decode cX12_propertyOf 81 = .ok (.invokevirtual 274, 3) := by decide +kernel
theorem dX12_propertyOf_84 : decode cX12_propertyOf 84 = .ok (.ireturn, 1) := by decide +kernel
theorem dX12_propertyOf_85 : decode cX12_propertyOf 85 = .ok (.aload_n 0, 1) := by decide +kernel
theorem dX12_propertyOf_86 : decode cX12_propertyOf 86 = .ok (.iload_n 2, 1) := by decide +kernel
theorem dX12_propertyOf_87 : decode cX12_propertyOf 87 = .ok (.bipush 6, 2) := by decide +kernel
theorem dX12_propertyOf_89 : decode cX12_propertyOf 89 = .ok (.invokevirtual 274, 3) := by decide +kernel
theorem dX12_propertyOf_92 : decode cX12_propertyOf 92 = .ok (.ireturn, 1) := by decide +kernel
theorem dX12_propertyOf_93 : decode cX12_propertyOf 93 = .ok (.aload_n 0, 1) := by decide +kernel
theorem dX12_propertyOf_94 : decode cX12_propertyOf 94 = .ok (.iload_n 2, 1) := by decide +kernel
theorem dX12_propertyOf_95 : decode cX12_propertyOf 95 = .ok (.bipush 10, 2) := by decide +kernel
theorem dX12_propertyOf_97 : decode cX12_propertyOf 97 = .ok (.invokevirtual 274, 3) := by decide +kernel
theorem dX12_propertyOf_100 : decode cX12_propertyOf 100 = .ok (.ireturn, 1) := by decide +kernel
theorem dX12_propertyOf_101 : decode cX12_propertyOf 101 = .ok (.aload_n 0, 1) := by decide +kernel
theorem dX12_propertyOf_102 : decode cX12_propertyOf 102 = .ok (.iload_n 2, 1) := by decide +kernel
theorem dX12_propertyOf_103 : decode cX12_propertyOf 103 = .ok (.bipush 7, 2) := by decide +kernel
theorem dX12_propertyOf_105 : decode cX12_propertyOf 105 = .ok (.invokevirtual 274, 3) := by decide +kernel
theorem dX12_propertyOf_108 : decode cX12_propertyOf 108 = .ok (.iconst 1, 1) := by decide +kernel
theorem dX12_propertyOf_109 : decode cX12_propertyOf 109 = .ok (.iadd, 1) := by decide +kernel
theorem dX12_propertyOf_110 : decode cX12_propertyOf 110 = .ok (.ireturn, 1) := by decide +kernel
theorem dX12_joined_0 : decode cX12_joined 0 = .ok (.iload_n 0, 1) := by decide +kernel
theorem dX12_joined_1 : decode cX12_joined 1 = .ok (.tableswitch 81 20 24 #[35, 46, 57, 81, 68], 35) := by decide +kernel
theorem dX12_joined_36 : decode cX12_joined 36 = .ok (.iload_n 1, 1) := by decide +kernel
theorem dX12_joined_37 : decode cX12_joined 37 = .ok (.iload_n 2, 1) := by decide +kernel
theorem dX12_joined_38 : decode cX12_joined 38 = .ok (.if_icmp .ge 7, 3) := by decide +kernel
theorem dX12_joined_41 : decode cX12_joined 41 = .ok (.iconst 1, 1) := by decide +kernel
theorem dX12_joined_42 : decode cX12_joined 42 = .ok (.goto 4, 3) := by decide +kernel
theorem dX12_joined_45 : decode cX12_joined 45 = .ok (.iconst 0, 1) := by decide +kernel
theorem dX12_joined_46 : decode cX12_joined 46 = .ok (.ireturn, 1) := by decide +kernel
theorem dX12_joined_47 : decode cX12_joined 47 = .ok (.iload_n 1, 1) := by decide +kernel
theorem dX12_joined_48 : decode cX12_joined 48 = .ok (.iload_n 2, 1) := by decide +kernel
theorem dX12_joined_49 : decode cX12_joined 49 = .ok (.if_icmp .ne 7, 3) := by decide +kernel
theorem dX12_joined_52 : decode cX12_joined 52 = .ok (.iconst 1, 1) := by decide +kernel
theorem dX12_joined_53 : decode cX12_joined 53 = .ok (.goto 4, 3) := by decide +kernel
theorem dX12_joined_56 : decode cX12_joined 56 = .ok (.iconst 0, 1) := by decide +kernel
theorem dX12_joined_57 : decode cX12_joined 57 = .ok (.ireturn, 1) := by decide +kernel
theorem dX12_joined_58 : decode cX12_joined 58 = .ok (.iload_n 1, 1) := by decide +kernel
theorem dX12_joined_59 : decode cX12_joined 59 = .ok (.iload_n 2, 1) := by decide +kernel
theorem dX12_joined_60 : decode cX12_joined 60 = .ok (.if_icmp .le 7, 3) := by decide +kernel
theorem dX12_joined_63 : decode cX12_joined 63 = .ok (.iconst 1, 1) := by decide +kernel
theorem dX12_joined_64 : decode cX12_joined 64 = .ok (.goto 4, 3) := by decide +kernel
theorem dX12_joined_67 : decode cX12_joined 67 = .ok (.iconst 0, 1) := by decide +kernel
theorem dX12_joined_68 : decode cX12_joined 68 = .ok (.ireturn, 1) := by decide +kernel
theorem dX12_joined_69 : decode cX12_joined 69 = .ok (.iload_n 1, 1) := by decide +kernel
theorem dX12_joined_70 : decode cX12_joined 70 = .ok (.iload_n 2, 1) := by decide +kernel
theorem dX12_joined_71 : decode cX12_joined 71 = .ok (.iadd, 1) := by decide +kernel
theorem dX12_joined_72 : decode cX12_joined 72 = .ok (.iconst 2, 1) := by decide +kernel
theorem dX12_joined_73 : decode cX12_joined 73 = .ok (.if_icmp .ne 7, 3) := by decide +kernel
theorem dX12_joined_76 : decode cX12_joined 76 = .ok (.iconst 1, 1) := by decide +kernel
theorem dX12_joined_77 : decode cX12_joined 77 = .ok (.goto 4, 3) := by decide +kernel
theorem dX12_joined_80 : decode cX12_joined 80 = .ok (.iconst 0, 1) := by decide +kernel
theorem dX12_joined_81 : decode cX12_joined 81 = .ok (.ireturn, 1) := by decide +kernel
theorem dX12_joined_82 : decode cX12_joined 82 = .ok (.iload_n 1, 1) := by decide +kernel
theorem dX12_joined_83 : decode cX12_joined 83 = .ok (.iload_n 2, 1) := by decide +kernel
theorem dX12_joined_84 : decode cX12_joined 84 = .ok (.iadd, 1) := by decide +kernel
theorem dX12_joined_85 : decode cX12_joined 85 = .ok (.ifCond .le 7, 3) := by decide +kernel
theorem dX12_joined_88 : decode cX12_joined 88 = .ok (.iconst 1, 1) := by decide +kernel
theorem dX12_joined_89 : decode cX12_joined 89 = .ok (.goto 4, 3) := by decide +kernel
theorem dX12_joined_92 : decode cX12_joined 92 = .ok (.iconst 0, 1) := by decide +kernel
theorem dX12_joined_93 : decode cX12_joined 93 = .ok (.ireturn, 1) := by decide +kernel
theorem dX12_holds_0 : decode cX12_holds 0 = .ok (.iconst 0, 1) := by decide +kernel
theorem dX12_holds_1 : decode cX12_holds 1 = .ok (.istore_n 2, 1) := by decide +kernel
theorem dX12_holds_2 : decode cX12_holds 2 = .ok (.iconst 0, 1) := by decide +kernel
theorem dX12_holds_3 : decode cX12_holds 3 = .ok (.istore_n 3, 1) := by decide +kernel
theorem dX12_holds_4 : decode cX12_holds 4 = .ok (.iload_n 3, 1) := by decide +kernel
theorem dX12_holds_5 : decode cX12_holds 5 = .ok (.aload_n 0, 1) := by decide +kernel
theorem dX12_holds_6 : decode cX12_holds 6 = .ok (.getfield 432, 3) := by decide +kernel
theorem dX12_holds_9 : decode cX12_holds 9 = .ok (.if_icmp .ge 132, 3) := by decide +kernel
theorem dX12_holds_12 : decode cX12_holds 12 = .ok (.aload_n 0, 1) := by decide +kernel
theorem dX12_holds_13 : decode cX12_holds 13 = .ok (.getfield 78, 3) := by decide +kernel
theorem dX12_holds_16 : decode cX12_holds 16 = .ok (.iload_n 3, 1) := by decide +kernel
theorem dX12_holds_17 : decode cX12_holds 17 = .ok (.iaload, 1) := by decide +kernel
theorem dX12_holds_18 : decode cX12_holds 18 = .ok (.istore 4, 2) := by decide +kernel
theorem dX12_holds_20 : decode cX12_holds 20 = .ok (.iload 4, 2) := by decide +kernel
theorem dX12_holds_22 : decode cX12_holds 22 = .ok (.bipush 23, 2) := by decide +kernel
theorem dX12_holds_24 : decode cX12_holds 24 = .ok (.if_icmp .ne 24, 3) := by decide +kernel
theorem dX12_holds_27 : decode cX12_holds 27 = .ok (.aload_n 0, 1) := by decide +kernel
theorem dX12_holds_28 : decode cX12_holds 28 = .ok (.getfield 84, 3) := by decide +kernel
theorem dX12_holds_31 : decode cX12_holds 31 = .ok (.iload_n 2, 1) := by decide +kernel
theorem dX12_holds_32 : decode cX12_holds 32 = .ok (.iconst 1, 1) := by decide +kernel
theorem dX12_holds_33 : decode cX12_holds 33 = .ok (.isub, 1) := by decide +kernel
theorem dX12_holds_34 : decode cX12_holds 34 = .ok (.iconst 1, 1) := by decide +kernel
theorem dX12_holds_35 : decode cX12_holds 35 = .ok (.aload_n 0, 1) := by decide +kernel
theorem dX12_holds_36 : decode cX12_holds 36 = .ok (.getfield 84, 3) := by decide +kernel
theorem dX12_holds_39 : decode cX12_holds 39 = .ok (.iload_n 2, 1) := by decide +kernel
theorem dX12_holds_40 : decode cX12_holds 40 = .ok (.iconst 1, 1) := by decide +kernel
theorem dX12_holds_41 : decode cX12_holds 41 = .ok (.isub, 1) := by decide +kernel
theorem dX12_holds_42 : decode cX12_holds 42 = .ok (.iaload, 1) := by decide +kernel
theorem dX12_holds_43 : decode cX12_holds 43 = .ok (.isub, 1) := by decide +kernel
theorem dX12_holds_44 : decode cX12_holds 44 = .ok (.iastore, 1) := by decide +kernel
theorem dX12_holds_45 : decode cX12_holds 45 = .ok (.goto 90, 3) := by decide +kernel
theorem dX12_holds_48 : decode cX12_holds 48 = .ok (.iload 4, 2) := by decide +kernel
theorem dX12_holds_50 : decode cX12_holds 50 = .ok (.i2l, 1) := by decide +kernel
theorem dX12_holds_51 : decode cX12_holds 51 = .ok (.ldc2_w 491, 3) := by decide +kernel
theorem dX12_holds_54 : decode cX12_holds 54 = .ok (.ldc2_w 493, 3) := by decide +kernel
theorem dX12_holds_57 : decode cX12_holds 57 = .ok (.invokestatic 197, 3) := by decide +kernel
theorem dX12_holds_60 : decode cX12_holds 60 = .ok (.ifCond .eq 44, 3) := by decide +kernel
theorem dX12_holds_63 : decode cX12_holds 63 = .ok (.iinc 2 (-1), 3) := by decide +kernel
theorem dX12_holds_66 : decode cX12_holds 66 = .ok (.aload_n 0, 1) := by decide +kernel
theorem dX12_holds_67 : decode cX12_holds 67 = .ok (.getfield 84, 3) := by decide +kernel
theorem dX12_holds_70 : decode cX12_holds 70 = .ok (.iload_n 2, 1) := by decide +kernel
theorem dX12_holds_71 : decode cX12_holds 71 = .ok (.iconst 1, 1) := by decide +kernel
theorem dX12_holds_72 : decode cX12_holds 72 = .ok (.isub, 1) := by decide +kernel
theorem dX12_holds_73 : decode cX12_holds 73 = .ok (.iload 4, 2) := by decide +kernel
theorem dX12_holds_75 : decode cX12_holds 75 = .ok (.aload_n 0, 1) := by decide +kernel
theorem dX12_holds_76 : decode cX12_holds 76 = .ok (.getfield 84, 3) := by decide +kernel
theorem dX12_holds_79 : decode cX12_holds 79 = .ok (.iload_n 2, 1) := by decide +kernel
theorem dX12_holds_80 : decode cX12_holds 80 = .ok (.iconst 1, 1) := by decide +kernel
theorem dX12_holds_81 : decode cX12_holds 81 = .ok (.isub, 1) := by decide +kernel
theorem dX12_holds_82 : decode cX12_holds 82 = .ok (.iaload, 1) := by decide +kernel
theorem dX12_holds_83 : decode cX12_holds 83 = .ok (.aload_n 0, 1) := by decide +kernel
theorem dX12_holds_84 : decode cX12_holds 84 = .ok (.getfield 84, 3) := by decide +kernel
theorem dX12_holds_87 : decode cX12_holds 87 = .ok (.iload_n 2, 1) := by decide +kernel
theorem dX12_holds_88 : decode cX12_holds 88 = .ok (.iaload, 1) := by decide +kernel
theorem dX12_holds_89 : decode cX12_holds 89 = .ok (.invokestatic 495, 3) := by decide +kernel
theorem dX12_holds_92 : decode cX12_holds 92 = .ok (.ifCond .eq 7, 3) := by decide +kernel
theorem dX12_holds_95 : decode cX12_holds 95 = .ok (.iconst 1, 1) := by decide +kernel
theorem dX12_holds_96 : decode cX12_holds 96 = .ok (.goto 4, 3) := by decide +kernel
theorem dX12_holds_99 : decode cX12_holds 99 = .ok (.iconst 0, 1) := by decide +kernel
theorem dX12_holds_100 : decode cX12_holds 100 = .ok (.iastore, 1) := by decide +kernel
theorem dX12_holds_101 : decode cX12_holds 101 = .ok (.goto 34, 3) := by decide +kernel
theorem dX12_holds_104 : decode cX12_holds 104 = .ok (.aload_n 0, 1) := by decide +kernel
theorem dX12_holds_105 : decode cX12_holds 105 = .ok (.getfield 84, 3) := by decide +kernel
theorem dX12_holds_108 : decode cX12_holds 108 = .ok (.iload_n 2, 1) := by decide +kernel
theorem dX12_holds_109 : decode cX12_holds 109 = .ok (.iload 4, 2) := by decide +kernel
theorem dX12_holds_111 : decode cX12_holds 111 = .ok (.bipush 100, 2) := by decide +kernel
theorem dX12_holds_113 : decode cX12_holds 113 = .ok (.if_icmp .lt 11, 3) := by decide +kernel
theorem dX12_holds_116 : decode cX12_holds 116 = .ok (.iload 4, 2) := by decide +kernel
theorem dX12_holds_118 : decode cX12_holds 118 = .ok (.bipush 100, 2) := by decide +kernel
theorem dX12_holds_120 : decode cX12_holds 120 = .ok (.isub, 1) := by decide +kernel
theorem dX12_holds_121 : decode cX12_holds 121 = .ok (.goto 10, 3) := by decide +kernel
theorem dX12_holds_124 : decode cX12_holds 124 = .ok (.aload_n 0, 1) := by decide +kernel
theorem dX12_holds_125 : decode cX12_holds 125 = .ok (.iload 4, 2) := by decide +kernel
theorem dX12_holds_127 : decode cX12_holds 127 = .ok (.iload_n 1, 1) := by decide +kernel
theorem dX12_holds_128 : decode cX12_holds 128 = .ok (.invokevirtual 499, 3) := by decide +kernel
theorem dX12_holds_131 : decode cX12_holds 131 = .ok (.iastore, 1) := by decide +kernel
theorem dX12_holds_132 : decode cX12_holds 132 = .ok (.iinc 2 1, 3) := by decide +kernel
theorem dX12_holds_135 : decode cX12_holds 135 = .ok (.iinc 3 1, 3) := by decide +kernel
theorem dX12_holds_138 : decode cX12_holds 138 = .ok (.goto (-134), 3) := by decide +kernel
theorem dX12_holds_141 : decode cX12_holds 141 = .ok (.aload_n 0, 1) := by decide +kernel
theorem dX12_holds_142 : decode cX12_holds 142 = .ok (.getfield 84, 3) := by decide +kernel
theorem dX12_holds_145 : decode cX12_holds 145 = .ok (.iconst 0, 1) := by decide +kernel
theorem dX12_holds_146 : decode cX12_holds 146 = .ok (.iaload, 1) := by decide +kernel
theorem dX12_holds_147 : decode cX12_holds 147 = .ok (.iconst 1, 1) := by decide +kernel
theorem dX12_holds_148 : decode cX12_holds 148 = .ok (.if_icmp .ne 7, 3) := by decide +kernel
theorem dX12_holds_151 : decode cX12_holds 151 = .ok (.iconst 1, 1) := by decide +kernel
theorem dX12_holds_152 : decode cX12_holds 152 = .ok (.goto 4, 3) := by decide +kernel
theorem dX12_holds_155 : decode cX12_holds 155 = .ok (.iconst 0, 1) := by decide +kernel
theorem dX12_holds_156 : decode cX12_holds 156 = .ok (.ireturn, 1) := by decide +kernel
theorem dX12_query_0 : decode cX12_query 0 = .ok (.aload_n 0, 1) := by decide +kernel
theorem dX12_query_1 : decode cX12_query 1 = .ok (.iconst 0, 1) := by decide +kernel
theorem dX12_query_2 : decode cX12_query 2 = .ok (.putfield 93, 3) := by decide +kernel
theorem dX12_query_5 : decode cX12_query 5 = .ok (.aload_n 0, 1) := by decide +kernel
theorem dX12_query_6 : decode cX12_query 6 = .ok (.iload_n 1, 1) := by decide +kernel
theorem dX12_query_7 : decode cX12_query 7 = .ok (.i2l, 1) := by decide +kernel
theorem dX12_query_8 : decode cX12_query 8 = .ok (.lconst 0, 1) := by decide +kernel
theorem dX12_query_9 : decode cX12_query 9 = .ok (.aload_n 0, 1) := by decide +kernel
theorem dX12_query_10 : decode cX12_query 10 = .ok (.getfield 130, 3) := by decide +kernel
theorem dX12_query_13 : decode cX12_query 13 = .ok (.sipush 200, 3) := by decide +kernel
theorem dX12_query_16 : decode cX12_query 16 = .ok (.invokestatic 330, 3) := by decide +kernel
theorem dX12_query_19 : decode cX12_query 19 = .ok (.i2l, 1) := by decide +kernel
theorem dX12_query_20 : decode cX12_query 20 = .ok (.invokestatic 197, 3) := by decide +kernel
theorem dX12_query_23 : decode cX12_query 23 = .ok (.iconst 1, 1) := by decide +kernel
theorem dX12_query_24 : decode cX12_query 24 = .ok (.invokevirtual 256, 3) := by decide +kernel
theorem dX12_query_27 : decode cX12_query 27 = .ok (.ifCond .eq 5, 3) := by decide +kernel
theorem dX12_query_30 : decode cX12_query 30 = .ok (.iconst 0, 1) := by decide +kernel
theorem dX12_query_31 : decode cX12_query 31 = .ok (.ireturn, 1) := by decide +kernel
theorem dX12_query_32 : decode cX12_query 32 = .ok (.aload_n 0, 1) := by decide +kernel
theorem dX12_query_33 : decode cX12_query 33 = .ok (.iload_n 1, 1) := by decide +kernel
theorem dX12_query_34 : decode cX12_query 34 = .ok (.invokevirtual 260, 3) := by decide +kernel
theorem dX12_query_37 : decode cX12_query 37 = .ok (.aload_n 0, 1) := by decide +kernel
theorem dX12_query_38 : decode cX12_query 38 = .ok (.ldc2_w 502, 3) := by decide +kernel
theorem dX12_query_41 : decode cX12_query 41 = .ok (.invokevirtual 233, 3) := by decide +kernel
theorem dX12_query_44 : decode cX12_query 44 = .ok (.istore_n 2, 1) := by decide +kernel
theorem dX12_query_45 : decode cX12_query 45 = .ok (.iload_n 2, 1) := by decide +kernel
theorem dX12_query_46 : decode cX12_query 46 = .ok (.ifCond .ne 19, 3) := by decide +kernel
theorem dX12_query_49 : decode cX12_query 49 = .ok (.aload_n 0, 1) := by decide +kernel
theorem dX12_query_50 : decode cX12_query 50 = .ok (.ldc2_w 504, 3) := by decide +kernel
theorem dX12_query_53 : decode cX12_query 53 = .ok (.invokevirtual 233, 3) := by decide +kernel
theorem dX12_query_56 : decode cX12_query 56 = .ok (.ifCond .ne 9, 3) := by decide +kernel
theorem dX12_query_59 : decode cX12_query 59 = .ok (.aload_n 0, 1) := by decide +kernel
theorem dX12_query_60 : decode cX12_query 60 = .ok (.iconst 1, 1) := by decide +kernel
theorem dX12_query_61 : decode cX12_query 61 = .ok (.invokevirtual 194, 3) := by decide +kernel
theorem dX12_query_64 : decode cX12_query 64 = .ok (.pop, 1) := by decide +kernel
theorem dX12_query_65 : decode cX12_query 65 = .ok (.aload_n 0, 1) := by decide +kernel
theorem dX12_query_66 : decode cX12_query 66 = .ok (.invokevirtual 506, 3) := by decide +kernel
theorem dX12_query_69 : decode cX12_query 69 = .ok (.aload_n 0, 1) := by decide +kernel
theorem dX12_query_70 : decode cX12_query 70 = .ok (.invokevirtual 183, 3) := by decide +kernel
theorem dX12_query_73 : decode cX12_query 73 = .ok (.ifCond .ne 12, 3) := by decide +kernel
theorem dX12_query_76 : decode cX12_query 76 = .ok (.ldc_w 509, 3) := by decide +kernel
theorem dX12_query_79 : decode cX12_query 79 = .ok (.aload_n 0, 1) := by decide +kernel
theorem dX12_query_80 : decode cX12_query 80 = .ok (.getfield 177, 3) := by decide +kernel
theorem dX12_query_83 : decode cX12_query 83 = .ok (.isub, 1) := by decide +kernel
theorem dX12_query_84 : decode cX12_query 84 = .ok (.ireturn, 1) := by decide +kernel
theorem dX12_query_85 : decode cX12_query 85 = .ok (.iconst 0, 1) := by decide +kernel
theorem dX12_query_86 : decode cX12_query 86 = .ok (.istore_n 3, 1) := by decide +kernel
theorem dX12_query_87 : decode cX12_query 87 = .ok (.iconst 0, 1) := by decide +kernel
theorem dX12_query_88 : decode cX12_query 88 = .ok (.istore 4, 2) := by decide +kernel
theorem dX12_query_90 : decode cX12_query 90 = .ok (.iload 4, 2) := by decide +kernel
theorem dX12_query_92 : decode cX12_query 92 = .ok (.aload_n 0, 1) := by decide +kernel
theorem dX12_query_93 : decode cX12_query 93 = .ok (.getfield 7, 3) := by decide +kernel
theorem dX12_query_96 : decode cX12_query 96 = .ok (.iconst 1, 1) := by decide +kernel
theorem dX12_query_97 : decode cX12_query 97 = .ok (.iaload, 1) := by decide +kernel
theorem dX12_query_98 : decode cX12_query 98 = .ok (.if_icmp .ge 31, 3) := by decide +kernel
theorem dX12_query_101 : decode cX12_query 101 = .ok (.aload_n 0, 1) := by decide +kernel
theorem dX12_query_102 : decode cX12_query 102 = .ok (.iload 4, 2) := by decide +kernel
theorem dX12_query_104 : decode cX12_query 104 = .ok (.invokevirtual 510, 3) := by decide +kernel
theorem dX12_query_107 : decode cX12_query 107 = .ok (.ifCond .ne 6, 3) := by decide +kernel
theorem dX12_query_110 : decode cX12_query 110 = .ok (.goto 13, 3) := by decide +kernel
theorem dX12_query_113 : decode cX12_query 113 = .ok (.iload_n 2, 1) := by decide +kernel
theorem dX12_query_114 : decode cX12_query 114 = .ok (.ifCond .eq 6, 3) := by decide +kernel
theorem dX12_query_117 : decode cX12_query 117 = .ok (.iload 4, 2) := by decide +kernel
theorem dX12_query_119 : decode cX12_query 119 = .ok (.ireturn, 1) := by decide +kernel
theorem dX12_query_120 : decode cX12_query 120 = .ok (.iinc 3 1, 3) := by decide +kernel
theorem dX12_query_123 : decode cX12_query 123 = .ok (.iinc 4 1, 3) := by decide +kernel
theorem dX12_query_126 : decode cX12_query 126 = .ok (.goto (-36), 3) := by decide +kernel
theorem dX12_query_129 : decode cX12_query 129 = .ok (.iload_n 2, 1) := by decide +kernel
theorem dX12_query_130 : decode cX12_query 130 = .ok (.ifCond .eq 7, 3) := by decide +kernel
theorem dX12_query_133 : decode cX12_query 133 = .ok (.iconst (-1), 1) := by decide +kernel
theorem dX12_query_134 : decode cX12_query 134 = .ok (.goto 4, 3) := by decide +kernel
theorem dX12_query_137 : decode cX12_query 137 = .ok (.iload_n 3, 1) := by decide +kernel
theorem dX12_query_138 : decode cX12_query 138 = .ok (.ireturn, 1) := by decide +kernel

theorem dX9_init_0 : decode cX9_init 0 = .ok (.aload_n 0, 1) := by decide +kernel
theorem dX9_init_1 : decode cX9_init 1 = .ok (.invokespecial 1, 3) := by decide +kernel
theorem dX9_init_4 : decode cX9_init 4 = .ok (.aload_n 0, 1) := by decide +kernel
theorem dX9_init_5 : decode cX9_init 5 = .ok (.sipush 420, 3) := by decide +kernel
theorem dX9_init_8 : decode cX9_init 8 = .ok (.newarray .byte, 2) := by decide +kernel
theorem dX9_init_10 : decode cX9_init 10 = .ok (.putfield 7, 3) := by decide +kernel
theorem dX9_init_13 : decode cX9_init 13 = .ok (.aload_n 0, 1) := by decide +kernel
theorem dX9_init_14 : decode cX9_init 14 = .ok (.sipush 400, 3) := by decide +kernel
theorem dX9_init_17 : decode cX9_init 17 = .ok (.newarray .byte, 2) := by decide +kernel
theorem dX9_init_19 : decode cX9_init 19 = .ok (.putfield 13, 3) := by decide +kernel
theorem dX9_init_22 : decode cX9_init 22 = .ok (.aload_n 0, 1) := by decide +kernel
theorem dX9_init_23 : decode cX9_init 23 = .ok (.sipush 5000, 3) := by decide +kernel
theorem dX9_init_26 : decode cX9_init 26 = .ok (.newarray .int, 2) := by decide +kernel
theorem dX9_init_28 : decode cX9_init 28 = .ok (.putfield 16, 3) := by decide +kernel
theorem dX9_init_31 : decode cX9_init 31 = .ok (.aload_n 0, 1) := by decide +kernel
theorem dX9_init_32 : decode cX9_init 32 = .ok (.sipush 15000, 3) := by decide +kernel
theorem dX9_init_35 : decode cX9_init 35 = .ok (.newarray .int, 2) := by decide +kernel
theorem dX9_init_37 : decode cX9_init 37 = .ok (.putfield 20, 3) := by decide +kernel
theorem dX9_init_40 : decode cX9_init 40 = .ok (.aload_n 0, 1) := by decide +kernel
theorem dX9_init_41 : decode cX9_init 41 = .ok (.iconst 3, 1) := by decide +kernel
theorem dX9_init_42 : decode cX9_init 42 = .ok (.newarray .boolean, 2) := by decide +kernel
theorem dX9_init_44 : decode cX9_init 44 = .ok (.putfield 23, 3) := by decide +kernel
theorem dX9_init_47 : decode cX9_init 47 = .ok (.aload_n 0, 1) := by decide +kernel
theorem dX9_init_48 : decode cX9_init 48 = .ok (.iconst (-1), 1) := by decide +kernel
theorem dX9_init_49 : decode cX9_init 49 = .ok (.putfield 27, 3) := by decide +kernel
theorem dX9_init_52 : decode cX9_init 52 = .ok (.aload_n 0, 1) := by decide +kernel
theorem dX9_init_53 : decode cX9_init 53 = .ok (.iconst 2, 1) := by decide +kernel
theorem dX9_init_54 : decode cX9_init 54 = .ok (.newarray .int, 2) := by decide +kernel
theorem dX9_init_56 : decode cX9_init 56 = .ok (.putfield 31, 3) := by decide +kernel
theorem dX9_init_59 : decode cX9_init 59 = .ok (.aload_n 0, 1) := by decide +kernel
theorem dX9_init_60 : decode cX9_init 60 = .ok (.iconst 2, 1) := by decide +kernel
theorem dX9_init_61 : decode cX9_init 61 = .ok (.newarray .int, 2) := by decide +kernel
theorem dX9_init_63 : decode cX9_init 63 = .ok (.putfield 34, 3) := by decide +kernel
theorem dX9_init_66 : decode cX9_init 66 = .ok (.aload_n 0, 1) := by decide +kernel
theorem dX9_init_67 : decode cX9_init 67 = .ok (.bipush 14, 2) := by decide +kernel
theorem dX9_init_69 : decode cX9_init 69 = .ok (.newarray .long, 2) := by decide +kernel
theorem dX9_init_71 : decode cX9_init 71 = .ok (.putfield 37, 3) := by decide +kernel
theorem dX9_init_74 : decode cX9_init 74 = .ok (.aload_n 0, 1) := by decide +kernel
theorem dX9_init_75 : decode cX9_init 75 = .ok (.bipush 64, 2) := by decide +kernel
theorem dX9_init_77 : decode cX9_init 77 = .ok (.newarray .int, 2) := by decide +kernel
theorem dX9_init_79 : decode cX9_init 79 = .ok (.putfield 41, 3) := by decide +kernel
theorem dX9_init_82 : decode cX9_init 82 = .ok (.aload_n 0, 1) := by decide +kernel
theorem dX9_init_83 : decode cX9_init 83 = .ok (.bipush 9, 2) := by decide +kernel
theorem dX9_init_85 : decode cX9_init 85 = .ok (.newarray .int, 2) := by decide +kernel
theorem dX9_init_87 : decode cX9_init 87 = .ok (.putfield 44, 3) := by decide +kernel
theorem dX9_init_90 : decode cX9_init 90 = .ok (.aload_n 0, 1) := by decide +kernel
theorem dX9_init_91 : decode cX9_init 91 = .ok (.bipush 9, 2) := by decide +kernel
theorem dX9_init_93 : decode cX9_init 93 = .ok (.newarray .int, 2) := by decide +kernel
theorem dX9_init_95 : decode cX9_init 95 = .ok (.putfield 47, 3) := by decide +kernel
theorem dX9_init_98 : decode cX9_init 98 = .ok (.aload_n 0, 1) := by decide +kernel
theorem dX9_init_99 : decode cX9_init 99 = .ok (.bipush 9, 2) := by decide +kernel
theorem dX9_init_101 : decode cX9_init 101 = .ok (.newarray .int, 2) := by decide +kernel
theorem dX9_init_103 : decode cX9_init 103 = .ok (.putfield 50, 3) := by decide +kernel
theorem dX9_init_106 : decode cX9_init 106 = .ok (.aload_n 0, 1) := by decide +kernel
theorem dX9_init_107 : decode cX9_init 107 = .ok (.bipush 9, 2) := by decide +kernel
theorem dX9_init_109 : decode cX9_init 109 = .ok (.newarray .int, 2) := by decide +kernel
theorem dX9_init_111 : decode cX9_init 111 = .ok (.putfield 53, 3) := by decide +kernel
theorem dX9_init_114 : decode cX9_init 114 = .ok (.aload_n 0, 1) := by decide +kernel
theorem dX9_init_115 : decode cX9_init 115 = .ok (.bipush 9, 2) := by decide +kernel
theorem dX9_init_117 : decode cX9_init 117 = .ok (.newarray .int, 2) := by decide +kernel
theorem dX9_init_119 : decode cX9_init 119 = .ok (.putfield 56, 3) := by decide +kernel
theorem dX9_init_122 : decode cX9_init 122 = .ok (.aload_n 0, 1) := by decide +kernel
theorem dX9_init_123 : decode cX9_init 123 = .ok (.bipush 10, 2) := by decide +kernel
theorem dX9_init_125 : decode cX9_init 125 = .ok (.newarray .int, 2) := by decide +kernel
theorem dX9_init_127 : decode cX9_init 127 = .ok (.putfield 59, 3) := by decide +kernel
theorem dX9_init_130 : decode cX9_init 130 = .ok (.aload_n 0, 1) := by decide +kernel
theorem dX9_init_131 : decode cX9_init 131 = .ok (.bipush 11, 2) := by decide +kernel
theorem dX9_init_133 : decode cX9_init 133 = .ok (.newarray .int, 2) := by decide +kernel
theorem dX9_init_135 : decode cX9_init 135 = .ok (.putfield 62, 3) := by decide +kernel
theorem dX9_init_138 : decode cX9_init 138 = .ok (.aload_n 0, 1) := by decide +kernel
theorem dX9_init_139 : decode cX9_init 139 = .ok (.invokevirtual 65, 3) := by decide +kernel
theorem dX9_init_142 : decode cX9_init 142 = .ok (.return_, 1) := by decide +kernel
theorem dX9_sign_0 : decode cX9_sign 0 = .ok (.iload_n 1, 1) := by decide +kernel
theorem dX9_sign_1 : decode cX9_sign 1 = .ok (.aload_n 0, 1) := by decide +kernel
theorem dX9_sign_2 : decode cX9_sign 2 = .ok (.getfield 68, 3) := by decide +kernel
theorem dX9_sign_5 : decode cX9_sign 5 = .ok (.if_icmp .ge 16, 3) := by decide +kernel
theorem dX9_sign_8 : decode cX9_sign 8 = .ok (.aload_n 0, 1) := by decide +kernel
theorem dX9_sign_9 : decode cX9_sign 9 = .ok (.getfield 13, 3) := by decide +kernel
theorem dX9_sign_12 : decode cX9_sign 12 = .ok (.iload_n 1, 1) := by decide +kernel
theorem dX9_sign_13 : decode cX9_sign 13 = .ok (.baload, 1) := by decide +kernel
theorem dX9_sign_14 : decode cX9_sign 14 = .ok (.sipush 255, 3) := by decide +kernel
theorem dX9_sign_17 : decode cX9_sign 17 = .ok (.iand, 1) := by decide +kernel
theorem dX9_sign_18 : decode cX9_sign 18 = .ok (.goto 4, 3) := by decide +kernel
theorem dX9_sign_21 : decode cX9_sign 21 = .ok (.iconst 0, 1) := by decide +kernel
theorem dX9_sign_22 : decode cX9_sign 22 = .ok (.ireturn, 1) := by decide +kernel
theorem dX9_isLetter_0 : decode cX9_isLetter 0 = .ok (.iload_n 0, 1) := by decide +kernel
theorem dX9_isLetter_1 : decode cX9_isLetter 1 = .ok (.bipush 97, 2) := by decide +kernel
theorem dX9_isLetter_3 : decode cX9_isLetter 3 = .ok (.if_icmp .lt 13, 3) := by decide +kernel
theorem dX9_isLetter_6 : decode cX9_isLetter 6 = .ok (.iload_n 0, 1) := by decide +kernel
theorem dX9_isLetter_7 : decode cX9_isLetter 7 = .ok (.bipush 122, 2) := by decide +kernel
theorem dX9_isLetter_9 : decode cX9_isLetter 9 = .ok (.if_icmp .gt 7, 3) := by decide +kernel
theorem dX9_isLetter_12 : decode cX9_isLetter 12 = .ok (.iconst 1, 1) := by decide +kernel
theorem dX9_isLetter_13 : decode cX9_isLetter 13 = .ok (.goto 4, 3) := by decide +kernel
theorem dX9_isLetter_16 : decode cX9_isLetter 16 = .ok (.iconst 0, 1) := by decide +kernel
theorem dX9_isLetter_17 : decode cX9_isLetter 17 = .ok (.ireturn, 1) := by decide +kernel
theorem dX9_fails_0 : decode cX9_fails 0 = .ok (.aload_n 0, 1) := by decide +kernel
theorem dX9_fails_1 : decode cX9_fails 1 = .ok (.getfield 71, 3) := by decide +kernel
theorem dX9_fails_4 : decode cX9_fails 4 = .ok (.ifCond .le 4, 3) := by decide +kernel
theorem dX9_fails_7 : decode cX9_fails 7 = .ok (.return_, 1) := by decide +kernel
theorem dX9_fails_8 : decode cX9_fails 8 = .ok (.aload_n 0, 1) := by decide +kernel
theorem dX9_fails_9 : decode cX9_fails 9 = .ok (.iload_n 1, 1) := by decide +kernel
theorem dX9_fails_10 : decode cX9_fails 10 = .ok (.putfield 71, 3) := by decide +kernel
theorem dX9_fails_13 : decode cX9_fails 13 = .ok (.aload_n 0, 1) := by decide +kernel
theorem dX9_fails_14 : decode cX9_fails 14 = .ok (.iload_n 2, 1) := by decide +kernel
theorem dX9_fails_15 : decode cX9_fails 15 = .ok (.putfield 27, 3) := by decide +kernel
theorem dX9_fails_18 : decode cX9_fails 18 = .ok (.return_, 1) := by decide +kernel
theorem dX9_isGood_0 : decode cX9_isGood 0 = .ok (.aload_n 0, 1) := by decide +kernel
theorem dX9_isGood_1 : decode cX9_isGood 1 = .ok (.getfield 71, 3) := by decide +kernel
theorem dX9_isGood_4 : decode cX9_isGood 4 = .ok (.ifCond .ne 7, 3) := by decide +kernel
theorem dX9_isGood_7 : decode cX9_isGood 7 = .ok (.iconst 1, 1) := by decide +kernel
theorem dX9_isGood_8 : decode cX9_isGood 8 = .ok (.goto 4, 3) := by decide +kernel
theorem dX9_isGood_11 : decode cX9_isGood 11 = .ok (.iconst 0, 1) := by decide +kernel
theorem dX9_isGood_12 : decode cX9_isGood 12 = .ok (.ireturn, 1) := by decide +kernel
theorem dX9_goOn_0 : decode cX9_goOn 0 = .ok (.aload_n 0, 1) := by decide +kernel
theorem dX9_goOn_1 : decode cX9_goOn 1 = .ok (.aload_n 0, 1) := by decide +kernel
theorem dX9_goOn_2 : decode cX9_goOn 2 = .ok (.getfield 74, 3) := by decide +kernel
theorem dX9_goOn_5 : decode cX9_goOn 5 = .ok (.putfield 77, 3) := by decide +kernel
theorem dX9_goOn_8 : decode cX9_goOn 8 = .ok (.aload_n 0, 1) := by decide +kernel
theorem dX9_goOn_9 : decode cX9_goOn 9 = .ok (.getfield 77, 3) := by decide +kernel
theorem dX9_goOn_12 : decode cX9_goOn 12 = .ok (.aload_n 0, 1) := by decide +kernel
theorem dX9_goOn_13 : decode cX9_goOn 13 = .ok (.getfield 68, 3) := by decide +kernel
theorem dX9_goOn_16 : decode cX9_goOn 16 = .ok (.if_icmp .ge 42, 3) := by decide +kernel
theorem dX9_goOn_19 : decode cX9_goOn 19 = .ok (.aload_n 0, 1) := by decide +kernel
theorem dX9_goOn_20 : decode cX9_goOn 20 = .ok (.aload_n 0, 1) := by decide +kernel
theorem dX9_goOn_21 : decode cX9_goOn 21 = .ok (.getfield 77, 3) := by decide +kernel
theorem dX9_goOn_24 : decode cX9_goOn 24 = .ok (.invokevirtual 80, 3) := by decide +kernel
theorem dX9_goOn_27 : decode cX9_goOn 27 = .ok (.bipush 32, 2) := by decide +kernel
theorem dX9_goOn_29 : decode cX9_goOn 29 = .ok (.if_icmp .eq 16, 3) := by decide +kernel
theorem dX9_goOn_32 : decode cX9_goOn 32 = .ok (.aload_n 0, 1) := by decide +kernel
theorem dX9_goOn_33 : decode cX9_goOn 33 = .ok (.aload_n 0, 1) := by decide +kernel
theorem dX9_goOn_34 : decode cX9_goOn 34 = .ok (.getfield 77, 3) := by decide +kernel
theorem dX9_goOn_37 : decode cX9_goOn 37 = .ok (.invokevirtual 80, 3) := by decide +kernel
theorem dX9_goOn_40 : decode cX9_goOn 40 = .ok (.bipush 10, 2) := by decide +kernel
theorem dX9_goOn_42 : decode cX9_goOn 42 = .ok (.if_icmp .ne 16, 3) := by decide +kernel
theorem dX9_goOn_45 : decode cX9_goOn 45 = .ok (.aload_n 0, 1) := by decide +kernel
theorem dX9_goOn_46 : decode cX9_goOn 46 = .ok (.dup, 1) := by decide +kernel
theorem dX9_goOn_47 : decode cX9_goOn 47 = .ok (.getfield 77, 3) := by decide +kernel
theorem dX9_goOn_50 : decode cX9_goOn 50 = .ok (.iconst 1, 1) := by decide +kernel
theorem dX9_goOn_51 : decode cX9_goOn 51 = .ok (.iadd, 1) := by decide +kernel
theorem dX9_goOn_52 : decode cX9_goOn 52 = .ok (.putfield 77, 3) := by decide +kernel
theorem dX9_goOn_55 : decode cX9_goOn 55 = .ok (.goto (-47), 3) := by decide +kernel
theorem dX9_goOn_58 : decode cX9_goOn 58 = .ok (.aload_n 0, 1) := by decide +kernel
theorem dX9_goOn_59 : decode cX9_goOn 59 = .ok (.aload_n 0, 1) := by decide +kernel
theorem dX9_goOn_60 : decode cX9_goOn 60 = .ok (.getfield 77, 3) := by decide +kernel
theorem dX9_goOn_63 : decode cX9_goOn 63 = .ok (.invokevirtual 80, 3) := by decide +kernel
theorem dX9_goOn_66 : decode cX9_goOn 66 = .ok (.istore_n 1, 1) := by decide +kernel
theorem dX9_goOn_67 : decode cX9_goOn 67 = .ok (.aload_n 0, 1) := by decide +kernel
theorem dX9_goOn_68 : decode cX9_goOn 68 = .ok (.aload_n 0, 1) := by decide +kernel
theorem dX9_goOn_69 : decode cX9_goOn 69 = .ok (.getfield 77, 3) := by decide +kernel
theorem dX9_goOn_72 : decode cX9_goOn 72 = .ok (.iconst 1, 1) := by decide +kernel
theorem dX9_goOn_73 : decode cX9_goOn 73 = .ok (.iadd, 1) := by decide +kernel
theorem dX9_goOn_74 : decode cX9_goOn 74 = .ok (.putfield 74, 3) := by decide +kernel
theorem dX9_goOn_77 : decode cX9_goOn 77 = .ok (.aload_n 0, 1) := by decide +kernel
theorem dX9_goOn_78 : decode cX9_goOn 78 = .ok (.getfield 77, 3) := by decide +kernel
theorem dX9_goOn_81 : decode cX9_goOn 81 = .ok (.aload_n 0, 1) := by decide +kernel
theorem dX9_goOn_82 : decode cX9_goOn 82 = .ok (.getfield 68, 3) := by decide +kernel
theorem dX9_goOn_85 : decode cX9_goOn 85 = .ok (.if_icmp .lt 27, 3) := by decide +kernel
theorem dX9_goOn_88 : decode cX9_goOn 88 = .ok (.aload_n 0, 1) := by decide +kernel
theorem dX9_goOn_89 : decode cX9_goOn 89 = .ok (.iconst 0, 1) := by decide +kernel
theorem dX9_goOn_90 : decode cX9_goOn 90 = .ok (.putfield 84, 3) := by decide +kernel
theorem dX9_goOn_93 : decode cX9_goOn 93 = .ok (.aload_n 0, 1) := by decide +kernel
theorem dX9_goOn_94 : decode cX9_goOn 94 = .ok (.aload_n 0, 1) := by decide +kernel
theorem dX9_goOn_95 : decode cX9_goOn 95 = .ok (.getfield 68, 3) := by decide +kernel
theorem dX9_goOn_98 : decode cX9_goOn 98 = .ok (.putfield 77, 3) := by decide +kernel
theorem dX9_goOn_101 : decode cX9_goOn 101 = .ok (.aload_n 0, 1) := by decide +kernel
theorem dX9_goOn_102 : decode cX9_goOn 102 = .ok (.aload_n 0, 1) := by decide +kernel
theorem dX9_goOn_103 : decode cX9_goOn 103 = .ok (.getfield 68, 3) := by decide +kernel
theorem dX9_goOn_106 : decode cX9_goOn 106 = .ok (.putfield 74, 3) := by decide +kernel
theorem dX9_goOn_109 : decode cX9_goOn 109 = .ok (.goto 157, 3) := by decide +kernel
theorem dX9_goOn_112 : decode cX9_goOn 112 = .ok (.iload_n 1, 1) := by decide +kernel
theorem dX9_goOn_113 : decode cX9_goOn 113 = .ok (.invokestatic 87, 3) := by decide +kernel
theorem dX9_goOn_116 : decode cX9_goOn 116 = .ok (.ifCond .eq 135, 3) := by decide +kernel
theorem dX9_goOn_119 : decode cX9_goOn 119 = .ok (.aload_n 0, 1) := by decide +kernel
theorem dX9_goOn_120 : decode cX9_goOn 120 = .ok (.aload_n 0, 1) := by decide +kernel
theorem dX9_goOn_121 : decode cX9_goOn 121 = .ok (.getfield 74, 3) := by decide +kernel
theorem dX9_goOn_124 : decode cX9_goOn 124 = .ok (.invokevirtual 80, 3) := by decide +kernel
theorem dX9_goOn_127 : decode cX9_goOn 127 = .ok (.invokestatic 87, 3) := by decide +kernel
theorem dX9_goOn_130 : decode cX9_goOn 130 = .ok (.ifCond .eq 16, 3) := by decide +kernel
theorem dX9_goOn_133 : decode cX9_goOn 133 = .ok (.aload_n 0, 1) := by decide +kernel
theorem dX9_goOn_134 : decode cX9_goOn 134 = .ok (.dup, 1) := by decide +kernel
theorem dX9_goOn_135 : decode cX9_goOn 135 = .ok (.getfield 74, 3) := by decide +kernel
theorem dX9_goOn_138 : decode cX9_goOn 138 = .ok (.iconst 1, 1) := by decide +kernel
theorem dX9_goOn_139 : decode cX9_goOn 139 = .ok (.iadd, 1) := by decide +kernel
theorem dX9_goOn_140 : decode cX9_goOn 140 = .ok (.putfield 74, 3) := by decide +kernel
theorem dX9_goOn_143 : decode cX9_goOn 143 = .ok (.goto (-24), 3) := by decide +kernel
theorem dX9_goOn_146 : decode cX9_goOn 146 = .ok (.aload_n 0, 1) := by decide +kernel
theorem dX9_goOn_147 : decode cX9_goOn 147 = .ok (.lconst 0, 1) := by decide +kernel
theorem dX9_goOn_148 : decode cX9_goOn 148 = .ok (.putfield 91, 3) := by decide +kernel
theorem dX9_goOn_151 : decode cX9_goOn 151 = .ok (.aload_n 0, 1) := by decide +kernel
theorem dX9_goOn_152 : decode cX9_goOn 152 = .ok (.getfield 77, 3) := by decide +kernel
theorem dX9_goOn_155 : decode cX9_goOn 155 = .ok (.istore_n 2, 1) := by decide +kernel
theorem dX9_goOn_156 : decode cX9_goOn 156 = .ok (.iload_n 2, 1) := by decide +kernel
theorem dX9_goOn_157 : decode cX9_goOn 157 = .ok (.aload_n 0, 1) := by decide +kernel
theorem dX9_goOn_158 : decode cX9_goOn 158 = .ok (.getfield 74, 3) := by decide +kernel
theorem dX9_goOn_161 : decode cX9_goOn 161 = .ok (.if_icmp .ge 38, 3) := by decide +kernel
theorem dX9_goOn_164 : decode cX9_goOn 164 = .ok (.iload_n 2, 1) := by decide +kernel
theorem dX9_goOn_165 : decode cX9_goOn 165 = .ok (.aload_n 0, 1) := by decide +kernel
theorem dX9_goOn_166 : decode cX9_goOn 166 = .ok (.getfield 77, 3) := by decide +kernel
theorem dX9_goOn_169 : decode cX9_goOn 169 = .ok (.bipush 8, 2) := by decide +kernel
theorem dX9_goOn_171 : decode cX9_goOn 171 = .ok (.iadd, 1) := by decide +kernel
theorem dX9_goOn_172 : decode cX9_goOn 172 = .ok (.if_icmp .ge 27, 3) := by decide +kernel
theorem dX9_goOn_175 : decode cX9_goOn 175 = .ok (.aload_n 0, 1) := by decide +kernel
theorem dX9_goOn_176 : decode cX9_goOn 176 = .ok (.aload_n 0, 1) := by decide +kernel
theorem dX9_goOn_177 : decode cX9_goOn 177 = .ok (.getfield 91, 3) := by decide +kernel
theorem dX9_goOn_180 : decode cX9_goOn 180 = .ok (.bipush 8, 2) := by decide +kernel
theorem dX9_goOn_182 : decode cX9_goOn 182 = .ok (.lshl, 1) := by decide +kernel
theorem dX9_goOn_183 : decode cX9_goOn 183 = .ok (.aload_n 0, 1) := by decide +kernel
theorem dX9_goOn_184 : decode cX9_goOn 184 = .ok (.iload_n 2, 1) := by decide +kernel
theorem dX9_goOn_185 : decode cX9_goOn 185 = .ok (.invokevirtual 80, 3) := by decide +kernel
theorem dX9_goOn_188 : decode cX9_goOn 188 = .ok (.i2l, 1) := by decide +kernel
theorem dX9_goOn_189 : decode cX9_goOn 189 = .ok (.lor, 1) := by decide +kernel
theorem dX9_goOn_190 : decode cX9_goOn 190 = .ok (.putfield 91, 3) := by decide +kernel
theorem dX9_goOn_193 : decode cX9_goOn 193 = .ok (.iinc 2 1, 3) := by decide +kernel
theorem dX9_goOn_196 : decode cX9_goOn 196 = .ok (.goto (-40), 3) := by decide +kernel
theorem dX9_goOn_199 : decode cX9_goOn 199 = .ok (.aload_n 0, 1) := by decide +kernel
theorem dX9_goOn_200 : decode cX9_goOn 200 = .ok (.aload_n 0, 1) := by decide +kernel
theorem dX9_goOn_201 : decode cX9_goOn 201 = .ok (.getfield 74, 3) := by decide +kernel
theorem dX9_goOn_204 : decode cX9_goOn 204 = .ok (.aload_n 0, 1) := by decide +kernel
theorem dX9_goOn_205 : decode cX9_goOn 205 = .ok (.getfield 77, 3) := by decide +kernel
theorem dX9_goOn_208 : decode cX9_goOn 208 = .ok (.isub, 1) := by decide +kernel
theorem dX9_goOn_209 : decode cX9_goOn 209 = .ok (.bipush 8, 2) := by decide +kernel
theorem dX9_goOn_211 : decode cX9_goOn 211 = .ok (.if_icmp .le 7, 3) := by decide +kernel
theorem dX9_goOn_214 : decode cX9_goOn 214 = .ok (.iconst 1, 1) := by decide +kernel
theorem dX9_goOn_215 : decode cX9_goOn 215 = .ok (.goto 30, 3) := by decide +kernel
theorem dX9_goOn_218 : decode cX9_goOn 218 = .ok (.aload_n 0, 1) := by decide +kernel
theorem dX9_goOn_219 : decode cX9_goOn 219 = .ok (.getfield 91, 3) := by decide +kernel
theorem dX9_goOn_222 : decode cX9_goOn 222 = .ok (.ldc2_w 95, 3) := by decide +kernel
theorem dX9_goOn_225 : decode cX9_goOn 225 = .ok (.lcmp, 1) := by decide +kernel
theorem dX9_goOn_226 : decode cX9_goOn 226 = .ok (.ifCond .eq 14, 3) := by decide +kernel
theorem dX9_goOn_229 : decode cX9_goOn 229 = .ok (.aload_n 0, 1) := by decide +kernel
theorem dX9_goOn_230 : decode cX9_goOn 230 = .ok (.getfield 91, 3) := by decide +kernel
theorem dX9_goOn_233 : decode cX9_goOn 233 = .ok (.ldc2_w 97, 3) := by decide +kernel
theorem dX9_goOn_236 : decode cX9_goOn 236 = .ok (.lcmp, 1) := by decide +kernel
theorem dX9_goOn_237 : decode cX9_goOn 237 = .ok (.ifCond .ne 7, 3) := by decide +kernel
theorem dX9_goOn_240 : decode cX9_goOn 240 = .ok (.iconst 3, 1) := by decide +kernel
theorem dX9_goOn_241 : decode cX9_goOn 241 = .ok (.goto 4, 3) := by decide +kernel
theorem dX9_goOn_244 : decode cX9_goOn 244 = .ok (.iconst 2, 1) := by decide +kernel
theorem dX9_goOn_245 : decode cX9_goOn 245 = .ok (.putfield 84, 3) := by decide +kernel
theorem dX9_goOn_248 : decode cX9_goOn 248 = .ok (.goto 18, 3) := by decide +kernel
theorem dX9_goOn_251 : decode cX9_goOn 251 = .ok (.aload_n 0, 1) := by decide +kernel
theorem dX9_goOn_252 : decode cX9_goOn 252 = .ok (.iload_n 1, 1) := by decide +kernel
theorem dX9_goOn_253 : decode cX9_goOn 253 = .ok (.bipush 59, 2) := by decide +kernel
theorem dX9_goOn_255 : decode cX9_goOn 255 = .ok (.if_icmp .ne 7, 3) := by decide +kernel
theorem dX9_goOn_258 : decode cX9_goOn 258 = .ok (.iconst 4, 1) := by decide +kernel
theorem dX9_goOn_259 : decode cX9_goOn 259 = .ok (.goto 4, 3) := by decide +kernel
theorem dX9_goOn_262 : decode cX9_goOn 262 = .ok (.iconst 1, 1) := by decide +kernel
theorem dX9_goOn_263 : decode cX9_goOn 263 = .ok (.putfield 84, 3) := by decide +kernel
theorem dX9_goOn_266 : decode cX9_goOn 266 = .ok (.return_, 1) := by decide +kernel
theorem dX9_misplaced_0 : decode cX9_misplaced 0 = .ok (.aload_n 0, 1) := by decide +kernel
theorem dX9_misplaced_1 : decode cX9_misplaced 1 = .ok (.aload_n 0, 1) := by decide +kernel
theorem dX9_misplaced_2 : decode cX9_misplaced 2 = .ok (.getfield 84, 3) := by decide +kernel
theorem dX9_misplaced_5 : decode cX9_misplaced 5 = .ok (.iconst 1, 1) := by decide +kernel
theorem dX9_misplaced_6 : decode cX9_misplaced 6 = .ok (.if_icmp .ne 7, 3) := by decide +kernel
theorem dX9_misplaced_9 : decode cX9_misplaced 9 = .ok (.iconst 1, 1) := by decide +kernel
theorem dX9_misplaced_10 : decode cX9_misplaced 10 = .ok (.goto 4, 3) := by decide +kernel
theorem dX9_misplaced_13 : decode cX9_misplaced 13 = .ok (.iconst 2, 1) := by decide +kernel
theorem dX9_misplaced_14 : decode cX9_misplaced 14 = .ok (.aload_n 0, 1) := by decide +kernel
theorem dX9_misplaced_15 : decode cX9_misplaced 15 = .ok (.getfield 77, 3) := by decide +kernel
theorem dX9_misplaced_18 : decode cX9_misplaced 18 = .ok (.invokevirtual 99, 3) := by decide +kernel
theorem dX9_misplaced_21 : decode cX9_misplaced 21 = .ok (.return_, 1) := by decide +kernel
theorem dX9_keepers_0 : decode cX9_keepers 0 = .ok (.aload_n 0, 1) := by decide +kernel
theorem dX9_keepers_1 : decode cX9_keepers 1 = .ok (.iconst 0, 1) := by decide +kernel
theorem dX9_keepers_2 : decode cX9_keepers 2 = .ok (.putfield 71, 3) := by decide +kernel
theorem dX9_keepers_5 : decode cX9_keepers 5 = .ok (.aload_n 0, 1) := by decide +kernel
theorem dX9_keepers_6 : decode cX9_keepers 6 = .ok (.iconst (-1), 1) := by decide +kernel
theorem dX9_keepers_7 : decode cX9_keepers 7 = .ok (.putfield 27, 3) := by decide +kernel
theorem dX9_keepers_10 : decode cX9_keepers 10 = .ok (.aload_n 0, 1) := by decide +kernel
theorem dX9_keepers_11 : decode cX9_keepers 11 = .ok (.aload_n 0, 1) := by decide +kernel
theorem dX9_keepers_12 : decode cX9_keepers 12 = .ok (.getfield 103, 3) := by decide +kernel
theorem dX9_keepers_15 : decode cX9_keepers 15 = .ok (.putfield 68, 3) := by decide +kernel
theorem dX9_keepers_18 : decode cX9_keepers 18 = .ok (.iconst 0, 1) := by decide +kernel
theorem dX9_keepers_19 : decode cX9_keepers 19 = .ok (.istore_n 1, 1) := by decide +kernel
theorem dX9_keepers_20 : decode cX9_keepers 20 = .ok (.iload_n 1, 1) := by decide +kernel
theorem dX9_keepers_21 : decode cX9_keepers 21 = .ok (.aload_n 0, 1) := by decide +kernel
theorem dX9_keepers_22 : decode cX9_keepers 22 = .ok (.getfield 68, 3) := by decide +kernel
theorem dX9_keepers_25 : decode cX9_keepers 25 = .ok (.if_icmp .ge 21, 3) := by decide +kernel
theorem dX9_keepers_28 : decode cX9_keepers 28 = .ok (.aload_n 0, 1) := by decide +kernel
theorem dX9_keepers_29 : decode cX9_keepers 29 = .ok (.getfield 13, 3) := by decide +kernel
theorem dX9_keepers_32 : decode cX9_keepers 32 = .ok (.iload_n 1, 1) := by decide +kernel
theorem dX9_keepers_33 : decode cX9_keepers 33 = .ok (.aload_n 0, 1) := by decide +kernel
theorem dX9_keepers_34 : decode cX9_keepers 34 = .ok (.getfield 7, 3) := by decide +kernel
theorem dX9_keepers_37 : decode cX9_keepers 37 = .ok (.iload_n 1, 1) := by decide +kernel
theorem dX9_keepers_38 : decode cX9_keepers 38 = .ok (.baload, 1) := by decide +kernel
theorem dX9_keepers_39 : decode cX9_keepers 39 = .ok (.bastore, 1) := by decide +kernel
theorem dX9_keepers_40 : decode cX9_keepers 40 = .ok (.iinc 1 1, 3) := by decide +kernel
theorem dX9_keepers_43 : decode cX9_keepers 43 = .ok (.goto (-23), 3) := by decide +kernel
theorem dX9_keepers_46 : decode cX9_keepers 46 = .ok (.aload_n 0, 1) := by decide +kernel
theorem dX9_keepers_47 : decode cX9_keepers 47 = .ok (.iconst 0, 1) := by decide +kernel
theorem dX9_keepers_48 : decode cX9_keepers 48 = .ok (.putfield 103, 3) := by decide +kernel
theorem dX9_keepers_51 : decode cX9_keepers 51 = .ok (.aload_n 0, 1) := by decide +kernel
theorem dX9_keepers_52 : decode cX9_keepers 52 = .ok (.iconst 0, 1) := by decide +kernel
theorem dX9_keepers_53 : decode cX9_keepers 53 = .ok (.putfield 74, 3) := by decide +kernel
theorem dX9_keepers_56 : decode cX9_keepers 56 = .ok (.aload_n 0, 1) := by decide +kernel
theorem dX9_keepers_57 : decode cX9_keepers 57 = .ok (.iconst 1, 1) := by decide +kernel
theorem dX9_keepers_58 : decode cX9_keepers 58 = .ok (.aload_n 0, 1) := by decide +kernel
theorem dX9_keepers_59 : decode cX9_keepers 59 = .ok (.getfield 106, 3) := by decide +kernel
theorem dX9_keepers_62 : decode cX9_keepers 62 = .ok (.isub, 1) := by decide +kernel
theorem dX9_keepers_63 : decode cX9_keepers 63 = .ok (.putfield 109, 3) := by decide +kernel
theorem dX9_keepers_66 : decode cX9_keepers 66 = .ok (.aload_n 0, 1) := by decide +kernel
theorem dX9_keepers_67 : decode cX9_keepers 67 = .ok (.getfield 31, 3) := by decide +kernel
theorem dX9_keepers_70 : decode cX9_keepers 70 = .ok (.aload_n 0, 1) := by decide +kernel
theorem dX9_keepers_71 : decode cX9_keepers 71 = .ok (.getfield 109, 3) := by decide +kernel
theorem dX9_keepers_74 : decode cX9_keepers 74 = .ok (.iconst 0, 1) := by decide +kernel
theorem dX9_keepers_75 : decode cX9_keepers 75 = .ok (.iastore, 1) := by decide +kernel
theorem dX9_keepers_76 : decode cX9_keepers 76 = .ok (.aload_n 0, 1) := by decide +kernel
theorem dX9_keepers_77 : decode cX9_keepers 77 = .ok (.getfield 34, 3) := by decide +kernel
theorem dX9_keepers_80 : decode cX9_keepers 80 = .ok (.aload_n 0, 1) := by decide +kernel
theorem dX9_keepers_81 : decode cX9_keepers 81 = .ok (.getfield 109, 3) := by decide +kernel
theorem dX9_keepers_84 : decode cX9_keepers 84 = .ok (.iconst 0, 1) := by decide +kernel
theorem dX9_keepers_85 : decode cX9_keepers 85 = .ok (.iastore, 1) := by decide +kernel
theorem dX9_keepers_86 : decode cX9_keepers 86 = .ok (.aload_n 0, 1) := by decide +kernel
theorem dX9_keepers_87 : decode cX9_keepers 87 = .ok (.invokevirtual 112, 3) := by decide +kernel
theorem dX9_keepers_90 : decode cX9_keepers 90 = .ok (.aload_n 0, 1) := by decide +kernel
theorem dX9_keepers_91 : decode cX9_keepers 91 = .ok (.invokevirtual 115, 3) := by decide +kernel
theorem dX9_keepers_94 : decode cX9_keepers 94 = .ok (.ifCond .eq 17, 3) := by decide +kernel
theorem dX9_keepers_97 : decode cX9_keepers 97 = .ok (.aload_n 0, 1) := by decide +kernel
theorem dX9_keepers_98 : decode cX9_keepers 98 = .ok (.getfield 84, 3) := by decide +kernel
theorem dX9_keepers_101 : decode cX9_keepers 101 = .ok (.ifCond .eq 10, 3) := by decide +kernel
theorem dX9_keepers_104 : decode cX9_keepers 104 = .ok (.aload_n 0, 1) := by decide +kernel
theorem dX9_keepers_105 : decode cX9_keepers 105 = .ok (.invokevirtual 119, 3) := by decide +kernel
theorem dX9_keepers_108 : decode cX9_keepers 108 = .ok (.goto (-18), 3) := by decide +kernel
theorem dX9_keepers_111 : decode cX9_keepers 111 = .ok (.aload_n 0, 1) := by decide +kernel
theorem dX9_keepers_112 : decode cX9_keepers 112 = .ok (.invokevirtual 115, 3) := by decide +kernel
theorem dX9_keepers_115 : decode cX9_keepers 115 = .ok (.ifCond .eq 36, 3) := by decide +kernel
theorem dX9_keepers_118 : decode cX9_keepers 118 = .ok (.aload_n 0, 1) := by decide +kernel
theorem dX9_keepers_119 : decode cX9_keepers 119 = .ok (.getfield 34, 3) := by decide +kernel
theorem dX9_keepers_122 : decode cX9_keepers 122 = .ok (.aload_n 0, 1) := by decide +kernel
theorem dX9_keepers_123 : decode cX9_keepers 123 = .ok (.getfield 109, 3) := by decide +kernel
theorem dX9_keepers_126 : decode cX9_keepers 126 = .ok (.iaload, 1) := by decide +kernel
theorem dX9_keepers_127 : decode cX9_keepers 127 = .ok (.invokestatic 122, 3) := by decide +kernel
theorem dX9_keepers_130 : decode cX9_keepers 130 = .ok (.aload_n 0, 1) := by decide +kernel
theorem dX9_keepers_131 : decode cX9_keepers 131 = .ok (.getfield 31, 3) := by decide +kernel
theorem dX9_keepers_134 : decode cX9_keepers 134 = .ok (.aload_n 0, 1) := by decide +kernel
theorem dX9_keepers_135 : decode cX9_keepers 135 = .ok (.getfield 109, 3) := by decide +kernel
theorem dX9_keepers_138 : decode cX9_keepers 138 = .ok (.iaload, 1) := by decide +kernel
theorem dX9_keepers_139 : decode cX9_keepers 139 = .ok (.if_icmp .ne 12, 3) := by decide +kernel
theorem dX9_keepers_142 : decode cX9_keepers 142 = .ok (.aload_n 0, 1) := by decide +kernel
theorem dX9_keepers_143 : decode cX9_keepers 143 = .ok (.iconst 4, 1) := by decide +kernel
theorem dX9_keepers_144 : decode cX9_keepers 144 = .ok (.aload_n 0, 1) := by decide +kernel
theorem dX9_keepers_145 : decode cX9_keepers 145 = .ok (.getfield 68, 3) := by decide +kernel
theorem dX9_keepers_148 : decode cX9_keepers 148 = .ok (.invokevirtual 99, 3) := by decide +kernel
theorem dX9_keepers_151 : decode cX9_keepers 151 = .ok (.aload_n 0, 1) := by decide +kernel
theorem dX9_keepers_152 : decode cX9_keepers 152 = .ok (.invokevirtual 115, 3) := by decide +kernel
theorem dX9_keepers_155 : decode cX9_keepers 155 = .ok (.ifCond .ne 5, 3) := by decide +kernel
theorem dX9_keepers_158 : decode cX9_keepers 158 = .ok (.iconst (-1), 1) := by decide +kernel
theorem dX9_keepers_159 : decode cX9_keepers 159 = .ok (.ireturn, 1) := by decide +kernel
theorem dX9_keepers_160 : decode cX9_keepers 160 = .ok (.aload_n 0, 1) := by decide +kernel
theorem dX9_keepers_161 : decode cX9_keepers 161 = .ok (.aload_n 0, 1) := by decide +kernel
theorem dX9_keepers_162 : decode cX9_keepers 162 = .ok (.getfield 109, 3) := by decide +kernel
theorem dX9_keepers_165 : decode cX9_keepers 165 = .ok (.putfield 106, 3) := by decide +kernel
theorem dX9_keepers_168 : decode cX9_keepers 168 = .ok (.aload_n 0, 1) := by decide +kernel
theorem dX9_keepers_169 : decode cX9_keepers 169 = .ok (.invokevirtual 65, 3) := by decide +kernel
theorem dX9_keepers_172 : decode cX9_keepers 172 = .ok (.aload_n 0, 1) := by decide +kernel
theorem dX9_keepers_173 : decode cX9_keepers 173 = .ok (.getfield 31, 3) := by decide +kernel
theorem dX9_keepers_176 : decode cX9_keepers 176 = .ok (.aload_n 0, 1) := by decide +kernel
theorem dX9_keepers_177 : decode cX9_keepers 177 = .ok (.getfield 106, 3) := by decide +kernel
theorem dX9_keepers_180 : decode cX9_keepers 180 = .ok (.iaload, 1) := by decide +kernel
theorem dX9_keepers_181 : decode cX9_keepers 181 = .ok (.ireturn, 1) := by decide +kernel
theorem dX9_readKeeper_0 : decode cX9_readKeeper 0 = .ok (.aload_n 0, 1) := by decide +kernel
theorem dX9_readKeeper_1 : decode cX9_readKeeper 1 = .ok (.getfield 84, 3) := by decide +kernel
theorem dX9_readKeeper_4 : decode cX9_readKeeper 4 = .ok (.iconst 3, 1) := by decide +kernel
theorem dX9_readKeeper_5 : decode cX9_readKeeper 5 = .ok (.if_icmp .ne 28, 3) := by decide +kernel
theorem dX9_readKeeper_8 : decode cX9_readKeeper 8 = .ok (.aload_n 0, 1) := by decide +kernel
theorem dX9_readKeeper_9 : decode cX9_readKeeper 9 = .ok (.getfield 91, 3) := by decide +kernel
theorem dX9_readKeeper_12 : decode cX9_readKeeper 12 = .ok (.ldc2_w 95, 3) := by decide +kernel
theorem dX9_readKeeper_15 : decode cX9_readKeeper 15 = .ok (.lcmp, 1) := by decide +kernel
theorem dX9_readKeeper_16 : decode cX9_readKeeper 16 = .ok (.ifCond .ne 17, 3) := by decide +kernel
theorem dX9_readKeeper_19 : decode cX9_readKeeper 19 = .ok (.aload_n 0, 1) := by decide +kernel
theorem dX9_readKeeper_20 : decode cX9_readKeeper 20 = .ok (.getfield 31, 3) := by decide +kernel
theorem dX9_readKeeper_23 : decode cX9_readKeeper 23 = .ok (.aload_n 0, 1) := by decide +kernel
theorem dX9_readKeeper_24 : decode cX9_readKeeper 24 = .ok (.getfield 109, 3) := by decide +kernel
theorem dX9_readKeeper_27 : decode cX9_readKeeper 27 = .ok (.iaload, 1) := by decide +kernel
theorem dX9_readKeeper_28 : decode cX9_readKeeper 28 = .ok (.bipush 7, 2) := by decide +kernel
theorem dX9_readKeeper_30 : decode cX9_readKeeper 30 = .ok (.if_icmp .ne 7, 3) := by decide +kernel
theorem dX9_readKeeper_33 : decode cX9_readKeeper 33 = .ok (.aload_n 0, 1) := by decide +kernel
theorem dX9_readKeeper_34 : decode cX9_readKeeper 34 = .ok (.invokevirtual 125, 3) := by decide +kernel
theorem dX9_readKeeper_37 : decode cX9_readKeeper 37 = .ok (.aload_n 0, 1) := by decide +kernel
theorem dX9_readKeeper_38 : decode cX9_readKeeper 38 = .ok (.invokevirtual 115, 3) := by decide +kernel
theorem dX9_readKeeper_41 : decode cX9_readKeeper 41 = .ok (.ifCond .ne 4, 3) := by decide +kernel
theorem dX9_readKeeper_44 : decode cX9_readKeeper 44 = .ok (.return_, 1) := by decide +kernel
theorem dX9_readKeeper_45 : decode cX9_readKeeper 45 = .ok (.aload_n 0, 1) := by decide +kernel
theorem dX9_readKeeper_46 : decode cX9_readKeeper 46 = .ok (.invokevirtual 112, 3) := by decide +kernel
theorem dX9_readKeeper_49 : decode cX9_readKeeper 49 = .ok (.aload_n 0, 1) := by decide +kernel
theorem dX9_readKeeper_50 : decode cX9_readKeeper 50 = .ok (.getfield 84, 3) := by decide +kernel
theorem dX9_readKeeper_53 : decode cX9_readKeeper 53 = .ok (.iconst 2, 1) := by decide +kernel
theorem dX9_readKeeper_54 : decode cX9_readKeeper 54 = .ok (.if_icmp .eq 7, 3) := by decide +kernel
theorem dX9_readKeeper_57 : decode cX9_readKeeper 57 = .ok (.aload_n 0, 1) := by decide +kernel
theorem dX9_readKeeper_58 : decode cX9_readKeeper 58 = .ok (.invokevirtual 125, 3) := by decide +kernel
theorem dX9_readKeeper_61 : decode cX9_readKeeper 61 = .ok (.iconst 0, 1) := by decide +kernel
theorem dX9_readKeeper_62 : decode cX9_readKeeper 62 = .ok (.istore_n 1, 1) := by decide +kernel
theorem dX9_readKeeper_63 : decode cX9_readKeeper 63 = .ok (.iload_n 1, 1) := by decide +kernel
theorem dX9_readKeeper_64 : decode cX9_readKeeper 64 = .ok (.aload_n 0, 1) := by decide +kernel
theorem dX9_readKeeper_65 : decode cX9_readKeeper 65 = .ok (.getfield 31, 3) := by decide +kernel
theorem dX9_readKeeper_68 : decode cX9_readKeeper 68 = .ok (.aload_n 0, 1) := by decide +kernel
theorem dX9_readKeeper_69 : decode cX9_readKeeper 69 = .ok (.getfield 109, 3) := by decide +kernel
theorem dX9_readKeeper_72 : decode cX9_readKeeper 72 = .ok (.iaload, 1) := by decide +kernel
theorem dX9_readKeeper_73 : decode cX9_readKeeper 73 = .ok (.if_icmp .ge 47, 3) := by decide +kernel
theorem dX9_readKeeper_76 : decode cX9_readKeeper 76 = .ok (.aload_n 0, 1) := by decide +kernel
theorem dX9_readKeeper_77 : decode cX9_readKeeper 77 = .ok (.invokevirtual 115, 3) := by decide +kernel
theorem dX9_readKeeper_80 : decode cX9_readKeeper 80 = .ok (.ifCond .eq 34, 3) := by decide +kernel
theorem dX9_readKeeper_83 : decode cX9_readKeeper 83 = .ok (.aload_n 0, 1) := by decide +kernel
theorem dX9_readKeeper_84 : decode cX9_readKeeper 84 = .ok (.getfield 37, 3) := by decide +kernel
theorem dX9_readKeeper_87 : decode cX9_readKeeper 87 = .ok (.bipush 7, 2) := by decide +kernel
theorem dX9_readKeeper_89 : decode cX9_readKeeper 89 = .ok (.aload_n 0, 1) := by decide +kernel
theorem dX9_readKeeper_90 : decode cX9_readKeeper 90 = .ok (.getfield 109, 3) := by decide +kernel
theorem dX9_readKeeper_93 : decode cX9_readKeeper 93 = .ok (.imul, 1) := by decide +kernel
theorem dX9_readKeeper_94 : decode cX9_readKeeper 94 = .ok (.iload_n 1, 1) := by decide +kernel
theorem dX9_readKeeper_95 : decode cX9_readKeeper 95 = .ok (.iadd, 1) := by decide +kernel
theorem dX9_readKeeper_96 : decode cX9_readKeeper 96 = .ok (.laload, 1) := by decide +kernel
theorem dX9_readKeeper_97 : decode cX9_readKeeper 97 = .ok (.aload_n 0, 1) := by decide +kernel
theorem dX9_readKeeper_98 : decode cX9_readKeeper 98 = .ok (.getfield 91, 3) := by decide +kernel
theorem dX9_readKeeper_101 : decode cX9_readKeeper 101 = .ok (.lcmp, 1) := by decide +kernel
theorem dX9_readKeeper_102 : decode cX9_readKeeper 102 = .ok (.ifCond .ne 12, 3) := by decide +kernel
theorem dX9_readKeeper_105 : decode cX9_readKeeper 105 = .ok (.aload_n 0, 1) := by decide +kernel
theorem dX9_readKeeper_106 : decode cX9_readKeeper 106 = .ok (.iconst 3, 1) := by decide +kernel
theorem dX9_readKeeper_107 : decode cX9_readKeeper 107 = .ok (.aload_n 0, 1) := by decide +kernel
theorem dX9_readKeeper_108 : decode cX9_readKeeper 108 = .ok (.getfield 77, 3) := by decide +kernel
theorem dX9_readKeeper_111 : decode cX9_readKeeper 111 = .ok (.invokevirtual 99, 3) := by decide +kernel
theorem dX9_readKeeper_114 : decode cX9_readKeeper 114 = .ok (.iinc 1 1, 3) := by decide +kernel
theorem dX9_readKeeper_117 : decode cX9_readKeeper 117 = .ok (.goto (-54), 3) := by decide +kernel
theorem dX9_readKeeper_120 : decode cX9_readKeeper 120 = .ok (.aload_n 0, 1) := by decide +kernel
theorem dX9_readKeeper_121 : decode cX9_readKeeper 121 = .ok (.invokevirtual 115, 3) := by decide +kernel
theorem dX9_readKeeper_124 : decode cX9_readKeeper 124 = .ok (.ifCond .ne 4, 3) := by decide +kernel
theorem dX9_readKeeper_127 : decode cX9_readKeeper 127 = .ok (.return_, 1) := by decide +kernel
theorem dX9_readKeeper_128 : decode cX9_readKeeper 128 = .ok (.aload_n 0, 1) := by decide +kernel
theorem dX9_readKeeper_129 : decode cX9_readKeeper 129 = .ok (.getfield 37, 3) := by decide +kernel
theorem dX9_readKeeper_132 : decode cX9_readKeeper 132 = .ok (.bipush 7, 2) := by decide +kernel
theorem dX9_readKeeper_134 : decode cX9_readKeeper 134 = .ok (.aload_n 0, 1) := by decide +kernel
theorem dX9_readKeeper_135 : decode cX9_readKeeper 135 = .ok (.getfield 109, 3) := by decide +kernel
theorem dX9_readKeeper_138 : decode cX9_readKeeper 138 = .ok (.imul, 1) := by decide +kernel
theorem dX9_readKeeper_139 : decode cX9_readKeeper 139 = .ok (.aload_n 0, 1) := by decide +kernel
theorem dX9_readKeeper_140 : decode cX9_readKeeper 140 = .ok (.getfield 31, 3) := by decide +kernel
theorem dX9_readKeeper_143 : decode cX9_readKeeper 143 = .ok (.aload_n 0, 1) := by decide +kernel
theorem dX9_readKeeper_144 : decode cX9_readKeeper 144 = .ok (.getfield 109, 3) := by decide +kernel
theorem dX9_readKeeper_147 : decode cX9_readKeeper 147 = .ok (.iaload, 1) := by decide +kernel
theorem dX9_readKeeper_148 : decode cX9_readKeeper 148 = .ok (.iadd, 1) := by decide +kernel
theorem dX9_readKeeper_149 : decode cX9_readKeeper 149 = .ok (.aload_n 0, 1) := by decide +kernel
theorem dX9_readKeeper_150 : decode cX9_readKeeper 150 = .ok (.getfield 91, 3) := by decide +kernel
theorem dX9_readKeeper_153 : decode cX9_readKeeper 153 = .ok (.lastore, 1) := by decide +kernel
theorem dX9_readKeeper_154 : decode cX9_readKeeper 154 = .ok (.aload_n 0, 1) := by decide +kernel
theorem dX9_readKeeper_155 : decode cX9_readKeeper 155 = .ok (.invokevirtual 112, 3) := by decide +kernel
theorem dX9_readKeeper_158 : decode cX9_readKeeper 158 = .ok (.aload_n 0, 1) := by decide +kernel
theorem dX9_readKeeper_159 : decode cX9_readKeeper 159 = .ok (.getfield 84, 3) := by decide +kernel
theorem dX9_readKeeper_162 : decode cX9_readKeeper 162 = .ok (.iconst 3, 1) := by decide +kernel
theorem dX9_readKeeper_163 : decode cX9_readKeeper 163 = .ok (.if_icmp .ne 41, 3) := by decide +kernel
theorem dX9_readKeeper_166 : decode cX9_readKeeper 166 = .ok (.aload_n 0, 1) := by decide +kernel
theorem dX9_readKeeper_167 : decode cX9_readKeeper 167 = .ok (.getfield 91, 3) := by decide +kernel
theorem dX9_readKeeper_170 : decode cX9_readKeeper 170 = .ok (.ldc2_w 97, 3) := by decide +kernel
theorem dX9_readKeeper_173 : decode cX9_readKeeper 173 = .ok (.lcmp, 1) := by decide +kernel
theorem dX9_readKeeper_174 : decode cX9_readKeeper 174 = .ok (.ifCond .ne 30, 3) := by decide +kernel
theorem dX9_readKeeper_177 : decode cX9_readKeeper 177 = .ok (.aload_n 0, 1) := by decide +kernel
theorem dX9_readKeeper_178 : decode cX9_readKeeper 178 = .ok (.getfield 34, 3) := by decide +kernel
theorem dX9_readKeeper_181 : decode cX9_readKeeper 181 = .ok (.aload_n 0, 1) := by decide +kernel
theorem dX9_readKeeper_182 : decode cX9_readKeeper 182 = .ok (.getfield 109, 3) := by decide +kernel
theorem dX9_readKeeper_185 : decode cX9_readKeeper 185 = .ok (.dup2, 1) := by decide +kernel
theorem dX9_readKeeper_186 : decode cX9_readKeeper 186 = .ok (.iaload, 1) := by decide +kernel
theorem dX9_readKeeper_187 : decode cX9_readKeeper 187 = .ok (.iconst 1, 1) := by decide +kernel
theorem dX9_readKeeper_188 : decode cX9_readKeeper 188 = .ok (.aload_n 0, 1) := by decide +kernel
theorem dX9_readKeeper_189 : decode cX9_readKeeper 189 = .ok (.getfield 31, 3) := by decide +kernel
theorem dX9_readKeeper_192 : decode cX9_readKeeper 192 = .ok (.aload_n 0, 1) := by decide +kernel
theorem dX9_readKeeper_193 : decode cX9_readKeeper 193 = .ok (.getfield 109, 3) := by decide +kernel
theorem dX9_readKeeper_196 : decode cX9_readKeeper 196 = .ok (.iaload, 1) := by decide +kernel
theorem dX9_readKeeper_197 : decode cX9_readKeeper 197 = .ok (.ishl, 1) := by decide +kernel
theorem dX9_readKeeper_198 : decode cX9_readKeeper 198 = .ok (.ior, 1) := by decide +kernel
theorem dX9_readKeeper_199 : decode cX9_readKeeper 199 = .ok (.iastore, 1) := by decide +kernel
theorem dX9_readKeeper_200 : decode cX9_readKeeper 200 = .ok (.aload_n 0, 1) := by decide +kernel
theorem dX9_readKeeper_201 : decode cX9_readKeeper 201 = .ok (.invokevirtual 112, 3) := by decide +kernel
theorem dX9_readKeeper_204 : decode cX9_readKeeper 204 = .ok (.aload_n 0, 1) := by decide +kernel
theorem dX9_readKeeper_205 : decode cX9_readKeeper 205 = .ok (.getfield 84, 3) := by decide +kernel
theorem dX9_readKeeper_208 : decode cX9_readKeeper 208 = .ok (.iconst 4, 1) := by decide +kernel
theorem dX9_readKeeper_209 : decode cX9_readKeeper 209 = .ok (.if_icmp .eq 7, 3) := by decide +kernel
theorem dX9_readKeeper_212 : decode cX9_readKeeper 212 = .ok (.aload_n 0, 1) := by decide +kernel
theorem dX9_readKeeper_213 : decode cX9_readKeeper 213 = .ok (.invokevirtual 125, 3) := by decide +kernel
theorem dX9_readKeeper_216 : decode cX9_readKeeper 216 = .ok (.aload_n 0, 1) := by decide +kernel
theorem dX9_readKeeper_217 : decode cX9_readKeeper 217 = .ok (.invokevirtual 115, 3) := by decide +kernel
theorem dX9_readKeeper_220 : decode cX9_readKeeper 220 = .ok (.ifCond .ne 4, 3) := by decide +kernel
theorem dX9_readKeeper_223 : decode cX9_readKeeper 223 = .ok (.return_, 1) := by decide +kernel
theorem dX9_readKeeper_224 : decode cX9_readKeeper 224 = .ok (.aload_n 0, 1) := by decide +kernel
theorem dX9_readKeeper_225 : decode cX9_readKeeper 225 = .ok (.invokevirtual 112, 3) := by decide +kernel
theorem dX9_readKeeper_228 : decode cX9_readKeeper 228 = .ok (.aload_n 0, 1) := by decide +kernel
theorem dX9_readKeeper_229 : decode cX9_readKeeper 229 = .ok (.getfield 31, 3) := by decide +kernel
theorem dX9_readKeeper_232 : decode cX9_readKeeper 232 = .ok (.aload_n 0, 1) := by decide +kernel
theorem dX9_readKeeper_233 : decode cX9_readKeeper 233 = .ok (.getfield 109, 3) := by decide +kernel
theorem dX9_readKeeper_236 : decode cX9_readKeeper 236 = .ok (.dup2, 1) := by decide +kernel
theorem dX9_readKeeper_237 : decode cX9_readKeeper 237 = .ok (.iaload, 1) := by decide +kernel
theorem dX9_readKeeper_238 : decode cX9_readKeeper 238 = .ok (.iconst 1, 1) := by decide +kernel
theorem dX9_readKeeper_239 : decode cX9_readKeeper 239 = .ok (.iadd, 1) := by decide +kernel
theorem dX9_readKeeper_240 : decode cX9_readKeeper 240 = .ok (.iastore, 1) := by decide +kernel
theorem dX9_readKeeper_241 : decode cX9_readKeeper 241 = .ok (.return_, 1) := by decide +kernel
theorem dX9_fault_0 : decode cX9_fault 0 = .ok (.iload_n 1, 1) := by decide +kernel
theorem dX9_fault_1 : decode cX9_fault 1 = .ok (.ifCond .ne 10, 3) := by decide +kernel
theorem dX9_fault_4 : decode cX9_fault 4 = .ok (.aload_n 0, 1) := by decide +kernel
theorem dX9_fault_5 : decode cX9_fault 5 = .ok (.getfield 71, 3) := by decide +kernel
theorem dX9_fault_8 : decode cX9_fault 8 = .ok (.goto 16, 3) := by decide +kernel
theorem dX9_fault_11 : decode cX9_fault 11 = .ok (.iload_n 1, 1) := by decide +kernel
theorem dX9_fault_12 : decode cX9_fault 12 = .ok (.iconst 1, 1) := by decide +kernel
theorem dX9_fault_13 : decode cX9_fault 13 = .ok (.if_icmp .ne 10, 3) := by decide +kernel
theorem dX9_fault_16 : decode cX9_fault 16 = .ok (.aload_n 0, 1) := by decide +kernel
theorem dX9_fault_17 : decode cX9_fault 17 = .ok (.getfield 27, 3) := by decide +kernel
theorem dX9_fault_20 : decode cX9_fault 20 = .ok (.goto 4, 3) := by decide +kernel
theorem dX9_fault_23 : decode cX9_fault 23 = .ok (.iconst (-1), 1) := by decide +kernel
theorem dX9_fault_24 : decode cX9_fault 24 = .ok (.ireturn, 1) := by decide +kernel
theorem dX9_isIn_0 : decode cX9_isIn 0 = .ok (.iload_n 0, 1) := by decide +kernel
theorem dX9_isIn_1 : decode cX9_isIn 1 = .ok (.iload_n 1, 1) := by decide +kernel
theorem dX9_isIn_2 : decode cX9_isIn 2 = .ok (.if_icmp .lt 12, 3) := by decide +kernel
theorem dX9_isIn_5 : decode cX9_isIn 5 = .ok (.iload_n 0, 1) := by decide +kernel
theorem dX9_isIn_6 : decode cX9_isIn 6 = .ok (.iload_n 2, 1) := by decide +kernel
theorem dX9_isIn_7 : decode cX9_isIn 7 = .ok (.if_icmp .gt 7, 3) := by decide +kernel
theorem dX9_isIn_10 : decode cX9_isIn 10 = .ok (.iconst 1, 1) := by decide +kernel
theorem dX9_isIn_11 : decode cX9_isIn 11 = .ok (.goto 4, 3) := by decide +kernel
theorem dX9_isIn_14 : decode cX9_isIn 14 = .ok (.iconst 0, 1) := by decide +kernel
theorem dX9_isIn_15 : decode cX9_isIn 15 = .ok (.ireturn, 1) := by decide +kernel
theorem dX9_bitsOf_0 : decode cX9_bitsOf 0 = .ok (.iconst 0, 1) := by decide +kernel
theorem dX9_bitsOf_1 : decode cX9_bitsOf 1 = .ok (.istore_n 1, 1) := by decide +kernel
theorem dX9_bitsOf_2 : decode cX9_bitsOf 2 = .ok (.iconst 0, 1) := by decide +kernel
theorem dX9_bitsOf_3 : decode cX9_bitsOf 3 = .ok (.istore_n 2, 1) := by decide +kernel
theorem dX9_bitsOf_4 : decode cX9_bitsOf 4 = .ok (.iload_n 2, 1) := by decide +kernel
theorem dX9_bitsOf_5 : decode cX9_bitsOf 5 = .ok (.bipush 31, 2) := by decide +kernel
theorem dX9_bitsOf_7 : decode cX9_bitsOf 7 = .ok (.if_icmp .ge 17, 3) := by decide +kernel
theorem dX9_bitsOf_10 : decode cX9_bitsOf 10 = .ok (.iload_n 1, 1) := by decide +kernel
theorem dX9_bitsOf_11 : decode cX9_bitsOf 11 = .ok (.iload_n 0, 1) := by decide +kernel
theorem dX9_bitsOf_12 : decode cX9_bitsOf 12 = .ok (.iload_n 2, 1) := by decide +kernel
theorem dX9_bitsOf_13 : decode cX9_bitsOf 13 = .ok (.ishr, 1) := by decide +kernel
theorem dX9_bitsOf_14 : decode cX9_bitsOf 14 = .ok (.iconst 1, 1) := by decide +kernel
theorem dX9_bitsOf_15 : decode cX9_bitsOf 15 = .ok (.iand, 1) := by decide +kernel
theorem dX9_bitsOf_16 : decode cX9_bitsOf 16 = .ok (.iadd, 1) := by decide +kernel
theorem dX9_bitsOf_17 : decode cX9_bitsOf 17 = .ok (.istore_n 1, 1) := by decide +kernel
theorem dX9_bitsOf_18 : decode cX9_bitsOf 18 = .ok (.iinc 2 1, 3) := by decide +kernel
theorem dX9_bitsOf_21 : decode cX9_bitsOf 21 = .ok (.goto (-17), 3) := by decide +kernel
theorem dX9_bitsOf_24 : decode cX9_bitsOf 24 = .ok (.iload_n 1, 1) := by decide +kernel
theorem dX9_bitsOf_25 : decode cX9_bitsOf 25 = .ok (.ireturn, 1) := by decide +kernel
theorem dX9_many_0 : decode cX9_many 0 = .ok (.aload_n 0, 1) := by decide +kernel
theorem dX9_many_1 : decode cX9_many 1 = .ok (.getfield 31, 3) := by decide +kernel
theorem dX9_many_4 : decode cX9_many 4 = .ok (.aload_n 0, 1) := by decide +kernel
theorem dX9_many_5 : decode cX9_many 5 = .ok (.getfield 106, 3) := by decide +kernel
theorem dX9_many_8 : decode cX9_many 8 = .ok (.iaload, 1) := by decide +kernel
theorem dX9_many_9 : decode cX9_many 9 = .ok (.ireturn, 1) := by decide +kernel
theorem dX9_isKeeper_0 : decode cX9_isKeeper 0 = .ok (.iload_n 1, 1) := by decide +kernel
theorem dX9_isKeeper_1 : decode cX9_isKeeper 1 = .ok (.iconst 0, 1) := by decide +kernel
theorem dX9_isKeeper_2 : decode cX9_isKeeper 2 = .ok (.aload_n 0, 1) := by decide +kernel
theorem dX9_isKeeper_3 : decode cX9_isKeeper 3 = .ok (.invokevirtual 128, 3) := by decide +kernel
theorem dX9_isKeeper_6 : decode cX9_isKeeper 6 = .ok (.iconst 1, 1) := by decide +kernel
theorem dX9_isKeeper_7 : decode cX9_isKeeper 7 = .ok (.isub, 1) := by decide +kernel
theorem dX9_isKeeper_8 : decode cX9_isKeeper 8 = .ok (.invokestatic 132, 3) := by decide +kernel
theorem dX9_isKeeper_11 : decode cX9_isKeeper 11 = .ok (.ireturn, 1) := by decide +kernel
theorem dX9_isVoter_0 : decode cX9_isVoter 0 = .ok (.aload_n 0, 1) := by decide +kernel
theorem dX9_isVoter_1 : decode cX9_isVoter 1 = .ok (.getfield 34, 3) := by decide +kernel
theorem dX9_isVoter_4 : decode cX9_isVoter 4 = .ok (.aload_n 0, 1) := by decide +kernel
theorem dX9_isVoter_5 : decode cX9_isVoter 5 = .ok (.getfield 106, 3) := by decide +kernel
theorem dX9_isVoter_8 : decode cX9_isVoter 8 = .ok (.iaload, 1) := by decide +kernel
theorem dX9_isVoter_9 : decode cX9_isVoter 9 = .ok (.iload_n 1, 1) := by decide +kernel
theorem dX9_isVoter_10 : decode cX9_isVoter 10 = .ok (.ishr, 1) := by decide +kernel
theorem dX9_isVoter_11 : decode cX9_isVoter 11 = .ok (.iconst 1, 1) := by decide +kernel
theorem dX9_isVoter_12 : decode cX9_isVoter 12 = .ok (.iand, 1) := by decide +kernel
theorem dX9_isVoter_13 : decode cX9_isVoter 13 = .ok (.ifCond .ne 7, 3) := by decide +kernel
theorem dX9_isVoter_16 : decode cX9_isVoter 16 = .ok (.iconst 1, 1) := by decide +kernel
theorem dX9_isVoter_17 : decode cX9_isVoter 17 = .ok (.goto 4, 3) := by decide +kernel
theorem dX9_isVoter_20 : decode cX9_isVoter 20 = .ok (.iconst 0, 1) := by decide +kernel
theorem dX9_isVoter_21 : decode cX9_isVoter 21 = .ok (.ireturn, 1) := by decide +kernel
theorem dX9_voters_0 : decode cX9_voters 0 = .ok (.aload_n 0, 1) := by decide +kernel
theorem dX9_voters_1 : decode cX9_voters 1 = .ok (.invokevirtual 128, 3) := by decide +kernel
theorem dX9_voters_4 : decode cX9_voters 4 = .ok (.aload_n 0, 1) := by decide +kernel
theorem dX9_voters_5 : decode cX9_voters 5 = .ok (.getfield 34, 3) := by decide +kernel
theorem dX9_voters_8 : decode cX9_voters 8 = .ok (.aload_n 0, 1) := by decide +kernel
theorem dX9_voters_9 : decode cX9_voters 9 = .ok (.getfield 106, 3) := by decide +kernel
theorem dX9_voters_12 : decode cX9_voters 12 = .ok (.iaload, 1) := by decide +kernel
theorem dX9_voters_13 : decode cX9_voters 13 = .ok (.invokestatic 122, 3) := by decide +kernel
theorem dX9_voters_16 : decode cX9_voters 16 = .ok (.isub, 1) := by decide +kernel
theorem dX9_voters_17 : decode cX9_voters 17 = .ok (.ireturn, 1) := by decide +kernel
theorem dX9_most_0 : decode cX9_most 0 = .ok (.aload_n 0, 1) := by decide +kernel
theorem dX9_most_1 : decode cX9_most 1 = .ok (.invokevirtual 128, 3) := by decide +kernel
theorem dX9_most_4 : decode cX9_most 4 = .ok (.ifCond .ne 7, 3) := by decide +kernel
theorem dX9_most_7 : decode cX9_most 7 = .ok (.iconst 0, 1) := by decide +kernel
theorem dX9_most_8 : decode cX9_most 8 = .ok (.goto 11, 3) := by decide +kernel
theorem dX9_most_11 : decode cX9_most 11 = .ok (.aload_n 0, 1) := by decide +kernel
theorem dX9_most_12 : decode cX9_most 12 = .ok (.invokevirtual 136, 3) := by decide +kernel
theorem dX9_most_15 : decode cX9_most 15 = .ok (.iconst 2, 1) := by decide +kernel
theorem dX9_most_16 : decode cX9_most 16 = .ok (.idiv, 1) := by decide +kernel
theorem dX9_most_17 : decode cX9_most 17 = .ok (.iconst 1, 1) := by decide +kernel
theorem dX9_most_18 : decode cX9_most 18 = .ok (.iadd, 1) := by decide +kernel
theorem dX9_most_19 : decode cX9_most 19 = .ok (.ireturn, 1) := by decide +kernel
theorem dX9_begin_0 : decode cX9_begin 0 = .ok (.iconst 0, 1) := by decide +kernel
theorem dX9_begin_1 : decode cX9_begin 1 = .ok (.istore_n 1, 1) := by decide +kernel
theorem dX9_begin_2 : decode cX9_begin 2 = .ok (.iload_n 1, 1) := by decide +kernel
theorem dX9_begin_3 : decode cX9_begin 3 = .ok (.sipush 5000, 3) := by decide +kernel
theorem dX9_begin_6 : decode cX9_begin 6 = .ok (.if_icmp .ge 16, 3) := by decide +kernel
theorem dX9_begin_9 : decode cX9_begin 9 = .ok (.aload_n 0, 1) := by decide +kernel
theorem dX9_begin_10 : decode cX9_begin 10 = .ok (.getfield 16, 3) := by decide +kernel
theorem dX9_begin_13 : decode cX9_begin 13 = .ok (.iload_n 1, 1) := by decide +kernel
theorem dX9_begin_14 : decode cX9_begin 14 = .ok (.iconst 0, 1) := by decide +kernel
theorem dX9_begin_15 : decode cX9_begin 15 = .ok (.iastore, 1) := by decide +kernel
theorem dX9_begin_16 : decode cX9_begin 16 = .ok (.iinc 1 1, 3) := by decide +kernel
theorem dX9_begin_19 : decode cX9_begin 19 = .ok (.goto (-17), 3) := by decide +kernel
theorem dX9_begin_22 : decode cX9_begin 22 = .ok (.iconst 0, 1) := by decide +kernel
theorem dX9_begin_23 : decode cX9_begin 23 = .ok (.istore_n 1, 1) := by decide +kernel
theorem dX9_begin_24 : decode cX9_begin 24 = .ok (.iload_n 1, 1) := by decide +kernel
theorem dX9_begin_25 : decode cX9_begin 25 = .ok (.bipush 7, 2) := by decide +kernel
theorem dX9_begin_27 : decode cX9_begin 27 = .ok (.if_icmp .ge 16, 3) := by decide +kernel
theorem dX9_begin_30 : decode cX9_begin 30 = .ok (.aload_n 0, 1) := by decide +kernel
theorem dX9_begin_31 : decode cX9_begin 31 = .ok (.iload_n 1, 1) := by decide +kernel
theorem dX9_begin_32 : decode cX9_begin 32 = .ok (.iconst 1, 1) := by decide +kernel
theorem dX9_begin_33 : decode cX9_begin 33 = .ok (.iconst (-1), 1) := by decide +kernel
theorem dX9_begin_34 : decode cX9_begin 34 = .ok (.invokevirtual 139, 3) := by decide +kernel
theorem dX9_begin_37 : decode cX9_begin 37 = .ok (.iinc 1 1, 3) := by decide +kernel
theorem dX9_begin_40 : decode cX9_begin 40 = .ok (.goto (-16), 3) := by decide +kernel
theorem dX9_begin_43 : decode cX9_begin 43 = .ok (.iconst 0, 1) := by decide +kernel
theorem dX9_begin_44 : decode cX9_begin 44 = .ok (.istore_n 1, 1) := by decide +kernel
theorem dX9_begin_45 : decode cX9_begin 45 = .ok (.iload_n 1, 1) := by decide +kernel
theorem dX9_begin_46 : decode cX9_begin 46 = .ok (.bipush 40, 2) := by decide +kernel
theorem dX9_begin_48 : decode cX9_begin 48 = .ok (.if_icmp .ge 23, 3) := by decide +kernel
theorem dX9_begin_51 : decode cX9_begin 51 = .ok (.aload_n 0, 1) := by decide +kernel
theorem dX9_begin_52 : decode cX9_begin 52 = .ok (.getfield 16, 3) := by decide +kernel
theorem dX9_begin_55 : decode cX9_begin 55 = .ok (.sipush 2240, 3) := by decide +kernel
theorem dX9_begin_58 : decode cX9_begin 58 = .ok (.bipush 64, 2) := by decide +kernel
theorem dX9_begin_60 : decode cX9_begin 60 = .ok (.iload_n 1, 1) := by decide +kernel
theorem dX9_begin_61 : decode cX9_begin 61 = .ok (.imul, 1) := by decide +kernel
theorem dX9_begin_62 : decode cX9_begin 62 = .ok (.iadd, 1) := by decide +kernel
theorem dX9_begin_63 : decode cX9_begin 63 = .ok (.iconst (-1), 1) := by decide +kernel
theorem dX9_begin_64 : decode cX9_begin 64 = .ok (.iastore, 1) := by decide +kernel
theorem dX9_begin_65 : decode cX9_begin 65 = .ok (.iinc 1 1, 3) := by decide +kernel
theorem dX9_begin_68 : decode cX9_begin 68 = .ok (.goto (-23), 3) := by decide +kernel
theorem dX9_begin_71 : decode cX9_begin 71 = .ok (.iconst 0, 1) := by decide +kernel
theorem dX9_begin_72 : decode cX9_begin 72 = .ok (.istore_n 1, 1) := by decide +kernel
theorem dX9_begin_73 : decode cX9_begin 73 = .ok (.iload_n 1, 1) := by decide +kernel
theorem dX9_begin_74 : decode cX9_begin 74 = .ok (.iconst 3, 1) := by decide +kernel
theorem dX9_begin_75 : decode cX9_begin 75 = .ok (.if_icmp .ge 16, 3) := by decide +kernel
theorem dX9_begin_78 : decode cX9_begin 78 = .ok (.aload_n 0, 1) := by decide +kernel
theorem dX9_begin_79 : decode cX9_begin 79 = .ok (.getfield 23, 3) := by decide +kernel
theorem dX9_begin_82 : decode cX9_begin 82 = .ok (.iload_n 1, 1) := by decide +kernel
theorem dX9_begin_83 : decode cX9_begin 83 = .ok (.iconst 0, 1) := by decide +kernel
theorem dX9_begin_84 : decode cX9_begin 84 = .ok (.bastore, 1) := by decide +kernel
theorem dX9_begin_85 : decode cX9_begin 85 = .ok (.iinc 1 1, 3) := by decide +kernel
theorem dX9_begin_88 : decode cX9_begin 88 = .ok (.goto (-15), 3) := by decide +kernel
theorem dX9_begin_91 : decode cX9_begin 91 = .ok (.return_, 1) := by decide +kernel
theorem dX9_of_0 : decode cX9_of 0 = .ok (.aload_n 0, 1) := by decide +kernel
theorem dX9_of_1 : decode cX9_of 1 = .ok (.getfield 16, 3) := by decide +kernel
theorem dX9_of_4 : decode cX9_of 4 = .ok (.sipush 320, 3) := by decide +kernel
theorem dX9_of_7 : decode cX9_of 7 = .ok (.iload_n 1, 1) := by decide +kernel
theorem dX9_of_8 : decode cX9_of 8 = .ok (.imul, 1) := by decide +kernel
theorem dX9_of_9 : decode cX9_of 9 = .ok (.iload_n 2, 1) := by decide +kernel
theorem dX9_of_10 : decode cX9_of 10 = .ok (.iadd, 1) := by decide +kernel
theorem dX9_of_11 : decode cX9_of 11 = .ok (.iaload, 1) := by decide +kernel
theorem dX9_of_12 : decode cX9_of 12 = .ok (.ireturn, 1) := by decide +kernel
theorem dX9_put_0 : decode cX9_put 0 = .ok (.aload_n 0, 1) := by decide +kernel
theorem dX9_put_1 : decode cX9_put 1 = .ok (.getfield 16, 3) := by decide +kernel
theorem dX9_put_4 : decode cX9_put 4 = .ok (.sipush 320, 3) := by decide +kernel
theorem dX9_put_7 : decode cX9_put 7 = .ok (.iload_n 1, 1) := by decide +kernel
theorem dX9_put_8 : decode cX9_put 8 = .ok (.imul, 1) := by decide +kernel
theorem dX9_put_9 : decode cX9_put 9 = .ok (.iload_n 2, 1) := by decide +kernel
theorem dX9_put_10 : decode cX9_put 10 = .ok (.iadd, 1) := by decide +kernel
theorem dX9_put_11 : decode cX9_put 11 = .ok (.iload_n 3, 1) := by decide +kernel
theorem dX9_put_12 : decode cX9_put 12 = .ok (.iastore, 1) := by decide +kernel
theorem dX9_put_13 : decode cX9_put 13 = .ok (.return_, 1) := by decide +kernel
theorem dX9_isUp_0 : decode cX9_isUp 0 = .ok (.aload_n 0, 1) := by decide +kernel
theorem dX9_isUp_1 : decode cX9_isUp 1 = .ok (.iload_n 1, 1) := by decide +kernel
theorem dX9_isUp_2 : decode cX9_isUp 2 = .ok (.invokevirtual 143, 3) := by decide +kernel
theorem dX9_isUp_5 : decode cX9_isUp 5 = .ok (.ifCond .eq 17, 3) := by decide +kernel
theorem dX9_isUp_8 : decode cX9_isUp 8 = .ok (.aload_n 0, 1) := by decide +kernel
theorem dX9_isUp_9 : decode cX9_isUp 9 = .ok (.iload_n 1, 1) := by decide +kernel
theorem dX9_isUp_10 : decode cX9_isUp 10 = .ok (.bipush 9, 2) := by decide +kernel
theorem dX9_isUp_12 : decode cX9_isUp 12 = .ok (.invokevirtual 146, 3) := by decide +kernel
theorem dX9_isUp_15 : decode cX9_isUp 15 = .ok (.ifCond .ne 7, 3) := by decide +kernel
theorem dX9_isUp_18 : decode cX9_isUp 18 = .ok (.iconst 1, 1) := by decide +kernel
theorem dX9_isUp_19 : decode cX9_isUp 19 = .ok (.goto 4, 3) := by decide +kernel
theorem dX9_isUp_22 : decode cX9_isUp 22 = .ok (.iconst 0, 1) := by decide +kernel
theorem dX9_isUp_23 : decode cX9_isUp 23 = .ok (.ireturn, 1) := by decide +kernel
theorem dX9_doesLead_0 : decode cX9_doesLead 0 = .ok (.aload_n 0, 1) := by decide +kernel
theorem dX9_doesLead_1 : decode cX9_doesLead 1 = .ok (.iload_n 1, 1) := by decide +kernel
theorem dX9_doesLead_2 : decode cX9_doesLead 2 = .ok (.invokevirtual 150, 3) := by decide +kernel
theorem dX9_doesLead_5 : decode cX9_doesLead 5 = .ok (.ifCond .eq 17, 3) := by decide +kernel
theorem dX9_doesLead_8 : decode cX9_doesLead 8 = .ok (.aload_n 0, 1) := by decide +kernel
theorem dX9_doesLead_9 : decode cX9_doesLead 9 = .ok (.iload_n 1, 1) := by decide +kernel
theorem dX9_doesLead_10 : decode cX9_doesLead 10 = .ok (.iconst 5, 1) := by decide +kernel
theorem dX9_doesLead_11 : decode cX9_doesLead 11 = .ok (.invokevirtual 146, 3) := by decide +kernel
theorem dX9_doesLead_14 : decode cX9_doesLead 14 = .ok (.iconst 2, 1) := by decide +kernel
theorem dX9_doesLead_15 : decode cX9_doesLead 15 = .ok (.if_icmp .ne 7, 3) := by decide +kernel
theorem dX9_doesLead_18 : decode cX9_doesLead 18 = .ok (.iconst 1, 1) := by decide +kernel
theorem dX9_doesLead_19 : decode cX9_doesLead 19 = .ok (.goto 4, 3) := by decide +kernel
theorem dX9_doesLead_22 : decode cX9_doesLead 22 = .ok (.iconst 0, 1) := by decide +kernel
theorem dX9_doesLead_23 : decode cX9_doesLead 23 = .ok (.ireturn, 1) := by decide +kernel
theorem dX9_entryAt_0 : decode cX9_entryAt 0 = .ok (.sipush 320, 3) := by decide +kernel
theorem dX9_entryAt_3 : decode cX9_entryAt 3 = .ok (.iload_n 1, 1) := by decide +kernel
theorem dX9_entryAt_4 : decode cX9_entryAt 4 = .ok (.imul, 1) := by decide +kernel
theorem dX9_entryAt_5 : decode cX9_entryAt 5 = .ok (.bipush 80, 2) := by decide +kernel
theorem dX9_entryAt_7 : decode cX9_entryAt 7 = .ok (.iadd, 1) := by decide +kernel
theorem dX9_entryAt_8 : decode cX9_entryAt 8 = .ok (.bipush 6, 2) := by decide +kernel
theorem dX9_entryAt_10 : decode cX9_entryAt 10 = .ok (.iload_n 2, 1) := by decide +kernel
theorem dX9_entryAt_11 : decode cX9_entryAt 11 = .ok (.aload_n 0, 1) := by decide +kernel
theorem dX9_entryAt_12 : decode cX9_entryAt 12 = .ok (.iload_n 1, 1) := by decide +kernel
theorem dX9_entryAt_13 : decode cX9_entryAt 13 = .ok (.iconst 2, 1) := by decide +kernel
theorem dX9_entryAt_14 : decode cX9_entryAt 14 = .ok (.invokevirtual 146, 3) := by decide +kernel
theorem dX9_entryAt_17 : decode cX9_entryAt 17 = .ok (.isub, 1) := by decide +kernel
theorem dX9_entryAt_18 : decode cX9_entryAt 18 = .ok (.iconst 1, 1) := by decide +kernel
theorem dX9_entryAt_19 : decode cX9_entryAt 19 = .ok (.isub, 1) := by decide +kernel
theorem dX9_entryAt_20 : decode cX9_entryAt 20 = .ok (.imul, 1) := by decide +kernel
theorem dX9_entryAt_21 : decode cX9_entryAt 21 = .ok (.iadd, 1) := by decide +kernel
theorem dX9_entryAt_22 : decode cX9_entryAt 22 = .ok (.ireturn, 1) := by decide +kernel
theorem dX9_termOf_0 : decode cX9_termOf 0 = .ok (.iload_n 2, 1) := by decide +kernel
theorem dX9_termOf_1 : decode cX9_termOf 1 = .ok (.aload_n 0, 1) := by decide +kernel
theorem dX9_termOf_2 : decode cX9_termOf 2 = .ok (.iload_n 1, 1) := by decide +kernel
theorem dX9_termOf_3 : decode cX9_termOf 3 = .ok (.iconst 2, 1) := by decide +kernel
theorem dX9_termOf_4 : decode cX9_termOf 4 = .ok (.invokevirtual 146, 3) := by decide +kernel
theorem dX9_termOf_7 : decode cX9_termOf 7 = .ok (.if_icmp .gt 12, 3) := by decide +kernel
theorem dX9_termOf_10 : decode cX9_termOf 10 = .ok (.aload_n 0, 1) := by decide +kernel
theorem dX9_termOf_11 : decode cX9_termOf 11 = .ok (.iload_n 1, 1) := by decide +kernel
theorem dX9_termOf_12 : decode cX9_termOf 12 = .ok (.iconst 3, 1) := by decide +kernel
theorem dX9_termOf_13 : decode cX9_termOf 13 = .ok (.invokevirtual 146, 3) := by decide +kernel
theorem dX9_termOf_16 : decode cX9_termOf 16 = .ok (.goto 14, 3) := by decide +kernel
theorem dX9_termOf_19 : decode cX9_termOf 19 = .ok (.aload_n 0, 1) := by decide +kernel
theorem dX9_termOf_20 : decode cX9_termOf 20 = .ok (.getfield 16, 3) := by decide +kernel
theorem dX9_termOf_23 : decode cX9_termOf 23 = .ok (.aload_n 0, 1) := by decide +kernel
theorem dX9_termOf_24 : decode cX9_termOf 24 = .ok (.iload_n 1, 1) := by decide +kernel
theorem dX9_termOf_25 : decode cX9_termOf 25 = .ok (.iload_n 2, 1) := by decide +kernel
theorem dX9_termOf_26 : decode cX9_termOf 26 = .ok (.invokevirtual 153, 3) := by decide +kernel
theorem dX9_termOf_29 : decode cX9_termOf 29 = .ok (.iaload, 1) := by decide +kernel
theorem dX9_termOf_30 : decode cX9_termOf 30 = .ok (.ireturn, 1) := by decide +kernel
theorem dX9_copy_0 : decode cX9_copy 0 = .ok (.iconst 0, 1) := by decide +kernel
theorem dX9_copy_1 : decode cX9_copy 1 = .ok (.istore 4, 2) := by decide +kernel
theorem dX9_copy_3 : decode cX9_copy 3 = .ok (.iload 4, 2) := by decide +kernel
theorem dX9_copy_5 : decode cX9_copy 5 = .ok (.iload_n 3, 1) := by decide +kernel
theorem dX9_copy_6 : decode cX9_copy 6 = .ok (.if_icmp .ge 27, 3) := by decide +kernel
theorem dX9_copy_9 : decode cX9_copy 9 = .ok (.aload_n 0, 1) := by decide +kernel
theorem dX9_copy_10 : decode cX9_copy 10 = .ok (.getfield 16, 3) := by decide +kernel
theorem dX9_copy_13 : decode cX9_copy 13 = .ok (.iload_n 2, 1) := by decide +kernel
theorem dX9_copy_14 : decode cX9_copy 14 = .ok (.iload 4, 2) := by decide +kernel
theorem dX9_copy_16 : decode cX9_copy 16 = .ok (.iadd, 1) := by decide +kernel
theorem dX9_copy_17 : decode cX9_copy 17 = .ok (.aload_n 0, 1) := by decide +kernel
theorem dX9_copy_18 : decode cX9_copy 18 = .ok (.getfield 16, 3) := by decide +kernel
theorem dX9_copy_21 : decode cX9_copy 21 = .ok (.iload_n 1, 1) := by decide +kernel
theorem dX9_copy_22 : decode cX9_copy 22 = .ok (.iload 4, 2) := by decide +kernel
theorem dX9_copy_24 : decode cX9_copy 24 = .ok (.iadd, 1) := by decide +kernel
theorem dX9_copy_25 : decode cX9_copy 25 = .ok (.iaload, 1) := by decide +kernel
theorem dX9_copy_26 : decode cX9_copy 26 = .ok (.iastore, 1) := by decide +kernel
theorem dX9_copy_27 : decode cX9_copy 27 = .ok (.iinc 4 1, 3) := by decide +kernel
theorem dX9_copy_30 : decode cX9_copy 30 = .ok (.goto (-27), 3) := by decide +kernel
theorem dX9_copy_33 : decode cX9_copy 33 = .ok (.return_, 1) := by decide +kernel
theorem dX9_works_0 : decode cX9_works 0 = .ok (.iload_n 1, 1) := by decide +kernel
theorem dX9_works_1 : decode cX9_works 1 = .ok (.bipush 8, 2) := by decide +kernel
theorem dX9_works_3 : decode cX9_works 3 = .ok (.iadd, 1) := by decide +kernel
theorem dX9_works_4 : decode cX9_works 4 = .ok (.iconst 2, 1) := by decide +kernel
theorem dX9_works_5 : decode cX9_works 5 = .ok (.aload_n 0, 1) := by decide +kernel
theorem dX9_works_6 : decode cX9_works 6 = .ok (.getfield 16, 3) := by decide +kernel
theorem dX9_works_9 : decode cX9_works 9 = .ok (.iload_n 2, 1) := by decide +kernel
theorem dX9_works_10 : decode cX9_works 10 = .ok (.iconst 1, 1) := by decide +kernel
theorem dX9_works_11 : decode cX9_works 11 = .ok (.iadd, 1) := by decide +kernel
theorem dX9_works_12 : decode cX9_works 12 = .ok (.iaload, 1) := by decide +kernel
theorem dX9_works_13 : decode cX9_works 13 = .ok (.imul, 1) := by decide +kernel
theorem dX9_works_14 : decode cX9_works 14 = .ok (.iadd, 1) := by decide +kernel
theorem dX9_works_15 : decode cX9_works 15 = .ok (.istore_n 3, 1) := by decide +kernel
theorem dX9_works_16 : decode cX9_works 16 = .ok (.iload_n 1, 1) := by decide +kernel
theorem dX9_works_17 : decode cX9_works 17 = .ok (.aload_n 0, 1) := by decide +kernel
theorem dX9_works_18 : decode cX9_works 18 = .ok (.getfield 16, 3) := by decide +kernel
theorem dX9_works_21 : decode cX9_works 21 = .ok (.iload_n 2, 1) := by decide +kernel
theorem dX9_works_22 : decode cX9_works 22 = .ok (.iconst 4, 1) := by decide +kernel
theorem dX9_works_23 : decode cX9_works 23 = .ok (.iadd, 1) := by decide +kernel
theorem dX9_works_24 : decode cX9_works 24 = .ok (.iaload, 1) := by decide +kernel
theorem dX9_works_25 : decode cX9_works 25 = .ok (.iadd, 1) := by decide +kernel
theorem dX9_works_26 : decode cX9_works 26 = .ok (.istore 4, 2) := by decide +kernel
theorem dX9_works_28 : decode cX9_works 28 = .ok (.aload_n 0, 1) := by decide +kernel
theorem dX9_works_29 : decode cX9_works 29 = .ok (.getfield 16, 3) := by decide +kernel
theorem dX9_works_32 : decode cX9_works 32 = .ok (.iload_n 2, 1) := by decide +kernel
theorem dX9_works_33 : decode cX9_works 33 = .ok (.iconst 5, 1) := by decide +kernel
theorem dX9_works_34 : decode cX9_works 34 = .ok (.iadd, 1) := by decide +kernel
theorem dX9_works_35 : decode cX9_works 35 = .ok (.iaload, 1) := by decide +kernel
theorem dX9_works_36 : decode cX9_works 36 = .ok (.istore 5, 2) := by decide +kernel
theorem dX9_works_38 : decode cX9_works 38 = .ok (.aload_n 0, 1) := by decide +kernel
theorem dX9_works_39 : decode cX9_works 39 = .ok (.getfield 16, 3) := by decide +kernel
theorem dX9_works_42 : decode cX9_works 42 = .ok (.iload_n 2, 1) := by decide +kernel
theorem dX9_works_43 : decode cX9_works 43 = .ok (.iconst 2, 1) := by decide +kernel
theorem dX9_works_44 : decode cX9_works 44 = .ok (.iadd, 1) := by decide +kernel
theorem dX9_works_45 : decode cX9_works 45 = .ok (.iaload, 1) := by decide +kernel
theorem dX9_works_46 : decode cX9_works 46 = .ok (.aload_n 0, 1) := by decide +kernel
theorem dX9_works_47 : decode cX9_works 47 = .ok (.getfield 16, 3) := by decide +kernel
theorem dX9_works_50 : decode cX9_works 50 = .ok (.iload_n 3, 1) := by decide +kernel
theorem dX9_works_51 : decode cX9_works 51 = .ok (.iaload, 1) := by decide +kernel
theorem dX9_works_52 : decode cX9_works 52 = .ok (.if_icmp .gt 4, 3) := by decide +kernel
theorem dX9_works_55 : decode cX9_works 55 = .ok (.return_, 1) := by decide +kernel
theorem dX9_works_56 : decode cX9_works 56 = .ok (.aload_n 0, 1) := by decide +kernel
theorem dX9_works_57 : decode cX9_works 57 = .ok (.getfield 16, 3) := by decide +kernel
theorem dX9_works_60 : decode cX9_works 60 = .ok (.iload 4, 2) := by decide +kernel
theorem dX9_works_62 : decode cX9_works 62 = .ok (.iaload, 1) := by decide +kernel
theorem dX9_works_63 : decode cX9_works 63 = .ok (.istore 6, 2) := by decide +kernel
theorem dX9_works_65 : decode cX9_works 65 = .ok (.aload_n 0, 1) := by decide +kernel
theorem dX9_works_66 : decode cX9_works 66 = .ok (.getfield 16, 3) := by decide +kernel
theorem dX9_works_69 : decode cX9_works 69 = .ok (.iload 4, 2) := by decide +kernel
theorem dX9_works_71 : decode cX9_works 71 = .ok (.aload_n 0, 1) := by decide +kernel
theorem dX9_works_72 : decode cX9_works 72 = .ok (.getfield 16, 3) := by decide +kernel
theorem dX9_works_75 : decode cX9_works 75 = .ok (.iload_n 2, 1) := by decide +kernel
theorem dX9_works_76 : decode cX9_works 76 = .ok (.iconst 3, 1) := by decide +kernel
theorem dX9_works_77 : decode cX9_works 77 = .ok (.iadd, 1) := by decide +kernel
theorem dX9_works_78 : decode cX9_works 78 = .ok (.iaload, 1) := by decide +kernel
theorem dX9_works_79 : decode cX9_works 79 = .ok (.iload 6, 2) := by decide +kernel
theorem dX9_works_81 : decode cX9_works 81 = .ok (.iload 5, 2) := by decide +kernel
theorem dX9_works_83 : decode cX9_works 83 = .ok (.invokestatic 156, 3) := by decide +kernel
theorem dX9_works_86 : decode cX9_works 86 = .ok (.iastore, 1) := by decide +kernel
theorem dX9_works_87 : decode cX9_works 87 = .ok (.aload_n 0, 1) := by decide +kernel
theorem dX9_works_88 : decode cX9_works 88 = .ok (.getfield 16, 3) := by decide +kernel
theorem dX9_works_91 : decode cX9_works 91 = .ok (.iload_n 3, 1) := by decide +kernel
theorem dX9_works_92 : decode cX9_works 92 = .ok (.aload_n 0, 1) := by decide +kernel
theorem dX9_works_93 : decode cX9_works 93 = .ok (.getfield 16, 3) := by decide +kernel
theorem dX9_works_96 : decode cX9_works 96 = .ok (.iload_n 2, 1) := by decide +kernel
theorem dX9_works_97 : decode cX9_works 97 = .ok (.iconst 2, 1) := by decide +kernel
theorem dX9_works_98 : decode cX9_works 98 = .ok (.iadd, 1) := by decide +kernel
theorem dX9_works_99 : decode cX9_works 99 = .ok (.iaload, 1) := by decide +kernel
theorem dX9_works_100 : decode cX9_works 100 = .ok (.iastore, 1) := by decide +kernel
theorem dX9_works_101 : decode cX9_works 101 = .ok (.aload_n 0, 1) := by decide +kernel
theorem dX9_works_102 : decode cX9_works 102 = .ok (.getfield 16, 3) := by decide +kernel
theorem dX9_works_105 : decode cX9_works 105 = .ok (.iload_n 3, 1) := by decide +kernel
theorem dX9_works_106 : decode cX9_works 106 = .ok (.iconst 1, 1) := by decide +kernel
theorem dX9_works_107 : decode cX9_works 107 = .ok (.iadd, 1) := by decide +kernel
theorem dX9_works_108 : decode cX9_works 108 = .ok (.aload_n 0, 1) := by decide +kernel
theorem dX9_works_109 : decode cX9_works 109 = .ok (.getfield 16, 3) := by decide +kernel
theorem dX9_works_112 : decode cX9_works 112 = .ok (.iload_n 2, 1) := by decide +kernel
theorem dX9_works_113 : decode cX9_works 113 = .ok (.iconst 3, 1) := by decide +kernel
theorem dX9_works_114 : decode cX9_works 114 = .ok (.iadd, 1) := by decide +kernel
theorem dX9_works_115 : decode cX9_works 115 = .ok (.iaload, 1) := by decide +kernel
theorem dX9_works_116 : decode cX9_works 116 = .ok (.iload 6, 2) := by decide +kernel
theorem dX9_works_118 : decode cX9_works 118 = .ok (.iload 5, 2) := by decide +kernel
theorem dX9_works_120 : decode cX9_works 120 = .ok (.invokestatic 160, 3) := by decide +kernel
theorem dX9_works_123 : decode cX9_works 123 = .ok (.iastore, 1) := by decide +kernel
theorem dX9_works_124 : decode cX9_works 124 = .ok (.return_, 1) := by decide +kernel
theorem dX9_after_0 : decode cX9_after 0 = .ok (.iload_n 0, 1) := by decide +kernel
theorem dX9_after_1 : decode cX9_after 1 = .ok (.ifCond .ne 5, 3) := by decide +kernel
theorem dX9_after_4 : decode cX9_after 4 = .ok (.iload_n 2, 1) := by decide +kernel
theorem dX9_after_5 : decode cX9_after 5 = .ok (.ireturn, 1) := by decide +kernel
theorem dX9_after_6 : decode cX9_after 6 = .ok (.iload_n 0, 1) := by decide +kernel
theorem dX9_after_7 : decode cX9_after 7 = .ok (.iconst 1, 1) := by decide +kernel
theorem dX9_after_8 : decode cX9_after 8 = .ok (.if_icmp .ne 7, 3) := by decide +kernel
theorem dX9_after_11 : decode cX9_after 11 = .ok (.iload_n 1, 1) := by decide +kernel
theorem dX9_after_12 : decode cX9_after 12 = .ok (.iload_n 2, 1) := by decide +kernel
theorem dX9_after_13 : decode cX9_after 13 = .ok (.iadd, 1) := by decide +kernel
theorem dX9_after_14 : decode cX9_after 14 = .ok (.ireturn, 1) := by decide +kernel
theorem dX9_after_15 : decode cX9_after 15 = .ok (.iload_n 0, 1) := by decide +kernel
theorem dX9_after_16 : decode cX9_after 16 = .ok (.iconst 2, 1) := by decide +kernel
theorem dX9_after_17 : decode cX9_after 17 = .ok (.if_icmp .ne 14, 3) := by decide +kernel
theorem dX9_after_20 : decode cX9_after 20 = .ok (.iload_n 2, 1) := by decide +kernel
theorem dX9_after_21 : decode cX9_after 21 = .ok (.iload_n 1, 1) := by decide +kernel
theorem dX9_after_22 : decode cX9_after 22 = .ok (.if_icmp .le 7, 3) := by decide +kernel
theorem dX9_after_25 : decode cX9_after 25 = .ok (.iload_n 2, 1) := by decide +kernel
theorem dX9_after_26 : decode cX9_after 26 = .ok (.goto 4, 3) := by decide +kernel
theorem dX9_after_29 : decode cX9_after 29 = .ok (.iload_n 1, 1) := by decide +kernel
theorem dX9_after_30 : decode cX9_after 30 = .ok (.ireturn, 1) := by decide +kernel
theorem dX9_after_31 : decode cX9_after 31 = .ok (.iload_n 1, 1) := by decide +kernel
theorem dX9_after_32 : decode cX9_after 32 = .ok (.ifCond .ne 7, 3) := by decide +kernel
theorem dX9_after_35 : decode cX9_after 35 = .ok (.iload_n 2, 1) := by decide +kernel
theorem dX9_after_36 : decode cX9_after 36 = .ok (.goto 4, 3) := by decide +kernel
theorem dX9_after_39 : decode cX9_after 39 = .ok (.iload_n 1, 1) := by decide +kernel
theorem dX9_after_40 : decode cX9_after 40 = .ok (.ireturn, 1) := by decide +kernel
theorem dX9_answers_0 : decode cX9_answers 0 = .ok (.iload_n 0, 1) := by decide +kernel
theorem dX9_answers_1 : decode cX9_answers 1 = .ok (.ifCond .ne 7, 3) := by decide +kernel
theorem dX9_answers_4 : decode cX9_answers 4 = .ok (.iload_n 1, 1) := by decide +kernel
theorem dX9_answers_5 : decode cX9_answers 5 = .ok (.goto 26, 3) := by decide +kernel
theorem dX9_answers_8 : decode cX9_answers 8 = .ok (.iload_n 0, 1) := by decide +kernel
theorem dX9_answers_9 : decode cX9_answers 9 = .ok (.iconst 3, 1) := by decide +kernel
theorem dX9_answers_10 : decode cX9_answers 10 = .ok (.if_icmp .ne 15, 3) := by decide +kernel
theorem dX9_answers_13 : decode cX9_answers 13 = .ok (.iload_n 1, 1) := by decide +kernel
theorem dX9_answers_14 : decode cX9_answers 14 = .ok (.ifCond .ne 7, 3) := by decide +kernel
theorem dX9_answers_17 : decode cX9_answers 17 = .ok (.iconst 1, 1) := by decide +kernel
theorem dX9_answers_18 : decode cX9_answers 18 = .ok (.goto 13, 3) := by decide +kernel
theorem dX9_answers_21 : decode cX9_answers 21 = .ok (.iconst 0, 1) := by decide +kernel
theorem dX9_answers_22 : decode cX9_answers 22 = .ok (.goto 9, 3) := by decide +kernel
theorem dX9_answers_25 : decode cX9_answers 25 = .ok (.iload_n 0, 1) := by decide +kernel
theorem dX9_answers_26 : decode cX9_answers 26 = .ok (.iload_n 1, 1) := by decide +kernel
theorem dX9_answers_27 : decode cX9_answers 27 = .ok (.iload_n 2, 1) := by decide +kernel
theorem dX9_answers_28 : decode cX9_answers 28 = .ok (.invokestatic 156, 3) := by decide +kernel
theorem dX9_answers_31 : decode cX9_answers 31 = .ok (.ireturn, 1) := by decide +kernel
theorem dX9_doneTo_0 : decode cX9_doneTo 0 = .ok (.aload_n 0, 1) := by decide +kernel
theorem dX9_doneTo_1 : decode cX9_doneTo 1 = .ok (.iload_n 1, 1) := by decide +kernel
theorem dX9_doneTo_2 : decode cX9_doneTo 2 = .ok (.bipush 6, 2) := by decide +kernel
theorem dX9_doneTo_4 : decode cX9_doneTo 4 = .ok (.invokevirtual 146, 3) := by decide +kernel
theorem dX9_doneTo_7 : decode cX9_doneTo 7 = .ok (.iconst 1, 1) := by decide +kernel
theorem dX9_doneTo_8 : decode cX9_doneTo 8 = .ok (.iadd, 1) := by decide +kernel
theorem dX9_doneTo_9 : decode cX9_doneTo 9 = .ok (.istore_n 3, 1) := by decide +kernel
theorem dX9_doneTo_10 : decode cX9_doneTo 10 = .ok (.iload_n 3, 1) := by decide +kernel
theorem dX9_doneTo_11 : decode cX9_doneTo 11 = .ok (.iload_n 2, 1) := by decide +kernel
theorem dX9_doneTo_12 : decode cX9_doneTo 12 = .ok (.if_icmp .gt 27, 3) := by decide +kernel
theorem dX9_doneTo_15 : decode cX9_doneTo 15 = .ok (.aload_n 0, 1) := by decide +kernel
theorem dX9_doneTo_16 : decode cX9_doneTo 16 = .ok (.sipush 320, 3) := by decide +kernel
theorem dX9_doneTo_19 : decode cX9_doneTo 19 = .ok (.iload_n 1, 1) := by decide +kernel
theorem dX9_doneTo_20 : decode cX9_doneTo 20 = .ok (.imul, 1) := by decide +kernel
theorem dX9_doneTo_21 : decode cX9_doneTo 21 = .ok (.bipush 30, 2) := by decide +kernel
theorem dX9_doneTo_23 : decode cX9_doneTo 23 = .ok (.iadd, 1) := by decide +kernel
theorem dX9_doneTo_24 : decode cX9_doneTo 24 = .ok (.aload_n 0, 1) := by decide +kernel
theorem dX9_doneTo_25 : decode cX9_doneTo 25 = .ok (.iload_n 1, 1) := by decide +kernel
theorem dX9_doneTo_26 : decode cX9_doneTo 26 = .ok (.iload_n 3, 1) := by decide +kernel
theorem dX9_doneTo_27 : decode cX9_doneTo 27 = .ok (.invokevirtual 153, 3) := by decide +kernel
theorem dX9_doneTo_30 : decode cX9_doneTo 30 = .ok (.invokevirtual 163, 3) := by decide +kernel
theorem dX9_doneTo_33 : decode cX9_doneTo 33 = .ok (.iinc 3 1, 3) := by decide +kernel
theorem dX9_doneTo_36 : decode cX9_doneTo 36 = .ok (.goto (-26), 3) := by decide +kernel
theorem dX9_doneTo_39 : decode cX9_doneTo 39 = .ok (.iload_n 2, 1) := by decide +kernel
theorem dX9_doneTo_40 : decode cX9_doneTo 40 = .ok (.aload_n 0, 1) := by decide +kernel
theorem dX9_doneTo_41 : decode cX9_doneTo 41 = .ok (.iload_n 1, 1) := by decide +kernel
theorem dX9_doneTo_42 : decode cX9_doneTo 42 = .ok (.bipush 6, 2) := by decide +kernel
theorem dX9_doneTo_44 : decode cX9_doneTo 44 = .ok (.invokevirtual 146, 3) := by decide +kernel
theorem dX9_doneTo_47 : decode cX9_doneTo 47 = .ok (.if_icmp .le 11, 3) := by decide +kernel
theorem dX9_doneTo_50 : decode cX9_doneTo 50 = .ok (.aload_n 0, 1) := by decide +kernel
theorem dX9_doneTo_51 : decode cX9_doneTo 51 = .ok (.iload_n 1, 1) := by decide +kernel
theorem dX9_doneTo_52 : decode cX9_doneTo 52 = .ok (.bipush 6, 2) := by decide +kernel
theorem dX9_doneTo_54 : decode cX9_doneTo 54 = .ok (.iload_n 2, 1) := by decide +kernel
theorem dX9_doneTo_55 : decode cX9_doneTo 55 = .ok (.invokevirtual 139, 3) := by decide +kernel
theorem dX9_doneTo_58 : decode cX9_doneTo 58 = .ok (.return_, 1) := by decide +kernel
theorem dX9_isSure_0 : decode cX9_isSure 0 = .ok (.iconst 0, 1) := by decide +kernel
theorem dX9_isSure_1 : decode cX9_isSure 1 = .ok (.istore_n 3, 1) := by decide +kernel
theorem dX9_isSure_2 : decode cX9_isSure 2 = .ok (.iconst 0, 1) := by decide +kernel
theorem dX9_isSure_3 : decode cX9_isSure 3 = .ok (.istore 4, 2) := by decide +kernel
theorem dX9_isSure_5 : decode cX9_isSure 5 = .ok (.iload 4, 2) := by decide +kernel
theorem dX9_isSure_7 : decode cX9_isSure 7 = .ok (.aload_n 0, 1) := by decide +kernel
theorem dX9_isSure_8 : decode cX9_isSure 8 = .ok (.invokevirtual 128, 3) := by decide +kernel
theorem dX9_isSure_11 : decode cX9_isSure 11 = .ok (.if_icmp .ge 46, 3) := by decide +kernel
theorem dX9_isSure_14 : decode cX9_isSure 14 = .ok (.iload_n 3, 1) := by decide +kernel
theorem dX9_isSure_15 : decode cX9_isSure 15 = .ok (.aload_n 0, 1) := by decide +kernel
theorem dX9_isSure_16 : decode cX9_isSure 16 = .ok (.iload 4, 2) := by decide +kernel
theorem dX9_isSure_18 : decode cX9_isSure 18 = .ok (.invokevirtual 166, 3) := by decide +kernel
theorem dX9_isSure_21 : decode cX9_isSure 21 = .ok (.ifCond .eq 27, 3) := by decide +kernel
theorem dX9_isSure_24 : decode cX9_isSure 24 = .ok (.iload 4, 2) := by decide +kernel
theorem dX9_isSure_26 : decode cX9_isSure 26 = .ok (.iload_n 1, 1) := by decide +kernel
theorem dX9_isSure_27 : decode cX9_isSure 27 = .ok (.if_icmp .eq 17, 3) := by decide +kernel
theorem dX9_isSure_30 : decode cX9_isSure 30 = .ok (.aload_n 0, 1) := by decide +kernel
theorem dX9_isSure_31 : decode cX9_isSure 31 = .ok (.iload_n 1, 1) := by decide +kernel
theorem dX9_isSure_32 : decode cX9_isSure 32 = .ok (.bipush 57, 2) := by decide +kernel
theorem dX9_isSure_34 : decode cX9_isSure 34 = .ok (.iload 4, 2) := by decide +kernel
theorem dX9_isSure_36 : decode cX9_isSure 36 = .ok (.iadd, 1) := by decide +kernel
theorem dX9_isSure_37 : decode cX9_isSure 37 = .ok (.invokevirtual 146, 3) := by decide +kernel
theorem dX9_isSure_40 : decode cX9_isSure 40 = .ok (.iload_n 2, 1) := by decide +kernel
theorem dX9_isSure_41 : decode cX9_isSure 41 = .ok (.if_icmp .lt 7, 3) := by decide +kernel
theorem dX9_isSure_44 : decode cX9_isSure 44 = .ok (.iconst 1, 1) := by decide +kernel
theorem dX9_isSure_45 : decode cX9_isSure 45 = .ok (.goto 4, 3) := by decide +kernel
theorem dX9_isSure_48 : decode cX9_isSure 48 = .ok (.iconst 0, 1) := by decide +kernel
theorem dX9_isSure_49 : decode cX9_isSure 49 = .ok (.iadd, 1) := by decide +kernel
theorem dX9_isSure_50 : decode cX9_isSure 50 = .ok (.istore_n 3, 1) := by decide +kernel
theorem dX9_isSure_51 : decode cX9_isSure 51 = .ok (.iinc 4 1, 3) := by decide +kernel
theorem dX9_isSure_54 : decode cX9_isSure 54 = .ok (.goto (-49), 3) := by decide +kernel
theorem dX9_isSure_57 : decode cX9_isSure 57 = .ok (.iload_n 3, 1) := by decide +kernel
theorem dX9_isSure_58 : decode cX9_isSure 58 = .ok (.aload_n 0, 1) := by decide +kernel
theorem dX9_isSure_59 : decode cX9_isSure 59 = .ok (.invokevirtual 169, 3) := by decide +kernel
theorem dX9_isSure_62 : decode cX9_isSure 62 = .ok (.if_icmp .lt 7, 3) := by decide +kernel
theorem dX9_isSure_65 : decode cX9_isSure 65 = .ok (.iconst 1, 1) := by decide +kernel
theorem dX9_isSure_66 : decode cX9_isSure 66 = .ok (.goto 4, 3) := by decide +kernel
theorem dX9_isSure_69 : decode cX9_isSure 69 = .ok (.iconst 0, 1) := by decide +kernel
theorem dX9_isSure_70 : decode cX9_isSure 70 = .ok (.ireturn, 1) := by decide +kernel
theorem dX9_settles_0 : decode cX9_settles 0 = .ok (.aload_n 0, 1) := by decide +kernel
theorem dX9_settles_1 : decode cX9_settles 1 = .ok (.iload_n 1, 1) := by decide +kernel
theorem dX9_settles_2 : decode cX9_settles 2 = .ok (.iconst 5, 1) := by decide +kernel
theorem dX9_settles_3 : decode cX9_settles 3 = .ok (.invokevirtual 146, 3) := by decide +kernel
theorem dX9_settles_6 : decode cX9_settles 6 = .ok (.iconst 2, 1) := by decide +kernel
theorem dX9_settles_7 : decode cX9_settles 7 = .ok (.if_icmp .eq 4, 3) := by decide +kernel
theorem dX9_settles_10 : decode cX9_settles 10 = .ok (.return_, 1) := by decide +kernel
theorem dX9_settles_11 : decode cX9_settles 11 = .ok (.aload_n 0, 1) := by decide +kernel
theorem dX9_settles_12 : decode cX9_settles 12 = .ok (.iload_n 1, 1) := by decide +kernel
theorem dX9_settles_13 : decode cX9_settles 13 = .ok (.iconst 4, 1) := by decide +kernel
theorem dX9_settles_14 : decode cX9_settles 14 = .ok (.invokevirtual 146, 3) := by decide +kernel
theorem dX9_settles_17 : decode cX9_settles 17 = .ok (.istore_n 2, 1) := by decide +kernel
theorem dX9_settles_18 : decode cX9_settles 18 = .ok (.iload_n 2, 1) := by decide +kernel
theorem dX9_settles_19 : decode cX9_settles 19 = .ok (.aload_n 0, 1) := by decide +kernel
theorem dX9_settles_20 : decode cX9_settles 20 = .ok (.iload_n 1, 1) := by decide +kernel
theorem dX9_settles_21 : decode cX9_settles 21 = .ok (.bipush 6, 2) := by decide +kernel
theorem dX9_settles_23 : decode cX9_settles 23 = .ok (.invokevirtual 146, 3) := by decide +kernel
theorem dX9_settles_26 : decode cX9_settles 26 = .ok (.if_icmp .le 43, 3) := by decide +kernel
theorem dX9_settles_29 : decode cX9_settles 29 = .ok (.aload_n 0, 1) := by decide +kernel
theorem dX9_settles_30 : decode cX9_settles 30 = .ok (.iload_n 1, 1) := by decide +kernel
theorem dX9_settles_31 : decode cX9_settles 31 = .ok (.iload_n 2, 1) := by decide +kernel
theorem dX9_settles_32 : decode cX9_settles 32 = .ok (.invokevirtual 172, 3) := by decide +kernel
theorem dX9_settles_35 : decode cX9_settles 35 = .ok (.aload_n 0, 1) := by decide +kernel
theorem dX9_settles_36 : decode cX9_settles 36 = .ok (.iload_n 1, 1) := by decide +kernel
theorem dX9_settles_37 : decode cX9_settles 37 = .ok (.iconst 0, 1) := by decide +kernel
theorem dX9_settles_38 : decode cX9_settles 38 = .ok (.invokevirtual 146, 3) := by decide +kernel
theorem dX9_settles_41 : decode cX9_settles 41 = .ok (.if_icmp .ne 22, 3) := by decide +kernel
theorem dX9_settles_44 : decode cX9_settles 44 = .ok (.aload_n 0, 1) := by decide +kernel
theorem dX9_settles_45 : decode cX9_settles 45 = .ok (.iload_n 1, 1) := by decide +kernel
theorem dX9_settles_46 : decode cX9_settles 46 = .ok (.iload_n 2, 1) := by decide +kernel
theorem dX9_settles_47 : decode cX9_settles 47 = .ok (.invokevirtual 175, 3) := by decide +kernel
theorem dX9_settles_50 : decode cX9_settles 50 = .ok (.ifCond .ne 6, 3) := by decide +kernel
theorem dX9_settles_53 : decode cX9_settles 53 = .ok (.goto 10, 3) := by decide +kernel
theorem dX9_settles_56 : decode cX9_settles 56 = .ok (.aload_n 0, 1) := by decide +kernel
theorem dX9_settles_57 : decode cX9_settles 57 = .ok (.iload_n 1, 1) := by decide +kernel
theorem dX9_settles_58 : decode cX9_settles 58 = .ok (.iload_n 2, 1) := by decide +kernel
theorem dX9_settles_59 : decode cX9_settles 59 = .ok (.invokevirtual 179, 3) := by decide +kernel
theorem dX9_settles_62 : decode cX9_settles 62 = .ok (.return_, 1) := by decide +kernel
theorem dX9_settles_63 : decode cX9_settles 63 = .ok (.iinc 2 (-1), 3) := by decide +kernel
theorem dX9_settles_66 : decode cX9_settles 66 = .ok (.goto (-48), 3) := by decide +kernel
theorem dX9_settles_69 : decode cX9_settles 69 = .ok (.return_, 1) := by decide +kernel
theorem dX9_leads_0 : decode cX9_leads 0 = .ok (.aload_n 0, 1) := by decide +kernel
theorem dX9_leads_1 : decode cX9_leads 1 = .ok (.iload_n 1, 1) := by decide +kernel
theorem dX9_leads_2 : decode cX9_leads 2 = .ok (.bipush 7, 2) := by decide +kernel
theorem dX9_leads_4 : decode cX9_leads 4 = .ok (.invokevirtual 146, 3) := by decide +kernel
theorem dX9_leads_7 : decode cX9_leads 7 = .ok (.invokestatic 122, 3) := by decide +kernel
theorem dX9_leads_10 : decode cX9_leads 10 = .ok (.aload_n 0, 1) := by decide +kernel
theorem dX9_leads_11 : decode cX9_leads 11 = .ok (.invokevirtual 169, 3) := by decide +kernel
theorem dX9_leads_14 : decode cX9_leads 14 = .ok (.if_icmp .ge 4, 3) := by decide +kernel
theorem dX9_leads_17 : decode cX9_leads 17 = .ok (.return_, 1) := by decide +kernel
theorem dX9_leads_18 : decode cX9_leads 18 = .ok (.aload_n 0, 1) := by decide +kernel
theorem dX9_leads_19 : decode cX9_leads 19 = .ok (.iload_n 1, 1) := by decide +kernel
theorem dX9_leads_20 : decode cX9_leads 20 = .ok (.iconst 5, 1) := by decide +kernel
theorem dX9_leads_21 : decode cX9_leads 21 = .ok (.iconst 2, 1) := by decide +kernel
theorem dX9_leads_22 : decode cX9_leads 22 = .ok (.invokevirtual 139, 3) := by decide +kernel
theorem dX9_leads_25 : decode cX9_leads 25 = .ok (.aload_n 0, 1) := by decide +kernel
theorem dX9_leads_26 : decode cX9_leads 26 = .ok (.iload_n 1, 1) := by decide +kernel
theorem dX9_leads_27 : decode cX9_leads 27 = .ok (.bipush 8, 2) := by decide +kernel
theorem dX9_leads_29 : decode cX9_leads 29 = .ok (.iconst 0, 1) := by decide +kernel
theorem dX9_leads_30 : decode cX9_leads 30 = .ok (.invokevirtual 139, 3) := by decide +kernel
theorem dX9_leads_33 : decode cX9_leads 33 = .ok (.iconst 0, 1) := by decide +kernel
theorem dX9_leads_34 : decode cX9_leads 34 = .ok (.istore_n 2, 1) := by decide +kernel
theorem dX9_leads_35 : decode cX9_leads 35 = .ok (.iload_n 2, 1) := by decide +kernel
theorem dX9_leads_36 : decode cX9_leads 36 = .ok (.bipush 7, 2) := by decide +kernel
theorem dX9_leads_38 : decode cX9_leads 38 = .ok (.if_icmp .ge 46, 3) := by decide +kernel
theorem dX9_leads_41 : decode cX9_leads 41 = .ok (.aload_n 0, 1) := by decide +kernel
theorem dX9_leads_42 : decode cX9_leads 42 = .ok (.iload_n 1, 1) := by decide +kernel
theorem dX9_leads_43 : decode cX9_leads 43 = .ok (.bipush 50, 2) := by decide +kernel
theorem dX9_leads_45 : decode cX9_leads 45 = .ok (.iload_n 2, 1) := by decide +kernel
theorem dX9_leads_46 : decode cX9_leads 46 = .ok (.iadd, 1) := by decide +kernel
theorem dX9_leads_47 : decode cX9_leads 47 = .ok (.aload_n 0, 1) := by decide +kernel
theorem dX9_leads_48 : decode cX9_leads 48 = .ok (.iload_n 1, 1) := by decide +kernel
theorem dX9_leads_49 : decode cX9_leads 49 = .ok (.iconst 4, 1) := by decide +kernel
theorem dX9_leads_50 : decode cX9_leads 50 = .ok (.invokevirtual 146, 3) := by decide +kernel
theorem dX9_leads_53 : decode cX9_leads 53 = .ok (.iconst 1, 1) := by decide +kernel
theorem dX9_leads_54 : decode cX9_leads 54 = .ok (.iadd, 1) := by decide +kernel
theorem dX9_leads_55 : decode cX9_leads 55 = .ok (.invokevirtual 139, 3) := by decide +kernel
theorem dX9_leads_58 : decode cX9_leads 58 = .ok (.aload_n 0, 1) := by decide +kernel
theorem dX9_leads_59 : decode cX9_leads 59 = .ok (.iload_n 1, 1) := by decide +kernel
theorem dX9_leads_60 : decode cX9_leads 60 = .ok (.bipush 57, 2) := by decide +kernel
theorem dX9_leads_62 : decode cX9_leads 62 = .ok (.iload_n 2, 1) := by decide +kernel
theorem dX9_leads_63 : decode cX9_leads 63 = .ok (.iadd, 1) := by decide +kernel
theorem dX9_leads_64 : decode cX9_leads 64 = .ok (.iconst 0, 1) := by decide +kernel
theorem dX9_leads_65 : decode cX9_leads 65 = .ok (.invokevirtual 139, 3) := by decide +kernel
theorem dX9_leads_68 : decode cX9_leads 68 = .ok (.aload_n 0, 1) := by decide +kernel
theorem dX9_leads_69 : decode cX9_leads 69 = .ok (.iload_n 1, 1) := by decide +kernel
theorem dX9_leads_70 : decode cX9_leads 70 = .ok (.bipush 64, 2) := by decide +kernel
theorem dX9_leads_72 : decode cX9_leads 72 = .ok (.iload_n 2, 1) := by decide +kernel
theorem dX9_leads_73 : decode cX9_leads 73 = .ok (.iadd, 1) := by decide +kernel
theorem dX9_leads_74 : decode cX9_leads 74 = .ok (.iconst 0, 1) := by decide +kernel
theorem dX9_leads_75 : decode cX9_leads 75 = .ok (.invokevirtual 139, 3) := by decide +kernel
theorem dX9_leads_78 : decode cX9_leads 78 = .ok (.iinc 2 1, 3) := by decide +kernel
theorem dX9_leads_81 : decode cX9_leads 81 = .ok (.goto (-46), 3) := by decide +kernel
theorem dX9_leads_84 : decode cX9_leads 84 = .ok (.aload_n 0, 1) := by decide +kernel
theorem dX9_leads_85 : decode cX9_leads 85 = .ok (.iload_n 1, 1) := by decide +kernel
theorem dX9_leads_86 : decode cX9_leads 86 = .ok (.invokevirtual 182, 3) := by decide +kernel
theorem dX9_leads_89 : decode cX9_leads 89 = .ok (.return_, 1) := by decide +kernel
theorem dX9_slotOf_0 : decode cX9_slotOf 0 = .ok (.aload_n 0, 1) := by decide +kernel
theorem dX9_slotOf_1 : decode cX9_slotOf 1 = .ok (.getfield 16, 3) := by decide +kernel
theorem dX9_slotOf_4 : decode cX9_slotOf 4 = .ok (.sipush 2240, 3) := by decide +kernel
theorem dX9_slotOf_7 : decode cX9_slotOf 7 = .ok (.bipush 64, 2) := by decide +kernel
theorem dX9_slotOf_9 : decode cX9_slotOf 9 = .ok (.iload_n 1, 1) := by decide +kernel
theorem dX9_slotOf_10 : decode cX9_slotOf 10 = .ok (.imul, 1) := by decide +kernel
theorem dX9_slotOf_11 : decode cX9_slotOf 11 = .ok (.iadd, 1) := by decide +kernel
theorem dX9_slotOf_12 : decode cX9_slotOf 12 = .ok (.iload_n 2, 1) := by decide +kernel
theorem dX9_slotOf_13 : decode cX9_slotOf 13 = .ok (.iadd, 1) := by decide +kernel
theorem dX9_slotOf_14 : decode cX9_slotOf 14 = .ok (.iaload, 1) := by decide +kernel
theorem dX9_slotOf_15 : decode cX9_slotOf 15 = .ok (.ireturn, 1) := by decide +kernel
theorem dX9_putSlot_0 : decode cX9_putSlot 0 = .ok (.aload_n 0, 1) := by decide +kernel
theorem dX9_putSlot_1 : decode cX9_putSlot 1 = .ok (.getfield 16, 3) := by decide +kernel
theorem dX9_putSlot_4 : decode cX9_putSlot 4 = .ok (.sipush 2240, 3) := by decide +kernel
theorem dX9_putSlot_7 : decode cX9_putSlot 7 = .ok (.bipush 64, 2) := by decide +kernel
theorem dX9_putSlot_9 : decode cX9_putSlot 9 = .ok (.iload_n 1, 1) := by decide +kernel
theorem dX9_putSlot_10 : decode cX9_putSlot 10 = .ok (.imul, 1) := by decide +kernel
theorem dX9_putSlot_11 : decode cX9_putSlot 11 = .ok (.iadd, 1) := by decide +kernel
theorem dX9_putSlot_12 : decode cX9_putSlot 12 = .ok (.iload_n 2, 1) := by decide +kernel
theorem dX9_putSlot_13 : decode cX9_putSlot 13 = .ok (.iadd, 1) := by decide +kernel
theorem dX9_putSlot_14 : decode cX9_putSlot 14 = .ok (.iload_n 3, 1) := by decide +kernel
theorem dX9_putSlot_15 : decode cX9_putSlot 15 = .ok (.iastore, 1) := by decide +kernel
theorem dX9_putSlot_16 : decode cX9_putSlot 16 = .ok (.return_, 1) := by decide +kernel
theorem dX9_hasLetter_0 : decode cX9_hasLetter 0 = .ok (.iload_n 1, 1) := by decide +kernel
theorem dX9_hasLetter_1 : decode cX9_hasLetter 1 = .ok (.iconst 0, 1) := by decide +kernel
theorem dX9_hasLetter_2 : decode cX9_hasLetter 2 = .ok (.bipush 39, 2) := by decide +kernel
theorem dX9_hasLetter_4 : decode cX9_hasLetter 4 = .ok (.invokestatic 132, 3) := by decide +kernel
theorem dX9_hasLetter_7 : decode cX9_hasLetter 7 = .ok (.ifCond .eq 16, 3) := by decide +kernel
theorem dX9_hasLetter_10 : decode cX9_hasLetter 10 = .ok (.aload_n 0, 1) := by decide +kernel
theorem dX9_hasLetter_11 : decode cX9_hasLetter 11 = .ok (.iload_n 1, 1) := by decide +kernel
theorem dX9_hasLetter_12 : decode cX9_hasLetter 12 = .ok (.iconst 0, 1) := by decide +kernel
theorem dX9_hasLetter_13 : decode cX9_hasLetter 13 = .ok (.invokevirtual 186, 3) := by decide +kernel
theorem dX9_hasLetter_16 : decode cX9_hasLetter 16 = .ok (.ifCond .lt 7, 3) := by decide +kernel
theorem dX9_hasLetter_19 : decode cX9_hasLetter 19 = .ok (.iconst 1, 1) := by decide +kernel
theorem dX9_hasLetter_20 : decode cX9_hasLetter 20 = .ok (.goto 4, 3) := by decide +kernel
theorem dX9_hasLetter_23 : decode cX9_hasLetter 23 = .ok (.iconst 0, 1) := by decide +kernel
theorem dX9_hasLetter_24 : decode cX9_hasLetter 24 = .ok (.ireturn, 1) := by decide +kernel
theorem dX9_empty_0 : decode cX9_empty 0 = .ok (.iconst 0, 1) := by decide +kernel
theorem dX9_empty_1 : decode cX9_empty 1 = .ok (.istore_n 1, 1) := by decide +kernel
theorem dX9_empty_2 : decode cX9_empty 2 = .ok (.iload_n 1, 1) := by decide +kernel
theorem dX9_empty_3 : decode cX9_empty 3 = .ok (.bipush 40, 2) := by decide +kernel
theorem dX9_empty_5 : decode cX9_empty 5 = .ok (.if_icmp .ge 20, 3) := by decide +kernel
theorem dX9_empty_8 : decode cX9_empty 8 = .ok (.aload_n 0, 1) := by decide +kernel
theorem dX9_empty_9 : decode cX9_empty 9 = .ok (.iload_n 1, 1) := by decide +kernel
theorem dX9_empty_10 : decode cX9_empty 10 = .ok (.iconst 0, 1) := by decide +kernel
theorem dX9_empty_11 : decode cX9_empty 11 = .ok (.invokevirtual 186, 3) := by decide +kernel
theorem dX9_empty_14 : decode cX9_empty 14 = .ok (.ifCond .ge 5, 3) := by decide +kernel
theorem dX9_empty_17 : decode cX9_empty 17 = .ok (.iload_n 1, 1) := by decide +kernel
theorem dX9_empty_18 : decode cX9_empty 18 = .ok (.ireturn, 1) := by decide +kernel
theorem dX9_empty_19 : decode cX9_empty 19 = .ok (.iinc 1 1, 3) := by decide +kernel
theorem dX9_empty_22 : decode cX9_empty 22 = .ok (.goto (-20), 3) := by decide +kernel
theorem dX9_empty_25 : decode cX9_empty 25 = .ok (.iconst (-1), 1) := by decide +kernel
theorem dX9_empty_26 : decode cX9_empty 26 = .ok (.ireturn, 1) := by decide +kernel
theorem dX9_letters_0 : decode cX9_letters 0 = .ok (.iconst 0, 1) := by decide +kernel
theorem dX9_letters_1 : decode cX9_letters 1 = .ok (.istore_n 1, 1) := by decide +kernel
theorem dX9_letters_2 : decode cX9_letters 2 = .ok (.iconst 0, 1) := by decide +kernel
theorem dX9_letters_3 : decode cX9_letters 3 = .ok (.istore_n 2, 1) := by decide +kernel
theorem dX9_letters_4 : decode cX9_letters 4 = .ok (.iload_n 2, 1) := by decide +kernel
theorem dX9_letters_5 : decode cX9_letters 5 = .ok (.bipush 40, 2) := by decide +kernel
theorem dX9_letters_7 : decode cX9_letters 7 = .ok (.if_icmp .ge 26, 3) := by decide +kernel
theorem dX9_letters_10 : decode cX9_letters 10 = .ok (.iload_n 1, 1) := by decide +kernel
theorem dX9_letters_11 : decode cX9_letters 11 = .ok (.aload_n 0, 1) := by decide +kernel
theorem dX9_letters_12 : decode cX9_letters 12 = .ok (.iload_n 2, 1) := by decide +kernel
theorem dX9_letters_13 : decode cX9_letters 13 = .ok (.iconst 0, 1) := by decide +kernel
theorem dX9_letters_14 : decode cX9_letters 14 = .ok (.invokevirtual 186, 3) := by decide +kernel
theorem dX9_letters_17 : decode cX9_letters 17 = .ok (.ifCond .lt 7, 3) := by decide +kernel
theorem dX9_letters_20 : decode cX9_letters 20 = .ok (.iconst 1, 1) := by decide +kernel
theorem dX9_letters_21 : decode cX9_letters 21 = .ok (.goto 4, 3) := by decide +kernel
theorem dX9_letters_24 : decode cX9_letters 24 = .ok (.iconst 0, 1) := by decide +kernel
theorem dX9_letters_25 : decode cX9_letters 25 = .ok (.iadd, 1) := by decide +kernel
theorem dX9_letters_26 : decode cX9_letters 26 = .ok (.istore_n 1, 1) := by decide +kernel
theorem dX9_letters_27 : decode cX9_letters 27 = .ok (.iinc 2 1, 3) := by decide +kernel
theorem dX9_letters_30 : decode cX9_letters 30 = .ok (.goto (-26), 3) := by decide +kernel
theorem dX9_letters_33 : decode cX9_letters 33 = .ok (.iload_n 1, 1) := by decide +kernel
theorem dX9_letters_34 : decode cX9_letters 34 = .ok (.ireturn, 1) := by decide +kernel
theorem dX9_sends_0 : decode cX9_sends 0 = .ok (.aload_n 0, 1) := by decide +kernel
theorem dX9_sends_1 : decode cX9_sends 1 = .ok (.invokevirtual 189, 3) := by decide +kernel
theorem dX9_sends_4 : decode cX9_sends 4 = .ok (.istore 6, 2) := by decide +kernel
theorem dX9_sends_6 : decode cX9_sends 6 = .ok (.iconst 0, 1) := by decide +kernel
theorem dX9_sends_7 : decode cX9_sends 7 = .ok (.istore 7, 2) := by decide +kernel
theorem dX9_sends_9 : decode cX9_sends 9 = .ok (.iload 7, 2) := by decide +kernel
theorem dX9_sends_11 : decode cX9_sends 11 = .ok (.bipush 64, 2) := by decide +kernel
theorem dX9_sends_13 : decode cX9_sends 13 = .ok (.if_icmp .ge 18, 3) := by decide +kernel
theorem dX9_sends_16 : decode cX9_sends 16 = .ok (.aload_n 0, 1) := by decide +kernel
